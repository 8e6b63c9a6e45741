/-! the law's rows: the script is the cell 999 -/
def Scp (ad0 : Nat → Nat) (A : Nat → Prop) (s : State) (L : Nat) (xs : Nat → Int32) : Prop := va_X (ad0 999) L xs s s.heap ∧ ad0 999 < s.heap.size ∧ ¬ A (ad0 999)
section WBL
variable {G : gG} {ad0 : Nat → Nat} {n0 : Nat} {A : Nat → Prop} {p : Program} {l : Launch} {e : Env} {R : Room} {s : State} {m : MethodId} {args : Array Value} {below : List Frame} {meth : Method} {c : Code} {Qf : State → Prop} {μ : mD} {cs ss n : Nat} {Rf : MR} {pc : Nat} {ls : List (Option Value)} {st : List Value} {I : MI}
theorem wb_icmp_eq {x y : Int32} {off : Int} {t : Nat} (hd : decode μ.2.1 pc = .ok (.if_icmp .eq off, 3)) (ht : (pc : Int) + off = (t : Int)) (K1 : x = y → WB G ad0 n0 A p l e R s m args below meth c Qf μ cs ss n Rf t ls st I) (K2 : ¬ x = y → WB G ad0 n0 A p l e R s m args below meth c Qf μ cs ss n Rf (pc + 3) ls st I) : WB G ad0 n0 A p l e R s m args below meth c Qf μ cs ss n Rf pc ls (.int y :: .int x :: st) I := by
  intro C N hn hi ad H locs lsA ha hP hD hS hl
  exact lv_icmp_eq C.1 C.2.1 hd ht (fun h => K1 h C N hn hi ad H locs lsA ha hP hD hS hl) (fun h => K2 h C N hn hi ad H locs lsA ha hP hD hS hl)
theorem wb_icmp_gt {x y : Int32} {off : Int} {t : Nat} (hd : decode μ.2.1 pc = .ok (.if_icmp .gt off, 3)) (ht : (pc : Int) + off = (t : Int)) (K1 : y < x → WB G ad0 n0 A p l e R s m args below meth c Qf μ cs ss n Rf t ls st I) (K2 : ¬ y < x → WB G ad0 n0 A p l e R s m args below meth c Qf μ cs ss n Rf (pc + 3) ls st I) : WB G ad0 n0 A p l e R s m args below meth c Qf μ cs ss n Rf pc ls (.int y :: .int x :: st) I := by
  intro C N hn hi ad H locs lsA ha hP hD hS hl
  exact lv_icmp_gt C.1 C.2.1 hd ht (fun h => K1 h C N hn hi ad H locs lsA ha hP hD hS hl) (fun h => K2 h C N hn hi ad H locs lsA ha hP hD hS hl)
theorem wb_if_eq {x : Int32} {off : Int} {t : Nat} (hd : decode μ.2.1 pc = .ok (.ifCond .eq off, 3)) (ht : (pc : Int) + off = (t : Int)) (K1 : x = 0 → WB G ad0 n0 A p l e R s m args below meth c Qf μ cs ss n Rf t ls st I) (K2 : ¬ x = 0 → WB G ad0 n0 A p l e R s m args below meth c Qf μ cs ss n Rf (pc + 3) ls st I) : WB G ad0 n0 A p l e R s m args below meth c Qf μ cs ss n Rf pc ls (.int x :: st) I := by
  intro C N hn hi ad H locs lsA ha hP hD hS hl
  exact lv_if_eq C.1 C.2.1 hd ht (fun h => K1 h C N hn hi ad H locs lsA ha hP hD hS hl) (fun h => K2 h C N hn hi ad H locs lsA ha hP hD hS hl)
theorem wb_tabO {dflt lo hi : Int} {offs : Array Int} {len : Nat} {x : Int32} {t : Nat} (hd : decode μ.2.1 pc = .ok (.tableswitch dflt lo hi offs, len)) (h : x.toInt < lo ∨ hi < x.toInt) (ht : (pc : Int) + dflt = (t : Int)) (K : WB G ad0 n0 A p l e R s m args below meth c Qf μ cs ss n Rf t ls st I) : WB G ad0 n0 A p l e R s m args below meth c Qf μ cs ss n Rf pc ls (.int x :: st) I := by
  intro C N hn hi ad H locs lsA ha hP hD hS hl
  exact lv_tableOut C.1 C.2.1 hd h ht (K C N hn hi ad H locs lsA ha hP hD hS hl)
theorem wb_tabI {dflt lo hi : Int} {offs : Array Int} {len : Nat} {x : Int32} {off : Int} {t : Nat} (hd : decode μ.2.1 pc = .ok (.tableswitch dflt lo hi offs, len)) (h1 : ¬ x.toInt < lo) (h2 : ¬ hi < x.toInt) (ho : offs[(x.toInt - lo).toNat]? = some off) (ht : (pc : Int) + off = (t : Int)) (K : WB G ad0 n0 A p l e R s m args below meth c Qf μ cs ss n Rf t ls st I) : WB G ad0 n0 A p l e R s m args below meth c Qf μ cs ss n Rf pc ls (.int x :: st) I := by
  intro C N hn hi ad H locs lsA ha hP hD hS hl
  exact lv_tableIn C.1 C.2.1 hd h1 h2 ho ht (K C N hn hi ad H locs lsA ha hP hD hS hl)
theorem wb_slen {L : Nat} {xs : Nat → Int32} (sc : Scp ad0 A s L xs) (hd : decode μ.2.1 pc = .ok (.arraylength, 1)) (K : WB G ad0 n0 A p l e R s m args below meth c Qf μ cs ss n Rf (pc + 1) ls (.int (nI L) :: st) I) : WB G ad0 n0 A p l e R s m args below meth c Qf μ cs ss n Rf pc ls (.ref 999 :: st) I := by
  intro C N hn hi ad H locs lsA ha hP hD hS hl
  have e1 : cvt G ad (.ref 999) = .ref (ad0 999) := by
    show Value.ref (ad 999) = _
    rw [ha 999 (Or.inr (by decide))]
  rw [List.map_cons, e1]
  exact va_slen C.1 C.2.1 sc.1 sc.2.1 sc.2.2 hS hd (K C N hn hi ad H locs lsA ha hP hD hS hl)
theorem wb_sld {L : Nat} {xs : Nat → Int32} {i : Int32} {j : Nat} (sc : Scp ad0 A s L xs) (hd : decode μ.2.1 pc = .ok (.iaload, 1)) (hin : vp_in i L) (hj : i.toNatClampNeg = j) (K : WB G ad0 n0 A p l e R s m args below meth c Qf μ cs ss n Rf (pc + 1) ls (.int (xs j) :: st) I) : WB G ad0 n0 A p l e R s m args below meth c Qf μ cs ss n Rf pc ls (.int i :: .ref 999 :: st) I := by
  intro C N hn hi ad H locs lsA ha hP hD hS hl
  subst hj
  have e1 : cvt G ad (.ref 999) = .ref (ad0 999) := by
    show Value.ref (ad 999) = _
    rw [ha 999 (Or.inr (by decide))]
  rw [List.map_cons, List.map_cons, e1]
  exact va_sld C.1 C.2.1 sc.1 sc.2.1 sc.2.2 hS hin hd (K C N hn hi ad H locs lsA ha hP hD hS hl)
/-- a number of the script -/
theorem wb_arg {L : Nat} {xs : Nat → Int32} {i j : Nat} {k : Int} {pc' : Nat} (sc : Scp ad0 A s L xs) (hL : L ≤ 3072) (hd0 : decode μ.2.1 pc = .ok (.aload_n 0, 1)) (hd1 : decode μ.2.1 (pc + 1) = .ok (.iload_n 3, 1)) (hd2 : decode μ.2.1 (pc + 2) = .ok (.iconst k, 1)) (hk : Int32.ofInt k = nI j) (hd3 : decode μ.2.1 (pc + 3) = .ok (.iadd, 1)) (hd4 : decode μ.2.1 (pc + 4) = .ok (.iaload, 1)) (h0 : ls[0]? = some (some (.ref 999))) (h3 : ls[3]? = some (some (.int (nI (6 * i))))) (hj : 6 * i + j < L) (hpc : pc + 5 = pc') (K : WB G ad0 n0 A p l e R s m args below meth c Qf μ cs ss n Rf pc' ls (.int (xs (6 * i + j)) :: st) I) : WB G ad0 n0 A p l e R s m args below meth c Qf μ cs ss n Rf pc ls st I := by
  subst hpc
  refine wb_aload_n hd0 rfl h0 ?_
  refine wb_iload_n hd1 rfl h3 ?_
  refine wb_iconst hd2 hk ?_
  refine wb_iadd hd3 ?_
  rw [nI_add]
  exact wb_sld sc hd4 (ci hj (by omega)) (cl (by omega)) K
end WBL
abbrev mLaw : mD := (x, code, 4, ret, 13, 474)
abbrev lsL (i : Nat) : List (Option Value) := [some (.ref 999), some (.ref 0), some (.ref 261), some (.int (nI (6 * i)))]

theorem clL_7 : Cond.classLink mLaw.1.cls 7 RX11 ∈ tbl := tb_in 72 (by decide +kernel) rfl
theorem mlL_9 : Cond.methodLink mLaw.1.cls 9 yX11_init ∈ tbl := tb_in 74 (by decide +kernel) rfl
theorem mlL_13 : Cond.methodLink mLaw.1.cls 13 yX11_append ∈ tbl := tb_in 514 (by decide +kernel) rfl
theorem mlL_18 : Cond.methodLink mLaw.1.cls 18 yX11_parse ∈ tbl := tb_in 522 (by decide +kernel) rfl
theorem mlL_23 : Cond.methodLink mLaw.1.cls 23 yX11_nodeCount ∈ tbl := tb_in 678 (by decide +kernel) rfl
theorem mlL_28 : Cond.methodLink mLaw.1.cls 28 yX11_streetCount ∈ tbl := tb_in 682 (by decide +kernel) rfl
theorem mlL_32 : Cond.methodLink mLaw.1.cls 32 yX11_houseCount ∈ tbl := tb_in 686 (by decide +kernel) rfl
theorem mlL_36 : Cond.methodLink mLaw.1.cls 36 yX11_capacity ∈ tbl := tb_in 690 (by decide +kernel) rfl
theorem mlL_40 : Cond.methodLink mLaw.1.cls 40 yX11_day ∈ tbl := tb_in 694 (by decide +kernel) rfl
theorem mlL_44 : Cond.methodLink mLaw.1.cls 44 yX11_houseNode ∈ tbl := tb_in 698 (by decide +kernel) rfl
theorem mlL_48 : Cond.methodLink mLaw.1.cls 48 yX11_order ∈ tbl := tb_in 706 (by decide +kernel) rfl
theorem mlL_53 : Cond.methodLink mLaw.1.cls 53 yX11_isOpen ∈ tbl := tb_in 713 (by decide +kernel) rfl
theorem mlL_57 : Cond.methodLink mLaw.1.cls 57 yX11_arrival ∈ tbl := tb_in 721 (by decide +kernel) rfl
theorem mlL_62 : Cond.methodLink mLaw.1.cls 62 yX11_demand ∈ tbl := tb_in 750 (by decide +kernel) rfl
theorem mlL_66 : Cond.methodLink mLaw.1.cls 66 yX11_totalDemand ∈ tbl := tb_in 762 (by decide +kernel) rfl
theorem mlL_70 : Cond.methodLink mLaw.1.cls 70 yX11_stops ∈ tbl := tb_in 771 (by decide +kernel) rfl
theorem mlL_74 : Cond.methodLink mLaw.1.cls 74 yX11_habit ∈ tbl := tb_in 779 (by decide +kernel) rfl
theorem mlL_78 : Cond.methodLink mLaw.1.cls 78 yX11_horseStop ∈ tbl := tb_in 783 (by decide +kernel) rfl
theorem mlL_82 : Cond.methodLink mLaw.1.cls 82 yX11_fastestFinish ∈ tbl := tb_in 807 (by decide +kernel) rfl
theorem mlL_86 : Cond.methodLink mLaw.1.cls 86 yX11_fastestStop ∈ tbl := tb_in 872 (by decide +kernel) rfl
theorem mlL_90 : Cond.methodLink mLaw.1.cls 90 yX11_previewFinish ∈ tbl := tb_in 876 (by decide +kernel) rfl
theorem mlL_94 : Cond.methodLink mLaw.1.cls 94 yX11_bottlesAt ∈ tbl := tb_in 934 (by decide +kernel) rfl
theorem mlL_98 : Cond.methodLink mLaw.1.cls 98 yX11_delivered ∈ tbl := tb_in 938 (by decide +kernel) rfl
theorem mlL_102 : Cond.methodLink mLaw.1.cls 102 yX11_returned ∈ tbl := tb_in 942 (by decide +kernel) rfl
theorem mlL_106 : Cond.methodLink mLaw.1.cls 106 yX11_broken ∈ tbl := tb_in 946 (by decide +kernel) rfl
theorem mlL_110 : Cond.methodLink mLaw.1.cls 110 yX11_bill ∈ tbl := tb_in 950 (by decide +kernel) rfl
theorem mlL_114 : Cond.methodLink mLaw.1.cls 114 yX11_bottlesOut ∈ tbl := tb_in 954 (by decide +kernel) rfl
theorem mlL_118 : Cond.methodLink mLaw.1.cls 118 yX11_finish ∈ tbl := tb_in 958 (by decide +kernel) rfl
theorem mlL_122 : Cond.methodLink mLaw.1.cls 122 yX11_visitCount ∈ tbl := tb_in 962 (by decide +kernel) rfl
theorem mlL_126 : Cond.methodLink mLaw.1.cls 126 yX11_visitHouse ∈ tbl := tb_in 966 (by decide +kernel) rfl
theorem mlL_130 : Cond.methodLink mLaw.1.cls 130 yX11_visitMinute ∈ tbl := tb_in 974 (by decide +kernel) rfl
theorem mlL_134 : Cond.methodLink mLaw.1.cls 134 yX11_visitReturned ∈ tbl := tb_in 978 (by decide +kernel) rfl
theorem mlL_138 : Cond.methodLink mLaw.1.cls 138 yX11_reloads ∈ tbl := tb_in 982 (by decide +kernel) rfl
theorem mlL_142 : Cond.methodLink mLaw.1.cls 142 yX11_carryOut ∈ tbl := tb_in 986 (by decide +kernel) rfl
theorem mlL_146 : Cond.methodLink mLaw.1.cls 146 yX11_setSkipped ∈ tbl := tb_in 1009 (by decide +kernel) rfl
theorem mlL_151 : Cond.methodLink mLaw.1.cls 151 yX11_breakBottles ∈ tbl := tb_in 1014 (by decide +kernel) rfl
theorem mlL_155 : Cond.methodLink mLaw.1.cls 155 yX11_setOrder ∈ tbl := tb_in 1018 (by decide +kernel) rfl
theorem mlL_159 : Cond.methodLink mLaw.1.cls 159 yX11_setKeep ∈ tbl := tb_in 1022 (by decide +kernel) rfl
theorem mlL_163 : Cond.methodLink mLaw.1.cls 163 yX11_setGate ∈ tbl := tb_in 1026 (by decide +kernel) rfl
theorem mlL_168 : Cond.methodLink mLaw.1.cls 168 yX11_undo ∈ tbl := tb_in 1030 (by decide +kernel) rfl
theorem mlL_172 : Cond.methodLink mLaw.1.cls 172 yX11_saveSnapshot ∈ tbl := tb_in 1038 (by decide +kernel) rfl
theorem mlL_177 : Cond.methodLink mLaw.1.cls 177 yX11_restoreSnapshot ∈ tbl := tb_in 1045 (by decide +kernel) rfl
theorem clL_10 : Cond.classLink mLaw.1.cls 10 RX12 ∈ tbl := tb_in 1049 (by decide +kernel) rfl
theorem mlL_12 : Cond.methodLink mLaw.1.cls 12 yX12_init ∈ tbl := tb_in 1051 (by decide +kernel) rfl
theorem mlL_17 : Cond.methodLink mLaw.1.cls 17 yX12_append ∈ tbl := tb_in 1195 (by decide +kernel) rfl
theorem mlL_22 : Cond.methodLink mLaw.1.cls 22 yX12_parse ∈ tbl := tb_in 1203 (by decide +kernel) rfl
theorem mlL_27 : Cond.methodLink mLaw.1.cls 27 yX12_nodeCount ∈ tbl := tb_in 1266 (by decide +kernel) rfl
theorem mlL_31 : Cond.methodLink mLaw.1.cls 31 yX12_streetCount ∈ tbl := tb_in 1270 (by decide +kernel) rfl
theorem mlL_35 : Cond.methodLink mLaw.1.cls 35 yX12_houseCount ∈ tbl := tb_in 1274 (by decide +kernel) rfl
theorem mlL_39 : Cond.methodLink mLaw.1.cls 39 yX12_capacity ∈ tbl := tb_in 1278 (by decide +kernel) rfl
theorem mlL_43 : Cond.methodLink mLaw.1.cls 43 yX12_day ∈ tbl := tb_in 1282 (by decide +kernel) rfl
theorem mlL_47 : Cond.methodLink mLaw.1.cls 47 yX12_houseNode ∈ tbl := tb_in 1286 (by decide +kernel) rfl
theorem mlL_52 : Cond.methodLink mLaw.1.cls 52 yX12_order ∈ tbl := tb_in 1294 (by decide +kernel) rfl
theorem mlL_56 : Cond.methodLink mLaw.1.cls 56 yX12_isOpen ∈ tbl := tb_in 1299 (by decide +kernel) rfl
theorem mlL_61 : Cond.methodLink mLaw.1.cls 61 yX12_arrival ∈ tbl := tb_in 1307 (by decide +kernel) rfl
theorem mlL_65 : Cond.methodLink mLaw.1.cls 65 yX12_demand ∈ tbl := tb_in 1330 (by decide +kernel) rfl
theorem mlL_69 : Cond.methodLink mLaw.1.cls 69 yX12_totalDemand ∈ tbl := tb_in 1338 (by decide +kernel) rfl
theorem mlL_73 : Cond.methodLink mLaw.1.cls 73 yX12_stops ∈ tbl := tb_in 1346 (by decide +kernel) rfl
theorem mlL_77 : Cond.methodLink mLaw.1.cls 77 yX12_habit ∈ tbl := tb_in 1354 (by decide +kernel) rfl
theorem mlL_81 : Cond.methodLink mLaw.1.cls 81 yX12_horseStop ∈ tbl := tb_in 1362 (by decide +kernel) rfl
theorem mlL_85 : Cond.methodLink mLaw.1.cls 85 yX12_fastestFinish ∈ tbl := tb_in 1374 (by decide +kernel) rfl
theorem mlL_89 : Cond.methodLink mLaw.1.cls 89 yX12_fastestStop ∈ tbl := tb_in 1394 (by decide +kernel) rfl
theorem mlL_93 : Cond.methodLink mLaw.1.cls 93 yX12_previewFinish ∈ tbl := tb_in 1398 (by decide +kernel) rfl
theorem mlL_145 : Cond.methodLink mLaw.1.cls 145 yX12_carryOut ∈ tbl := tb_in 1436 (by decide +kernel) rfl
theorem mlL_97 : Cond.methodLink mLaw.1.cls 97 yX12_bottlesAt ∈ tbl := tb_in 1448 (by decide +kernel) rfl
theorem mlL_101 : Cond.methodLink mLaw.1.cls 101 yX12_delivered ∈ tbl := tb_in 1452 (by decide +kernel) rfl
theorem mlL_105 : Cond.methodLink mLaw.1.cls 105 yX12_returned ∈ tbl := tb_in 1456 (by decide +kernel) rfl
theorem mlL_109 : Cond.methodLink mLaw.1.cls 109 yX12_broken ∈ tbl := tb_in 1460 (by decide +kernel) rfl
theorem mlL_113 : Cond.methodLink mLaw.1.cls 113 yX12_bill ∈ tbl := tb_in 1464 (by decide +kernel) rfl
theorem mlL_117 : Cond.methodLink mLaw.1.cls 117 yX12_bottlesOut ∈ tbl := tb_in 1468 (by decide +kernel) rfl
theorem mlL_121 : Cond.methodLink mLaw.1.cls 121 yX12_finish ∈ tbl := tb_in 1472 (by decide +kernel) rfl
theorem mlL_125 : Cond.methodLink mLaw.1.cls 125 yX12_visitCount ∈ tbl := tb_in 1476 (by decide +kernel) rfl
theorem mlL_129 : Cond.methodLink mLaw.1.cls 129 yX12_visitHouse ∈ tbl := tb_in 1480 (by decide +kernel) rfl
theorem mlL_133 : Cond.methodLink mLaw.1.cls 133 yX12_visitMinute ∈ tbl := tb_in 1488 (by decide +kernel) rfl
theorem mlL_137 : Cond.methodLink mLaw.1.cls 137 yX12_visitReturned ∈ tbl := tb_in 1492 (by decide +kernel) rfl
theorem mlL_141 : Cond.methodLink mLaw.1.cls 141 yX12_reloads ∈ tbl := tb_in 1496 (by decide +kernel) rfl
theorem mlL_150 : Cond.methodLink mLaw.1.cls 150 yX12_setSkipped ∈ tbl := tb_in 1500 (by decide +kernel) rfl
theorem mlL_154 : Cond.methodLink mLaw.1.cls 154 yX12_breakBottles ∈ tbl := tb_in 1504 (by decide +kernel) rfl
theorem mlL_158 : Cond.methodLink mLaw.1.cls 158 yX12_setOrder ∈ tbl := tb_in 1508 (by decide +kernel) rfl
theorem mlL_162 : Cond.methodLink mLaw.1.cls 162 yX12_setKeep ∈ tbl := tb_in 1517 (by decide +kernel) rfl
theorem mlL_167 : Cond.methodLink mLaw.1.cls 167 yX12_setGate ∈ tbl := tb_in 1521 (by decide +kernel) rfl
theorem mlL_171 : Cond.methodLink mLaw.1.cls 171 yX12_undo ∈ tbl := tb_in 1527 (by decide +kernel) rfl
theorem mlL_176 : Cond.methodLink mLaw.1.cls 176 yX12_saveSnapshot ∈ tbl := tb_in 1531 (by decide +kernel) rfl
theorem mlL_180 : Cond.methodLink mLaw.1.cls 180 yX12_restoreSnapshot ∈ tbl := tb_in 1535 (by decide +kernel) rfl
theorem dL_0 : decode code 0 = .ok (.new 7, 3) := by decide +kernel
theorem dL_3 : decode code 3 = .ok (.dup, 1) := by decide +kernel
theorem dL_4 : decode code 4 = .ok (.invokespecial 9, 3) := by decide +kernel
theorem dL_7 : decode code 7 = .ok (.astore_n 1, 1) := by decide +kernel
theorem dL_8 : decode code 8 = .ok (.new 10, 3) := by decide +kernel
theorem dL_11 : decode code 11 = .ok (.dup, 1) := by decide +kernel
theorem dL_12 : decode code 12 = .ok (.invokespecial 12, 3) := by decide +kernel
theorem dL_15 : decode code 15 = .ok (.astore_n 2, 1) := by decide +kernel
theorem dL_16 : decode code 16 = .ok (.iconst 0, 1) := by decide +kernel
theorem dL_17 : decode code 17 = .ok (.istore_n 3, 1) := by decide +kernel
theorem dL_18 : decode code 18 = .ok (.iload_n 3, 1) := by decide +kernel
theorem dL_19 : decode code 19 = .ok (.aload_n 0, 1) := by decide +kernel
theorem dL_20 : decode code 20 = .ok (.arraylength, 1) := by decide +kernel
theorem dL_21 : decode code 21 = .ok (.bipush 6, 2) := by decide +kernel
theorem dL_23 : decode code 23 = .ok (.isub, 1) := by decide +kernel
theorem dL_24 : decode code 24 = .ok (.if_icmp .gt 1156, 3) := by decide +kernel
theorem dL_27 : decode code 27 = .ok (.aload_n 0, 1) := by decide +kernel
theorem dL_28 : decode code 28 = .ok (.iload_n 3, 1) := by decide +kernel
theorem dL_29 : decode code 29 = .ok (.iaload, 1) := by decide +kernel
theorem dL_30 : decode code 30 = .ok (.bipush 63, 2) := by decide +kernel
theorem dL_32 : decode code 32 = .ok (.iand, 1) := by decide +kernel
theorem dL_33 : decode code 33 = .ok (.tableswitch 1141 0 39 #[175, 238, 261, 274, 287, 300, 313, 326, 349, 382, 415, 458, 481, 494, 507, 540, 563, 576, 599, 622, 645, 668, 691, 714, 737, 750, 763, 776, 799, 822, 845, 858, 881, 930, 963, 1006, 1039, 1082, 1095, 1118], 175) := by decide +kernel
theorem dL_208 : decode code 208 = .ok (.aload_n 1, 1) := by decide +kernel
theorem dL_209 : decode code 209 = .ok (.aload_n 0, 1) := by decide +kernel
theorem dL_210 : decode code 210 = .ok (.iload_n 3, 1) := by decide +kernel
theorem dL_211 : decode code 211 = .ok (.iconst 1, 1) := by decide +kernel
theorem dL_212 : decode code 212 = .ok (.iadd, 1) := by decide +kernel
theorem dL_213 : decode code 213 = .ok (.iaload, 1) := by decide +kernel
theorem dL_214 : decode code 214 = .ok (.aload_n 0, 1) := by decide +kernel
theorem dL_215 : decode code 215 = .ok (.iload_n 3, 1) := by decide +kernel
theorem dL_216 : decode code 216 = .ok (.iconst 2, 1) := by decide +kernel
theorem dL_217 : decode code 217 = .ok (.iadd, 1) := by decide +kernel
theorem dL_218 : decode code 218 = .ok (.iaload, 1) := by decide +kernel
theorem dL_219 : decode code 219 = .ok (.aload_n 0, 1) := by decide +kernel
theorem dL_220 : decode code 220 = .ok (.iload_n 3, 1) := by decide +kernel
theorem dL_221 : decode code 221 = .ok (.iconst 3, 1) := by decide +kernel
theorem dL_222 : decode code 222 = .ok (.iadd, 1) := by decide +kernel
theorem dL_223 : decode code 223 = .ok (.iaload, 1) := by decide +kernel
theorem dL_224 : decode code 224 = .ok (.aload_n 0, 1) := by decide +kernel
theorem dL_225 : decode code 225 = .ok (.iload_n 3, 1) := by decide +kernel
theorem dL_226 : decode code 226 = .ok (.iconst 4, 1) := by decide +kernel
theorem dL_227 : decode code 227 = .ok (.iadd, 1) := by decide +kernel
theorem dL_228 : decode code 228 = .ok (.iaload, 1) := by decide +kernel
theorem dL_229 : decode code 229 = .ok (.aload_n 0, 1) := by decide +kernel
theorem dL_230 : decode code 230 = .ok (.iload_n 3, 1) := by decide +kernel
theorem dL_231 : decode code 231 = .ok (.iconst 5, 1) := by decide +kernel
theorem dL_232 : decode code 232 = .ok (.iadd, 1) := by decide +kernel
theorem dL_233 : decode code 233 = .ok (.iaload, 1) := by decide +kernel
theorem dL_234 : decode code 234 = .ok (.invokevirtual 13, 3) := by decide +kernel
theorem dL_237 : decode code 237 = .ok (.aload_n 2, 1) := by decide +kernel
theorem dL_238 : decode code 238 = .ok (.aload_n 0, 1) := by decide +kernel
theorem dL_239 : decode code 239 = .ok (.iload_n 3, 1) := by decide +kernel
theorem dL_240 : decode code 240 = .ok (.iconst 1, 1) := by decide +kernel
theorem dL_241 : decode code 241 = .ok (.iadd, 1) := by decide +kernel
theorem dL_242 : decode code 242 = .ok (.iaload, 1) := by decide +kernel
theorem dL_243 : decode code 243 = .ok (.aload_n 0, 1) := by decide +kernel
theorem dL_244 : decode code 244 = .ok (.iload_n 3, 1) := by decide +kernel
theorem dL_245 : decode code 245 = .ok (.iconst 2, 1) := by decide +kernel
theorem dL_246 : decode code 246 = .ok (.iadd, 1) := by decide +kernel
theorem dL_247 : decode code 247 = .ok (.iaload, 1) := by decide +kernel
theorem dL_248 : decode code 248 = .ok (.aload_n 0, 1) := by decide +kernel
theorem dL_249 : decode code 249 = .ok (.iload_n 3, 1) := by decide +kernel
theorem dL_250 : decode code 250 = .ok (.iconst 3, 1) := by decide +kernel
theorem dL_251 : decode code 251 = .ok (.iadd, 1) := by decide +kernel
theorem dL_252 : decode code 252 = .ok (.iaload, 1) := by decide +kernel
theorem dL_253 : decode code 253 = .ok (.aload_n 0, 1) := by decide +kernel
theorem dL_254 : decode code 254 = .ok (.iload_n 3, 1) := by decide +kernel
theorem dL_255 : decode code 255 = .ok (.iconst 4, 1) := by decide +kernel
theorem dL_256 : decode code 256 = .ok (.iadd, 1) := by decide +kernel
theorem dL_257 : decode code 257 = .ok (.iaload, 1) := by decide +kernel
theorem dL_258 : decode code 258 = .ok (.aload_n 0, 1) := by decide +kernel
theorem dL_259 : decode code 259 = .ok (.iload_n 3, 1) := by decide +kernel
theorem dL_260 : decode code 260 = .ok (.iconst 5, 1) := by decide +kernel
theorem dL_261 : decode code 261 = .ok (.iadd, 1) := by decide +kernel
theorem dL_262 : decode code 262 = .ok (.iaload, 1) := by decide +kernel
theorem dL_263 : decode code 263 = .ok (.invokevirtual 17, 3) := by decide +kernel
theorem dL_266 : decode code 266 = .ok (.if_icmp .eq 908, 3) := by decide +kernel
theorem dL_269 : decode code 269 = .ok (.iconst 0, 1) := by decide +kernel
theorem dL_270 : decode code 270 = .ok (.ireturn, 1) := by decide +kernel
theorem dL_271 : decode code 271 = .ok (.aload_n 1, 1) := by decide +kernel
theorem dL_272 : decode code 272 = .ok (.aload_n 0, 1) := by decide +kernel
theorem dL_273 : decode code 273 = .ok (.iload_n 3, 1) := by decide +kernel
theorem dL_274 : decode code 274 = .ok (.iconst 1, 1) := by decide +kernel
theorem dL_275 : decode code 275 = .ok (.iadd, 1) := by decide +kernel
theorem dL_276 : decode code 276 = .ok (.iaload, 1) := by decide +kernel
theorem dL_277 : decode code 277 = .ok (.invokevirtual 18, 3) := by decide +kernel
theorem dL_280 : decode code 280 = .ok (.aload_n 2, 1) := by decide +kernel
theorem dL_281 : decode code 281 = .ok (.aload_n 0, 1) := by decide +kernel
theorem dL_282 : decode code 282 = .ok (.iload_n 3, 1) := by decide +kernel
theorem dL_283 : decode code 283 = .ok (.iconst 1, 1) := by decide +kernel
theorem dL_284 : decode code 284 = .ok (.iadd, 1) := by decide +kernel
theorem dL_285 : decode code 285 = .ok (.iaload, 1) := by decide +kernel
theorem dL_286 : decode code 286 = .ok (.invokevirtual 22, 3) := by decide +kernel
theorem dL_289 : decode code 289 = .ok (.if_icmp .eq 885, 3) := by decide +kernel
theorem dL_292 : decode code 292 = .ok (.iconst 0, 1) := by decide +kernel
theorem dL_293 : decode code 293 = .ok (.ireturn, 1) := by decide +kernel
theorem dL_294 : decode code 294 = .ok (.aload_n 1, 1) := by decide +kernel
theorem dL_295 : decode code 295 = .ok (.invokevirtual 23, 3) := by decide +kernel
theorem dL_298 : decode code 298 = .ok (.aload_n 2, 1) := by decide +kernel
theorem dL_299 : decode code 299 = .ok (.invokevirtual 27, 3) := by decide +kernel
theorem dL_302 : decode code 302 = .ok (.if_icmp .eq 872, 3) := by decide +kernel
theorem dL_305 : decode code 305 = .ok (.iconst 0, 1) := by decide +kernel
theorem dL_306 : decode code 306 = .ok (.ireturn, 1) := by decide +kernel
theorem dL_307 : decode code 307 = .ok (.aload_n 1, 1) := by decide +kernel
theorem dL_308 : decode code 308 = .ok (.invokevirtual 28, 3) := by decide +kernel
theorem dL_311 : decode code 311 = .ok (.aload_n 2, 1) := by decide +kernel
theorem dL_312 : decode code 312 = .ok (.invokevirtual 31, 3) := by decide +kernel
theorem dL_315 : decode code 315 = .ok (.if_icmp .eq 859, 3) := by decide +kernel
theorem dL_318 : decode code 318 = .ok (.iconst 0, 1) := by decide +kernel
theorem dL_319 : decode code 319 = .ok (.ireturn, 1) := by decide +kernel
theorem dL_320 : decode code 320 = .ok (.aload_n 1, 1) := by decide +kernel
theorem dL_321 : decode code 321 = .ok (.invokevirtual 32, 3) := by decide +kernel
theorem dL_324 : decode code 324 = .ok (.aload_n 2, 1) := by decide +kernel
theorem dL_325 : decode code 325 = .ok (.invokevirtual 35, 3) := by decide +kernel
theorem dL_328 : decode code 328 = .ok (.if_icmp .eq 846, 3) := by decide +kernel
theorem dL_331 : decode code 331 = .ok (.iconst 0, 1) := by decide +kernel
theorem dL_332 : decode code 332 = .ok (.ireturn, 1) := by decide +kernel
theorem dL_333 : decode code 333 = .ok (.aload_n 1, 1) := by decide +kernel
theorem dL_334 : decode code 334 = .ok (.invokevirtual 36, 3) := by decide +kernel
theorem dL_337 : decode code 337 = .ok (.aload_n 2, 1) := by decide +kernel
theorem dL_338 : decode code 338 = .ok (.invokevirtual 39, 3) := by decide +kernel
theorem dL_341 : decode code 341 = .ok (.if_icmp .eq 833, 3) := by decide +kernel
theorem dL_344 : decode code 344 = .ok (.iconst 0, 1) := by decide +kernel
theorem dL_345 : decode code 345 = .ok (.ireturn, 1) := by decide +kernel
theorem dL_346 : decode code 346 = .ok (.aload_n 1, 1) := by decide +kernel
theorem dL_347 : decode code 347 = .ok (.invokevirtual 40, 3) := by decide +kernel
theorem dL_350 : decode code 350 = .ok (.aload_n 2, 1) := by decide +kernel
theorem dL_351 : decode code 351 = .ok (.invokevirtual 43, 3) := by decide +kernel
theorem dL_354 : decode code 354 = .ok (.if_icmp .eq 820, 3) := by decide +kernel
theorem dL_357 : decode code 357 = .ok (.iconst 0, 1) := by decide +kernel
theorem dL_358 : decode code 358 = .ok (.ireturn, 1) := by decide +kernel
theorem dL_359 : decode code 359 = .ok (.aload_n 1, 1) := by decide +kernel
theorem dL_360 : decode code 360 = .ok (.aload_n 0, 1) := by decide +kernel
theorem dL_361 : decode code 361 = .ok (.iload_n 3, 1) := by decide +kernel
theorem dL_362 : decode code 362 = .ok (.iconst 1, 1) := by decide +kernel
theorem dL_363 : decode code 363 = .ok (.iadd, 1) := by decide +kernel
theorem dL_364 : decode code 364 = .ok (.iaload, 1) := by decide +kernel
theorem dL_365 : decode code 365 = .ok (.invokevirtual 44, 3) := by decide +kernel
theorem dL_368 : decode code 368 = .ok (.aload_n 2, 1) := by decide +kernel
theorem dL_369 : decode code 369 = .ok (.aload_n 0, 1) := by decide +kernel
theorem dL_370 : decode code 370 = .ok (.iload_n 3, 1) := by decide +kernel
theorem dL_371 : decode code 371 = .ok (.iconst 1, 1) := by decide +kernel
theorem dL_372 : decode code 372 = .ok (.iadd, 1) := by decide +kernel
theorem dL_373 : decode code 373 = .ok (.iaload, 1) := by decide +kernel
theorem dL_374 : decode code 374 = .ok (.invokevirtual 47, 3) := by decide +kernel
theorem dL_377 : decode code 377 = .ok (.if_icmp .eq 797, 3) := by decide +kernel
theorem dL_380 : decode code 380 = .ok (.iconst 0, 1) := by decide +kernel
theorem dL_381 : decode code 381 = .ok (.ireturn, 1) := by decide +kernel
theorem dL_382 : decode code 382 = .ok (.aload_n 1, 1) := by decide +kernel
theorem dL_383 : decode code 383 = .ok (.aload_n 0, 1) := by decide +kernel
theorem dL_384 : decode code 384 = .ok (.iload_n 3, 1) := by decide +kernel
theorem dL_385 : decode code 385 = .ok (.iconst 1, 1) := by decide +kernel
theorem dL_386 : decode code 386 = .ok (.iadd, 1) := by decide +kernel
theorem dL_387 : decode code 387 = .ok (.iaload, 1) := by decide +kernel
theorem dL_388 : decode code 388 = .ok (.aload_n 0, 1) := by decide +kernel
theorem dL_389 : decode code 389 = .ok (.iload_n 3, 1) := by decide +kernel
theorem dL_390 : decode code 390 = .ok (.iconst 2, 1) := by decide +kernel
theorem dL_391 : decode code 391 = .ok (.iadd, 1) := by decide +kernel
theorem dL_392 : decode code 392 = .ok (.iaload, 1) := by decide +kernel
theorem dL_393 : decode code 393 = .ok (.invokevirtual 48, 3) := by decide +kernel
theorem dL_396 : decode code 396 = .ok (.aload_n 2, 1) := by decide +kernel
theorem dL_397 : decode code 397 = .ok (.aload_n 0, 1) := by decide +kernel
theorem dL_398 : decode code 398 = .ok (.iload_n 3, 1) := by decide +kernel
theorem dL_399 : decode code 399 = .ok (.iconst 1, 1) := by decide +kernel
theorem dL_400 : decode code 400 = .ok (.iadd, 1) := by decide +kernel
theorem dL_401 : decode code 401 = .ok (.iaload, 1) := by decide +kernel
theorem dL_402 : decode code 402 = .ok (.aload_n 0, 1) := by decide +kernel
theorem dL_403 : decode code 403 = .ok (.iload_n 3, 1) := by decide +kernel
theorem dL_404 : decode code 404 = .ok (.iconst 2, 1) := by decide +kernel
theorem dL_405 : decode code 405 = .ok (.iadd, 1) := by decide +kernel
theorem dL_406 : decode code 406 = .ok (.iaload, 1) := by decide +kernel
theorem dL_407 : decode code 407 = .ok (.invokevirtual 52, 3) := by decide +kernel
theorem dL_410 : decode code 410 = .ok (.if_icmp .eq 764, 3) := by decide +kernel
theorem dL_413 : decode code 413 = .ok (.iconst 0, 1) := by decide +kernel
theorem dL_414 : decode code 414 = .ok (.ireturn, 1) := by decide +kernel
theorem dL_415 : decode code 415 = .ok (.aload_n 1, 1) := by decide +kernel
theorem dL_416 : decode code 416 = .ok (.aload_n 0, 1) := by decide +kernel
theorem dL_417 : decode code 417 = .ok (.iload_n 3, 1) := by decide +kernel
theorem dL_418 : decode code 418 = .ok (.iconst 1, 1) := by decide +kernel
theorem dL_419 : decode code 419 = .ok (.iadd, 1) := by decide +kernel
theorem dL_420 : decode code 420 = .ok (.iaload, 1) := by decide +kernel
theorem dL_421 : decode code 421 = .ok (.aload_n 0, 1) := by decide +kernel
theorem dL_422 : decode code 422 = .ok (.iload_n 3, 1) := by decide +kernel
theorem dL_423 : decode code 423 = .ok (.iconst 2, 1) := by decide +kernel
theorem dL_424 : decode code 424 = .ok (.iadd, 1) := by decide +kernel
theorem dL_425 : decode code 425 = .ok (.iaload, 1) := by decide +kernel
theorem dL_426 : decode code 426 = .ok (.invokevirtual 53, 3) := by decide +kernel
theorem dL_429 : decode code 429 = .ok (.aload_n 2, 1) := by decide +kernel
theorem dL_430 : decode code 430 = .ok (.aload_n 0, 1) := by decide +kernel
theorem dL_431 : decode code 431 = .ok (.iload_n 3, 1) := by decide +kernel
theorem dL_432 : decode code 432 = .ok (.iconst 1, 1) := by decide +kernel
theorem dL_433 : decode code 433 = .ok (.iadd, 1) := by decide +kernel
theorem dL_434 : decode code 434 = .ok (.iaload, 1) := by decide +kernel
theorem dL_435 : decode code 435 = .ok (.aload_n 0, 1) := by decide +kernel
theorem dL_436 : decode code 436 = .ok (.iload_n 3, 1) := by decide +kernel
theorem dL_437 : decode code 437 = .ok (.iconst 2, 1) := by decide +kernel
theorem dL_438 : decode code 438 = .ok (.iadd, 1) := by decide +kernel
theorem dL_439 : decode code 439 = .ok (.iaload, 1) := by decide +kernel
theorem dL_440 : decode code 440 = .ok (.invokevirtual 56, 3) := by decide +kernel
theorem dL_443 : decode code 443 = .ok (.if_icmp .eq 731, 3) := by decide +kernel
theorem dL_446 : decode code 446 = .ok (.iconst 0, 1) := by decide +kernel
theorem dL_447 : decode code 447 = .ok (.ireturn, 1) := by decide +kernel
theorem dL_448 : decode code 448 = .ok (.aload_n 1, 1) := by decide +kernel
theorem dL_449 : decode code 449 = .ok (.aload_n 0, 1) := by decide +kernel
theorem dL_450 : decode code 450 = .ok (.iload_n 3, 1) := by decide +kernel
theorem dL_451 : decode code 451 = .ok (.iconst 1, 1) := by decide +kernel
theorem dL_452 : decode code 452 = .ok (.iadd, 1) := by decide +kernel
theorem dL_453 : decode code 453 = .ok (.iaload, 1) := by decide +kernel
theorem dL_454 : decode code 454 = .ok (.aload_n 0, 1) := by decide +kernel
theorem dL_455 : decode code 455 = .ok (.iload_n 3, 1) := by decide +kernel
theorem dL_456 : decode code 456 = .ok (.iconst 2, 1) := by decide +kernel
theorem dL_457 : decode code 457 = .ok (.iadd, 1) := by decide +kernel
theorem dL_458 : decode code 458 = .ok (.iaload, 1) := by decide +kernel
theorem dL_459 : decode code 459 = .ok (.aload_n 0, 1) := by decide +kernel
theorem dL_460 : decode code 460 = .ok (.iload_n 3, 1) := by decide +kernel
theorem dL_461 : decode code 461 = .ok (.iconst 3, 1) := by decide +kernel
theorem dL_462 : decode code 462 = .ok (.iadd, 1) := by decide +kernel
theorem dL_463 : decode code 463 = .ok (.iaload, 1) := by decide +kernel
theorem dL_464 : decode code 464 = .ok (.invokevirtual 57, 3) := by decide +kernel
theorem dL_467 : decode code 467 = .ok (.aload_n 2, 1) := by decide +kernel
theorem dL_468 : decode code 468 = .ok (.aload_n 0, 1) := by decide +kernel
theorem dL_469 : decode code 469 = .ok (.iload_n 3, 1) := by decide +kernel
theorem dL_470 : decode code 470 = .ok (.iconst 1, 1) := by decide +kernel
theorem dL_471 : decode code 471 = .ok (.iadd, 1) := by decide +kernel
theorem dL_472 : decode code 472 = .ok (.iaload, 1) := by decide +kernel
theorem dL_473 : decode code 473 = .ok (.aload_n 0, 1) := by decide +kernel
theorem dL_474 : decode code 474 = .ok (.iload_n 3, 1) := by decide +kernel
theorem dL_475 : decode code 475 = .ok (.iconst 2, 1) := by decide +kernel
theorem dL_476 : decode code 476 = .ok (.iadd, 1) := by decide +kernel
theorem dL_477 : decode code 477 = .ok (.iaload, 1) := by decide +kernel
theorem dL_478 : decode code 478 = .ok (.aload_n 0, 1) := by decide +kernel
theorem dL_479 : decode code 479 = .ok (.iload_n 3, 1) := by decide +kernel
theorem dL_480 : decode code 480 = .ok (.iconst 3, 1) := by decide +kernel
theorem dL_481 : decode code 481 = .ok (.iadd, 1) := by decide +kernel
theorem dL_482 : decode code 482 = .ok (.iaload, 1) := by decide +kernel
theorem dL_483 : decode code 483 = .ok (.invokevirtual 61, 3) := by decide +kernel
theorem dL_486 : decode code 486 = .ok (.if_icmp .eq 688, 3) := by decide +kernel
theorem dL_489 : decode code 489 = .ok (.iconst 0, 1) := by decide +kernel
theorem dL_490 : decode code 490 = .ok (.ireturn, 1) := by decide +kernel
theorem dL_491 : decode code 491 = .ok (.aload_n 1, 1) := by decide +kernel
theorem dL_492 : decode code 492 = .ok (.aload_n 0, 1) := by decide +kernel
theorem dL_493 : decode code 493 = .ok (.iload_n 3, 1) := by decide +kernel
theorem dL_494 : decode code 494 = .ok (.iconst 1, 1) := by decide +kernel
theorem dL_495 : decode code 495 = .ok (.iadd, 1) := by decide +kernel
theorem dL_496 : decode code 496 = .ok (.iaload, 1) := by decide +kernel
theorem dL_497 : decode code 497 = .ok (.invokevirtual 62, 3) := by decide +kernel
theorem dL_500 : decode code 500 = .ok (.aload_n 2, 1) := by decide +kernel
theorem dL_501 : decode code 501 = .ok (.aload_n 0, 1) := by decide +kernel
theorem dL_502 : decode code 502 = .ok (.iload_n 3, 1) := by decide +kernel
theorem dL_503 : decode code 503 = .ok (.iconst 1, 1) := by decide +kernel
theorem dL_504 : decode code 504 = .ok (.iadd, 1) := by decide +kernel
theorem dL_505 : decode code 505 = .ok (.iaload, 1) := by decide +kernel
theorem dL_506 : decode code 506 = .ok (.invokevirtual 65, 3) := by decide +kernel
theorem dL_509 : decode code 509 = .ok (.if_icmp .eq 665, 3) := by decide +kernel
theorem dL_512 : decode code 512 = .ok (.iconst 0, 1) := by decide +kernel
theorem dL_513 : decode code 513 = .ok (.ireturn, 1) := by decide +kernel
theorem dL_514 : decode code 514 = .ok (.aload_n 1, 1) := by decide +kernel
theorem dL_515 : decode code 515 = .ok (.invokevirtual 66, 3) := by decide +kernel
theorem dL_518 : decode code 518 = .ok (.aload_n 2, 1) := by decide +kernel
theorem dL_519 : decode code 519 = .ok (.invokevirtual 69, 3) := by decide +kernel
theorem dL_522 : decode code 522 = .ok (.if_icmp .eq 652, 3) := by decide +kernel
theorem dL_525 : decode code 525 = .ok (.iconst 0, 1) := by decide +kernel
theorem dL_526 : decode code 526 = .ok (.ireturn, 1) := by decide +kernel
theorem dL_527 : decode code 527 = .ok (.aload_n 1, 1) := by decide +kernel
theorem dL_528 : decode code 528 = .ok (.invokevirtual 70, 3) := by decide +kernel
theorem dL_531 : decode code 531 = .ok (.aload_n 2, 1) := by decide +kernel
theorem dL_532 : decode code 532 = .ok (.invokevirtual 73, 3) := by decide +kernel
theorem dL_535 : decode code 535 = .ok (.if_icmp .eq 639, 3) := by decide +kernel
theorem dL_538 : decode code 538 = .ok (.iconst 0, 1) := by decide +kernel
theorem dL_539 : decode code 539 = .ok (.ireturn, 1) := by decide +kernel
theorem dL_540 : decode code 540 = .ok (.aload_n 1, 1) := by decide +kernel
theorem dL_541 : decode code 541 = .ok (.aload_n 0, 1) := by decide +kernel
theorem dL_542 : decode code 542 = .ok (.iload_n 3, 1) := by decide +kernel
theorem dL_543 : decode code 543 = .ok (.iconst 1, 1) := by decide +kernel
theorem dL_544 : decode code 544 = .ok (.iadd, 1) := by decide +kernel
theorem dL_545 : decode code 545 = .ok (.iaload, 1) := by decide +kernel
theorem dL_546 : decode code 546 = .ok (.aload_n 0, 1) := by decide +kernel
theorem dL_547 : decode code 547 = .ok (.iload_n 3, 1) := by decide +kernel
theorem dL_548 : decode code 548 = .ok (.iconst 2, 1) := by decide +kernel
theorem dL_549 : decode code 549 = .ok (.iadd, 1) := by decide +kernel
theorem dL_550 : decode code 550 = .ok (.iaload, 1) := by decide +kernel
theorem dL_551 : decode code 551 = .ok (.invokevirtual 74, 3) := by decide +kernel
theorem dL_554 : decode code 554 = .ok (.aload_n 2, 1) := by decide +kernel
theorem dL_555 : decode code 555 = .ok (.aload_n 0, 1) := by decide +kernel
theorem dL_556 : decode code 556 = .ok (.iload_n 3, 1) := by decide +kernel
theorem dL_557 : decode code 557 = .ok (.iconst 1, 1) := by decide +kernel
theorem dL_558 : decode code 558 = .ok (.iadd, 1) := by decide +kernel
theorem dL_559 : decode code 559 = .ok (.iaload, 1) := by decide +kernel
theorem dL_560 : decode code 560 = .ok (.aload_n 0, 1) := by decide +kernel
theorem dL_561 : decode code 561 = .ok (.iload_n 3, 1) := by decide +kernel
theorem dL_562 : decode code 562 = .ok (.iconst 2, 1) := by decide +kernel
theorem dL_563 : decode code 563 = .ok (.iadd, 1) := by decide +kernel
theorem dL_564 : decode code 564 = .ok (.iaload, 1) := by decide +kernel
theorem dL_565 : decode code 565 = .ok (.invokevirtual 77, 3) := by decide +kernel
theorem dL_568 : decode code 568 = .ok (.if_icmp .eq 606, 3) := by decide +kernel
theorem dL_571 : decode code 571 = .ok (.iconst 0, 1) := by decide +kernel
theorem dL_572 : decode code 572 = .ok (.ireturn, 1) := by decide +kernel
theorem dL_573 : decode code 573 = .ok (.aload_n 1, 1) := by decide +kernel
theorem dL_574 : decode code 574 = .ok (.aload_n 0, 1) := by decide +kernel
theorem dL_575 : decode code 575 = .ok (.iload_n 3, 1) := by decide +kernel
theorem dL_576 : decode code 576 = .ok (.iconst 1, 1) := by decide +kernel
theorem dL_577 : decode code 577 = .ok (.iadd, 1) := by decide +kernel
theorem dL_578 : decode code 578 = .ok (.iaload, 1) := by decide +kernel
theorem dL_579 : decode code 579 = .ok (.invokevirtual 78, 3) := by decide +kernel
theorem dL_582 : decode code 582 = .ok (.aload_n 2, 1) := by decide +kernel
theorem dL_583 : decode code 583 = .ok (.aload_n 0, 1) := by decide +kernel
theorem dL_584 : decode code 584 = .ok (.iload_n 3, 1) := by decide +kernel
theorem dL_585 : decode code 585 = .ok (.iconst 1, 1) := by decide +kernel
theorem dL_586 : decode code 586 = .ok (.iadd, 1) := by decide +kernel
theorem dL_587 : decode code 587 = .ok (.iaload, 1) := by decide +kernel
theorem dL_588 : decode code 588 = .ok (.invokevirtual 81, 3) := by decide +kernel
theorem dL_591 : decode code 591 = .ok (.if_icmp .eq 583, 3) := by decide +kernel
theorem dL_594 : decode code 594 = .ok (.iconst 0, 1) := by decide +kernel
theorem dL_595 : decode code 595 = .ok (.ireturn, 1) := by decide +kernel
theorem dL_596 : decode code 596 = .ok (.aload_n 1, 1) := by decide +kernel
theorem dL_597 : decode code 597 = .ok (.invokevirtual 82, 3) := by decide +kernel
theorem dL_600 : decode code 600 = .ok (.aload_n 2, 1) := by decide +kernel
theorem dL_601 : decode code 601 = .ok (.invokevirtual 85, 3) := by decide +kernel
theorem dL_604 : decode code 604 = .ok (.if_icmp .eq 570, 3) := by decide +kernel
theorem dL_607 : decode code 607 = .ok (.iconst 0, 1) := by decide +kernel
theorem dL_608 : decode code 608 = .ok (.ireturn, 1) := by decide +kernel
theorem dL_609 : decode code 609 = .ok (.aload_n 1, 1) := by decide +kernel
theorem dL_610 : decode code 610 = .ok (.aload_n 0, 1) := by decide +kernel
theorem dL_611 : decode code 611 = .ok (.iload_n 3, 1) := by decide +kernel
theorem dL_612 : decode code 612 = .ok (.iconst 1, 1) := by decide +kernel
theorem dL_613 : decode code 613 = .ok (.iadd, 1) := by decide +kernel
theorem dL_614 : decode code 614 = .ok (.iaload, 1) := by decide +kernel
theorem dL_615 : decode code 615 = .ok (.invokevirtual 86, 3) := by decide +kernel
theorem dL_618 : decode code 618 = .ok (.aload_n 2, 1) := by decide +kernel
theorem dL_619 : decode code 619 = .ok (.aload_n 0, 1) := by decide +kernel
theorem dL_620 : decode code 620 = .ok (.iload_n 3, 1) := by decide +kernel
theorem dL_621 : decode code 621 = .ok (.iconst 1, 1) := by decide +kernel
theorem dL_622 : decode code 622 = .ok (.iadd, 1) := by decide +kernel
theorem dL_623 : decode code 623 = .ok (.iaload, 1) := by decide +kernel
theorem dL_624 : decode code 624 = .ok (.invokevirtual 89, 3) := by decide +kernel
theorem dL_627 : decode code 627 = .ok (.if_icmp .eq 547, 3) := by decide +kernel
theorem dL_630 : decode code 630 = .ok (.iconst 0, 1) := by decide +kernel
theorem dL_631 : decode code 631 = .ok (.ireturn, 1) := by decide +kernel
theorem dL_632 : decode code 632 = .ok (.aload_n 1, 1) := by decide +kernel
theorem dL_633 : decode code 633 = .ok (.aload_n 0, 1) := by decide +kernel
theorem dL_634 : decode code 634 = .ok (.iload_n 3, 1) := by decide +kernel
theorem dL_635 : decode code 635 = .ok (.iconst 1, 1) := by decide +kernel
theorem dL_636 : decode code 636 = .ok (.iadd, 1) := by decide +kernel
theorem dL_637 : decode code 637 = .ok (.iaload, 1) := by decide +kernel
theorem dL_638 : decode code 638 = .ok (.invokevirtual 90, 3) := by decide +kernel
theorem dL_641 : decode code 641 = .ok (.aload_n 2, 1) := by decide +kernel
theorem dL_642 : decode code 642 = .ok (.aload_n 0, 1) := by decide +kernel
theorem dL_643 : decode code 643 = .ok (.iload_n 3, 1) := by decide +kernel
theorem dL_644 : decode code 644 = .ok (.iconst 1, 1) := by decide +kernel
theorem dL_645 : decode code 645 = .ok (.iadd, 1) := by decide +kernel
theorem dL_646 : decode code 646 = .ok (.iaload, 1) := by decide +kernel
theorem dL_647 : decode code 647 = .ok (.invokevirtual 93, 3) := by decide +kernel
theorem dL_650 : decode code 650 = .ok (.if_icmp .eq 524, 3) := by decide +kernel
theorem dL_653 : decode code 653 = .ok (.iconst 0, 1) := by decide +kernel
theorem dL_654 : decode code 654 = .ok (.ireturn, 1) := by decide +kernel
theorem dL_655 : decode code 655 = .ok (.aload_n 1, 1) := by decide +kernel
theorem dL_656 : decode code 656 = .ok (.aload_n 0, 1) := by decide +kernel
theorem dL_657 : decode code 657 = .ok (.iload_n 3, 1) := by decide +kernel
theorem dL_658 : decode code 658 = .ok (.iconst 1, 1) := by decide +kernel
theorem dL_659 : decode code 659 = .ok (.iadd, 1) := by decide +kernel
theorem dL_660 : decode code 660 = .ok (.iaload, 1) := by decide +kernel
theorem dL_661 : decode code 661 = .ok (.invokevirtual 94, 3) := by decide +kernel
theorem dL_664 : decode code 664 = .ok (.aload_n 2, 1) := by decide +kernel
theorem dL_665 : decode code 665 = .ok (.aload_n 0, 1) := by decide +kernel
theorem dL_666 : decode code 666 = .ok (.iload_n 3, 1) := by decide +kernel
theorem dL_667 : decode code 667 = .ok (.iconst 1, 1) := by decide +kernel
theorem dL_668 : decode code 668 = .ok (.iadd, 1) := by decide +kernel
theorem dL_669 : decode code 669 = .ok (.iaload, 1) := by decide +kernel
theorem dL_670 : decode code 670 = .ok (.invokevirtual 97, 3) := by decide +kernel
theorem dL_673 : decode code 673 = .ok (.if_icmp .eq 501, 3) := by decide +kernel
theorem dL_676 : decode code 676 = .ok (.iconst 0, 1) := by decide +kernel
theorem dL_677 : decode code 677 = .ok (.ireturn, 1) := by decide +kernel
theorem dL_678 : decode code 678 = .ok (.aload_n 1, 1) := by decide +kernel
theorem dL_679 : decode code 679 = .ok (.aload_n 0, 1) := by decide +kernel
theorem dL_680 : decode code 680 = .ok (.iload_n 3, 1) := by decide +kernel
theorem dL_681 : decode code 681 = .ok (.iconst 1, 1) := by decide +kernel
theorem dL_682 : decode code 682 = .ok (.iadd, 1) := by decide +kernel
theorem dL_683 : decode code 683 = .ok (.iaload, 1) := by decide +kernel
theorem dL_684 : decode code 684 = .ok (.invokevirtual 98, 3) := by decide +kernel
theorem dL_687 : decode code 687 = .ok (.aload_n 2, 1) := by decide +kernel
theorem dL_688 : decode code 688 = .ok (.aload_n 0, 1) := by decide +kernel
theorem dL_689 : decode code 689 = .ok (.iload_n 3, 1) := by decide +kernel
theorem dL_690 : decode code 690 = .ok (.iconst 1, 1) := by decide +kernel
theorem dL_691 : decode code 691 = .ok (.iadd, 1) := by decide +kernel
theorem dL_692 : decode code 692 = .ok (.iaload, 1) := by decide +kernel
theorem dL_693 : decode code 693 = .ok (.invokevirtual 101, 3) := by decide +kernel
theorem dL_696 : decode code 696 = .ok (.if_icmp .eq 478, 3) := by decide +kernel
theorem dL_699 : decode code 699 = .ok (.iconst 0, 1) := by decide +kernel
theorem dL_700 : decode code 700 = .ok (.ireturn, 1) := by decide +kernel
theorem dL_701 : decode code 701 = .ok (.aload_n 1, 1) := by decide +kernel
theorem dL_702 : decode code 702 = .ok (.aload_n 0, 1) := by decide +kernel
theorem dL_703 : decode code 703 = .ok (.iload_n 3, 1) := by decide +kernel
theorem dL_704 : decode code 704 = .ok (.iconst 1, 1) := by decide +kernel
theorem dL_705 : decode code 705 = .ok (.iadd, 1) := by decide +kernel
theorem dL_706 : decode code 706 = .ok (.iaload, 1) := by decide +kernel
theorem dL_707 : decode code 707 = .ok (.invokevirtual 102, 3) := by decide +kernel
theorem dL_710 : decode code 710 = .ok (.aload_n 2, 1) := by decide +kernel
theorem dL_711 : decode code 711 = .ok (.aload_n 0, 1) := by decide +kernel
theorem dL_712 : decode code 712 = .ok (.iload_n 3, 1) := by decide +kernel
theorem dL_713 : decode code 713 = .ok (.iconst 1, 1) := by decide +kernel
theorem dL_714 : decode code 714 = .ok (.iadd, 1) := by decide +kernel
theorem dL_715 : decode code 715 = .ok (.iaload, 1) := by decide +kernel
theorem dL_716 : decode code 716 = .ok (.invokevirtual 105, 3) := by decide +kernel
theorem dL_719 : decode code 719 = .ok (.if_icmp .eq 455, 3) := by decide +kernel
theorem dL_722 : decode code 722 = .ok (.iconst 0, 1) := by decide +kernel
theorem dL_723 : decode code 723 = .ok (.ireturn, 1) := by decide +kernel
theorem dL_724 : decode code 724 = .ok (.aload_n 1, 1) := by decide +kernel
theorem dL_725 : decode code 725 = .ok (.aload_n 0, 1) := by decide +kernel
theorem dL_726 : decode code 726 = .ok (.iload_n 3, 1) := by decide +kernel
theorem dL_727 : decode code 727 = .ok (.iconst 1, 1) := by decide +kernel
theorem dL_728 : decode code 728 = .ok (.iadd, 1) := by decide +kernel
theorem dL_729 : decode code 729 = .ok (.iaload, 1) := by decide +kernel
theorem dL_730 : decode code 730 = .ok (.invokevirtual 106, 3) := by decide +kernel
theorem dL_733 : decode code 733 = .ok (.aload_n 2, 1) := by decide +kernel
theorem dL_734 : decode code 734 = .ok (.aload_n 0, 1) := by decide +kernel
theorem dL_735 : decode code 735 = .ok (.iload_n 3, 1) := by decide +kernel
theorem dL_736 : decode code 736 = .ok (.iconst 1, 1) := by decide +kernel
theorem dL_737 : decode code 737 = .ok (.iadd, 1) := by decide +kernel
theorem dL_738 : decode code 738 = .ok (.iaload, 1) := by decide +kernel
theorem dL_739 : decode code 739 = .ok (.invokevirtual 109, 3) := by decide +kernel
theorem dL_742 : decode code 742 = .ok (.if_icmp .eq 432, 3) := by decide +kernel
theorem dL_745 : decode code 745 = .ok (.iconst 0, 1) := by decide +kernel
theorem dL_746 : decode code 746 = .ok (.ireturn, 1) := by decide +kernel
theorem dL_747 : decode code 747 = .ok (.aload_n 1, 1) := by decide +kernel
theorem dL_748 : decode code 748 = .ok (.aload_n 0, 1) := by decide +kernel
theorem dL_749 : decode code 749 = .ok (.iload_n 3, 1) := by decide +kernel
theorem dL_750 : decode code 750 = .ok (.iconst 1, 1) := by decide +kernel
theorem dL_751 : decode code 751 = .ok (.iadd, 1) := by decide +kernel
theorem dL_752 : decode code 752 = .ok (.iaload, 1) := by decide +kernel
theorem dL_753 : decode code 753 = .ok (.invokevirtual 110, 3) := by decide +kernel
theorem dL_756 : decode code 756 = .ok (.aload_n 2, 1) := by decide +kernel
theorem dL_757 : decode code 757 = .ok (.aload_n 0, 1) := by decide +kernel
theorem dL_758 : decode code 758 = .ok (.iload_n 3, 1) := by decide +kernel
theorem dL_759 : decode code 759 = .ok (.iconst 1, 1) := by decide +kernel
theorem dL_760 : decode code 760 = .ok (.iadd, 1) := by decide +kernel
theorem dL_761 : decode code 761 = .ok (.iaload, 1) := by decide +kernel
theorem dL_762 : decode code 762 = .ok (.invokevirtual 113, 3) := by decide +kernel
theorem dL_765 : decode code 765 = .ok (.if_icmp .eq 409, 3) := by decide +kernel
theorem dL_768 : decode code 768 = .ok (.iconst 0, 1) := by decide +kernel
theorem dL_769 : decode code 769 = .ok (.ireturn, 1) := by decide +kernel
theorem dL_770 : decode code 770 = .ok (.aload_n 1, 1) := by decide +kernel
theorem dL_771 : decode code 771 = .ok (.invokevirtual 114, 3) := by decide +kernel
theorem dL_774 : decode code 774 = .ok (.aload_n 2, 1) := by decide +kernel
theorem dL_775 : decode code 775 = .ok (.invokevirtual 117, 3) := by decide +kernel
theorem dL_778 : decode code 778 = .ok (.if_icmp .eq 396, 3) := by decide +kernel
theorem dL_781 : decode code 781 = .ok (.iconst 0, 1) := by decide +kernel
theorem dL_782 : decode code 782 = .ok (.ireturn, 1) := by decide +kernel
theorem dL_783 : decode code 783 = .ok (.aload_n 1, 1) := by decide +kernel
theorem dL_784 : decode code 784 = .ok (.invokevirtual 118, 3) := by decide +kernel
theorem dL_787 : decode code 787 = .ok (.aload_n 2, 1) := by decide +kernel
theorem dL_788 : decode code 788 = .ok (.invokevirtual 121, 3) := by decide +kernel
theorem dL_791 : decode code 791 = .ok (.if_icmp .eq 383, 3) := by decide +kernel
theorem dL_794 : decode code 794 = .ok (.iconst 0, 1) := by decide +kernel
theorem dL_795 : decode code 795 = .ok (.ireturn, 1) := by decide +kernel
theorem dL_796 : decode code 796 = .ok (.aload_n 1, 1) := by decide +kernel
theorem dL_797 : decode code 797 = .ok (.invokevirtual 122, 3) := by decide +kernel
theorem dL_800 : decode code 800 = .ok (.aload_n 2, 1) := by decide +kernel
theorem dL_801 : decode code 801 = .ok (.invokevirtual 125, 3) := by decide +kernel
theorem dL_804 : decode code 804 = .ok (.if_icmp .eq 370, 3) := by decide +kernel
theorem dL_807 : decode code 807 = .ok (.iconst 0, 1) := by decide +kernel
theorem dL_808 : decode code 808 = .ok (.ireturn, 1) := by decide +kernel
theorem dL_809 : decode code 809 = .ok (.aload_n 1, 1) := by decide +kernel
theorem dL_810 : decode code 810 = .ok (.aload_n 0, 1) := by decide +kernel
theorem dL_811 : decode code 811 = .ok (.iload_n 3, 1) := by decide +kernel
theorem dL_812 : decode code 812 = .ok (.iconst 1, 1) := by decide +kernel
theorem dL_813 : decode code 813 = .ok (.iadd, 1) := by decide +kernel
theorem dL_814 : decode code 814 = .ok (.iaload, 1) := by decide +kernel
theorem dL_815 : decode code 815 = .ok (.invokevirtual 126, 3) := by decide +kernel
theorem dL_818 : decode code 818 = .ok (.aload_n 2, 1) := by decide +kernel
theorem dL_819 : decode code 819 = .ok (.aload_n 0, 1) := by decide +kernel
theorem dL_820 : decode code 820 = .ok (.iload_n 3, 1) := by decide +kernel
theorem dL_821 : decode code 821 = .ok (.iconst 1, 1) := by decide +kernel
theorem dL_822 : decode code 822 = .ok (.iadd, 1) := by decide +kernel
theorem dL_823 : decode code 823 = .ok (.iaload, 1) := by decide +kernel
theorem dL_824 : decode code 824 = .ok (.invokevirtual 129, 3) := by decide +kernel
theorem dL_827 : decode code 827 = .ok (.if_icmp .eq 347, 3) := by decide +kernel
theorem dL_830 : decode code 830 = .ok (.iconst 0, 1) := by decide +kernel
theorem dL_831 : decode code 831 = .ok (.ireturn, 1) := by decide +kernel
theorem dL_832 : decode code 832 = .ok (.aload_n 1, 1) := by decide +kernel
theorem dL_833 : decode code 833 = .ok (.aload_n 0, 1) := by decide +kernel
theorem dL_834 : decode code 834 = .ok (.iload_n 3, 1) := by decide +kernel
theorem dL_835 : decode code 835 = .ok (.iconst 1, 1) := by decide +kernel
theorem dL_836 : decode code 836 = .ok (.iadd, 1) := by decide +kernel
theorem dL_837 : decode code 837 = .ok (.iaload, 1) := by decide +kernel
theorem dL_838 : decode code 838 = .ok (.invokevirtual 130, 3) := by decide +kernel
theorem dL_841 : decode code 841 = .ok (.aload_n 2, 1) := by decide +kernel
theorem dL_842 : decode code 842 = .ok (.aload_n 0, 1) := by decide +kernel
theorem dL_843 : decode code 843 = .ok (.iload_n 3, 1) := by decide +kernel
theorem dL_844 : decode code 844 = .ok (.iconst 1, 1) := by decide +kernel
theorem dL_845 : decode code 845 = .ok (.iadd, 1) := by decide +kernel
theorem dL_846 : decode code 846 = .ok (.iaload, 1) := by decide +kernel
theorem dL_847 : decode code 847 = .ok (.invokevirtual 133, 3) := by decide +kernel
theorem dL_850 : decode code 850 = .ok (.if_icmp .eq 324, 3) := by decide +kernel
theorem dL_853 : decode code 853 = .ok (.iconst 0, 1) := by decide +kernel
theorem dL_854 : decode code 854 = .ok (.ireturn, 1) := by decide +kernel
theorem dL_855 : decode code 855 = .ok (.aload_n 1, 1) := by decide +kernel
theorem dL_856 : decode code 856 = .ok (.aload_n 0, 1) := by decide +kernel
theorem dL_857 : decode code 857 = .ok (.iload_n 3, 1) := by decide +kernel
theorem dL_858 : decode code 858 = .ok (.iconst 1, 1) := by decide +kernel
theorem dL_859 : decode code 859 = .ok (.iadd, 1) := by decide +kernel
theorem dL_860 : decode code 860 = .ok (.iaload, 1) := by decide +kernel
theorem dL_861 : decode code 861 = .ok (.invokevirtual 134, 3) := by decide +kernel
theorem dL_864 : decode code 864 = .ok (.aload_n 2, 1) := by decide +kernel
theorem dL_865 : decode code 865 = .ok (.aload_n 0, 1) := by decide +kernel
theorem dL_866 : decode code 866 = .ok (.iload_n 3, 1) := by decide +kernel
theorem dL_867 : decode code 867 = .ok (.iconst 1, 1) := by decide +kernel
theorem dL_868 : decode code 868 = .ok (.iadd, 1) := by decide +kernel
theorem dL_869 : decode code 869 = .ok (.iaload, 1) := by decide +kernel
theorem dL_870 : decode code 870 = .ok (.invokevirtual 137, 3) := by decide +kernel
theorem dL_873 : decode code 873 = .ok (.if_icmp .eq 301, 3) := by decide +kernel
theorem dL_876 : decode code 876 = .ok (.iconst 0, 1) := by decide +kernel
theorem dL_877 : decode code 877 = .ok (.ireturn, 1) := by decide +kernel
theorem dL_878 : decode code 878 = .ok (.aload_n 1, 1) := by decide +kernel
theorem dL_879 : decode code 879 = .ok (.invokevirtual 138, 3) := by decide +kernel
theorem dL_882 : decode code 882 = .ok (.aload_n 2, 1) := by decide +kernel
theorem dL_883 : decode code 883 = .ok (.invokevirtual 141, 3) := by decide +kernel
theorem dL_886 : decode code 886 = .ok (.if_icmp .eq 288, 3) := by decide +kernel
theorem dL_889 : decode code 889 = .ok (.iconst 0, 1) := by decide +kernel
theorem dL_890 : decode code 890 = .ok (.ireturn, 1) := by decide +kernel
theorem dL_891 : decode code 891 = .ok (.aload_n 1, 1) := by decide +kernel
theorem dL_892 : decode code 892 = .ok (.aload_n 0, 1) := by decide +kernel
theorem dL_893 : decode code 893 = .ok (.iload_n 3, 1) := by decide +kernel
theorem dL_894 : decode code 894 = .ok (.iconst 1, 1) := by decide +kernel
theorem dL_895 : decode code 895 = .ok (.iadd, 1) := by decide +kernel
theorem dL_896 : decode code 896 = .ok (.iaload, 1) := by decide +kernel
theorem dL_897 : decode code 897 = .ok (.invokevirtual 142, 3) := by decide +kernel
theorem dL_900 : decode code 900 = .ok (.aload_n 2, 1) := by decide +kernel
theorem dL_901 : decode code 901 = .ok (.aload_n 0, 1) := by decide +kernel
theorem dL_902 : decode code 902 = .ok (.iload_n 3, 1) := by decide +kernel
theorem dL_903 : decode code 903 = .ok (.iconst 1, 1) := by decide +kernel
theorem dL_904 : decode code 904 = .ok (.iadd, 1) := by decide +kernel
theorem dL_905 : decode code 905 = .ok (.iaload, 1) := by decide +kernel
theorem dL_906 : decode code 906 = .ok (.invokevirtual 145, 3) := by decide +kernel
theorem dL_909 : decode code 909 = .ok (.if_icmp .eq 265, 3) := by decide +kernel
theorem dL_912 : decode code 912 = .ok (.iconst 0, 1) := by decide +kernel
theorem dL_913 : decode code 913 = .ok (.ireturn, 1) := by decide +kernel
theorem dL_914 : decode code 914 = .ok (.aload_n 1, 1) := by decide +kernel
theorem dL_915 : decode code 915 = .ok (.aload_n 0, 1) := by decide +kernel
theorem dL_916 : decode code 916 = .ok (.iload_n 3, 1) := by decide +kernel
theorem dL_917 : decode code 917 = .ok (.iconst 1, 1) := by decide +kernel
theorem dL_918 : decode code 918 = .ok (.iadd, 1) := by decide +kernel
theorem dL_919 : decode code 919 = .ok (.iaload, 1) := by decide +kernel
theorem dL_920 : decode code 920 = .ok (.aload_n 0, 1) := by decide +kernel
theorem dL_921 : decode code 921 = .ok (.iload_n 3, 1) := by decide +kernel
theorem dL_922 : decode code 922 = .ok (.iconst 2, 1) := by decide +kernel
theorem dL_923 : decode code 923 = .ok (.iadd, 1) := by decide +kernel
theorem dL_924 : decode code 924 = .ok (.iaload, 1) := by decide +kernel
theorem dL_925 : decode code 925 = .ok (.ifCond .eq 7, 3) := by decide +kernel
theorem dL_928 : decode code 928 = .ok (.iconst 1, 1) := by decide +kernel
theorem dL_929 : decode code 929 = .ok (.goto 4, 3) := by decide +kernel
theorem dL_932 : decode code 932 = .ok (.iconst 0, 1) := by decide +kernel
theorem dL_933 : decode code 933 = .ok (.invokevirtual 146, 3) := by decide +kernel
theorem dL_936 : decode code 936 = .ok (.aload_n 2, 1) := by decide +kernel
theorem dL_937 : decode code 937 = .ok (.aload_n 0, 1) := by decide +kernel
theorem dL_938 : decode code 938 = .ok (.iload_n 3, 1) := by decide +kernel
theorem dL_939 : decode code 939 = .ok (.iconst 1, 1) := by decide +kernel
theorem dL_940 : decode code 940 = .ok (.iadd, 1) := by decide +kernel
theorem dL_941 : decode code 941 = .ok (.iaload, 1) := by decide +kernel
theorem dL_942 : decode code 942 = .ok (.aload_n 0, 1) := by decide +kernel
theorem dL_943 : decode code 943 = .ok (.iload_n 3, 1) := by decide +kernel
theorem dL_944 : decode code 944 = .ok (.iconst 2, 1) := by decide +kernel
theorem dL_945 : decode code 945 = .ok (.iadd, 1) := by decide +kernel
theorem dL_946 : decode code 946 = .ok (.iaload, 1) := by decide +kernel
theorem dL_947 : decode code 947 = .ok (.ifCond .eq 7, 3) := by decide +kernel
theorem dL_950 : decode code 950 = .ok (.iconst 1, 1) := by decide +kernel
theorem dL_951 : decode code 951 = .ok (.goto 4, 3) := by decide +kernel
theorem dL_954 : decode code 954 = .ok (.iconst 0, 1) := by decide +kernel
theorem dL_955 : decode code 955 = .ok (.invokevirtual 150, 3) := by decide +kernel
theorem dL_958 : decode code 958 = .ok (.if_icmp .eq 216, 3) := by decide +kernel
theorem dL_961 : decode code 961 = .ok (.iconst 0, 1) := by decide +kernel
theorem dL_962 : decode code 962 = .ok (.ireturn, 1) := by decide +kernel
theorem dL_963 : decode code 963 = .ok (.aload_n 1, 1) := by decide +kernel
theorem dL_964 : decode code 964 = .ok (.aload_n 0, 1) := by decide +kernel
theorem dL_965 : decode code 965 = .ok (.iload_n 3, 1) := by decide +kernel
theorem dL_966 : decode code 966 = .ok (.iconst 1, 1) := by decide +kernel
theorem dL_967 : decode code 967 = .ok (.iadd, 1) := by decide +kernel
theorem dL_968 : decode code 968 = .ok (.iaload, 1) := by decide +kernel
theorem dL_969 : decode code 969 = .ok (.aload_n 0, 1) := by decide +kernel
theorem dL_970 : decode code 970 = .ok (.iload_n 3, 1) := by decide +kernel
theorem dL_971 : decode code 971 = .ok (.iconst 2, 1) := by decide +kernel
theorem dL_972 : decode code 972 = .ok (.iadd, 1) := by decide +kernel
theorem dL_973 : decode code 973 = .ok (.iaload, 1) := by decide +kernel
theorem dL_974 : decode code 974 = .ok (.invokevirtual 151, 3) := by decide +kernel
theorem dL_977 : decode code 977 = .ok (.aload_n 2, 1) := by decide +kernel
theorem dL_978 : decode code 978 = .ok (.aload_n 0, 1) := by decide +kernel
theorem dL_979 : decode code 979 = .ok (.iload_n 3, 1) := by decide +kernel
theorem dL_980 : decode code 980 = .ok (.iconst 1, 1) := by decide +kernel
theorem dL_981 : decode code 981 = .ok (.iadd, 1) := by decide +kernel
theorem dL_982 : decode code 982 = .ok (.iaload, 1) := by decide +kernel
theorem dL_983 : decode code 983 = .ok (.aload_n 0, 1) := by decide +kernel
theorem dL_984 : decode code 984 = .ok (.iload_n 3, 1) := by decide +kernel
theorem dL_985 : decode code 985 = .ok (.iconst 2, 1) := by decide +kernel
theorem dL_986 : decode code 986 = .ok (.iadd, 1) := by decide +kernel
theorem dL_987 : decode code 987 = .ok (.iaload, 1) := by decide +kernel
theorem dL_988 : decode code 988 = .ok (.invokevirtual 154, 3) := by decide +kernel
theorem dL_991 : decode code 991 = .ok (.if_icmp .eq 183, 3) := by decide +kernel
theorem dL_994 : decode code 994 = .ok (.iconst 0, 1) := by decide +kernel
theorem dL_995 : decode code 995 = .ok (.ireturn, 1) := by decide +kernel
theorem dL_996 : decode code 996 = .ok (.aload_n 1, 1) := by decide +kernel
theorem dL_997 : decode code 997 = .ok (.aload_n 0, 1) := by decide +kernel
theorem dL_998 : decode code 998 = .ok (.iload_n 3, 1) := by decide +kernel
theorem dL_999 : decode code 999 = .ok (.iconst 1, 1) := by decide +kernel
theorem dL_1000 : decode code 1000 = .ok (.iadd, 1) := by decide +kernel
theorem dL_1001 : decode code 1001 = .ok (.iaload, 1) := by decide +kernel
theorem dL_1002 : decode code 1002 = .ok (.aload_n 0, 1) := by decide +kernel
theorem dL_1003 : decode code 1003 = .ok (.iload_n 3, 1) := by decide +kernel
theorem dL_1004 : decode code 1004 = .ok (.iconst 2, 1) := by decide +kernel
theorem dL_1005 : decode code 1005 = .ok (.iadd, 1) := by decide +kernel
theorem dL_1006 : decode code 1006 = .ok (.iaload, 1) := by decide +kernel
theorem dL_1007 : decode code 1007 = .ok (.aload_n 0, 1) := by decide +kernel
theorem dL_1008 : decode code 1008 = .ok (.iload_n 3, 1) := by decide +kernel
theorem dL_1009 : decode code 1009 = .ok (.iconst 3, 1) := by decide +kernel
theorem dL_1010 : decode code 1010 = .ok (.iadd, 1) := by decide +kernel
theorem dL_1011 : decode code 1011 = .ok (.iaload, 1) := by decide +kernel
theorem dL_1012 : decode code 1012 = .ok (.invokevirtual 155, 3) := by decide +kernel
theorem dL_1015 : decode code 1015 = .ok (.aload_n 2, 1) := by decide +kernel
theorem dL_1016 : decode code 1016 = .ok (.aload_n 0, 1) := by decide +kernel
theorem dL_1017 : decode code 1017 = .ok (.iload_n 3, 1) := by decide +kernel
theorem dL_1018 : decode code 1018 = .ok (.iconst 1, 1) := by decide +kernel
theorem dL_1019 : decode code 1019 = .ok (.iadd, 1) := by decide +kernel
theorem dL_1020 : decode code 1020 = .ok (.iaload, 1) := by decide +kernel
theorem dL_1021 : decode code 1021 = .ok (.aload_n 0, 1) := by decide +kernel
theorem dL_1022 : decode code 1022 = .ok (.iload_n 3, 1) := by decide +kernel
theorem dL_1023 : decode code 1023 = .ok (.iconst 2, 1) := by decide +kernel
theorem dL_1024 : decode code 1024 = .ok (.iadd, 1) := by decide +kernel
theorem dL_1025 : decode code 1025 = .ok (.iaload, 1) := by decide +kernel
theorem dL_1026 : decode code 1026 = .ok (.aload_n 0, 1) := by decide +kernel
theorem dL_1027 : decode code 1027 = .ok (.iload_n 3, 1) := by decide +kernel
theorem dL_1028 : decode code 1028 = .ok (.iconst 3, 1) := by decide +kernel
theorem dL_1029 : decode code 1029 = .ok (.iadd, 1) := by decide +kernel
theorem dL_1030 : decode code 1030 = .ok (.iaload, 1) := by decide +kernel
theorem dL_1031 : decode code 1031 = .ok (.invokevirtual 158, 3) := by decide +kernel
theorem dL_1034 : decode code 1034 = .ok (.if_icmp .eq 140, 3) := by decide +kernel
theorem dL_1037 : decode code 1037 = .ok (.iconst 0, 1) := by decide +kernel
theorem dL_1038 : decode code 1038 = .ok (.ireturn, 1) := by decide +kernel
theorem dL_1039 : decode code 1039 = .ok (.aload_n 1, 1) := by decide +kernel
theorem dL_1040 : decode code 1040 = .ok (.aload_n 0, 1) := by decide +kernel
theorem dL_1041 : decode code 1041 = .ok (.iload_n 3, 1) := by decide +kernel
theorem dL_1042 : decode code 1042 = .ok (.iconst 1, 1) := by decide +kernel
theorem dL_1043 : decode code 1043 = .ok (.iadd, 1) := by decide +kernel
theorem dL_1044 : decode code 1044 = .ok (.iaload, 1) := by decide +kernel
theorem dL_1045 : decode code 1045 = .ok (.aload_n 0, 1) := by decide +kernel
theorem dL_1046 : decode code 1046 = .ok (.iload_n 3, 1) := by decide +kernel
theorem dL_1047 : decode code 1047 = .ok (.iconst 2, 1) := by decide +kernel
theorem dL_1048 : decode code 1048 = .ok (.iadd, 1) := by decide +kernel
theorem dL_1049 : decode code 1049 = .ok (.iaload, 1) := by decide +kernel
theorem dL_1050 : decode code 1050 = .ok (.invokevirtual 159, 3) := by decide +kernel
theorem dL_1053 : decode code 1053 = .ok (.aload_n 2, 1) := by decide +kernel
theorem dL_1054 : decode code 1054 = .ok (.aload_n 0, 1) := by decide +kernel
theorem dL_1055 : decode code 1055 = .ok (.iload_n 3, 1) := by decide +kernel
theorem dL_1056 : decode code 1056 = .ok (.iconst 1, 1) := by decide +kernel
theorem dL_1057 : decode code 1057 = .ok (.iadd, 1) := by decide +kernel
theorem dL_1058 : decode code 1058 = .ok (.iaload, 1) := by decide +kernel
theorem dL_1059 : decode code 1059 = .ok (.aload_n 0, 1) := by decide +kernel
theorem dL_1060 : decode code 1060 = .ok (.iload_n 3, 1) := by decide +kernel
theorem dL_1061 : decode code 1061 = .ok (.iconst 2, 1) := by decide +kernel
theorem dL_1062 : decode code 1062 = .ok (.iadd, 1) := by decide +kernel
theorem dL_1063 : decode code 1063 = .ok (.iaload, 1) := by decide +kernel
theorem dL_1064 : decode code 1064 = .ok (.invokevirtual 162, 3) := by decide +kernel
theorem dL_1067 : decode code 1067 = .ok (.if_icmp .eq 107, 3) := by decide +kernel
theorem dL_1070 : decode code 1070 = .ok (.iconst 0, 1) := by decide +kernel
theorem dL_1071 : decode code 1071 = .ok (.ireturn, 1) := by decide +kernel
theorem dL_1072 : decode code 1072 = .ok (.aload_n 1, 1) := by decide +kernel
theorem dL_1073 : decode code 1073 = .ok (.aload_n 0, 1) := by decide +kernel
theorem dL_1074 : decode code 1074 = .ok (.iload_n 3, 1) := by decide +kernel
theorem dL_1075 : decode code 1075 = .ok (.iconst 1, 1) := by decide +kernel
theorem dL_1076 : decode code 1076 = .ok (.iadd, 1) := by decide +kernel
theorem dL_1077 : decode code 1077 = .ok (.iaload, 1) := by decide +kernel
theorem dL_1078 : decode code 1078 = .ok (.aload_n 0, 1) := by decide +kernel
theorem dL_1079 : decode code 1079 = .ok (.iload_n 3, 1) := by decide +kernel
theorem dL_1080 : decode code 1080 = .ok (.iconst 2, 1) := by decide +kernel
theorem dL_1081 : decode code 1081 = .ok (.iadd, 1) := by decide +kernel
theorem dL_1082 : decode code 1082 = .ok (.iaload, 1) := by decide +kernel
theorem dL_1083 : decode code 1083 = .ok (.aload_n 0, 1) := by decide +kernel
theorem dL_1084 : decode code 1084 = .ok (.iload_n 3, 1) := by decide +kernel
theorem dL_1085 : decode code 1085 = .ok (.iconst 3, 1) := by decide +kernel
theorem dL_1086 : decode code 1086 = .ok (.iadd, 1) := by decide +kernel
theorem dL_1087 : decode code 1087 = .ok (.iaload, 1) := by decide +kernel
theorem dL_1088 : decode code 1088 = .ok (.invokevirtual 163, 3) := by decide +kernel
theorem dL_1091 : decode code 1091 = .ok (.aload_n 2, 1) := by decide +kernel
theorem dL_1092 : decode code 1092 = .ok (.aload_n 0, 1) := by decide +kernel
theorem dL_1093 : decode code 1093 = .ok (.iload_n 3, 1) := by decide +kernel
theorem dL_1094 : decode code 1094 = .ok (.iconst 1, 1) := by decide +kernel
theorem dL_1095 : decode code 1095 = .ok (.iadd, 1) := by decide +kernel
theorem dL_1096 : decode code 1096 = .ok (.iaload, 1) := by decide +kernel
theorem dL_1097 : decode code 1097 = .ok (.aload_n 0, 1) := by decide +kernel
theorem dL_1098 : decode code 1098 = .ok (.iload_n 3, 1) := by decide +kernel
theorem dL_1099 : decode code 1099 = .ok (.iconst 2, 1) := by decide +kernel
theorem dL_1100 : decode code 1100 = .ok (.iadd, 1) := by decide +kernel
theorem dL_1101 : decode code 1101 = .ok (.iaload, 1) := by decide +kernel
theorem dL_1102 : decode code 1102 = .ok (.aload_n 0, 1) := by decide +kernel
theorem dL_1103 : decode code 1103 = .ok (.iload_n 3, 1) := by decide +kernel
theorem dL_1104 : decode code 1104 = .ok (.iconst 3, 1) := by decide +kernel
theorem dL_1105 : decode code 1105 = .ok (.iadd, 1) := by decide +kernel
theorem dL_1106 : decode code 1106 = .ok (.iaload, 1) := by decide +kernel
theorem dL_1107 : decode code 1107 = .ok (.invokevirtual 167, 3) := by decide +kernel
theorem dL_1110 : decode code 1110 = .ok (.if_icmp .eq 64, 3) := by decide +kernel
theorem dL_1113 : decode code 1113 = .ok (.iconst 0, 1) := by decide +kernel
theorem dL_1114 : decode code 1114 = .ok (.ireturn, 1) := by decide +kernel
theorem dL_1115 : decode code 1115 = .ok (.aload_n 1, 1) := by decide +kernel
theorem dL_1116 : decode code 1116 = .ok (.invokevirtual 168, 3) := by decide +kernel
theorem dL_1119 : decode code 1119 = .ok (.aload_n 2, 1) := by decide +kernel
theorem dL_1120 : decode code 1120 = .ok (.invokevirtual 171, 3) := by decide +kernel
theorem dL_1123 : decode code 1123 = .ok (.if_icmp .eq 51, 3) := by decide +kernel
theorem dL_1126 : decode code 1126 = .ok (.iconst 0, 1) := by decide +kernel
theorem dL_1127 : decode code 1127 = .ok (.ireturn, 1) := by decide +kernel
theorem dL_1128 : decode code 1128 = .ok (.aload_n 1, 1) := by decide +kernel
theorem dL_1129 : decode code 1129 = .ok (.aload_n 0, 1) := by decide +kernel
theorem dL_1130 : decode code 1130 = .ok (.iload_n 3, 1) := by decide +kernel
theorem dL_1131 : decode code 1131 = .ok (.iconst 1, 1) := by decide +kernel
theorem dL_1132 : decode code 1132 = .ok (.iadd, 1) := by decide +kernel
theorem dL_1133 : decode code 1133 = .ok (.iaload, 1) := by decide +kernel
theorem dL_1134 : decode code 1134 = .ok (.invokevirtual 172, 3) := by decide +kernel
theorem dL_1137 : decode code 1137 = .ok (.aload_n 2, 1) := by decide +kernel
theorem dL_1138 : decode code 1138 = .ok (.aload_n 0, 1) := by decide +kernel
theorem dL_1139 : decode code 1139 = .ok (.iload_n 3, 1) := by decide +kernel
theorem dL_1140 : decode code 1140 = .ok (.iconst 1, 1) := by decide +kernel
theorem dL_1141 : decode code 1141 = .ok (.iadd, 1) := by decide +kernel
theorem dL_1142 : decode code 1142 = .ok (.iaload, 1) := by decide +kernel
theorem dL_1143 : decode code 1143 = .ok (.invokevirtual 176, 3) := by decide +kernel
theorem dL_1146 : decode code 1146 = .ok (.if_icmp .eq 28, 3) := by decide +kernel
theorem dL_1149 : decode code 1149 = .ok (.iconst 0, 1) := by decide +kernel
theorem dL_1150 : decode code 1150 = .ok (.ireturn, 1) := by decide +kernel
theorem dL_1151 : decode code 1151 = .ok (.aload_n 1, 1) := by decide +kernel
theorem dL_1152 : decode code 1152 = .ok (.aload_n 0, 1) := by decide +kernel
theorem dL_1153 : decode code 1153 = .ok (.iload_n 3, 1) := by decide +kernel
theorem dL_1154 : decode code 1154 = .ok (.iconst 1, 1) := by decide +kernel
theorem dL_1155 : decode code 1155 = .ok (.iadd, 1) := by decide +kernel
theorem dL_1156 : decode code 1156 = .ok (.iaload, 1) := by decide +kernel
theorem dL_1157 : decode code 1157 = .ok (.invokevirtual 177, 3) := by decide +kernel
theorem dL_1160 : decode code 1160 = .ok (.aload_n 2, 1) := by decide +kernel
theorem dL_1161 : decode code 1161 = .ok (.aload_n 0, 1) := by decide +kernel
theorem dL_1162 : decode code 1162 = .ok (.iload_n 3, 1) := by decide +kernel
theorem dL_1163 : decode code 1163 = .ok (.iconst 1, 1) := by decide +kernel
theorem dL_1164 : decode code 1164 = .ok (.iadd, 1) := by decide +kernel
theorem dL_1165 : decode code 1165 = .ok (.iaload, 1) := by decide +kernel
theorem dL_1166 : decode code 1166 = .ok (.invokevirtual 180, 3) := by decide +kernel
theorem dL_1169 : decode code 1169 = .ok (.if_icmp .eq 5, 3) := by decide +kernel
theorem dL_1172 : decode code 1172 = .ok (.iconst 0, 1) := by decide +kernel
theorem dL_1173 : decode code 1173 = .ok (.ireturn, 1) := by decide +kernel
theorem dL_1174 : decode code 1174 = .ok (.iinc 3 6, 3) := by decide +kernel
theorem dL_1177 : decode code 1177 = .ok (.goto (-1159), 3) := by decide +kernel
theorem dL_1180 : decode code 1180 = .ok (.iconst 1, 1) := by decide +kernel
theorem dL_1181 : decode code 1181 = .ok (.ireturn, 1) := by decide +kernel
section
variable {G : gG} {ad0 : Nat → Nat} {n0 : Nat} {A : Nat → Prop} {p : Program} {l : Launch} {e : Env} {s : State} {m : MethodId} {args : Array Value} {below : List Frame} {meth : Method} {c : Code} {Qf : State → Prop} {cs ss : Nat} {I : MI} {L : Nat} {xs : Nat → Int32} {i : Nat}
theorem lc_0 (sc : Scp ad0 A s L xs) (hL : L ≤ 3072) (hi : 6 * i + 6 ≤ L) (hcs : cs ≤ room_1.cells ∧ ss ≤ room_1.slots) (hI : Sim i I) (K : ∀ I2, Sim (i + 1) I2 → WB G ad0 n0 A p l e room_1 s m args below meth c Qf mLaw cs ss 286 Rf0 1174 (lsL i) [] I2) : WB G ad0 n0 A p l e room_1 s m args below meth c Qf mLaw cs ss 286 Rf0 208 (lsL i) [] I := by
  refine wb_aload_n dL_208 rfl rfl ?_
  refine wb_arg (i := i) (j := 1) (pc' := 214) sc hL dL_209 dL_210 dL_211 rfl dL_212 dL_213 rfl rfl (by omega) rfl ?_
  refine wb_arg (i := i) (j := 2) (pc' := 219) sc hL dL_214 dL_215 dL_216 rfl dL_217 dL_218 rfl rfl (by omega) rfl ?_
  refine wb_arg (i := i) (j := 3) (pc' := 224) sc hL dL_219 dL_220 dL_221 rfl dL_222 dL_223 rfl rfl (by omega) rfl ?_
  refine wb_arg (i := i) (j := 4) (pc' := 229) sc hL dL_224 dL_225 dL_226 rfl dL_227 dL_228 rfl rfl (by omega) rfl ?_
  refine wb_arg (i := i) (j := 5) (pc' := 234) sc hL dL_229 dL_230 dL_231 rfl dL_232 dL_233 rfl rfl (by omega) rfl ?_
  refine wb_call (As := [.int (xs (6 * i + 1)), .int (xs (6 * i + 2)), .int (xs (6 * i + 3)), .int (xs (6 * i + 4)), .int (xs (6 * i + 5))]) dL_234 mlL_13 okX11_append kd_0 (by decide) okC11.1 rfl rfl (Nat.le_of_ble_eq_true rfl) ⟨(Nat.le_of_ble_eq_true rfl), (Nat.le_of_ble_eq_true rfl)⟩ hcs (Nat.le_of_ble_eq_true rfl) (fun _ => ?_)
  refine WP.mono (t_append  (xs (6 * i + 1)) (xs (6 * i + 2)) (xs (6 * i + 3)) (xs (6 * i + 4)) (xs (6 * i + 5)) I hI) (fun v I1 hv1 => ?_)
  obtain ⟨r, rfl, h2⟩ := hv1
  refine ⟨fun _ q1 q2 => absurd q1 (Nat.not_le.mpr q2), ?_⟩
  show WB G ad0 n0 A p l e room_1 s m args below meth c Qf mLaw cs ss 286 Rf0 237 (lsL i) [.int r] I1
  refine wb_aload_n dL_237 rfl rfl ?_
  refine wb_arg (i := i) (j := 1) (pc' := 243) sc hL dL_238 dL_239 dL_240 rfl dL_241 dL_242 rfl rfl (by omega) rfl ?_
  refine wb_arg (i := i) (j := 2) (pc' := 248) sc hL dL_243 dL_244 dL_245 rfl dL_246 dL_247 rfl rfl (by omega) rfl ?_
  refine wb_arg (i := i) (j := 3) (pc' := 253) sc hL dL_248 dL_249 dL_250 rfl dL_251 dL_252 rfl rfl (by omega) rfl ?_
  refine wb_arg (i := i) (j := 4) (pc' := 258) sc hL dL_253 dL_254 dL_255 rfl dL_256 dL_257 rfl rfl (by omega) rfl ?_
  refine wb_arg (i := i) (j := 5) (pc' := 263) sc hL dL_258 dL_259 dL_260 rfl dL_261 dL_262 rfl rfl (by omega) rfl ?_
  refine wb_call (As := [.int (xs (6 * i + 1)), .int (xs (6 * i + 2)), .int (xs (6 * i + 3)), .int (xs (6 * i + 4)), .int (xs (6 * i + 5))]) dL_263 mlL_17 okX12_append kd_261 (by decide) okC12.1 rfl rfl (Nat.le_of_ble_eq_true rfl) ⟨(Nat.le_of_ble_eq_true rfl), (Nat.le_of_ble_eq_true rfl)⟩ hcs (Nat.le_of_ble_eq_true rfl) (fun _ => ?_)
  refine WP.mono h2 (fun v I2 hv2 => ?_)
  obtain ⟨r2, rfl, e2, hs⟩ := hv2
  refine ⟨fun _ q1 q2 => absurd q1 (Nat.not_le.mpr q2), ?_⟩
  show WB G ad0 n0 A p l e room_1 s m args below meth c Qf mLaw cs ss 286 Rf0 266 (lsL i) [.int r2, .int r] I2
  exact wb_icmp_eq (t := 1174) dL_266 rfl (fun _ => K I2 hs) (fun h => absurd e2 h)
theorem lc_1 (sc : Scp ad0 A s L xs) (hL : L ≤ 3072) (hi : 6 * i + 6 ≤ L) (hcs : cs ≤ room_1.cells ∧ ss ≤ room_1.slots) (hI : Sim i I) (K : ∀ I2, Sim (i + 1) I2 → WB G ad0 n0 A p l e room_1 s m args below meth c Qf mLaw cs ss 286 Rf0 1174 (lsL i) [] I2) : WB G ad0 n0 A p l e room_1 s m args below meth c Qf mLaw cs ss 286 Rf0 271 (lsL i) [] I := by
  refine wb_aload_n dL_271 rfl rfl ?_
  refine wb_arg (i := i) (j := 1) (pc' := 277) sc hL dL_272 dL_273 dL_274 rfl dL_275 dL_276 rfl rfl (by omega) rfl ?_
  refine wb_call (As := [.int (xs (6 * i + 1))]) dL_277 mlL_18 okX11_parse kd_0 (by decide) okC11.1 rfl rfl (Nat.le_of_ble_eq_true rfl) ⟨(Nat.le_of_ble_eq_true rfl), (Nat.le_of_ble_eq_true rfl)⟩ hcs (Nat.le_of_ble_eq_true rfl) (fun _ => ?_)
  refine WP.mono (t_parse  (xs (6 * i + 1)) I hI) (fun v I1 hv1 => ?_)
  obtain ⟨r, rfl, h2⟩ := hv1
  refine ⟨fun _ q1 q2 => absurd q1 (Nat.not_le.mpr q2), ?_⟩
  show WB G ad0 n0 A p l e room_1 s m args below meth c Qf mLaw cs ss 286 Rf0 280 (lsL i) [.int r] I1
  refine wb_aload_n dL_280 rfl rfl ?_
  refine wb_arg (i := i) (j := 1) (pc' := 286) sc hL dL_281 dL_282 dL_283 rfl dL_284 dL_285 rfl rfl (by omega) rfl ?_
  refine wb_call (As := [.int (xs (6 * i + 1))]) dL_286 mlL_22 okX12_parse kd_261 (by decide) okC12.1 rfl rfl (Nat.le_of_ble_eq_true rfl) ⟨(Nat.le_of_ble_eq_true rfl), (Nat.le_of_ble_eq_true rfl)⟩ hcs (Nat.le_of_ble_eq_true rfl) (fun _ => ?_)
  refine WP.mono h2 (fun v I2 hv2 => ?_)
  obtain ⟨r2, rfl, e2, hs⟩ := hv2
  refine ⟨fun _ q1 q2 => absurd q1 (Nat.not_le.mpr q2), ?_⟩
  show WB G ad0 n0 A p l e room_1 s m args below meth c Qf mLaw cs ss 286 Rf0 289 (lsL i) [.int r2, .int r] I2
  exact wb_icmp_eq (t := 1174) dL_289 rfl (fun _ => K I2 hs) (fun h => absurd e2 h)
theorem lc_2 (sc : Scp ad0 A s L xs) (hL : L ≤ 3072) (hi : 6 * i + 6 ≤ L) (hcs : cs ≤ room_1.cells ∧ ss ≤ room_1.slots) (hI : Sim i I) (K : ∀ I2, Sim (i + 1) I2 → WB G ad0 n0 A p l e room_1 s m args below meth c Qf mLaw cs ss 286 Rf0 1174 (lsL i) [] I2) : WB G ad0 n0 A p l e room_1 s m args below meth c Qf mLaw cs ss 286 Rf0 294 (lsL i) [] I := by
  refine wb_aload_n dL_294 rfl rfl ?_
  refine wb_call (As := []) dL_295 mlL_23 okX11_nodeCount kd_0 (by decide) okC11.1 rfl rfl (Nat.le_of_ble_eq_true rfl) ⟨(Nat.le_of_ble_eq_true rfl), (Nat.le_of_ble_eq_true rfl)⟩ hcs (Nat.le_of_ble_eq_true rfl) (fun _ => ?_)
  refine WP.mono (t_nodeCount   I hI) (fun v I1 hv1 => ?_)
  obtain ⟨r, rfl, h2⟩ := hv1
  refine ⟨fun _ q1 q2 => absurd q1 (Nat.not_le.mpr q2), ?_⟩
  show WB G ad0 n0 A p l e room_1 s m args below meth c Qf mLaw cs ss 286 Rf0 298 (lsL i) [.int r] I1
  refine wb_aload_n dL_298 rfl rfl ?_
  refine wb_call (As := []) dL_299 mlL_27 okX12_nodeCount kd_261 (by decide) okC12.1 rfl rfl (Nat.le_of_ble_eq_true rfl) ⟨(Nat.le_of_ble_eq_true rfl), (Nat.le_of_ble_eq_true rfl)⟩ hcs (Nat.le_of_ble_eq_true rfl) (fun _ => ?_)
  refine WP.mono h2 (fun v I2 hv2 => ?_)
  obtain ⟨r2, rfl, e2, hs⟩ := hv2
  refine ⟨fun _ q1 q2 => absurd q1 (Nat.not_le.mpr q2), ?_⟩
  show WB G ad0 n0 A p l e room_1 s m args below meth c Qf mLaw cs ss 286 Rf0 302 (lsL i) [.int r2, .int r] I2
  exact wb_icmp_eq (t := 1174) dL_302 rfl (fun _ => K I2 hs) (fun h => absurd e2 h)
theorem lc_3 (sc : Scp ad0 A s L xs) (hL : L ≤ 3072) (hi : 6 * i + 6 ≤ L) (hcs : cs ≤ room_1.cells ∧ ss ≤ room_1.slots) (hI : Sim i I) (K : ∀ I2, Sim (i + 1) I2 → WB G ad0 n0 A p l e room_1 s m args below meth c Qf mLaw cs ss 286 Rf0 1174 (lsL i) [] I2) : WB G ad0 n0 A p l e room_1 s m args below meth c Qf mLaw cs ss 286 Rf0 307 (lsL i) [] I := by
  refine wb_aload_n dL_307 rfl rfl ?_
  refine wb_call (As := []) dL_308 mlL_28 okX11_streetCount kd_0 (by decide) okC11.1 rfl rfl (Nat.le_of_ble_eq_true rfl) ⟨(Nat.le_of_ble_eq_true rfl), (Nat.le_of_ble_eq_true rfl)⟩ hcs (Nat.le_of_ble_eq_true rfl) (fun _ => ?_)
  refine WP.mono (t_streetCount   I hI) (fun v I1 hv1 => ?_)
  obtain ⟨r, rfl, h2⟩ := hv1
  refine ⟨fun _ q1 q2 => absurd q1 (Nat.not_le.mpr q2), ?_⟩
  show WB G ad0 n0 A p l e room_1 s m args below meth c Qf mLaw cs ss 286 Rf0 311 (lsL i) [.int r] I1
  refine wb_aload_n dL_311 rfl rfl ?_
  refine wb_call (As := []) dL_312 mlL_31 okX12_streetCount kd_261 (by decide) okC12.1 rfl rfl (Nat.le_of_ble_eq_true rfl) ⟨(Nat.le_of_ble_eq_true rfl), (Nat.le_of_ble_eq_true rfl)⟩ hcs (Nat.le_of_ble_eq_true rfl) (fun _ => ?_)
  refine WP.mono h2 (fun v I2 hv2 => ?_)
  obtain ⟨r2, rfl, e2, hs⟩ := hv2
  refine ⟨fun _ q1 q2 => absurd q1 (Nat.not_le.mpr q2), ?_⟩
  show WB G ad0 n0 A p l e room_1 s m args below meth c Qf mLaw cs ss 286 Rf0 315 (lsL i) [.int r2, .int r] I2
  exact wb_icmp_eq (t := 1174) dL_315 rfl (fun _ => K I2 hs) (fun h => absurd e2 h)
theorem lc_4 (sc : Scp ad0 A s L xs) (hL : L ≤ 3072) (hi : 6 * i + 6 ≤ L) (hcs : cs ≤ room_1.cells ∧ ss ≤ room_1.slots) (hI : Sim i I) (K : ∀ I2, Sim (i + 1) I2 → WB G ad0 n0 A p l e room_1 s m args below meth c Qf mLaw cs ss 286 Rf0 1174 (lsL i) [] I2) : WB G ad0 n0 A p l e room_1 s m args below meth c Qf mLaw cs ss 286 Rf0 320 (lsL i) [] I := by
  refine wb_aload_n dL_320 rfl rfl ?_
  refine wb_call (As := []) dL_321 mlL_32 okX11_houseCount kd_0 (by decide) okC11.1 rfl rfl (Nat.le_of_ble_eq_true rfl) ⟨(Nat.le_of_ble_eq_true rfl), (Nat.le_of_ble_eq_true rfl)⟩ hcs (Nat.le_of_ble_eq_true rfl) (fun _ => ?_)
  refine WP.mono (t_houseCount   I hI) (fun v I1 hv1 => ?_)
  obtain ⟨r, rfl, h2⟩ := hv1
  refine ⟨fun _ q1 q2 => absurd q1 (Nat.not_le.mpr q2), ?_⟩
  show WB G ad0 n0 A p l e room_1 s m args below meth c Qf mLaw cs ss 286 Rf0 324 (lsL i) [.int r] I1
  refine wb_aload_n dL_324 rfl rfl ?_
  refine wb_call (As := []) dL_325 mlL_35 okX12_houseCount kd_261 (by decide) okC12.1 rfl rfl (Nat.le_of_ble_eq_true rfl) ⟨(Nat.le_of_ble_eq_true rfl), (Nat.le_of_ble_eq_true rfl)⟩ hcs (Nat.le_of_ble_eq_true rfl) (fun _ => ?_)
  refine WP.mono h2 (fun v I2 hv2 => ?_)
  obtain ⟨r2, rfl, e2, hs⟩ := hv2
  refine ⟨fun _ q1 q2 => absurd q1 (Nat.not_le.mpr q2), ?_⟩
  show WB G ad0 n0 A p l e room_1 s m args below meth c Qf mLaw cs ss 286 Rf0 328 (lsL i) [.int r2, .int r] I2
  exact wb_icmp_eq (t := 1174) dL_328 rfl (fun _ => K I2 hs) (fun h => absurd e2 h)
theorem lc_5 (sc : Scp ad0 A s L xs) (hL : L ≤ 3072) (hi : 6 * i + 6 ≤ L) (hcs : cs ≤ room_1.cells ∧ ss ≤ room_1.slots) (hI : Sim i I) (K : ∀ I2, Sim (i + 1) I2 → WB G ad0 n0 A p l e room_1 s m args below meth c Qf mLaw cs ss 286 Rf0 1174 (lsL i) [] I2) : WB G ad0 n0 A p l e room_1 s m args below meth c Qf mLaw cs ss 286 Rf0 333 (lsL i) [] I := by
  refine wb_aload_n dL_333 rfl rfl ?_
  refine wb_call (As := []) dL_334 mlL_36 okX11_capacity kd_0 (by decide) okC11.1 rfl rfl (Nat.le_of_ble_eq_true rfl) ⟨(Nat.le_of_ble_eq_true rfl), (Nat.le_of_ble_eq_true rfl)⟩ hcs (Nat.le_of_ble_eq_true rfl) (fun _ => ?_)
  refine WP.mono (t_capacity   I hI) (fun v I1 hv1 => ?_)
  obtain ⟨r, rfl, h2⟩ := hv1
  refine ⟨fun _ q1 q2 => absurd q1 (Nat.not_le.mpr q2), ?_⟩
  show WB G ad0 n0 A p l e room_1 s m args below meth c Qf mLaw cs ss 286 Rf0 337 (lsL i) [.int r] I1
  refine wb_aload_n dL_337 rfl rfl ?_
  refine wb_call (As := []) dL_338 mlL_39 okX12_capacity kd_261 (by decide) okC12.1 rfl rfl (Nat.le_of_ble_eq_true rfl) ⟨(Nat.le_of_ble_eq_true rfl), (Nat.le_of_ble_eq_true rfl)⟩ hcs (Nat.le_of_ble_eq_true rfl) (fun _ => ?_)
  refine WP.mono h2 (fun v I2 hv2 => ?_)
  obtain ⟨r2, rfl, e2, hs⟩ := hv2
  refine ⟨fun _ q1 q2 => absurd q1 (Nat.not_le.mpr q2), ?_⟩
  show WB G ad0 n0 A p l e room_1 s m args below meth c Qf mLaw cs ss 286 Rf0 341 (lsL i) [.int r2, .int r] I2
  exact wb_icmp_eq (t := 1174) dL_341 rfl (fun _ => K I2 hs) (fun h => absurd e2 h)
theorem lc_6 (sc : Scp ad0 A s L xs) (hL : L ≤ 3072) (hi : 6 * i + 6 ≤ L) (hcs : cs ≤ room_1.cells ∧ ss ≤ room_1.slots) (hI : Sim i I) (K : ∀ I2, Sim (i + 1) I2 → WB G ad0 n0 A p l e room_1 s m args below meth c Qf mLaw cs ss 286 Rf0 1174 (lsL i) [] I2) : WB G ad0 n0 A p l e room_1 s m args below meth c Qf mLaw cs ss 286 Rf0 346 (lsL i) [] I := by
  refine wb_aload_n dL_346 rfl rfl ?_
  refine wb_call (As := []) dL_347 mlL_40 okX11_day kd_0 (by decide) okC11.1 rfl rfl (Nat.le_of_ble_eq_true rfl) ⟨(Nat.le_of_ble_eq_true rfl), (Nat.le_of_ble_eq_true rfl)⟩ hcs (Nat.le_of_ble_eq_true rfl) (fun _ => ?_)
  refine WP.mono (t_day   I hI) (fun v I1 hv1 => ?_)
  obtain ⟨r, rfl, h2⟩ := hv1
  refine ⟨fun _ q1 q2 => absurd q1 (Nat.not_le.mpr q2), ?_⟩
  show WB G ad0 n0 A p l e room_1 s m args below meth c Qf mLaw cs ss 286 Rf0 350 (lsL i) [.int r] I1
  refine wb_aload_n dL_350 rfl rfl ?_
  refine wb_call (As := []) dL_351 mlL_43 okX12_day kd_261 (by decide) okC12.1 rfl rfl (Nat.le_of_ble_eq_true rfl) ⟨(Nat.le_of_ble_eq_true rfl), (Nat.le_of_ble_eq_true rfl)⟩ hcs (Nat.le_of_ble_eq_true rfl) (fun _ => ?_)
  refine WP.mono h2 (fun v I2 hv2 => ?_)
  obtain ⟨r2, rfl, e2, hs⟩ := hv2
  refine ⟨fun _ q1 q2 => absurd q1 (Nat.not_le.mpr q2), ?_⟩
  show WB G ad0 n0 A p l e room_1 s m args below meth c Qf mLaw cs ss 286 Rf0 354 (lsL i) [.int r2, .int r] I2
  exact wb_icmp_eq (t := 1174) dL_354 rfl (fun _ => K I2 hs) (fun h => absurd e2 h)
theorem lc_7 (sc : Scp ad0 A s L xs) (hL : L ≤ 3072) (hi : 6 * i + 6 ≤ L) (hcs : cs ≤ room_1.cells ∧ ss ≤ room_1.slots) (hI : Sim i I) (K : ∀ I2, Sim (i + 1) I2 → WB G ad0 n0 A p l e room_1 s m args below meth c Qf mLaw cs ss 286 Rf0 1174 (lsL i) [] I2) : WB G ad0 n0 A p l e room_1 s m args below meth c Qf mLaw cs ss 286 Rf0 359 (lsL i) [] I := by
  refine wb_aload_n dL_359 rfl rfl ?_
  refine wb_arg (i := i) (j := 1) (pc' := 365) sc hL dL_360 dL_361 dL_362 rfl dL_363 dL_364 rfl rfl (by omega) rfl ?_
  refine wb_call (As := [.int (xs (6 * i + 1))]) dL_365 mlL_44 okX11_houseNode kd_0 (by decide) okC11.1 rfl rfl (Nat.le_of_ble_eq_true rfl) ⟨(Nat.le_of_ble_eq_true rfl), (Nat.le_of_ble_eq_true rfl)⟩ hcs (Nat.le_of_ble_eq_true rfl) (fun _ => ?_)
  refine WP.mono (t_houseNode  (xs (6 * i + 1)) I hI) (fun v I1 hv1 => ?_)
  obtain ⟨r, rfl, h2⟩ := hv1
  refine ⟨fun _ q1 q2 => absurd q1 (Nat.not_le.mpr q2), ?_⟩
  show WB G ad0 n0 A p l e room_1 s m args below meth c Qf mLaw cs ss 286 Rf0 368 (lsL i) [.int r] I1
  refine wb_aload_n dL_368 rfl rfl ?_
  refine wb_arg (i := i) (j := 1) (pc' := 374) sc hL dL_369 dL_370 dL_371 rfl dL_372 dL_373 rfl rfl (by omega) rfl ?_
  refine wb_call (As := [.int (xs (6 * i + 1))]) dL_374 mlL_47 okX12_houseNode kd_261 (by decide) okC12.1 rfl rfl (Nat.le_of_ble_eq_true rfl) ⟨(Nat.le_of_ble_eq_true rfl), (Nat.le_of_ble_eq_true rfl)⟩ hcs (Nat.le_of_ble_eq_true rfl) (fun _ => ?_)
  refine WP.mono h2 (fun v I2 hv2 => ?_)
  obtain ⟨r2, rfl, e2, hs⟩ := hv2
  refine ⟨fun _ q1 q2 => absurd q1 (Nat.not_le.mpr q2), ?_⟩
  show WB G ad0 n0 A p l e room_1 s m args below meth c Qf mLaw cs ss 286 Rf0 377 (lsL i) [.int r2, .int r] I2
  exact wb_icmp_eq (t := 1174) dL_377 rfl (fun _ => K I2 hs) (fun h => absurd e2 h)
theorem lc_8 (sc : Scp ad0 A s L xs) (hL : L ≤ 3072) (hi : 6 * i + 6 ≤ L) (hcs : cs ≤ room_1.cells ∧ ss ≤ room_1.slots) (hI : Sim i I) (K : ∀ I2, Sim (i + 1) I2 → WB G ad0 n0 A p l e room_1 s m args below meth c Qf mLaw cs ss 286 Rf0 1174 (lsL i) [] I2) : WB G ad0 n0 A p l e room_1 s m args below meth c Qf mLaw cs ss 286 Rf0 382 (lsL i) [] I := by
  refine wb_aload_n dL_382 rfl rfl ?_
  refine wb_arg (i := i) (j := 1) (pc' := 388) sc hL dL_383 dL_384 dL_385 rfl dL_386 dL_387 rfl rfl (by omega) rfl ?_
  refine wb_arg (i := i) (j := 2) (pc' := 393) sc hL dL_388 dL_389 dL_390 rfl dL_391 dL_392 rfl rfl (by omega) rfl ?_
  refine wb_call (As := [.int (xs (6 * i + 1)), .int (xs (6 * i + 2))]) dL_393 mlL_48 okX11_order kd_0 (by decide) okC11.1 rfl rfl (Nat.le_of_ble_eq_true rfl) ⟨(Nat.le_of_ble_eq_true rfl), (Nat.le_of_ble_eq_true rfl)⟩ hcs (Nat.le_of_ble_eq_true rfl) (fun _ => ?_)
  refine WP.mono (t_order  (xs (6 * i + 1)) (xs (6 * i + 2)) I hI) (fun v I1 hv1 => ?_)
  obtain ⟨r, rfl, h2⟩ := hv1
  refine ⟨fun _ q1 q2 => absurd q1 (Nat.not_le.mpr q2), ?_⟩
  show WB G ad0 n0 A p l e room_1 s m args below meth c Qf mLaw cs ss 286 Rf0 396 (lsL i) [.int r] I1
  refine wb_aload_n dL_396 rfl rfl ?_
  refine wb_arg (i := i) (j := 1) (pc' := 402) sc hL dL_397 dL_398 dL_399 rfl dL_400 dL_401 rfl rfl (by omega) rfl ?_
  refine wb_arg (i := i) (j := 2) (pc' := 407) sc hL dL_402 dL_403 dL_404 rfl dL_405 dL_406 rfl rfl (by omega) rfl ?_
  refine wb_call (As := [.int (xs (6 * i + 1)), .int (xs (6 * i + 2))]) dL_407 mlL_52 okX12_order kd_261 (by decide) okC12.1 rfl rfl (Nat.le_of_ble_eq_true rfl) ⟨(Nat.le_of_ble_eq_true rfl), (Nat.le_of_ble_eq_true rfl)⟩ hcs (Nat.le_of_ble_eq_true rfl) (fun _ => ?_)
  refine WP.mono h2 (fun v I2 hv2 => ?_)
  obtain ⟨r2, rfl, e2, hs⟩ := hv2
  refine ⟨fun _ q1 q2 => absurd q1 (Nat.not_le.mpr q2), ?_⟩
  show WB G ad0 n0 A p l e room_1 s m args below meth c Qf mLaw cs ss 286 Rf0 410 (lsL i) [.int r2, .int r] I2
  exact wb_icmp_eq (t := 1174) dL_410 rfl (fun _ => K I2 hs) (fun h => absurd e2 h)
theorem lc_9 (sc : Scp ad0 A s L xs) (hL : L ≤ 3072) (hi : 6 * i + 6 ≤ L) (hcs : cs ≤ room_1.cells ∧ ss ≤ room_1.slots) (hI : Sim i I) (K : ∀ I2, Sim (i + 1) I2 → WB G ad0 n0 A p l e room_1 s m args below meth c Qf mLaw cs ss 286 Rf0 1174 (lsL i) [] I2) : WB G ad0 n0 A p l e room_1 s m args below meth c Qf mLaw cs ss 286 Rf0 415 (lsL i) [] I := by
  refine wb_aload_n dL_415 rfl rfl ?_
  refine wb_arg (i := i) (j := 1) (pc' := 421) sc hL dL_416 dL_417 dL_418 rfl dL_419 dL_420 rfl rfl (by omega) rfl ?_
  refine wb_arg (i := i) (j := 2) (pc' := 426) sc hL dL_421 dL_422 dL_423 rfl dL_424 dL_425 rfl rfl (by omega) rfl ?_
  refine wb_call (As := [.int (xs (6 * i + 1)), .int (xs (6 * i + 2))]) dL_426 mlL_53 okX11_isOpen kd_0 (by decide) okC11.1 rfl rfl (Nat.le_of_ble_eq_true rfl) ⟨(Nat.le_of_ble_eq_true rfl), (Nat.le_of_ble_eq_true rfl)⟩ hcs (Nat.le_of_ble_eq_true rfl) (fun _ => ?_)
  refine WP.mono (t_isOpen  (xs (6 * i + 1)) (xs (6 * i + 2)) I hI) (fun v I1 hv1 => ?_)
  obtain ⟨r, rfl, h2⟩ := hv1
  refine ⟨fun _ q1 q2 => absurd q1 (Nat.not_le.mpr q2), ?_⟩
  show WB G ad0 n0 A p l e room_1 s m args below meth c Qf mLaw cs ss 286 Rf0 429 (lsL i) [.int r] I1
  refine wb_aload_n dL_429 rfl rfl ?_
  refine wb_arg (i := i) (j := 1) (pc' := 435) sc hL dL_430 dL_431 dL_432 rfl dL_433 dL_434 rfl rfl (by omega) rfl ?_
  refine wb_arg (i := i) (j := 2) (pc' := 440) sc hL dL_435 dL_436 dL_437 rfl dL_438 dL_439 rfl rfl (by omega) rfl ?_
  refine wb_call (As := [.int (xs (6 * i + 1)), .int (xs (6 * i + 2))]) dL_440 mlL_56 okX12_isOpen kd_261 (by decide) okC12.1 rfl rfl (Nat.le_of_ble_eq_true rfl) ⟨(Nat.le_of_ble_eq_true rfl), (Nat.le_of_ble_eq_true rfl)⟩ hcs (Nat.le_of_ble_eq_true rfl) (fun _ => ?_)
  refine WP.mono h2 (fun v I2 hv2 => ?_)
  obtain ⟨r2, rfl, e2, hs⟩ := hv2
  refine ⟨fun _ q1 q2 => absurd q1 (Nat.not_le.mpr q2), ?_⟩
  show WB G ad0 n0 A p l e room_1 s m args below meth c Qf mLaw cs ss 286 Rf0 443 (lsL i) [.int r2, .int r] I2
  exact wb_icmp_eq (t := 1174) dL_443 rfl (fun _ => K I2 hs) (fun h => absurd e2 h)
theorem lc_10 (sc : Scp ad0 A s L xs) (hL : L ≤ 3072) (hi : 6 * i + 6 ≤ L) (hcs : cs ≤ room_1.cells ∧ ss ≤ room_1.slots) (hI : Sim i I) (K : ∀ I2, Sim (i + 1) I2 → WB G ad0 n0 A p l e room_1 s m args below meth c Qf mLaw cs ss 286 Rf0 1174 (lsL i) [] I2) : WB G ad0 n0 A p l e room_1 s m args below meth c Qf mLaw cs ss 286 Rf0 448 (lsL i) [] I := by
  refine wb_aload_n dL_448 rfl rfl ?_
  refine wb_arg (i := i) (j := 1) (pc' := 454) sc hL dL_449 dL_450 dL_451 rfl dL_452 dL_453 rfl rfl (by omega) rfl ?_
  refine wb_arg (i := i) (j := 2) (pc' := 459) sc hL dL_454 dL_455 dL_456 rfl dL_457 dL_458 rfl rfl (by omega) rfl ?_
  refine wb_arg (i := i) (j := 3) (pc' := 464) sc hL dL_459 dL_460 dL_461 rfl dL_462 dL_463 rfl rfl (by omega) rfl ?_
  refine wb_call (As := [.int (xs (6 * i + 1)), .int (xs (6 * i + 2)), .int (xs (6 * i + 3))]) dL_464 mlL_57 okX11_arrival kd_0 (by decide) okC11.1 rfl rfl (Nat.le_of_ble_eq_true rfl) ⟨(Nat.le_of_ble_eq_true rfl), (Nat.le_of_ble_eq_true rfl)⟩ hcs (Nat.le_of_ble_eq_true rfl) (fun _ => ?_)
  refine WP.mono (t_arrival  (xs (6 * i + 1)) (xs (6 * i + 2)) (xs (6 * i + 3)) I hI) (fun v I1 hv1 => ?_)
  obtain ⟨r, rfl, h2⟩ := hv1
  refine ⟨fun _ q1 q2 => absurd q1 (Nat.not_le.mpr q2), ?_⟩
  show WB G ad0 n0 A p l e room_1 s m args below meth c Qf mLaw cs ss 286 Rf0 467 (lsL i) [.int r] I1
  refine wb_aload_n dL_467 rfl rfl ?_
  refine wb_arg (i := i) (j := 1) (pc' := 473) sc hL dL_468 dL_469 dL_470 rfl dL_471 dL_472 rfl rfl (by omega) rfl ?_
  refine wb_arg (i := i) (j := 2) (pc' := 478) sc hL dL_473 dL_474 dL_475 rfl dL_476 dL_477 rfl rfl (by omega) rfl ?_
  refine wb_arg (i := i) (j := 3) (pc' := 483) sc hL dL_478 dL_479 dL_480 rfl dL_481 dL_482 rfl rfl (by omega) rfl ?_
  refine wb_call (As := [.int (xs (6 * i + 1)), .int (xs (6 * i + 2)), .int (xs (6 * i + 3))]) dL_483 mlL_61 okX12_arrival kd_261 (by decide) okC12.1 rfl rfl (Nat.le_of_ble_eq_true rfl) ⟨(Nat.le_of_ble_eq_true rfl), (Nat.le_of_ble_eq_true rfl)⟩ hcs (Nat.le_of_ble_eq_true rfl) (fun _ => ?_)
  refine WP.mono h2 (fun v I2 hv2 => ?_)
  obtain ⟨r2, rfl, e2, hs⟩ := hv2
  refine ⟨fun _ q1 q2 => absurd q1 (Nat.not_le.mpr q2), ?_⟩
  show WB G ad0 n0 A p l e room_1 s m args below meth c Qf mLaw cs ss 286 Rf0 486 (lsL i) [.int r2, .int r] I2
  exact wb_icmp_eq (t := 1174) dL_486 rfl (fun _ => K I2 hs) (fun h => absurd e2 h)
theorem lc_11 (sc : Scp ad0 A s L xs) (hL : L ≤ 3072) (hi : 6 * i + 6 ≤ L) (hcs : cs ≤ room_1.cells ∧ ss ≤ room_1.slots) (hI : Sim i I) (K : ∀ I2, Sim (i + 1) I2 → WB G ad0 n0 A p l e room_1 s m args below meth c Qf mLaw cs ss 286 Rf0 1174 (lsL i) [] I2) : WB G ad0 n0 A p l e room_1 s m args below meth c Qf mLaw cs ss 286 Rf0 491 (lsL i) [] I := by
  refine wb_aload_n dL_491 rfl rfl ?_
  refine wb_arg (i := i) (j := 1) (pc' := 497) sc hL dL_492 dL_493 dL_494 rfl dL_495 dL_496 rfl rfl (by omega) rfl ?_
  refine wb_call (As := [.int (xs (6 * i + 1))]) dL_497 mlL_62 okX11_demand kd_0 (by decide) okC11.1 rfl rfl (Nat.le_of_ble_eq_true rfl) ⟨(Nat.le_of_ble_eq_true rfl), (Nat.le_of_ble_eq_true rfl)⟩ hcs (Nat.le_of_ble_eq_true rfl) (fun _ => ?_)
  refine WP.mono (t_demand (by omega) (xs (6 * i + 1)) I hI) (fun v I1 hv1 => ?_)
  obtain ⟨r, rfl, h2⟩ := hv1
  refine ⟨fun _ q1 q2 => absurd q1 (Nat.not_le.mpr q2), ?_⟩
  show WB G ad0 n0 A p l e room_1 s m args below meth c Qf mLaw cs ss 286 Rf0 500 (lsL i) [.int r] I1
  refine wb_aload_n dL_500 rfl rfl ?_
  refine wb_arg (i := i) (j := 1) (pc' := 506) sc hL dL_501 dL_502 dL_503 rfl dL_504 dL_505 rfl rfl (by omega) rfl ?_
  refine wb_call (As := [.int (xs (6 * i + 1))]) dL_506 mlL_65 okX12_demand kd_261 (by decide) okC12.1 rfl rfl (Nat.le_of_ble_eq_true rfl) ⟨(Nat.le_of_ble_eq_true rfl), (Nat.le_of_ble_eq_true rfl)⟩ hcs (Nat.le_of_ble_eq_true rfl) (fun _ => ?_)
  refine WP.mono h2 (fun v I2 hv2 => ?_)
  obtain ⟨r2, rfl, e2, hs⟩ := hv2
  refine ⟨fun _ q1 q2 => absurd q1 (Nat.not_le.mpr q2), ?_⟩
  show WB G ad0 n0 A p l e room_1 s m args below meth c Qf mLaw cs ss 286 Rf0 509 (lsL i) [.int r2, .int r] I2
  exact wb_icmp_eq (t := 1174) dL_509 rfl (fun _ => K I2 hs) (fun h => absurd e2 h)
theorem lc_12 (sc : Scp ad0 A s L xs) (hL : L ≤ 3072) (hi : 6 * i + 6 ≤ L) (hcs : cs ≤ room_1.cells ∧ ss ≤ room_1.slots) (hI : Sim i I) (K : ∀ I2, Sim (i + 1) I2 → WB G ad0 n0 A p l e room_1 s m args below meth c Qf mLaw cs ss 286 Rf0 1174 (lsL i) [] I2) : WB G ad0 n0 A p l e room_1 s m args below meth c Qf mLaw cs ss 286 Rf0 514 (lsL i) [] I := by
  refine wb_aload_n dL_514 rfl rfl ?_
  refine wb_call (As := []) dL_515 mlL_66 okX11_totalDemand kd_0 (by decide) okC11.1 rfl rfl (Nat.le_of_ble_eq_true rfl) ⟨(Nat.le_of_ble_eq_true rfl), (Nat.le_of_ble_eq_true rfl)⟩ hcs (Nat.le_of_ble_eq_true rfl) (fun _ => ?_)
  refine WP.mono (t_totalDemand (by omega)  I hI) (fun v I1 hv1 => ?_)
  obtain ⟨r, rfl, h2⟩ := hv1
  refine ⟨fun _ q1 q2 => absurd q1 (Nat.not_le.mpr q2), ?_⟩
  show WB G ad0 n0 A p l e room_1 s m args below meth c Qf mLaw cs ss 286 Rf0 518 (lsL i) [.int r] I1
  refine wb_aload_n dL_518 rfl rfl ?_
  refine wb_call (As := []) dL_519 mlL_69 okX12_totalDemand kd_261 (by decide) okC12.1 rfl rfl (Nat.le_of_ble_eq_true rfl) ⟨(Nat.le_of_ble_eq_true rfl), (Nat.le_of_ble_eq_true rfl)⟩ hcs (Nat.le_of_ble_eq_true rfl) (fun _ => ?_)
  refine WP.mono h2 (fun v I2 hv2 => ?_)
  obtain ⟨r2, rfl, e2, hs⟩ := hv2
  refine ⟨fun _ q1 q2 => absurd q1 (Nat.not_le.mpr q2), ?_⟩
  show WB G ad0 n0 A p l e room_1 s m args below meth c Qf mLaw cs ss 286 Rf0 522 (lsL i) [.int r2, .int r] I2
  exact wb_icmp_eq (t := 1174) dL_522 rfl (fun _ => K I2 hs) (fun h => absurd e2 h)
theorem lc_13 (sc : Scp ad0 A s L xs) (hL : L ≤ 3072) (hi : 6 * i + 6 ≤ L) (hcs : cs ≤ room_1.cells ∧ ss ≤ room_1.slots) (hI : Sim i I) (K : ∀ I2, Sim (i + 1) I2 → WB G ad0 n0 A p l e room_1 s m args below meth c Qf mLaw cs ss 286 Rf0 1174 (lsL i) [] I2) : WB G ad0 n0 A p l e room_1 s m args below meth c Qf mLaw cs ss 286 Rf0 527 (lsL i) [] I := by
  refine wb_aload_n dL_527 rfl rfl ?_
  refine wb_call (As := []) dL_528 mlL_70 okX11_stops kd_0 (by decide) okC11.1 rfl rfl (Nat.le_of_ble_eq_true rfl) ⟨(Nat.le_of_ble_eq_true rfl), (Nat.le_of_ble_eq_true rfl)⟩ hcs (Nat.le_of_ble_eq_true rfl) (fun _ => ?_)
  refine WP.mono (t_stops (by omega)  I hI) (fun v I1 hv1 => ?_)
  obtain ⟨r, rfl, h2⟩ := hv1
  refine ⟨fun _ q1 q2 => absurd q1 (Nat.not_le.mpr q2), ?_⟩
  show WB G ad0 n0 A p l e room_1 s m args below meth c Qf mLaw cs ss 286 Rf0 531 (lsL i) [.int r] I1
  refine wb_aload_n dL_531 rfl rfl ?_
  refine wb_call (As := []) dL_532 mlL_73 okX12_stops kd_261 (by decide) okC12.1 rfl rfl (Nat.le_of_ble_eq_true rfl) ⟨(Nat.le_of_ble_eq_true rfl), (Nat.le_of_ble_eq_true rfl)⟩ hcs (Nat.le_of_ble_eq_true rfl) (fun _ => ?_)
  refine WP.mono h2 (fun v I2 hv2 => ?_)
  obtain ⟨r2, rfl, e2, hs⟩ := hv2
  refine ⟨fun _ q1 q2 => absurd q1 (Nat.not_le.mpr q2), ?_⟩
  show WB G ad0 n0 A p l e room_1 s m args below meth c Qf mLaw cs ss 286 Rf0 535 (lsL i) [.int r2, .int r] I2
  exact wb_icmp_eq (t := 1174) dL_535 rfl (fun _ => K I2 hs) (fun h => absurd e2 h)
theorem lc_14 (sc : Scp ad0 A s L xs) (hL : L ≤ 3072) (hi : 6 * i + 6 ≤ L) (hcs : cs ≤ room_1.cells ∧ ss ≤ room_1.slots) (hI : Sim i I) (K : ∀ I2, Sim (i + 1) I2 → WB G ad0 n0 A p l e room_1 s m args below meth c Qf mLaw cs ss 286 Rf0 1174 (lsL i) [] I2) : WB G ad0 n0 A p l e room_1 s m args below meth c Qf mLaw cs ss 286 Rf0 540 (lsL i) [] I := by
  refine wb_aload_n dL_540 rfl rfl ?_
  refine wb_arg (i := i) (j := 1) (pc' := 546) sc hL dL_541 dL_542 dL_543 rfl dL_544 dL_545 rfl rfl (by omega) rfl ?_
  refine wb_arg (i := i) (j := 2) (pc' := 551) sc hL dL_546 dL_547 dL_548 rfl dL_549 dL_550 rfl rfl (by omega) rfl ?_
  refine wb_call (As := [.int (xs (6 * i + 1)), .int (xs (6 * i + 2))]) dL_551 mlL_74 okX11_habit kd_0 (by decide) okC11.1 rfl rfl (Nat.le_of_ble_eq_true rfl) ⟨(Nat.le_of_ble_eq_true rfl), (Nat.le_of_ble_eq_true rfl)⟩ hcs (Nat.le_of_ble_eq_true rfl) (fun _ => ?_)
  refine WP.mono (t_habit  (xs (6 * i + 1)) (xs (6 * i + 2)) I hI) (fun v I1 hv1 => ?_)
  obtain ⟨r, rfl, h2⟩ := hv1
  refine ⟨fun _ q1 q2 => absurd q1 (Nat.not_le.mpr q2), ?_⟩
  show WB G ad0 n0 A p l e room_1 s m args below meth c Qf mLaw cs ss 286 Rf0 554 (lsL i) [.int r] I1
  refine wb_aload_n dL_554 rfl rfl ?_
  refine wb_arg (i := i) (j := 1) (pc' := 560) sc hL dL_555 dL_556 dL_557 rfl dL_558 dL_559 rfl rfl (by omega) rfl ?_
  refine wb_arg (i := i) (j := 2) (pc' := 565) sc hL dL_560 dL_561 dL_562 rfl dL_563 dL_564 rfl rfl (by omega) rfl ?_
  refine wb_call (As := [.int (xs (6 * i + 1)), .int (xs (6 * i + 2))]) dL_565 mlL_77 okX12_habit kd_261 (by decide) okC12.1 rfl rfl (Nat.le_of_ble_eq_true rfl) ⟨(Nat.le_of_ble_eq_true rfl), (Nat.le_of_ble_eq_true rfl)⟩ hcs (Nat.le_of_ble_eq_true rfl) (fun _ => ?_)
  refine WP.mono h2 (fun v I2 hv2 => ?_)
  obtain ⟨r2, rfl, e2, hs⟩ := hv2
  refine ⟨fun _ q1 q2 => absurd q1 (Nat.not_le.mpr q2), ?_⟩
  show WB G ad0 n0 A p l e room_1 s m args below meth c Qf mLaw cs ss 286 Rf0 568 (lsL i) [.int r2, .int r] I2
  exact wb_icmp_eq (t := 1174) dL_568 rfl (fun _ => K I2 hs) (fun h => absurd e2 h)
theorem lc_15 (sc : Scp ad0 A s L xs) (hL : L ≤ 3072) (hi : 6 * i + 6 ≤ L) (hcs : cs ≤ room_1.cells ∧ ss ≤ room_1.slots) (hI : Sim i I) (K : ∀ I2, Sim (i + 1) I2 → WB G ad0 n0 A p l e room_1 s m args below meth c Qf mLaw cs ss 286 Rf0 1174 (lsL i) [] I2) : WB G ad0 n0 A p l e room_1 s m args below meth c Qf mLaw cs ss 286 Rf0 573 (lsL i) [] I := by
  refine wb_aload_n dL_573 rfl rfl ?_
  refine wb_arg (i := i) (j := 1) (pc' := 579) sc hL dL_574 dL_575 dL_576 rfl dL_577 dL_578 rfl rfl (by omega) rfl ?_
  refine wb_call (As := [.int (xs (6 * i + 1))]) dL_579 mlL_78 okX11_horseStop kd_0 (by decide) okC11.1 rfl rfl (Nat.le_of_ble_eq_true rfl) ⟨(Nat.le_of_ble_eq_true rfl), (Nat.le_of_ble_eq_true rfl)⟩ hcs (Nat.le_of_ble_eq_true rfl) (fun _ => ?_)
  refine WP.mono (t_horseStop (by omega) (xs (6 * i + 1)) I hI) (fun v I1 hv1 => ?_)
  obtain ⟨r, rfl, h2⟩ := hv1
  refine ⟨fun _ q1 q2 => absurd q1 (Nat.not_le.mpr q2), ?_⟩
  show WB G ad0 n0 A p l e room_1 s m args below meth c Qf mLaw cs ss 286 Rf0 582 (lsL i) [.int r] I1
  refine wb_aload_n dL_582 rfl rfl ?_
  refine wb_arg (i := i) (j := 1) (pc' := 588) sc hL dL_583 dL_584 dL_585 rfl dL_586 dL_587 rfl rfl (by omega) rfl ?_
  refine wb_call (As := [.int (xs (6 * i + 1))]) dL_588 mlL_81 okX12_horseStop kd_261 (by decide) okC12.1 rfl rfl (Nat.le_of_ble_eq_true rfl) ⟨(Nat.le_of_ble_eq_true rfl), (Nat.le_of_ble_eq_true rfl)⟩ hcs (Nat.le_of_ble_eq_true rfl) (fun _ => ?_)
  refine WP.mono h2 (fun v I2 hv2 => ?_)
  obtain ⟨r2, rfl, e2, hs⟩ := hv2
  refine ⟨fun _ q1 q2 => absurd q1 (Nat.not_le.mpr q2), ?_⟩
  show WB G ad0 n0 A p l e room_1 s m args below meth c Qf mLaw cs ss 286 Rf0 591 (lsL i) [.int r2, .int r] I2
  exact wb_icmp_eq (t := 1174) dL_591 rfl (fun _ => K I2 hs) (fun h => absurd e2 h)
theorem lc_16 (sc : Scp ad0 A s L xs) (hL : L ≤ 3072) (hi : 6 * i + 6 ≤ L) (hcs : cs ≤ room_1.cells ∧ ss ≤ room_1.slots) (hI : Sim i I) (K : ∀ I2, Sim (i + 1) I2 → WB G ad0 n0 A p l e room_1 s m args below meth c Qf mLaw cs ss 286 Rf0 1174 (lsL i) [] I2) : WB G ad0 n0 A p l e room_1 s m args below meth c Qf mLaw cs ss 286 Rf0 596 (lsL i) [] I := by
  refine wb_aload_n dL_596 rfl rfl ?_
  refine wb_call (As := []) dL_597 mlL_82 okX11_fastestFinish kd_0 (by decide) okC11.1 rfl rfl (Nat.le_of_ble_eq_true rfl) ⟨(Nat.le_of_ble_eq_true rfl), (Nat.le_of_ble_eq_true rfl)⟩ hcs (Nat.le_of_ble_eq_true rfl) (fun _ => ?_)
  refine WP.mono (t_fastestFinish (by omega)  I hI) (fun v I1 hv1 => ?_)
  obtain ⟨r, rfl, h2⟩ := hv1
  refine ⟨fun _ q1 q2 => absurd q1 (Nat.not_le.mpr q2), ?_⟩
  show WB G ad0 n0 A p l e room_1 s m args below meth c Qf mLaw cs ss 286 Rf0 600 (lsL i) [.int r] I1
  refine wb_aload_n dL_600 rfl rfl ?_
  refine wb_call (As := []) dL_601 mlL_85 okX12_fastestFinish kd_261 (by decide) okC12.1 rfl rfl (Nat.le_of_ble_eq_true rfl) ⟨(Nat.le_of_ble_eq_true rfl), (Nat.le_of_ble_eq_true rfl)⟩ hcs (Nat.le_of_ble_eq_true rfl) (fun _ => ?_)
  refine WP.mono h2 (fun v I2 hv2 => ?_)
  obtain ⟨r2, rfl, e2, hs⟩ := hv2
  refine ⟨fun _ q1 q2 => absurd q1 (Nat.not_le.mpr q2), ?_⟩
  show WB G ad0 n0 A p l e room_1 s m args below meth c Qf mLaw cs ss 286 Rf0 604 (lsL i) [.int r2, .int r] I2
  exact wb_icmp_eq (t := 1174) dL_604 rfl (fun _ => K I2 hs) (fun h => absurd e2 h)
theorem lc_17 (sc : Scp ad0 A s L xs) (hL : L ≤ 3072) (hi : 6 * i + 6 ≤ L) (hcs : cs ≤ room_1.cells ∧ ss ≤ room_1.slots) (hI : Sim i I) (K : ∀ I2, Sim (i + 1) I2 → WB G ad0 n0 A p l e room_1 s m args below meth c Qf mLaw cs ss 286 Rf0 1174 (lsL i) [] I2) : WB G ad0 n0 A p l e room_1 s m args below meth c Qf mLaw cs ss 286 Rf0 609 (lsL i) [] I := by
  refine wb_aload_n dL_609 rfl rfl ?_
  refine wb_arg (i := i) (j := 1) (pc' := 615) sc hL dL_610 dL_611 dL_612 rfl dL_613 dL_614 rfl rfl (by omega) rfl ?_
  refine wb_call (As := [.int (xs (6 * i + 1))]) dL_615 mlL_86 okX11_fastestStop kd_0 (by decide) okC11.1 rfl rfl (Nat.le_of_ble_eq_true rfl) ⟨(Nat.le_of_ble_eq_true rfl), (Nat.le_of_ble_eq_true rfl)⟩ hcs (Nat.le_of_ble_eq_true rfl) (fun _ => ?_)
  refine WP.mono (t_fastestStop (by omega) (xs (6 * i + 1)) I hI) (fun v I1 hv1 => ?_)
  obtain ⟨r, rfl, h2⟩ := hv1
  refine ⟨fun _ q1 q2 => absurd q1 (Nat.not_le.mpr q2), ?_⟩
  show WB G ad0 n0 A p l e room_1 s m args below meth c Qf mLaw cs ss 286 Rf0 618 (lsL i) [.int r] I1
  refine wb_aload_n dL_618 rfl rfl ?_
  refine wb_arg (i := i) (j := 1) (pc' := 624) sc hL dL_619 dL_620 dL_621 rfl dL_622 dL_623 rfl rfl (by omega) rfl ?_
  refine wb_call (As := [.int (xs (6 * i + 1))]) dL_624 mlL_89 okX12_fastestStop kd_261 (by decide) okC12.1 rfl rfl (Nat.le_of_ble_eq_true rfl) ⟨(Nat.le_of_ble_eq_true rfl), (Nat.le_of_ble_eq_true rfl)⟩ hcs (Nat.le_of_ble_eq_true rfl) (fun _ => ?_)
  refine WP.mono h2 (fun v I2 hv2 => ?_)
  obtain ⟨r2, rfl, e2, hs⟩ := hv2
  refine ⟨fun _ q1 q2 => absurd q1 (Nat.not_le.mpr q2), ?_⟩
  show WB G ad0 n0 A p l e room_1 s m args below meth c Qf mLaw cs ss 286 Rf0 627 (lsL i) [.int r2, .int r] I2
  exact wb_icmp_eq (t := 1174) dL_627 rfl (fun _ => K I2 hs) (fun h => absurd e2 h)
theorem lc_18 (sc : Scp ad0 A s L xs) (hL : L ≤ 3072) (hi : 6 * i + 6 ≤ L) (hcs : cs ≤ room_1.cells ∧ ss ≤ room_1.slots) (hI : Sim i I) (K : ∀ I2, Sim (i + 1) I2 → WB G ad0 n0 A p l e room_1 s m args below meth c Qf mLaw cs ss 286 Rf0 1174 (lsL i) [] I2) : WB G ad0 n0 A p l e room_1 s m args below meth c Qf mLaw cs ss 286 Rf0 632 (lsL i) [] I := by
  refine wb_aload_n dL_632 rfl rfl ?_
  refine wb_arg (i := i) (j := 1) (pc' := 638) sc hL dL_633 dL_634 dL_635 rfl dL_636 dL_637 rfl rfl (by omega) rfl ?_
  refine wb_call (As := [.int (xs (6 * i + 1))]) dL_638 mlL_90 okX11_previewFinish kd_0 (by decide) okC11.1 rfl rfl (Nat.le_of_ble_eq_true rfl) ⟨(Nat.le_of_ble_eq_true rfl), (Nat.le_of_ble_eq_true rfl)⟩ hcs (Nat.le_of_ble_eq_true rfl) (fun _ => ?_)
  refine WP.mono (t_previewFinish (by omega) (xs (6 * i + 1)) I hI) (fun v I1 hv1 => ?_)
  obtain ⟨r, rfl, h2⟩ := hv1
  refine ⟨fun _ q1 q2 => absurd q1 (Nat.not_le.mpr q2), ?_⟩
  show WB G ad0 n0 A p l e room_1 s m args below meth c Qf mLaw cs ss 286 Rf0 641 (lsL i) [.int r] I1
  refine wb_aload_n dL_641 rfl rfl ?_
  refine wb_arg (i := i) (j := 1) (pc' := 647) sc hL dL_642 dL_643 dL_644 rfl dL_645 dL_646 rfl rfl (by omega) rfl ?_
  refine wb_call (As := [.int (xs (6 * i + 1))]) dL_647 mlL_93 okX12_previewFinish kd_261 (by decide) okC12.1 rfl rfl (Nat.le_of_ble_eq_true rfl) ⟨(Nat.le_of_ble_eq_true rfl), (Nat.le_of_ble_eq_true rfl)⟩ hcs (Nat.le_of_ble_eq_true rfl) (fun _ => ?_)
  refine WP.mono h2 (fun v I2 hv2 => ?_)
  obtain ⟨r2, rfl, e2, hs⟩ := hv2
  refine ⟨fun _ q1 q2 => absurd q1 (Nat.not_le.mpr q2), ?_⟩
  show WB G ad0 n0 A p l e room_1 s m args below meth c Qf mLaw cs ss 286 Rf0 650 (lsL i) [.int r2, .int r] I2
  exact wb_icmp_eq (t := 1174) dL_650 rfl (fun _ => K I2 hs) (fun h => absurd e2 h)
theorem lc_19 (sc : Scp ad0 A s L xs) (hL : L ≤ 3072) (hi : 6 * i + 6 ≤ L) (hcs : cs ≤ room_1.cells ∧ ss ≤ room_1.slots) (hI : Sim i I) (K : ∀ I2, Sim (i + 1) I2 → WB G ad0 n0 A p l e room_1 s m args below meth c Qf mLaw cs ss 286 Rf0 1174 (lsL i) [] I2) : WB G ad0 n0 A p l e room_1 s m args below meth c Qf mLaw cs ss 286 Rf0 655 (lsL i) [] I := by
  refine wb_aload_n dL_655 rfl rfl ?_
  refine wb_arg (i := i) (j := 1) (pc' := 661) sc hL dL_656 dL_657 dL_658 rfl dL_659 dL_660 rfl rfl (by omega) rfl ?_
  refine wb_call (As := [.int (xs (6 * i + 1))]) dL_661 mlL_94 okX11_bottlesAt kd_0 (by decide) okC11.1 rfl rfl (Nat.le_of_ble_eq_true rfl) ⟨(Nat.le_of_ble_eq_true rfl), (Nat.le_of_ble_eq_true rfl)⟩ hcs (Nat.le_of_ble_eq_true rfl) (fun _ => ?_)
  refine WP.mono (t_bottlesAt  (xs (6 * i + 1)) I hI) (fun v I1 hv1 => ?_)
  obtain ⟨r, rfl, h2⟩ := hv1
  refine ⟨fun _ q1 q2 => absurd q1 (Nat.not_le.mpr q2), ?_⟩
  show WB G ad0 n0 A p l e room_1 s m args below meth c Qf mLaw cs ss 286 Rf0 664 (lsL i) [.int r] I1
  refine wb_aload_n dL_664 rfl rfl ?_
  refine wb_arg (i := i) (j := 1) (pc' := 670) sc hL dL_665 dL_666 dL_667 rfl dL_668 dL_669 rfl rfl (by omega) rfl ?_
  refine wb_call (As := [.int (xs (6 * i + 1))]) dL_670 mlL_97 okX12_bottlesAt kd_261 (by decide) okC12.1 rfl rfl (Nat.le_of_ble_eq_true rfl) ⟨(Nat.le_of_ble_eq_true rfl), (Nat.le_of_ble_eq_true rfl)⟩ hcs (Nat.le_of_ble_eq_true rfl) (fun _ => ?_)
  refine WP.mono h2 (fun v I2 hv2 => ?_)
  obtain ⟨r2, rfl, e2, hs⟩ := hv2
  refine ⟨fun _ q1 q2 => absurd q1 (Nat.not_le.mpr q2), ?_⟩
  show WB G ad0 n0 A p l e room_1 s m args below meth c Qf mLaw cs ss 286 Rf0 673 (lsL i) [.int r2, .int r] I2
  exact wb_icmp_eq (t := 1174) dL_673 rfl (fun _ => K I2 hs) (fun h => absurd e2 h)
theorem lc_20 (sc : Scp ad0 A s L xs) (hL : L ≤ 3072) (hi : 6 * i + 6 ≤ L) (hcs : cs ≤ room_1.cells ∧ ss ≤ room_1.slots) (hI : Sim i I) (K : ∀ I2, Sim (i + 1) I2 → WB G ad0 n0 A p l e room_1 s m args below meth c Qf mLaw cs ss 286 Rf0 1174 (lsL i) [] I2) : WB G ad0 n0 A p l e room_1 s m args below meth c Qf mLaw cs ss 286 Rf0 678 (lsL i) [] I := by
  refine wb_aload_n dL_678 rfl rfl ?_
  refine wb_arg (i := i) (j := 1) (pc' := 684) sc hL dL_679 dL_680 dL_681 rfl dL_682 dL_683 rfl rfl (by omega) rfl ?_
  refine wb_call (As := [.int (xs (6 * i + 1))]) dL_684 mlL_98 okX11_delivered kd_0 (by decide) okC11.1 rfl rfl (Nat.le_of_ble_eq_true rfl) ⟨(Nat.le_of_ble_eq_true rfl), (Nat.le_of_ble_eq_true rfl)⟩ hcs (Nat.le_of_ble_eq_true rfl) (fun _ => ?_)
  refine WP.mono (t_delivered  (xs (6 * i + 1)) I hI) (fun v I1 hv1 => ?_)
  obtain ⟨r, rfl, h2⟩ := hv1
  refine ⟨fun _ q1 q2 => absurd q1 (Nat.not_le.mpr q2), ?_⟩
  show WB G ad0 n0 A p l e room_1 s m args below meth c Qf mLaw cs ss 286 Rf0 687 (lsL i) [.int r] I1
  refine wb_aload_n dL_687 rfl rfl ?_
  refine wb_arg (i := i) (j := 1) (pc' := 693) sc hL dL_688 dL_689 dL_690 rfl dL_691 dL_692 rfl rfl (by omega) rfl ?_
  refine wb_call (As := [.int (xs (6 * i + 1))]) dL_693 mlL_101 okX12_delivered kd_261 (by decide) okC12.1 rfl rfl (Nat.le_of_ble_eq_true rfl) ⟨(Nat.le_of_ble_eq_true rfl), (Nat.le_of_ble_eq_true rfl)⟩ hcs (Nat.le_of_ble_eq_true rfl) (fun _ => ?_)
  refine WP.mono h2 (fun v I2 hv2 => ?_)
  obtain ⟨r2, rfl, e2, hs⟩ := hv2
  refine ⟨fun _ q1 q2 => absurd q1 (Nat.not_le.mpr q2), ?_⟩
  show WB G ad0 n0 A p l e room_1 s m args below meth c Qf mLaw cs ss 286 Rf0 696 (lsL i) [.int r2, .int r] I2
  exact wb_icmp_eq (t := 1174) dL_696 rfl (fun _ => K I2 hs) (fun h => absurd e2 h)
theorem lc_21 (sc : Scp ad0 A s L xs) (hL : L ≤ 3072) (hi : 6 * i + 6 ≤ L) (hcs : cs ≤ room_1.cells ∧ ss ≤ room_1.slots) (hI : Sim i I) (K : ∀ I2, Sim (i + 1) I2 → WB G ad0 n0 A p l e room_1 s m args below meth c Qf mLaw cs ss 286 Rf0 1174 (lsL i) [] I2) : WB G ad0 n0 A p l e room_1 s m args below meth c Qf mLaw cs ss 286 Rf0 701 (lsL i) [] I := by
  refine wb_aload_n dL_701 rfl rfl ?_
  refine wb_arg (i := i) (j := 1) (pc' := 707) sc hL dL_702 dL_703 dL_704 rfl dL_705 dL_706 rfl rfl (by omega) rfl ?_
  refine wb_call (As := [.int (xs (6 * i + 1))]) dL_707 mlL_102 okX11_returned kd_0 (by decide) okC11.1 rfl rfl (Nat.le_of_ble_eq_true rfl) ⟨(Nat.le_of_ble_eq_true rfl), (Nat.le_of_ble_eq_true rfl)⟩ hcs (Nat.le_of_ble_eq_true rfl) (fun _ => ?_)
  refine WP.mono (t_returned  (xs (6 * i + 1)) I hI) (fun v I1 hv1 => ?_)
  obtain ⟨r, rfl, h2⟩ := hv1
  refine ⟨fun _ q1 q2 => absurd q1 (Nat.not_le.mpr q2), ?_⟩
  show WB G ad0 n0 A p l e room_1 s m args below meth c Qf mLaw cs ss 286 Rf0 710 (lsL i) [.int r] I1
  refine wb_aload_n dL_710 rfl rfl ?_
  refine wb_arg (i := i) (j := 1) (pc' := 716) sc hL dL_711 dL_712 dL_713 rfl dL_714 dL_715 rfl rfl (by omega) rfl ?_
  refine wb_call (As := [.int (xs (6 * i + 1))]) dL_716 mlL_105 okX12_returned kd_261 (by decide) okC12.1 rfl rfl (Nat.le_of_ble_eq_true rfl) ⟨(Nat.le_of_ble_eq_true rfl), (Nat.le_of_ble_eq_true rfl)⟩ hcs (Nat.le_of_ble_eq_true rfl) (fun _ => ?_)
  refine WP.mono h2 (fun v I2 hv2 => ?_)
  obtain ⟨r2, rfl, e2, hs⟩ := hv2
  refine ⟨fun _ q1 q2 => absurd q1 (Nat.not_le.mpr q2), ?_⟩
  show WB G ad0 n0 A p l e room_1 s m args below meth c Qf mLaw cs ss 286 Rf0 719 (lsL i) [.int r2, .int r] I2
  exact wb_icmp_eq (t := 1174) dL_719 rfl (fun _ => K I2 hs) (fun h => absurd e2 h)
theorem lc_22 (sc : Scp ad0 A s L xs) (hL : L ≤ 3072) (hi : 6 * i + 6 ≤ L) (hcs : cs ≤ room_1.cells ∧ ss ≤ room_1.slots) (hI : Sim i I) (K : ∀ I2, Sim (i + 1) I2 → WB G ad0 n0 A p l e room_1 s m args below meth c Qf mLaw cs ss 286 Rf0 1174 (lsL i) [] I2) : WB G ad0 n0 A p l e room_1 s m args below meth c Qf mLaw cs ss 286 Rf0 724 (lsL i) [] I := by
  refine wb_aload_n dL_724 rfl rfl ?_
  refine wb_arg (i := i) (j := 1) (pc' := 730) sc hL dL_725 dL_726 dL_727 rfl dL_728 dL_729 rfl rfl (by omega) rfl ?_
  refine wb_call (As := [.int (xs (6 * i + 1))]) dL_730 mlL_106 okX11_broken kd_0 (by decide) okC11.1 rfl rfl (Nat.le_of_ble_eq_true rfl) ⟨(Nat.le_of_ble_eq_true rfl), (Nat.le_of_ble_eq_true rfl)⟩ hcs (Nat.le_of_ble_eq_true rfl) (fun _ => ?_)
  refine WP.mono (t_broken  (xs (6 * i + 1)) I hI) (fun v I1 hv1 => ?_)
  obtain ⟨r, rfl, h2⟩ := hv1
  refine ⟨fun _ q1 q2 => absurd q1 (Nat.not_le.mpr q2), ?_⟩
  show WB G ad0 n0 A p l e room_1 s m args below meth c Qf mLaw cs ss 286 Rf0 733 (lsL i) [.int r] I1
  refine wb_aload_n dL_733 rfl rfl ?_
  refine wb_arg (i := i) (j := 1) (pc' := 739) sc hL dL_734 dL_735 dL_736 rfl dL_737 dL_738 rfl rfl (by omega) rfl ?_
  refine wb_call (As := [.int (xs (6 * i + 1))]) dL_739 mlL_109 okX12_broken kd_261 (by decide) okC12.1 rfl rfl (Nat.le_of_ble_eq_true rfl) ⟨(Nat.le_of_ble_eq_true rfl), (Nat.le_of_ble_eq_true rfl)⟩ hcs (Nat.le_of_ble_eq_true rfl) (fun _ => ?_)
  refine WP.mono h2 (fun v I2 hv2 => ?_)
  obtain ⟨r2, rfl, e2, hs⟩ := hv2
  refine ⟨fun _ q1 q2 => absurd q1 (Nat.not_le.mpr q2), ?_⟩
  show WB G ad0 n0 A p l e room_1 s m args below meth c Qf mLaw cs ss 286 Rf0 742 (lsL i) [.int r2, .int r] I2
  exact wb_icmp_eq (t := 1174) dL_742 rfl (fun _ => K I2 hs) (fun h => absurd e2 h)
theorem lc_23 (sc : Scp ad0 A s L xs) (hL : L ≤ 3072) (hi : 6 * i + 6 ≤ L) (hcs : cs ≤ room_1.cells ∧ ss ≤ room_1.slots) (hI : Sim i I) (K : ∀ I2, Sim (i + 1) I2 → WB G ad0 n0 A p l e room_1 s m args below meth c Qf mLaw cs ss 286 Rf0 1174 (lsL i) [] I2) : WB G ad0 n0 A p l e room_1 s m args below meth c Qf mLaw cs ss 286 Rf0 747 (lsL i) [] I := by
  refine wb_aload_n dL_747 rfl rfl ?_
  refine wb_arg (i := i) (j := 1) (pc' := 753) sc hL dL_748 dL_749 dL_750 rfl dL_751 dL_752 rfl rfl (by omega) rfl ?_
  refine wb_call (As := [.int (xs (6 * i + 1))]) dL_753 mlL_110 okX11_bill kd_0 (by decide) okC11.1 rfl rfl (Nat.le_of_ble_eq_true rfl) ⟨(Nat.le_of_ble_eq_true rfl), (Nat.le_of_ble_eq_true rfl)⟩ hcs (Nat.le_of_ble_eq_true rfl) (fun _ => ?_)
  refine WP.mono (t_bill  (xs (6 * i + 1)) I hI) (fun v I1 hv1 => ?_)
  obtain ⟨r, rfl, h2⟩ := hv1
  refine ⟨fun _ q1 q2 => absurd q1 (Nat.not_le.mpr q2), ?_⟩
  show WB G ad0 n0 A p l e room_1 s m args below meth c Qf mLaw cs ss 286 Rf0 756 (lsL i) [.int r] I1
  refine wb_aload_n dL_756 rfl rfl ?_
  refine wb_arg (i := i) (j := 1) (pc' := 762) sc hL dL_757 dL_758 dL_759 rfl dL_760 dL_761 rfl rfl (by omega) rfl ?_
  refine wb_call (As := [.int (xs (6 * i + 1))]) dL_762 mlL_113 okX12_bill kd_261 (by decide) okC12.1 rfl rfl (Nat.le_of_ble_eq_true rfl) ⟨(Nat.le_of_ble_eq_true rfl), (Nat.le_of_ble_eq_true rfl)⟩ hcs (Nat.le_of_ble_eq_true rfl) (fun _ => ?_)
  refine WP.mono h2 (fun v I2 hv2 => ?_)
  obtain ⟨r2, rfl, e2, hs⟩ := hv2
  refine ⟨fun _ q1 q2 => absurd q1 (Nat.not_le.mpr q2), ?_⟩
  show WB G ad0 n0 A p l e room_1 s m args below meth c Qf mLaw cs ss 286 Rf0 765 (lsL i) [.int r2, .int r] I2
  exact wb_icmp_eq (t := 1174) dL_765 rfl (fun _ => K I2 hs) (fun h => absurd e2 h)
theorem lc_24 (sc : Scp ad0 A s L xs) (hL : L ≤ 3072) (hi : 6 * i + 6 ≤ L) (hcs : cs ≤ room_1.cells ∧ ss ≤ room_1.slots) (hI : Sim i I) (K : ∀ I2, Sim (i + 1) I2 → WB G ad0 n0 A p l e room_1 s m args below meth c Qf mLaw cs ss 286 Rf0 1174 (lsL i) [] I2) : WB G ad0 n0 A p l e room_1 s m args below meth c Qf mLaw cs ss 286 Rf0 770 (lsL i) [] I := by
  refine wb_aload_n dL_770 rfl rfl ?_
  refine wb_call (As := []) dL_771 mlL_114 okX11_bottlesOut kd_0 (by decide) okC11.1 rfl rfl (Nat.le_of_ble_eq_true rfl) ⟨(Nat.le_of_ble_eq_true rfl), (Nat.le_of_ble_eq_true rfl)⟩ hcs (Nat.le_of_ble_eq_true rfl) (fun _ => ?_)
  refine WP.mono (t_bottlesOut   I hI) (fun v I1 hv1 => ?_)
  obtain ⟨r, rfl, h2⟩ := hv1
  refine ⟨fun _ q1 q2 => absurd q1 (Nat.not_le.mpr q2), ?_⟩
  show WB G ad0 n0 A p l e room_1 s m args below meth c Qf mLaw cs ss 286 Rf0 774 (lsL i) [.int r] I1
  refine wb_aload_n dL_774 rfl rfl ?_
  refine wb_call (As := []) dL_775 mlL_117 okX12_bottlesOut kd_261 (by decide) okC12.1 rfl rfl (Nat.le_of_ble_eq_true rfl) ⟨(Nat.le_of_ble_eq_true rfl), (Nat.le_of_ble_eq_true rfl)⟩ hcs (Nat.le_of_ble_eq_true rfl) (fun _ => ?_)
  refine WP.mono h2 (fun v I2 hv2 => ?_)
  obtain ⟨r2, rfl, e2, hs⟩ := hv2
  refine ⟨fun _ q1 q2 => absurd q1 (Nat.not_le.mpr q2), ?_⟩
  show WB G ad0 n0 A p l e room_1 s m args below meth c Qf mLaw cs ss 286 Rf0 778 (lsL i) [.int r2, .int r] I2
  exact wb_icmp_eq (t := 1174) dL_778 rfl (fun _ => K I2 hs) (fun h => absurd e2 h)
theorem lc_25 (sc : Scp ad0 A s L xs) (hL : L ≤ 3072) (hi : 6 * i + 6 ≤ L) (hcs : cs ≤ room_1.cells ∧ ss ≤ room_1.slots) (hI : Sim i I) (K : ∀ I2, Sim (i + 1) I2 → WB G ad0 n0 A p l e room_1 s m args below meth c Qf mLaw cs ss 286 Rf0 1174 (lsL i) [] I2) : WB G ad0 n0 A p l e room_1 s m args below meth c Qf mLaw cs ss 286 Rf0 783 (lsL i) [] I := by
  refine wb_aload_n dL_783 rfl rfl ?_
  refine wb_call (As := []) dL_784 mlL_118 okX11_finish kd_0 (by decide) okC11.1 rfl rfl (Nat.le_of_ble_eq_true rfl) ⟨(Nat.le_of_ble_eq_true rfl), (Nat.le_of_ble_eq_true rfl)⟩ hcs (Nat.le_of_ble_eq_true rfl) (fun _ => ?_)
  refine WP.mono (t_finish   I hI) (fun v I1 hv1 => ?_)
  obtain ⟨r, rfl, h2⟩ := hv1
  refine ⟨fun _ q1 q2 => absurd q1 (Nat.not_le.mpr q2), ?_⟩
  show WB G ad0 n0 A p l e room_1 s m args below meth c Qf mLaw cs ss 286 Rf0 787 (lsL i) [.int r] I1
  refine wb_aload_n dL_787 rfl rfl ?_
  refine wb_call (As := []) dL_788 mlL_121 okX12_finish kd_261 (by decide) okC12.1 rfl rfl (Nat.le_of_ble_eq_true rfl) ⟨(Nat.le_of_ble_eq_true rfl), (Nat.le_of_ble_eq_true rfl)⟩ hcs (Nat.le_of_ble_eq_true rfl) (fun _ => ?_)
  refine WP.mono h2 (fun v I2 hv2 => ?_)
  obtain ⟨r2, rfl, e2, hs⟩ := hv2
  refine ⟨fun _ q1 q2 => absurd q1 (Nat.not_le.mpr q2), ?_⟩
  show WB G ad0 n0 A p l e room_1 s m args below meth c Qf mLaw cs ss 286 Rf0 791 (lsL i) [.int r2, .int r] I2
  exact wb_icmp_eq (t := 1174) dL_791 rfl (fun _ => K I2 hs) (fun h => absurd e2 h)
theorem lc_26 (sc : Scp ad0 A s L xs) (hL : L ≤ 3072) (hi : 6 * i + 6 ≤ L) (hcs : cs ≤ room_1.cells ∧ ss ≤ room_1.slots) (hI : Sim i I) (K : ∀ I2, Sim (i + 1) I2 → WB G ad0 n0 A p l e room_1 s m args below meth c Qf mLaw cs ss 286 Rf0 1174 (lsL i) [] I2) : WB G ad0 n0 A p l e room_1 s m args below meth c Qf mLaw cs ss 286 Rf0 796 (lsL i) [] I := by
  refine wb_aload_n dL_796 rfl rfl ?_
  refine wb_call (As := []) dL_797 mlL_122 okX11_visitCount kd_0 (by decide) okC11.1 rfl rfl (Nat.le_of_ble_eq_true rfl) ⟨(Nat.le_of_ble_eq_true rfl), (Nat.le_of_ble_eq_true rfl)⟩ hcs (Nat.le_of_ble_eq_true rfl) (fun _ => ?_)
  refine WP.mono (t_visitCount   I hI) (fun v I1 hv1 => ?_)
  obtain ⟨r, rfl, h2⟩ := hv1
  refine ⟨fun _ q1 q2 => absurd q1 (Nat.not_le.mpr q2), ?_⟩
  show WB G ad0 n0 A p l e room_1 s m args below meth c Qf mLaw cs ss 286 Rf0 800 (lsL i) [.int r] I1
  refine wb_aload_n dL_800 rfl rfl ?_
  refine wb_call (As := []) dL_801 mlL_125 okX12_visitCount kd_261 (by decide) okC12.1 rfl rfl (Nat.le_of_ble_eq_true rfl) ⟨(Nat.le_of_ble_eq_true rfl), (Nat.le_of_ble_eq_true rfl)⟩ hcs (Nat.le_of_ble_eq_true rfl) (fun _ => ?_)
  refine WP.mono h2 (fun v I2 hv2 => ?_)
  obtain ⟨r2, rfl, e2, hs⟩ := hv2
  refine ⟨fun _ q1 q2 => absurd q1 (Nat.not_le.mpr q2), ?_⟩
  show WB G ad0 n0 A p l e room_1 s m args below meth c Qf mLaw cs ss 286 Rf0 804 (lsL i) [.int r2, .int r] I2
  exact wb_icmp_eq (t := 1174) dL_804 rfl (fun _ => K I2 hs) (fun h => absurd e2 h)
theorem lc_27 (sc : Scp ad0 A s L xs) (hL : L ≤ 3072) (hi : 6 * i + 6 ≤ L) (hcs : cs ≤ room_1.cells ∧ ss ≤ room_1.slots) (hI : Sim i I) (K : ∀ I2, Sim (i + 1) I2 → WB G ad0 n0 A p l e room_1 s m args below meth c Qf mLaw cs ss 286 Rf0 1174 (lsL i) [] I2) : WB G ad0 n0 A p l e room_1 s m args below meth c Qf mLaw cs ss 286 Rf0 809 (lsL i) [] I := by
  refine wb_aload_n dL_809 rfl rfl ?_
  refine wb_arg (i := i) (j := 1) (pc' := 815) sc hL dL_810 dL_811 dL_812 rfl dL_813 dL_814 rfl rfl (by omega) rfl ?_
  refine wb_call (As := [.int (xs (6 * i + 1))]) dL_815 mlL_126 okX11_visitHouse kd_0 (by decide) okC11.1 rfl rfl (Nat.le_of_ble_eq_true rfl) ⟨(Nat.le_of_ble_eq_true rfl), (Nat.le_of_ble_eq_true rfl)⟩ hcs (Nat.le_of_ble_eq_true rfl) (fun _ => ?_)
  refine WP.mono (t_visitHouse  (xs (6 * i + 1)) I hI) (fun v I1 hv1 => ?_)
  obtain ⟨r, rfl, h2⟩ := hv1
  refine ⟨fun _ q1 q2 => absurd q1 (Nat.not_le.mpr q2), ?_⟩
  show WB G ad0 n0 A p l e room_1 s m args below meth c Qf mLaw cs ss 286 Rf0 818 (lsL i) [.int r] I1
  refine wb_aload_n dL_818 rfl rfl ?_
  refine wb_arg (i := i) (j := 1) (pc' := 824) sc hL dL_819 dL_820 dL_821 rfl dL_822 dL_823 rfl rfl (by omega) rfl ?_
  refine wb_call (As := [.int (xs (6 * i + 1))]) dL_824 mlL_129 okX12_visitHouse kd_261 (by decide) okC12.1 rfl rfl (Nat.le_of_ble_eq_true rfl) ⟨(Nat.le_of_ble_eq_true rfl), (Nat.le_of_ble_eq_true rfl)⟩ hcs (Nat.le_of_ble_eq_true rfl) (fun _ => ?_)
  refine WP.mono h2 (fun v I2 hv2 => ?_)
  obtain ⟨r2, rfl, e2, hs⟩ := hv2
  refine ⟨fun _ q1 q2 => absurd q1 (Nat.not_le.mpr q2), ?_⟩
  show WB G ad0 n0 A p l e room_1 s m args below meth c Qf mLaw cs ss 286 Rf0 827 (lsL i) [.int r2, .int r] I2
  exact wb_icmp_eq (t := 1174) dL_827 rfl (fun _ => K I2 hs) (fun h => absurd e2 h)
theorem lc_28 (sc : Scp ad0 A s L xs) (hL : L ≤ 3072) (hi : 6 * i + 6 ≤ L) (hcs : cs ≤ room_1.cells ∧ ss ≤ room_1.slots) (hI : Sim i I) (K : ∀ I2, Sim (i + 1) I2 → WB G ad0 n0 A p l e room_1 s m args below meth c Qf mLaw cs ss 286 Rf0 1174 (lsL i) [] I2) : WB G ad0 n0 A p l e room_1 s m args below meth c Qf mLaw cs ss 286 Rf0 832 (lsL i) [] I := by
  refine wb_aload_n dL_832 rfl rfl ?_
  refine wb_arg (i := i) (j := 1) (pc' := 838) sc hL dL_833 dL_834 dL_835 rfl dL_836 dL_837 rfl rfl (by omega) rfl ?_
  refine wb_call (As := [.int (xs (6 * i + 1))]) dL_838 mlL_130 okX11_visitMinute kd_0 (by decide) okC11.1 rfl rfl (Nat.le_of_ble_eq_true rfl) ⟨(Nat.le_of_ble_eq_true rfl), (Nat.le_of_ble_eq_true rfl)⟩ hcs (Nat.le_of_ble_eq_true rfl) (fun _ => ?_)
  refine WP.mono (t_visitMinute  (xs (6 * i + 1)) I hI) (fun v I1 hv1 => ?_)
  obtain ⟨r, rfl, h2⟩ := hv1
  refine ⟨fun _ q1 q2 => absurd q1 (Nat.not_le.mpr q2), ?_⟩
  show WB G ad0 n0 A p l e room_1 s m args below meth c Qf mLaw cs ss 286 Rf0 841 (lsL i) [.int r] I1
  refine wb_aload_n dL_841 rfl rfl ?_
  refine wb_arg (i := i) (j := 1) (pc' := 847) sc hL dL_842 dL_843 dL_844 rfl dL_845 dL_846 rfl rfl (by omega) rfl ?_
  refine wb_call (As := [.int (xs (6 * i + 1))]) dL_847 mlL_133 okX12_visitMinute kd_261 (by decide) okC12.1 rfl rfl (Nat.le_of_ble_eq_true rfl) ⟨(Nat.le_of_ble_eq_true rfl), (Nat.le_of_ble_eq_true rfl)⟩ hcs (Nat.le_of_ble_eq_true rfl) (fun _ => ?_)
  refine WP.mono h2 (fun v I2 hv2 => ?_)
  obtain ⟨r2, rfl, e2, hs⟩ := hv2
  refine ⟨fun _ q1 q2 => absurd q1 (Nat.not_le.mpr q2), ?_⟩
  show WB G ad0 n0 A p l e room_1 s m args below meth c Qf mLaw cs ss 286 Rf0 850 (lsL i) [.int r2, .int r] I2
  exact wb_icmp_eq (t := 1174) dL_850 rfl (fun _ => K I2 hs) (fun h => absurd e2 h)
theorem lc_29 (sc : Scp ad0 A s L xs) (hL : L ≤ 3072) (hi : 6 * i + 6 ≤ L) (hcs : cs ≤ room_1.cells ∧ ss ≤ room_1.slots) (hI : Sim i I) (K : ∀ I2, Sim (i + 1) I2 → WB G ad0 n0 A p l e room_1 s m args below meth c Qf mLaw cs ss 286 Rf0 1174 (lsL i) [] I2) : WB G ad0 n0 A p l e room_1 s m args below meth c Qf mLaw cs ss 286 Rf0 855 (lsL i) [] I := by
  refine wb_aload_n dL_855 rfl rfl ?_
  refine wb_arg (i := i) (j := 1) (pc' := 861) sc hL dL_856 dL_857 dL_858 rfl dL_859 dL_860 rfl rfl (by omega) rfl ?_
  refine wb_call (As := [.int (xs (6 * i + 1))]) dL_861 mlL_134 okX11_visitReturned kd_0 (by decide) okC11.1 rfl rfl (Nat.le_of_ble_eq_true rfl) ⟨(Nat.le_of_ble_eq_true rfl), (Nat.le_of_ble_eq_true rfl)⟩ hcs (Nat.le_of_ble_eq_true rfl) (fun _ => ?_)
  refine WP.mono (t_visitReturned  (xs (6 * i + 1)) I hI) (fun v I1 hv1 => ?_)
  obtain ⟨r, rfl, h2⟩ := hv1
  refine ⟨fun _ q1 q2 => absurd q1 (Nat.not_le.mpr q2), ?_⟩
  show WB G ad0 n0 A p l e room_1 s m args below meth c Qf mLaw cs ss 286 Rf0 864 (lsL i) [.int r] I1
  refine wb_aload_n dL_864 rfl rfl ?_
  refine wb_arg (i := i) (j := 1) (pc' := 870) sc hL dL_865 dL_866 dL_867 rfl dL_868 dL_869 rfl rfl (by omega) rfl ?_
  refine wb_call (As := [.int (xs (6 * i + 1))]) dL_870 mlL_137 okX12_visitReturned kd_261 (by decide) okC12.1 rfl rfl (Nat.le_of_ble_eq_true rfl) ⟨(Nat.le_of_ble_eq_true rfl), (Nat.le_of_ble_eq_true rfl)⟩ hcs (Nat.le_of_ble_eq_true rfl) (fun _ => ?_)
  refine WP.mono h2 (fun v I2 hv2 => ?_)
  obtain ⟨r2, rfl, e2, hs⟩ := hv2
  refine ⟨fun _ q1 q2 => absurd q1 (Nat.not_le.mpr q2), ?_⟩
  show WB G ad0 n0 A p l e room_1 s m args below meth c Qf mLaw cs ss 286 Rf0 873 (lsL i) [.int r2, .int r] I2
  exact wb_icmp_eq (t := 1174) dL_873 rfl (fun _ => K I2 hs) (fun h => absurd e2 h)
theorem lc_30 (sc : Scp ad0 A s L xs) (hL : L ≤ 3072) (hi : 6 * i + 6 ≤ L) (hcs : cs ≤ room_1.cells ∧ ss ≤ room_1.slots) (hI : Sim i I) (K : ∀ I2, Sim (i + 1) I2 → WB G ad0 n0 A p l e room_1 s m args below meth c Qf mLaw cs ss 286 Rf0 1174 (lsL i) [] I2) : WB G ad0 n0 A p l e room_1 s m args below meth c Qf mLaw cs ss 286 Rf0 878 (lsL i) [] I := by
  refine wb_aload_n dL_878 rfl rfl ?_
  refine wb_call (As := []) dL_879 mlL_138 okX11_reloads kd_0 (by decide) okC11.1 rfl rfl (Nat.le_of_ble_eq_true rfl) ⟨(Nat.le_of_ble_eq_true rfl), (Nat.le_of_ble_eq_true rfl)⟩ hcs (Nat.le_of_ble_eq_true rfl) (fun _ => ?_)
  refine WP.mono (t_reloads   I hI) (fun v I1 hv1 => ?_)
  obtain ⟨r, rfl, h2⟩ := hv1
  refine ⟨fun _ q1 q2 => absurd q1 (Nat.not_le.mpr q2), ?_⟩
  show WB G ad0 n0 A p l e room_1 s m args below meth c Qf mLaw cs ss 286 Rf0 882 (lsL i) [.int r] I1
  refine wb_aload_n dL_882 rfl rfl ?_
  refine wb_call (As := []) dL_883 mlL_141 okX12_reloads kd_261 (by decide) okC12.1 rfl rfl (Nat.le_of_ble_eq_true rfl) ⟨(Nat.le_of_ble_eq_true rfl), (Nat.le_of_ble_eq_true rfl)⟩ hcs (Nat.le_of_ble_eq_true rfl) (fun _ => ?_)
  refine WP.mono h2 (fun v I2 hv2 => ?_)
  obtain ⟨r2, rfl, e2, hs⟩ := hv2
  refine ⟨fun _ q1 q2 => absurd q1 (Nat.not_le.mpr q2), ?_⟩
  show WB G ad0 n0 A p l e room_1 s m args below meth c Qf mLaw cs ss 286 Rf0 886 (lsL i) [.int r2, .int r] I2
  exact wb_icmp_eq (t := 1174) dL_886 rfl (fun _ => K I2 hs) (fun h => absurd e2 h)
theorem lc_31 (sc : Scp ad0 A s L xs) (hL : L ≤ 3072) (hi : 6 * i + 6 ≤ L) (hcs : cs ≤ room_1.cells ∧ ss ≤ room_1.slots) (hI : Sim i I) (K : ∀ I2, Sim (i + 1) I2 → WB G ad0 n0 A p l e room_1 s m args below meth c Qf mLaw cs ss 286 Rf0 1174 (lsL i) [] I2) : WB G ad0 n0 A p l e room_1 s m args below meth c Qf mLaw cs ss 286 Rf0 891 (lsL i) [] I := by
  refine wb_aload_n dL_891 rfl rfl ?_
  refine wb_arg (i := i) (j := 1) (pc' := 897) sc hL dL_892 dL_893 dL_894 rfl dL_895 dL_896 rfl rfl (by omega) rfl ?_
  refine wb_call (As := [.int (xs (6 * i + 1))]) dL_897 mlL_142 okX11_carryOut kd_0 (by decide) okC11.1 rfl rfl (Nat.le_of_ble_eq_true rfl) ⟨(Nat.le_of_ble_eq_true rfl), (Nat.le_of_ble_eq_true rfl)⟩ hcs (Nat.le_of_ble_eq_true rfl) (fun _ => ?_)
  refine WP.mono (t_carryOut (by omega) (xs (6 * i + 1)) I hI) (fun v I1 hv1 => ?_)
  obtain ⟨r, rfl, h2⟩ := hv1
  refine ⟨fun _ q1 q2 => absurd q1 (Nat.not_le.mpr q2), ?_⟩
  show WB G ad0 n0 A p l e room_1 s m args below meth c Qf mLaw cs ss 286 Rf0 900 (lsL i) [.int r] I1
  refine wb_aload_n dL_900 rfl rfl ?_
  refine wb_arg (i := i) (j := 1) (pc' := 906) sc hL dL_901 dL_902 dL_903 rfl dL_904 dL_905 rfl rfl (by omega) rfl ?_
  refine wb_call (As := [.int (xs (6 * i + 1))]) dL_906 mlL_145 okX12_carryOut kd_261 (by decide) okC12.1 rfl rfl (Nat.le_of_ble_eq_true rfl) ⟨(Nat.le_of_ble_eq_true rfl), (Nat.le_of_ble_eq_true rfl)⟩ hcs (Nat.le_of_ble_eq_true rfl) (fun _ => ?_)
  refine WP.mono h2 (fun v I2 hv2 => ?_)
  obtain ⟨r2, rfl, e2, hs⟩ := hv2
  refine ⟨fun _ q1 q2 => absurd q1 (Nat.not_le.mpr q2), ?_⟩
  show WB G ad0 n0 A p l e room_1 s m args below meth c Qf mLaw cs ss 286 Rf0 909 (lsL i) [.int r2, .int r] I2
  exact wb_icmp_eq (t := 1174) dL_909 rfl (fun _ => K I2 hs) (fun h => absurd e2 h)
theorem lc_32 (sc : Scp ad0 A s L xs) (hL : L ≤ 3072) (hi : 6 * i + 6 ≤ L) (hcs : cs ≤ room_1.cells ∧ ss ≤ room_1.slots) (hI : Sim i I) (K : ∀ I2, Sim (i + 1) I2 → WB G ad0 n0 A p l e room_1 s m args below meth c Qf mLaw cs ss 286 Rf0 1174 (lsL i) [] I2) : WB G ad0 n0 A p l e room_1 s m args below meth c Qf mLaw cs ss 286 Rf0 914 (lsL i) [] I := by
  by_cases hv : xs (6 * i + 2) = 0
  · refine wb_aload_n dL_914 rfl rfl ?_
    refine wb_arg (i := i) (j := 1) (pc' := 920) sc hL dL_915 dL_916 dL_917 rfl dL_918 dL_919 rfl rfl (by omega) rfl ?_
    refine wb_arg (i := i) (j := 2) (pc' := 925) sc hL dL_920 dL_921 dL_922 rfl dL_923 dL_924 rfl rfl (by omega) rfl ?_
    refine wb_if_eq (t := 932) dL_925 rfl (fun _ => ?_) (fun h => absurd hv h)
    refine wb_iconst (v := bI false) dL_932 rfl ?_
    refine wb_call (As := [.int (xs (6 * i + 1)), .int (bI false)]) dL_933 mlL_146 okX11_setSkipped kd_0 (by decide) okC11.1 rfl rfl (Nat.le_of_ble_eq_true rfl) ⟨(Nat.le_of_ble_eq_true rfl), (Nat.le_of_ble_eq_true rfl)⟩ hcs (Nat.le_of_ble_eq_true rfl) (fun _ => ?_)
    refine WP.mono (t_setSkipped  (xs (6 * i + 1)) false I hI) (fun v I1 hv1 => ?_)
    obtain ⟨r, rfl, h2⟩ := hv1
    refine ⟨fun _ q1 q2 => absurd q1 (Nat.not_le.mpr q2), ?_⟩
    show WB G ad0 n0 A p l e room_1 s m args below meth c Qf mLaw cs ss 286 Rf0 936 (lsL i) [.int r] I1
    refine wb_aload_n dL_936 rfl rfl ?_
    refine wb_arg (i := i) (j := 1) (pc' := 942) sc hL dL_937 dL_938 dL_939 rfl dL_940 dL_941 rfl rfl (by omega) rfl ?_
    refine wb_arg (i := i) (j := 2) (pc' := 947) sc hL dL_942 dL_943 dL_944 rfl dL_945 dL_946 rfl rfl (by omega) rfl ?_
    refine wb_if_eq (t := 954) dL_947 rfl (fun _ => ?_) (fun h => absurd hv h)
    refine wb_iconst (v := bI false) dL_954 rfl ?_
    refine wb_call (As := [.int (xs (6 * i + 1)), .int (bI false)]) dL_955 mlL_150 okX12_setSkipped kd_261 (by decide) okC12.1 rfl rfl (Nat.le_of_ble_eq_true rfl) ⟨(Nat.le_of_ble_eq_true rfl), (Nat.le_of_ble_eq_true rfl)⟩ hcs (Nat.le_of_ble_eq_true rfl) (fun _ => ?_)
    refine WP.mono h2 (fun v I2 hv2 => ?_)
    obtain ⟨r2, rfl, e2, hs⟩ := hv2
    refine ⟨fun _ q1 q2 => absurd q1 (Nat.not_le.mpr q2), ?_⟩
    show WB G ad0 n0 A p l e room_1 s m args below meth c Qf mLaw cs ss 286 Rf0 958 (lsL i) [.int r2, .int r] I2
    exact wb_icmp_eq (t := 1174) dL_958 rfl (fun _ => K I2 hs) (fun h => absurd e2 h)
  · refine wb_aload_n dL_914 rfl rfl ?_
    refine wb_arg (i := i) (j := 1) (pc' := 920) sc hL dL_915 dL_916 dL_917 rfl dL_918 dL_919 rfl rfl (by omega) rfl ?_
    refine wb_arg (i := i) (j := 2) (pc' := 925) sc hL dL_920 dL_921 dL_922 rfl dL_923 dL_924 rfl rfl (by omega) rfl ?_
    refine wb_if_eq (t := 932) dL_925 rfl (fun h => absurd h hv) (fun _ => ?_)
    refine wb_iconst (v := bI true) dL_928 rfl ?_
    refine wb_goto (t := 933) dL_929 rfl ?_
    refine wb_call (As := [.int (xs (6 * i + 1)), .int (bI true)]) dL_933 mlL_146 okX11_setSkipped kd_0 (by decide) okC11.1 rfl rfl (Nat.le_of_ble_eq_true rfl) ⟨(Nat.le_of_ble_eq_true rfl), (Nat.le_of_ble_eq_true rfl)⟩ hcs (Nat.le_of_ble_eq_true rfl) (fun _ => ?_)
    refine WP.mono (t_setSkipped  (xs (6 * i + 1)) true I hI) (fun v I1 hv1 => ?_)
    obtain ⟨r, rfl, h2⟩ := hv1
    refine ⟨fun _ q1 q2 => absurd q1 (Nat.not_le.mpr q2), ?_⟩
    show WB G ad0 n0 A p l e room_1 s m args below meth c Qf mLaw cs ss 286 Rf0 936 (lsL i) [.int r] I1
    refine wb_aload_n dL_936 rfl rfl ?_
    refine wb_arg (i := i) (j := 1) (pc' := 942) sc hL dL_937 dL_938 dL_939 rfl dL_940 dL_941 rfl rfl (by omega) rfl ?_
    refine wb_arg (i := i) (j := 2) (pc' := 947) sc hL dL_942 dL_943 dL_944 rfl dL_945 dL_946 rfl rfl (by omega) rfl ?_
    refine wb_if_eq (t := 954) dL_947 rfl (fun h => absurd h hv) (fun _ => ?_)
    refine wb_iconst (v := bI true) dL_950 rfl ?_
    refine wb_goto (t := 955) dL_951 rfl ?_
    refine wb_call (As := [.int (xs (6 * i + 1)), .int (bI true)]) dL_955 mlL_150 okX12_setSkipped kd_261 (by decide) okC12.1 rfl rfl (Nat.le_of_ble_eq_true rfl) ⟨(Nat.le_of_ble_eq_true rfl), (Nat.le_of_ble_eq_true rfl)⟩ hcs (Nat.le_of_ble_eq_true rfl) (fun _ => ?_)
    refine WP.mono h2 (fun v I2 hv2 => ?_)
    obtain ⟨r2, rfl, e2, hs⟩ := hv2
    refine ⟨fun _ q1 q2 => absurd q1 (Nat.not_le.mpr q2), ?_⟩
    show WB G ad0 n0 A p l e room_1 s m args below meth c Qf mLaw cs ss 286 Rf0 958 (lsL i) [.int r2, .int r] I2
    exact wb_icmp_eq (t := 1174) dL_958 rfl (fun _ => K I2 hs) (fun h => absurd e2 h)
theorem lc_33 (sc : Scp ad0 A s L xs) (hL : L ≤ 3072) (hi : 6 * i + 6 ≤ L) (hcs : cs ≤ room_1.cells ∧ ss ≤ room_1.slots) (hI : Sim i I) (K : ∀ I2, Sim (i + 1) I2 → WB G ad0 n0 A p l e room_1 s m args below meth c Qf mLaw cs ss 286 Rf0 1174 (lsL i) [] I2) : WB G ad0 n0 A p l e room_1 s m args below meth c Qf mLaw cs ss 286 Rf0 963 (lsL i) [] I := by
  refine wb_aload_n dL_963 rfl rfl ?_
  refine wb_arg (i := i) (j := 1) (pc' := 969) sc hL dL_964 dL_965 dL_966 rfl dL_967 dL_968 rfl rfl (by omega) rfl ?_
  refine wb_arg (i := i) (j := 2) (pc' := 974) sc hL dL_969 dL_970 dL_971 rfl dL_972 dL_973 rfl rfl (by omega) rfl ?_
  refine wb_call (As := [.int (xs (6 * i + 1)), .int (xs (6 * i + 2))]) dL_974 mlL_151 okX11_breakBottles kd_0 (by decide) okC11.1 rfl rfl (Nat.le_of_ble_eq_true rfl) ⟨(Nat.le_of_ble_eq_true rfl), (Nat.le_of_ble_eq_true rfl)⟩ hcs (Nat.le_of_ble_eq_true rfl) (fun _ => ?_)
  refine WP.mono (t_breakBottles  (xs (6 * i + 1)) (xs (6 * i + 2)) I hI) (fun v I1 hv1 => ?_)
  obtain ⟨r, rfl, h2⟩ := hv1
  refine ⟨fun _ q1 q2 => absurd q1 (Nat.not_le.mpr q2), ?_⟩
  show WB G ad0 n0 A p l e room_1 s m args below meth c Qf mLaw cs ss 286 Rf0 977 (lsL i) [.int r] I1
  refine wb_aload_n dL_977 rfl rfl ?_
  refine wb_arg (i := i) (j := 1) (pc' := 983) sc hL dL_978 dL_979 dL_980 rfl dL_981 dL_982 rfl rfl (by omega) rfl ?_
  refine wb_arg (i := i) (j := 2) (pc' := 988) sc hL dL_983 dL_984 dL_985 rfl dL_986 dL_987 rfl rfl (by omega) rfl ?_
  refine wb_call (As := [.int (xs (6 * i + 1)), .int (xs (6 * i + 2))]) dL_988 mlL_154 okX12_breakBottles kd_261 (by decide) okC12.1 rfl rfl (Nat.le_of_ble_eq_true rfl) ⟨(Nat.le_of_ble_eq_true rfl), (Nat.le_of_ble_eq_true rfl)⟩ hcs (Nat.le_of_ble_eq_true rfl) (fun _ => ?_)
  refine WP.mono h2 (fun v I2 hv2 => ?_)
  obtain ⟨r2, rfl, e2, hs⟩ := hv2
  refine ⟨fun _ q1 q2 => absurd q1 (Nat.not_le.mpr q2), ?_⟩
  show WB G ad0 n0 A p l e room_1 s m args below meth c Qf mLaw cs ss 286 Rf0 991 (lsL i) [.int r2, .int r] I2
  exact wb_icmp_eq (t := 1174) dL_991 rfl (fun _ => K I2 hs) (fun h => absurd e2 h)
theorem lc_34 (sc : Scp ad0 A s L xs) (hL : L ≤ 3072) (hi : 6 * i + 6 ≤ L) (hcs : cs ≤ room_1.cells ∧ ss ≤ room_1.slots) (hI : Sim i I) (K : ∀ I2, Sim (i + 1) I2 → WB G ad0 n0 A p l e room_1 s m args below meth c Qf mLaw cs ss 286 Rf0 1174 (lsL i) [] I2) : WB G ad0 n0 A p l e room_1 s m args below meth c Qf mLaw cs ss 286 Rf0 996 (lsL i) [] I := by
  refine wb_aload_n dL_996 rfl rfl ?_
  refine wb_arg (i := i) (j := 1) (pc' := 1002) sc hL dL_997 dL_998 dL_999 rfl dL_1000 dL_1001 rfl rfl (by omega) rfl ?_
  refine wb_arg (i := i) (j := 2) (pc' := 1007) sc hL dL_1002 dL_1003 dL_1004 rfl dL_1005 dL_1006 rfl rfl (by omega) rfl ?_
  refine wb_arg (i := i) (j := 3) (pc' := 1012) sc hL dL_1007 dL_1008 dL_1009 rfl dL_1010 dL_1011 rfl rfl (by omega) rfl ?_
  refine wb_call (As := [.int (xs (6 * i + 1)), .int (xs (6 * i + 2)), .int (xs (6 * i + 3))]) dL_1012 mlL_155 okX11_setOrder kd_0 (by decide) okC11.1 rfl rfl (Nat.le_of_ble_eq_true rfl) ⟨(Nat.le_of_ble_eq_true rfl), (Nat.le_of_ble_eq_true rfl)⟩ hcs (Nat.le_of_ble_eq_true rfl) (fun _ => ?_)
  refine WP.mono (t_setOrder  (xs (6 * i + 1)) (xs (6 * i + 2)) (xs (6 * i + 3)) I hI) (fun v I1 hv1 => ?_)
  obtain ⟨r, rfl, h2⟩ := hv1
  refine ⟨fun _ q1 q2 => absurd q1 (Nat.not_le.mpr q2), ?_⟩
  show WB G ad0 n0 A p l e room_1 s m args below meth c Qf mLaw cs ss 286 Rf0 1015 (lsL i) [.int r] I1
  refine wb_aload_n dL_1015 rfl rfl ?_
  refine wb_arg (i := i) (j := 1) (pc' := 1021) sc hL dL_1016 dL_1017 dL_1018 rfl dL_1019 dL_1020 rfl rfl (by omega) rfl ?_
  refine wb_arg (i := i) (j := 2) (pc' := 1026) sc hL dL_1021 dL_1022 dL_1023 rfl dL_1024 dL_1025 rfl rfl (by omega) rfl ?_
  refine wb_arg (i := i) (j := 3) (pc' := 1031) sc hL dL_1026 dL_1027 dL_1028 rfl dL_1029 dL_1030 rfl rfl (by omega) rfl ?_
  refine wb_call (As := [.int (xs (6 * i + 1)), .int (xs (6 * i + 2)), .int (xs (6 * i + 3))]) dL_1031 mlL_158 okX12_setOrder kd_261 (by decide) okC12.1 rfl rfl (Nat.le_of_ble_eq_true rfl) ⟨(Nat.le_of_ble_eq_true rfl), (Nat.le_of_ble_eq_true rfl)⟩ hcs (Nat.le_of_ble_eq_true rfl) (fun _ => ?_)
  refine WP.mono h2 (fun v I2 hv2 => ?_)
  obtain ⟨r2, rfl, e2, hs⟩ := hv2
  refine ⟨fun _ q1 q2 => absurd q1 (Nat.not_le.mpr q2), ?_⟩
  show WB G ad0 n0 A p l e room_1 s m args below meth c Qf mLaw cs ss 286 Rf0 1034 (lsL i) [.int r2, .int r] I2
  exact wb_icmp_eq (t := 1174) dL_1034 rfl (fun _ => K I2 hs) (fun h => absurd e2 h)
theorem lc_35 (sc : Scp ad0 A s L xs) (hL : L ≤ 3072) (hi : 6 * i + 6 ≤ L) (hcs : cs ≤ room_1.cells ∧ ss ≤ room_1.slots) (hI : Sim i I) (K : ∀ I2, Sim (i + 1) I2 → WB G ad0 n0 A p l e room_1 s m args below meth c Qf mLaw cs ss 286 Rf0 1174 (lsL i) [] I2) : WB G ad0 n0 A p l e room_1 s m args below meth c Qf mLaw cs ss 286 Rf0 1039 (lsL i) [] I := by
  refine wb_aload_n dL_1039 rfl rfl ?_
  refine wb_arg (i := i) (j := 1) (pc' := 1045) sc hL dL_1040 dL_1041 dL_1042 rfl dL_1043 dL_1044 rfl rfl (by omega) rfl ?_
  refine wb_arg (i := i) (j := 2) (pc' := 1050) sc hL dL_1045 dL_1046 dL_1047 rfl dL_1048 dL_1049 rfl rfl (by omega) rfl ?_
  refine wb_call (As := [.int (xs (6 * i + 1)), .int (xs (6 * i + 2))]) dL_1050 mlL_159 okX11_setKeep kd_0 (by decide) okC11.1 rfl rfl (Nat.le_of_ble_eq_true rfl) ⟨(Nat.le_of_ble_eq_true rfl), (Nat.le_of_ble_eq_true rfl)⟩ hcs (Nat.le_of_ble_eq_true rfl) (fun _ => ?_)
  refine WP.mono (t_setKeep  (xs (6 * i + 1)) (xs (6 * i + 2)) I hI) (fun v I1 hv1 => ?_)
  obtain ⟨r, rfl, h2⟩ := hv1
  refine ⟨fun _ q1 q2 => absurd q1 (Nat.not_le.mpr q2), ?_⟩
  show WB G ad0 n0 A p l e room_1 s m args below meth c Qf mLaw cs ss 286 Rf0 1053 (lsL i) [.int r] I1
  refine wb_aload_n dL_1053 rfl rfl ?_
  refine wb_arg (i := i) (j := 1) (pc' := 1059) sc hL dL_1054 dL_1055 dL_1056 rfl dL_1057 dL_1058 rfl rfl (by omega) rfl ?_
  refine wb_arg (i := i) (j := 2) (pc' := 1064) sc hL dL_1059 dL_1060 dL_1061 rfl dL_1062 dL_1063 rfl rfl (by omega) rfl ?_
  refine wb_call (As := [.int (xs (6 * i + 1)), .int (xs (6 * i + 2))]) dL_1064 mlL_162 okX12_setKeep kd_261 (by decide) okC12.1 rfl rfl (Nat.le_of_ble_eq_true rfl) ⟨(Nat.le_of_ble_eq_true rfl), (Nat.le_of_ble_eq_true rfl)⟩ hcs (Nat.le_of_ble_eq_true rfl) (fun _ => ?_)
  refine WP.mono h2 (fun v I2 hv2 => ?_)
  obtain ⟨r2, rfl, e2, hs⟩ := hv2
  refine ⟨fun _ q1 q2 => absurd q1 (Nat.not_le.mpr q2), ?_⟩
  show WB G ad0 n0 A p l e room_1 s m args below meth c Qf mLaw cs ss 286 Rf0 1067 (lsL i) [.int r2, .int r] I2
  exact wb_icmp_eq (t := 1174) dL_1067 rfl (fun _ => K I2 hs) (fun h => absurd e2 h)
theorem lc_36 (sc : Scp ad0 A s L xs) (hL : L ≤ 3072) (hi : 6 * i + 6 ≤ L) (hcs : cs ≤ room_1.cells ∧ ss ≤ room_1.slots) (hI : Sim i I) (K : ∀ I2, Sim (i + 1) I2 → WB G ad0 n0 A p l e room_1 s m args below meth c Qf mLaw cs ss 286 Rf0 1174 (lsL i) [] I2) : WB G ad0 n0 A p l e room_1 s m args below meth c Qf mLaw cs ss 286 Rf0 1072 (lsL i) [] I := by
  refine wb_aload_n dL_1072 rfl rfl ?_
  refine wb_arg (i := i) (j := 1) (pc' := 1078) sc hL dL_1073 dL_1074 dL_1075 rfl dL_1076 dL_1077 rfl rfl (by omega) rfl ?_
  refine wb_arg (i := i) (j := 2) (pc' := 1083) sc hL dL_1078 dL_1079 dL_1080 rfl dL_1081 dL_1082 rfl rfl (by omega) rfl ?_
  refine wb_arg (i := i) (j := 3) (pc' := 1088) sc hL dL_1083 dL_1084 dL_1085 rfl dL_1086 dL_1087 rfl rfl (by omega) rfl ?_
  refine wb_call (As := [.int (xs (6 * i + 1)), .int (xs (6 * i + 2)), .int (xs (6 * i + 3))]) dL_1088 mlL_163 okX11_setGate kd_0 (by decide) okC11.1 rfl rfl (Nat.le_of_ble_eq_true rfl) ⟨(Nat.le_of_ble_eq_true rfl), (Nat.le_of_ble_eq_true rfl)⟩ hcs (Nat.le_of_ble_eq_true rfl) (fun _ => ?_)
  refine WP.mono (t_setGate  (xs (6 * i + 1)) (xs (6 * i + 2)) (xs (6 * i + 3)) I hI) (fun v I1 hv1 => ?_)
  obtain ⟨r, rfl, h2⟩ := hv1
  refine ⟨fun _ q1 q2 => absurd q1 (Nat.not_le.mpr q2), ?_⟩
  show WB G ad0 n0 A p l e room_1 s m args below meth c Qf mLaw cs ss 286 Rf0 1091 (lsL i) [.int r] I1
  refine wb_aload_n dL_1091 rfl rfl ?_
  refine wb_arg (i := i) (j := 1) (pc' := 1097) sc hL dL_1092 dL_1093 dL_1094 rfl dL_1095 dL_1096 rfl rfl (by omega) rfl ?_
  refine wb_arg (i := i) (j := 2) (pc' := 1102) sc hL dL_1097 dL_1098 dL_1099 rfl dL_1100 dL_1101 rfl rfl (by omega) rfl ?_
  refine wb_arg (i := i) (j := 3) (pc' := 1107) sc hL dL_1102 dL_1103 dL_1104 rfl dL_1105 dL_1106 rfl rfl (by omega) rfl ?_
  refine wb_call (As := [.int (xs (6 * i + 1)), .int (xs (6 * i + 2)), .int (xs (6 * i + 3))]) dL_1107 mlL_167 okX12_setGate kd_261 (by decide) okC12.1 rfl rfl (Nat.le_of_ble_eq_true rfl) ⟨(Nat.le_of_ble_eq_true rfl), (Nat.le_of_ble_eq_true rfl)⟩ hcs (Nat.le_of_ble_eq_true rfl) (fun _ => ?_)
  refine WP.mono h2 (fun v I2 hv2 => ?_)
  obtain ⟨r2, rfl, e2, hs⟩ := hv2
  refine ⟨fun _ q1 q2 => absurd q1 (Nat.not_le.mpr q2), ?_⟩
  show WB G ad0 n0 A p l e room_1 s m args below meth c Qf mLaw cs ss 286 Rf0 1110 (lsL i) [.int r2, .int r] I2
  exact wb_icmp_eq (t := 1174) dL_1110 rfl (fun _ => K I2 hs) (fun h => absurd e2 h)
theorem lc_37 (sc : Scp ad0 A s L xs) (hL : L ≤ 3072) (hi : 6 * i + 6 ≤ L) (hcs : cs ≤ room_1.cells ∧ ss ≤ room_1.slots) (hI : Sim i I) (K : ∀ I2, Sim (i + 1) I2 → WB G ad0 n0 A p l e room_1 s m args below meth c Qf mLaw cs ss 286 Rf0 1174 (lsL i) [] I2) : WB G ad0 n0 A p l e room_1 s m args below meth c Qf mLaw cs ss 286 Rf0 1115 (lsL i) [] I := by
  refine wb_aload_n dL_1115 rfl rfl ?_
  refine wb_call (As := []) dL_1116 mlL_168 okX11_undo kd_0 (by decide) okC11.1 rfl rfl (Nat.le_of_ble_eq_true rfl) ⟨(Nat.le_of_ble_eq_true rfl), (Nat.le_of_ble_eq_true rfl)⟩ hcs (Nat.le_of_ble_eq_true rfl) (fun _ => ?_)
  refine WP.mono (t_undo   I hI) (fun v I1 hv1 => ?_)
  obtain ⟨r, rfl, h2⟩ := hv1
  refine ⟨fun _ q1 q2 => absurd q1 (Nat.not_le.mpr q2), ?_⟩
  show WB G ad0 n0 A p l e room_1 s m args below meth c Qf mLaw cs ss 286 Rf0 1119 (lsL i) [.int r] I1
  refine wb_aload_n dL_1119 rfl rfl ?_
  refine wb_call (As := []) dL_1120 mlL_171 okX12_undo kd_261 (by decide) okC12.1 rfl rfl (Nat.le_of_ble_eq_true rfl) ⟨(Nat.le_of_ble_eq_true rfl), (Nat.le_of_ble_eq_true rfl)⟩ hcs (Nat.le_of_ble_eq_true rfl) (fun _ => ?_)
  refine WP.mono h2 (fun v I2 hv2 => ?_)
  obtain ⟨r2, rfl, e2, hs⟩ := hv2
  refine ⟨fun _ q1 q2 => absurd q1 (Nat.not_le.mpr q2), ?_⟩
  show WB G ad0 n0 A p l e room_1 s m args below meth c Qf mLaw cs ss 286 Rf0 1123 (lsL i) [.int r2, .int r] I2
  exact wb_icmp_eq (t := 1174) dL_1123 rfl (fun _ => K I2 hs) (fun h => absurd e2 h)
theorem lc_38 (sc : Scp ad0 A s L xs) (hL : L ≤ 3072) (hi : 6 * i + 6 ≤ L) (hcs : cs ≤ room_1.cells ∧ ss ≤ room_1.slots) (hI : Sim i I) (K : ∀ I2, Sim (i + 1) I2 → WB G ad0 n0 A p l e room_1 s m args below meth c Qf mLaw cs ss 286 Rf0 1174 (lsL i) [] I2) : WB G ad0 n0 A p l e room_1 s m args below meth c Qf mLaw cs ss 286 Rf0 1128 (lsL i) [] I := by
  refine wb_aload_n dL_1128 rfl rfl ?_
  refine wb_arg (i := i) (j := 1) (pc' := 1134) sc hL dL_1129 dL_1130 dL_1131 rfl dL_1132 dL_1133 rfl rfl (by omega) rfl ?_
  refine wb_call (As := [.int (xs (6 * i + 1))]) dL_1134 mlL_172 okX11_saveSnapshot kd_0 (by decide) okC11.1 rfl rfl (Nat.le_of_ble_eq_true rfl) ⟨(Nat.le_of_ble_eq_true rfl), (Nat.le_of_ble_eq_true rfl)⟩ hcs (Nat.le_of_ble_eq_true rfl) (fun _ => ?_)
  refine WP.mono (t_saveSnapshot  (xs (6 * i + 1)) I hI) (fun v I1 hv1 => ?_)
  obtain ⟨r, rfl, h2⟩ := hv1
  refine ⟨fun _ q1 q2 => absurd q1 (Nat.not_le.mpr q2), ?_⟩
  show WB G ad0 n0 A p l e room_1 s m args below meth c Qf mLaw cs ss 286 Rf0 1137 (lsL i) [.int r] I1
  refine wb_aload_n dL_1137 rfl rfl ?_
  refine wb_arg (i := i) (j := 1) (pc' := 1143) sc hL dL_1138 dL_1139 dL_1140 rfl dL_1141 dL_1142 rfl rfl (by omega) rfl ?_
  refine wb_call (As := [.int (xs (6 * i + 1))]) dL_1143 mlL_176 okX12_saveSnapshot kd_261 (by decide) okC12.1 rfl rfl (Nat.le_of_ble_eq_true rfl) ⟨(Nat.le_of_ble_eq_true rfl), (Nat.le_of_ble_eq_true rfl)⟩ hcs (Nat.le_of_ble_eq_true rfl) (fun _ => ?_)
  refine WP.mono h2 (fun v I2 hv2 => ?_)
  obtain ⟨r2, rfl, e2, hs⟩ := hv2
  refine ⟨fun _ q1 q2 => absurd q1 (Nat.not_le.mpr q2), ?_⟩
  show WB G ad0 n0 A p l e room_1 s m args below meth c Qf mLaw cs ss 286 Rf0 1146 (lsL i) [.int r2, .int r] I2
  exact wb_icmp_eq (t := 1174) dL_1146 rfl (fun _ => K I2 hs) (fun h => absurd e2 h)
theorem lc_39 (sc : Scp ad0 A s L xs) (hL : L ≤ 3072) (hi : 6 * i + 6 ≤ L) (hcs : cs ≤ room_1.cells ∧ ss ≤ room_1.slots) (hI : Sim i I) (K : ∀ I2, Sim (i + 1) I2 → WB G ad0 n0 A p l e room_1 s m args below meth c Qf mLaw cs ss 286 Rf0 1174 (lsL i) [] I2) : WB G ad0 n0 A p l e room_1 s m args below meth c Qf mLaw cs ss 286 Rf0 1151 (lsL i) [] I := by
  refine wb_aload_n dL_1151 rfl rfl ?_
  refine wb_arg (i := i) (j := 1) (pc' := 1157) sc hL dL_1152 dL_1153 dL_1154 rfl dL_1155 dL_1156 rfl rfl (by omega) rfl ?_
  refine wb_call (As := [.int (xs (6 * i + 1))]) dL_1157 mlL_177 okX11_restoreSnapshot kd_0 (by decide) okC11.1 rfl rfl (Nat.le_of_ble_eq_true rfl) ⟨(Nat.le_of_ble_eq_true rfl), (Nat.le_of_ble_eq_true rfl)⟩ hcs (Nat.le_of_ble_eq_true rfl) (fun _ => ?_)
  refine WP.mono (t_restoreSnapshot  (xs (6 * i + 1)) I hI) (fun v I1 hv1 => ?_)
  obtain ⟨r, rfl, h2⟩ := hv1
  refine ⟨fun _ q1 q2 => absurd q1 (Nat.not_le.mpr q2), ?_⟩
  show WB G ad0 n0 A p l e room_1 s m args below meth c Qf mLaw cs ss 286 Rf0 1160 (lsL i) [.int r] I1
  refine wb_aload_n dL_1160 rfl rfl ?_
  refine wb_arg (i := i) (j := 1) (pc' := 1166) sc hL dL_1161 dL_1162 dL_1163 rfl dL_1164 dL_1165 rfl rfl (by omega) rfl ?_
  refine wb_call (As := [.int (xs (6 * i + 1))]) dL_1166 mlL_180 okX12_restoreSnapshot kd_261 (by decide) okC12.1 rfl rfl (Nat.le_of_ble_eq_true rfl) ⟨(Nat.le_of_ble_eq_true rfl), (Nat.le_of_ble_eq_true rfl)⟩ hcs (Nat.le_of_ble_eq_true rfl) (fun _ => ?_)
  refine WP.mono h2 (fun v I2 hv2 => ?_)
  obtain ⟨r2, rfl, e2, hs⟩ := hv2
  refine ⟨fun _ q1 q2 => absurd q1 (Nat.not_le.mpr q2), ?_⟩
  show WB G ad0 n0 A p l e room_1 s m args below meth c Qf mLaw cs ss 286 Rf0 1169 (lsL i) [.int r2, .int r] I2
  exact wb_icmp_eq (t := 1174) dL_1169 rfl (fun _ => K I2 hs) (fun h => absurd e2 h)
end
