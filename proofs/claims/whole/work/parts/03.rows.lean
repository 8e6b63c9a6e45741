/-! one row an instruction, over WP -/
section WR
variable {μ : mD} {n : Nat} {Rf : MR} {pc : Nat} {ls : List (Option Value)} {st : List Value} {I : MI} {Q : Option Value → MI → Prop}
theorem w_iconst {k : Int} {v : Int32} (hd : decode μ.2.1 pc = .ok (.iconst k, 1)) (hv : Int32.ofInt k = v) (K : WP μ n Rf (pc + 1) ls (.int v :: st) I Q) : WP μ n Rf pc ls st I Q := by
  intro G ad A p l e s m args below meth c H locs lsA C hP hD hS hl
  exact lv_iconst C.1 C.2.1 hd hv (K G ad A p l e s m args below meth c H locs lsA C hP hD hS hl)
theorem w_bipush {k : Int} {v : Int32} (hd : decode μ.2.1 pc = .ok (.bipush k, 2)) (hv : (Int8.ofInt k).toInt32 = v) (K : WP μ n Rf (pc + 2) ls (.int v :: st) I Q) : WP μ n Rf pc ls st I Q := by
  intro G ad A p l e s m args below meth c H locs lsA C hP hD hS hl
  exact lv_bipush C.1 C.2.1 hd hv (K G ad A p l e s m args below meth c H locs lsA C hP hD hS hl)
theorem w_sipush {k : Int} {v : Int32} (hd : decode μ.2.1 pc = .ok (.sipush k, 3)) (hv : (Int16.ofInt k).toInt32 = v) (K : WP μ n Rf (pc + 3) ls (.int v :: st) I Q) : WP μ n Rf pc ls st I Q := by
  intro G ad A p l e s m args below meth c H locs lsA C hP hD hS hl
  exact lv_sipush C.1 C.2.1 hd hv (K G ad A p l e s m args below meth c H locs lsA C hP hD hS hl)
theorem w_lconst {k : Fin 2} {v : Int64} (hd : decode μ.2.1 pc = .ok (.lconst k, 1)) (hv : Int64.ofNat (k : Nat) = v) (K : WP μ n Rf (pc + 1) ls (.long v :: st) I Q) : WP μ n Rf pc ls st I Q := by
  intro G ad A p l e s m args below meth c H locs lsA C hP hD hS hl
  exact lv_lconst C.1 C.2.1 hd hv (K G ad A p l e s m args below meth c H locs lsA C hP hD hS hl)
theorem w_ldc {k : Nat} {v : Int32} (hd : decode μ.2.1 pc = .ok (.ldc k, 2)) (hw : Cond.constant μ.1.cls k v ∈ tbl) (K : WP μ n Rf (pc + 2) ls (.int v :: st) I Q) : WP μ n Rf pc ls st I Q := by
  intro G ad A p l e s m args below meth c H locs lsA C hP hD hS hl
  exact lv_ldc C.1 C.2.1 C.2.2.2.2.1 (C.2.2.2.2.2.1 _ (List.mem_cons_of_mem _ hw)) hd (K G ad A p l e s m args below meth c H locs lsA C hP hD hS hl)
theorem w_ldc2 {k : Nat} {v : Int64} (hd : decode μ.2.1 pc = .ok (.ldc2_w k, 3)) (hw : Cond.constantLong μ.1.cls k v ∈ tbl) (K : WP μ n Rf (pc + 3) ls (.long v :: st) I Q) : WP μ n Rf pc ls st I Q := by
  intro G ad A p l e s m args below meth c H locs lsA C hP hD hS hl
  exact lv_ldc2 C.1 C.2.1 C.2.2.2.2.1 (C.2.2.2.2.2.1 _ (List.mem_cons_of_mem _ hw)) hd (K G ad A p l e s m args below meth c H locs lsA C hP hD hS hl)
/-- a word: number j, as the return address 2 j + 1 -/
theorem w_ldcS {k j : Nat} {tx : String} (hd : decode μ.2.1 pc = .ok (.ldc k, 2)) (hw : (μ.1.cls, k, tx, j) ∈ strL) (K : WP μ n Rf (pc + 2) ls (.retAddr (2 * j + 1) :: st) I Q) : WP μ n Rf pc ls st I Q := by
  intro G ad A p l e s m args below meth c H locs lsA C hP hD hS hl
  refine va_ldcS C.1 C.2.1 C.2.2.2.2.1 (C.2.2.2.2.2.2.2.2.2.2.1 _ hw) hd ?_
  have hk := K G ad A p l e s m args below meth c H locs lsA C hP hD hS hl
  have e1 : cvt G ad (.retAddr (2 * j + 1)) = .ref (G.2.2.2.1 j) := by
    show (if 2 * j + 1 = 0 then G.2.2.1 else if (2 * j + 1) % 2 = 1 then Value.ref (G.2.2.2.1 ((2 * j + 1) / 2)) else Value.ref (G.2.2.2.2 ((2 * j + 1) / 2 - 1))) = _
    rw [if_neg (by omega), if_pos (by omega), show (2 * j + 1) / 2 = j by omega]
  rw [List.map_cons, e1] at hk
  exact hk
theorem w_iload_n {k : Fin 4} {i : Nat} {x : Int32} (hd : decode μ.2.1 pc = .ok (.iload_n k, 1)) (hi : (k : Nat) = i) (hx : ls[i]? = some (some (.int x))) (K : WP μ n Rf (pc + 1) ls (.int x :: st) I Q) : WP μ n Rf pc ls st I Q := by
  intro G ad A p l e s m args below meth c H locs lsA C hP hD hS hl
  exact lv_iload_n C.1 C.2.1 hd hi (hl.2.2 _ _ hx) (K G ad A p l e s m args below meth c H locs lsA C hP hD hS hl)
theorem w_iload {i : Nat} {x : Int32} (hd : decode μ.2.1 pc = .ok (.iload i, 2)) (hx : ls[i]? = some (some (.int x))) (K : WP μ n Rf (pc + 2) ls (.int x :: st) I Q) : WP μ n Rf pc ls st I Q := by
  intro G ad A p l e s m args below meth c H locs lsA C hP hD hS hl
  exact lv_iload C.1 C.2.1 hd (hl.2.2 _ _ hx) (K G ad A p l e s m args below meth c H locs lsA C hP hD hS hl)
theorem w_lload_n {k : Fin 4} {i : Nat} {x : Int64} (hd : decode μ.2.1 pc = .ok (.lload_n k, 1)) (hi : (k : Nat) = i) (hx : ls[i]? = some (some (.long x))) (K : WP μ n Rf (pc + 1) ls (.long x :: st) I Q) : WP μ n Rf pc ls st I Q := by
  intro G ad A p l e s m args below meth c H locs lsA C hP hD hS hl
  exact lv_lload_n C.1 C.2.1 hd hi (hl.2.2 _ _ hx) (K G ad A p l e s m args below meth c H locs lsA C hP hD hS hl)
theorem w_lload {i : Nat} {x : Int64} (hd : decode μ.2.1 pc = .ok (.lload i, 2)) (hx : ls[i]? = some (some (.long x))) (K : WP μ n Rf (pc + 2) ls (.long x :: st) I Q) : WP μ n Rf pc ls st I Q := by
  intro G ad A p l e s m args below meth c H locs lsA C hP hD hS hl
  exact lv_lload C.1 C.2.1 hd (hl.2.2 _ _ hx) (K G ad A p l e s m args below meth c H locs lsA C hP hD hS hl)
theorem w_aload_n {k : Fin 4} {i : Nat} {r : Nat} (hd : decode μ.2.1 pc = .ok (.aload_n k, 1)) (hi : (k : Nat) = i) (hx : ls[i]? = some (some (.ref r))) (K : WP μ n Rf (pc + 1) ls (.ref r :: st) I Q) : WP μ n Rf pc ls st I Q := by
  intro G ad A p l e s m args below meth c H locs lsA C hP hD hS hl
  exact lv_aload_n C.1 C.2.1 hd hi (hl.2.2 _ _ hx) (K G ad A p l e s m args below meth c H locs lsA C hP hD hS hl)
theorem w_aload {i : Nat} {r : Nat} (hd : decode μ.2.1 pc = .ok (.aload i, 2)) (hx : ls[i]? = some (some (.ref r))) (K : WP μ n Rf (pc + 2) ls (.ref r :: st) I Q) : WP μ n Rf pc ls st I Q := by
  intro G ad A p l e s m args below meth c H locs lsA C hP hD hS hl
  exact lv_aload C.1 C.2.1 hd (hl.2.2 _ _ hx) (K G ad A p l e s m args below meth c H locs lsA C hP hD hS hl)
theorem cvt_S (G : gG) (ad : Nat → Nat) (j : Nat) : cvt G ad (.retAddr (2 * j + 1)) = .ref (G.2.2.2.1 j) := by
  show (if 2 * j + 1 = 0 then G.2.2.1 else if (2 * j + 1) % 2 = 1 then Value.ref (G.2.2.2.1 ((2 * j + 1) / 2)) else Value.ref (G.2.2.2.2 ((2 * j + 1) / 2 - 1))) = _
  rw [if_neg (by omega), if_pos (by omega), show (2 * j + 1) / 2 = j by omega]
theorem cvt_V (G : gG) (ad : Nat → Nat) (j : Nat) : cvt G ad (.retAddr (2 * j + 2)) = .ref (G.2.2.2.2 j) := by
  show (if 2 * j + 2 = 0 then G.2.2.1 else if (2 * j + 2) % 2 = 1 then Value.ref (G.2.2.2.1 ((2 * j + 2) / 2)) else Value.ref (G.2.2.2.2 ((2 * j + 2) / 2 - 1))) = _
  rw [if_neg (by omega), if_neg (by omega), show (2 * j + 2) / 2 - 1 = j by omega]
theorem w_aload_nS {k : Fin 4} {i j : Nat} (hd : decode μ.2.1 pc = .ok (.aload_n k, 1)) (hi : (k : Nat) = i) (hx : ls[i]? = some (some (.retAddr (2 * j + 1)))) (K : WP μ n Rf (pc + 1) ls (.retAddr (2 * j + 1) :: st) I Q) : WP μ n Rf pc ls st I Q := by
  intro G ad A p l e s m args below meth c H locs lsA C hP hD hS hl
  have hk := K G ad A p l e s m args below meth c H locs lsA C hP hD hS hl
  have h := hl.2.2 _ _ hx
  rw [cvt_S] at h
  rw [List.map_cons, cvt_S] at hk
  exact lv_aload_n C.1 C.2.1 hd hi h hk
theorem w_aload_nV {k : Fin 4} {i j : Nat} (hd : decode μ.2.1 pc = .ok (.aload_n k, 1)) (hi : (k : Nat) = i) (hx : ls[i]? = some (some (.retAddr (2 * j + 2)))) (K : WP μ n Rf (pc + 1) ls (.retAddr (2 * j + 2) :: st) I Q) : WP μ n Rf pc ls st I Q := by
  intro G ad A p l e s m args below meth c H locs lsA C hP hD hS hl
  have hk := K G ad A p l e s m args below meth c H locs lsA C hP hD hS hl
  have h := hl.2.2 _ _ hx
  rw [cvt_V] at h
  rw [List.map_cons, cvt_V] at hk
  exact lv_aload_n C.1 C.2.1 hd hi h hk
theorem w_istore_n {k : Fin 4} {i : Nat} {x : Int32} {ls' : List (Option Value)} (hd : decode μ.2.1 pc = .ok (.istore_n k, 1)) (hi : (k : Nat) = i) (hn : i < μ.2.2.1) (hc : c1 ls = true) (hl' : ls.set i (some (.int x)) = ls') (K : WP μ n Rf (pc + 1) ls' st I Q) : WP μ n Rf pc ls (.int x :: st) I Q := by
  intro G ad A p l e s m args below meth c H locs lsA C hP hD hS hl
  subst hl'
  exact lv_istore_n C.1 C.2.1 hd hi (lvs_has hl) hn rfl (fun lsB hB => K G ad A p l e s m args below meth c H locs lsB C hP hD hS (lvs_set (v := .int x) (Sx_fm C.2.2.2.2.2.2.2.2.2) hc hB))
theorem w_istore {i : Nat} {x : Int32} {ls' : List (Option Value)} (hd : decode μ.2.1 pc = .ok (.istore i, 2)) (hn : i < μ.2.2.1) (hc : c1 ls = true) (hl' : ls.set i (some (.int x)) = ls') (K : WP μ n Rf (pc + 2) ls' st I Q) : WP μ n Rf pc ls (.int x :: st) I Q := by
  intro G ad A p l e s m args below meth c H locs lsA C hP hD hS hl
  subst hl'
  exact lv_istore C.1 C.2.1 hd (lvs_has hl) hn rfl (fun lsB hB => K G ad A p l e s m args below meth c H locs lsB C hP hD hS (lvs_set (v := .int x) (Sx_fm C.2.2.2.2.2.2.2.2.2) hc hB))
theorem w_astore_n {k : Fin 4} {i : Nat} {r : Nat} {ls' : List (Option Value)} (hd : decode μ.2.1 pc = .ok (.astore_n k, 1)) (hi : (k : Nat) = i) (hn : i < μ.2.2.1) (hc : c1 ls = true) (hl' : ls.set i (some (.ref r)) = ls') (K : WP μ n Rf (pc + 1) ls' st I Q) : WP μ n Rf pc ls (.ref r :: st) I Q := by
  intro G ad A p l e s m args below meth c H locs lsA C hP hD hS hl
  subst hl'
  exact lv_astore_n C.1 C.2.1 hd hi (lvs_has hl) hn rfl (fun lsB hB => K G ad A p l e s m args below meth c H locs lsB C hP hD hS (lvs_set (v := .ref r) (Sx_fm C.2.2.2.2.2.2.2.2.2) hc hB))
theorem w_astore {i : Nat} {r : Nat} {ls' : List (Option Value)} (hd : decode μ.2.1 pc = .ok (.astore i, 2)) (hn : i < μ.2.2.1) (hc : c1 ls = true) (hl' : ls.set i (some (.ref r)) = ls') (K : WP μ n Rf (pc + 2) ls' st I Q) : WP μ n Rf pc ls (.ref r :: st) I Q := by
  intro G ad A p l e s m args below meth c H locs lsA C hP hD hS hl
  subst hl'
  exact lv_astore C.1 C.2.1 hd (lvs_has hl) hn rfl (fun lsB hB => K G ad A p l e s m args below meth c H locs lsB C hP hD hS (lvs_set (v := .ref r) (Sx_fm C.2.2.2.2.2.2.2.2.2) hc hB))
theorem w_iinc {i : Nat} {k : Int} {x v : Int32} {ls' : List (Option Value)} (hd : decode μ.2.1 pc = .ok (.iinc i k, 3)) (hx : ls[i]? = some (some (.int x))) (hv : x + Int32.ofInt k = v) (hn : i < μ.2.2.1) (hc : c1 ls = true) (hl' : ls.set i (some (.int v)) = ls') (K : WP μ n Rf (pc + 3) ls' st I Q) : WP μ n Rf pc ls st I Q := by
  intro G ad A p l e s m args below meth c H locs lsA C hP hD hS hl
  subst hl'
  obtain ⟨q, hq⟩ := List.getElem?_of_mem (asc_in (G := G) (ad := ad) hx)
  exact lv_iinc C.1 C.2.1 hd (lvs_has hl) hq hv hn rfl (fun lsB hB => K G ad A p l e s m args below meth c H locs lsB C hP hD hS (lvs_set (v := .int v) (Sx_fm C.2.2.2.2.2.2.2.2.2) hc hB))
theorem w_iadd {x y : Int32} (hd : decode μ.2.1 pc = .ok (.iadd, 1)) (K : WP μ n Rf (pc + 1) ls (.int (x + y) :: st) I Q) : WP μ n Rf pc ls (.int y :: .int x :: st) I Q := by
  intro G ad A p l e s m args below meth c H locs lsA C hP hD hS hl
  exact lv_iadd C.1 C.2.1 hd (K G ad A p l e s m args below meth c H locs lsA C hP hD hS hl)
theorem w_isub {x y : Int32} (hd : decode μ.2.1 pc = .ok (.isub, 1)) (K : WP μ n Rf (pc + 1) ls (.int (x - y) :: st) I Q) : WP μ n Rf pc ls (.int y :: .int x :: st) I Q := by
  intro G ad A p l e s m args below meth c H locs lsA C hP hD hS hl
  exact lv_isub C.1 C.2.1 hd (K G ad A p l e s m args below meth c H locs lsA C hP hD hS hl)
theorem w_imul {x y : Int32} (hd : decode μ.2.1 pc = .ok (.imul, 1)) (K : WP μ n Rf (pc + 1) ls (.int (x * y) :: st) I Q) : WP μ n Rf pc ls (.int y :: .int x :: st) I Q := by
  intro G ad A p l e s m args below meth c H locs lsA C hP hD hS hl
  exact lv_imul C.1 C.2.1 hd (K G ad A p l e s m args below meth c H locs lsA C hP hD hS hl)
theorem w_iand {x y : Int32} (hd : decode μ.2.1 pc = .ok (.iand, 1)) (K : WP μ n Rf (pc + 1) ls (.int (x &&& y) :: st) I Q) : WP μ n Rf pc ls (.int y :: .int x :: st) I Q := by
  intro G ad A p l e s m args below meth c H locs lsA C hP hD hS hl
  exact lv_iand C.1 C.2.1 hd (K G ad A p l e s m args below meth c H locs lsA C hP hD hS hl)
theorem w_ior {x y : Int32} (hd : decode μ.2.1 pc = .ok (.ior, 1)) (K : WP μ n Rf (pc + 1) ls (.int (x ||| y) :: st) I Q) : WP μ n Rf pc ls (.int y :: .int x :: st) I Q := by
  intro G ad A p l e s m args below meth c H locs lsA C hP hD hS hl
  exact lv_ior C.1 C.2.1 hd (K G ad A p l e s m args below meth c H locs lsA C hP hD hS hl)
theorem w_ixor {x y : Int32} (hd : decode μ.2.1 pc = .ok (.ixor, 1)) (K : WP μ n Rf (pc + 1) ls (.int (x ^^^ y) :: st) I Q) : WP μ n Rf pc ls (.int y :: .int x :: st) I Q := by
  intro G ad A p l e s m args below meth c H locs lsA C hP hD hS hl
  exact lv_ixor C.1 C.2.1 hd (K G ad A p l e s m args below meth c H locs lsA C hP hD hS hl)
theorem w_ishl {x y : Int32} (hd : decode μ.2.1 pc = .ok (.ishl, 1)) (K : WP μ n Rf (pc + 1) ls (.int (x <<< (y &&& 31)) :: st) I Q) : WP μ n Rf pc ls (.int y :: .int x :: st) I Q := by
  intro G ad A p l e s m args below meth c H locs lsA C hP hD hS hl
  exact lv_ishl C.1 C.2.1 hd (K G ad A p l e s m args below meth c H locs lsA C hP hD hS hl)
theorem w_ishr {x y : Int32} (hd : decode μ.2.1 pc = .ok (.ishr, 1)) (K : WP μ n Rf (pc + 1) ls (.int (x >>> (y &&& 31)) :: st) I Q) : WP μ n Rf pc ls (.int y :: .int x :: st) I Q := by
  intro G ad A p l e s m args below meth c H locs lsA C hP hD hS hl
  exact lv_ishr C.1 C.2.1 hd (K G ad A p l e s m args below meth c H locs lsA C hP hD hS hl)
theorem w_idiv {x y : Int32} (hd : decode μ.2.1 pc = .ok (.idiv, 1)) (hy : ¬ y = 0) (K : WP μ n Rf (pc + 1) ls (.int (x / y) :: st) I Q) : WP μ n Rf pc ls (.int y :: .int x :: st) I Q := by
  intro G ad A p l e s m args below meth c H locs lsA C hP hD hS hl
  exact lv_idiv C.1 C.2.1 hd hy (K G ad A p l e s m args below meth c H locs lsA C hP hD hS hl)
theorem w_irem {x y : Int32} (hd : decode μ.2.1 pc = .ok (.irem, 1)) (hy : ¬ y = 0) (K : WP μ n Rf (pc + 1) ls (.int (x - x / y * y) :: st) I Q) : WP μ n Rf pc ls (.int y :: .int x :: st) I Q := by
  intro G ad A p l e s m args below meth c H locs lsA C hP hD hS hl
  exact lv_irem C.1 C.2.1 hd hy (K G ad A p l e s m args below meth c H locs lsA C hP hD hS hl)
theorem w_i2l {x : Int32} (hd : decode μ.2.1 pc = .ok (.i2l, 1)) (K : WP μ n Rf (pc + 1) ls (.long x.toInt64 :: st) I Q) : WP μ n Rf pc ls (.int x :: st) I Q := by
  intro G ad A p l e s m args below meth c H locs lsA C hP hD hS hl
  exact lv_i2l C.1 C.2.1 hd rfl (K G ad A p l e s m args below meth c H locs lsA C hP hD hS hl)
theorem w_i2b {x : Int32} (hd : decode μ.2.1 pc = .ok (.i2b, 1)) (K : WP μ n Rf (pc + 1) ls (.int x.toInt8.toInt32 :: st) I Q) : WP μ n Rf pc ls (.int x :: st) I Q := by
  intro G ad A p l e s m args below meth c H locs lsA C hP hD hS hl
  exact lv_i2b C.1 C.2.1 hd rfl (K G ad A p l e s m args below meth c H locs lsA C hP hD hS hl)
theorem w_i2c {x : Int32} (hd : decode μ.2.1 pc = .ok (.i2c, 1)) (K : WP μ n Rf (pc + 1) ls (.int (x.toUInt32 % 65536).toInt32 :: st) I Q) : WP μ n Rf pc ls (.int x :: st) I Q := by
  intro G ad A p l e s m args below meth c H locs lsA C hP hD hS hl
  exact lv_i2c C.1 C.2.1 hd rfl (K G ad A p l e s m args below meth c H locs lsA C hP hD hS hl)
theorem w_lcmp {x y : Int64} (hd : decode μ.2.1 pc = .ok (.lcmp, 1)) (K : WP μ n Rf (pc + 1) ls (.int (lg_cmp x y) :: st) I Q) : WP μ n Rf pc ls (.long y :: .long x :: st) I Q := by
  intro G ad A p l e s m args below meth c H locs lsA C hP hD hS hl
  exact W.lcmp C.1 C.2.1 hd (K G ad A p l e s m args below meth c H locs lsA C hP hD hS hl)
theorem w_dup {v : Value} (hd : decode μ.2.1 pc = .ok (.dup, 1)) (hv : v.category = 1) (K : WP μ n Rf (pc + 1) ls (v :: v :: st) I Q) : WP μ n Rf pc ls (v :: st) I Q := by
  intro G ad A p l e s m args below meth c H locs lsA C hP hD hS hl
  exact lv_dup C.1 C.2.1 hd (by rw [cvt_cat (Sx_fm C.2.2.2.2.2.2.2.2.2)]; exact hv) (K G ad A p l e s m args below meth c H locs lsA C hP hD hS hl)
theorem w_dup2 {v w : Value} (hd : decode μ.2.1 pc = .ok (.dup2, 1)) (hv : v.category = 1) (hw : w.category = 1) (K : WP μ n Rf (pc + 1) ls (v :: w :: v :: w :: st) I Q) : WP μ n Rf pc ls (v :: w :: st) I Q := by
  intro G ad A p l e s m args below meth c H locs lsA C hP hD hS hl
  exact lv_dup2_11 C.1 C.2.1 hd (by rw [cvt_cat (Sx_fm C.2.2.2.2.2.2.2.2.2)]; exact hv) (by rw [cvt_cat (Sx_fm C.2.2.2.2.2.2.2.2.2)]; exact hw) (K G ad A p l e s m args below meth c H locs lsA C hP hD hS hl)
theorem w_pop {v : Value} (hd : decode μ.2.1 pc = .ok (.pop, 1)) (hv : v.category = 1) (K : WP μ n Rf (pc + 1) ls st I Q) : WP μ n Rf pc ls (v :: st) I Q := by
  intro G ad A p l e s m args below meth c H locs lsA C hP hD hS hl
  exact lv_pop C.1 C.2.1 hd (by rw [cvt_cat (Sx_fm C.2.2.2.2.2.2.2.2.2)]; exact hv) (K G ad A p l e s m args below meth c H locs lsA C hP hD hS hl)
theorem w_goto {off : Int} {t : Nat} (hd : decode μ.2.1 pc = .ok (.goto off, 3)) (ht : (pc : Int) + off = (t : Int)) (K : WP μ n Rf t ls st I Q) : WP μ n Rf pc ls st I Q := by
  intro G ad A p l e s m args below meth c H locs lsA C hP hD hS hl
  exact lv_goto C.1 C.2.1 hd ht (K G ad A p l e s m args below meth c H locs lsA C hP hD hS hl)
theorem w_icmp_eq {x y : Int32} {off : Int} {t : Nat} (hd : decode μ.2.1 pc = .ok (.if_icmp .eq off, 3)) (ht : (pc : Int) + off = (t : Int)) (K1 : x = y → WP μ n Rf t ls st I Q) (K2 : ¬ x = y → WP μ n Rf (pc + 3) ls st I Q) : WP μ n Rf pc ls (.int y :: .int x :: st) I Q := by
  intro G ad A p l e s m args below meth c H locs lsA C hP hD hS hl
  exact lv_icmp_eq C.1 C.2.1 hd ht (fun h => K1 h G ad A p l e s m args below meth c H locs lsA C hP hD hS hl) (fun h => K2 h G ad A p l e s m args below meth c H locs lsA C hP hD hS hl)
theorem w_icmp_ne {x y : Int32} {off : Int} {t : Nat} (hd : decode μ.2.1 pc = .ok (.if_icmp .ne off, 3)) (ht : (pc : Int) + off = (t : Int)) (K1 : ¬ x = y → WP μ n Rf t ls st I Q) (K2 : x = y → WP μ n Rf (pc + 3) ls st I Q) : WP μ n Rf pc ls (.int y :: .int x :: st) I Q := by
  intro G ad A p l e s m args below meth c H locs lsA C hP hD hS hl
  exact lv_icmp_ne C.1 C.2.1 hd ht (fun h => K1 h G ad A p l e s m args below meth c H locs lsA C hP hD hS hl) (fun h => K2 h G ad A p l e s m args below meth c H locs lsA C hP hD hS hl)
theorem w_icmp_lt {x y : Int32} {off : Int} {t : Nat} (hd : decode μ.2.1 pc = .ok (.if_icmp .lt off, 3)) (ht : (pc : Int) + off = (t : Int)) (K1 : x < y → WP μ n Rf t ls st I Q) (K2 : ¬ x < y → WP μ n Rf (pc + 3) ls st I Q) : WP μ n Rf pc ls (.int y :: .int x :: st) I Q := by
  intro G ad A p l e s m args below meth c H locs lsA C hP hD hS hl
  exact lv_icmp_lt C.1 C.2.1 hd ht (fun h => K1 h G ad A p l e s m args below meth c H locs lsA C hP hD hS hl) (fun h => K2 h G ad A p l e s m args below meth c H locs lsA C hP hD hS hl)
theorem w_icmp_ge {x y : Int32} {off : Int} {t : Nat} (hd : decode μ.2.1 pc = .ok (.if_icmp .ge off, 3)) (ht : (pc : Int) + off = (t : Int)) (K1 : y ≤ x → WP μ n Rf t ls st I Q) (K2 : ¬ y ≤ x → WP μ n Rf (pc + 3) ls st I Q) : WP μ n Rf pc ls (.int y :: .int x :: st) I Q := by
  intro G ad A p l e s m args below meth c H locs lsA C hP hD hS hl
  exact lv_icmp_ge C.1 C.2.1 hd ht (fun h => K1 h G ad A p l e s m args below meth c H locs lsA C hP hD hS hl) (fun h => K2 h G ad A p l e s m args below meth c H locs lsA C hP hD hS hl)
theorem w_icmp_gt {x y : Int32} {off : Int} {t : Nat} (hd : decode μ.2.1 pc = .ok (.if_icmp .gt off, 3)) (ht : (pc : Int) + off = (t : Int)) (K1 : y < x → WP μ n Rf t ls st I Q) (K2 : ¬ y < x → WP μ n Rf (pc + 3) ls st I Q) : WP μ n Rf pc ls (.int y :: .int x :: st) I Q := by
  intro G ad A p l e s m args below meth c H locs lsA C hP hD hS hl
  exact lv_icmp_gt C.1 C.2.1 hd ht (fun h => K1 h G ad A p l e s m args below meth c H locs lsA C hP hD hS hl) (fun h => K2 h G ad A p l e s m args below meth c H locs lsA C hP hD hS hl)
theorem w_icmp_le {x y : Int32} {off : Int} {t : Nat} (hd : decode μ.2.1 pc = .ok (.if_icmp .le off, 3)) (ht : (pc : Int) + off = (t : Int)) (K1 : x ≤ y → WP μ n Rf t ls st I Q) (K2 : ¬ x ≤ y → WP μ n Rf (pc + 3) ls st I Q) : WP μ n Rf pc ls (.int y :: .int x :: st) I Q := by
  intro G ad A p l e s m args below meth c H locs lsA C hP hD hS hl
  exact lv_icmp_le C.1 C.2.1 hd ht (fun h => K1 h G ad A p l e s m args below meth c H locs lsA C hP hD hS hl) (fun h => K2 h G ad A p l e s m args below meth c H locs lsA C hP hD hS hl)
theorem w_if_eq {x : Int32} {off : Int} {t : Nat} (hd : decode μ.2.1 pc = .ok (.ifCond .eq off, 3)) (ht : (pc : Int) + off = (t : Int)) (K1 : x = 0 → WP μ n Rf t ls st I Q) (K2 : ¬ x = 0 → WP μ n Rf (pc + 3) ls st I Q) : WP μ n Rf pc ls (.int x :: st) I Q := by
  intro G ad A p l e s m args below meth c H locs lsA C hP hD hS hl
  exact lv_if_eq C.1 C.2.1 hd ht (fun h => K1 h G ad A p l e s m args below meth c H locs lsA C hP hD hS hl) (fun h => K2 h G ad A p l e s m args below meth c H locs lsA C hP hD hS hl)
theorem w_if_ne {x : Int32} {off : Int} {t : Nat} (hd : decode μ.2.1 pc = .ok (.ifCond .ne off, 3)) (ht : (pc : Int) + off = (t : Int)) (K1 : ¬ x = 0 → WP μ n Rf t ls st I Q) (K2 : x = 0 → WP μ n Rf (pc + 3) ls st I Q) : WP μ n Rf pc ls (.int x :: st) I Q := by
  intro G ad A p l e s m args below meth c H locs lsA C hP hD hS hl
  exact lv_if_ne C.1 C.2.1 hd ht (fun h => K1 h G ad A p l e s m args below meth c H locs lsA C hP hD hS hl) (fun h => K2 h G ad A p l e s m args below meth c H locs lsA C hP hD hS hl)
theorem w_if_lt {x : Int32} {off : Int} {t : Nat} (hd : decode μ.2.1 pc = .ok (.ifCond .lt off, 3)) (ht : (pc : Int) + off = (t : Int)) (K1 : x < 0 → WP μ n Rf t ls st I Q) (K2 : ¬ x < 0 → WP μ n Rf (pc + 3) ls st I Q) : WP μ n Rf pc ls (.int x :: st) I Q := by
  intro G ad A p l e s m args below meth c H locs lsA C hP hD hS hl
  exact lv_if_lt C.1 C.2.1 hd ht (fun h => K1 h G ad A p l e s m args below meth c H locs lsA C hP hD hS hl) (fun h => K2 h G ad A p l e s m args below meth c H locs lsA C hP hD hS hl)
theorem w_if_ge {x : Int32} {off : Int} {t : Nat} (hd : decode μ.2.1 pc = .ok (.ifCond .ge off, 3)) (ht : (pc : Int) + off = (t : Int)) (K1 : 0 ≤ x → WP μ n Rf t ls st I Q) (K2 : ¬ 0 ≤ x → WP μ n Rf (pc + 3) ls st I Q) : WP μ n Rf pc ls (.int x :: st) I Q := by
  intro G ad A p l e s m args below meth c H locs lsA C hP hD hS hl
  exact lv_if_ge C.1 C.2.1 hd ht (fun h => K1 h G ad A p l e s m args below meth c H locs lsA C hP hD hS hl) (fun h => K2 h G ad A p l e s m args below meth c H locs lsA C hP hD hS hl)
theorem w_if_gt {x : Int32} {off : Int} {t : Nat} (hd : decode μ.2.1 pc = .ok (.ifCond .gt off, 3)) (ht : (pc : Int) + off = (t : Int)) (K1 : 0 < x → WP μ n Rf t ls st I Q) (K2 : ¬ 0 < x → WP μ n Rf (pc + 3) ls st I Q) : WP μ n Rf pc ls (.int x :: st) I Q := by
  intro G ad A p l e s m args below meth c H locs lsA C hP hD hS hl
  exact lv_if_gt C.1 C.2.1 hd ht (fun h => K1 h G ad A p l e s m args below meth c H locs lsA C hP hD hS hl) (fun h => K2 h G ad A p l e s m args below meth c H locs lsA C hP hD hS hl)
theorem w_if_le {x : Int32} {off : Int} {t : Nat} (hd : decode μ.2.1 pc = .ok (.ifCond .le off, 3)) (ht : (pc : Int) + off = (t : Int)) (K1 : x ≤ 0 → WP μ n Rf t ls st I Q) (K2 : ¬ x ≤ 0 → WP μ n Rf (pc + 3) ls st I Q) : WP μ n Rf pc ls (.int x :: st) I Q := by
  intro G ad A p l e s m args below meth c H locs lsA C hP hD hS hl
  exact lv_if_le C.1 C.2.1 hd ht (fun h => K1 h G ad A p l e s m args below meth c H locs lsA C hP hD hS hl) (fun h => K2 h G ad A p l e s m args below meth c H locs lsA C hP hD hS hl)
end WR
