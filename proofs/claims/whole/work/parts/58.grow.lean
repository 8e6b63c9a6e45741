/-! worlds that grow: constructors and the law -/
def nestL : List (String × Nat × MethodName) := [(RX11, 9, yX9_init), (RX5, 20, yX8_init), (RX11, 34, yX8_init), (RX11, 57, yX7_init), (RX1, 11, yX7_init), (RX2, 17, yX8_init)]
/-- the words that do not go over by themselves -/
def Nx (s : State) : Prop := va_AO "DeliveryRound$State" s ∧ ∀ q ∈ nestL, va_Nw (.methodLinkNest q.1 q.2.1 q.2.2 "DeliveryRound") s
theorem Nx_warm {s U : State} (hW : s.WarmedH U.vm) (h : Nx s) : Nx U := ⟨h.1.moved hW.alike, fun q hq => va_Nw.warmM hW (h.2 q hq)⟩
theorem Nx_same {s U : State} (hv : U.vm = s.vm) (h : Nx s) : Nx U := ⟨h.1.moved (by rw [hv]; exact Vm.Alike.refl s.vm), fun q hq => va_Nw.same rfl hv.symm (h.2 q hq)⟩
/-- references lead to cells that are made; what is not made yet is empty -/
def Inv (n : Nat) (Rf : MR) (I : MI) : Prop := (∀ c k r, c < n → Rf c k = some r → r < n) ∧ (∀ c, n ≤ c → Rf c = fun _ => none) ∧ ∀ c, n ≤ c → c < 286 → I c = fun _ => 0
def okA (n0 : Nat) (ad0 ad : Nat → Nat) : Prop := ∀ c, c < n0 ∨ 286 ≤ c → ad c = ad0 c
def bvB (n : Nat) : Value → Bool
  | .ref r => decide (r < n ∨ 286 ≤ r)
  | _ => true
def lvB (n : Nat) (ls : List (Option Value)) : Bool := ls.all (fun o => match o with | some v => bvB n v | none => true)
theorem cvt_ad {G : gG} {ad ad' : Nat → Nat} {n : Nat} (h : okA n ad ad') {v : Value} (hv : bvB n v = true) : cvt G ad' v = cvt G ad v := by
  cases v with
  | ref r =>
    have h1 : r < n ∨ 286 ≤ r := of_decide_eq_true hv
    show Value.ref (ad' r) = Value.ref (ad r)
    rw [h r h1]
  | _ => rfl
theorem map_ad {G : gG} {ad ad' : Nat → Nat} {n : Nat} (h : okA n ad ad') {st : List Value} (hv : st.all (bvB n) = true) : st.map (cvt G ad') = st.map (cvt G ad) :=
  List.map_congr_left (fun v hm => cvt_ad h (List.all_eq_true.mp hv v hm))
theorem lvs_ad {G : gG} {ad ad' : Nat → Nat} {n nL : Nat} {lsA : Array Slot} {ls : List (Option Value)} (h : okA n ad ad') (hv : lvB n ls = true) (hl : lvs G ad lsA nL ls) : lvs G ad' lsA nL ls :=
  ⟨hl.1, hl.2.1, fun k v hk => by
    rw [cvt_ad h (by have := List.all_eq_true.mp hv (some v) (List.mem_of_getElem? hk); simpa using this)]
    exact hl.2.2 k v hk⟩
theorem ce_ad {G : gG} {ad ad' : Nat → Nat} {t : Nat × Nat} {r : Nat → Option Nat} {f : Nat → Int32} (h : ∀ k x, r k = some x → ad' x = ad x) : ce G ad' t r f = ce G ad t r f := by
  have e : ∀ k, (r k).map ad' = (r k).map ad := fun k => by
    cases hk : r k with
    | none => rfl
    | some x => simp [h k x hk]
  unfold ce
  split
  · congr 2
    refine List.map_congr_left (fun k _ => ?_)
    unfold fv
    rw [e k]
  · rfl
  · rfl
  · rfl
  · simp only [e]
theorem wl_ad {G : gG} {ad ad' : Nat → Nat} {n : Nat} {Rf : MR} {I : MI} (h : okA n ad ad') (hb : ∀ c k r, c < n → Rf c k = some r → r < n) : wl G ad' n Rf I = wl G ad n Rf I := by
  refine List.map_congr_left (fun c hc => ?_)
  have hc := List.mem_range.mp hc
  rw [h c (Or.inl hc), ce_ad (fun k x hk => h x (Or.inl (hb c k x hc hk)))]
theorem wl_push {G : gG} {ad : Nat → Nat} {n q : Nat} {Rf : MR} {I : MI} {t : Nat × Nat} (hn : n < 286) (hi : Inv n Rf I) (hk : kd n = t) : wl G (va_up ad n q) (n + 1) Rf I = wl G ad n Rf I ++ [(q, ce G ad t (fun _ => none) (fun _ => 0))] := by
  have h : okA n ad (va_up ad n q) := fun c hc => va_up_ne _ _ (by omega)
  have e1 : wl G (va_up ad n q) (n + 1) Rf I = wl G (va_up ad n q) n Rf I ++ [(va_up ad n q n, ce G (va_up ad n q) (kd n) (Rf n) (I n))] := by
    unfold wl
    rw [List.range_succ, List.map_append]
    rfl
  rw [e1, wl_ad h hi.1, hk, hi.2.1 n (Nat.le_refl n), hi.2.2 n (Nat.le_refl n) hn, ce_ad (ad := ad) (fun k x hx => by cases hx)]
  simp [va_up]
theorem Inv_push {n : Nat} {Rf : MR} {I : MI} (h : Inv n Rf I) : Inv (n + 1) Rf I := by
  refine ⟨fun c k r hc hk => ?_, fun c hc => h.2.1 c (by omega), fun c hc hc2 => h.2.2 c (by omega) hc2⟩
  rcases Nat.lt_or_ge c n with q | q
  · exact Nat.lt_succ_of_lt (h.1 c k r q hk)
  · rw [h.2.1 c q] at hk
    cases hk
def upR (Rf : MR) (c k r : Nat) : MR := fun i j => if i = c ∧ j = k then some r else Rf i j
theorem upR_same (Rf : MR) (c k r : Nat) : upR Rf c k r c k = some r := if_pos ⟨rfl, rfl⟩
theorem upR_c {Rf : MR} {c k r i : Nat} (h : i ≠ c) : upR Rf c k r i = Rf i := funext fun j => if_neg (fun q => h q.1)
theorem upR_k {Rf : MR} {c k r i j : Nat} (h : j ≠ k) : upR Rf c k r i j = Rf i j := if_neg (fun q => h q.2)
theorem Inv_R {n : Nat} {Rf : MR} {I : MI} {c k r : Nat} (h : Inv n Rf I) (hc : c < n) (hr : r < n) : Inv n (upR Rf c k r) I := by
  refine ⟨fun i j x hi hx => ?_, fun i hi => by rw [upR_c (by omega)]; exact h.2.1 i hi, h.2.2⟩
  unfold upR at hx
  split at hx
  · cases hx
    exact hr
  · exact h.1 i j x hi hx
theorem Inv_I {n : Nat} {Rf : MR} {I : MI} {c k : Nat} {x : Int32} (h : Inv n Rf I) (hc : c < n) : Inv n Rf (up2 I c k x) := ⟨h.1, h.2.1, fun i hi hi2 => by
  rw [up2, upA_ne _ _ (by omega)]; exact h.2.2 i hi hi2⟩
/-- what stays as it is in a method's body -/
def Cb (G : gG) (μ : mD) (A : Nat → Prop) (p : Program) (s : State) (m : MethodId) (args : Array Value) (meth : Method) (c : Code) : Prop :=
  p.tables.exec = Jvm.exec ∧ c.code = μ.2.1 ∧ meth.sig.returnType = μ.2.2.2.1 ∧ c.maxLocals = μ.2.2.1 ∧ s.vm.findClass μ.1.cls = some m.cls ∧ (∀ w ∈ tbl, w.before args s = true) ∧ meth.locks = false ∧ va_K G.1 vwCl (tysG G) s ∧ (∀ q, s.heap.size ≤ q → A q) ∧ Sx G A s
/-- from pc, with these locals, this stack, n cells made, these references and numbers, the body comes to Qf -/
def WB (G : gG) (ad0 : Nat → Nat) (n0 : Nat) (A : Nat → Prop) (p : Program) (l : Launch) (e : Env) (R : Room) (s : State) (m : MethodId) (args : Array Value) (below : List Frame) (meth : Method) (c : Code) (Qf : State → Prop) (μ : mD) (cs ss n : Nat) (Rf : MR) (pc : Nat) (ls : List (Option Value)) (st : List Value) (I : MI) : Prop :=
  Cb G μ A p s m args meth c → Nx s → n0 ≤ n → Inv n Rf I → ∀ (ad : Nat → Nat) (H : Heap) (locs : List Loc) (lsA : Array Slot), okA n0 ad0 ad → va_P G.1 vwCl (wl G ad n Rf I) H → va_D A (wl G ad n Rf I) → va_S A s.heap H locs → lvs G ad lsA μ.2.2.1 ls →
    W p l e R s m args below meth c H locs cs ss Qf (F0 m pc lsA (st.map (cvt G ad)))
section WBR
variable {G : gG} {ad0 : Nat → Nat} {n0 : Nat} {A : Nat → Prop} {p : Program} {l : Launch} {e : Env} {R : Room} {s : State} {m : MethodId} {args : Array Value} {below : List Frame} {meth : Method} {c : Code} {Qf : State → Prop} {μ : mD} {cs ss n : Nat} {Rf : MR} {pc : Nat} {ls : List (Option Value)} {st : List Value} {I : MI}
theorem wb_iconst {k : Int} {v : Int32} (hd : decode μ.2.1 pc = .ok (.iconst k, 1)) (hv : Int32.ofInt k = v) (K : WB G ad0 n0 A p l e R s m args below meth c Qf μ cs ss n Rf (pc + 1) ls (.int v :: st) I) : WB G ad0 n0 A p l e R s m args below meth c Qf μ cs ss n Rf pc ls st I := by
  intro C N hn hi ad H locs lsA ha hP hD hS hl
  exact lv_iconst C.1 C.2.1 hd hv (K C N hn hi ad H locs lsA ha hP hD hS hl)
theorem wb_bipush {k : Int} {v : Int32} (hd : decode μ.2.1 pc = .ok (.bipush k, 2)) (hv : (Int8.ofInt k).toInt32 = v) (K : WB G ad0 n0 A p l e R s m args below meth c Qf μ cs ss n Rf (pc + 2) ls (.int v :: st) I) : WB G ad0 n0 A p l e R s m args below meth c Qf μ cs ss n Rf pc ls st I := by
  intro C N hn hi ad H locs lsA ha hP hD hS hl
  exact lv_bipush C.1 C.2.1 hd hv (K C N hn hi ad H locs lsA ha hP hD hS hl)
theorem wb_sipush {k : Int} {v : Int32} (hd : decode μ.2.1 pc = .ok (.sipush k, 3)) (hv : (Int16.ofInt k).toInt32 = v) (K : WB G ad0 n0 A p l e R s m args below meth c Qf μ cs ss n Rf (pc + 3) ls (.int v :: st) I) : WB G ad0 n0 A p l e R s m args below meth c Qf μ cs ss n Rf pc ls st I := by
  intro C N hn hi ad H locs lsA ha hP hD hS hl
  exact lv_sipush C.1 C.2.1 hd hv (K C N hn hi ad H locs lsA ha hP hD hS hl)
theorem wb_ldc {k : Nat} {v : Int32} (hd : decode μ.2.1 pc = .ok (.ldc k, 2)) (hw : Cond.constant μ.1.cls k v ∈ tbl) (K : WB G ad0 n0 A p l e R s m args below meth c Qf μ cs ss n Rf (pc + 2) ls (.int v :: st) I) : WB G ad0 n0 A p l e R s m args below meth c Qf μ cs ss n Rf pc ls st I := by
  intro C N hn hi ad H locs lsA ha hP hD hS hl
  exact lv_ldc C.1 C.2.1 C.2.2.2.2.1 (C.2.2.2.2.2.1 _ hw) hd (K C N hn hi ad H locs lsA ha hP hD hS hl)
theorem wb_iload_n {k : Fin 4} {i : Nat} {x : Int32} (hd : decode μ.2.1 pc = .ok (.iload_n k, 1)) (hi2 : (k : Nat) = i) (hx : ls[i]? = some (some (.int x))) (K : WB G ad0 n0 A p l e R s m args below meth c Qf μ cs ss n Rf (pc + 1) ls (.int x :: st) I) : WB G ad0 n0 A p l e R s m args below meth c Qf μ cs ss n Rf pc ls st I := by
  intro C N hn hi ad H locs lsA ha hP hD hS hl
  exact lv_iload_n C.1 C.2.1 hd hi2 (hl.2.2 _ _ hx) (K C N hn hi ad H locs lsA ha hP hD hS hl)
theorem wb_aload_n {k : Fin 4} {i : Nat} {r : Nat} (hd : decode μ.2.1 pc = .ok (.aload_n k, 1)) (hi2 : (k : Nat) = i) (hx : ls[i]? = some (some (.ref r))) (K : WB G ad0 n0 A p l e R s m args below meth c Qf μ cs ss n Rf (pc + 1) ls (.ref r :: st) I) : WB G ad0 n0 A p l e R s m args below meth c Qf μ cs ss n Rf pc ls st I := by
  intro C N hn hi ad H locs lsA ha hP hD hS hl
  exact lv_aload_n C.1 C.2.1 hd hi2 (hl.2.2 _ _ hx) (K C N hn hi ad H locs lsA ha hP hD hS hl)
theorem wb_aload {i : Nat} {r : Nat} (hd : decode μ.2.1 pc = .ok (.aload i, 2)) (hx : ls[i]? = some (some (.ref r))) (K : WB G ad0 n0 A p l e R s m args below meth c Qf μ cs ss n Rf (pc + 2) ls (.ref r :: st) I) : WB G ad0 n0 A p l e R s m args below meth c Qf μ cs ss n Rf pc ls st I := by
  intro C N hn hi ad H locs lsA ha hP hD hS hl
  exact lv_aload C.1 C.2.1 hd (hl.2.2 _ _ hx) (K C N hn hi ad H locs lsA ha hP hD hS hl)
theorem wb_iadd {x y : Int32} (hd : decode μ.2.1 pc = .ok (.iadd, 1)) (K : WB G ad0 n0 A p l e R s m args below meth c Qf μ cs ss n Rf (pc + 1) ls (.int (x + y) :: st) I) : WB G ad0 n0 A p l e R s m args below meth c Qf μ cs ss n Rf pc ls (.int y :: .int x :: st) I := by
  intro C N hn hi ad H locs lsA ha hP hD hS hl
  exact lv_iadd C.1 C.2.1 hd (K C N hn hi ad H locs lsA ha hP hD hS hl)
theorem wb_isub {x y : Int32} (hd : decode μ.2.1 pc = .ok (.isub, 1)) (K : WB G ad0 n0 A p l e R s m args below meth c Qf μ cs ss n Rf (pc + 1) ls (.int (x - y) :: st) I) : WB G ad0 n0 A p l e R s m args below meth c Qf μ cs ss n Rf pc ls (.int y :: .int x :: st) I := by
  intro C N hn hi ad H locs lsA ha hP hD hS hl
  exact lv_isub C.1 C.2.1 hd (K C N hn hi ad H locs lsA ha hP hD hS hl)
theorem wb_iand {x y : Int32} (hd : decode μ.2.1 pc = .ok (.iand, 1)) (K : WB G ad0 n0 A p l e R s m args below meth c Qf μ cs ss n Rf (pc + 1) ls (.int (x &&& y) :: st) I) : WB G ad0 n0 A p l e R s m args below meth c Qf μ cs ss n Rf pc ls (.int y :: .int x :: st) I := by
  intro C N hn hi ad H locs lsA ha hP hD hS hl
  exact lv_iand C.1 C.2.1 hd (K C N hn hi ad H locs lsA ha hP hD hS hl)
theorem wb_istore_n {k : Fin 4} {i : Nat} {x : Int32} {ls' : List (Option Value)} (hd : decode μ.2.1 pc = .ok (.istore_n k, 1)) (hi2 : (k : Nat) = i) (hn2 : i < μ.2.2.1) (hc : c1 ls = true) (hl' : ls.set i (some (.int x)) = ls') (K : WB G ad0 n0 A p l e R s m args below meth c Qf μ cs ss n Rf (pc + 1) ls' st I) : WB G ad0 n0 A p l e R s m args below meth c Qf μ cs ss n Rf pc ls (.int x :: st) I := by
  intro C N hn hi ad H locs lsA ha hP hD hS hl
  subst hl'
  exact lv_istore_n C.1 C.2.1 hd hi2 (lvs_has hl) hn2 rfl (fun lsB hB => K C N hn hi ad H locs lsB ha hP hD hS (lvs_set (v := .int x) (Sx_fm C.2.2.2.2.2.2.2.2.2) hc hB))
theorem wb_astore_n {k : Fin 4} {i : Nat} {x : Nat} {ls' : List (Option Value)} (hd : decode μ.2.1 pc = .ok (.astore_n k, 1)) (hi2 : (k : Nat) = i) (hn2 : i < μ.2.2.1) (hc : c1 ls = true) (hl' : ls.set i (some (.ref x)) = ls') (K : WB G ad0 n0 A p l e R s m args below meth c Qf μ cs ss n Rf (pc + 1) ls' st I) : WB G ad0 n0 A p l e R s m args below meth c Qf μ cs ss n Rf pc ls (.ref x :: st) I := by
  intro C N hn hi ad H locs lsA ha hP hD hS hl
  subst hl'
  exact lv_astore_n C.1 C.2.1 hd hi2 (lvs_has hl) hn2 rfl (fun lsB hB => K C N hn hi ad H locs lsB ha hP hD hS (lvs_set (v := .ref x) (Sx_fm C.2.2.2.2.2.2.2.2.2) hc hB))
theorem wb_iinc {i : Nat} {k : Int} {x v : Int32} {ls' : List (Option Value)} (hd : decode μ.2.1 pc = .ok (.iinc i k, 3)) (hx : ls[i]? = some (some (.int x))) (hv : x + Int32.ofInt k = v) (hn2 : i < μ.2.2.1) (hc : c1 ls = true) (hl' : ls.set i (some (.int v)) = ls') (K : WB G ad0 n0 A p l e R s m args below meth c Qf μ cs ss n Rf (pc + 3) ls' st I) : WB G ad0 n0 A p l e R s m args below meth c Qf μ cs ss n Rf pc ls st I := by
  intro C N hn hi ad H locs lsA ha hP hD hS hl
  subst hl'
  obtain ⟨q, hq⟩ := List.getElem?_of_mem (asc_in (G := G) (ad := ad) hx)
  exact lv_iinc C.1 C.2.1 hd (lvs_has hl) hq hv hn2 rfl (fun lsB hB => K C N hn hi ad H locs lsB ha hP hD hS (lvs_set (v := .int v) (Sx_fm C.2.2.2.2.2.2.2.2.2) hc hB))
theorem wb_dup {v : Value} (hd : decode μ.2.1 pc = .ok (.dup, 1)) (hv : v.category = 1) (K : WB G ad0 n0 A p l e R s m args below meth c Qf μ cs ss n Rf (pc + 1) ls (v :: v :: st) I) : WB G ad0 n0 A p l e R s m args below meth c Qf μ cs ss n Rf pc ls (v :: st) I := by
  intro C N hn hi ad H locs lsA ha hP hD hS hl
  exact lv_dup C.1 C.2.1 hd (by rw [cvt_cat (Sx_fm C.2.2.2.2.2.2.2.2.2)]; exact hv) (K C N hn hi ad H locs lsA ha hP hD hS hl)
theorem wb_goto {off : Int} {t : Nat} (hd : decode μ.2.1 pc = .ok (.goto off, 3)) (ht : (pc : Int) + off = (t : Int)) (K : WB G ad0 n0 A p l e R s m args below meth c Qf μ cs ss n Rf t ls st I) : WB G ad0 n0 A p l e R s m args below meth c Qf μ cs ss n Rf pc ls st I := by
  intro C N hn hi ad H locs lsA ha hP hD hS hl
  exact lv_goto C.1 C.2.1 hd ht (K C N hn hi ad H locs lsA ha hP hD hS hl)
theorem wb_icmp_ge {x y : Int32} {off : Int} {t : Nat} (hd : decode μ.2.1 pc = .ok (.if_icmp .ge off, 3)) (ht : (pc : Int) + off = (t : Int)) (K1 : y ≤ x → WB G ad0 n0 A p l e R s m args below meth c Qf μ cs ss n Rf t ls st I) (K2 : ¬ y ≤ x → WB G ad0 n0 A p l e R s m args below meth c Qf μ cs ss n Rf (pc + 3) ls st I) : WB G ad0 n0 A p l e R s m args below meth c Qf μ cs ss n Rf pc ls (.int y :: .int x :: st) I := by
  intro C N hn hi ad H locs lsA ha hP hD hS hl
  exact lv_icmp_ge C.1 C.2.1 hd ht (fun h => K1 h C N hn hi ad H locs lsA ha hP hD hS hl) (fun h => K2 h C N hn hi ad H locs lsA ha hP hD hS hl)
theorem wb_obj {idx r : Nat} (hd : decode μ.2.1 pc = .ok (.invokespecial idx, 3)) (hw : Cond.methodLink μ.1.cls idx objectInit ∈ tbl) (hw2 : Cond.instanceMethod objectInit ∈ tbl) (hw3 : Cond.code Lib.objectInit ⟨#[0xb1]⟩ 1 none ∈ tbl) (hf : 1 ≤ R.frames) (hlo : (st.map fun v => v.category).sum + 12 ≤ R.locals) (K : WB G ad0 n0 A p l e R s m args below meth c Qf μ cs ss n Rf (pc + 3) ls st I) : WB G ad0 n0 A p l e R s m args below meth c Qf μ cs ss n Rf pc ls (.ref r :: st) I := by
  intro C N hn hi ad H locs lsA ha hP hD hS hl
  refine W.objInit C.1 C.2.1 C.2.2.2.2.1 (C.2.2.2.2.2.1 _ hw) (C.2.2.2.2.2.1 _ hw2) (C.2.2.2.2.2.1 _ hw3) rfl (by rw [C.2.2.2.1]; exact hl.1) rfl hd hf ?_ (K C N hn hi ad H locs lsA ha hP hD hS hl)
  have := cvt_sum (ad := ad) (Sx_fm C.2.2.2.2.2.2.2.2.2) st
  show 2 * 0 + ((st.map (cvt G ad)).map fun v => v.category).sum + 12 ≤ R.locals
  omega
theorem wb_getR {idx c0 ci k N r : Nat} {Cn : String} {T : u_T} {ty : Nat → FieldType} (hd : decode μ.2.1 pc = .ok (.getfield idx, 3)) (hw : Cond.fieldLink μ.1.cls idx (T k).1 (T k).2.1 (T k).2.2.1 ∈ tbl) (ho : okC ci Cn T N ty) (h0 : kd c0 = (0, ci)) (hlt : c0 < n) (hk : k < N) (hf : fR ci k = true) (hr : Rf c0 k = some r) (K : WB G ad0 n0 A p l e R s m args below meth c Qf μ cs ss n Rf (pc + 3) ls (.ref r :: st) I) : WB G ad0 n0 A p l e R s m args below meth c Qf μ cs ss n Rf pc ls (.ref c0 :: st) I := by
  intro C N hn hi ad H locs lsA ha hP hD hS hl
  refine va_get (D := G.1) (cl := vwCl) (ws := wl G ad n Rf I) (T := T) C.1 C.2.1 (C.2.2.2.2.2.1) ho.2.1 C.2.2.2.2.1 C.2.2.2.2.2.2.2.1 hP c0 (wl_of h0 hlt) ho.1 k hk (C.2.2.2.2.2.1 _ hw) (fun _ h => h) (v := .ref (ad r)) ?_ hd (K C N hn hi ad H locs lsA ha hP hD hS hl)
  rw [ho.2.2.1, fv_at hk]
  simp [fv, hf, hr, va_rf]
theorem wl_setR {ci N : Nat} {k c0 r : Nat} {ad : Nat → Nat} (hk : kd c0 = (0, ci)) (hf : fR ci k = true) (hN : nf ci = N) : (wl G ad n Rf I).set c0 (ad c0, .inr (ci, ((List.range (nf ci)).map (fv ad ci (Rf c0) (I c0))).set k (.ref (ad r)))) = wl G ad n (upR Rf c0 k r) I := by
  apply List.ext_getElem?
  intro i
  by_cases hi : i < n
  · by_cases h : i = c0
    · subst h
      have hlen : i < (wl G ad n Rf I).length := by simp [wl, hi]
      rw [List.getElem?_set_self hlen, wl_of hk hi]
      have e : ((List.range (nf ci)).map (fv ad ci (Rf i) (I i))).set k (.ref (ad r)) = (List.range (nf ci)).map (fv ad ci (upR Rf i k r i) (I i)) := by
        apply List.ext_getElem?
        intro j
        by_cases hj : j < nf ci
        · by_cases h2 : j = k
          · subst h2
            rw [List.getElem?_set_self (by simp [hj])]
            simp [hj, fv, hf, upR, va_rf]
          · rw [List.getElem?_set_ne (fun q => h2 q.symm)]
            simp [hj, fv, upR, h2]
        · rw [List.getElem?_eq_none (by simp; omega), List.getElem?_eq_none (by simp; omega)]
      rw [e]
      rfl
    · rw [List.getElem?_set_ne (fun q => h q.symm), wl_at hi, wl_at hi, upR_c h]
  · rw [List.getElem?_eq_none (by simp [wl]; omega), List.getElem?_eq_none (by simp [wl]; omega)]
theorem wb_putR {idx c0 ci k N r : Nat} {Cn : String} {T : u_T} {ty : Nat → FieldType} (hm : meth.name = "<init>") (hd : decode μ.2.1 pc = .ok (.putfield idx, 3)) (hw : Cond.fieldLink μ.1.cls idx (T k).1 (T k).2.1 (T k).2.2.1 ∈ tbl) (ho : okC ci Cn T N ty) (h0 : kd c0 = (0, ci)) (hlt : c0 < n) (hk : k < N) (hf : fR ci k = true) (hown : (T k).1 = μ.1.cls) (hr : r < n) (hnr : ∀ q : Nat, narrow (ty k) (.ref q) = .ref q) (hfit : ∀ q : Nat, fits (ty k) (.ref q) = true) (K : WB G ad0 n0 A p l e R s m args below meth c Qf μ cs ss n (upR Rf c0 k r) (pc + 3) ls st I) : WB G ad0 n0 A p l e R s m args below meth c Qf μ cs ss n Rf pc ls (.ref r :: .ref c0 :: st) I := by
  intro C N hn hi ad H locs lsA ha hP hD hS hl
  have go : ∀ (H1 : Heap) (locs1 : List Loc), va_P G.1 vwCl ((wl G ad n Rf I).set c0 (ad c0, .inr (ci, ((List.range (nf ci)).map (fv ad ci (Rf c0) (I c0))).set k (.ref (ad r))))) H1 → va_D A ((wl G ad n Rf I).set c0 (ad c0, .inr (ci, ((List.range (nf ci)).map (fv ad ci (Rf c0) (I c0))).set k (.ref (ad r))))) → va_S A s.heap H1 locs1 → W p l e R s m args below meth c H1 locs1 cs ss Qf (F0 m (pc + 3) lsA (st.map (cvt G ad))) := by
    intro H1 locs1 hP1 hD1 hS1
    rw [wl_setR h0 hf ho.2.2.1] at hP1 hD1
    exact K C N hn (Inv_R hi hlt hr) ad H1 locs1 lsA ha hP1 hD1 hS1 hl
  cases hfin : (T k).2.2.2 with
  | false => exact va_put (D := G.1) (cl := vwCl) (ws := wl G ad n Rf I) (T := T) C.1 C.2.1 (C.2.2.2.2.2.1) ho.2.1 ty ho.2.2.2.1 ho.2.2.2.2 C.2.2.2.2.1 C.2.2.2.2.2.2.2.1 hP hD hS c0 (wl_of h0 hlt) ho.1 k hk (C.2.2.2.2.2.1 _ hw) (fun _ h => h) hfin (ho.2.2.2.1 k hk) (v := .ref (ad r)) (hnr _) (hfit _) (by simp [ho.2.2.1, hk]) hd go
  | true => exact va_putF (D := G.1) (cl := vwCl) (ws := wl G ad n Rf I) (T := T) C.1 C.2.1 (C.2.2.2.2.2.1) ho.2.1 ty ho.2.2.2.1 ho.2.2.2.2 C.2.2.2.2.1 C.2.2.2.2.2.2.2.1 hP hD hS c0 (wl_of h0 hlt) ho.1 k hk (C.2.2.2.2.2.1 _ hw) (fun _ h => h) hfin hm hown (ho.2.2.2.1 k hk) (v := .ref (ad r)) (hnr _) (hfit _) (by simp [ho.2.2.1, hk]) hd go
theorem wb_putI {idx c0 ci k N : Nat} {Cn : String} {T : u_T} {ty : Nat → FieldType} {x : Int32} (hd : decode μ.2.1 pc = .ok (.putfield idx, 3)) (hw : Cond.fieldLink μ.1.cls idx (T k).1 (T k).2.1 (T k).2.2.1 ∈ tbl) (ho : okC ci Cn T N ty) (h0 : kd c0 = (0, ci)) (hlt : c0 < n) (hk : k < N) (hf : fR ci k = false) (hfin : (T k).2.2.2 = false) (hty : ty k = .int) (K : WB G ad0 n0 A p l e R s m args below meth c Qf μ cs ss n Rf (pc + 3) ls st (up2 I c0 k x)) : WB G ad0 n0 A p l e R s m args below meth c Qf μ cs ss n Rf pc ls (.int x :: .ref c0 :: st) I := by
  intro C N hn hi ad H locs lsA ha hP hD hS hl
  refine va_put (D := G.1) (cl := vwCl) (ws := wl G ad n Rf I) (T := T) C.1 C.2.1 (C.2.2.2.2.2.1) ho.2.1 ty ho.2.2.2.1 ho.2.2.2.2 C.2.2.2.2.1 C.2.2.2.2.2.2.2.1 hP hD hS c0 (wl_of h0 hlt) ho.1 k hk (C.2.2.2.2.2.1 _ hw) (fun _ h => h) hfin (ho.2.2.2.1 k hk) (v := .int x) (by rw [hty]; rfl) (by rw [hty]; rfl) (by simp [ho.2.2.1, hk]) hd ?_
  intro H1 locs1 hP1 hD1 hS1
  rw [fv_set hf] at hP1 hD1
  have e1 : (wl G ad n Rf I).set c0 (ad c0, ce G ad (0, ci) (Rf c0) (upd (I c0) k x)) = wl G ad n Rf (up2 I c0 k x) := wl_set h0 _
  exact K C N hn (Inv_I hi hlt) ad H1 locs1 lsA ha (e1 ▸ hP1) (e1 ▸ hD1) hS1 hl
theorem wb_iast {c0 N j : Nat} {i x : Int32} (hd : decode μ.2.1 pc = .ok (.iastore, 1)) (h0 : kd c0 = (1, N)) (hlt : c0 < n) (hi2 : vp_in i N) (hj : i.toNatClampNeg = j) (K : WB G ad0 n0 A p l e R s m args below meth c Qf μ cs ss n Rf (pc + 1) ls st (up2 I c0 j x)) : WB G ad0 n0 A p l e R s m args below meth c Qf μ cs ss n Rf pc ls (.int x :: .int i :: .ref c0 :: st) I := by
  intro C N hn hi ad H locs lsA ha hP hD hS hl
  subst hj
  refine va_iast (D := G.1) (cl := vwCl) (tys := tysG G) (ws := wl G ad n Rf I) (f := I c0) C.1 C.2.1 C.2.2.2.2.2.2.2.1 hP hD hS c0 0 (wl_of h0 hlt) rfl hi2 hd ?_
  intro H1 locs1 hP1 hD1 hS1
  have e1 := wl_set (G := G) (ad := ad) (n := n) (Rf := Rf) (I := I) h0 (upd (I c0) i.toNatClampNeg x)
  exact K C N hn (Inv_I hi hlt) ad H1 locs1 lsA ha (e1 ▸ hP1) (e1 ▸ hD1) hS1 hl
theorem wl_setQ {N k c0 r : Nat} {ad : Nat → Nat} (hk : kd c0 = (4, N)) : (wl G ad n Rf I).set c0 (ad c0, .inl (G.2.1.2.2.2, N, .inr (.inr (.inr (.inr (va_up (fun k => (Rf c0 k).map ad) k (some (ad r)))))))) = wl G ad n (upR Rf c0 k r) I := by
  apply List.ext_getElem?
  intro i
  by_cases hi : i < n
  · by_cases h : i = c0
    · subst h
      have hlen : i < (wl G ad n Rf I).length := by simp [wl, hi]
      rw [List.getElem?_set_self hlen, wl_of hk hi]
      have e : va_up (fun k => (Rf i k).map ad) k (some (ad r)) = fun j => (upR Rf i k r i j).map ad := by
        funext j
        by_cases h2 : j = k
        · subst h2; rw [upR_same]; simp [va_up]
        · rw [upR_k h2, va_up_ne _ _ h2]
      rw [e]
      rfl
    · rw [List.getElem?_set_ne (fun q => h q.symm), wl_at hi, wl_at hi, upR_c h]
  · rw [List.getElem?_eq_none (by simp [wl]; omega), List.getElem?_eq_none (by simp [wl]; omega)]
theorem wb_aast {c0 N r j : Nat} {i : Int32} (hd : decode μ.2.1 pc = .ok (.aastore, 1)) (h0 : kd c0 = (4, N)) (hlt : c0 < n) (hi2 : vp_in i N) (h1 : kd r = (0, 8)) (hr : r < n) (hj : i.toNatClampNeg = j) (K : WB G ad0 n0 A p l e R s m args below meth c Qf μ cs ss n (upR Rf c0 j r) (pc + 1) ls st I) : WB G ad0 n0 A p l e R s m args below meth c Qf μ cs ss n Rf pc ls (.ref r :: .int i :: .ref c0 :: st) I := by
  intro C N hn hi ad H locs lsA ha hP hD hS hl
  subst hj
  refine va_astq (D := G.1) (cl := vwCl) (tys := tysG G) (ws := wl G ad n Rf I) (f := fun k => (Rf c0 k).map ad) C.1 C.2.1 C.2.2.2.2.2.2.2.1 hP hD hS c0 3 r 8 (wl_of h0 hlt) rfl (wl_of h1 hr) okC8.1 hi2 hd ?_
  intro H1 locs1 hP1 hD1 hS1
  rw [wl_setQ h0] at hP1 hD1
  exact K C N hn (Inv_R hi hlt hr) ad H1 locs1 lsA ha hP1 hD1 hS1 hl
theorem wb_new {idx ci N n' : Nat} {Cn : String} {T : u_T} {ty : Nat → FieldType} (hd : decode μ.2.1 pc = .ok (.new idx, 3)) (hw : Cond.classLink μ.1.cls idx Cn ∈ tbl) (hw2 : Cond.instantiable Cn N ∈ tbl) (hw3 : Cond.initialized Cn ∈ tbl) (ho : okC ci Cn T N ty) (h0 : kd n = (0, ci)) (h286 : n < 286) (hdv : ∀ j, j < N → defaultValue (ty j) = if fR ci j = true then .null else .int 0) (hcs : cs + 1 ≤ R.cells) (hss : ss + N ≤ R.slots) (hls : lvB n ls = true) (hst : st.all (bvB n) = true) (hn' : n + 1 = n') (K : (I n = fun _ => 0) → (Rf n = fun _ => none) → WB G ad0 n0 A p l e R s m args below meth c Qf μ (cs + 1) (ss + N) n' Rf (pc + 3) ls (.ref n :: st) I) : WB G ad0 n0 A p l e R s m args below meth c Qf μ cs ss n Rf pc ls st I := by
  intro C N hn hi ad H locs lsA ha hP hD hS hl
  subst hn'
  refine va_new (D := G.1) (cl := vwCl) (tys := tysG G) (ws := wl G ad n Rf I) (T := T) C.1 C.2.1 (C.2.2.2.2.2.1) ho.2.1 ty ho.2.2.2.1 C.2.2.2.2.1 (C.2.2.2.2.2.1 _ hw) (C.2.2.2.2.2.1 _ hw2) (C.2.2.2.2.2.1 _ hw3) C.2.2.2.2.2.2.2.1 hP hD hS C.2.2.2.2.2.2.2.2.1 ho.1 (fs := (List.range (nf ci)).map (fv ad ci (fun _ => none) (fun _ => 0))) ?_ hcs hss hd ?_
  · intro j hj
    rw [hdv j hj]
    have : vp_V ((List.range (nf ci)).map (fv ad ci (fun _ => none) (fun _ => 0))) j = fv ad ci (fun _ => none) (fun _ => 0) j := by
      simp [vp_V, ho.2.2.1, hj]
    rw [this]
    rfl
  · intro q H1 hP1 hD1 hS1
    have e1 := wl_push (G := G) (ad := ad) (q := q) h286 hi h0
    have hk : okA n ad (va_up ad n q) := fun c hc => va_up_ne _ _ (by omega)
    have := K (hi.2.2 n (Nat.le_refl n) h286) (hi.2.1 n (Nat.le_refl n)) C N (by omega) (Inv_push hi) (va_up ad n q) H1 locs lsA (fun c hc => (hk c (by omega)).trans (ha c hc)) (e1 ▸ hP1) (e1 ▸ hD1) hS1 (lvs_ad hk hls hl)
    rw [List.map_cons, map_ad hk hst] at this
    have e2 : cvt G (va_up ad n q) (.ref n) = .ref q := by simp [cvt, va_up]
    rw [e2] at this
    exact this
theorem wb_newa {at1 : ArrayType} {kk N n' : Nat} {x : Int32} {ty : FieldType} (hd : decode μ.2.1 pc = .ok (.newarray at1, 2)) (hw : Cond.arrayClass ty ∈ tbl) (hty : newarray.typeOf at1 = ty) (h0 : kd n = (kk, N)) (hkk : kk = 1 ∧ ty = .int ∨ kk = 2 ∧ ty = .byte ∨ kk = 3 ∧ ty = .boolean) (hx : ¬ x < 0) (hN : x.toNatClampNeg = N) (hby : N * componentBytes ty ≤ 536870912) (h286 : n < 286) (hcs : cs + 1 ≤ R.cells) (hss : ss + N ≤ R.slots) (hls : lvB n ls = true) (hst : st.all (bvB n) = true) (hn' : n + 1 = n') (K : (I n = fun _ => 0) → (Rf n = fun _ => none) → WB G ad0 n0 A p l e R s m args below meth c Qf μ (cs + 1) (ss + N) n' Rf (pc + 2) ls (.ref n :: st) I) : WB G ad0 n0 A p l e R s m args below meth c Qf μ cs ss n Rf pc ls (.int x :: st) I := by
  intro C N0 hn hi ad H locs lsA ha hP hD hS hl
  subst hn'
  refine va_newa (D := G.1) (cl := vwCl) (tys := tysG G) (ws := wl G ad n Rf I) (a0 := (N, .inl (fun _ => 0))) C.1 C.2.1 (by rw [hty]; exact C.2.2.2.2.2.1 _ hw) hty C.2.2.2.2.2.2.2.1 hP hD hS C.2.2.2.2.2.2.2.2.1 ?_ hx hN hby hcs hss hd ?_
  · intro cA
    rw [vp_cell_i]
    rcases hkk with ⟨-, h⟩ | ⟨-, h⟩ | ⟨-, h⟩ <;> subst h <;> rfl
  · intro q cA H1 hK1 hP1 hD1 hS1
    have hc : ce G ad (kk, N) (fun _ => none) (fun _ => 0) = .inl (cA, N, .inl (fun _ => 0)) := by
      have h4 := (hK1.2 4 (cA, ty) rfl).2
      have t0 := (C.2.2.2.2.2.2.2.1.2 0 _ rfl).2
      have t1 := (C.2.2.2.2.2.2.2.1.2 1 _ rfl).2
      have t2 := (C.2.2.2.2.2.2.2.1.2 2 _ rfl).2
      rcases hkk with ⟨h, h'⟩ | ⟨h, h'⟩ | ⟨h, h'⟩ <;> subst h <;> subst h'
      · have : cA = G.2.1.1 := Option.some.inj ((va_nm_int h4).symm.trans (va_nm_int t0))
        rw [this]; rfl
      · have : cA = G.2.1.2.1 := Option.some.inj ((va_nm_byte h4).symm.trans (va_nm_byte t1))
        rw [this]; rfl
      · have : cA = G.2.1.2.2.1 := Option.some.inj ((va_nm_boolean h4).symm.trans (va_nm_boolean t2))
        rw [this]; rfl
    have e1 := wl_push (G := G) (ad := ad) (q := q) h286 hi h0
    rw [hc] at e1
    have hk : okA n ad (va_up ad n q) := fun c hc => va_up_ne _ _ (by omega)
    have := K (hi.2.2 n (Nat.le_refl n) h286) (hi.2.1 n (Nat.le_refl n)) C N0 (by omega) (Inv_push hi) (va_up ad n q) H1 locs lsA (fun c hc => (hk c (by omega)).trans (ha c hc)) (e1 ▸ hP1) (e1 ▸ hD1) hS1 (lvs_ad hk hls hl)
    rw [List.map_cons, map_ad hk hst] at this
    have e2 : cvt G (va_up ad n q) (.ref n) = .ref q := by simp [cvt, va_up]
    rw [e2] at this
    exact this
theorem wb_newq {idx N n' : Nat} {x : Int32} (hd : decode μ.2.1 pc = .ok (.anewarray idx, 3)) (hw : Cond.classLink μ.1.cls idx "DeliveryRound$State" ∈ tbl) (h0 : kd n = (4, N)) (hx : ¬ x < 0) (hN : x.toNatClampNeg = N) (hby : N * 4 ≤ 536870912) (h286 : n < 286) (hcs : cs + 1 ≤ R.cells) (hss : ss + N ≤ R.slots) (hls : lvB n ls = true) (hst : st.all (bvB n) = true) (hn' : n + 1 = n') (K : (I n = fun _ => 0) → (Rf n = fun _ => none) → WB G ad0 n0 A p l e R s m args below meth c Qf μ (cs + 1) (ss + N) n' Rf (pc + 3) ls (.ref n :: st) I) : WB G ad0 n0 A p l e R s m args below meth c Qf μ cs ss n Rf pc ls (.int x :: st) I := by
  intro C N0 hn hi ad H locs lsA ha hP hD hS hl
  subst hn'
  refine va_newq (D := G.1) (cl := vwCl) (tys := tysG G) (ws := wl G ad n Rf I) C.1 C.2.1 C.2.2.2.2.1 (C.2.2.2.2.2.1 _ hw) N0.1 C.2.2.2.2.2.2.2.1 hP hD hS C.2.2.2.2.2.2.2.2.1 hx hN hby hcs hss hd ?_
  intro q cA H1 hK1 hP1 hD1 hS1
  have hc : ce G ad (4, N) (fun _ => none) (fun _ => 0) = .inl (cA, N, .inr (.inr (.inr (.inr (fun _ => none))))) := by
    have h4 := (hK1.2 4 (cA, .object "DeliveryRound$State") rfl).2
    have t3 := (C.2.2.2.2.2.2.2.1.2 3 _ rfl).2
    have : cA = G.2.1.2.2.2 := Option.some.inj ((va_nmO h4 rfl).symm.trans (va_nmO t3 rfl))
    rw [this]; rfl
  have e1 := wl_push (G := G) (ad := ad) (q := q) h286 hi h0
  rw [hc] at e1
  have hk : okA n ad (va_up ad n q) := fun c hc => va_up_ne _ _ (by omega)
  have := K (hi.2.2 n (Nat.le_refl n) h286) (hi.2.1 n (Nat.le_refl n)) C N0 (by omega) (Inv_push hi) (va_up ad n q) H1 locs lsA (fun c hc => (hk c (by omega)).trans (ha c hc)) (e1 ▸ hP1) (e1 ▸ hD1) hS1 (lvs_ad hk hls hl)
  rw [List.map_cons, map_ad hk hst] at this
  have e2 : cvt G (va_up ad n q) (.ref n) = .ref q := by simp [cvt, va_up]
  rw [e2] at this
  exact this
end WBR
