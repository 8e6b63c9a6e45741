/-! fields, arrays, returns, calls, over WP -/
section WH
variable {μ : mD} {n : Nat} {Rf : MR} {pc : Nat} {ls : List (Option Value)} {st : List Value} {I : MI} {Q : Option Value → MI → Prop}
theorem Cx_w {G : gG} {A : Nat → Prop} {p : Program} {s : State} {m : MethodId} {args : Array Value} {meth : Method} {c : Code} (C : Cx G μ A p s m args meth c) {w : Cond} (h : w ∈ tbl) : w.before args s = true := C.2.2.2.2.2.1 w (List.mem_cons_of_mem _ h)
theorem fv_at {ad : Nat → Nat} {ci N k : Nat} {r : Nat → Option Nat} {f : Nat → Int32} (h : k < N) : ((List.range N).map (fv ad ci r f))[k]? = some (fv ad ci r f k) := by simp [h]
theorem w_getI {idx c0 ci k N : Nat} {Cn : String} {T : u_T} {ty : Nat → FieldType} (hd : decode μ.2.1 pc = .ok (.getfield idx, 3)) (hw : Cond.fieldLink μ.1.cls idx (T k).1 (T k).2.1 (T k).2.2.1 ∈ tbl) (ho : okC ci Cn T N ty) (h0 : kd c0 = (0, ci)) (hlt : c0 < n) (hk : k < N) (hf : fR ci k = false) (K : WP μ n Rf (pc + 3) ls (.int (I c0 k) :: st) I Q) : WP μ n Rf pc ls (.ref c0 :: st) I Q := by
  intro G ad A p l e s m args below meth c H locs lsA C hP hD hS hl
  refine va_get (D := G.1) (cl := vwCl) (ws := wl G ad n Rf I) (T := T) C.1 C.2.1 (C.2.2.2.2.2.1) (fun w h => List.mem_cons_of_mem _ (ho.2.1 w h)) C.2.2.2.2.1 C.2.2.2.2.2.2.2.1 hP c0 (wl_of h0 hlt) ho.1 k hk (Cx_w C hw) (fun _ h => h) (v := .int (I c0 k)) ?_ hd (K G ad A p l e s m args below meth c H locs lsA C hP hD hS hl)
  rw [ho.2.2.1, fv_at hk]
  simp [fv, hf]
theorem w_getR {idx c0 ci k N r : Nat} {Cn : String} {T : u_T} {ty : Nat → FieldType} (hd : decode μ.2.1 pc = .ok (.getfield idx, 3)) (hw : Cond.fieldLink μ.1.cls idx (T k).1 (T k).2.1 (T k).2.2.1 ∈ tbl) (ho : okC ci Cn T N ty) (h0 : kd c0 = (0, ci)) (hlt : c0 < n) (hk : k < N) (hf : fR ci k = true) (hr : Rf c0 k = some r) (K : WP μ n Rf (pc + 3) ls (.ref r :: st) I Q) : WP μ n Rf pc ls (.ref c0 :: st) I Q := by
  intro G ad A p l e s m args below meth c H locs lsA C hP hD hS hl
  refine va_get (D := G.1) (cl := vwCl) (ws := wl G ad n Rf I) (T := T) C.1 C.2.1 (C.2.2.2.2.2.1) (fun w h => List.mem_cons_of_mem _ (ho.2.1 w h)) C.2.2.2.2.1 C.2.2.2.2.2.2.2.1 hP c0 (wl_of h0 hlt) ho.1 k hk (Cx_w C hw) (fun _ h => h) (v := .ref (ad r)) ?_ hd (K G ad A p l e s m args below meth c H locs lsA C hP hD hS hl)
  rw [ho.2.2.1, fv_at hk]
  simp [fv, hf, hr, va_rf]
theorem w_putV {idx c0 ci k N : Nat} {Cn : String} {T : u_T} {ty : Nat → FieldType} {x : Int32} (hd : decode μ.2.1 pc = .ok (.putfield idx, 3)) (hw : Cond.fieldLink μ.1.cls idx (T k).1 (T k).2.1 (T k).2.2.1 ∈ tbl) (ho : okC ci Cn T N ty) (h0 : kd c0 = (0, ci)) (hlt : c0 < n) (hk : k < N) (hf : fR ci k = false) (hfin : (T k).2.2.2 = false) (hnr : narrow (ty k) (.int x) = .int x) (hfit : fits (ty k) (.int x) = true) (K : WP μ n Rf (pc + 3) ls st (up2 I c0 k x) Q) : WP μ n Rf pc ls (.int x :: .ref c0 :: st) I Q := by
  intro G ad A p l e s m args below meth c H locs lsA C hP hD hS hl
  refine va_put (D := G.1) (cl := vwCl) (ws := wl G ad n Rf I) (T := T) C.1 C.2.1 (C.2.2.2.2.2.1) (fun w h => List.mem_cons_of_mem _ (ho.2.1 w h)) ty ho.2.2.2.1 ho.2.2.2.2 C.2.2.2.2.1 C.2.2.2.2.2.2.2.1 hP hD hS c0 (wl_of h0 hlt) ho.1 k hk (Cx_w C hw) (fun _ h => h) hfin (ho.2.2.2.1 k hk) (v := .int x) hnr hfit (by simp [ho.2.2.1, hk]) hd ?_
  intro H1 locs1 hP1 hD1 hS1
  rw [fv_set hf] at hP1 hD1
  have e1 : (wl G ad n Rf I).set c0 (ad c0, ce G ad (0, ci) (Rf c0) (upd (I c0) k x)) = wl G ad n Rf (up2 I c0 k x) := wl_set h0 _
  exact K G ad A p l e s m args below meth c H1 locs1 lsA C (e1 ▸ hP1) (e1 ▸ hD1) hS1 hl
theorem w_putI {idx c0 ci k N : Nat} {Cn : String} {T : u_T} {ty : Nat → FieldType} {x : Int32} (hd : decode μ.2.1 pc = .ok (.putfield idx, 3)) (hw : Cond.fieldLink μ.1.cls idx (T k).1 (T k).2.1 (T k).2.2.1 ∈ tbl) (ho : okC ci Cn T N ty) (h0 : kd c0 = (0, ci)) (hlt : c0 < n) (hk : k < N) (hf : fR ci k = false) (hfin : (T k).2.2.2 = false) (hty : ty k = .int) (K : WP μ n Rf (pc + 3) ls st (up2 I c0 k x) Q) : WP μ n Rf pc ls (.int x :: .ref c0 :: st) I Q :=
  w_putV hd hw ho h0 hlt hk hf hfin (by rw [hty]; rfl) (by rw [hty]; rfl) K
theorem w_putZ {idx c0 ci k N : Nat} {Cn : String} {T : u_T} {ty : Nat → FieldType} {x : Int32} (hd : decode μ.2.1 pc = .ok (.putfield idx, 3)) (hw : Cond.fieldLink μ.1.cls idx (T k).1 (T k).2.1 (T k).2.2.1 ∈ tbl) (ho : okC ci Cn T N ty) (h0 : kd c0 = (0, ci)) (hlt : c0 < n) (hk : k < N) (hf : fR ci k = false) (hfin : (T k).2.2.2 = false) (hty : ty k = .boolean) (hx : x = 0 ∨ x = 1) (K : WP μ n Rf (pc + 3) ls st (up2 I c0 k x) Q) : WP μ n Rf pc ls (.int x :: .ref c0 :: st) I Q :=
  w_putV hd hw ho h0 hlt hk hf hfin (by rw [hty]; rcases hx with rfl | rfl <;> rfl) (by rw [hty]; rcases hx with rfl | rfl <;> rfl) K
theorem w_iald {c0 N : Nat} {i : Int32} (hd : decode μ.2.1 pc = .ok (.iaload, 1)) (h0 : kd c0 = (1, N)) (hlt : c0 < n) (hi : vp_in i N) (K : WP μ n Rf (pc + 1) ls (.int (I c0 i.toNatClampNeg) :: st) I Q) : WP μ n Rf pc ls (.int i :: .ref c0 :: st) I Q := by
  intro G ad A p l e s m args below meth c H locs lsA C hP hD hS hl
  exact va_iald (D := G.1) (cl := vwCl) (tys := tysG G) (ws := wl G ad n Rf I) (f := I c0) C.1 C.2.1 C.2.2.2.2.2.2.2.1 hP c0 0 (wl_of h0 hlt) rfl hi hd (K G ad A p l e s m args below meth c H locs lsA C hP hD hS hl)
theorem w_bald {c0 N : Nat} {i : Int32} (hd : decode μ.2.1 pc = .ok (.baload, 1)) (h0 : kd c0 = (2, N)) (hlt : c0 < n) (hi : vp_in i N) (K : WP μ n Rf (pc + 1) ls (.int (I c0 i.toNatClampNeg) :: st) I Q) : WP μ n Rf pc ls (.int i :: .ref c0 :: st) I Q := by
  intro G ad A p l e s m args below meth c H locs lsA C hP hD hS hl
  exact va_bald (D := G.1) (cl := vwCl) (tys := tysG G) (ws := wl G ad n Rf I) (f := I c0) C.1 C.2.1 C.2.2.2.2.2.2.2.1 hP c0 1 (wl_of h0 hlt) rfl hi hd (K G ad A p l e s m args below meth c H locs lsA C hP hD hS hl)
theorem w_zald {c0 N : Nat} {i : Int32} (hd : decode μ.2.1 pc = .ok (.baload, 1)) (h0 : kd c0 = (3, N)) (hlt : c0 < n) (hi : vp_in i N) (K : WP μ n Rf (pc + 1) ls (.int (I c0 i.toNatClampNeg) :: st) I Q) : WP μ n Rf pc ls (.int i :: .ref c0 :: st) I Q := by
  intro G ad A p l e s m args below meth c H locs lsA C hP hD hS hl
  exact va_zald (D := G.1) (cl := vwCl) (tys := tysG G) (ws := wl G ad n Rf I) (f := I c0) C.1 C.2.1 C.2.2.2.2.2.2.2.1 hP c0 2 (wl_of h0 hlt) rfl hi hd (K G ad A p l e s m args below meth c H locs lsA C hP hD hS hl)
theorem w_aald {c0 N r : Nat} {i : Int32} (hd : decode μ.2.1 pc = .ok (.aaload, 1)) (h0 : kd c0 = (4, N)) (hlt : c0 < n) (hi : vp_in i N) (hr : Rf c0 i.toNatClampNeg = some r) (K : WP μ n Rf (pc + 1) ls (.ref r :: st) I Q) : WP μ n Rf pc ls (.int i :: .ref c0 :: st) I Q := by
  intro G ad A p l e s m args below meth c H locs lsA C hP hD hS hl
  have hk := K G ad A p l e s m args below meth c H locs lsA C hP hD hS hl
  refine va_aldq (D := G.1) (cl := vwCl) (tys := tysG G) (ws := wl G ad n Rf I) (f := fun k => (Rf c0 k).map ad) C.1 C.2.1 C.2.2.2.2.2.2.2.1 hP c0 3 (wl_of h0 hlt) rfl hi hd ?_
  simp only [hr, Option.map_some, va_rf]
  exact hk
theorem w_iast {c0 N : Nat} {i x : Int32} (hd : decode μ.2.1 pc = .ok (.iastore, 1)) (h0 : kd c0 = (1, N)) (hlt : c0 < n) (hi : vp_in i N) (K : WP μ n Rf (pc + 1) ls st (up2 I c0 i.toNatClampNeg x) Q) : WP μ n Rf pc ls (.int x :: .int i :: .ref c0 :: st) I Q := by
  intro G ad A p l e s m args below meth c H locs lsA C hP hD hS hl
  refine va_iast (D := G.1) (cl := vwCl) (tys := tysG G) (ws := wl G ad n Rf I) (f := I c0) C.1 C.2.1 C.2.2.2.2.2.2.2.1 hP hD hS c0 0 (wl_of h0 hlt) rfl hi hd ?_
  intro H1 locs1 hP1 hD1 hS1
  have e1 : (wl G ad n Rf I).set c0 (ad c0, ce G ad (1, N) (Rf c0) (upd (I c0) i.toNatClampNeg x)) = wl G ad n Rf (up2 I c0 i.toNatClampNeg x) := wl_set h0 _
  exact K G ad A p l e s m args below meth c H1 locs1 lsA C (e1 ▸ hP1) (e1 ▸ hD1) hS1 hl
theorem w_bast {c0 N : Nat} {i x : Int32} (hd : decode μ.2.1 pc = .ok (.bastore, 1)) (h0 : kd c0 = (2, N)) (hlt : c0 < n) (hi : vp_in i N) (K : WP μ n Rf (pc + 1) ls st (up2 I c0 i.toNatClampNeg (vp_nar .byte x)) Q) : WP μ n Rf pc ls (.int x :: .int i :: .ref c0 :: st) I Q := by
  intro G ad A p l e s m args below meth c H locs lsA C hP hD hS hl
  refine va_bast (D := G.1) (cl := vwCl) (tys := tysG G) (ws := wl G ad n Rf I) (f := I c0) C.1 C.2.1 C.2.2.2.2.2.2.2.1 hP hD hS c0 1 (wl_of h0 hlt) rfl hi hd ?_
  intro H1 locs1 hP1 hD1 hS1
  have e1 : (wl G ad n Rf I).set c0 (ad c0, ce G ad (2, N) (Rf c0) (upd (I c0) i.toNatClampNeg (vp_nar .byte x))) = wl G ad n Rf (up2 I c0 i.toNatClampNeg (vp_nar .byte x)) := wl_set h0 _
  exact K G ad A p l e s m args below meth c H1 locs1 lsA C (e1 ▸ hP1) (e1 ▸ hD1) hS1 hl
theorem w_zast {c0 N : Nat} {i x : Int32} (hd : decode μ.2.1 pc = .ok (.bastore, 1)) (h0 : kd c0 = (3, N)) (hlt : c0 < n) (hi : vp_in i N) (K : WP μ n Rf (pc + 1) ls st (up2 I c0 i.toNatClampNeg (vp_nar .boolean x)) Q) : WP μ n Rf pc ls (.int x :: .int i :: .ref c0 :: st) I Q := by
  intro G ad A p l e s m args below meth c H locs lsA C hP hD hS hl
  refine va_zast (D := G.1) (cl := vwCl) (tys := tysG G) (ws := wl G ad n Rf I) (f := I c0) C.1 C.2.1 C.2.2.2.2.2.2.2.1 hP hD hS c0 2 (wl_of h0 hlt) rfl hi hd ?_
  intro H1 locs1 hP1 hD1 hS1
  have e1 : (wl G ad n Rf I).set c0 (ad c0, ce G ad (3, N) (Rf c0) (upd (I c0) i.toNatClampNeg (vp_nar .boolean x))) = wl G ad n Rf (up2 I c0 i.toNatClampNeg (vp_nar .boolean x)) := wl_set h0 _
  exact K G ad A p l e s m args below meth c H1 locs1 lsA C (e1 ▸ hP1) (e1 ▸ hD1) hS1 hl
theorem w_alen {c0 N : Nat} {v : Int32} (hd : decode μ.2.1 pc = .ok (.arraylength, 1)) (h0 : kd c0 = (1, N)) (hlt : c0 < n) (hv : Int32.ofNat N = v) (K : WP μ n Rf (pc + 1) ls (.int v :: st) I Q) : WP μ n Rf pc ls (.ref c0 :: st) I Q := by
  intro G ad A p l e s m args below meth c H locs lsA C hP hD hS hl
  exact va_alen (D := G.1) (cl := vwCl) (tys := tysG G) (ws := wl G ad n Rf I) C.1 C.2.1 C.2.2.2.2.2.2.2.1 hP c0 0 (wl_of h0 hlt) (ty := .int) rfl hv hd (K G ad A p l e s m args below meth c H locs lsA C hP hD hS hl)
/-- System.arraycopy between two int arrays -/
theorem w_copy {idx a0 a1 n0 n1 : Nat} {sp dp k : Int32} (hd : decode μ.2.1 pc = .ok (.invokestatic idx, 3)) (hw : Cond.methodLink μ.1.cls idx arraycopyName ∈ tbl) (hw2 : Cond.native arraycopyName ∈ tbl) (hw3 : Cond.static arraycopyName ∈ tbl) (hw4 : Cond.initialized "java/lang/System" ∈ tbl) (h0 : kd a0 = (1, n0)) (h1 : kd a1 = (1, n1)) (hl0 : a0 < n) (hl1 : a1 < n) (h2 : ¬ sp < 0) (h3 : ¬ dp < 0) (h4 : ¬ k < 0) (h5 : sp.toNatClampNeg + k.toNatClampNeg ≤ n0) (h6 : dp.toNatClampNeg + k.toNatClampNeg ≤ n1) (hf : 1 ≤ μ.2.2.2.2.1) (hlo : (st.map fun v => v.category).sum + (nativeFrameWords "java/lang/System" "arraycopy" 5 + 11) ≤ μ.2.2.2.2.2)
    (K : WP μ n Rf (pc + 3) ls st (upA I a1 (va_cpy (I a0) (I a1) sp.toNatClampNeg dp.toNatClampNeg k.toNatClampNeg)) Q) : WP μ n Rf pc ls (.int k :: .int dp :: .ref a1 :: .int sp :: .ref a0 :: st) I Q := by
  intro G ad A p l e s m args below meth c H locs lsA C hP hD hS hl
  refine va_copyi (D := G.1) (cl := vwCl) (tys := tysG G) (ws := wl G ad n Rf I) (f := I a0) (g := I a1) (ty := .int) C.1 C.2.1 (by rw [C.2.2.2.1, hl.1]) C.2.2.2.2.1 (Cx_w C hw) (Cx_w C hw2) (Cx_w C hw3) (Cx_w C hw4) C.2.2.2.2.2.2.2.1 hP hD hS a0 a1 0 0 (wl_of h0 hl0) (wl_of h1 hl1) rfl rfl rfl h2 h3 h4 h5 h6 (fun _ _ => rfl) hf (by rw [cvt_sum (Sx_fm C.2.2.2.2.2.2.2.2.2)]; exact hlo) hd ?_
  intro H1 locs1 hP1 hD1 hS1
  have e1 : (wl G ad n Rf I).set a1 (ad a1, ce G ad (1, n1) (Rf a1) (va_cpy (I a0) (I a1) sp.toNatClampNeg dp.toNatClampNeg k.toNatClampNeg)) = wl G ad n Rf (upA I a1 (va_cpy (I a0) (I a1) sp.toNatClampNeg dp.toNatClampNeg k.toNatClampNeg)) := wl_set h1 _
  exact K G ad A p l e s m args below meth c H1 locs1 lsA C (e1 ▸ hP1) (e1 ▸ hD1) hS1 hl
theorem w_max {idx : Nat} {x y : Int32} (hd : decode μ.2.1 pc = .ok (.invokestatic idx, 3)) (hw : Cond.methodLink μ.1.cls idx Lib.Math.max.name ∈ tbl) (hw2 : Cond.static Lib.Math.max.name ∈ tbl) (hw3 : Cond.initialized "java/lang/Math" ∈ tbl) (hw4 : Cond.code Lib.Math.max.name Lib.Math.max.code 2 (some .int) ∈ tbl) (hf : 1 ≤ μ.2.2.2.2.1) (hlo : (st.map fun v => v.category).sum + 13 ≤ μ.2.2.2.2.2) (K : WP μ n Rf (pc + 3) ls (.int (if x < y then y else x) :: st) I Q) : WP μ n Rf pc ls (.int y :: .int x :: st) I Q := by
  intro G ad A p l e s m args below meth c H locs lsA C hP hD hS hl
  exact va_mmax C.1 C.2.1 (by rw [C.2.2.2.1, hl.1]) C.2.2.2.2.1 (Cx_w C hw) (Cx_w C hw2) (Cx_w C hw3) (Cx_w C hw4) hf (by rw [cvt_sum (Sx_fm C.2.2.2.2.2.2.2.2.2)]; exact hlo) (Nat.le_refl 0) (Nat.le_refl 0) hd (K G ad A p l e s m args below meth c H locs lsA C hP hD hS hl)
theorem w_min {idx : Nat} {x y : Int32} (hd : decode μ.2.1 pc = .ok (.invokestatic idx, 3)) (hw : Cond.methodLink μ.1.cls idx Lib.Math.min.name ∈ tbl) (hw2 : Cond.static Lib.Math.min.name ∈ tbl) (hw3 : Cond.initialized "java/lang/Math" ∈ tbl) (hw4 : Cond.code Lib.Math.min.name Lib.Math.min.code 2 (some .int) ∈ tbl) (hf : 1 ≤ μ.2.2.2.2.1) (hlo : (st.map fun v => v.category).sum + 13 ≤ μ.2.2.2.2.2) (K : WP μ n Rf (pc + 3) ls (.int (if y < x then y else x) :: st) I Q) : WP μ n Rf pc ls (.int y :: .int x :: st) I Q := by
  intro G ad A p l e s m args below meth c H locs lsA C hP hD hS hl
  exact va_mmin C.1 C.2.1 (by rw [C.2.2.2.1, hl.1]) C.2.2.2.2.1 (Cx_w C hw) (Cx_w C hw2) (Cx_w C hw3) (Cx_w C hw4) hf (by rw [cvt_sum (Sx_fm C.2.2.2.2.2.2.2.2.2)]; exact hlo) (Nat.le_refl 0) (Nat.le_refl 0) hd (K G ad A p l e s m args below meth c H locs lsA C hP hD hS hl)
theorem w_iret {x : Int32} (hd : decode μ.2.1 pc = .ok (.ireturn, 1)) (hr : μ.2.2.2.1 = some .int) (K : Q (some (.int x)) I) : WP μ n Rf pc ls [.int x] I Q := by
  intro G ad A p l e s m args below meth c H locs lsA C hP hD hS hl
  exact W.iret (v := x) C.1 C.2.1 (C.2.2.1.trans hr) (fun t ht hW => ⟨⟨some (.int x), I, rfl, K, by rw [ht]; exact hP, hD⟩, hS.F ht⟩) hS.2.2 hd C.2.2.2.2.2.2.1
theorem w_zret {x : Int32} {ty : FieldType} (hd : decode μ.2.1 pc = .ok (.ireturn, 1)) (hr : μ.2.2.2.1 = some ty) (hn : narrow ty (.int x) = .int x) (K : Q (some (.int x)) I) : WP μ n Rf pc ls [.int x] I Q := by
  intro G ad A p l e s m args below meth c H locs lsA C hP hD hS hl
  exact W.zret (v := x) C.1 C.2.1 (C.2.2.1.trans hr) hn (fun t ht hW => ⟨⟨some (.int x), I, rfl, K, by rw [ht]; exact hP, hD⟩, hS.F ht⟩) hS.2.2 hd C.2.2.2.2.2.2.1
theorem w_vret (hd : decode μ.2.1 pc = .ok (.return_, 1)) (hr : μ.2.2.2.1 = none) (K : Q none I) : WP μ n Rf pc ls [] I Q := by
  intro G ad A p l e s m args below meth c H locs lsA C hP hD hS hl
  exact W.vret C.1 C.2.1 (C.2.2.1.trans hr) (fun t ht hW => ⟨⟨none, I, rfl, K, by rw [ht]; exact hP, hD⟩, hS.F ht⟩) hS.2.2 hd C.2.2.2.2.2.2.1
theorem w_aret {r : Nat} {rt : FieldType} (hd : decode μ.2.1 pc = .ok (.areturn, 1)) (hr : μ.2.2.2.1 = some rt) (hrt : (∃ n, rt = .object n) ∨ ∃ t, rt = .array t) (K : Q (some (.ref r)) I) : WP μ n Rf pc ls [.ref r] I Q := by
  intro G ad A p l e s m args below meth c H locs lsA C hP hD hS hl
  exact W.aret (v := .ref (ad r)) C.1 C.2.1 (C.2.2.1.trans hr) hrt (Or.inr ⟨_, rfl⟩) (fun t ht hW => ⟨⟨some (.ref r), I, rfl, K, by rw [ht]; exact hP, hD⟩, hS.F ht⟩) hS.2.2 hd C.2.2.2.2.2.2.1
end WH
