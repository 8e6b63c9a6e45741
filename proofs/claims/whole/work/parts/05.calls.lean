/-! calls over WP -/
/-- the locals with which a method begins -/
def ent : List Value → List (Option Value)
  | [] => []
  | v :: r => some v :: (match v with | .long _ => none :: ent r | .double _ => none :: ent r | _ => ent r)
theorem ent_in {G : gG} {ad : Nat → Nat} (hf : G.2.2.1.category = 1) : ∀ (vs : List Value) (i k : Nat) (v : Value), (ent vs)[k]? = some (some v) → (i + k, cvt G ad v) ∈ lv_args i (vs.map (cvt G ad)) := by
  intro vs
  induction vs with
  | nil => intro i k v h; simp [ent] at h
  | cons w r ih =>
    intro i k v h
    rw [List.map_cons, lv_args, cvt_cat hf]
    cases k with
    | zero =>
      simp only [ent, List.getElem?_cons_zero, Option.some.injEq] at h
      subst h
      exact List.mem_cons_self
    | succ k =>
      refine List.mem_cons_of_mem _ ?_
      have two : ∀ (hc : w.category = 2), ent (w :: r) = some w :: none :: ent r → (i + (k + 1), cvt G ad v) ∈ lv_args (if w.category = 2 then i + 2 else i + 1) (r.map (cvt G ad)) := by
        intro hc he
        rw [if_pos hc]
        rw [he, List.getElem?_cons_succ] at h
        cases k with
        | zero => simp at h
        | succ k =>
          rw [List.getElem?_cons_succ] at h
          have := ih (i + 2) k v h
          rw [show i + (k + 1 + 1) = i + 2 + k by omega]
          exact this
      have one : ∀ (hc : ¬ w.category = 2), ent (w :: r) = some w :: ent r → (i + (k + 1), cvt G ad v) ∈ lv_args (if w.category = 2 then i + 2 else i + 1) (r.map (cvt G ad)) := by
        intro hc he
        rw [if_neg hc]
        rw [he, List.getElem?_cons_succ] at h
        have := ih (i + 1) k v h
        rw [show i + (k + 1) = i + 1 + k by omega]
        exact this
      cases w with
      | long x => exact two rfl rfl
      | double x => exact two rfl rfl
      | int x => exact one (by simp [Value.category]) rfl
      | float x => exact one (by simp [Value.category]) rfl
      | null => exact one (by decide) rfl
      | ref x => exact one (by simp [Value.category]) rfl
      | retAddr x => exact one (by simp [Value.category]) rfl
theorem ent_len {G : gG} {ad : Nat → Nat} (hf : G.2.2.1.category = 1) : ∀ vs : List Value, (lg_sl (vs.map (cvt G ad))).length = (ent vs).length := by
  intro vs
  induction vs with
  | nil => rfl
  | cons w r ih =>
    have e : lg_sl ((w :: r).map (cvt G ad)) = (if w.category = 2 then [Slot.val (cvt G ad w), Slot.second] else [Slot.val (cvt G ad w)]) ++ lg_sl (r.map (cvt G ad)) := by
      show (if (cvt G ad w).category = 2 then [Slot.val (cvt G ad w), Slot.second] else [Slot.val (cvt G ad w)]) ++ lg_sl (r.map (cvt G ad)) = _
      rw [cvt_cat hf]
    rw [e, List.length_append, ih]
    cases w <;> simp [ent, Value.category] <;> omega
def pad (vs : List Value) (nL : Nat) : List (Option Value) := ent vs ++ List.replicate (nL - (ent vs).length) none
/-- a method from its entry -/
def WPm (μ : mD) (n : Nat) (Rf : MR) (vs : List Value) (I : MI) (Q : Option Value → MI → Prop) : Prop := WP μ n Rf 0 (pad vs μ.2.2.1) [] I Q
def PreU (G : gG) (ad : Nat → Nat) (n : Nat) (Rf : MR) (I : MI) (sz : Nat) (U : State) : Prop :=
  U.heap.size = sz ∧ va_P G.1 vwCl (wl G ad n Rf I) U.heap ∧ va_K G.1 vwCl (tysG G) U ∧ va_D (fun _ => True) (wl G ad n Rf I) ∧ Sx G (va_A (wl G ad n Rf I) sz) U
theorem wp_met {μ : mD} {n : Nat} {Rf : MR} {vs : List Value} {I : MI} {Q : Option Value → MI → Prop} (hy : plainName μ.1.cls = true) (hlen : (ent vs).length ≤ μ.2.2.1) (h : WPm μ n Rf vs I Q) (l : Launch) (G : gG) (ad : Nat → Nat) (sz : Nat) :
    Met l μ.1 (wsM μ) (rmD μ) (va_Pc (vs.map (cvt G ad)) (PreU G ad n Rf I sz)) (Po G ad (va_A (wl G ad n Rf I) sz) n Rf Q) 0 0 (va_A (wl G ad n Rf I) sz) := by
  refine Met.ofW (cc := μ.2.1) (maxL := μ.2.2.1) (ret := μ.2.2.2.1) hy rfl ?_
  intro p e s m args below meth c s₁ B hml hv
  obtain ⟨rfl, rfl, hP, hK, hD0, hX⟩ := hv
  have hfm := Sx_fm hX
  have hts := atoms_spec (ws := wsM μ) B.pre
  have hown : s.vm.findClass μ.1.cls = some m.cls := findClass_of_methodNamed B.named
  have hle : (lg_sl (vs.map (cvt G ad))).length ≤ μ.2.2.1 := by rw [ent_len hfm]; exact hlen
  have hl := lv_entry (vs.map (cvt G ad)) hle
  rw [lg_entry_eq]
  refine h G ad _ p l e s m _ below meth c s.heap [] _ ⟨B.exec, B.bytes, B.returns, hml, hown, hts, B.notSynchronized, hK, fun q h => Or.inr h, hX⟩ hP (hD0.self (sz := s.heap.size)) va_S.rf ⟨hl.1, hl.2.1, fun k v hk => ?_⟩
  have hk2 : (ent vs)[k]? = some (some v) := by
    unfold pad at hk
    rcases Nat.lt_or_ge k (ent vs).length with q | q
    · rwa [List.getElem?_append_left q] at hk
    · rw [List.getElem?_append_right q, List.getElem?_replicate] at hk
      split at hk <;> simp at hk
  have := ent_in (G := G) (ad := ad) hfm vs 0 k v hk2
  rw [Nat.zero_add] at this
  exact hl.2.2 _ this
section WC
variable {p : Program} {l : Launch} {e : Env} {R : Room} {s : State} {m : MethodId} {args : Array Value} {below : List Frame} {meth : Method} {c : Code} {H : Heap} {locs : List Loc}
theorem wc_go {G : gG} {ad : Nat → Nat} {A A' : Nat → Prop} {n : Nat} {Rf : MR} {Q' : Option Value → MI → Prop} {Qf : State → Prop} {pc : Nat} {lsA : Array Slot} {st0 rest : List Value} {av : Array Value}
    (hr : va_Run p l e R s m args below meth c H locs 0 0 0 0 (F0 m pc lsA st0) rest (Po G ad A' n Rf Q' av) A') (hS : va_S A s.heap H locs) (hA : ∀ q, A' q → A q)
    (K : ∀ (v : Option Value) (I1 : MI) (H1 : Heap) (locs1 : List Loc), Q' v I1 → va_P G.1 vwCl (wl G ad n Rf I1) H1 → va_D A (wl G ad n Rf I1) → va_S A s.heap H1 locs1 → W p l e R s m args below meth c H1 locs1 0 0 Qf (F0 m (pc + 3) lsA ((v.map (cvt G ad)).toList ++ rest))) :
    W p l e R s m args below meth c H locs 0 0 Qf (F0 m pc lsA st0) := by
  intro T hT X
  obtain ⟨v, st₀, t, T', L, h0, X', hL, e1, e2, ⟨⟨v1, I1, hv, hq, hP1, hD1⟩, hz, hk⟩, st⟩ := hr T hT X
  cases hv
  rw [h0] at hz hk
  obtain ⟨t2, a1, b1⟩ := K v1 I1 T'.heap (locs ++ L) hq (by rw [e1]; exact hP1) (hD1.weaken (fun _ q _ h => hA q.1 h))
    ⟨Nat.le_trans hS.1 (by rw [e1]; exact hz), fun q h1 h2 => by rw [e1, hk q (Nat.lt_of_lt_of_le h1 hS.1) (fun z => h2 (hA q z))]; exact hS.2.1 q h1 h2, fun q hq => by
      rcases List.mem_append.mp hq with h | h
      · exact hS.2.2 q h
      · exact hA _ (hL q h)⟩ T' rfl X'
  exact ⟨t2, st t2 a1, b1⟩
end WC
theorem pre_blind {G : gG} {ad : Nat → Nat} {n : Nat} {Rf : MR} {I : MI} {sz : Nat} {av : List Value} : FrameBlind (va_Pc av (PreU G ad n Rf I sz)) := by
  intro a U g mk h
  obtain ⟨h1, h2, h3, h4, h5, h6⟩ := h
  exact ⟨h1, h2, h3, va_K.moved (u := U) (U := U.calling g mk a) (Vm.Alike.refl U.vm) h4, h5, Sx_same h6 rfl rfl⟩
theorem pre_here {G : gG} {ad : Nat → Nat} {A : Nat → Prop} {n : Nat} {Rf : MR} {I : MI} {s : State} {H : Heap} {locs : List Loc} (hP : va_P G.1 vwCl (wl G ad n Rf I) H) (hD : va_D A (wl G ad n Rf I)) (hS : va_S A s.heap H locs) (hK : va_K G.1 vwCl (tysG G) s) (hX : Sx G A s) (hA : ∀ q, va_A (wl G ad n Rf I) H.size q → A q) : ∀ U : State, U.heap = H → s.WarmedH U.vm → PreU G ad n Rf I H.size U := by
  intro U hU hW
  exact ⟨by rw [hU], by rw [hU]; exact hP, va_K.moved hW.alike hK, hD.weaken (fun _ _ _ _ => trivial), Sx_go hX hS hU hW hA⟩
theorem free_all {G : gG} {ad : Nat → Nat} {A : Nat → Prop} {n : Nat} {Rf : MR} {I : MI} {s : State} {H : Heap} {locs : List Loc} (hD : va_D A (wl G ad n Rf I)) (hS : va_S A s.heap H locs) (hA : ∀ q, s.heap.size ≤ q → A q) : ∀ q, va_A (wl G ad n Rf I) H.size q → A q := by
  intro q h
  rcases h with ⟨k, x, h⟩ | h
  · exact hD.2 k _ h
  · exact hA q (Nat.le_trans hS.1 h)
theorem good_ws {μ μ' : mD} (h : Cond.code μ'.1 μ'.2.1 μ'.2.2.1 μ'.2.2.2.1 ∈ tbl) : GoodIn (wsM μ) (wsM μ') := by
  intro w hw
  rcases List.mem_cons.mp hw with rfl | hw
  · exact ⟨List.mem_cons_of_mem _ h, good_of_word (tb_gd h)⟩
  · exact ⟨List.mem_cons_of_mem _ hw, good_of_word (tb_gd hw)⟩
def okN (μ : mD) (np : Nat) : Prop := plainName μ.1.cls = true ∧ Cond.initialized μ.1.cls ∈ tbl ∧ Cond.code μ.1 μ.2.1 μ.2.2.1 μ.2.2.2.1 ∈ tbl ∧ (μ.1.cls ≠ "java/lang/invoke/MethodHandle" ∧ μ.1.cls ≠ "java/lang/invoke/VarHandle" ∧ (parseMethodDescriptor μ.1.desc).map (fun d => d.parameters.length) = some np)
def okV (μ : mD) (np : Nat) : Prop := okN μ np ∧ Cond.instanceMethod μ.1 ∈ tbl ∧ Cond.selects μ.1.cls μ.1 μ.1 ∈ tbl
def okS (μ : mD) (np : Nat) : Prop := okN μ np ∧ Cond.static μ.1 ∈ tbl
section WD
variable {μ μ' : mD} {n : Nat} {Rf : MR} {pc idx np : Nat} {ls : List (Option Value)} {st As : List Value} {I : MI} {Q : Option Value → MI → Prop}
theorem out_map {G : gG} {ad : Nat → Nat} (v : Option Value) (st : List Value) : (v.toList ++ st).map (cvt G ad) = (v.map (cvt G ad)).toList ++ st.map (cvt G ad) := by
  cases v <;> simp
theorem w_callV {c0 ci : Nat} {q : vw_C} (hd : decode μ.2.1 pc = .ok (.invokevirtual idx, 3)) (hw : Cond.methodLink μ.1.cls idx μ'.1 ∈ tbl) (ho : okV μ' np) (h0 : kd c0 = (0, ci)) (hlt : c0 < n) (hcn : vwCl[ci]? = some q) (hcq : q.1 = μ'.1.cls) (hnp : As.length = np) (hlen : (ent (.ref c0 :: As)).length ≤ μ'.2.2.1) (hR : μ'.2.2.2.2.1 + 1 ≤ μ.2.2.2.2.1 ∧ 8 + (μ'.2.2.1 + 11) + μ'.2.2.2.2.2 ≤ μ.2.2.2.2.2) (hst : (st.map fun v => v.category).sum ≤ 8)
    (K : WPm μ' n Rf (.ref c0 :: As) I (fun v I1 => WP μ n Rf (pc + 3) ls (v.toList ++ st) I1 Q)) : WP μ n Rf pc ls (As.reverse ++ .ref c0 :: st) I Q := by
  intro G ad A p l e s m args below meth c H locs lsA C hP hD hS hl
  obtain ⟨hx, hb, hr, hml, hown, hts, hlk, hK, hA, hX⟩ := id C
  have hfm := Sx_fm hX
  have hF := free_all (G := G) hD hS hA
  have hM := wp_met ho.1.1 hlen K l G ad H.size
  have hrun : va_Run p l e (rmD μ) s m args below meth c H locs 0 0 0 0 (F0 m pc lsA ((As.reverse ++ .ref c0 :: st).map (cvt G ad))) (st.map (cvt G ad)) (Po G ad (va_A (wl G ad n Rf I) H.size) n Rf (fun v I1 => WP μ n Rf (pc + 3) ls (v.toList ++ st) I1 Q) (Value.ref (ad c0) :: As.map (cvt G ad)).toArray) (va_A (wl G ad n Rf I) H.size) := by
    refine va_runV (As := As.map (cvt G ad)) (rest := st.map (cvt G ad)) (C := μ'.1.cls) (n := np) ⟨hx, hb, hml, hown, hts⟩ hM ⟨callB_of np hts (good_ws ho.1.2.2.1) rfl rfl rfl (Cx_w C ho.1.2.1) (Cx_w C hw) ho.1.2.2.2 hR, Cx_w C ho.2.1, Cx_w C ho.2.2⟩ ⟨pre_blind, ?_, fun U hU hW => ⟨rfl, pre_here hP hD hS hK hX hF U hU hW⟩⟩ rfl (by rw [List.length_map]; exact hnp) hl.1 ?_ ?_ hd ⟨Nat.le_refl 0, Nat.le_refl 0⟩
    · obtain ⟨cell, q1, q2, q3⟩ := va_recv hK hP hcn (wl_of h0 hlt)
      exact ⟨cell, q1, q2, by rw [← hcq]; exact q3⟩
    · simp [cvt]
    · refine lv_room ?_
      rw [cvt_sum hfm]; exact hst
  refine wc_go hrun hS hF (fun v I1 H1 locs1 hq hP1 hD1 hS1 => ?_)
  have := hq G ad A p l e s m args below meth c H1 locs1 lsA C hP1 hD1 hS1 hl
  rw [out_map] at this
  exact this
theorem w_callS (hd : decode μ.2.1 pc = .ok (.invokestatic idx, 3)) (hw : Cond.methodLink μ.1.cls idx μ'.1 ∈ tbl) (ho : okS μ' np) (hnp : As.length = np) (hlen : (ent As).length ≤ μ'.2.2.1) (hR : μ'.2.2.2.2.1 + 1 ≤ μ.2.2.2.2.1 ∧ 8 + (μ'.2.2.1 + 11) + μ'.2.2.2.2.2 ≤ μ.2.2.2.2.2) (hst : (st.map fun v => v.category).sum ≤ 8)
    (K : WPm μ' n Rf As I (fun v I1 => WP μ n Rf (pc + 3) ls (v.toList ++ st) I1 Q)) : WP μ n Rf pc ls (As.reverse ++ st) I Q := by
  intro G ad A p l e s m args below meth c H locs lsA C hP hD hS hl
  obtain ⟨hx, hb, hr, hml, hown, hts, hlk, hK, hA, hX⟩ := id C
  have hfm := Sx_fm hX
  have hF := free_all (G := G) hD hS hA
  have hM := wp_met ho.1.1 hlen K l G ad H.size
  have hrun : va_Run p l e (rmD μ) s m args below meth c H locs 0 0 0 0 (F0 m pc lsA ((As.reverse ++ st).map (cvt G ad))) (st.map (cvt G ad)) (Po G ad (va_A (wl G ad n Rf I) H.size) n Rf (fun v I1 => WP μ n Rf (pc + 3) ls (v.toList ++ st) I1 Q) (As.map (cvt G ad)).toArray) (va_A (wl G ad n Rf I) H.size) := by
    refine va_runS (As := As.map (cvt G ad)) (rest := st.map (cvt G ad)) (n := np) ⟨hx, hb, hml, hown, hts⟩ hM ⟨callB_of np hts (good_ws ho.1.2.2.1) rfl rfl rfl (Cx_w C ho.1.2.1) (Cx_w C hw) ho.1.2.2.2 hR, Cx_w C ho.2⟩ ⟨pre_blind, fun U hU hW => ⟨rfl, pre_here hP hD hS hK hX hF U hU hW⟩⟩ rfl (by rw [List.length_map]; exact hnp) hl.1 ?_ ?_ hd ⟨Nat.le_refl 0, Nat.le_refl 0⟩
    · simp
    · refine lv_room ?_
      rw [cvt_sum hfm]; exact hst
  refine wc_go hrun hS hF (fun v I1 H1 locs1 hq hP1 hD1 hS1 => ?_)
  have := hq G ad A p l e s m args below meth c H1 locs1 lsA C hP1 hD1 hS1 hl
  rw [out_map] at this
  exact this
/-- a virtual call on one of the seven words -/
theorem w_callW {j : Nat} (hj : j < 7) (hd : decode μ.2.1 pc = .ok (.invokevirtual idx, 3)) (hw : Cond.methodLink μ.1.cls idx μ'.1 ∈ tbl) (ho : okV μ' np) (hcq : μ'.1.cls = "java/lang/String") (hnp : As.length = np) (hlen : (ent (.retAddr (2 * j + 1) :: As)).length ≤ μ'.2.2.1) (hR : μ'.2.2.2.2.1 + 1 ≤ μ.2.2.2.2.1 ∧ 8 + (μ'.2.2.1 + 11) + μ'.2.2.2.2.2 ≤ μ.2.2.2.2.2) (hst : (st.map fun v => v.category).sum ≤ 8)
    (K : WPm μ' n Rf (.retAddr (2 * j + 1) :: As) I (fun v I1 => WP μ n Rf (pc + 3) ls (v.toList ++ st) I1 Q)) : WP μ n Rf pc ls (As.reverse ++ .retAddr (2 * j + 1) :: st) I Q := by
  intro G ad A p l e s m args below meth c H locs lsA C hP hD hS hl
  obtain ⟨hx, hb, hr, hml, hown, hts, hlk, hK, hA, hX⟩ := id C
  have hfm := Sx_fm hX
  have hF := free_all (G := G) hD hS hA
  have hM := wp_met ho.1.1 hlen K l G ad H.size
  have e0 : (Value.retAddr (2 * j + 1) :: As).map (cvt G ad) = Value.ref (G.2.2.2.1 j) :: As.map (cvt G ad) := by rw [List.map_cons, cvt_S]
  rw [e0] at hM
  have hrun : va_Run p l e (rmD μ) s m args below meth c H locs 0 0 0 0 (F0 m pc lsA ((As.reverse ++ .retAddr (2 * j + 1) :: st).map (cvt G ad))) (st.map (cvt G ad)) (Po G ad (va_A (wl G ad n Rf I) H.size) n Rf (fun v I1 => WP μ n Rf (pc + 3) ls (v.toList ++ st) I1 Q) (Value.ref (G.2.2.2.1 j) :: As.map (cvt G ad)).toArray) (va_A (wl G ad n Rf I) H.size) := by
    refine va_runV (As := As.map (cvt G ad)) (rest := st.map (cvt G ad)) (C := μ'.1.cls) (n := np) ⟨hx, hb, hml, hown, hts⟩ hM ⟨callB_of np hts (good_ws ho.1.2.2.1) rfl rfl rfl (Cx_w C ho.1.2.1) (Cx_w C hw) ho.1.2.2.2 hR, Cx_w C ho.2.1, Cx_w C ho.2.2⟩ ⟨pre_blind, ?_, fun U hU hW => ⟨rfl, pre_here hP hD hS hK hX hF U hU hW⟩⟩ rfl (by rw [List.length_map]; exact hnp) hl.1 ?_ ?_ hd ⟨Nat.le_refl 0, Nat.le_refl 0⟩
    · rw [hcq]
      exact vk_recv hX.1 hj hS
    · rw [List.map_append, List.map_cons, cvt_S, List.map_reverse]
    · refine lv_room ?_
      rw [cvt_sum hfm]; exact hst
  refine wc_go hrun hS hF (fun v I1 H1 locs1 hq hP1 hD1 hS1 => ?_)
  have := hq G ad A p l e s m args below meth c H1 locs1 lsA C hP1 hD1 hS1 hl
  rw [out_map] at this
  exact this
/-- the JDK's own reads of a word: its bytes, its coder, a byte, how many, COMPACT_STRINGS, the formatter -/
theorem w_strV {j : Nat} {ref : String} (hj : j < 7) (hd : decode μ.2.1 pc = .ok (.getfield idx, 3)) (hw : Cond.fieldLink μ.1.cls idx "java/lang/String" "value" "[B" ∈ tbl) (K : WP μ n Rf (pc + 3) ls (.retAddr (2 * j + 2) :: st) I Q) : WP μ n Rf pc ls (.retAddr (2 * j + 1) :: st) I Q := by
  intro G ad A p l e s m args below meth c H locs lsA C hP hD hS hl
  have hk := K G ad A p l e s m args below meth c H locs lsA C hP hD hS hl
  rw [List.map_cons, cvt_V] at hk
  rw [List.map_cons, cvt_S]
  exact vk_getf C.1 C.2.1 (C.2.2.2.2.2.2.2.2.2.1.1 j hj).2.2.1 hS C.2.2.2.2.1 (Cx_w C hw) (fun _ h => h) hd hk
theorem w_strC {j : Nat} (hj : j < 7) (hd : decode μ.2.1 pc = .ok (.getfield idx, 3)) (hw : Cond.fieldLink μ.1.cls idx "java/lang/String" "coder" "B" ∈ tbl) (K : WP μ n Rf (pc + 3) ls (.int 0 :: st) I Q) : WP μ n Rf pc ls (.retAddr (2 * j + 1) :: st) I Q := by
  intro G ad A p l e s m args below meth c H locs lsA C hP hD hS hl
  have hk := K G ad A p l e s m args below meth c H locs lsA C hP hD hS hl
  rw [List.map_cons, cvt_S]
  exact vk_getf C.1 C.2.1 (C.2.2.2.2.2.2.2.2.2.1.1 j hj).2.1 hS C.2.2.2.2.1 (Cx_w C hw) (fun _ h => h) hd hk
theorem w_strB {j : Nat} {i : Int32} (hj : j < 7) (hd : decode μ.2.1 pc = .ok (.baload, 1)) (hi : vp_in i (strLen.getD j 0)) (K : WP μ n Rf (pc + 1) ls (.int ((strByt.getD j []).getD i.toNatClampNeg 0) :: st) I Q) : WP μ n Rf pc ls (.int i :: .retAddr (2 * j + 2) :: st) I Q := by
  intro G ad A p l e s m args below meth c H locs lsA C hP hD hS hl
  have hk := K G ad A p l e s m args below meth c H locs lsA C hP hD hS hl
  rw [List.map_cons, List.map_cons, cvt_V]
  exact va_tb C.1 C.2.1 (C.2.2.2.2.2.2.2.2.2.1.1 j hj).2.2.2 hS hi rfl hd hk
theorem w_strL {j : Nat} {v : Int32} (hj : j < 7) (hd : decode μ.2.1 pc = .ok (.arraylength, 1)) (hv : Int32.ofNat (strLen.getD j 0) = v) (K : WP μ n Rf (pc + 1) ls (.int v :: st) I Q) : WP μ n Rf pc ls (.retAddr (2 * j + 2) :: st) I Q := by
  intro G ad A p l e s m args below meth c H locs lsA C hP hD hS hl
  have hk := K G ad A p l e s m args below meth c H locs lsA C hP hD hS hl
  rw [List.map_cons, cvt_V]
  exact va_tlen C.1 C.2.1 (C.2.2.2.2.2.2.2.2.2.1.1 j hj).2.2.2 hS hv hd hk
theorem w_strK (hd : decode μ.2.1 pc = .ok (.getstatic idx, 3)) (hw : Cond.fieldLink μ.1.cls idx "java/lang/String" "COMPACT_STRINGS" "Z" ∈ tbl) (K : WP μ n Rf (pc + 3) ls (.int 1 :: st) I Q) : WP μ n Rf pc ls st I Q := by
  intro G ad A p l e s m args below meth c H locs lsA C hP hD hS hl
  exact va_gets C.1 C.2.1 C.2.2.2.2.2.2.2.2.2.2.2.1 hS C.2.2.2.2.1 (Cx_w C hw) (fun _ h => h) hd (K G ad A p l e s m args below meth c H locs lsA C hP hD hS hl)
theorem w_strF (hd : decode μ.2.1 pc = .ok (.getstatic idx, 3)) (hw : Cond.fieldLink μ.1.cls idx "jdk/internal/util/Preconditions" "SIOOBE_FORMATTER" "Ljava/util/function/BiFunction;" ∈ tbl) (K : WP μ n Rf (pc + 3) ls (.retAddr 0 :: st) I Q) : WP μ n Rf pc ls st I Q := by
  intro G ad A p l e s m args below meth c H locs lsA C hP hD hS hl
  exact va_gets C.1 C.2.1 C.2.2.2.2.2.2.2.2.2.2.2.2.1 hS C.2.2.2.2.1 (Cx_w C hw) (fun _ h => h) hd (K G ad A p l e s m args below meth c H locs lsA C hP hD hS hl)
end WD
/-! what a method answers: a number, nothing, a cell -/
def qi (Q : Int32 → MI → Prop) : Option Value → MI → Prop := fun v I => ∃ r, v = some (.int r) ∧ Q r I
def qv (Q : MI → Prop) : Option Value → MI → Prop := fun v I => v = none ∧ Q I
def qr (Q : Nat → MI → Prop) : Option Value → MI → Prop := fun v I => ∃ r, v = some (.ref r) ∧ Q r I
def Wi (μ : mD) (vs : List Value) (I : MI) (Q : Int32 → MI → Prop) : Prop := WPm μ 286 Rf0 vs I (qi Q)
def Wv (μ : mD) (vs : List Value) (I : MI) (Q : MI → Prop) : Prop := WPm μ 286 Rf0 vs I (qv Q)
def Wr (μ : mD) (vs : List Value) (I : MI) (Q : Nat → MI → Prop) : Prop := WPm μ 286 Rf0 vs I (qr Q)
theorem WP.mono {μ : mD} {n : Nat} {Rf : MR} {pc : Nat} {ls : List (Option Value)} {st : List Value} {I : MI} {Q Q' : Option Value → MI → Prop} (h : WP μ n Rf pc ls st I Q) (hq : ∀ v I, Q v I → Q' v I) : WP μ n Rf pc ls st I Q' := by
  intro G ad A p l e s m args below meth c H locs lsA C hP hD hS hl T hT X
  obtain ⟨t, h1, o, h2, h3, ⟨⟨v, I1, h4, h5, h6⟩, h7⟩, h8⟩ := h G ad A p l e s m args below meth c H locs lsA C hP hD hS hl T hT X
  exact ⟨t, h1, o, h2, h3, ⟨⟨v, I1, h4, hq v I1 h5, h6⟩, h7⟩, h8⟩
/-- what goes on behind a call, by what it answers -/
theorem wk_i {μ' : mD} {n : Nat} {Rf : MR} {vs : List Value} {I : MI} {K : Option Value → MI → Prop} (h : WPm μ' n Rf vs I (qi fun r I1 => K (some (.int r)) I1)) : WPm μ' n Rf vs I K :=
  WP.mono h (fun v I1 hv => by obtain ⟨r, rfl, h⟩ := hv; exact h)
theorem wk_v {μ' : mD} {n : Nat} {Rf : MR} {vs : List Value} {I : MI} {K : Option Value → MI → Prop} (h : WPm μ' n Rf vs I (qv fun I1 => K none I1)) : WPm μ' n Rf vs I K :=
  WP.mono h (fun v I1 hv => by obtain ⟨rfl, h⟩ := hv; exact h)
theorem wk_r {μ' : mD} {n : Nat} {Rf : MR} {vs : List Value} {I : MI} {K : Option Value → MI → Prop} (h : WPm μ' n Rf vs I (qr fun r I1 => K (some (.ref r)) I1)) : WPm μ' n Rf vs I K :=
  WP.mono h (fun v I1 hv => by obtain ⟨r, rfl, h⟩ := hv; exact h)
