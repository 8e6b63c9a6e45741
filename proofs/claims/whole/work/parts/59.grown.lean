/-! calls in worlds that grow -/
def Poa (G : gG) (ad : Nat → Nat) (A : Nat → Prop) (n0 nE : Nat) (Q : MR → MI → Prop) : Array Value → State → Outcome → State → Prop := fun _ st o t =>
  (∃ (ad' : Nat → Nat) (Rf : MR) (I : MI), o = .returned none ∧ okA n0 ad ad' ∧ Inv nE Rf I ∧ Q Rf I ∧ va_P G.1 vwCl (wl G ad' nE Rf I) t.heap ∧ va_D A (wl G ad' nE Rf I)) ∧ va_F A st t
abbrev rmA (μ : mD) (mc ms : Nat) : Room := { frames := μ.2.2.2.2.1, cells := mc, slots := ms, locals := μ.2.2.2.2.2 }
/-- a constructor from its entry: mc cells with ms slots are made; then nE cells stand -/
def WC (μ : mD) (mc ms n nE : Nat) (vs : List Value) (Rf : MR) (I : MI) (Q : MR → MI → Prop) : Prop :=
  ∀ (G : gG) (ad0 : Nat → Nat) (A : Nat → Prop) (p : Program) (l : Launch) (e : Env) (s : State) (m : MethodId) (args : Array Value) (below : List Frame) (meth : Method) (c : Code), meth.name = "<init>" → WB G ad0 n A p l e (rmA μ mc ms) s m args below meth c (MQ below (Poa G ad0 A n nE Q) args s mc ms A) μ 0 0 n Rf 0 (pad vs μ.2.2.1) [] I
def PreA (G : gG) (ad : Nat → Nat) (n : Nat) (Rf : MR) (I : MI) (sz : Nat) (U : State) : Prop := PreU G ad n Rf I sz U ∧ Nx U
theorem preA_blind {G : gG} {ad : Nat → Nat} {n : Nat} {Rf : MR} {I : MI} {sz : Nat} {av : List Value} : FrameBlind (va_Pc av (PreA G ad n Rf I sz)) := by
  intro a U g mk h
  obtain ⟨h1, h2, h3⟩ := h
  exact ⟨h1, (pre_blind (av := av) a U g mk ⟨h1, h2⟩).2, Nx_same rfl h3⟩
theorem wc_met {μ : mD} {mc ms n nE : Nat} {Rf : MR} {vs : List Value} {I : MI} {Q : MR → MI → Prop} (hy : plainName μ.1.cls = true) (hy1 : μ.1.name = "<init>") (hlen : (ent vs).length ≤ μ.2.2.1) (h : WC μ mc ms n nE vs Rf I Q) (hi : Inv n Rf I) (l : Launch) (G : gG) (ad : Nat → Nat) (sz : Nat) :
    Met l μ.1 (wsM μ) (rmA μ mc ms) (va_Pc (vs.map (cvt G ad)) (PreA G ad n Rf I sz)) (Poa G ad (va_A (wl G ad n Rf I) sz) n nE Q) mc ms (va_A (wl G ad n Rf I) sz) := by
  refine Met.ofW (cc := μ.2.1) (maxL := μ.2.2.1) (ret := μ.2.2.2.1) hy rfl ?_
  intro p e s m args below meth c s₁ B hml hv
  obtain ⟨rfl, ⟨rfl, hP, hK, hD0, hX⟩, hN⟩ := hv
  have hfm := Sx_fm hX
  have hts := atoms_spec (ws := wsM μ) B.pre
  have hown : s.vm.findClass μ.1.cls = some m.cls := findClass_of_methodNamed B.named
  have hin : meth.name = "<init>" := (name_of_methodNamed B.named B.method).1.trans hy1
  have hle : (lg_sl (vs.map (cvt G ad))).length ≤ μ.2.2.1 := by rw [ent_len hfm]; exact hlen
  have hl := lv_entry (vs.map (cvt G ad)) hle
  rw [lg_entry_eq]
  refine h G ad _ p l e s m _ below meth c hin ⟨B.exec, B.bytes, B.returns, hml, hown, fun w hw => hts w (List.mem_cons_of_mem _ hw), B.notSynchronized, hK, fun q h => Or.inr h, hX⟩ hN (Nat.le_refl n) hi ad s.heap [] _ (fun _ _ => rfl) hP (hD0.self (sz := s.heap.size)) va_S.rf ⟨hl.1, hl.2.1, fun k v hk => ?_⟩
  have hk2 : (ent vs)[k]? = some (some v) := by
    unfold pad at hk
    rcases Nat.lt_or_ge k (ent vs).length with q | q
    · rwa [List.getElem?_append_left q] at hk
    · rw [List.getElem?_append_right q, List.getElem?_replicate] at hk
      split at hk <;> simp at hk
  have := ent_in (G := G) (ad := ad) hfm vs 0 k v hk2
  rw [Nat.zero_add] at this
  exact hl.2.2 _ this
theorem good_tb {μ' : mD} (h : Cond.code μ'.1 μ'.2.1 μ'.2.2.1 μ'.2.2.2.1 ∈ tbl) : GoodIn tbl (wsM μ') := by
  intro w hw
  rcases List.mem_cons.mp hw with rfl | hw
  · exact ⟨h, good_of_word (tb_gd h)⟩
  · exact ⟨hw, good_of_word (tb_gd hw)⟩
section WBC
variable {G : gG} {ad0 : Nat → Nat} {n0 : Nat} {A : Nat → Prop} {p : Program} {l : Launch} {e : Env} {R : Room} {s : State} {m : MethodId} {args : Array Value} {below : List Frame} {meth : Method} {c : Code} {Qf : State → Prop} {μ : mD} {cs ss n : Nat} {Rf : MR} {pc : Nat} {ls : List (Option Value)} {st : List Value} {I : MI}
theorem wb_go {ad : Nat → Nat} {A' : Nat → Prop} {nE mc ms : Nat} {Q' : MR → MI → Prop} {lsA : Array Slot} {st0 rest : List Value} {av : Array Value} {H : Heap} {locs : List Loc}
    (hr : va_Run p l e R s m args below meth c H locs cs ss mc ms (F0 m pc lsA st0) rest (Poa G ad A' n nE Q' av) A') (hS : va_S A s.heap H locs) (hA : ∀ q, A' q → A q)
    (K : ∀ (ad' : Nat → Nat) (Rf1 : MR) (I1 : MI) (H1 : Heap) (locs1 : List Loc), okA n ad ad' → Inv nE Rf1 I1 → Q' Rf1 I1 → va_P G.1 vwCl (wl G ad' nE Rf1 I1) H1 → va_D A (wl G ad' nE Rf1 I1) → va_S A s.heap H1 locs1 → W p l e R s m args below meth c H1 locs1 (cs + mc) (ss + ms) Qf (F0 m (pc + 3) lsA rest)) :
    W p l e R s m args below meth c H locs cs ss Qf (F0 m pc lsA st0) := by
  intro T hT X
  obtain ⟨v, st₀, t, T', L, h0, X', hL, e1, e2, ⟨⟨ad', Rf1, I1, hv, ho, hi, hq, hP1, hD1⟩, hz, hk⟩, st⟩ := hr T hT X
  cases hv
  rw [h0] at hz hk
  obtain ⟨t2, a1, b1⟩ := K ad' Rf1 I1 T'.heap (locs ++ L) ho hi hq (by rw [e1]; exact hP1) (hD1.weaken (fun _ q _ h => hA q.1 h))
    ⟨Nat.le_trans hS.1 (by rw [e1]; exact hz), fun q h1 h2 => by rw [e1, hk q (Nat.lt_of_lt_of_le h1 hS.1) (fun z => h2 (hA q z))]; exact hS.2.1 q h1 h2, fun q hq => by
      rcases List.mem_append.mp hq with h | h
      · exact hS.2.2 q h
      · exact hA _ (hL q h)⟩ T' rfl X'
  exact ⟨t2, st t2 a1, b1⟩
theorem preA_here {ad : Nat → Nat} {H : Heap} {locs : List Loc} (hP : va_P G.1 vwCl (wl G ad n Rf I) H) (hD : va_D A (wl G ad n Rf I)) (hS : va_S A s.heap H locs) (hK : va_K G.1 vwCl (tysG G) s) (hX : Sx G A s) (hA : ∀ q, va_A (wl G ad n Rf I) H.size q → A q) (hN : Nx s) : ∀ U : State, U.heap = H → s.WarmedH U.vm → PreA G ad n Rf I H.size U := fun U hU hW => ⟨pre_here hP hD hS hK hX hA U hU hW, Nx_warm hW hN⟩
theorem wb_ctor {μ' : mD} {idx np r mc ms nE : Nat} {As : List Value} {Q : MR → MI → Prop} (hd : decode μ.2.1 pc = .ok (.invokespecial idx, 3)) (hw : Cond.methodLink μ.1.cls idx μ'.1 ∈ tbl ∨ (μ.1.cls, idx, μ'.1) ∈ nestL) (ho : okN μ' np) (hin : Cond.instanceMethod μ'.1 ∈ tbl) (hy : μ'.1.name = "<init>") (hret : μ'.2.2.2.1 = none) (hnp : As.length = np) (hlen : (ent (.ref r :: As)).length ≤ μ'.2.2.1) (hR : μ'.2.2.2.2.1 + 1 ≤ R.frames ∧ 8 + (μ'.2.2.1 + 11) + μ'.2.2.2.2.2 ≤ R.locals) (hcs : cs + mc ≤ R.cells ∧ ss + ms ≤ R.slots) (hst8 : (st.map fun v => v.category).sum ≤ 8) (hls : lvB n ls = true) (hst : st.all (bvB n) = true) (hnE : n ≤ nE)
    (M : Inv n Rf I → WC μ' mc ms n nE (.ref r :: As) Rf I Q) (K : ∀ Rf' I', Inv nE Rf' I' → Q Rf' I' → WB G ad0 n0 A p l e R s m args below meth c Qf μ (cs + mc) (ss + ms) nE Rf' (pc + 3) ls st I') : WB G ad0 n0 A p l e R s m args below meth c Qf μ cs ss n Rf pc ls (As.reverse ++ .ref r :: st) I := by
  intro C N hn hi ad H locs lsA ha hP hD hS hl
  obtain ⟨hx, hb, hr, hml, hown, hts, hlk, hK, hA, hX⟩ := id C
  have hfm := Sx_fm hX
  have hF := free_all (G := G) hD hS hA
  have hM := wc_met ho.1 hy hlen (M hi) hi l G ad H.size
  have hrun : va_Run p l e R s m args below meth c H locs cs ss mc ms (F0 m pc lsA ((As.reverse ++ .ref r :: st).map (cvt G ad))) (st.map (cvt G ad)) (Poa G ad (va_A (wl G ad n Rf I) H.size) n nE Q (Value.ref (ad r) :: As.map (cvt G ad)).toArray) (va_A (wl G ad n Rf I) H.size) := by
    have hroom : 2 * (F0 m pc lsA ((As.reverse ++ .ref r :: st).map (cvt G ad))).monitorRoom + ((st.map (cvt G ad)).map fun v => v.category).sum ≤ 8 := by
      refine lv_room ?_
      rw [cvt_sum hfm]; exact hst8
    have hstk : (F0 m pc lsA ((As.reverse ++ .ref r :: st).map (cvt G ad))).stack = (As.map (cvt G ad)).reverse ++ .ref (ad r) :: st.map (cvt G ad) := by simp [cvt]
    have hpre : PreS s H (va_Pc ((Value.ref r :: As).map (cvt G ad)) (PreA G ad n Rf I H.size)) (.ref (ad r) :: As.map (cvt G ad)) := ⟨preA_blind, fun U hU hW => ⟨rfl, preA_here hP hD hS hK hX hF N U hU hW⟩⟩
    rcases hw with hw | hw
    · exact va_runI (As := As.map (cvt G ad)) (rest := st.map (cvt G ad)) (n := np) ⟨hx, hb, hml, hown, hts⟩ hM ⟨callB_of np hts (good_tb ho.2.2.1) (by rw [← hret]; rfl) rfl rfl (hts _ ho.2.1) (hts _ hw) ho.2.2.2 hR, hy, hts _ hin⟩ hpre rfl (by rw [List.length_map]; exact hnp) hl.1 hstk hroom hd hcs
    · exact va_runIN (host := "DeliveryRound") (As := As.map (cvt G ad)) (rest := st.map (cvt G ad)) (n := np) ⟨hx, hb, hml, hown, hts⟩ hM ⟨va_cnB np hts (good_tb ho.2.2.1) (by rw [← hret]; rfl) rfl rfl (N.2 _ hw) (hts _ ho.2.1) ho.2.2.2 hR, hy, hts _ hin⟩ hpre rfl (by rw [List.length_map]; exact hnp) hl.1 hstk hroom hd hcs
  refine wb_go hrun hS hF (fun ad' Rf1 I1 H1 locs1 ho1 hi1 hq hP1 hD1 hS1 => ?_)
  have := K Rf1 I1 hi1 hq C N (Nat.le_trans hn hnE) hi1 ad' H1 locs1 lsA (fun c hc => (ho1 c (by omega)).trans (ha c hc)) hP1 hD1 hS1 (lvs_ad ho1 hls hl)
  rw [map_ad ho1 hst] at this
  exact this
theorem wb_cgo {ad : Nat → Nat} {A' : Nat → Prop} {Q' : Option Value → MI → Prop} {lsA : Array Slot} {st0 rest : List Value} {av : Array Value} {H : Heap} {locs : List Loc}
    (hr : va_Run p l e R s m args below meth c H locs cs ss 0 0 (F0 m pc lsA st0) rest (Po G ad A' n Rf Q' av) A') (hS : va_S A s.heap H locs) (hA : ∀ q, A' q → A q)
    (K : ∀ (v : Option Value) (I1 : MI) (H1 : Heap) (locs1 : List Loc), Q' v I1 → va_P G.1 vwCl (wl G ad n Rf I1) H1 → va_D A (wl G ad n Rf I1) → va_S A s.heap H1 locs1 → W p l e R s m args below meth c H1 locs1 cs ss Qf (F0 m (pc + 3) lsA ((v.map (cvt G ad)).toList ++ rest))) :
    W p l e R s m args below meth c H locs cs ss Qf (F0 m pc lsA st0) := by
  intro T hT X
  obtain ⟨v, st₀, t, T', L, h0, X', hL, e1, e2, ⟨⟨v1, I1, hv, hq, hP1, hD1⟩, hz, hk⟩, st⟩ := hr T hT X
  cases hv
  rw [h0] at hz hk
  obtain ⟨t2, a1, b1⟩ := K v1 I1 T'.heap (locs ++ L) hq (by rw [e1]; exact hP1) (hD1.weaken (fun _ q _ h => hA q.1 h))
    ⟨Nat.le_trans hS.1 (by rw [e1]; exact hz), fun q h1 h2 => by rw [e1, hk q (Nat.lt_of_lt_of_le h1 hS.1) (fun z => h2 (hA q z))]; exact hS.2.1 q h1 h2, fun q hq => by
      rcases List.mem_append.mp hq with h | h
      · exact hS.2.2 q h
      · exact hA _ (hL q h)⟩ T' rfl X'
  exact ⟨t2, st t2 a1, b1⟩
/-- a method that makes nothing -/
theorem wb_call {μ' : mD} {idx np c0 ci : Nat} {As : List Value} {q : vw_C} (hd : decode μ.2.1 pc = .ok (.invokevirtual idx, 3)) (hw : Cond.methodLink μ.1.cls idx μ'.1 ∈ tbl) (ho : okV μ' np) (h0 : kd c0 = (0, ci)) (hlt : c0 < n) (hcn : vwCl[ci]? = some q) (hcq : q.1 = μ'.1.cls) (hnp : As.length = np) (hlen : (ent (.ref c0 :: As)).length ≤ μ'.2.2.1) (hR : μ'.2.2.2.2.1 + 1 ≤ R.frames ∧ 8 + (μ'.2.2.1 + 11) + μ'.2.2.2.2.2 ≤ R.locals) (hcs : cs ≤ R.cells ∧ ss ≤ R.slots) (hst8 : (st.map fun v => v.category).sum ≤ 8)
    (M : Inv n Rf I → WPm μ' n Rf (.ref c0 :: As) I (fun v I1 => (∀ i, n ≤ i → i < 286 → I1 i = fun _ => 0) ∧ WB G ad0 n0 A p l e R s m args below meth c Qf μ cs ss n Rf (pc + 3) ls (v.toList ++ st) I1)) : WB G ad0 n0 A p l e R s m args below meth c Qf μ cs ss n Rf pc ls (As.reverse ++ .ref c0 :: st) I := by
  intro C N hn hi ad H locs lsA ha hP hD hS hl
  obtain ⟨hx, hb, hr, hml, hown, hts, hlk, hK, hA, hX⟩ := id C
  have hfm := Sx_fm hX
  have hF := free_all (G := G) hD hS hA
  have hM := wp_met ho.1.1 hlen (M hi) l G ad H.size
  have hrun : va_Run p l e R s m args below meth c H locs cs ss 0 0 (F0 m pc lsA ((As.reverse ++ .ref c0 :: st).map (cvt G ad))) (st.map (cvt G ad)) (Po G ad (va_A (wl G ad n Rf I) H.size) n Rf (fun v I1 => (∀ i, n ≤ i → i < 286 → I1 i = fun _ => 0) ∧ WB G ad0 n0 A p l e R s m args below meth c Qf μ cs ss n Rf (pc + 3) ls (v.toList ++ st) I1) (Value.ref (ad c0) :: As.map (cvt G ad)).toArray) (va_A (wl G ad n Rf I) H.size) := by
    refine va_runV (As := As.map (cvt G ad)) (rest := st.map (cvt G ad)) (C := μ'.1.cls) (n := np) ⟨hx, hb, hml, hown, hts⟩ hM ⟨callB_of np hts (good_tb ho.1.2.2.1) rfl rfl rfl (hts _ ho.1.2.1) (hts _ hw) ho.1.2.2.2 hR, hts _ ho.2.1, hts _ ho.2.2⟩ ⟨pre_blind, ?_, fun U hU hW => ⟨rfl, pre_here hP hD hS hK hX hF U hU hW⟩⟩ rfl (by rw [List.length_map]; exact hnp) hl.1 ?_ ?_ hd hcs
    · obtain ⟨cell, q1, q2, q3⟩ := va_recv hK hP hcn (wl_of h0 hlt)
      exact ⟨cell, q1, q2, by rw [← hcq]; exact q3⟩
    · simp [cvt]
    · refine lv_room ?_
      rw [cvt_sum hfm]; exact hst8
  refine wb_cgo hrun hS hF (fun v I1 H1 locs1 hq hP1 hD1 hS1 => ?_)
  have := hq.2 C N hn ⟨hi.1, hi.2.1, hq.1⟩ ad H1 locs1 lsA ha hP1 hD1 hS1 hl
  rw [out_map] at this
  exact this
theorem wb_vret {mc ms nE : Nat} {Q : MR → MI → Prop} (hd : decode μ.2.1 pc = .ok (.return_, 1)) (hr : μ.2.2.2.1 = none) (hn' : n = nE) (hcs : cs = mc) (hss : ss = ms) (K : Q Rf I) : WB G ad0 n0 A p l e R s m args below meth c (MQ below (Poa G ad0 A n0 nE Q) args s mc ms A) μ cs ss n Rf pc ls [] I := by
  intro C N hn hi ad H locs lsA ha hP hD hS hl
  subst hn'; subst hcs; subst hss
  exact W.vret C.1 C.2.1 (C.2.2.1.trans hr) (fun t ht hW => ⟨⟨ad, Rf, I, rfl, ha, hi, K, by rw [ht]; exact hP, hD⟩, hS.F ht⟩) hS.2.2 hd C.2.2.2.2.2.2.1
end WBC
theorem WC.mono {μ : mD} {mc ms n nE : Nat} {vs : List Value} {Rf : MR} {I : MI} {Q Q' : MR → MI → Prop} (h : WC μ mc ms n nE vs Rf I Q) (hq : ∀ R' I', Q R' I' → Q' R' I') : WC μ mc ms n nE vs Rf I Q' := by
  intro G ad0 A p l e s m args below meth c hm C N hn hi ad H locs lsA ha hP hD hS hl T hT X
  obtain ⟨t, h1, o, h2, h3, ⟨⟨ad', R', I', h4, h5, h6, h7, h8⟩, h9⟩, h10⟩ := h G ad0 A p l e s m args below meth c hm C N hn hi ad H locs lsA ha hP hD hS hl T hT X
  exact ⟨t, h1, o, h2, h3, ⟨⟨ad', R', I', h4, h5, h6, hq R' I' h7, h8⟩, h9⟩, h10⟩
