/-! the class's cart -/
theorem up2_ap (I : MI) (c k : Nat) (x : Int32) (i j : Nat) : up2 I c k x i j = if i = c then (if j = k then x else I i j) else I i j := by
  by_cases h : i = c
  · subst h
    by_cases h2 : j = k
    · subst h2; rw [up2_same, if_pos rfl, if_pos rfl]
    · rw [up2_slot _ _ h2, if_pos rfl, if_neg h2]
  · rw [up2_cell _ _ _ h, if_neg h]
theorem getD_gen {α : Type} (r : List α) (x d : α) (i : Nat) : (r ++ [x]).getD i d = if i < r.length then r.getD i d else if i = r.length then x else d := by
  by_cases h : i < r.length
  · simp [h, List.getD_eq_getElem?_getD, List.getElem?_append_left h]
  · rw [if_neg h]
    by_cases h2 : i = r.length
    · subst h2; simp [List.getD_eq_getElem?_getD]
    · rw [if_neg h2, List.getD_eq_getElem?_getD, List.getElem?_eq_none (by simp; omega)]; rfl
/-- the visits of a round in three rows -/
def VL (c1 c2 c3 : Nat) (l : List (Nat × Nat × Nat)) (I : MI) : Prop := ∀ i, i < l.length → I c1 i = nI (l.getD i (0, 0, 0)).1 ∧ I c2 i = nI (l.getD i (0, 0, 0)).2.1 ∧ I c3 i = nI (l.getD i (0, 0, 0)).2.2
theorem VL_add {c1 c2 c3 : Nat} {l : List (Nat × Nat × Nat)} {I I1 : MI} {a b c : Nat} (h : VL c1 c2 c3 l I) (h1 : ∀ i, I1 c1 i = if i = l.length then nI a else I c1 i) (h2 : ∀ i, I1 c2 i = if i = l.length then nI b else I c2 i) (h3 : ∀ i, I1 c3 i = if i = l.length then nI c else I c3 i) : VL c1 c2 c3 (l ++ [(a, b, c)]) I1 := by
  intro i hi
  rw [h1, h2, h3, getD_gen]
  simp only [List.length_append, List.length_singleton] at hi
  by_cases e : i = l.length
  · subst e; simp
  · rw [if_pos (show i < l.length by omega), if_neg e, if_neg e, if_neg e]
    exact h i (by omega)
def bI (c : Bool) : Int32 := if c then 1 else 0
def KX (p : Pl) (x : Ld) (k : Ct) (I : MI) : Prop := I 56 5 = nI (kN k) ∧ I 56 6 = nI (kM k) ∧ I 56 7 = nI (kF k) ∧ I 56 8 = nI (kE k) ∧ I 56 9 = nI (unm p x (kK k)) ∧ I 56 10 = bI (kO k) ∧ I 57 1 = nI (kV k).length ∧ I 57 2 = nI (kR k) ∧ VL 58 59 60 (kV k) I
theorem KX_of {p : Pl} {x : Ld} {k : Ct} {I I1 : MI} (h : KX p x k I) (e : ∀ i, 56 ≤ i → i ≤ 60 → I1 i = I i) : KX p x k I1 := by
  unfold KX VL
  rw [e 56 (by omega) (by omega), e 57 (by omega) (by omega), e 58 (by omega) (by omega), e 59 (by omega) (by omega), e 60 (by omega) (by omega)]
  exact h
abbrev cX5 : List Nat := [46, 56, 57, 58, 59, 60]
theorem clampL (y : Int32) : (if y < 0 then 0 else y) = nI y.toNatClampNeg ∧ (if 0 < y then y else 0) = nI y.toNatClampNeg ∧ y.toNatClampNeg < 2147483648 := by
  by_cases h : y < 0
  · have h1 : y.toNatClampNeg = 0 := by
      rw [Int32.lt_iff_toInt_lt] at h
      have h0 : (0 : Int32).toInt = 0 := rfl
      unfold Int32.toNatClampNeg
      omega
    have h2 : ¬ 0 < y := by
      rw [Int32.lt_iff_toInt_lt] at h ⊢
      omega
    rw [h1, if_pos h, if_neg h2]
    exact ⟨rfl, rfl, by decide⟩
  · obtain ⟨j, hj, e⟩ := nI_of h
    subst e
    rw [cl hj, if_neg h]
    refine ⟨rfl, ?_, hj⟩
    by_cases h2 : (0 : Int32) < nI j
    · rw [if_pos h2]
    · rw [if_neg h2]
      rw [nI_zero, ilt (by decide) hj] at h2
      have : j = 0 := by omega
      rw [this]; rfl
theorem minI {a b : Nat} (ha : a < 2147483648) (hb : b < 2147483648) : (if nI a < nI b then nI a else nI b) = nI (min b a) := by
  by_cases h : nI a < nI b
  · rw [if_pos h]; rw [ilt ha hb] at h; rw [Nat.min_eq_right (by omega)]
  · rw [if_neg h]; rw [ilt ha hb] at h; rw [Nat.min_eq_left (by omega)]
section
variable {p : Pl} {x : Ld} {b j : Nat} {k : Ct} {I : MI}
theorem sX_drive {v : Nat} {Q : Int32 → MI → Prop} (hp : PlOk p) (hok : LdOk p b x) (hP : PX 24 p I) (hx : LX 30 p x I) (hk : KX p x k I) (hn : kN k < pNc p) (hm : kM k ≤ 400000000) (hv : v < pNc p)
    (H0 : ¬ ea (nt p x) (kN k) (kM k) v < INF → ∀ I1, KX p x k I1 → Same cX5 I I1 → Q 0 I1)
    (H1 : ea (nt p x) (kN k) (kM k) v < INF → ∀ I1, KX p x (drive p x k v) I1 → Same cX5 I I1 → Q 1 I1) : Wi mX0_driveTo [.ref 56, .int (nI v)] I Q := by
  have hnc := hp.2.1
  have hI : INF = 1000000000 := rfl
  refine rX0_driveTo ?_
  rw [hk.1, hk.2.1]
  refine sX_arrivals (nt_ok hp hok) (NX_PL hP hx) hn hm (fun f hf => ⟨rfl, ci (by omega) (by decide), ?_⟩)
  have hle := (ea_is (nt_ok hp hok) (u := kN k) (t := kM k) (by omega)).2.2.2 v hv
  have e : upA I 46 f 46 (nI v).toNatClampNeg = xv (ea (nt p x) (kN k) (kM k) v) := by
    rw [cl (by omega), show upA I 46 f 46 = f from if_pos rfl]; exact hf v hv
  rw [e, xv_eq hle]
  have hk' : KX p x k (upA I 46 f) := KX_of hk (fun i h1 h2 => upA_ne I f (by omega))
  refine ⟨fun q I3 e3 I4 e4 => ?_, fun q => ?_⟩
  · have hlt : ea (nt p x) (kN k) (kM k) v < INF := by
      have : nNc (nt p x) = pNc p := rfl
      omega
    refine H1 hlt I4 ?_ ?_
    · subst e3; subst e4
      rw [xv_fin hlt]
      obtain ⟨a1, a2, a3, a4, a5, a6, a7, a8, a9⟩ := hk'
      refine ⟨?_, ?_, ?_, ?_, ?_, ?_, ?_, ?_, ?_⟩
      · simp [up2_ap, drive]
      · simp [up2_ap, drive]
      · simp [up2_ap]; exact a3
      · simp [up2_ap]; exact a4
      · simp [up2_ap]; exact a5
      · simp [up2_ap]; exact a6
      · simp [up2_ap]; exact a7
      · simp [up2_ap]; exact a8
      · intro i hi
        have := a9 i hi
        simp [up2_ap]; exact this
    · subst e3; subst e4
      exact ((Same.rf.up (by simp)).u2 (by simp)).u2 (by simp)
  · exact H0 (by omega) _ hk' (Same.rf.up (by simp))
theorem sX_reload {v : Nat} {Q : Int32 → MI → Prop} (hp : PlOk p) (hok : LdOk p b x) (hP : PX 24 p I) (hx : LX 30 p x I) (hk : KX p x k I) (ko : KOk p j k) (h1 : 1440 ≤ j) (hj : j ≤ 300000000) (hv : v < pNc p)
    (H : ∀ I1, KX p x (relK p x k v) I1 → Same cX5 I I1 → Q (bI (relB p x k v)) I1) : Wi mX0_reload [.ref 56, .int (nI v)] I Q := by
  have h2 := hp.1
  have hI : INF = 1000000000 := rfl
  have hcap := hp.2.2.2.2.2.1
  refine rX0_reload (sX_drive (v := 0) hp hok hP hx hk ko.1 (by have := ko.2.1; omega) (by omega) (fun q I1 g1 s1 => ?_) (fun q I1 g1 s1 => ?_))
  · refine ⟨fun z => absurd rfl z, fun _ => ?_⟩
    have e1 : relB p x k v = false := by unfold relB; rw [decide_eq_false_iff_not]; exact fun z => q z.1
    have e2 : relK p x k v = k := by unfold relK; rw [if_neg q]
    have := H I1 (by rw [e2]; exact g1) s1
    rw [e1] at this
    exact this
  · refine ⟨fun _ I3 e3 x4 e4 I5 e5 I6 e6 I7 e7 => ?_, fun z => absurd z (by decide)⟩
    have hP1 := PX_sam hP s1 (by simp)
    obtain ⟨a1, a2, a3, a4, a5, a6, a7, a8, a9⟩ := g1
    have ua := unm_le hp hok (kK k)
    have ax4 : x4 = nI (min (unm p x (kK k)) (pCap p)) := by
      rw [e4, e3, up2_ap, up2_ap]
      simp only [show ¬ (24 = 56) by decide, if_false, show ¬ (9 = 8) by decide, if_true]
      rw [hP1.2.2.2.1, a5]
      exact minI (by omega) (by have : unm p x (kK (drive p x k 0)) = unm p x (kK k) := rfl; omega)
    have hk7 : KX p x (relA p x k) I7 := by
      subst e3; subst e5; subst e6; subst e7
      refine ⟨?_, ?_, ?_, ?_, ?_, ?_, ?_, ?_, ?_⟩
      · simp [up2_ap]; exact a1
      · simp [up2_ap]; rw [a2]; exact nI_add _ 10
      · simp [up2_ap]; exact ax4
      · simp [up2_ap, relA]; rfl
      · simp [up2_ap]; exact a5
      · simp [up2_ap]; exact a6
      · simp [up2_ap]; exact a7
      · simp [up2_ap]; rw [a8]; exact nI_s _
      · intro i hi
        have := a9 i hi
        simp [up2_ap]; exact this
    have s7 : Same cX5 I I7 := by
      subst e3; subst e5; subst e6; subst e7
      exact (((s1.u2 (by simp)).u2 (by simp)).u2 (by simp)).u2 (by simp)
    have ka := relA_ok hp hok ko h1 (by omega) q
    refine sX_drive (v := v) hp hok (PX_sam hP s7 (by simp)) (LX_sam hx s7 (by simp)) hk7 ka.1 (by have := ka.2.1; omega) hv (fun r I8 g8 s8 => ?_) (fun r I8 g8 s8 => ?_)
    · have e1 : relB p x k v = false := by unfold relB; rw [decide_eq_false_iff_not]; exact fun z => r z.2
      have e2 : relK p x k v = relA p x k := by unfold relK; rw [if_pos q]; exact if_neg r
      have := H I8 (by rw [e2]; exact g8) (s7.tr s8)
      rw [e1] at this
      exact ⟨rfl, this⟩
    · have e1 : relB p x k v = true := by unfold relB; rw [decide_eq_true_eq]; exact ⟨q, r⟩
      have e2 := relB_full e1
      have := H I8 (by rw [e2]; exact g8) (s7.tr s8)
      rw [e1] at this
      exact ⟨rfl, this⟩
theorem sX_serve {h : Nat} {Q : MI → Prop} (hp : PlOk p) (hok : LdOk p b x) (hP : PX 24 p I) (hx : LX 30 p x I) (hk : KX p x k I) (ko : KOk p j k) (hj : j ≤ 300000000) (hh : h < pHc p) (hd : dem x h ≤ kF k) (hm : kK k h = false)
    (H : ∀ I1, KX p x (srv p x k h) I1 → Same cX5 I I1 → Q I1) : Wv mX0_serveHouse [.ref 56, .int (nI h), .int (nI (dem x h))] I Q := by
  have hhc := hp.2.2.2.1
  have hcap := hp.2.2.2.2.2.1
  obtain ⟨o1, o2, o3, o4, o5, o6⟩ := ko
  have hvl : (kV k).length < 12 := by
    have := cnt_lt (p := kK k) (q := fun _ => true) (w := h) (n := pHc p) (fun _ _ _ => rfl) hh hm rfl
    have := cnt_le (fun _ => true) (pHc p)
    omega
  have hvm : vmin p h ≤ 101 := by have := hp.2.2.2.2.2.2.2.2 h hh; unfold vmin; omega
  have ua := unm_le hp hok (kK k)
  have us := unm_mks (d := dem x) hm (pHc p)
  rw [if_pos hh] at us
  obtain ⟨a1, a2, a3, a4, a5, a6, a7, a8, a9⟩ := hk
  refine rX0_serveHouse (sX_vmin hp hP hh (fun I3 e3 I4 e4 I5 e5 => ⟨ci (by omega) (by decide), ci (by omega) (by decide), fun x6 e6 x7 e7 I8 e8 => ?_⟩))
  have f35 : I5 35 = I 35 := by subst e3; subst e4; subst e5; rw [up2_cell _ _ _ (by decide), up2_cell _ _ _ (by decide), up2_cell _ _ _ (by decide)]
  have f32 : I5 32 = I 32 := by subst e3; subst e4; subst e5; rw [up2_cell _ _ _ (by decide), up2_cell _ _ _ (by decide), up2_cell _ _ _ (by decide)]
  have f24 : I5 24 = I 24 := by subst e3; subst e4; subst e5; rw [up2_cell _ _ _ (by decide), up2_cell _ _ _ (by decide), up2_cell _ _ _ (by decide)]
  have f7 : I5 56 7 = nI (kF k - dem x h) := by subst e3; subst e4; subst e5; simp [up2_ap]; rw [a3]; exact pk_sub hd
  have f8 : I5 56 8 = nI (kE k) := by subst e3; subst e4; subst e5; simp [up2_ap]; exact a4
  have f6 : I5 56 6 = nI (kM k + vmin p h) := by subst e3; subst e4; subst e5; simp [up2_ap]; rw [a2]; exact nI_add _ _
  have hc := clampL (lBo x h - lKp x h)
  have hsp := hc.2.2
  have g6 : x6 = nI (spr x h) := by
    rw [e6, f35, f32, cl (by omega), (hx.2.2.2.1 h hh).2.1, (hx.2.2.2.1 h hh).1]
    exact hc.1
  have g7 : x7 = nI (tkn p x k h) := by
    rw [e7, g6, f24, f7, f8, hP.2.2.2.1, pk_sub (by omega), pk_sub (by omega)]
    exact minI (by omega) hsp
  have ht : tkn p x k h ≤ 200 := by unfold tkn; omega
  have q1 : I8 57 1 = nI (kV k).length := by subst e3; subst e4; subst e5; subst e8; simp [up2_ap]; exact a7
  have s8 : Same cX5 I I8 := by subst e3; subst e4; subst e5; subst e8; exact (((Same.rf.u2 (by simp)).u2 (by simp)).u2 (by simp)).u2 (by simp)
  have f86 : I8 56 6 = nI (kM k + vmin p h) := by subst e8; simp [up2_ap]; exact f6
  rw [f86, g7]
  refine rX3_add ⟨fun q => ?_, fun _ => ?_⟩
  · rw [q1, show (12 : Int32) = nI 12 from rfl, ile (by decide) (by omega)] at q; omega
  · rw [q1, cl (by omega)]
    refine ⟨ci (by omega) (by decide), fun J1 d1 => ?_⟩
    have q2 : J1 57 1 = nI (kV k).length := by subst d1; simp [up2_ap]; exact q1
    rw [q2, cl (by omega)]
    refine ⟨ci (by omega) (by decide), fun J2 d2 => ?_⟩
    have q3 : J2 57 1 = nI (kV k).length := by subst d2; simp [up2_ap]; exact q2
    rw [q3, cl (by omega)]
    refine ⟨ci (by omega) (by decide), fun J3 d3 J4 d4 => H J4 ?_ ?_⟩
    · have q4 : J3 57 1 = nI (kV k).length := by subst d3; simp [up2_ap]; exact q3
      rw [q4] at d4
      have k56 : ∀ i, J4 56 i = I8 56 i := by intro i; subst d1; subst d2; subst d3; subst d4; simp [up2_ap]
      refine ⟨?_, ?_, ?_, ?_, ?_, ?_, ?_, ?_, ?_⟩
      · rw [k56]; subst e3; subst e4; subst e5; subst e8; simp [up2_ap]; exact a1
      · rw [k56, f86]; rfl
      · rw [k56]; subst e8; simp [up2_ap]; exact f7
      · rw [k56, e8]; simp [up2_ap]; rw [f8, g7]; exact nI_add _ _
      · rw [k56]
        show _ = nI (sumTo (fun i => if mks (kK k) h i then 0 else dem x i) (pHc p))
        subst e3; subst e4; subst e5; subst e8; simp [up2_ap]
        rw [a5]
        unfold unm
        rw [← us, pk_sub (by omega)]
        congr 1
        omega
      · rw [k56]; subst e3; subst e4; subst e5; subst e8; simp [up2_ap]; exact a6
      · subst d4; rw [up2_same]; show _ = nI (kV k ++ [_]).length; rw [List.length_append]; exact nI_s _
      · subst d1; subst d2; subst d3; subst d4; subst e3; subst e4; subst e5; subst e8; simp [up2_ap]; exact a8
      · have a9' : VL 58 59 60 (kV k) I8 := by
          intro i hi
          have := a9 i hi
          subst e3; subst e4; subst e5; subst e8; simp [up2_ap]; exact this
        refine VL_add a9' (fun i => ?_) (fun i => ?_) (fun i => ?_)
        · subst d1; subst d2; subst d3; subst d4; simp [up2_ap]
        · subst d1; subst d2; subst d3; subst d4; simp [up2_ap]
        · subst d1; subst d2; subst d3; subst d4; simp [up2_ap]
    · subst d1; subst d2; subst d3; subst d4
      exact (((s8.u2 (by simp)).u2 (by simp)).u2 (by simp)).u2 (by simp)
theorem bI_eq (c : Bool) : bI c = 0 ↔ c = false := by cases c <;> simp [bI]
theorem hloop_over {v h : Nat} (ho : kO (hloop p x v k h) = true) : ∀ n, hloop p x v k (h + n) = hloop p x v k h
  | 0 => rfl
  | n + 1 => by
    show hstep p x v (hloop p x v k (h + n)) (h + n) = _
    rw [hloop_over ho n]
    unfold hstep
    rw [if_pos ho]
theorem rloop_over (ho : kO k = true) : ∀ r, rloop p x k r = k
  | [] => rfl
  | v :: r => by
    have : sstep p x k v = k := by unfold sstep; rw [if_pos ho]
    simp only [rloop]
    rw [this]
    exact rloop_over ho r
theorem sX_stop {v : Nat} {Q : MI → Prop} (hp : PlOk p) (hok : LdOk p b x) (hb : b ≤ 100000) (hP : PX 24 p I) (hx : LX 30 p x I) (hk : KX p x k I) (ko : KOk p j k) (h1 : 1440 ≤ j) (hj : j ≤ 200000000) (hv : v < pNc p) (hn : kN k = v) (hm : ∀ i, i < pHc p → pHn p i = v → kK k i = false)
    (H : ∀ I1, KX p x (hloop p x v k (pHc p)) I1 → Same cX5 I I1 → Q I1) : Wv mX0_serveStop [.ref 56, .int (nI v)] I Q := by
  have hhc := hp.2.2.2.1
  have hnc := hp.2.1
  have go : ∀ (m h : Nat) (J : MI), m + h = pHc p → KX p x (hloop p x v k h) J → Same cX5 I J → LX0_serveStop_2 (nI v) (nI h) J Q := by
    intro m
    induction m with
    | zero =>
      intro h J hmh kj sj
      have : h = pHc p := by omega
      subst this
      refine rX0_serveStop_2 ⟨fun _ => H J kj sj, fun q => absurd ?_ q⟩
      rw [(PX_sam hP sj (by simp)).2.2.1]; exact (ile (by omega) (by omega)).mpr (Nat.le_refl _)
    | succ m ih =>
      intro h J hmh kj sj
      have hh : h < pHc p := by omega
      have hPJ := PX_sam hP sj (by simp)
      have hxJ := LX_sam hx sj (by simp)
      obtain ⟨i1, i2, i3⟩ := hloop_HI hp hok ko h1 hj hv hn hm h (by omega)
      have nx : ∀ J1, KX p x (hstep p x v (hloop p x v k h) h) J1 → Same cX5 J J1 → LX0_serveStop_2 (nI v) (nI (h + 1)) J1 Q := fun J1 g1 s1 => ih (h + 1) J1 (by omega) g1 (sj.tr s1)
      clear ih
      have hov := fun ho => hloop_over (p := p) (x := x) (v := v) (k := k) (h := h) ho (pHc p - h)
      generalize hloop p x v k h = kh at *
      have hd := dem_le hok hh
      have hpn := hp.2.2.2.2.2.2.2.2 h hh
      by_cases ho : kO kh = true
      · refine rX0_serveStop_2 ⟨fun q => ?_, fun _ => ⟨fun _ => ?_, fun q => ?_⟩⟩
        · rw [hPJ.2.2.1, ile (by omega) (by omega)] at q; omega
        · have e := hov ho
          rw [show h + (pHc p - h) = pHc p by omega] at e
          exact H J (by rw [e]; exact kj) sj
        · rw [kj.2.2.2.2.2.1, ho] at q; exact absurd q (by decide)
      · have ho' : kO kh = false := by simpa using ho
        have km : pHn p h = v → kK kh h = false := fun e => by rw [i3 h (Or.inr (Nat.le_refl _))]; exact hm h hh e
        refine rX0_serveStop_2 ⟨fun q => ?_, fun _ => ⟨fun q => ?_, fun _ => sX_dem hp hok hb hxJ hh ⟨ci (by omega) (by decide), ?_⟩⟩⟩
        · rw [hPJ.2.2.1, ile (by omega) (by omega)] at q; omega
        · rw [kj.2.2.2.2.2.1, ho'] at q; exact absurd rfl q
        · rw [cl (by omega), (hPJ.2.2.2.2.2.2.2.2 h hh).1, ieq (by omega) (by omega)]
          refine ⟨fun q => rX0_serveStop_79 ?_, fun q => ⟨fun r => ?_, fun r => rX0_serveStop_79 ?_⟩⟩
          · rw [nI_s]
            exact nx J (by unfold hstep; rw [if_neg ho, if_neg (fun z => q z.1)]; exact kj) Same.rf
          · have r0 : dem x h ≠ 0 := fun z => r (by rw [z]; rfl)
            have hc : pHn p h = v ∧ dem x h ≠ 0 := ⟨q, r0⟩
            rw [kj.2.2.1, ile (by omega) (by have := i1.2.2.1; have := hp.2.2.2.2.2.1; omega)]
            refine ⟨fun z => rX0_serveStop_73 ?_, fun z => ?_⟩
            · have e : hldn p x v kh h = kh := by unfold hldn; rw [if_neg (by omega)]
              refine sX_serve hp hok hPJ hxJ kj i1 (by omega) hh z (km q) (fun J1 g1 s1 => rX0_serveStop_79 ?_)
              rw [nI_s]
              refine nx J1 ?_ s1
              unfold hstep
              rw [if_neg ho, if_pos hc, e, if_neg ho]
              exact g1
            · have e : hldn p x v kh h = rel p x kh v := by unfold hldn; rw [if_pos (by omega)]
              refine sX_reload hp hok hPJ hxJ kj i1 (by omega) (by omega) hv (fun J1 g1 s1 => ?_)
              rw [bI_eq]
              have ov := rel_ov (p := p) (x := x) (v := v) ho'
              cases hr : relB p x kh v with
              | true =>
                refine ⟨fun _ => rX0_serveStop_73 ?_, fun z => absurd z (by decide)⟩
                have e2 : rel p x kh v = relK p x kh v := by unfold rel; rw [if_pos hr]
                rw [hr] at ov
                have ov' : kO (hldn p x v kh h) = false := by rw [e]; exact ov
                have hf := (hldn_full hp hok hh (km q) ho' ov').1
                rw [e, e2] at hf
                have ok2 := relK_ok hp hok i1 (by omega) (by omega) hv
                refine sX_serve hp hok (PX_sam hPJ s1 (by simp)) (LX_sam hxJ s1 (by simp)) g1 ok2 (by omega) hh hf (by rw [(relK_mk v).1]; exact km q) (fun J2 g2 s2 => rX0_serveStop_79 ?_)
                rw [nI_s]
                refine nx J2 ?_ (s1.tr s2)
                unfold hstep
                rw [if_neg ho, if_pos hc, if_neg (by rw [ov']; decide), e, e2]
                exact g2
              | false =>
                refine ⟨fun z => absurd rfl z, fun _ J2 e5 => rX0_serveStop_79 ?_⟩
                rw [nI_s]
                have e2 : rel p x kh v = ovr (relK p x kh v) := by unfold rel; rw [if_neg (by rw [hr]; decide)]
                rw [hr] at ov
                refine nx J2 ?_ (s1.tr (by rw [e5]; exact Same.rf.u2 (by simp)))
                unfold hstep
                rw [if_neg ho, if_pos hc, if_pos (by rw [e]; exact ov), e, e2]
                obtain ⟨a1, a2, a3, a4, a5, a6, a7, a8, a9⟩ := g1
                subst e5
                refine ⟨?_, ?_, ?_, ?_, ?_, ?_, ?_, ?_, ?_⟩
                · simp [up2_ap]; exact a1
                · simp [up2_ap]; exact a2
                · simp [up2_ap]; exact a3
                · simp [up2_ap]; exact a4
                · simp [up2_ap]; exact a5
                · simp [up2_ap, ovr, bI]
                · simp [up2_ap]; exact a7
                · simp [up2_ap]; exact a8
                · intro i hi
                  have := a9 i hi
                  simp [up2_ap]; exact this
          · have r0 : dem x h = 0 := by rw [nI_zero, ieq (by omega) (by decide)] at r; exact r
            rw [nI_s]
            exact nx J (by unfold hstep; rw [if_neg ho, if_neg (fun z => z.2 r0)]; exact kj) Same.rf
  exact rX0_serveStop (go (pHc p) 0 I (by omega) hk Same.rf)
/-- the log of a round -/
def TX (p : Pl) (x : Ld) (r : List Nat) (I : MI) : Prop := I 57 0 = fin p x (trav p x r) ∧ I 57 1 = nI (kV (trav p x r)).length ∧ I 57 2 = nI (kR (trav p x r)) ∧ VL 58 59 60 (kV (trav p x r)) I
theorem sX_travel {r : List Nat} {Q : MI → Prop} (hp : PlOk p) (hok : LdOk p b x) (hb : b ≤ 100000) (hP : PX 24 p I) (hx : LX 30 p x I) (hr : RtX 48 r I) (hl : r.length ≤ 10) (hv : ∀ v, v ∈ r → v < pNc p) (hd : r.Nodup)
    (H : ∀ I1, TX p x r I1 → Same cX5 I I1 → Q I1) : Wv mX0_travel [.ref 56, .ref 48] I Q := by
  have h2 := hp.1
  have hnc := hp.2.1
  have hcap := hp.2.2.2.2.2.1
  have hst := hp.2.2.2.2.2.2.1
  have hI : INF = 1000000000 := rfl
  have last : ∀ (i : Int32) (J : MI) (t : Int32), KX p x (trav p x r) J ∨ KX p x (drive p x (trav p x r) 0) J → t = fin p x (trav p x r) → Same cX5 I J → LX0_travel_158 i t J Q := by
    intro i J t hk ht sj
    refine rX0_travel_158 (fun J1 e1 => H J1 ?_ (by rw [e1]; exact sj.u2 (by simp)))
    subst e1
    rcases hk with hk | hk
    · obtain ⟨a1, a2, a3, a4, a5, a6, a7, a8, a9⟩ := hk
      refine ⟨?_, ?_, ?_, ?_⟩
      · simp [up2_ap]; exact ht
      · simp [up2_ap]; exact a7
      · simp [up2_ap]; exact a8
      · intro i hi; have := a9 i hi; simp [up2_ap]; exact this
    · obtain ⟨a1, a2, a3, a4, a5, a6, a7, a8, a9⟩ := hk
      refine ⟨?_, ?_, ?_, ?_⟩
      · simp [up2_ap]; exact ht
      · simp [up2_ap]; exact a7
      · simp [up2_ap]; exact a8
      · intro i hi; have := a9 i hi; simp [up2_ap]; exact this
  have fin125 : ∀ (i : Int32) (J : MI) (j : Nat), KX p x (trav p x r) J → KOk p j (trav p x r) → j ≤ 200000000 → Same cX5 I J → LX0_travel_125 i J Q := by
    intro i J j kj ko hj sj
    have hN := ko.1
    have hM := ko.2.1
    refine rX0_travel_125 ⟨fun q => rX0_travel_138 ?_, fun q => ?_⟩
    · rw [kj.2.2.2.2.2.1, bI_eq] at q
      have q' : kO (trav p x r) = true := by simpa using q
      rw [kj.1, kj.2.1, nI_zero, ieq (by omega) (by decide)]
      refine ⟨fun z => last i J _ (Or.inl kj) ?_ sj, fun z => last i J _ (Or.inl kj) ?_ sj⟩
      · unfold fin; rw [if_pos q', if_neg z]
      · unfold fin; rw [if_pos q', if_pos z]
    · rw [kj.2.2.2.2.2.1, bI_eq] at q
      refine sX_drive (v := 0) hp hok (PX_sam hP sj (by simp)) (LX_sam hx sj (by simp)) kj hN (by omega) (by omega) (fun z J1 g1 s1 => rX0_travel_138 ?_) (fun z J1 g1 s1 => rX0_travel_138 ?_)
      · have hne : kN (trav p x r) ≠ 0 := by
          intro e
          apply z
          rw [e, ea_self (nt_ok hp hok) (by omega)]
          omega
        rw [g1.1, nI_zero, ieq (by omega) (by decide)]
        refine ⟨fun _ => last i J1 _ (Or.inl g1) ?_ (sj.tr s1), fun z2 => absurd z2 hne⟩
        unfold fin; rw [if_neg (by rw [q]; decide), if_neg z]
      · rw [g1.1, g1.2.1]
        refine ⟨fun z2 => absurd rfl z2, fun _ => last i J1 _ (Or.inr g1) ?_ (sj.tr s1)⟩
        unfold fin; rw [if_neg (by rw [q]; decide), if_pos z]
        rfl
  have go : ∀ (rest pre : List Nat) (J : MI) (k : Ct) (j : Nat), r = pre ++ rest → KX p x k J → KOk p j k → 1440 ≤ j → j + 25000 * rest.length ≤ 100000000 → (∀ i, i < pHc p → pHn p i ∈ rest → kK k i = false) → Same cX5 I J → rloop p x k rest = trav p x r → LX0_travel_64 (nI pre.length) J Q := by
    intro rest
    induction rest with
    | nil =>
      intro pre J k j hr0 kj ko h1 hj hm sj ht
      have hrJ : J 48 = I 48 := sj 48 (by simp)
      have ht' : k = trav p x r := ht
      rw [ht'] at kj ko
      have hf := fun i => fin125 i J j kj ko (by simp at hj; omega) sj
      refine rX0_travel_64 ⟨fun _ => hf _, fun q => absurd ?_ q⟩
      rw [hrJ, hr.1, hr0]
      simp
    | cons v rest ih =>
      intro pre J k j hr0 kj ko h1 hj hm sj ht
      have hrJ : J 48 = I 48 := sj 48 (by simp)
      have hrJ2 : J 49 = I 49 := sj 49 (by simp)
      have hlen : r.length = pre.length + (rest.length + 1) := by rw [hr0]; simp
      simp only [List.length_cons] at hj
      rw [Nat.mul_add, Nat.mul_one] at hj
      have hj1 : 1440 ≤ j + 25000 := Nat.le_trans h1 (Nat.le_add_right _ _)
      have hj2 : j + 25000 + 25000 * rest.length ≤ 100000000 := by omega
      have hj3 : j ≤ 99975000 := by omega
      clear hj
      have hPJ := PX_sam hP sj (by simp)
      have hxJ := LX_sam hx sj (by simp)
      have hvv : v < pNc p := hv v (by rw [hr0]; simp)
      have hget : J 49 (nI pre.length).toNatClampNeg = nI v := by
        rw [cl (by omega), hrJ2, hr.2 pre.length (by omega), hr0]
        simp [List.getD_eq_getElem?_getD]
      refine rX0_travel_64 ⟨fun q => ?_, fun _ => ⟨fun q => ?_, fun q => ⟨ci (by omega) (by decide), ?_⟩⟩⟩
      · rw [hrJ, hr.1, ile (by omega) (by omega)] at q; omega
      · rw [kj.2.2.2.2.2.1, bI_eq] at q
        have q' : kO k = true := by simpa using q
        rw [rloop_over q'] at ht
        rw [ht] at kj ko
        exact fin125 _ J j kj ko (by omega) sj
      · rw [kj.2.2.2.2.2.1, bI_eq] at q
        rw [hget]
        have hnd : v ∉ rest := by
          have := hd
          rw [hr0, List.nodup_append] at this
          exact (List.nodup_cons.mp this.2.1).1
        have hmv : ∀ i, i < pHc p → pHn p i = v → kK k i = false := fun i hi e => hm i hi (by rw [e]; simp)
        have so := sstep_ok hp hok ko h1 (by omega) hvv hmv
        have nx : ∀ J1, KX p x (sstep p x k v) J1 → Same cX5 J J1 → LX0_travel_64 (nI (pre.length + 1)) J1 Q := by
          intro J1 g1 s1
          have := ih (pre ++ [v]) J1 (sstep p x k v) (j + 25000) (by rw [hr0]; simp) g1 so.1 hj1 hj2 (fun i hi e => by
            rw [so.2 i (fun z => hnd (by rw [← z]; exact e))]
            exact hm i hi (by simp [e])) (sj.tr s1) ht
          rw [show (pre ++ [v]).length = pre.length + 1 by simp] at this
          exact this
        have hM := ko.2.1
        refine sX_drive hp hok hPJ hxJ kj ko.1 (by omega) hvv (fun z J1 g1 s1 => ⟨fun _ => ?_, fun w => absurd rfl w⟩) (fun z J1 g1 s1 => ⟨fun w => absurd w (by decide), fun _ => ?_⟩)
        · refine sX_demAt hp hok hb (PX_sam hPJ s1 (by simp)) (LX_sam hxJ s1 (by simp)) (by omega) (fun J2 e2 => rX0_travel_119 ?_)
          rw [nI_s]
          refine nx J2 ?_ (s1.tr (by rw [e2]; exact Same.rf.u2 (by simp)))
          have es : sstep p x k v = lvo p k v := by unfold sstep; rw [if_neg (by rw [q]; decide), if_neg z]
          rw [es]
          obtain ⟨a1, a2, a3, a4, a5, a6, a7, a8, a9⟩ := g1
          subst e2
          refine ⟨?_, ?_, ?_, ?_, ?_, ?_, ?_, ?_, ?_⟩
          · simp [up2_ap]; exact a1
          · simp [up2_ap]; exact a2
          · simp [up2_ap]; exact a3
          · simp [up2_ap]; exact a4
          · simp [up2_ap]
            rw [a5]
            have ul := unm_lvo (f := kK k) (g := fun i => decide (pHn p i = v)) (d := dem x) (pHc p) (fun i hi e => hmv i hi (by simpa using e))
            simp only [decide_eq_true_eq] at ul
            unfold unm at *
            show _ = nI (sumTo (fun h => if (kK k h || decide (pHn p h = v)) = true then 0 else dem x h) (pHc p))
            rw [← ul, pk_sub (by omega)]
            congr 1
            omega
          · simp [up2_ap]; exact a6
          · simp [up2_ap]; exact a7
          · simp [up2_ap]; exact a8
          · intro i hi; have := a9 i hi; simp [up2_ap]; exact this
        · have kd := drive_ok hp hok ko h1 (by omega) hvv z
          refine sX_stop hp hok hb (PX_sam hPJ s1 (by simp)) (LX_sam hxJ s1 (by simp)) g1 kd (by omega) (by omega) hvv rfl hmv (fun J2 g2 s2 => rX0_travel_119 ?_)
          rw [nI_s]
          refine nx J2 ?_ (s1.tr s2)
          have es : sstep p x k v = hloop p x v (drive p x k v) (pHc p) := by unfold sstep; rw [if_neg (by rw [q]; decide), if_pos z]
          rw [es]
          exact g2
  refine rX0_travel (rX3_clear (fun I1 e1 I2 e2 I3 e3 J1 d1 J2 d2 => ?_))
  have s2 : Same cX5 I J2 := by
    subst e1; subst e2; subst e3; subst d1; subst d2
    exact ((((Same.rf.u2 (by simp)).u2 (by simp)).u2 (by simp)).u2 (by simp)).u2 (by simp)
  refine sX_sum hp hok hb (PX_sam hP s2 (by simp)) (LX_sam hx s2 (by simp)) (fun J6 d6 x7 d7 J8 d8 J9 d9 J10 d10 => ?_)
  have ht : tot p x ≤ 108 := by
    have := unm_le hp hok (fun _ => false)
    have e : unm p x (fun _ => false) = tot p x := by
      unfold unm tot
      exact sumTo_eq _ (fun i _ => by simp)
    omega
  have g24 : J6 24 = I 24 := by rw [d6, up2_cell _ _ _ (by decide)]; exact s2 24 (by simp)
  have g9 : J6 56 9 = nI (tot p x) := by rw [d6, up2_same]
  have g7 : x7 = nI (min (tot p x) (pCap p)) := by rw [d7, g24, g9, hP.2.2.2.1]; exact minI (by omega) (by omega)
  have gm : J2 56 6 = nI (pSt p) := by
    rw [d2, up2_same, d1]
    rw [up2_cell _ _ _ (by decide), e3, up2_cell _ _ _ (by decide), e2, up2_cell _ _ _ (by decide), e1, up2_cell _ _ _ (by decide)]
    exact hP.2.2.2.2.1
  have hk0 : KX p x (k0 p x) J10 := by
    subst d6; subst d8; subst d9; subst d10
    refine ⟨?_, ?_, ?_, ?_, ?_, ?_, ?_, ?_, ?_⟩
    · simp [up2_ap, k0]; subst d2; subst d1; simp [up2_ap]; rfl
    · simp [up2_ap, k0]; exact gm
    · simp [up2_ap, k0]; exact g7
    · simp [up2_ap, k0]; rfl
    · simp [up2_ap, k0]
      unfold unm tot
      exact congrArg nI (sumTo_eq _ (fun i _ => by simp))
    · simp [up2_ap, k0, bI]
    · simp [up2_ap, k0]; subst d2; subst d1; subst e3; subst e2; simp [up2_ap]; rfl
    · simp [up2_ap, k0]; subst d2; subst d1; subst e3; simp [up2_ap]; rfl
    · intro i hi; exact absurd hi (Nat.not_lt_zero i)
  have s10 : Same cX5 I J10 := by
    subst d6; subst d8; subst d9; subst d10
    exact (((s2.u2 (by simp)).u2 (by simp)).u2 (by simp)).u2 (by simp)
  exact go r [] J10 (k0 p x) 1440 rfl hk0 (k0_ok hp) (Nat.le_refl _) (by omega) (fun _ _ _ => rfl) s10 rfl
end
