/-! the reference's round -/
abbrev cM5 : List Nat := [278, 279, 282, 283, 284, 285]
abbrev kM5 : List Nat := [33, 34, 35, 36, 37, 38, 39, 40]
def KM (p : Pl) (k : Ct) (I : MI) : Prop := I 261 33 = nI (kM k) ∧ I 261 34 = nI (kN k) ∧ I 261 35 = nI (kF k) ∧ I 261 36 = nI (kE k) ∧ I 261 38 = bI (kO k) ∧ I 261 39 = nI (kV k).length ∧ I 261 40 = nI (kR k) ∧ VL 282 283 284 (kV k) I ∧ ∀ h, h < pHc p → (I 285 h = 0 ↔ kK k h = false)
theorem KM_of {p : Pl} {k : Ct} {I I1 : MI} (h : KM p k I) (e : ∀ i, i = 261 ∨ (282 ≤ i ∧ i ≤ 285) → I1 i = I i) : KM p k I1 := by
  unfold KM VL
  rw [e 261 (by omega), e 282 (by omega), e 283 (by omega), e 284 (by omega), e 285 (by omega)]
  exact h
theorem mem2_n (I : MI) (f g : Nat → Int32) {i : Nat} (h1 : i ≠ 278) (h2 : i ≠ 279) : mem2 I f g i = I i := by
  unfold mem2
  rw [upA_ne _ g h2, upA_ne _ f h1]
theorem in17 : vp_in (1 : Int32) 7 := ci (n := 1) (by decide) (by decide)
section
variable {p : Pl} {x : Ld} {b j : Nat} {k : Ct} {I : MI}
theorem sM_still {Q : Int32 → MI → Prop} (hp : PlOk p) (hok : LdOk p b x) (hb : b ≤ 100000) (hP : PM p I) (hx : LM 274 0 p x I) (f : Nat → Bool) (hf : ∀ h, h < pHc p → (I 285 h = 0 ↔ f h = false)) (H : Q (nI (unm p x f)) I) : Wi mX12_stillWanted [.ref 261] I Q := by
  have hhc := hp.2.2.2.1
  have e6 := hP.2.2.2.2.2.2.1
  have go : ∀ (m h : Nat), m + h = pHc p → LX12_stillWanted_4 (nI (sumTo (fun h => if f h then 0 else dem x h) h)) (nI h) I Q := by
    intro m
    induction m with
    | zero =>
      intro h hm
      have : h = pHc p := by omega
      subst this
      exact rX12_stillWanted_4 ⟨in67, fun _ => H, fun q => absurd (by rw [cl6, e6]; exact (ile (by omega) (by omega)).mpr (Nat.le_refl _)) q⟩
    | succ m ih =>
      intro h hm
      have hh : h < pHc p := by omega
      have next := ih (h + 1) (by omega)
      simp only [sumTo] at next
      refine rX12_stillWanted_4 ⟨in67, fun q => ?_, fun _ => ⟨ci (by omega) (by decide), ?_⟩⟩
      · rw [cl6, e6, ile (by omega) (by omega)] at q; omega
      · rw [cl (by omega), hf h hh]
        refine ⟨fun q => rX12_stillWanted_34 ?_, fun q => sM_dem hp hok hb hx hh (rX12_stillWanted_34 ?_)⟩
        · rw [if_pos (by simpa using q)] at next
          rw [nI_s, nI_zero, nI_add]; exact next
        · rw [if_neg (by rw [q]; decide)] at next
          rw [nI_s, nI_add]; exact next
  exact rX12_stillWanted (go (pHc p) 0 (by omega))
theorem sM_reload {v : Nat} {Q : MI → Prop} (hp : PlOk p) (hok : LdOk p b x) (hb : b ≤ 100000) (hP : PM p I) (hx : LM 274 0 p x I) (hk : KM p k I) (ko : KOk p j k) (h1 : 1440 ≤ j) (hj : j ≤ 300000000) (hv : v < pNc p) (hn : kN k = v) (h0 : kO k = false)
    (H : ∀ I1, KM p (rel p x k v) I1 → SamM cM5 kM5 I I1 → Q I1) : Wv mX12_reload [.ref 261, .int (nI v)] I Q := by
  have h2 := hp.1
  have hI : INF = 1000000000 := rfl
  have hcap := hp.2.2.2.2.2.1
  have hM := ko.2.1
  have hle := (ea_is (nt_ok hp hok) (u := kN k) (t := kM k) (by omega)).2.2.2 0 (by show 0 < pNc p; omega)
  refine rX12_reload ?_
  rw [hk.1, ← hn]
  refine sM_arrivalOf (v := 0) (nt_ok hp hok) (NM_PL hP hx) ko.1 (by show 0 < pNc p; omega) (by omega) (fun f g hA => ?_)
  have g1 : KM p k (mem2 I f g) := KM_of hk (fun i hi => mem2_n I f g (by omega) (by omega))
  have s1 : SamM cM5 kM5 I (mem2 I f g) := SamM.rf.m2 (by simp) (by simp)
  generalize mem2 I f g = J1 at g1 s1
  rw [show (1000000000 : Int32) = nI 1000000000 from rfl, ieq (by omega) (by decide)]
  refine ⟨fun q I3 e3 I4 e4 => ⟨in17, ?_⟩, fun q I3 e3 => ?_⟩
  · have q' : ea (nt p x) (kN k) (kM k) 0 < INF := by omega
    have s4 : SamM cM5 kM5 I I4 := by subst e3; subst e4; exact (s1.fk (by simp)).fk (by simp)
    have hP4 := PM_sam hP s4 (by simp)
    have hx4 := LM_sam hx s4 (by decide) (by simp)
    obtain ⟨a1, a2, a3, a4, a5, a6, a7, a8, a9⟩ := g1
    refine sM_still hp hok hb hP4 hx4 (kK k) (fun h hh => ?_) (fun x7 e7 I8 e8 I9 e9 I10 e10 => ?_)
    · have := a9 h hh
      subst e3; subst e4; simp [up2_ap]; exact this
    · have ua := unm_le hp hok (kK k)
      have g7 : x7 = nI (min (unm p x (kK k)) (pCap p)) := by
        rw [e7, show (1 : Int32).toNatClampNeg = 1 from rfl, hP4.2.1, minI (by omega) (by omega), Nat.min_comm]
      have ka := relA_ok hp hok ko h1 (by omega) q'
      have hMa := ka.2.1
      have k10 : KM p (relA p x k) I10 := by
        subst e3; subst e4; subst e8; subst e9; subst e10
        refine ⟨?_, ?_, ?_, ?_, ?_, ?_, ?_, ?_, ?_⟩
        · simp [up2_ap]; exact nI_add _ 10
        · simp [up2_ap, relA]; rfl
        · simp [up2_ap]; exact g7
        · simp [up2_ap, relA]; rfl
        · simp [up2_ap]; exact a5
        · simp [up2_ap]; exact a6
        · simp [up2_ap]; rw [a7]; exact nI_s _
        · intro i hi; have := a8 i hi; simp [up2_ap]; exact this
        · intro h hh; have := a9 h hh; simp [up2_ap]; exact this
      have s10 : SamM cM5 kM5 I I10 := by subst e8; subst e9; subst e10; exact ((s4.fk (by simp)).fk (by simp)).fk (by simp)
      rw [k10.1, hn]
      have hle2 := (ea_is (nt_ok hp hok) (u := 0) (t := kM (relA p x k)) (by omega)).2.2.2 v hv
      refine sM_arrivalOf (u := 0) (nt_ok hp hok) (NM_PL (PM_sam hP s10 (by simp)) (LM_sam hx s10 (by decide) (by simp))) (by show 0 < pNc p; omega) hv (by omega) (fun f g hA2 => ?_)
      have g11 : KM p (relA p x k) (mem2 I10 f g) := KM_of k10 (fun i hi => mem2_n I10 f g (by omega) (by omega))
      have s11 : SamM cM5 kM5 I (mem2 I10 f g) := s10.m2 (by simp) (by simp)
      generalize mem2 I10 f g = J11 at g11 s11
      rw [ieq (by omega) (by decide)]
      obtain ⟨b1, b2, b3, b4, b5, b6, b7, b8, b9⟩ := g11
      refine ⟨fun r I13 e13 I14 e14 => H I14 ?_ ?_, fun r I13 e13 => H I13 ?_ ?_⟩
      · have r' : ea (nt p x) 0 (kM (relA p x k)) v < INF := by omega
        have e1 : relB p x k v = true := by unfold relB; rw [decide_eq_true_eq]; exact ⟨q', r'⟩
        have er : rel p x k v = drive p x (relA p x k) v := by unfold rel; rw [if_pos e1, relB_full e1]
        rw [er]
        subst e13; subst e14
        refine ⟨?_, ?_, ?_, ?_, ?_, ?_, ?_, ?_, ?_⟩
        · simp [up2_ap, drive]; rfl
        · simp [up2_ap, drive]
        · simp [up2_ap]; exact b3
        · simp [up2_ap]; exact b4
        · simp [up2_ap]; exact b5
        · simp [up2_ap]; exact b6
        · simp [up2_ap]; exact b7
        · intro i hi; have := b8 i hi; simp [up2_ap]; exact this
        · intro h hh; have := b9 h hh; simp [up2_ap]; exact this
      · subst e13; subst e14; exact (s11.fk (by simp)).fk (by simp)
      · have r' : ¬ ea (nt p x) 0 (kM (relA p x k)) v < INF := by omega
        have e1 : relB p x k v = false := by unfold relB; rw [decide_eq_false_iff_not]; exact fun z => r' z.2
        have er : rel p x k v = ovr (relA p x k) := by unfold rel relK; rw [if_neg (by rw [e1]; decide), if_pos q', if_neg r']
        rw [er]
        subst e13
        refine ⟨?_, ?_, ?_, ?_, ?_, ?_, ?_, ?_, ?_⟩
        · simp [up2_ap]; exact b1
        · simp [up2_ap]; exact b2
        · simp [up2_ap]; exact b3
        · simp [up2_ap]; exact b4
        · simp [up2_ap, ovr, bI]
        · simp [up2_ap]; exact b6
        · simp [up2_ap]; exact b7
        · intro i hi; have := b8 i hi; simp [up2_ap]; exact this
        · intro h hh; have := b9 h hh; simp [up2_ap]; exact this
      · subst e13; exact s11.fk (by simp)
  · have q' : ¬ ea (nt p x) (kN k) (kM k) 0 < INF := by omega
    have e1 : relB p x k v = false := by unfold relB; rw [decide_eq_false_iff_not]; exact fun z => q' z.1
    have er : rel p x k v = ovr k := by unfold rel relK; rw [if_neg (by rw [e1]; decide), if_neg q']
    refine H I3 ?_ (by subst e3; exact s1.fk (by simp))
    rw [er]
    obtain ⟨b1, b2, b3, b4, b5, b6, b7, b8, b9⟩ := g1
    subst e3
    refine ⟨?_, ?_, ?_, ?_, ?_, ?_, ?_, ?_, ?_⟩
    · simp [up2_ap]; exact b1
    · simp [up2_ap]; exact b2
    · simp [up2_ap]; exact b3
    · simp [up2_ap]; exact b4
    · simp [up2_ap, ovr, bI]
    · simp [up2_ap]; exact b6
    · simp [up2_ap]; exact b7
    · intro i hi; have := b8 i hi; simp [up2_ap]; exact this
    · intro h hh; have := b9 h hh; simp [up2_ap]; exact this
theorem sM_visit {h : Nat} {Q : MI → Prop} (hp : PlOk p) (hok : LdOk p b x) (hb : b ≤ 100000) (hP : PM p I) (hx : LM 274 0 p x I) (hk : KM p k I) (ko : KOk p j k) (hj : j ≤ 300000000) (hh : h < pHc p) (hd : dem x h ≤ kF k) (hm : kK k h = false)
    (H : ∀ I1, KM p (srv p x k h) I1 → SamM cM5 kM5 I I1 → Q I1) : Wv mX12_visit [.ref 261, .int (nI h)] I Q := by
  have hhc := hp.2.2.2.1
  have hcap := hp.2.2.2.2.2.1
  obtain ⟨o1, o2, o3, o4, o5, o6⟩ := ko
  have hvl : (kV k).length < 12 := by
    have := cnt_lt (p := kK k) (q := fun _ => true) (w := h) (n := pHc p) (fun _ _ _ => rfl) hh hm rfl
    have := cnt_le (fun _ => true) (pHc p)
    omega
  obtain ⟨a1, a2, a3, a4, a5, a6, a7, a8, a9⟩ := hk
  have e145 : (145 : Int32) + nI h = nI (145 + h) := nI_add 145 h
  have e85 : (85 : Int32) + nI h = nI (85 + h) := nI_add 85 h
  refine rX12_visit ⟨ci (by omega) (by decide), fun I1 e1 => ?_⟩
  have s1 : SamM cM5 kM5 I I1 := by subst e1; exact SamM.rf.fk (by simp)
  refine sM_dem hp hok hb (LM_sam hx s1 (by decide) (by simp)) hh (fun I4 e4 => ?_)
  have s4 : SamM cM5 kM5 I I4 := by subst e4; exact s1.fk (by simp)
  have hP4 := PM_sam hP s4 (by simp)
  have hx4 := LM_sam hx s4 (by decide) (by simp)
  have f33 : I4 261 33 = nI (kM k + vmin p h) := by
    subst e4; subst e1; simp [up2_ap]
    rw [a1, cl (by omega), (hP.2.2.2.2.2.2.2.2 h hh).2, show (2 : Int32) * nI (pHw p h) = nI (2 * pHw p h) from pk_mul 2 _, nI_s]
    exact nI_add _ _
  have f35 : I4 261 35 = nI (kF k - dem x h) := by
    subst e4; subst e1; simp [up2_ap]; rw [a3]; exact pk_sub hd
  have f36 : I4 261 36 = nI (kE k) := by subst e4; subst e1; simp [up2_ap]; exact a4
  have f39 : I4 261 39 = nI (kV k).length := by subst e4; subst e1; simp [up2_ap]; exact a6
  have hb1 : I4 274 (145 + h) = lBo x h := by
    have := (hx4.2.2.2.1 h hh).2.1
    rwa [Nat.zero_add] at this
  have hb2 : I4 274 (85 + h) = lKp x h := by
    have := (hx4.2.2.2.1 h hh).1
    rwa [Nat.zero_add] at this
  rw [e145, e85, cl (by omega), cl (by omega), hb1, hb2]
  refine ⟨ci (by omega) (by decide), ci (by omega) (by decide), fun x5 e5 => ⟨in17, fun x6 e6 x7 e7 I8 e8 => ⟨ci (by omega) (by decide), fun I9 e9 => ?_⟩⟩⟩
  have hc := clampL (lBo x h - lKp x h)
  have hsp := hc.2.2
  have g5 : x5 = nI (spr x h) := by rw [e5]; exact hc.2.1
  have g6 : x6 = nI (pCap p - (kF k - dem x h) - kE k) := by
    rw [e6, show (1 : Int32).toNatClampNeg = 1 from rfl, hP4.2.1, f35, f36, pk_sub (by omega), pk_sub (by omega)]
    have := (clampL (nI (pCap p - (kF k - dem x h) - kE k))).2.1
    rw [cl (by omega)] at this
    exact this
  have g7 : x7 = nI (tkn p x k h) := by
    rw [e7, g5, g6]
    exact minI (by omega) hsp
  have q9 : I9 261 39 = nI (kV k).length := by subst e8; subst e9; simp [up2_ap]; exact f39
  rw [q9, cl (by omega)]
  refine ⟨ci (by omega) (by decide), fun I10 e10 => ?_⟩
  have q10 : I10 261 39 = nI (kV k).length := by subst e10; simp [up2_ap]; exact q9
  have m10 : I10 261 33 = nI (kM k + vmin p h) := by subst e8; subst e9; subst e10; simp [up2_ap]; exact f33
  rw [q10, cl (by omega), m10]
  refine ⟨ci (by omega) (by decide), fun I11 e11 => ?_⟩
  have q11 : I11 261 39 = nI (kV k).length := by subst e11; simp [up2_ap]; exact q10
  rw [q11, cl (by omega), g7]
  refine ⟨ci (by omega) (by decide), fun I12 e12 I13 e13 => H I13 ?_ ?_⟩
  · have q12 : I12 261 39 = nI (kV k).length := by subst e12; simp [up2_ap]; exact q11
    rw [q12] at e13
    refine ⟨?_, ?_, ?_, ?_, ?_, ?_, ?_, ?_, ?_⟩
    · subst e13; subst e12; subst e11; simp [up2_ap]; exact m10
    · subst e13; subst e12; subst e11; subst e10; subst e9; subst e8; subst e4; subst e1; simp [up2_ap]; exact a2
    · subst e13; subst e12; subst e11; subst e10; subst e9; subst e8; simp [up2_ap]; exact f35
    · subst e13; subst e12; subst e11; subst e10; subst e9; subst e8; simp [up2_ap]; rw [f36, g7]; exact nI_add _ _
    · subst e13; subst e12; subst e11; subst e10; subst e9; subst e8; subst e4; subst e1; simp [up2_ap]; exact a5
    · subst e13; rw [up2_same]; show _ = nI (kV k ++ [_]).length; rw [List.length_append]; exact nI_s _
    · subst e13; subst e12; subst e11; subst e10; subst e9; subst e8; subst e4; subst e1; simp [up2_ap]; exact a7
    · have a8' : VL 282 283 284 (kV k) I9 := by
        intro i hi
        have := a8 i hi
        subst e9; subst e8; subst e4; subst e1; simp [up2_ap]; exact this
      refine VL_add a8' (fun i => ?_) (fun i => ?_) (fun i => ?_)
      · subst e13; subst e12; subst e11; subst e10; simp [up2_ap]
      · subst e13; subst e12; subst e11; subst e10; simp [up2_ap]
      · subst e13; subst e12; subst e11; subst e10; simp [up2_ap]
    · intro i hi
      have := a9 i hi
      show _ ↔ mks (kK k) h i = false
      have e285 : I13 285 i = if i = h then 1 else I 285 i := by
        subst e13; subst e12; subst e11; subst e10; subst e9; subst e8; subst e4; subst e1; simp [up2_ap, cl (show h < 2147483648 by omega)]
      rw [e285]
      by_cases e : i = h
      · subst e; simp [mks]
      · rw [if_neg e, this]; simp [mks, e]
  · subst e13; subst e12; subst e11; subst e10; subst e9; subst e8
    exact ((((((s4.fk (by simp)).u2 (by simp) (by decide)).u2 (by simp) (by decide)).u2 (by simp) (by decide)).u2 (by simp) (by decide)).fk (by simp))
theorem sM_stop {v : Nat} {Q : MI → Prop} (hp : PlOk p) (hok : LdOk p b x) (hb : b ≤ 100000) (hP : PM p I) (hx : LM 274 0 p x I) (hk : KM p k I) (ko : KOk p j k) (h1 : 1440 ≤ j) (hj : j ≤ 200000000) (hv : v < pNc p) (hn : kN k = v) (hm : ∀ i, i < pHc p → pHn p i = v → kK k i = false)
    (H : ∀ I1, KM p (hloop p x v k (pHc p)) I1 → SamM cM5 kM5 I I1 → Q I1) : Wv mX12_visitStop [.ref 261, .int (nI v)] I Q := by
  have hhc := hp.2.2.2.1
  have hnc := hp.2.1
  have go : ∀ (m h : Nat) (J : MI), m + h = pHc p → KM p (hloop p x v k h) J → SamM cM5 kM5 I J → LX12_visitStop_2 (nI v) (nI h) J Q := by
    intro m
    induction m with
    | zero =>
      intro h J hmh kj sj
      have : h = pHc p := by omega
      subst this
      refine rX12_visitStop_2 ⟨in67, fun _ => H J kj sj, fun q => absurd ?_ q⟩
      rw [cl6, (PM_sam hP sj (by simp)).2.2.2.2.2.2.1]; exact (ile (by omega) (by omega)).mpr (Nat.le_refl _)
    | succ m ih =>
      intro h J hmh kj sj
      have hh : h < pHc p := by omega
      have hPJ := PM_sam hP sj (by simp)
      have hxJ := LM_sam hx sj (by decide) (by simp)
      obtain ⟨i1, i2, i3⟩ := hloop_HI hp hok ko h1 hj hv hn hm h (by omega)
      have nx : ∀ J1, KM p (hstep p x v (hloop p x v k h) h) J1 → SamM cM5 kM5 J J1 → LX12_visitStop_2 (nI v) (nI (h + 1)) J1 Q := fun J1 g1 s1 => ih (h + 1) J1 (by omega) g1 (sj.tr s1)
      clear ih
      have hov := fun ho => hloop_over (p := p) (x := x) (v := v) (k := k) (h := h) ho (pHc p - h)
      generalize hloop p x v k h = kh at *
      have hd := dem_le hok hh
      have hpn := hp.2.2.2.2.2.2.2.2 h hh
      by_cases ho : kO kh = true
      · refine rX12_visitStop_2 ⟨in67, fun q => ?_, fun _ => ⟨fun _ => ?_, fun q => ?_⟩⟩
        · rw [cl6, hPJ.2.2.2.2.2.2.1, ile (by omega) (by omega)] at q; omega
        · have e := hov ho
          rw [show h + (pHc p - h) = pHc p by omega] at e
          exact H J (by rw [e]; exact kj) sj
        · rw [kj.2.2.2.2.1, ho] at q; exact absurd q (by decide)
      · have ho' : kO kh = false := by simpa using ho
        have km : pHn p h = v → kK kh h = false := fun e => by rw [i3 h (Or.inr (Nat.le_refl _))]; exact hm h hh e
        refine rX12_visitStop_2 ⟨in67, fun q => ?_, fun _ => ⟨fun q => ?_, fun _ => ⟨ci (by omega) (by decide), ?_⟩⟩⟩
        · rw [cl6, hPJ.2.2.2.2.2.2.1, ile (by omega) (by omega)] at q; omega
        · rw [kj.2.2.2.2.1, ho'] at q; exact absurd rfl q
        · rw [cl (by omega), (hPJ.2.2.2.2.2.2.2.2 h hh).1, ieq (by omega) (by omega)]
          refine ⟨fun q => rX12_visitStop_70 ?_, fun q => sM_dem hp hok hb hxJ hh ⟨fun r => sM_dem hp hok hb hxJ hh ?_, fun r => rX12_visitStop_70 ?_⟩⟩
          · rw [nI_s]
            exact nx J (by unfold hstep; rw [if_neg ho, if_neg (fun z => q z.1)]; exact kj) SamM.rf
          · have r0 : dem x h ≠ 0 := fun z => r (by rw [z]; rfl)
            have hc : pHn p h = v ∧ dem x h ≠ 0 := ⟨q, r0⟩
            rw [kj.2.2.1, ile (by omega) (by have := i1.2.2.1; have := hp.2.2.2.2.2.1; omega)]
            have fin58 : ∀ J1, KM p (hldn p x v kh h) J1 → SamM cM5 kM5 J J1 → LX12_visitStop_58 (nI v) (nI h) J1 Q := by
              intro J1 g1 s1
              refine rX12_visitStop_58 ⟨fun z => rX12_visitStop_70 ?_, fun z => ?_⟩
              · rw [g1.2.2.2.2.1, bI_eq] at z
                rw [nI_s]
                refine nx J1 ?_ s1
                unfold hstep
                rw [if_neg ho, if_pos hc, if_pos (by simpa using z)]
                exact g1
              · rw [g1.2.2.2.2.1, bI_eq] at z
                have hf := (hldn_full hp hok hh (km q) ho' z).1
                have ok2 := hldn_ok (h := h) hp hok i1 (by omega) (by omega) hv
                refine sM_visit hp hok hb (PM_sam hPJ s1 (by simp)) (LM_sam hxJ s1 (by decide) (by simp)) g1 ok2 (by omega) hh hf (by rw [hldn_mk]; exact km q) (fun J2 g2 s2 => rX12_visitStop_70 ?_)
                rw [nI_s]
                refine nx J2 ?_ (s1.tr s2)
                unfold hstep
                rw [if_neg ho, if_pos hc, if_neg (by rw [z]; decide)]
                exact g2
            refine ⟨fun z => ?_, fun z => ?_⟩
            · have e : hldn p x v kh h = kh := by unfold hldn; rw [if_neg (by omega)]
              exact fin58 J (by rw [e]; exact kj) SamM.rf
            · have e : hldn p x v kh h = rel p x kh v := by unfold hldn; rw [if_pos (by omega)]
              exact sM_reload hp hok hb hPJ hxJ kj i1 (by omega) (by omega) hv (i2 ho') ho' (fun J1 g1 s1 => fin58 J1 (by rw [e]; exact g1) s1)
          · have r0 : dem x h = 0 := by rw [nI_zero, ieq (by omega) (by decide)] at r; exact r
            rw [nI_s]
            exact nx J (by unfold hstep; rw [if_neg ho, if_neg (fun z => z.2 r0)]; exact kj) SamM.rf
  exact rX12_visitStop (go (pHc p) 0 I (by omega) hk SamM.rf)
theorem sM_leave {v : Nat} {Q : MI → Prop} (hp : PlOk p) (hP : PM p I) (hk : KM p k I) (hv : v < pNc p)
    (H : ∀ I1, KM p (lvo p k v) I1 → SamM cM5 kM5 I I1 → Q I1) : Wv mX12_leaveOut [.ref 261, .int (nI v)] I Q := by
  have hhc := hp.2.2.2.1
  have hnc := hp.2.1
  have go : ∀ (m h : Nat) (J : MI), m + h = pHc p → (∀ i, i ≠ 285 → J i = I i) → (∀ i, i < pHc p → J 285 i = if i < h ∧ pHn p i = v then 2 else I 285 i) → SamM cM5 kM5 I J → LX12_leaveOut_2 (nI v) (nI h) J Q := by
    intro m
    induction m with
    | zero =>
      intro h J hmh hc hj sj
      have : h = pHc p := by omega
      subst this
      refine rX12_leaveOut_2 ⟨in67, fun _ => H J ?_ sj, fun q => absurd ?_ q⟩
      · obtain ⟨a1, a2, a3, a4, a5, a6, a7, a8, a9⟩ := hk
        unfold KM VL
        rw [hc 261 (by decide), hc 282 (by decide), hc 283 (by decide), hc 284 (by decide)]
        refine ⟨a1, a2, a3, a4, a5, a6, a7, a8, fun i hi => ?_⟩
        show _ ↔ (kK k i || decide (pHn p i = v)) = false
        rw [hj i hi]
        by_cases e : pHn p i = v
        · rw [if_pos ⟨hi, e⟩]; simp [e]
        · rw [if_neg (fun z => e z.2), a9 i hi]; simp [e]
      · rw [cl6, (PM_sam hP sj (by simp)).2.2.2.2.2.2.1]; exact (ile (by omega) (by omega)).mpr (Nat.le_refl _)
    | succ m ih =>
      intro h J hmh hc hj sj
      have hh : h < pHc p := by omega
      have hPJ := PM_sam hP sj (by simp)
      have hpn := hp.2.2.2.2.2.2.2.2 h hh
      refine rX12_leaveOut_2 ⟨in67, fun q => ?_, fun _ => ⟨ci (by omega) (by decide), ?_⟩⟩
      · rw [cl6, hPJ.2.2.2.2.2.2.1, ile (by omega) (by omega)] at q; omega
      · rw [cl (by omega), (hPJ.2.2.2.2.2.2.2.2 h hh).1, ieq (by omega) (by omega)]
        refine ⟨fun q => rX12_leaveOut_30 ?_, fun q => ⟨ci (by omega) (by decide), fun J1 e1 => rX12_leaveOut_30 ?_⟩⟩
        · rw [nI_s]
          refine ih (h + 1) J (by omega) hc (fun i hi => ?_) sj
          rw [hj i hi]
          by_cases e : i = h
          · subst e; rw [if_neg (fun z => q z.2), if_neg (fun z => q z.2)]
          · have : (i < h + 1 ∧ pHn p i = v) ↔ (i < h ∧ pHn p i = v) := ⟨fun z => ⟨by omega, z.2⟩, fun z => ⟨by omega, z.2⟩⟩
            simp only [this]
        · rw [nI_s]
          subst e1
          refine ih (h + 1) _ (by omega) (fun i hi => ?_) (fun i hi => ?_) (sj.u2 (by simp) (by decide))
          · rw [up2_cell _ _ _ hi]; exact hc i hi
          · rw [up2_ap, if_pos rfl]
            by_cases e : i = h
            · subst e; rw [if_pos rfl, if_pos ⟨by omega, q⟩]
            · rw [if_neg e, hj i hi]
              have : (i < h + 1 ∧ pHn p i = v) ↔ (i < h ∧ pHn p i = v) := ⟨fun z => ⟨by omega, z.2⟩, fun z => ⟨by omega, z.2⟩⟩
              simp only [this]
  exact rX12_leaveOut (go (pHc p) 0 I (by omega) (fun _ _ => rfl) (fun i hi => by rw [if_neg (by omega)]) SamM.rf)
/-- the reference's records of a round -/
def TM (p : Pl) (x : Ld) (r : List Nat) (I : MI) : Prop := I 261 37 = fin p x (trav p x r) ∧ I 261 39 = nI (kV (trav p x r)).length ∧ I 261 40 = nI (kR (trav p x r)) ∧ VL 282 283 284 (kV (trav p x r)) I
theorem sM_play {r : List Nat} {Q : MI → Prop} (hp : PlOk p) (hok : LdOk p b x) (hb : b ≤ 100000) (hP : PM p I) (hx : LM 274 0 p x I) (hr : RtM r I) (hl : r.length ≤ 10) (hv : ∀ v, v ∈ r → v < pNc p) (hd : r.Nodup)
    (H : ∀ I1, TM p x r I1 → SamM cM5 kM5 I I1 → Q I1) : Wv mX12_playRound [.ref 261] I Q := by
  have h2 := hp.1
  have hnc := hp.2.1
  have hcap := hp.2.2.2.2.2.1
  have hst := hp.2.2.2.2.2.2.1
  have hI : INF = 1000000000 := rfl
  have f159 : ∀ (i : Int32) (J : MI) (j : Nat), KM p (trav p x r) J → KOk p j (trav p x r) → j ≤ 200000000 → SamM cM5 kM5 I J → LX12_playRound_159 i J Q := by
    intro i J j kj ko hj sj
    have hN := ko.1
    have hM := ko.2.1
    refine rX12_playRound_159 (fun J1 e1 => ?_)
    obtain ⟨a1, a2, a3, a4, a5, a6, a7, a8, a9⟩ := kj
    have s1 : SamM cM5 kM5 I J1 := by subst e1; exact sj.fk (by simp)
    have b38 : J1 261 38 = bI (kO (trav p x r)) := by subst e1; simp [up2_ap]; exact a5
    have b34 : J1 261 34 = nI (kN (trav p x r)) := by subst e1; simp [up2_ap]; exact a2
    have b33 : J1 261 33 = nI (kM (trav p x r)) := by subst e1; simp [up2_ap]; exact a1
    have b39 : J1 261 39 = nI (kV (trav p x r)).length := by subst e1; simp [up2_ap]; exact a6
    have b40 : J1 261 40 = nI (kR (trav p x r)) := by subst e1; simp [up2_ap]; exact a7
    have b37 : J1 261 37 = -2 := by subst e1; simp [up2_ap]
    have bV : VL 282 283 284 (kV (trav p x r)) J1 := by intro i hi; have := a8 i hi; subst e1; simp [up2_ap]; exact this
    rw [b38, b34, b33, bI_eq]
    refine ⟨fun q => ?_, fun q => ?_⟩
    · have hle := (ea_is (nt_ok hp hok) (u := kN (trav p x r)) (t := kM (trav p x r)) (by omega)).2.2.2 0 (by show 0 < pNc p; omega)
      refine sM_arrivalOf (v := 0) (nt_ok hp hok) (NM_PL (PM_sam hP s1 (by simp)) (LM_sam hx s1 (by decide) (by simp))) hN (by show 0 < pNc p; omega) (by omega) (fun f g hA => ?_)
      have s2 : SamM cM5 kM5 I (mem2 J1 f g) := s1.m2 (by simp) (by simp)
      have c261 : mem2 J1 f g 261 = J1 261 := mem2_n J1 f g (by decide) (by decide)
      have cV : VL 282 283 284 (kV (trav p x r)) (mem2 J1 f g) := by
        unfold VL
        rw [mem2_n J1 f g (by decide) (by decide), mem2_n J1 f g (by decide) (by decide), mem2_n J1 f g (by decide) (by decide)]
        exact bV
      generalize mem2 J1 f g = J2 at *
      rw [show (1000000000 : Int32) = nI 1000000000 from rfl, ile (by decide) (by omega)]
      refine ⟨fun z => H J2 ⟨?_, by rw [c261]; exact b39, by rw [c261]; exact b40, cV⟩ s2, fun z J4 e4 => H J4 ⟨?_, ?_, ?_, ?_⟩ (by subst e4; exact s2.fk (by simp))⟩
      · rw [c261, b37]; unfold fin; rw [if_neg (by rw [q]; decide), if_neg (by omega)]
      · subst e4; simp [up2_ap]; unfold fin; rw [if_neg (by rw [q]; decide), if_pos (by omega)]
      · subst e4; simp [up2_ap]; rw [c261]; exact b39
      · subst e4; simp [up2_ap]; rw [c261]; exact b40
      · intro i hi; have := cV i hi; subst e4; simp [up2_ap]; exact this
    · have q' : kO (trav p x r) = true := by simpa using q
      rw [nI_zero, ieq (by omega) (by decide)]
      refine ⟨fun z => H J1 ⟨?_, b39, b40, bV⟩ s1, fun z J2 e2 => H J2 ⟨?_, ?_, ?_, ?_⟩ (by subst e2; exact s1.fk (by simp))⟩
      · rw [b37]; unfold fin; rw [if_pos q', if_neg z]
      · subst e2; simp [up2_ap]; unfold fin; rw [if_pos q', if_pos z]
      · subst e2; simp [up2_ap]; exact b39
      · subst e2; simp [up2_ap]; exact b40
      · intro i hi; have := bV i hi; subst e2; simp [up2_ap]; exact this
  have go : ∀ (rest pre : List Nat) (J : MI) (k : Ct) (j : Nat), r = pre ++ rest → KM p k J → KOk p j k → 1440 ≤ j → j + 25000 * rest.length ≤ 100000000 → (∀ i, i < pHc p → pHn p i ∈ rest → kK k i = false) → SamM cM5 kM5 I J → rloop p x k rest = trav p x r → LX12_playRound_75 (nI pre.length) J Q := by
    intro rest
    induction rest with
    | nil =>
      intro pre J k j hr0 kj ko h1 hj hm sj ht
      have ht' : k = trav p x r := ht
      rw [ht'] at kj ko
      have hf := fun i => f159 i J j kj ko (by simp at hj; omega) sj
      refine rX12_playRound_75 ⟨fun _ => hf _, fun q => absurd ?_ q⟩
      rw [sj.2 30 (by simp), hr.1, hr0]
      simp
    | cons v rest ih =>
      intro pre J k j hr0 kj ko h1 hj hm sj ht
      have hlen : r.length = pre.length + (rest.length + 1) := by rw [hr0]; simp
      simp only [List.length_cons] at hj
      rw [Nat.mul_add, Nat.mul_one] at hj
      have hj1 : 1440 ≤ j + 25000 := Nat.le_trans h1 (Nat.le_add_right _ _)
      have hj2 : j + 25000 + 25000 * rest.length ≤ 100000000 := by omega
      have hj3 : j ≤ 99975000 := by omega
      clear hj
      have hPJ := PM_sam hP sj (by simp)
      have hxJ := LM_sam hx sj (by decide) (by simp)
      have hvv : v < pNc p := hv v (by rw [hr0]; simp)
      have hgetI : I 280 pre.length = nI v := by
        rw [hr.2 pre.length (by omega), hr0]
        simp [List.getD_eq_getElem?_getD]
      have hget : ∀ J1, SamM cM5 kM5 I J1 → J1 280 (nI pre.length).toNatClampNeg = nI v := by
        intro J1 s1
        rw [cl (by omega), s1.1 280 (by decide) (by simp)]; exact hgetI
      refine rX12_playRound_75 ⟨fun q => ?_, fun _ => ⟨fun q => ?_, fun q => ⟨ci (by omega) (by decide), ?_⟩⟩⟩
      · rw [sj.2 30 (by simp), hr.1, ile (by omega) (by omega)] at q; omega
      · rw [kj.2.2.2.2.1, bI_eq] at q
        have q' : kO k = true := by simpa using q
        rw [rloop_over q'] at ht
        rw [ht] at kj ko
        exact f159 _ J j kj ko (by omega) sj
      · rw [kj.2.2.2.2.1, bI_eq] at q
        rw [hget J sj, kj.1, kj.2.1]
        have hnd : v ∉ rest := by
          have := hd
          rw [hr0, List.nodup_append] at this
          exact (List.nodup_cons.mp this.2.1).1
        have hmv : ∀ i, i < pHc p → pHn p i = v → kK k i = false := fun i hi e => hm i hi (by rw [e]; simp)
        have so := sstep_ok hp hok ko h1 (by omega) hvv hmv
        have nx : ∀ J1, KM p (sstep p x k v) J1 → SamM cM5 kM5 J J1 → LX12_playRound_75 (nI (pre.length + 1)) J1 Q := by
          intro J1 g1 s1
          have := ih (pre ++ [v]) J1 (sstep p x k v) (j + 25000) (by rw [hr0]; simp) g1 so.1 hj1 hj2 (fun i hi e => by
            rw [so.2 i (fun z => hnd (by rw [← z]; exact e))]
            exact hm i hi (by simp [e])) (sj.tr s1) ht
          rw [show (pre ++ [v]).length = pre.length + 1 by simp] at this
          exact this
        have hM := ko.2.1
        have hle := (ea_is (nt_ok hp hok) (u := kN k) (t := kM k) (by omega)).2.2.2 v hvv
        refine sM_arrivalOf (nt_ok hp hok) (NM_PL hPJ hxJ) ko.1 hvv (by omega) (fun f g hA => ?_)
        have s1 : SamM cM5 kM5 J (mem2 J f g) := SamM.rf.m2 (by simp) (by simp)
        have g1 : KM p k (mem2 J f g) := KM_of kj (fun i hi => mem2_n J f g (by omega) (by omega))
        generalize mem2 J f g = J1 at s1 g1
        rw [show (1000000000 : Int32) = nI 1000000000 from rfl, ieq (by omega) (by decide), hget J1 (sj.tr s1)]
        refine ⟨fun z => ⟨ci (by omega) (by decide), fun J3 e3 J4 e4 => ⟨ci (by omega) (by decide), ?_⟩⟩, fun z => ⟨ci (by omega) (by decide), ?_⟩⟩
        · have z' : ea (nt p x) (kN k) (kM k) v < INF := by omega
          have s4 : SamM cM5 kM5 J J4 := by subst e3; subst e4; exact (s1.fk (by simp)).fk (by simp)
          rw [hget J4 (sj.tr s4)]
          have kd := drive_ok hp hok ko h1 (by omega) hvv z'
          have g4 : KM p (drive p x k v) J4 := by
            obtain ⟨a1, a2, a3, a4, a5, a6, a7, a8, a9⟩ := g1
            subst e3; subst e4
            refine ⟨?_, ?_, ?_, ?_, ?_, ?_, ?_, ?_, ?_⟩
            · simp [up2_ap, drive]
            · simp [up2_ap, drive]
            · simp [up2_ap]; exact a3
            · simp [up2_ap]; exact a4
            · simp [up2_ap]; exact a5
            · simp [up2_ap]; exact a6
            · simp [up2_ap]; exact a7
            · intro i hi; have := a8 i hi; simp [up2_ap]; exact this
            · intro h hh; have := a9 h hh; simp [up2_ap]; exact this
          refine sM_stop hp hok hb (PM_sam hPJ s4 (by simp)) (LM_sam hxJ s4 (by decide) (by simp)) g4 kd (by omega) (by omega) hvv rfl hmv (fun J5 g5 s5 => rX12_playRound_153 ?_)
          rw [nI_s]
          refine nx J5 ?_ (s4.tr s5)
          have es : sstep p x k v = hloop p x v (drive p x k v) (pHc p) := by unfold sstep; rw [if_neg (by rw [q]; decide), if_pos z']
          rw [es]
          exact g5
        · have z' : ¬ ea (nt p x) (kN k) (kM k) v < INF := by omega
          refine sM_leave hp (PM_sam hPJ s1 (by simp)) g1 hvv (fun J3 g3 s3 => rX12_playRound_153 ?_)
          rw [nI_s]
          refine nx J3 ?_ (s1.tr s3)
          have es : sstep p x k v = lvo p k v := by unfold sstep; rw [if_neg (by rw [q]; decide), if_neg z']
          rw [es]
          exact g3
  have ht : tot p x ≤ 108 := by
    have := unm_le hp hok (fun _ => false)
    have e : unm p x (fun _ => false) = tot p x := by
      unfold unm tot
      exact sumTo_eq _ (fun i _ => by simp)
    omega
  have fill : ∀ (m h : Nat) (J : MI), m + h = 12 → (∀ i, i ≠ 285 → J i = I i ∨ i = 261) → SamM cM5 kM5 I J → (∀ i, i < h → J 285 i = 0) → J 261 33 = nI (pSt p) → J 261 34 = nI 0 → J 261 35 = nI (min (tot p x) (pCap p)) → J 261 36 = nI 0 → J 261 38 = 0 → J 261 39 = nI 0 → J 261 40 = nI 0 → LX12_playRound_54 (nI h) J Q := by
    intro m
    induction m with
    | zero =>
      intro h J hm hc sj h285 b1 b2 b3 b4 b5 b6 b7
      have : h = 12 := by omega
      subst this
      refine rX12_playRound_54 ⟨fun _ => ?_, fun q => absurd (by rw [show (12 : Int32) = nI 12 from rfl, ile (by decide) (by decide)]; omega) q⟩
      refine go r [] J (k0 p x) 1440 rfl ?_ (k0_ok hp) (Nat.le_refl _) (by omega) (fun _ _ _ => rfl) sj rfl
      refine ⟨b1, b2, b3, b4, b5, b6, b7, fun i hi => absurd hi (Nat.not_lt_zero i), fun i hi => ?_⟩
      rw [h285 i (by have := hp.2.2.2.1; omega)]
      simp [k0]
    | succ m ih =>
      intro h J hm hc sj h285 b1 b2 b3 b4 b5 b6 b7
      refine rX12_playRound_54 ⟨fun q => ?_, fun _ => ⟨ci (by omega) (by decide), fun J1 e1 => ?_⟩⟩
      · rw [show (12 : Int32) = nI 12 from rfl, ile (by decide) (by omega)] at q; omega
      · rw [cl (by omega)] at e1
        rw [nI_s]
        have e261 : J1 261 = J 261 := by rw [e1, up2_cell _ _ _ (by decide)]
        refine ih (h + 1) J1 (by omega) (fun i hi => ?_) (by rw [e1]; exact sj.u2 (by simp) (by decide)) (fun i hi => ?_) (by rw [e261]; exact b1) (by rw [e261]; exact b2) (by rw [e261]; exact b3) (by rw [e261]; exact b4) (by rw [e261]; exact b5) (by rw [e261]; exact b6) (by rw [e261]; exact b7)
        · rw [e1, up2_cell _ _ _ hi]; exact hc i hi
        · rw [e1, up2_ap, if_pos rfl]
          by_cases e : i = h
          · rw [if_pos e]
          · rw [if_neg e]; exact h285 i (by omega)
  refine rX12_playRound ⟨in27, fun I1 e1 I2 e2 => ?_⟩
  have s2 : SamM cM5 kM5 I I2 := by subst e1; subst e2; exact (SamM.rf.fk (by simp)).fk (by simp)
  have hP2 := PM_sam hP s2 (by simp)
  refine sM_tot hp hok hb hP2 (LM_sam hx s2 (by decide) (by simp)) ⟨in17, fun x5 e5 I6 e6 I7 e7 I8 e8 I9 e9 I10 e10 => ?_⟩
  rw [show (1 : Int32).toNatClampNeg = 1 from rfl, hP2.2.1, minI (by omega) (by omega)] at e5
  rw [show (2 : Int32).toNatClampNeg = 2 from rfl, hP.2.2.1] at e1
  refine fill 12 0 I10 rfl (fun i hi => ?_) ?_ (fun i hi => absurd hi (Nat.not_lt_zero i)) ?_ ?_ ?_ ?_ ?_ ?_ ?_
  · by_cases e : i = 261
    · exact Or.inr e
    · subst e1; subst e2; subst e6; subst e7; subst e8; subst e9; subst e10
      refine Or.inl ?_
      rw [up2_cell _ _ _ e, up2_cell _ _ _ e, up2_cell _ _ _ e, up2_cell _ _ _ e, up2_cell _ _ _ e, up2_cell _ _ _ e, up2_cell _ _ _ e]
  · subst e6; subst e7; subst e8; subst e9; subst e10
    exact ((((s2.fk (by simp)).fk (by simp)).fk (by simp)).fk (by simp)).fk (by simp)
  · subst e1; subst e2; subst e6; subst e7; subst e8; subst e9; subst e10; simp [up2_ap]
  · subst e1; subst e2; subst e6; subst e7; subst e8; subst e9; subst e10; simp [up2_ap]; rfl
  · subst e1; subst e2; subst e6; subst e7; subst e8; subst e9; subst e10; simp [up2_ap]; exact e5
  · subst e1; subst e2; subst e6; subst e7; subst e8; subst e9; subst e10; simp [up2_ap]; rfl
  · subst e1; subst e2; subst e6; subst e7; subst e8; subst e9; subst e10; simp [up2_ap]
  · subst e1; subst e2; subst e6; subst e7; subst e8; subst e9; subst e10; simp [up2_ap]; rfl
  · subst e1; subst e2; subst e6; subst e7; subst e8; subst e9; subst e10; simp [up2_ap]; rfl
end
