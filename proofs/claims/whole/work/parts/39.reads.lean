/-! reads -/
section
variable {w : Wd} {b : Nat} {I : MI} {Q : Int32 → MI → Prop}
theorem xH_y {h : Nat} (hp : PlOk (wP w)) (hs : SX w I) (hh : h < pHc (wP w)) (H : Q 1 I) : Wi mX11_isHouse [.ref 0, .int (nI h)] I Q := by
  have := hp.2.2.2.1
  refine rX11_isHouse ⟨fun q => absurd q (nI_pos (by omega)), fun _ => ?_⟩
  rw [hs.1.2.2.1, ile (by omega) (by omega)]
  exact ⟨fun q => by omega, fun _ => H⟩
theorem xH_n {a : Int32} (hs : SX w I) (ha : a < 0 ∨ nI (pHc (wP w)) ≤ a) (H : Q 0 I) : Wi mX11_isHouse [.ref 0, .int a] I Q := by
  refine rX11_isHouse ⟨fun _ => H, fun q => ?_⟩
  rw [hs.1.2.2.1]
  exact ⟨fun _ => H, fun z => by rcases ha with y | y; exact absurd y q; exact absurd y z⟩
theorem xS_y {h : Nat} (hp : PlOk (wP w)) (hs : SX w I) (hh : h < pSc (wP w)) (H : Q 1 I) : Wi mX11_isStreet [.ref 0, .int (nI h)] I Q := by
  have := hp.2.2.1
  refine rX11_isStreet ⟨fun q => absurd q (nI_pos (by omega)), fun _ => ?_⟩
  rw [hs.1.2.1, ile (by omega) (by omega)]
  exact ⟨fun q => by omega, fun _ => H⟩
theorem xS_n {a : Int32} (hs : SX w I) (ha : a < 0 ∨ nI (pSc (wP w)) ≤ a) (H : Q 0 I) : Wi mX11_isStreet [.ref 0, .int a] I Q := by
  refine rX11_isStreet ⟨fun _ => H, fun q => ?_⟩
  rw [hs.1.2.1]
  exact ⟨fun _ => H, fun z => by rcases ha with y | y; exact absurd y q; exact absurd y z⟩
theorem xN_y {h : Nat} (hp : PlOk (wP w)) (hs : SX w I) (hh : h < pNc (wP w)) (H : Q 1 I) : Wi mX11_isNode [.ref 0, .int (nI h)] I Q := by
  have := hp.2.1
  refine rX11_isNode ⟨fun q => absurd q (nI_pos (by omega)), fun _ => ?_⟩
  rw [hs.1.1, ile (by omega) (by omega)]
  exact ⟨fun q => by omega, fun _ => H⟩
theorem xN_n {a : Int32} (hs : SX w I) (ha : a < 0 ∨ nI (pNc (wP w)) ≤ a) (H : Q 0 I) : Wi mX11_isNode [.ref 0, .int a] I Q := by
  refine rX11_isNode ⟨fun _ => H, fun q => ?_⟩
  rw [hs.1.1]
  exact ⟨fun _ => H, fun z => by rcases ha with y | y; exact absurd y q; exact absurd y z⟩
theorem xV_y {h : Nat} (hv : lVi (wX w) ≤ 12) (hs : SX w I) (hh : h < lVi (wX w)) (H : Q 1 I) : Wi mX11_isVisit [.ref 0, .int (nI h)] I Q := by
  refine rX11_isVisit ⟨fun q => absurd q (nI_pos (by omega)), fun _ => ?_⟩
  have e : I 40 1 = nI (lVi (wX w)) := hs.2.1.2.2.2.2.2.2.2.1
  rw [e, ile (by omega) (by omega)]
  exact ⟨fun q => by omega, fun _ => H⟩
theorem xV_n {a : Int32} (hs : SX w I) (ha : a < 0 ∨ nI (lVi (wX w)) ≤ a) (H : Q 0 I) : Wi mX11_isVisit [.ref 0, .int a] I Q := by
  refine rX11_isVisit ⟨fun _ => H, fun q => ?_⟩
  have e : I 40 1 = nI (lVi (wX w)) := hs.2.1.2.2.2.2.2.2.2.1
  rw [e]
  exact ⟨fun _ => H, fun z => by rcases ha with y | y; exact absurd y q; exact absurd y z⟩
theorem xW_y {h : Nat} (hh : h < 7) (H : Q 1 I) : Wi mX11_isWeekday [.int (nI h)] I Q := by
  refine rX11_isWeekday ⟨fun q => absurd q (nI_pos (by omega)), fun _ => ?_⟩
  rw [show (7 : Int32) = nI 7 from rfl, ile (by omega) (by omega)]
  exact ⟨fun q => by omega, fun _ => H⟩
theorem xW_n {a : Int32} (ha : a < 0 ∨ nI 7 ≤ a) (H : Q 0 I) : Wi mX11_isWeekday [.int a] I Q := by
  refine rX11_isWeekday ⟨fun _ => H, fun q => ?_⟩
  exact ⟨fun _ => H, fun z => by rcases ha with y | y; exact absurd y q; exact absurd y z⟩
/-! the reference's range tests -/
theorem mw_y {a lo hi : Int32} (h1 : lo ≤ a) (h2 : a ≤ hi) (H : Q 1 I) : Wi mX12_within [.long a.toInt64, .long lo.toInt64, .long hi.toInt64] I Q :=
  sM_within (fun _ _ => H) (fun q => absurd ⟨(w64 _ _).mpr h1, (w64 _ _).mpr h2⟩ q)
theorem mw_n {a lo hi : Int32} (h : ¬ (lo ≤ a ∧ a ≤ hi)) (H : Q 0 I) : Wi mX12_within [.long a.toInt64, .long lo.toInt64, .long hi.toInt64] I Q :=
  sM_within (fun q1 q2 => absurd ⟨(w64 _ _).mp q1, (w64 _ _).mp q2⟩ h) (fun _ => H)
theorem mr_y {a : Nat} {n : Nat} (h : a < n) (hn : n < 2147483648) (H : Q 1 I) : Wi mX12_within [.long (nI a).toInt64, .long 0, .long (nI n - 1).toInt64] I Q := by
  rw [l64 (n := 0) (by decide)]
  refine mw_y ?_ ?_ H
  · rw [ile (by decide) (by omega)]; omega
  · obtain ⟨m, rfl⟩ : ∃ m, n = m + 1 := ⟨n - 1, by omega⟩
    rw [show nI (m + 1) - 1 = nI m from nI_pred m, ile (by omega) (by omega)]; omega
theorem mr_n {a : Int32} {n : Nat} (h : a < 0 ∨ nI n ≤ a) (hn : n < 1073741824) (H : Q 0 I) : Wi mX12_within [.long a.toInt64, .long 0, .long (nI n - 1).toInt64] I Q := by
  rw [l64 (n := 0) (by decide)]
  refine mw_n (fun q => ?_) H
  have e := dvI_toInt (d := n) hn
  have q1 := Int32.le_iff_toInt_le.mp q.1
  have q2 := Int32.le_iff_toInt_le.mp q.2
  have e0 : (nI 0).toInt = 0 := rfl
  have e1 : (nI n - 1).toInt = (n : Int) - 1 := e
  rcases h with y | y
  · rw [Int32.lt_iff_toInt_lt] at y
    have : (0 : Int32).toInt = 0 := rfl
    omega
  · rw [Int32.le_iff_toInt_le, nI_toInt (by omega)] at y
    omega
theorem mH_y {h : Nat} (hp : PlOk (wP w)) (hs : SR w I) (hh : h < pHc (wP w)) (H : Q 1 I) : Wi mX12_isHouse [.ref 261, .int (nI h)] I Q := by
  have := hp.2.2.2.1
  refine rX12_isHouse ⟨in67, ?_⟩
  rw [cl6, hs.1.2.2.2.2.2.2.1]
  exact mr_y hh (by omega) ⟨rfl, H⟩
theorem mH_n {a : Int32} (hp : PlOk (wP w)) (hs : SR w I) (ha : a < 0 ∨ nI (pHc (wP w)) ≤ a) (H : Q 0 I) : Wi mX12_isHouse [.ref 261, .int a] I Q := by
  have := hp.2.2.2.1
  refine rX12_isHouse ⟨in67, ?_⟩
  rw [cl6, hs.1.2.2.2.2.2.2.1]
  exact mr_n ha (by omega) ⟨rfl, H⟩
theorem mS_y {h : Nat} (hp : PlOk (wP w)) (hs : SR w I) (hh : h < pSc (wP w)) (H : Q 1 I) : Wi mX12_isStreet [.ref 261, .int (nI h)] I Q := by
  have := hp.2.2.1
  refine rX12_isStreet ⟨vpn 5 (by decide) (by decide), ?_⟩
  rw [show (5 : Int32).toNatClampNeg = 5 from rfl, hs.1.2.2.2.2.2.1]
  exact mr_y hh (by omega) ⟨rfl, H⟩
theorem mS_n {a : Int32} (hp : PlOk (wP w)) (hs : SR w I) (ha : a < 0 ∨ nI (pSc (wP w)) ≤ a) (H : Q 0 I) : Wi mX12_isStreet [.ref 261, .int a] I Q := by
  have := hp.2.2.1
  refine rX12_isStreet ⟨vpn 5 (by decide) (by decide), ?_⟩
  rw [show (5 : Int32).toNatClampNeg = 5 from rfl, hs.1.2.2.2.2.2.1]
  exact mr_n ha (by omega) ⟨rfl, H⟩
theorem mN_y {h : Nat} (hp : PlOk (wP w)) (hs : SR w I) (hh : h < pNc (wP w)) (H : Q 1 I) : Wi mX12_isNode [.ref 261, .int (nI h)] I Q := by
  have := hp.2.1
  refine rX12_isNode ⟨vpn 0 (by decide) (by decide), ?_⟩
  rw [show (0 : Int32).toNatClampNeg = 0 from rfl, hs.1.1]
  exact mr_y hh (by omega) ⟨rfl, H⟩
theorem mN_n {a : Int32} (hp : PlOk (wP w)) (hs : SR w I) (ha : a < 0 ∨ nI (pNc (wP w)) ≤ a) (H : Q 0 I) : Wi mX12_isNode [.ref 261, .int a] I Q := by
  have := hp.2.1
  refine rX12_isNode ⟨vpn 0 (by decide) (by decide), ?_⟩
  rw [show (0 : Int32).toNatClampNeg = 0 from rfl, hs.1.1]
  exact mr_n ha (by omega) ⟨rfl, H⟩
theorem in_or {a : Int32} {n : Nat} (hn : n < 2147483648) : (a < 0 ∨ nI n ≤ a) ∨ ∃ j, j < n ∧ a = nI j := by
  rcases pk_ix a hn with h | h | h
  · exact Or.inl (Or.inl h)
  · exact Or.inl (Or.inr h)
  · exact Or.inr h
theorem zp (n : Nat) (f : Nat → Int32) (m : Nat) {y : Int32} (h : f (0 + m + n) = y) : f (m + n) = y := by rwa [Nat.zero_add] at h
end
theorem t_nodeCount {b : Nat} : Spp b mX11_nodeCount mX12_nodeCount [.ref 0] [.ref 261] := stp_rd (fun w ho => ⟨nI (pNc (wP w)), fun I Q h H => rX11_nodeCount (by rw [show I 24 0 = nI (pNc (wP w)) from h.1.1]; exact H I h XF.rf), fun I Q h H => rX12_nodeCount (fun I1 e => by
  obtain ⟨h1, f1⟩ := SR_fl h e
  refine ⟨vpn 0 (by decide) (by decide), ?_⟩
  rw [show (0 : Int32).toNatClampNeg = 0 from rfl, show I1 263 0 = nI (pNc (wP w)) from h1.1.1]
  exact H I1 h1 f1)⟩)
theorem t_streetCount {b : Nat} : Spp b mX11_streetCount mX12_streetCount [.ref 0] [.ref 261] := stp_rd (fun w ho => ⟨nI (pSc (wP w)), fun I Q h H => rX11_streetCount (by rw [show I 24 1 = nI (pSc (wP w)) from h.1.2.1]; exact H I h XF.rf), fun I Q h H => rX12_streetCount (fun I1 e => by
  obtain ⟨h1, f1⟩ := SR_fl h e
  refine ⟨vpn 5 (by decide) (by decide), ?_⟩
  rw [show (5 : Int32).toNatClampNeg = 5 from rfl, show I1 263 5 = nI (pSc (wP w)) from h1.1.2.2.2.2.2.1]
  exact H I1 h1 f1)⟩)
theorem t_houseCount {b : Nat} : Spp b mX11_houseCount mX12_houseCount [.ref 0] [.ref 261] := stp_rd (fun w ho => ⟨nI (pHc (wP w)), fun I Q h H => rX11_houseCount (by rw [show I 24 2 = nI (pHc (wP w)) from h.1.2.2.1]; exact H I h XF.rf), fun I Q h H => rX12_houseCount (fun I1 e => by
  obtain ⟨h1, f1⟩ := SR_fl h e
  refine ⟨vpn 6 (by decide) (by decide), ?_⟩
  rw [show (6 : Int32).toNatClampNeg = 6 from rfl, show I1 263 6 = nI (pHc (wP w)) from h1.1.2.2.2.2.2.2.1]
  exact H I1 h1 f1)⟩)
theorem t_capacity {b : Nat} : Spp b mX11_capacity mX12_capacity [.ref 0] [.ref 261] := stp_rd (fun w ho => ⟨nI (pCap (wP w)), fun I Q h H => rX11_capacity (by rw [show I 24 3 = nI (pCap (wP w)) from h.1.2.2.2.1]; exact H I h XF.rf), fun I Q h H => rX12_capacity (fun I1 e => by
  obtain ⟨h1, f1⟩ := SR_fl h e
  refine ⟨vpn 1 (by decide) (by decide), ?_⟩
  rw [show (1 : Int32).toNatClampNeg = 1 from rfl, show I1 263 1 = nI (pCap (wP w)) from h1.1.2.1]
  exact H I1 h1 f1)⟩)
theorem t_day {b : Nat} : Spp b mX11_day mX12_day [.ref 0] [.ref 261] := stp_rd (fun w ho => ⟨nI (lDay (wX w)), fun I Q h H => rX11_day (by rw [show I 30 0 = nI (lDay (wX w)) from h.2.1.1]; exact H I h XF.rf), fun I Q h H => rX12_day (fun I1 e => by
  obtain ⟨h1, f1⟩ := SR_fl h e
  refine ⟨vpn 0 (by decide) (by decide), ?_⟩
  rw [show (0 : Int32).toNatClampNeg = 0 from rfl, show I1 274 0 = nI (lDay (wX w)) from h1.2.1.1]
  exact H I1 h1 f1)⟩)
theorem t_finish {b : Nat} : Spp b mX11_finish mX12_finish [.ref 0] [.ref 261] := stp_rd (fun w ho => ⟨lFi (wX w), fun I Q h H => rX11_finish (by rw [show I 40 0 = lFi (wX w) from h.2.1.2.2.2.2.2.2.1]; exact H I h XF.rf), fun I Q h H => rX12_finish (fun I1 e => by
  obtain ⟨h1, f1⟩ := SR_fl h e
  refine ⟨vpn 293 (by decide) (by decide), ?_⟩
  rw [show (293 : Int32).toNatClampNeg = 293 from rfl, show I1 274 293 = lFi (wX w) from h1.2.1.2.2.2.2.2.2.2.1]
  exact H I1 h1 f1)⟩)
theorem t_visitCount {b : Nat} : Spp b mX11_visitCount mX12_visitCount [.ref 0] [.ref 261] := stp_rd (fun w ho => ⟨nI (lVi (wX w)), fun I Q h H => rX11_visitCount (by rw [show I 40 1 = nI (lVi (wX w)) from h.2.1.2.2.2.2.2.2.2.1]; exact H I h XF.rf), fun I Q h H => rX12_visitCount (fun I1 e => by
  obtain ⟨h1, f1⟩ := SR_fl h e
  refine ⟨vpn 294 (by decide) (by decide), ?_⟩
  rw [show (294 : Int32).toNatClampNeg = 294 from rfl, show I1 274 294 = nI (lVi (wX w)) from h1.2.1.2.2.2.2.2.2.2.2.1]
  exact H I1 h1 f1)⟩)
theorem t_reloads {b : Nat} : Spp b mX11_reloads mX12_reloads [.ref 0] [.ref 261] := stp_rd (fun w ho => ⟨lRl (wX w), fun I Q h H => rX11_reloads (by rw [show I 40 2 = lRl (wX w) from h.2.1.2.2.2.2.2.2.2.2.1]; exact H I h XF.rf), fun I Q h H => rX12_reloads (fun I1 e => by
  obtain ⟨h1, f1⟩ := SR_fl h e
  refine ⟨vpn 295 (by decide) (by decide), ?_⟩
  rw [show (295 : Int32).toNatClampNeg = 295 from rfl, show I1 274 295 = lRl (wX w) from h1.2.1.2.2.2.2.2.2.2.2.2.1]
  exact H I1 h1 f1)⟩)
theorem t_houseNode {b : Nat} (a : Int32) : Spp b mX11_houseNode mX12_houseNode [.ref 0, .int a] [.ref 261, .int a] := stp_rd (fun w ho => by
  have hp := ho.1
  have hhc := hp.2.2.2.1
  rcases in_or (a := a) (n := pHc (wP w)) (by omega) with ha | ⟨h, hh, e⟩
  · exact ⟨-1, fun I Q hs H => rX11_houseNode (xH_n hs ha ⟨fun _ => H I hs XF.rf, fun q => absurd rfl q⟩), fun I Q hs H => rX12_houseNode (fun I1 e => by
      obtain ⟨h1, f1⟩ := SR_fl hs e
      exact mH_n hp h1 ha ⟨fun _ => H I1 h1 f1, fun q => absurd rfl q⟩)⟩
  · subst e
    refine ⟨nI (pHn (wP w) h), fun I Q hs H => rX11_houseNode (xH_y hp hs hh ⟨fun q => absurd q (by decide), fun _ => ⟨ci (by omega) (by decide), ?_⟩⟩), fun I Q hs H => rX12_houseNode (fun I1 e => by
      obtain ⟨h1, f1⟩ := SR_fl hs e
      refine mH_y hp h1 hh ⟨fun q => absurd q (by decide), fun _ => ?_⟩
      skip
      refine ⟨ci (by omega) (by decide), ?_⟩
      rw [cl (by omega), (h1.1.2.2.2.2.2.2.2.2 h hh).1]
      exact H I1 h1 f1)⟩
    rw [cl (by omega), show I 28 h = nI (pHn (wP w) h) from (hs.1.2.2.2.2.2.2.2.2 h hh).1]
    exact H I hs XF.rf)
theorem t_bottlesAt {b : Nat} (a : Int32) : Spp b mX11_bottlesAt mX12_bottlesAt [.ref 0, .int a] [.ref 261, .int a] := stp_rd (fun w ho => by
  have hp := ho.1
  have hhc := hp.2.2.2.1
  rcases in_or (a := a) (n := pHc (wP w)) (by omega) with ha | ⟨h, hh, e⟩
  · exact ⟨-1, fun I Q hs H => rX11_bottlesAt (xH_n hs ha ⟨fun _ => H I hs XF.rf, fun q => absurd rfl q⟩), fun I Q hs H => rX12_bottlesAt (fun I1 e => by
      obtain ⟨h1, f1⟩ := SR_fl hs e
      exact mH_n hp h1 ha ⟨fun _ => H I1 h1 f1, fun q => absurd rfl q⟩)⟩
  · subst e
    refine ⟨lBo (wX w) h, fun I Q hs H => rX11_bottlesAt (xH_y hp hs hh ⟨fun q => absurd q (by decide), fun _ => ⟨ci (by omega) (by decide), ?_⟩⟩), fun I Q hs H => rX12_bottlesAt (fun I1 e => by
      obtain ⟨h1, f1⟩ := SR_fl hs e
      refine mH_y hp h1 hh ⟨fun q => absurd q (by decide), fun _ => ?_⟩
      rw [show (145 : Int32) = nI 145 from rfl, nI_add]
      refine ⟨ci (by omega) (by decide), ?_⟩
      rw [cl (by omega), zp h (I1 274) 145 (h1.2.1.2.2.2.1 h hh).2.1]
      exact H I1 h1 f1)⟩
    rw [cl (by omega), show I 35 h = lBo (wX w) h from (hs.2.1.2.2.2.1 h hh).2.1]
    exact H I hs XF.rf)
theorem t_delivered {b : Nat} (a : Int32) : Spp b mX11_delivered mX12_delivered [.ref 0, .int a] [.ref 261, .int a] := stp_rd (fun w ho => by
  have hp := ho.1
  have hhc := hp.2.2.2.1
  rcases in_or (a := a) (n := pHc (wP w)) (by omega) with ha | ⟨h, hh, e⟩
  · exact ⟨-1, fun I Q hs H => rX11_delivered (xH_n hs ha ⟨fun _ => H I hs XF.rf, fun q => absurd rfl q⟩), fun I Q hs H => rX12_delivered (fun I1 e => by
      obtain ⟨h1, f1⟩ := SR_fl hs e
      exact mH_n hp h1 ha ⟨fun _ => H I1 h1 f1, fun q => absurd rfl q⟩)⟩
  · subst e
    refine ⟨lDl (wX w) h, fun I Q hs H => rX11_delivered (xH_y hp hs hh ⟨fun q => absurd q (by decide), fun _ => ⟨ci (by omega) (by decide), ?_⟩⟩), fun I Q hs H => rX12_delivered (fun I1 e => by
      obtain ⟨h1, f1⟩ := SR_fl hs e
      refine mH_y hp h1 hh ⟨fun q => absurd q (by decide), fun _ => ?_⟩
      rw [show (157 : Int32) = nI 157 from rfl, nI_add]
      refine ⟨ci (by omega) (by decide), ?_⟩
      rw [cl (by omega), zp h (I1 274) 157 (h1.2.1.2.2.2.1 h hh).2.2.1]
      exact H I1 h1 f1)⟩
    rw [cl (by omega), show I 36 h = lDl (wX w) h from (hs.2.1.2.2.2.1 h hh).2.2.1]
    exact H I hs XF.rf)
theorem t_returned {b : Nat} (a : Int32) : Spp b mX11_returned mX12_returned [.ref 0, .int a] [.ref 261, .int a] := stp_rd (fun w ho => by
  have hp := ho.1
  have hhc := hp.2.2.2.1
  rcases in_or (a := a) (n := pHc (wP w)) (by omega) with ha | ⟨h, hh, e⟩
  · exact ⟨-1, fun I Q hs H => rX11_returned (xH_n hs ha ⟨fun _ => H I hs XF.rf, fun q => absurd rfl q⟩), fun I Q hs H => rX12_returned (fun I1 e => by
      obtain ⟨h1, f1⟩ := SR_fl hs e
      exact mH_n hp h1 ha ⟨fun _ => H I1 h1 f1, fun q => absurd rfl q⟩)⟩
  · subst e
    refine ⟨lRt (wX w) h, fun I Q hs H => rX11_returned (xH_y hp hs hh ⟨fun q => absurd q (by decide), fun _ => ⟨ci (by omega) (by decide), ?_⟩⟩), fun I Q hs H => rX12_returned (fun I1 e => by
      obtain ⟨h1, f1⟩ := SR_fl hs e
      refine mH_y hp h1 hh ⟨fun q => absurd q (by decide), fun _ => ?_⟩
      rw [show (169 : Int32) = nI 169 from rfl, nI_add]
      refine ⟨ci (by omega) (by decide), ?_⟩
      rw [cl (by omega), zp h (I1 274) 169 (h1.2.1.2.2.2.1 h hh).2.2.2.1]
      exact H I1 h1 f1)⟩
    rw [cl (by omega), show I 37 h = lRt (wX w) h from (hs.2.1.2.2.2.1 h hh).2.2.2.1]
    exact H I hs XF.rf)
theorem t_broken {b : Nat} (a : Int32) : Spp b mX11_broken mX12_broken [.ref 0, .int a] [.ref 261, .int a] := stp_rd (fun w ho => by
  have hp := ho.1
  have hhc := hp.2.2.2.1
  rcases in_or (a := a) (n := pHc (wP w)) (by omega) with ha | ⟨h, hh, e⟩
  · exact ⟨-1, fun I Q hs H => rX11_broken (xH_n hs ha ⟨fun _ => H I hs XF.rf, fun q => absurd rfl q⟩), fun I Q hs H => rX12_broken (fun I1 e => by
      obtain ⟨h1, f1⟩ := SR_fl hs e
      exact mH_n hp h1 ha ⟨fun _ => H I1 h1 f1, fun q => absurd rfl q⟩)⟩
  · subst e
    refine ⟨lBr (wX w) h, fun I Q hs H => rX11_broken (xH_y hp hs hh ⟨fun q => absurd q (by decide), fun _ => ⟨ci (by omega) (by decide), ?_⟩⟩), fun I Q hs H => rX12_broken (fun I1 e => by
      obtain ⟨h1, f1⟩ := SR_fl hs e
      refine mH_y hp h1 hh ⟨fun q => absurd q (by decide), fun _ => ?_⟩
      rw [show (181 : Int32) = nI 181 from rfl, nI_add]
      refine ⟨ci (by omega) (by decide), ?_⟩
      rw [cl (by omega), zp h (I1 274) 181 (h1.2.1.2.2.2.1 h hh).2.2.2.2]
      exact H I1 h1 f1)⟩
    rw [cl (by omega), show I 38 h = lBr (wX w) h from (hs.2.1.2.2.2.1 h hh).2.2.2.2]
    exact H I hs XF.rf)
theorem t_visitHouse {b : Nat} (a : Int32) : Spp b mX11_visitHouse mX12_visitHouse [.ref 0, .int a] [.ref 261, .int a] := stp_rd (fun w ho => by
  have hv := ho.2.1.2.2.2.2.2
  rcases in_or (a := a) (n := lVi (wX w)) (by omega) with ha | ⟨h, hh, e⟩
  · exact ⟨-1, fun I Q hs H => rX11_visitHouse (xV_n hs ha ⟨fun _ => H I hs XF.rf, fun q => absurd rfl q⟩), fun I Q hs H => rX12_visitHouse (fun I1 e => by
      obtain ⟨h1, f1⟩ := SR_fl hs e
      refine rX12_recordOf ⟨vpn 294 (by decide) (by decide), ?_⟩
      rw [show (294 : Int32).toNatClampNeg = 294 from rfl, show I1 274 294 = nI (lVi (wX w)) from h1.2.1.2.2.2.2.2.2.2.2.1]
      exact mr_n ha (by omega) ⟨fun _ => H I1 h1 f1, fun q => absurd rfl q⟩)⟩
  · subst e
    refine ⟨lVh (wX w) h, fun I Q hs H => rX11_visitHouse (xV_y hv hs hh ⟨fun q => absurd q (by decide), fun _ => ⟨ci (by omega) (by decide), ?_⟩⟩), fun I Q hs H => rX12_visitHouse (fun I1 e => by
      obtain ⟨h1, f1⟩ := SR_fl hs e
      refine rX12_recordOf ⟨vpn 294 (by decide) (by decide), ?_⟩
      rw [show (294 : Int32).toNatClampNeg = 294 from rfl, show I1 274 294 = nI (lVi (wX w)) from h1.2.1.2.2.2.2.2.2.2.2.1]
      refine mr_y hh (by omega) ⟨fun q => absurd q (by decide), fun _ => ?_⟩
      rw [show (296 : Int32) = nI 296 from rfl, nI_add]
      refine ⟨ci (by omega) (by decide), ?_⟩
      rw [cl (by omega), zp h (I1 274) 296 (h1.2.1.2.2.2.2.2.2.2.2.2.2 h hh).1]
      exact H I1 h1 f1)⟩
    rw [cl (by omega), show I 41 h = lVh (wX w) h from (hs.2.1.2.2.2.2.2.2.2.2.2 h hh).1]
    exact H I hs XF.rf)
theorem t_visitMinute {b : Nat} (a : Int32) : Spp b mX11_visitMinute mX12_visitMinute [.ref 0, .int a] [.ref 261, .int a] := stp_rd (fun w ho => by
  have hv := ho.2.1.2.2.2.2.2
  rcases in_or (a := a) (n := lVi (wX w)) (by omega) with ha | ⟨h, hh, e⟩
  · exact ⟨-1, fun I Q hs H => rX11_visitMinute (xV_n hs ha ⟨fun _ => H I hs XF.rf, fun q => absurd rfl q⟩), fun I Q hs H => rX12_visitMinute (fun I1 e => by
      obtain ⟨h1, f1⟩ := SR_fl hs e
      refine rX12_recordOf ⟨vpn 294 (by decide) (by decide), ?_⟩
      rw [show (294 : Int32).toNatClampNeg = 294 from rfl, show I1 274 294 = nI (lVi (wX w)) from h1.2.1.2.2.2.2.2.2.2.2.1]
      exact mr_n ha (by omega) ⟨fun _ => H I1 h1 f1, fun q => absurd rfl q⟩)⟩
  · subst e
    refine ⟨lVm (wX w) h, fun I Q hs H => rX11_visitMinute (xV_y hv hs hh ⟨fun q => absurd q (by decide), fun _ => ⟨ci (by omega) (by decide), ?_⟩⟩), fun I Q hs H => rX12_visitMinute (fun I1 e => by
      obtain ⟨h1, f1⟩ := SR_fl hs e
      refine rX12_recordOf ⟨vpn 294 (by decide) (by decide), ?_⟩
      rw [show (294 : Int32).toNatClampNeg = 294 from rfl, show I1 274 294 = nI (lVi (wX w)) from h1.2.1.2.2.2.2.2.2.2.2.1]
      refine mr_y hh (by omega) ⟨fun q => absurd q (by decide), fun _ => ?_⟩
      rw [show (308 : Int32) = nI 308 from rfl, nI_add]
      refine ⟨ci (by omega) (by decide), ?_⟩
      rw [cl (by omega), zp h (I1 274) 308 (h1.2.1.2.2.2.2.2.2.2.2.2.2 h hh).2.1]
      exact H I1 h1 f1)⟩
    rw [cl (by omega), show I 42 h = lVm (wX w) h from (hs.2.1.2.2.2.2.2.2.2.2.2 h hh).2.1]
    exact H I hs XF.rf)
theorem t_visitReturned {b : Nat} (a : Int32) : Spp b mX11_visitReturned mX12_visitReturned [.ref 0, .int a] [.ref 261, .int a] := stp_rd (fun w ho => by
  have hv := ho.2.1.2.2.2.2.2
  rcases in_or (a := a) (n := lVi (wX w)) (by omega) with ha | ⟨h, hh, e⟩
  · exact ⟨-1, fun I Q hs H => rX11_visitReturned (xV_n hs ha ⟨fun _ => H I hs XF.rf, fun q => absurd rfl q⟩), fun I Q hs H => rX12_visitReturned (fun I1 e => by
      obtain ⟨h1, f1⟩ := SR_fl hs e
      refine rX12_recordOf ⟨vpn 294 (by decide) (by decide), ?_⟩
      rw [show (294 : Int32).toNatClampNeg = 294 from rfl, show I1 274 294 = nI (lVi (wX w)) from h1.2.1.2.2.2.2.2.2.2.2.1]
      exact mr_n ha (by omega) ⟨fun _ => H I1 h1 f1, fun q => absurd rfl q⟩)⟩
  · subst e
    refine ⟨lVr (wX w) h, fun I Q hs H => rX11_visitReturned (xV_y hv hs hh ⟨fun q => absurd q (by decide), fun _ => ⟨ci (by omega) (by decide), ?_⟩⟩), fun I Q hs H => rX12_visitReturned (fun I1 e => by
      obtain ⟨h1, f1⟩ := SR_fl hs e
      refine rX12_recordOf ⟨vpn 294 (by decide) (by decide), ?_⟩
      rw [show (294 : Int32).toNatClampNeg = 294 from rfl, show I1 274 294 = nI (lVi (wX w)) from h1.2.1.2.2.2.2.2.2.2.2.1]
      refine mr_y hh (by omega) ⟨fun q => absurd q (by decide), fun _ => ?_⟩
      rw [show (320 : Int32) = nI 320 from rfl, nI_add]
      refine ⟨ci (by omega) (by decide), ?_⟩
      rw [cl (by omega), zp h (I1 274) 320 (h1.2.1.2.2.2.2.2.2.2.2.2.2 h hh).2.2]
      exact H I1 h1 f1)⟩
    rw [cl (by omega), show I 43 h = lVr (wX w) h from (hs.2.1.2.2.2.2.2.2.2.2.2 h hh).2.2]
    exact H I hs XF.rf)
