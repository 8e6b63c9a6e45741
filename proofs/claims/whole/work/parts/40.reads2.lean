/-! more reads -/
theorem t_order {b : Nat} (a c : Int32) : Spp b mX11_order mX12_order [.ref 0, .int a, .int c] [.ref 261, .int a, .int c] := stp_rd (fun w ho => by
  have hp := ho.1
  have hhc := hp.2.2.2.1
  rcases in_or (a := a) (n := pHc (wP w)) (by omega) with ha | ⟨h, hh, e⟩
  · exact ⟨-1, fun I Q hs H => rX11_order (xH_n hs ha ⟨fun _ => H I hs XF.rf, fun q => absurd rfl q⟩), fun I Q hs H => rX12_order (fun I1 e => by
      obtain ⟨h1, f1⟩ := SR_fl hs e
      exact mH_n hp h1 ha ⟨fun _ => H I1 h1 f1, fun q => absurd rfl q⟩)⟩
  · subst e
    rcases in_or (a := c) (n := 7) (by decide) with hc | ⟨d, hd, e⟩
    · exact ⟨-1, fun I Q hs H => rX11_order (xH_y hp hs hh ⟨fun q => absurd q (by decide), fun _ => xW_n hc ⟨fun _ => H I hs XF.rf, fun q => absurd rfl q⟩⟩), fun I Q hs H => rX12_order (fun I1 e => by
        obtain ⟨h1, f1⟩ := SR_fl hs e
        refine mH_y hp h1 hh ⟨fun q => absurd q (by decide), fun _ => ?_⟩
        rw [show (6 : Int64) = (nI 7 - 1).toInt64 from rfl]
        exact mr_n hc (by decide) ⟨fun _ => H I1 h1 f1, fun q => absurd rfl q⟩)⟩
    · subst e
      have e1 : nI h * (7 : Int32) + nI d = nI (7 * h + d) := by rw [show nI h * (7 : Int32) = nI (h * 7) from pk_mul h 7, nI_add, Nat.mul_comm]
      have e2 : (1 : Int32) + (7 : Int32) * nI h + nI d = nI (1 + (7 * h + d)) := by
        rw [show (7 : Int32) * nI h = nI (7 * h) from pk_mul 7 h, show (1 : Int32) + nI (7 * h) = nI (1 + 7 * h) from nI_add 1 _, nI_add, Nat.add_assoc]
      refine ⟨nI (lOr (wX w) (7 * h + d)), fun I Q hs H => rX11_order (xH_y hp hs hh ⟨fun q => absurd q (by decide), fun _ => xW_y hd ⟨fun q => absurd q (by decide), fun _ => ?_⟩⟩), fun I Q hs H => rX12_order (fun I1 e => by
        obtain ⟨h1, f1⟩ := SR_fl hs e
        refine mH_y hp h1 hh ⟨fun q => absurd q (by decide), fun _ => ?_⟩
        rw [show (6 : Int64) = (nI 7 - 1).toInt64 from rfl]
        refine mr_y hd (by decide) ⟨fun q => absurd q (by decide), fun _ => ?_⟩
        rw [e2, cl (by omega), zp (7 * h + d) (I1 274) 1 (h1.2.1.2.2.1 (7 * h + d) (by omega))]
        exact ⟨ci (by omega) (by decide), H I1 h1 f1⟩)⟩
      rw [e1, cl (by omega), show I 31 (7 * h + d) = nI (lOr (wX w) (7 * h + d)) from hs.2.1.2.2.1 (7 * h + d) (by omega)]
      exact ⟨ci (by omega) (by decide), H I hs XF.rf⟩)
theorem t_demand {b : Nat} (hb : b ≤ 100000) (a : Int32) : Spp b mX11_demand mX12_demand [.ref 0, .int a] [.ref 261, .int a] := stp_rd (fun w ho => by
  have hp := ho.1
  have hhc := hp.2.2.2.1
  rcases in_or (a := a) (n := pHc (wP w)) (by omega) with ha | ⟨h, hh, e⟩
  · exact ⟨-1, fun I Q hs H => rX11_demand (xH_n hs ha ⟨fun _ => H I hs XF.rf, fun q => absurd rfl q⟩), fun I Q hs H => rX12_demand (fun I1 e => by
      obtain ⟨h1, f1⟩ := SR_fl hs e
      exact mH_n hp h1 ha ⟨fun _ => H I1 h1 f1, fun q => absurd rfl q⟩)⟩
  · subst e
    exact ⟨nI (dem (wX w) h), fun I Q hs H => rX11_demand (xH_y hp hs hh ⟨fun q => absurd q (by decide), fun _ => sX_dem hp ho.2.1 hb hs.2.1 hh (H I hs XF.rf)⟩), fun I Q hs H => rX12_demand (fun I1 e => by
      obtain ⟨h1, f1⟩ := SR_fl hs e
      exact mH_y hp h1 hh ⟨fun q => absurd q (by decide), fun _ => sM_dem hp ho.2.1 hb h1.2.1 hh (H I1 h1 f1)⟩)⟩)
theorem t_totalDemand {b : Nat} (hb : b ≤ 100000) : Spp b mX11_totalDemand mX12_totalDemand [.ref 0] [.ref 261] := stp_rd (fun w ho =>
  ⟨nI (tot (wP w) (wX w)), fun I Q hs H => rX11_totalDemand (sX_sum ho.1 ho.2.1 hb hs.1 hs.2.1 (H I hs XF.rf)), fun I Q hs H => rX12_totalDemand (fun I1 e => by
    obtain ⟨h1, f1⟩ := SR_fl hs e
    exact sM_tot ho.1 ho.2.1 hb h1.1 h1.2.1 (H I1 h1 f1))⟩)
theorem t_stops {b : Nat} (hb : b ≤ 100000) : Spp b mX11_stops mX12_stops [.ref 0] [.ref 261] := stp_rd (fun w ho =>
  ⟨nI (stp (wP w) (wX w) (pHc (wP w))), fun I Q hs H => rX11_stops (sX_stops ho.1 ho.2.1 hb hs.1 hs.2.1 (H I hs XF.rf)), fun I Q hs H => rX12_stops (fun I1 e => by
    obtain ⟨h1, f1⟩ := SR_fl hs e
    exact sM_stops ho.1 ho.2.1 hb h1.1 h1.2.1 (H I1 h1 f1))⟩)
theorem t_bill {b : Nat} (a : Int32) : Spp b mX11_bill mX12_bill [.ref 0, .int a] [.ref 261, .int a] := stp_rd (fun w ho => by
  have hp := ho.1
  have hhc := hp.2.2.2.1
  rcases in_or (a := a) (n := pHc (wP w)) (by omega) with ha | ⟨h, hh, e⟩
  · exact ⟨-1, fun I Q hs H => rX11_bill (xH_n hs ha ⟨fun q => absurd rfl q, fun _ => H I hs XF.rf⟩), fun I Q hs H => rX12_bill (fun I1 e => by
      obtain ⟨h1, f1⟩ := SR_fl hs e
      exact mH_n hp h1 ha ⟨fun _ => H I1 h1 f1, fun q => absurd rfl q⟩)⟩
  · subst e
    refine ⟨lDl (wX w) h * pPr (wP w) + lBr (wX w) h * pDe (wP w), fun I Q hs H => rX11_bill (xH_y hp hs hh ⟨fun _ => ⟨ci (by omega) (by decide), ci (by omega) (by decide), ?_⟩, fun q => absurd q (by decide)⟩), fun I Q hs H => rX12_bill (fun I1 e => by
      obtain ⟨h1, f1⟩ := SR_fl hs e
      refine mH_y hp h1 hh ⟨fun q => absurd q (by decide), fun _ => ?_⟩
      rw [show (157 : Int32) = nI 157 from rfl, show (181 : Int32) = nI 181 from rfl, nI_add, nI_add, cl (by omega), cl (by omega), show (3 : Int32).toNatClampNeg = 3 from rfl, show (4 : Int32).toNatClampNeg = 4 from rfl, zp h (I1 274) 157 (h1.2.1.2.2.2.1 h hh).2.2.1, zp h (I1 274) 181 (h1.2.1.2.2.2.1 h hh).2.2.2.2, h1.1.2.2.2.1, h1.1.2.2.2.2.1]
      exact ⟨ci (by omega) (by decide), vpn 3 (by decide) (by decide), ci (by omega) (by decide), vpn 4 (by decide) (by decide), H I1 h1 f1⟩)⟩
    rw [cl (by omega), show I 36 h = lDl (wX w) h from (hs.2.1.2.2.2.1 h hh).2.2.1, show I 38 h = lBr (wX w) h from (hs.2.1.2.2.2.1 h hh).2.2.2.2, hs.1.2.2.2.2.2.1, hs.1.2.2.2.2.2.2.1]
    exact H I hs XF.rf)
theorem t_habit {b : Nat} (a c : Int32) : Spp b mX11_habit mX12_habit [.ref 0, .int a, .int c] [.ref 261, .int a, .int c] := stp_rd (fun w ho => by
  have hp := ho.1
  have hnc := hp.2.1
  rcases in_or (a := a) (n := pNc (wP w)) (by omega) with ha | ⟨h, hh, e⟩
  · exact ⟨-1, fun I Q hs H => rX11_habit (xN_n hs ha ⟨fun _ => H I hs XF.rf, fun q => absurd rfl q⟩), fun I Q hs H => rX12_habit (fun I1 e => by
      obtain ⟨h1, f1⟩ := SR_fl hs e
      exact mN_n hp h1 ha ⟨fun _ => H I1 h1 f1, fun q => absurd rfl q⟩)⟩
  · subst e
    rcases in_or (a := c) (n := pNc (wP w)) (by omega) with hc | ⟨d, hd, e⟩
    · exact ⟨-1, fun I Q hs H => rX11_habit (xN_y hp hs hh ⟨fun q => absurd q (by decide), fun _ => xN_n hs hc ⟨fun _ => H I hs XF.rf, fun q => absurd rfl q⟩⟩), fun I Q hs H => rX12_habit (fun I1 e => by
        obtain ⟨h1, f1⟩ := SR_fl hs e
        exact mN_y hp h1 hh ⟨fun q => absurd q (by decide), fun _ => mN_n hp h1 hc ⟨fun _ => H I1 h1 f1, fun q => absurd rfl q⟩⟩)⟩
    · subst e
      have e1 : nI h * (10 : Int32) + nI d = nI (10 * h + d) := by rw [show nI h * (10 : Int32) = nI (h * 10) from pk_mul h 10, nI_add, Nat.mul_comm]
      refine ⟨nI (lHa (wX w) (10 * h + d)), fun I Q hs H => rX11_habit (xN_y hp hs hh ⟨fun q => absurd q (by decide), fun _ => xN_y hp hs hd ⟨fun q => absurd q (by decide), fun _ => ?_⟩⟩), fun I Q hs H => rX12_habit (fun I1 e => by
        obtain ⟨h1, f1⟩ := SR_fl hs e
        exact mN_y hp h1 hh ⟨fun q => absurd q (by decide), fun _ => mN_y hp h1 hd ⟨fun q => absurd q (by decide), fun _ => sM_habit hp h1.2.1 hh hd (H I1 h1 f1)⟩⟩)⟩
      rw [e1, cl (by omega), show I 39 (10 * h + d) = nI (lHa (wX w) (10 * h + d)) from hs.2.1.2.2.2.2.2.1 h d hh hd]
      exact ⟨ci (by omega) (by decide), H I hs XF.rf⟩)
theorem neg_or (a : Int32) : ¬ 0 ≤ a ∨ ∃ j, j < 2147483648 ∧ a = nI j ∧ 0 ≤ a := by
  by_cases h : 0 ≤ a
  · obtain ⟨j, hj, e⟩ := nI_of (x := a) (fun q => by rw [Int32.lt_iff_toInt_lt] at q; rw [Int32.le_iff_toInt_le] at h; omega)
    exact Or.inr ⟨j, hj, e, h⟩
  · exact Or.inl h
theorem t_horseStop {b : Nat} (hb : b ≤ 100000) (a : Int32) : Spp b mX11_horseStop mX12_horseStop [.ref 0, .int a] [.ref 261, .int a] := stp_rd (fun w ho => by
  have hp := ho.1
  have hlen := (hord_ok (x := wX w) hp).1
  rcases neg_or a with ha | ⟨j, hj, e, ha⟩
  · exact ⟨-1, fun I Q hs H => rX11_horseStop ⟨fun q => absurd q ha, fun _ => H I hs XF.rf⟩, fun I Q hs H => rX12_horseStop (fun I1 e => by
      obtain ⟨h1, f1⟩ := SR_fl hs e
      exact ⟨fun q => absurd q ha, fun _ => H I1 h1 f1⟩)⟩
  · subst e
    exact ⟨rtAt (hord (wP w) (wX w) 10 0 (stp (wP w) (wX w) (pHc (wP w)))) j, fun I Q hs H => rX11_horseStop ⟨fun _ => sX_horse hp ho.2.1 hb hs.1 hs.2.1 (fun J r _ s => sX_stopAt48 r hlen hj (H J (SX_sam hs s (by simp) (CX_sam hs.2.2.2.2.1 s (by simp))) (XF_sam s (by simp)))), fun q => absurd ha q⟩, fun I Q hs H => rX12_horseStop (fun I1 e => by
      obtain ⟨h1, f1⟩ := SR_fl hs e
      exact ⟨fun _ => sM_horse hp ho.2.1 hb h1.1 h1.2.1 (fun J r s => sM_stopAt r hlen hj (H J (SR_sam h1 s (by simp) (by simp)) (f1.tr (MF_sam s (by simp))))), fun q => absurd ha q⟩)⟩)
theorem t_fastestFinish {b : Nat} (hb : b ≤ 100000) : Spp b mX11_fastestFinish mX12_fastestFinish [.ref 0] [.ref 261] := stp_rd (fun w ho => by
  have hp := ho.1
  have hle := ffin_le hp ho.2.1
  have hII : INF = 1000000000 := rfl
  refine ⟨if ffin (wP w) (wX w) < INF then nI (ffin (wP w) (wX w)) else -2, fun I Q hs H => rX11_fastestFinish (sX_find hp ho.2.1 hb hs.1 hs.2.1 hs.2.2.2.2.1 (fun J h9 hF s => ?_)), fun I Q hs H => rX12_fastestFinish (fun I1 e => by
      obtain ⟨h1, f1⟩ := SR_fl hs e
      refine sM_fast hp ho.2.1 hb h1.1 h1.2.1 (fun hf J s => ⟨fun _ => ?_, fun q => absurd rfl q⟩) (fun hf J r h32 s => ⟨fun q => absurd q (by decide), fun _ => ?_⟩)
      · have := H J (SR_sam h1 s (by simp) (by simp)) (f1.tr (MF_sam s (by simp)))
        rw [if_neg (by omega)] at this
        exact this
      · have := H J (SR_sam h1 s (by simp) (by simp)) (f1.tr (MF_sam s (by simp)))
        rw [if_pos hf] at this
        rw [h32]
        exact this)⟩
  have hJ := H J (SX_sam hs s (by simp) (Or.inr ⟨h9, hF⟩)) (XF_sam s (by simp))
  rw [hF.1, xv_eq hle]
  refine ⟨fun q => ?_, fun q => ?_⟩
  · rw [if_pos (by omega)] at hJ
    rw [xv_fin (by omega)]
    exact hJ
  · rw [if_neg (by omega)] at hJ
    exact hJ)
theorem t_fastestStop {b : Nat} (hb : b ≤ 100000) (a : Int32) : Spp b mX11_fastestStop mX12_fastestStop [.ref 0, .int a] [.ref 261, .int a] := stp_rd (fun w ho => by
  have hp := ho.1
  have hle := ffin_le hp ho.2.1
  have hlen := (frx_ok (x := wX w) hp).1
  rcases neg_or a with ha | ⟨j, hj, e, ha⟩
  · exact ⟨-1, fun I Q hs H => rX11_fastestStop ⟨fun q => absurd q ha, fun _ => H I hs XF.rf⟩, fun I Q hs H => rX12_fastestStop (fun I1 e => by
      obtain ⟨h1, f1⟩ := SR_fl hs e
      exact ⟨fun q => absurd q ha, fun _ => H I1 h1 f1⟩)⟩
  · subst e
    exact ⟨rtAt (frx (wP w) (wX w)) j, fun I Q hs H => rX11_fastestStop ⟨fun _ => sX_find hp ho.2.1 hb hs.1 hs.2.1 hs.2.2.2.2.1 (fun J h9 hF s => sX_stopAt51 hF.2 hlen hj (H J (SX_sam hs s (by simp) (Or.inr ⟨h9, hF⟩)) (XF_sam s (by simp)))), fun q => absurd ha q⟩, fun I Q hs H => rX12_fastestStop (fun I1 e => by
      obtain ⟨h1, f1⟩ := SR_fl hs e
      refine ⟨fun _ => sM_fast hp ho.2.1 hb h1.1 h1.2.1 (fun hf J s => ⟨fun _ => ?_, fun q => absurd rfl q⟩) (fun hf J r _ s => ⟨fun q => absurd q (by decide), fun _ => ?_⟩), fun q => absurd ha q⟩
      · have := H J (SR_sam h1 s (by simp) (by simp)) (f1.tr (MF_sam s (by simp)))
        have e : rtAt (frx (wP w) (wX w)) j = -2 := by
          unfold rtAt frx
          rw [if_neg (c := ffin (wP w) (wX w) < INF) (by omega), if_neg (by simp)]
        rw [e] at this
        exact this
      · have e : frx (wP w) (wX w) = frt (wP w) (wX w) := by unfold frx; rw [if_pos hf]
        rw [e] at H hlen
        exact sM_stopAt r hlen hj (H J (SR_sam h1 s (by simp) (by simp)) (f1.tr (MF_sam s (by simp)))))⟩)
theorem ch_or (a : Int32) : (a = 0 ∨ a = 1 ∨ a = 2) ∨ (a ≠ 0 ∧ a ≠ 1 ∧ a ≠ 2 ∧ (a < 0 ∨ nI 3 ≤ a)) := by
  rcases in_or (a := a) (n := 3) (by decide) with ha | ⟨j, hj, e⟩
  · right
    refine ⟨?_, ?_, ?_, ha⟩ <;> intro q <;> subst q <;> rcases ha with z | z <;> revert z <;> decide
  · left
    have : j = 0 ∨ j = 1 ∨ j = 2 := by omega
    rcases this with q | q | q <;> subst q <;> subst e
    · exact Or.inl rfl
    · exact Or.inr (Or.inl rfl)
    · exact Or.inr (Or.inr rfl)
theorem xC_y {a : Int32} {I : MI} {Q : Int32 → MI → Prop} (h : a = 0 ∨ a = 1 ∨ a = 2) (H : Q 1 I) : Wi mX11_isChoice [.int a] I Q :=
  rX11_isChoice ⟨fun _ => rX11_isChoice_14 H, fun h0 => ⟨fun _ => rX11_isChoice_14 H, fun h1 => ⟨fun h2 => (by rcases h with q | q | q; exact absurd q h0; exact absurd q h1; exact absurd q h2), fun _ => rX11_isChoice_14 H⟩⟩⟩
theorem xC_n {a : Int32} {I : MI} {Q : Int32 → MI → Prop} (h : a ≠ 0 ∧ a ≠ 1 ∧ a ≠ 2) (H : Q 0 I) : Wi mX11_isChoice [.int a] I Q :=
  rX11_isChoice ⟨fun q => absurd q h.1, fun _ => ⟨fun q => absurd q h.2.1, fun _ => ⟨fun _ => H, fun q => absurd q h.2.2⟩⟩⟩
theorem mC_y {a : Int32} {I : MI} {Q : Int32 → MI → Prop} (h : a = 0 ∨ a = 1 ∨ a = 2) (H : Q 1 I) : Wi mX12_within [.long a.toInt64, .long 0, .long 2] I Q := by
  rw [show (2 : Int64) = (nI 3 - 1).toInt64 from rfl]
  rcases h with q | q | q <;> subst q
  · exact mr_y (a := 0) (by decide) (by decide) H
  · exact mr_y (a := 1) (by decide) (by decide) H
  · exact mr_y (a := 2) (by decide) (by decide) H
theorem mC_n {a : Int32} {I : MI} {Q : Int32 → MI → Prop} (h : a < 0 ∨ nI 3 ≤ a) (H : Q 0 I) : Wi mX12_within [.long a.toInt64, .long 0, .long 2] I Q := by
  rw [show (2 : Int64) = (nI 3 - 1).toInt64 from rfl]
  exact mr_n h (by decide) H
theorem t_previewFinish {b : Nat} (hb : b ≤ 100000) (a : Int32) : Spp b mX11_previewFinish mX12_previewFinish [.ref 0, .int a] [.ref 261, .int a] := stp_rd (fun w ho => by
  have hp := ho.1
  have hro := rte_ok (x := wX w) hp a
  rcases ch_or a with ha | ⟨a0, a1, a2, ha⟩
  · cases hr : rtb (wP w) (wX w) a with
    | false =>
      refine ⟨-2, fun I Q hs H => rX11_previewFinish (xC_y ha ⟨fun _ => sX_chooseRoute hp ho.2.1 hb hs.1 hs.2.1 hs.2.2.2.2.1 (fun J r k s => ?_), fun q => absurd q (by decide)⟩), fun I Q hs H => rX12_previewFinish (fun I1 e => by
        obtain ⟨h1, f1⟩ := SR_fl hs e
        refine mC_y ha ⟨fun _ => sM_layOrder hp ho.2.1 hb h1.1 h1.2.1 (fun J r s => ?_), fun q => absurd q (by decide)⟩
        rw [hr]
        exact ⟨fun q => absurd rfl q, fun _ => H J (SR_sam h1 s (by simp) (by simp)) (f1.tr (MF_sam s (by simp)))⟩)⟩
      rw [hr]
      exact ⟨fun q => absurd rfl q, fun _ => H J (SX_sam hs s (by simp) k) (XF_sam s (by simp))⟩
    | true =>
      refine ⟨fin (wP w) (wX w) (trav (wP w) (wX w) (rte (wP w) (wX w) a)), fun I Q hs H => rX11_previewFinish (xC_y ha ⟨fun _ => sX_chooseRoute hp ho.2.1 hb hs.1 hs.2.1 hs.2.2.2.2.1 (fun J r k s => ?_), fun q => absurd q (by decide)⟩), fun I Q hs H => rX12_previewFinish (fun I1 e => by
        obtain ⟨h1, f1⟩ := SR_fl hs e
        refine mC_y ha ⟨fun _ => sM_layOrder hp ho.2.1 hb h1.1 h1.2.1 (fun J r s => ?_), fun q => absurd q (by decide)⟩
        rw [hr]
        have hJ := SR_sam h1 s (by simp) (by simp)
        refine ⟨fun _ => sM_play hp ho.2.1 hb hJ.1 hJ.2.1 (r hr) hro.1 hro.2.1 hro.2.2 (fun K t sK => ?_), fun q => absurd q (by decide)⟩
        rw [t.1]
        exact H K (SR_sam hJ sK (by simp) (by simp)) (f1.tr ((MF_sam s (by simp)).tr (MF_sam sK (by simp)))))⟩
      rw [hr]
      have hJ := SX_sam hs s (by simp) k
      refine ⟨fun _ => sX_travel hp ho.2.1 hb hJ.1 hJ.2.1 r hro.1 hro.2.1 hro.2.2 (fun K t sK => ?_), fun q => absurd q (by decide)⟩
      rw [t.1]
      exact H K (SX_sam hJ sK (by simp) (CX_sam k sK (by simp))) ((XF_sam s (by simp)).tr (XF_sam sK (by simp)))
  · exact ⟨-1, fun I Q hs H => rX11_previewFinish (xC_n ⟨a0, a1, a2⟩ ⟨fun q => absurd rfl q, fun _ => H I hs XF.rf⟩), fun I Q hs H => rX12_previewFinish (fun I1 e => by
      obtain ⟨h1, f1⟩ := SR_fl hs e
      exact mC_n ha ⟨fun q => absurd rfl q, fun _ => H I1 h1 f1⟩)⟩)
theorem t_arrival {b : Nat} (a c d : Int32) : Spp b mX11_arrival mX12_arrival [.ref 0, .int a, .int c, .int d] [.ref 261, .int a, .int c, .int d] := stp_rd (fun w ho => by
  have hp := ho.1
  have hnc := hp.2.1
  have hII : INF = 1000000000 := rfl
  rcases in_or (a := a) (n := pNc (wP w)) (by omega) with ha | ⟨u, hu, e⟩
  · exact ⟨-1, fun I Q hs H => rX11_arrival (xN_n hs ha ⟨fun _ => H I hs XF.rf, fun q => absurd rfl q⟩), fun I Q hs H => rX12_arrival (fun I1 e => by
      obtain ⟨h1, f1⟩ := SR_fl hs e
      exact mN_n hp h1 ha ⟨fun _ => H I1 h1 f1, fun q => absurd rfl q⟩)⟩
  · subst e
    rcases in_or (a := c) (n := pNc (wP w)) (by omega) with hc | ⟨v, hv, e⟩
    · exact ⟨-1, fun I Q hs H => rX11_arrival (xN_y hp hs hu ⟨fun q => absurd q (by decide), fun _ => xN_n hs hc ⟨fun _ => H I hs XF.rf, fun q => absurd rfl q⟩⟩), fun I Q hs H => rX12_arrival (fun I1 e => by
        obtain ⟨h1, f1⟩ := SR_fl hs e
        exact mN_y hp h1 hu ⟨fun q => absurd q (by decide), fun _ => mN_n hp h1 hc ⟨fun _ => H I1 h1 f1, fun q => absurd rfl q⟩⟩)⟩
    · subst e
      rcases in_or (a := d) (n := 10000) (by decide) with hd | ⟨t, ht, e⟩
      · refine ⟨-1, fun I Q hs H => rX11_arrival (xN_y hp hs hu ⟨fun q => absurd q (by decide), fun _ => xN_y hp hs hv ⟨fun q => absurd q (by decide), fun _ => ⟨fun _ => H I hs XF.rf, fun q => ⟨fun z => ?_, fun _ => H I hs XF.rf⟩⟩⟩⟩), fun I Q hs H => rX12_arrival (fun I1 e => by
          obtain ⟨h1, f1⟩ := SR_fl hs e
          refine mN_y hp h1 hu ⟨fun q => absurd q (by decide), fun _ => mN_y hp h1 hv ⟨fun q => absurd q (by decide), fun _ => ?_⟩⟩
          rw [show (9999 : Int64) = (nI 10000 - 1).toInt64 from rfl]
          exact mr_n hd (by decide) ⟨fun q => absurd rfl q, fun _ => H I1 h1 f1⟩)⟩
        exfalso
        rcases hd with y | y
        · exact q y
        · rw [Int32.le_iff_toInt_le] at y z
          have e1 : (nI 10000).toInt = 10000 := rfl
          have e2 : (9999 : Int32).toInt = 9999 := rfl
          omega
      · subst e
        have hle := (ea_is (nt_ok hp ho.2.1) (u := u) (t := t) (by omega)).2.2.2 v hv
        refine ⟨if ea (nt (wP w) (wX w)) u t v < INF then nI (ea (nt (wP w) (wX w)) u t v) else -2, fun I Q hs H => rX11_arrival (xN_y hp hs hu ⟨fun q => absurd q (by decide), fun _ => xN_y hp hs hv ⟨fun q => absurd q (by decide), fun _ => ⟨fun q => absurd q (nI_pos (by omega)), fun q => ⟨fun _ => ?_, fun z => absurd ?_ z⟩⟩⟩⟩), fun I Q hs H => rX12_arrival (fun I1 e => by
          obtain ⟨h1, f1⟩ := SR_fl hs e
          refine mN_y hp h1 hu ⟨fun q => absurd q (by decide), fun _ => mN_y hp h1 hv ⟨fun q => absurd q (by decide), fun _ => ?_⟩⟩
          rw [show (9999 : Int64) = (nI 10000 - 1).toInt64 from rfl]
          refine mr_y ht (by decide) ⟨fun _ => sM_arrivalOf (nt_ok hp ho.2.1) (NM_PL h1.1 h1.2.1) hu hv (by omega) (fun f g hA => ?_), fun q => absurd q (by decide)⟩
          have s : SamM [278, 279] [] I1 (mem2 I1 f g) := SamM.rf.m2 (by simp) (by simp)
          have hJ := H _ (SR_sam h1 s (by simp) (by simp)) (f1.tr (MF_sam s (by simp)))
          rw [eINF, ieq (by omega) (by omega)]
          refine ⟨fun q => ?_, fun q => ?_⟩
          · rw [if_pos (by have : nNc (nt (wP w) (wX w)) = pNc (wP w) := rfl; omega)] at hJ; exact hJ
          · rw [if_neg (by omega)] at hJ; exact hJ)⟩
        · refine sX_arrivals (nt_ok hp ho.2.1) (NX_PL hs.1 hs.2.1) hu (by omega) (fun f hf => ⟨rfl, ci (by omega) (by decide), ?_⟩)
          have s : Same [46] I (upA I 46 f) := Same.rf.up (by simp)
          have hJ := H _ (SX_sam hs s (by simp) (CX_sam hs.2.2.2.2.1 s (by simp))) (XF_sam s (by simp))
          have e46 : upA I 46 f 46 (nI v).toNatClampNeg = xv (ea (nt (wP w) (wX w)) u t v) := by rw [cl (by omega), show upA I 46 f 46 = f from if_pos rfl]; exact hf v hv
          rw [e46, xv_eq hle]
          refine ⟨fun q => ?_, fun q => ?_⟩
          · have hlt : ea (nt (wP w) (wX w)) u t v < INF := by have : nNc (nt (wP w) (wX w)) = pNc (wP w) := rfl; omega
            rw [if_pos hlt] at hJ; rw [xv_fin hlt]; exact hJ
          · rw [if_neg (by omega)] at hJ; exact hJ
        · rw [show (9999 : Int32) = nI 9999 from rfl, ile (by omega) (by decide)]; omega)
theorem t_isOpen {b : Nat} (a d : Int32) : Spp b mX11_isOpen mX12_isOpen [.ref 0, .int a, .int d] [.ref 261, .int a, .int d] := stp_rd (fun w ho => by
  have hp := ho.1
  have hsc := hp.2.2.1
  rcases in_or (a := a) (n := pSc (wP w)) (by omega) with ha | ⟨k, hk, e⟩
  · exact ⟨-1, fun I Q hs H => rX11_isOpen (xS_n hs ha ⟨fun _ => H I hs XF.rf, fun q => absurd rfl q⟩), fun I Q hs H => rX12_isOpen (fun I1 e => by
      obtain ⟨h1, f1⟩ := SR_fl hs e
      exact mS_n hp h1 ha ⟨fun _ => H I1 h1 f1, fun q => absurd rfl q⟩)⟩
  · subst e
    rcases neg_or d with hd | ⟨t, ht, e, hd⟩
    · exact ⟨-1, fun I Q hs H => rX11_isOpen (xS_y hp hs hk ⟨fun q => absurd q (by decide), fun _ => ⟨fun q => absurd q hd, fun _ => H I hs XF.rf⟩⟩), fun I Q hs H => rX12_isOpen (fun I1 e => by
        obtain ⟨h1, f1⟩ := SR_fl hs e
        exact mS_y hp h1 hk ⟨fun q => absurd q (by decide), fun _ => ⟨fun q => absurd q hd, fun _ => H I1 h1 f1⟩⟩)⟩
    · subst e
      have hg := ho.2.1.2.2.2.1 k hk
      refine ⟨if lT (wX w) k = 0 ∨ (lF (wX w) k ≤ t ∧ t < lT (wX w) k) then 1 else 0, fun I Q hs H => rX11_isOpen (xS_y hp hs hk ⟨fun q => absurd q (by decide), fun _ => ⟨fun _ => ⟨ci (by omega) (by decide), ?_⟩, fun q => absurd hd q⟩⟩), fun I Q hs H => rX12_isOpen (fun I1 e => by
        obtain ⟨h1, f1⟩ := SR_fl hs e
        refine mS_y hp h1 hk ⟨fun q => absurd q (by decide), fun _ => ⟨fun _ => ?_, fun q => absurd hd q⟩⟩
        have hJ := H I1 h1 f1
        obtain ⟨g1, g2⟩ := h1.2.1.2.2.2.2.2.1 k hk
        rw [Nat.zero_add, Nat.zero_add] at g2
        rw [Nat.zero_add] at g1
        rw [show (97 : Int32) = nI 97 from rfl, show (115 : Int32) = nI 115 from rfl, nI_add, nI_add, cl (by omega), cl (by omega)]
        refine ⟨ci (by omega) (by decide), fun q => rX12_isOpen_61 ?_, fun q => ?_⟩
        · by_cases h0 : lT (wX w) k = 0
          · rw [if_pos (Or.inl h0)] at hJ; exact hJ
          · rw [(g2 h0).1] at q
            exact absurd q (nI_pos (by omega))
        · have h0 : lT (wX w) k ≠ 0 := fun z => by rw [g1 z] at q; exact q (by decide)
          rw [(g2 h0).1, (g2 h0).2]
          refine ⟨ci (by omega) (by decide), ci (by omega) (by decide), ?_⟩
          have e3 : nI (lT (wX w) k) - 1 = nI (lT (wX w) k - 1) := by
            obtain ⟨m, hm⟩ : ∃ m, lT (wX w) k = m + 1 := ⟨lT (wX w) k - 1, by omega⟩
            rw [hm]; exact nI_pred m
          rw [e3]
          by_cases hin : lF (wX w) k ≤ t ∧ t < lT (wX w) k
          · rw [if_pos (Or.inr hin)] at hJ
            exact mw_y (by rw [ile (by omega) (by omega)]; omega) (by rw [ile (by omega) (by omega)]; omega) ⟨fun q => absurd q (by decide), fun _ => rX12_isOpen_61 hJ⟩
          · rw [if_neg (fun z => z.elim h0 hin)] at hJ
            exact mw_n (fun z => by rw [ile (by omega) (by omega), ile (by omega) (by omega)] at z; omega) ⟨fun _ => hJ, fun q => absurd rfl q⟩)⟩
      have hJ := H I hs XF.rf
      have e34 : I 34 k = nI (lT (wX w) k) := (hs.2.1.2.2.2.2.1 k hk).2
      have e33 : I 33 k = nI (lF (wX w) k) := (hs.2.1.2.2.2.2.1 k hk).1
      rw [cl (by omega), e34, e33, nI_zero, ieq (by omega) (by decide), ilt (by omega) (by omega), ile (by omega) (by omega)]
      have yes : (lT (wX w) k = 0 ∨ (lF (wX w) k ≤ t ∧ t < lT (wX w) k)) → ∀ l3, LX11_isOpen_46 (nI k) (nI t) l3 I Q := fun z l3 => by
        rw [if_pos z] at hJ
        exact rX11_isOpen_46 (rX11_isOpen_51 ⟨fun q => absurd q (by decide), fun _ => hJ⟩)
      have no : ¬ (lT (wX w) k = 0 ∨ (lF (wX w) k ≤ t ∧ t < lT (wX w) k)) → ∀ l3, LX11_isOpen_50 (nI k) (nI t) l3 I Q := fun z l3 => by
        rw [if_neg z] at hJ
        exact rX11_isOpen_50 (rX11_isOpen_51 ⟨fun _ => hJ, fun q => absurd rfl q⟩)
      exact ⟨fun q => yes (Or.inl q) _, fun q => ⟨ci (by omega) (by decide), fun z => no (fun y => by omega) _, fun z => ⟨fun y => no (fun y' => by omega) _, fun y => yes (by omega) _⟩⟩⟩)
def sumI (f : Nat → Int32) : Nat → Int32
  | 0 => 0
  | n + 1 => sumI f n + f n
theorem t_bottlesOut {b : Nat} : Spp b mX11_bottlesOut mX12_bottlesOut [.ref 0] [.ref 261] := stp_rd (fun w ho => by
  have hp := ho.1
  have hhc := hp.2.2.2.1
  refine ⟨sumI (lBo (wX w)) (pHc (wP w)), fun I Q hs H => ?_, fun I Q hs H => rX12_bottlesOut (fun I1 e => ?_)⟩
  · have go : ∀ (m h : Nat), m + h = pHc (wP w) → LX11_bottlesOut_4 (sumI (lBo (wX w)) h) (nI h) I Q := by
      intro m
      induction m with
      | zero =>
        intro h hm
        have : h = pHc (wP w) := by omega
        subst this
        refine rX11_bottlesOut_4 ⟨fun _ => H I hs XF.rf, fun q => absurd ?_ q⟩
        rw [hs.1.2.2.1, ile (by omega) (by omega)]; omega
      | succ m ih =>
        intro h hm
        refine rX11_bottlesOut_4 ⟨fun q => ?_, fun _ => ⟨ci (by omega) (by decide), ?_⟩⟩
        · rw [hs.1.2.2.1, ile (by omega) (by omega)] at q; omega
        · rw [cl (by omega), show I 35 h = lBo (wX w) h from (hs.2.1.2.2.2.1 h (by omega)).2.1, nI_s]
          exact ih (h + 1) (by omega)
    exact rX11_bottlesOut (go (pHc (wP w)) 0 (by omega))
  · obtain ⟨h1, f1⟩ := SR_fl hs e
    have hJ := H I1 h1 f1
    have go : ∀ (m h : Nat), m + h = 12 → LX12_bottlesOut_9 (sumI (lBo (wX w)) (min h (pHc (wP w)))) (nI h) I1 Q := by
      intro m
      induction m with
      | zero =>
        intro h hm
        have : h = 12 := by omega
        subst this
        rw [Nat.min_eq_right (by omega)]
        exact rX12_bottlesOut_9 ⟨fun _ => hJ, fun q => absurd (by rw [show (12 : Int32) = nI 12 from rfl, ile (by decide) (by decide)]; omega) q⟩
      | succ m ih =>
        intro h hm
        refine rX12_bottlesOut_9 ⟨fun q => ?_, fun _ => ?_⟩
        · rw [show (12 : Int32) = nI 12 from rfl, ile (by decide) (by omega)] at q; omega
        · rw [show (145 : Int32) = nI 145 from rfl, nI_add, cl (by omega), nI_s]
          refine ⟨ci (by omega) (by decide), ?_⟩
          have nx := ih (h + 1) (by omega)
          by_cases hh : h < pHc (wP w)
          · rw [zp h (I1 274) 145 (h1.2.1.2.2.2.1 h hh).2.1, Nat.min_eq_left (by omega)]
            rw [Nat.min_eq_left (by omega)] at nx
            exact nx
          · rw [zp h (I1 274) 145 (h1.2.1.2.2.2.2.1 h (by omega) (by omega)), Nat.min_eq_right (by omega), Int32.add_zero]
            rw [Nat.min_eq_right (by omega)] at nx
            exact nx
    have := go 12 0 rfl
    rw [Nat.zero_min] at this
    exact this)
