/-! carrying out, undo, snapshots -/
theorem t_carryOut {b : Nat} (hb : b + 1 ≤ 100000) (a : Int32) : Spp b mX11_carryOut mX12_carryOut [.ref 0, .int a] [.ref 261, .int a] := stp_of (fun w ho => by
  have hp := ho.1
  have hro := rte_ok (x := wX w) hp a
  rcases ch_or a with ha | ⟨a0, a1, a2, ha⟩
  · cases hr : rtb (wP w) (wX w) a with
    | false =>
      refine ⟨w, -2, WOk_up ho, fun I Q hs H => rX11_carryOut (xC_y ha ⟨fun _ => sX_chooseRoute hp ho.2.1 (by omega) hs.1 hs.2.1 hs.2.2.2.2.1 (fun J r k s => ?_), fun q => absurd q (by decide)⟩), fun I Q hs H => rX12_carryOut (fun I1 e => by
        obtain ⟨h1, f1⟩ := SR_fl hs e
        refine mC_y ha ⟨fun _ => sM_layOrder hp ho.2.1 (by omega) h1.1 h1.2.1 (fun J r s => ?_), fun q => absurd q (by decide)⟩
        rw [hr]
        exact ⟨fun q => absurd rfl q, fun _ => H J (SR_sam h1 s (by simp) (by simp)) (f1.tr (MF_sam s (by simp)))⟩)⟩
      rw [hr]
      exact ⟨fun q => absurd rfl q, fun _ => H J (SX_sam hs s (by simp) k) (XF_sam s (by simp))⟩
    | true =>
      obtain ⟨tk1, tk2⟩ := trav_ok hp ho.2.1 hro
      refine ⟨wx (wh w) (nxt (wP w) (wX w) (trav (wP w) (wX w) (rte (wP w) (wX w) a))), nI (kV (trav (wP w) (wX w) (rte (wP w) (wX w) a))).length, WOk_ch ho (nxt_ok ho.2.1 tk1), fun I Q hs H => rX11_carryOut (xC_y ha ⟨fun _ => sX_chooseRoute hp ho.2.1 (by omega) hs.1 hs.2.1 hs.2.2.2.2.1 (fun J r k s => ?_), fun q => absurd q (by decide)⟩), fun I Q hs H => rX12_carryOut (fun I1 e => by
        obtain ⟨h1, f1⟩ := SR_fl hs e
        refine mC_y ha ⟨fun _ => sM_layOrder hp ho.2.1 (by omega) h1.1 h1.2.1 (fun J r s => ?_), fun q => absurd q (by decide)⟩
        rw [hr]
        have hJ := SR_sam h1 s (by simp) (by simp)
        refine ⟨fun _ => mKeep ho hJ (fun K hK sK => ?_), fun q => absurd q (by decide)⟩
        have rK : RtM (rte (wP w) (wX w) a) K := by unfold RtM; rw [sK.2 30 (by simp), sK.1 280 (by decide) (by simp)]; exact r hr
        refine sM_play hp ho.2.1 (by omega) hK.1 hK.2.1 rK hro.1 hro.2.1 hro.2.2 (fun L t sL => ?_)
        have hL := SR_sam hK sL (by simp) (by simp)
        refine sM_close hp ho.2.1 hb hL.1 hL.2.1 t tk1 tk2 (fun M hM sM => ?_)
        exact H M (SR_led hL hM sM) (f1.tr ((MF_sam s (by simp)).tr ((MF_sam sK (by simp)).tr ((MF_sam sL (by simp)).tr (MF_sam sM (by simp)))))))⟩
      rw [hr]
      have hJ := SX_sam hs s (by simp) k
      refine ⟨fun _ => sX_travel hp ho.2.1 (by omega) hJ.1 hJ.2.1 r hro.1 hro.2.1 hro.2.2 (fun K t sK => ?_), fun q => absurd q (by decide)⟩
      have hK := SX_sam hJ sK (by simp) (CX_sam k sK (by simp))
      refine xBegin ho hK (fun L hL h9 eL => ?_)
      have tL : TX (wP w) (wX w) (rte (wP w) (wX w) a) L := by
        unfold TX VL
        rw [eL 57 (by decide), eL 58 (by decide), eL 59 (by decide), eL 60 (by decide)]
        exact t
      refine sX_close hp ho.2.1 (by omega) hL.1 hL.2.1 tL tk1 tk2 (fun M hM sM => ?_)
      have f : ∀ c, c < 30 ∨ 43 < c → M c = L c := fun c hc => sM c (by simp; omega)
      exact H M (SX_led hL h9 hM f) (fun c hc => (f c (by omega)).trans ((eL c (by omega)).trans ((XF_sam sK (by simp) c hc).trans (XF_sam s (by simp) c hc))))
  · exact ⟨w, -1, WOk_up ho, fun I Q hs H => rX11_carryOut (xC_n ⟨a0, a1, a2⟩ ⟨fun q => absurd rfl q, fun _ => H I hs XF.rf⟩), fun I Q hs H => rX12_carryOut (fun I1 e => by
      obtain ⟨h1, f1⟩ := SR_fl hs e
      exact mC_n ha ⟨fun q => absurd rfl q, fun _ => H I1 h1 f1⟩)⟩)
theorem e332 : (332 : Int32) = nI 332 := rfl
theorem t_undo {b : Nat} : Spp b mX11_undo mX12_undo [.ref 0] [.ref 261] := stp_of (fun w ho => by
  have hp := ho.1
  cases hh : wH w with
  | nil =>
    refine ⟨w, -2, WOk_up ho, fun I Q hs H => rX11_undo ⟨fun q => absurd ?_ q, fun _ => H I hs XF.rf⟩, fun I Q hs H => rX12_undo (fun I1 e => by
      obtain ⟨h1, f1⟩ := SR_fl hs e
      refine ⟨fun q => absurd ?_ q, fun _ => H I1 h1 f1⟩
      have := h1.2.2.1.2.1
      rw [hh] at this
      exact this)⟩
    have := hs.2.2.1.2.1
    rw [hh] at this
    exact this
  | cons y t =>
    have hy : LdOk (wP w) b y := ho.2.2.1 y (by rw [hh]; simp)
    have hyv := hy.2.2.2.2.2
    refine ⟨(wP w, y, t, wS w, wN w, wG w), nI t.length, ⟨hp, LdOk_up hy, fun z hz => LdOk_up (ho.2.2.1 z (by rw [hh]; exact List.mem_cons_of_mem _ hz)), fun j z hj hz => LdOk_up (ho.2.2.2.1 j z hj hz), ho.2.2.2.2.1, ho.2.2.2.2.2⟩, fun I Q hs H => ?_, fun I Q hs H => rX12_undo (fun I1 e => by
      obtain ⟨h1, f1⟩ := SR_fl hs e
      obtain ⟨g1, g2, g3, g4, g5⟩ := h1
      rw [hh] at g3
      obtain ⟨u1, u2, u3⟩ := g3
      simp only [List.length_cons] at u1 u2 u3
      refine ⟨fun _ I2 e2 => ?_, fun q => ?_⟩
      · have d24 : I2 261 24 = nI t.length := by rw [e2, up2_same, u2]; exact nI_pred _
        have s2 : SamM [274] [24] I1 I2 := by rw [e2]; exact SamM.rf.fk (by simp)
        have go : ∀ (m k : Nat) (J : MI), m + k = 332 → J 261 24 = nI t.length → SamM [274] [24] I1 J → (∀ i, i < k → J 274 i = I1 275 (332 * t.length + i)) → LX12_undo_27 (nI k) J Q := by
          intro m
          induction m with
          | zero =>
            intro k J hm j24 sj gj
            have : k = 332 := by omega
            subst this
            refine rX12_undo_27 ⟨fun _ => ?_, fun q => absurd (by rw [e332, ile (by decide) (by decide)]; omega) q⟩
            rw [j24]
            refine H J ⟨PM_sam g1 sj (by simp), LM_cp hp hyv (u3 0 y rfl) (fun k hk => ?_), ⟨by show t.length ≤ 12; omega, j24, fun i z hz => ?_⟩, SlM_of g4 (sj.1 276 (by decide) (by simp)) (sj.1 277 (by decide) (by simp)), BM_of g5 (sj.2 2 (by simp)) (sj.1 262 (by decide) (by simp))⟩ (f1.tr (MF_sam sj (by simp)))
            · rw [Nat.zero_add, gj k hk, show t.length + 1 - 1 - 0 = t.length by omega]
            · have := u3 (i + 1) z (by simpa using hz)
              rw [show t.length + 1 - 1 - (i + 1) = t.length - 1 - i by omega] at this
              exact LM_of this (sj.1 275 (by decide) (by simp))
          | succ m ih =>
            intro k J hm j24 sj gj
            refine rX12_undo_27 ⟨fun q => ?_, fun _ => ?_⟩
            · rw [e332, ile (by decide) (by omega)] at q; omega
            · rw [j24, show (332 : Int32) * nI t.length = nI (332 * t.length) from pk_mul 332 _, nI_add, cl (by omega), cl (by omega), sj.1 275 (by decide) (by simp)]
              refine ⟨ci (by omega) (by decide), ci (by omega) (by decide), fun K eK => ?_⟩
              rw [nI_s]
              refine ih (k + 1) K (by omega) (by rw [eK, up2_cell _ _ _ (by decide)]; exact j24) (by rw [eK]; exact sj.u2 (by simp) (by decide)) (fun i hi => ?_)
              rw [eK]
              by_cases ei : i = k
              · rw [up2_e _ _ ei, ei]
              · rw [up2_slot _ _ ei]; exact gj i (by omega)
        exact go 332 0 I2 rfl d24 s2 (fun i hi => absurd hi (Nat.not_lt_zero i))
      · rw [u2, nI_zero, ieq (by omega) (by decide)] at q; omega)⟩
    obtain ⟨h1, h2, h3, h4, h5, h6, h7⟩ := hs
    rw [hh] at h3
    have hc := h3.2.1
    have hl := h3.1
    simp only [List.length_cons] at hc hl
    refine rX11_undo ⟨fun _ => sX_recall hp hyv h3 (fun J lJ hJ eJ => rX1_forget (fun K eK => ?_)), fun q => ?_⟩
    · have o : ∀ c, c ≠ 50 → K c = J c := fun c hc => by rw [eK, up2_cell _ _ _ hc]
      have e : ∀ c, c < 30 ∨ (43 < c ∧ c ≠ 50 ∧ c ≠ 61) → K c = I c := fun c hc => (o c (by omega)).trans (eJ c (by omega))
      rw [o 61 (by decide), hJ.2.1]
      exact H K ⟨PX_of h1 (fun i _ _ => e i (by omega)), LX_of lJ (fun i _ _ => o i (by omega)), HX_of hJ (fun i _ _ => o i (by omega)), SlX_of h4 (fun i _ _ => e i (by omega)), Or.inl (by rw [eK, up2_same]), Scr_of h6 (fun i _ => e i (by omega)), BX_of h7 (e 1 (by decide)) (e 2 (by decide))⟩ (fun c hc => e c (by omega))
    · rw [hc, nI_zero, ieq (by omega) (by decide)] at q; omega)
theorem in02 {a : Int32} (h : a < 0 ∨ nI 2 ≤ a) {I : MI} {Q : Int32 → MI → Prop} (H : Q 0 I) : Wi mX11_isSlot [.int a] I Q :=
  rX11_isSlot ⟨fun _ => H, fun q => ⟨fun _ => H, fun z => (by rcases h with y | y; exact absurd y q; exact absurd y z)⟩⟩
theorem in02y {j : Nat} (h : j < 2) {I : MI} {Q : Int32 → MI → Prop} (H : Q 1 I) : Wi mX11_isSlot [.int (nI j)] I Q :=
  rX11_isSlot ⟨fun q => absurd q (nI_pos (by omega)), fun _ => ⟨fun q => by rw [show (2 : Int32) = nI 2 from rfl, ile (by decide) (by omega)] at q; omega, fun _ => H⟩⟩
theorem t_saveSnapshot {b : Nat} (a : Int32) : Spp b mX11_saveSnapshot mX12_saveSnapshot [.ref 0, .int a] [.ref 261, .int a] := stp_of (fun w ho => by
  have hp := ho.1
  have hv := ho.2.1.2.2.2.2.2
  have e1 : (1 : Int64) = (nI 2 - 1).toInt64 := rfl
  rcases in_or (a := a) (n := 2) (by decide) with ha | ⟨j, hj, e⟩
  · exact ⟨w, 0, WOk_up ho, fun I Q hs H => rX11_saveSnapshot (in02 ha ⟨fun q => absurd rfl q, fun _ => H I hs XF.rf⟩), fun I Q hs H => rX12_saveSnapshot (fun I1 e => by
      obtain ⟨h1, f1⟩ := SR_fl hs e
      rw [e1]
      exact mr_n ha (by decide) ⟨fun q => absurd rfl q, fun _ => H I1 h1 f1⟩)⟩
  · subst e
    obtain ⟨r1, r2, r3⟩ := st_slot j hj
    have vn : vp_nar .boolean 1 = (1 : Int32) := rfl
    refine ⟨(wP w, wX w, wH w, (fun i => if i = j then some (wX w) else wS w i), wN w, wG w), 1, ⟨hp, LdOk_up ho.2.1, fun y hy => LdOk_up (ho.2.2.1 y hy), fun i y hi hy => ?_, ho.2.2.2.2.1, ho.2.2.2.2.2⟩, fun I Q hs H => rX11_saveSnapshot (in02y hj ⟨fun _ => ?_, fun q => absurd q (by decide)⟩), fun I Q hs H => rX12_saveSnapshot (fun I1 e => by
      obtain ⟨h1, f1⟩ := SR_fl hs e
      obtain ⟨g1, g2, g3, g4, g5⟩ := h1
      rw [e1]
      refine mr_y hj (by decide) ⟨fun _ => ?_, fun q => absurd q (by decide)⟩
      have go : ∀ (m k : Nat) (J : MI), m + k = 332 → SamM [276] [] I1 J → (∀ i, i < k → J 276 (332 * j + i) = I1 274 i) → (∀ i, i < 332 * j ∨ 332 * j + 332 ≤ i → J 276 i = I1 276 i) → LX12_saveSnapshot_19 (nI j) (nI k) J Q := by
        intro m
        induction m with
        | zero =>
          intro k J hm sj gj go2
          have : k = 332 := by omega
          subst this
          refine rX12_saveSnapshot_19 ⟨fun _ => ?_, fun q => absurd (by rw [e332, ile (by decide) (by decide)]; omega) q⟩
          rw [cl (by omega), vn]
          refine ⟨ci (by omega) (by decide), fun K eK => ?_⟩
          have sK : SamM [276, 277] [] I1 K := by rw [eK]; exact (sj.mo (by simp) (by simp)).u2 (by simp) (by decide)
          have o276 : K 276 = J 276 := by rw [eK, up2_cell _ _ _ (by decide)]
          refine H K ⟨PM_sam g1 sK (by simp), LM_sam g2 sK (by decide) (by simp), HM_of g3 (sK.2 24 (by simp)) (sK.1 275 (by decide) (by simp)), fun i hi => ?_, BM_of g5 (sK.2 2 (by simp)) (sK.1 262 (by decide) (by simp))⟩ (f1.tr (MF_sam sK (by simp)))
          show K 277 i = bI ((if i = j then some (wX w) else wS w i).isSome) ∧ ∀ y, (if i = j then some (wX w) else wS w i) = some y → LM 276 (332 * i) (wP w) y K
          by_cases ei : i = j
          · subst ei
            rw [if_pos rfl]
            refine ⟨by rw [eK, up2_same]; rfl, fun y hy => ?_⟩
            cases hy
            refine LM_cp hp hv g2 (fun k hk => ?_)
            rw [o276, gj k hk, Nat.zero_add]
          · rw [if_neg ei]
            obtain ⟨s1, s2⟩ := g4 i hi
            refine ⟨by rw [eK, up2_slot _ _ ei, sj.1 277 (by decide) (by simp)]; exact s1, fun y hy => ?_⟩
            refine LM_cp hp (ho.2.2.2.1 i y hi hy).2.2.2.2.2 (s2 y hy) (fun k hk => ?_)
            rw [o276]
            exact go2 _ (by omega)
        | succ m ih =>
          intro k J hm sj gj go2
          refine rX12_saveSnapshot_19 ⟨fun q => ?_, fun _ => ?_⟩
          · rw [e332, ile (by decide) (by omega)] at q; omega
          · rw [show (332 : Int32) * nI j = nI (332 * j) from pk_mul 332 _, nI_add, cl (by omega), cl (by omega), sj.1 274 (by decide) (by simp)]
            refine ⟨ci (by omega) (by decide), ci (by omega) (by decide), fun K eK => ?_⟩
            rw [nI_s]
            refine ih (k + 1) K (by omega) (by rw [eK]; exact sj.u2 (by simp) (by decide)) (fun i hi => ?_) (fun i hi => ?_)
            · rw [eK]
              by_cases ei : i = k
              · rw [up2_e _ _ (by omega), ei]
              · rw [up2_slot _ _ (by omega)]; exact gj i (by omega)
            · rw [eK, up2_slot _ _ (by omega)]; exact go2 i hi
      exact go 332 0 I1 rfl SamM.rf (fun i hi => absurd hi (Nat.not_lt_zero i)) (fun _ _ => rfl))⟩
    · have hy' : (if i = j then some (wX w) else wS w i) = some y := hy
      by_cases ei : i = j
      · rw [if_pos ei] at hy'; cases hy'; exact LdOk_up ho.2.1
      · rw [if_neg ei] at hy'; exact LdOk_up (ho.2.2.2.1 i y hi hy')
    · obtain ⟨h1, h2, h3, h4, h5, h6, h7⟩ := hs
      rw [cl (by omega), vn]
      refine ⟨ci (by omega) (by decide), _, r1, r2, r3, sX_copy (is_slot j hj) is_30 (Or.inr (by omega)) (fun J hJ => ⟨ci (by omega) (by decide), fun K eK => ?_⟩)⟩
      have o : ∀ c, c ≠ 260 → K c = J c := fun c hc => by rw [eK, up2_cell _ _ _ hc]
      have e : ∀ c, c < 231 ∨ 260 < c → K c = I c := fun c hc => (o c (by omega)).trans (hJ.1 c (by omega))
      refine H K ⟨PX_of h1 (fun i _ _ => e i (by omega)), LX_of h2 (fun i _ _ => e i (by omega)), HX_of h3 (fun i _ _ => e i (by omega)), fun i hi => ?_, CX_of h5 (fun i _ => e i (by omega)), Scr_of h6 (fun i _ => e i (by omega)), BX_of h7 (e 1 (by decide)) (e 2 (by decide))⟩ (fun c hc => e c (by omega))
      show K 260 i = bI ((if i = j then some (wX w) else wS w i).isSome) ∧ ∀ y, (if i = j then some (wX w) else wS w i) = some y → LX (232 + 14 * i) (wP w) y K
      by_cases ei : i = j
      · subst ei
        rw [if_pos rfl]
        refine ⟨by rw [eK, up2_same]; rfl, fun y hy => ?_⟩
        cases hy
        exact LX_of (LX_cp hp hv hJ h2) (fun c _ _ => o c (by omega))
      · rw [if_neg ei]
        obtain ⟨s1, s2⟩ := h4 i hi
        refine ⟨by rw [eK, up2_slot _ _ ei, hJ.1 260 (by omega)]; exact s1, fun y hy => LX_of (s2 y hy) (fun c c1 c2 => ?_)⟩
        rw [o c (by omega)]
        exact hJ.1 c (by omega))
theorem t_restoreSnapshot {b : Nat} (a : Int32) : Spp b mX11_restoreSnapshot mX12_restoreSnapshot [.ref 0, .int a] [.ref 261, .int a] := stp_of (fun w ho => by
  have hp := ho.1
  have e1 : (1 : Int64) = (nI 2 - 1).toInt64 := rfl
  rcases in_or (a := a) (n := 2) (by decide) with ha | ⟨j, hj, e⟩
  · exact ⟨w, 0, WOk_up ho, fun I Q hs H => rX11_restoreSnapshot (in02 ha ⟨fun _ => H I hs XF.rf, fun q => absurd rfl q⟩), fun I Q hs H => rX12_restoreSnapshot (fun I1 e => by
      obtain ⟨h1, f1⟩ := SR_fl hs e
      rw [e1]
      exact mr_n ha (by decide) ⟨fun _ => H I1 h1 f1, fun q => absurd rfl q⟩)⟩
  · subst e
    obtain ⟨r1, r2, r3⟩ := st_slot j hj
    cases hsn : wS w j with
    | none =>
      refine ⟨w, 0, WOk_up ho, fun I Q hs H => rX11_restoreSnapshot (in02y hj ⟨fun q => absurd q (by decide), fun _ => ⟨ci (by omega) (by decide), ?_⟩⟩), fun I Q hs H => rX12_restoreSnapshot (fun I1 e => by
        obtain ⟨h1, f1⟩ := SR_fl hs e
        rw [e1]
        have := (h1.2.2.2.1 j hj).1
        rw [hsn] at this
        refine mr_y hj (by decide) ⟨fun q => absurd q (by decide), fun _ => ⟨ci (by omega) (by decide), ?_⟩⟩
        rw [cl (by omega), this]
        exact ⟨fun q => absurd rfl q, fun _ => H I1 h1 f1⟩)⟩
      have := (hs.2.2.2.1 j hj).1
      rw [hsn] at this
      rw [cl (by omega), this]
      exact ⟨fun q => absurd rfl q, fun _ => H I hs XF.rf⟩
    | some y =>
      have hy := ho.2.2.2.1 j y hj hsn
      have hyv := hy.2.2.2.2.2
      refine ⟨(wP w, y, [], wS w, wN w, wG w), 1, ⟨hp, LdOk_up hy, fun z hz => (by cases hz), fun i z hi hz => LdOk_up (ho.2.2.2.1 i z hi hz), ho.2.2.2.2.1, ho.2.2.2.2.2⟩, fun I Q hs H => rX11_restoreSnapshot (in02y hj ⟨fun q => absurd q (by decide), fun _ => ⟨ci (by omega) (by decide), ?_⟩⟩), fun I Q hs H => rX12_restoreSnapshot (fun I1 e => by
        obtain ⟨h1, f1⟩ := SR_fl hs e
        obtain ⟨g1, g2, g3, g4, g5⟩ := h1
        rw [e1]
        obtain ⟨s1, s2⟩ := g4 j hj
        rw [hsn] at s1
        refine mr_y hj (by decide) ⟨fun q => absurd q (by decide), fun _ => ⟨ci (by omega) (by decide), ?_⟩⟩
        rw [cl (by omega), s1]
        refine ⟨fun _ => ?_, fun q => absurd q (by simp [bI])⟩
        have go : ∀ (m k : Nat) (J : MI), m + k = 332 → SamM [274] [] I1 J → (∀ i, i < k → J 274 i = I1 276 (332 * j + i)) → LX12_restoreSnapshot_28 (nI j) (nI k) J Q := by
          intro m
          induction m with
          | zero =>
            intro k J hm sj gj
            have : k = 332 := by omega
            subst this
            refine rX12_restoreSnapshot_28 ⟨fun _ K eK => ?_, fun q => absurd (by rw [e332, ile (by decide) (by decide)]; omega) q⟩
            have sK : SamM [274] [24] I1 K := by rw [eK]; exact (sj.mo (by simp) (by simp)).fk (by simp)
            refine H K ⟨PM_sam g1 sK (by simp), LM_cp hp hyv (s2 y hsn) (fun k hk => ?_), ⟨Nat.zero_le _, by rw [eK, up2_same]; rfl, fun i z hz => by have hz' : ([] : List Ld)[i]? = some z := hz; simp at hz'⟩, SlM_of g4 (sK.1 276 (by decide) (by simp)) (sK.1 277 (by decide) (by simp)), BM_of g5 (sK.2 2 (by simp)) (sK.1 262 (by decide) (by simp))⟩ (f1.tr (MF_sam sK (by simp)))
            rw [eK, up2_cell _ _ _ (by decide), Nat.zero_add]
            exact gj k hk
          | succ m ih =>
            intro k J hm sj gj
            refine rX12_restoreSnapshot_28 ⟨fun q => ?_, fun _ => ?_⟩
            · rw [e332, ile (by decide) (by omega)] at q; omega
            · rw [show (332 : Int32) * nI j = nI (332 * j) from pk_mul 332 _, nI_add, cl (by omega), cl (by omega), sj.1 276 (by decide) (by simp)]
              refine ⟨ci (by omega) (by decide), ci (by omega) (by decide), fun K eK => ?_⟩
              rw [nI_s]
              refine ih (k + 1) K (by omega) (by rw [eK]; exact sj.u2 (by simp) (by decide)) (fun i hi => ?_)
              rw [eK]
              by_cases ei : i = k
              · rw [up2_e _ _ ei, ei]
              · rw [up2_slot _ _ ei]; exact gj i (by omega)
        exact go 332 0 I1 rfl SamM.rf (fun i hi => absurd hi (Nat.not_lt_zero i)))⟩
      obtain ⟨h1, h2, h3, h4, h5, h6, h7⟩ := hs
      obtain ⟨s1, s2⟩ := h4 j hj
      rw [hsn] at s1
      rw [cl (by omega), s1]
      refine ⟨fun _ => ⟨ci (by omega) (by decide), _, r1, r2, r3, sX_copy is_30 (is_slot j hj) (Or.inl (by omega)) (fun J hJ => rX2_clear (fun K eK => rX1_forget (fun L eL => ?_)))⟩, fun q => absurd q (by simp [bI])⟩
      have o : ∀ c, c ≠ 61 → c ≠ 50 → L c = J c := fun c h1 h2 => by rw [eL, up2_cell _ _ _ h2, eK, up2_cell _ _ _ h1]
      have e : ∀ c, c < 30 ∨ (43 < c ∧ c ≠ 61 ∧ c ≠ 50) → L c = I c := fun c hc => (o c (by omega) (by omega)).trans (hJ.1 c (by omega))
      obtain ⟨u1, u2, n, u3, u4, u5⟩ := h3
      have l61 : L 61 = K 61 := by rw [eL, up2_cell _ _ _ (by decide)]
      refine H L ⟨PX_of h1 (fun i _ _ => e i (by omega)), LX_of (LX_cp hp hyv hJ (s2 y hsn)) (fun c _ _ => o c (by omega) (by omega)), ⟨Nat.zero_le _, by rw [l61, eK, up2_same]; rfl, n, u3, by rw [l61, eK, up2_slot _ _ (by decide), hJ.1 61 (by decide)]; exact u4, fun i z hz => by have hz' : ([] : List Ld)[i]? = some z := hz; simp at hz'⟩, SlX_of h4 (fun i _ _ => e i (by omega)), Or.inl (by rw [eL, up2_same]), Scr_of h6 (fun i _ => e i (by omega)), BX_of h7 (e 1 (by decide)) (e 2 (by decide))⟩ (fun c hc => e c (by omega)))
