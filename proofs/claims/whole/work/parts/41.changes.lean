/-! changes -/
def wx (w : Wd) (x : Ld) : Wd := (wP w, x, wH w, wS w, wN w, wG w)
def wh (w : Wd) : Wd := (wP w, wX w, (wX w :: wH w).take 12, wS w, wN w, wG w)
theorem WOk_ch {b : Nat} {w : Wd} {x : Ld} (h : WOk b w) (hx : LdOk (wP w) (b + 1) x) : WOk (b + 1) (wx (wh w) x) := by
  refine ⟨h.1, hx, fun y hy => ?_, fun j y hj hy => LdOk_up (h.2.2.2.1 j y hj hy), h.2.2.2.2.1, h.2.2.2.2.2⟩
  have hy' := List.mem_of_mem_take hy
  rcases List.mem_cons.mp hy' with q | q
  · rw [q]; exact LdOk_up h.2.1
  · exact LdOk_up (h.2.2.1 y q)
section
variable {w : Wd} {b : Nat} {I : MI}
theorem SX_led {x : Ld} {J : MI} (h : SX w I) (h9 : I 50 9 = 0) (hx : LX 30 (wP w) x J) (e : ∀ c, c < 30 ∨ 43 < c → J c = I c) : SX (wx w x) J := by
  obtain ⟨h1, h2, h3, h4, h5, h6, h7⟩ := h
  exact ⟨PX_of h1 (fun i _ _ => e i (by omega)), hx, HX_of h3 (fun i _ _ => e i (by omega)), SlX_of h4 (fun i _ _ => e i (by omega)), Or.inl (by rw [e 50 (by decide)]; exact h9), Scr_of h6 (fun i _ => e i (by omega)), BX_of h7 (e 1 (by decide)) (e 2 (by decide))⟩
theorem SR_led {x : Ld} {J : MI} (h : SR w I) (hx : LM 274 0 (wP w) x J) (s : SamM [274] [] I J) : SR (wx w x) J := by
  obtain ⟨h1, h2, h3, h4, h5⟩ := h
  exact ⟨PM_sam h1 s (by simp), hx, HM_of h3 (s.2 24 (by simp)) (s.1 275 (by decide) (by simp)), SlM_of h4 (s.1 276 (by decide) (by simp)) (s.1 277 (by decide) (by simp)), BM_of h5 (s.2 2 (by simp)) (s.1 262 (by decide) (by simp))⟩
theorem xBegin {Q : MI → Prop} (ho : WOk b w) (h : SX w I) (H : ∀ J, SX (wh w) J → J 50 9 = 0 → (∀ c, c < 50 ∨ (50 < c ∧ c < 61) ∨ 230 < c → J c = I c) → Q J) : Wv mX11_beginChange [.ref 0] I Q := by
  obtain ⟨h1, h2, h3, h4, h5, h6, h7⟩ := h
  refine rX11_beginChange (sX_remember ho.1 ho.2.1.2.2.2.2.2 (fun y hy => (ho.2.2.1 y hy).2.2.2.2.2) h2 h3 (fun J hJ eJ => rX1_forget (fun K eK => ?_)))
  have e : ∀ c, c < 50 ∨ (50 < c ∧ c < 61) ∨ 230 < c → K c = I c := fun c hc => by rw [eK, up2_cell _ _ _ (by omega)]; exact eJ c (by omega)
  refine H K ⟨PX_of h1 (fun i _ _ => e i (by omega)), LX_of h2 (fun i _ _ => e i (by omega)), HX_of hJ (fun i _ _ => by rw [eK, up2_cell _ _ _ (by omega)]), SlX_of h4 (fun i _ _ => e i (by omega)), Or.inl (by rw [eK, up2_same]), Scr_of h6 (fun i _ => e i (by omega)), BX_of h7 (e 1 (by decide)) (e 2 (by decide))⟩ (by rw [eK, up2_same]) e
theorem mKeep {Q : MI → Prop} (ho : WOk b w) (h : SR w I) (H : ∀ J, SR (wh w) J → SamM [275] [24] I J → Q J) : Wv mX12_keepState [.ref 261] I Q := by
  obtain ⟨h1, h2, h3, h4, h5⟩ := h
  refine sM_keep ho.1 ho.2.1.2.2.2.2.2 (fun y hy => (ho.2.2.1 y hy).2.2.2.2.2) h2 h3 (fun J hJ s => H J ⟨PM_sam h1 s (by simp), LM_sam h2 s (by decide) (by simp), hJ, SlM_of h4 (s.1 276 (by decide) (by simp)) (s.1 277 (by decide) (by simp)), BM_of h5 (s.2 2 (by simp)) (s.1 262 (by decide) (by simp))⟩ s)
end
theorem t_setKeep {b : Nat} (a c : Int32) : Spp b mX11_setKeep mX12_setKeep [.ref 0, .int a, .int c] [.ref 261, .int a, .int c] := stp_of (fun w ho => by
  have hp := ho.1
  have hhc := hp.2.2.2.1
  rcases in_or (a := a) (n := pHc (wP w)) (by omega) with ha | ⟨h, hh, e⟩
  · exact ⟨w, -1, WOk_up ho, fun I Q hs H => rX11_setKeep (xH_n hs ha ⟨fun _ => H I hs XF.rf, fun q => absurd rfl q⟩), fun I Q hs H => rX12_setKeep (fun I1 e => by
      obtain ⟨h1, f1⟩ := SR_fl hs e
      exact mH_n hp h1 ha ⟨fun _ => H I1 h1 f1, fun q => absurd rfl q⟩)⟩
  · subst e
    rcases in_or (a := c) (n := 10) (by decide) with hc | ⟨d, hd, e⟩
    · refine ⟨w, -1, WOk_up ho, fun I Q hs H => rX11_setKeep (xH_y hp hs hh ⟨fun q => absurd q (by decide), fun _ => ⟨fun _ => H I hs XF.rf, fun q => ⟨fun z => ?_, fun _ => H I hs XF.rf⟩⟩⟩), fun I Q hs H => rX12_setKeep (fun I1 e => by
        obtain ⟨h1, f1⟩ := SR_fl hs e
        refine mH_y hp h1 hh ⟨fun q => absurd q (by decide), fun _ => ?_⟩
        rw [show (9 : Int64) = (nI 10 - 1).toInt64 from rfl]
        exact mr_n hc (by decide) ⟨fun _ => H I1 h1 f1, fun q => absurd rfl q⟩)⟩
      exfalso
      rcases hc with y | y
      · exact q y
      · rw [Int32.le_iff_toInt_le] at y z
        have e1 : (nI 10).toInt = 10 := rfl
        have e2 : (9 : Int32).toInt = 9 := rfl
        omega
    · subst e
      refine ⟨wx (wh w) (sKp (wX w) (upd (lKp (wX w)) h (nI d))), lKp (wX w) h, WOk_ch ho (LdOk_up ho.2.1), fun I Q hs H => rX11_setKeep (xH_y hp hs hh ⟨fun q => absurd q (by decide), fun _ => ⟨fun q => absurd q (nI_pos (by omega)), fun _ => ⟨fun _ => xBegin ho hs (fun J hJ h9 eJ => ⟨ci (by omega) (by decide), ci (by omega) (by decide), fun K eK => ?_⟩), fun q => absurd ?_ q⟩⟩⟩), fun I Q hs H => rX12_setKeep (fun I1 e => by
        obtain ⟨h1, f1⟩ := SR_fl hs e
        refine mH_y hp h1 hh ⟨fun q => absurd q (by decide), fun _ => ?_⟩
        rw [show (9 : Int64) = (nI 10 - 1).toInt64 from rfl]
        refine mr_y hd (by decide) ⟨fun q => absurd q (by decide), fun _ => rX12_exchange (mKeep ho h1 (fun J hJ sJ => ?_))⟩
        rw [show (85 : Int32) = nI 85 from rfl, nI_add, cl (by omega)]
        refine ⟨ci (by omega) (by decide), ci (by omega) (by decide), fun K eK => ?_⟩
        rw [zp h (J 274) 85 (hJ.2.1.2.2.2.1 h hh).1]
        have s : SamM [274] [] J K := by rw [eK]; exact SamM.rf.u2 (by simp) (by decide)
        have hl := LM_Kp (n := h) (y := nI d) hp ho.2.1.2.2.2.2.2 hJ.2.1 hh rfl
        rw [← eK] at hl
        exact H K (SR_led hJ hl s) (f1.tr ((MF_sam sJ (by simp)).tr (MF_sam s (by simp)))))⟩
      · rw [cl (by omega)] at eK ⊢
        rw [show J 32 h = lKp (wX w) h from (hJ.2.1.2.2.2.1 h hh).1]
        have hl := LX_Kp (n := h) (y := nI d) hJ.2.1
        rw [← eK] at hl
        have f : ∀ c, c ≠ 32 → K c = J c := fun c hc => by rw [eK, up2_cell _ _ _ hc]
        exact H K (SX_led hJ h9 hl (fun c hc => f c (by omega))) (fun c hc => (f c (by omega)).trans (eJ c (by omega)))
      · rw [show (9 : Int32) = nI 9 from rfl, ile (by omega) (by decide)]; omega)
theorem t_setOrder {b : Nat} (a c v : Int32) : Spp b mX11_setOrder mX12_setOrder [.ref 0, .int a, .int c, .int v] [.ref 261, .int a, .int c, .int v] := stp_of (fun w ho => by
  have hp := ho.1
  have hhc := hp.2.2.2.1
  rcases in_or (a := a) (n := pHc (wP w)) (by omega) with ha | ⟨h, hh, e⟩
  · exact ⟨w, -1, WOk_up ho, fun I Q hs H => rX11_setOrder (xH_n hs ha ⟨fun _ => H I hs XF.rf, fun q => absurd rfl q⟩), fun I Q hs H => rX12_setOrder (fun I1 e => by
      obtain ⟨h1, f1⟩ := SR_fl hs e
      exact mH_n hp h1 ha ⟨fun _ => H I1 h1 f1, fun q => absurd rfl q⟩)⟩
  · subst e
    rcases in_or (a := c) (n := 7) (by decide) with hc | ⟨d, hd, e⟩
    · exact ⟨w, -1, WOk_up ho, fun I Q hs H => rX11_setOrder (xH_y hp hs hh ⟨fun q => absurd q (by decide), fun _ => xW_n hc ⟨fun _ => H I hs XF.rf, fun q => absurd rfl q⟩⟩), fun I Q hs H => rX12_setOrder (fun I1 e => by
        obtain ⟨h1, f1⟩ := SR_fl hs e
        refine mH_y hp h1 hh ⟨fun q => absurd q (by decide), fun _ => ?_⟩
        rw [show (6 : Int64) = (nI 7 - 1).toInt64 from rfl]
        exact mr_n hc (by decide) ⟨fun _ => H I1 h1 f1, fun q => absurd rfl q⟩)⟩
    · subst e
      rcases in_or (a := v) (n := 10) (by decide) with hv | ⟨u, hu, e⟩
      · refine ⟨w, -1, WOk_up ho, fun I Q hs H => rX11_setOrder (xH_y hp hs hh ⟨fun q => absurd q (by decide), fun _ => xW_y hd ⟨fun q => absurd q (by decide), fun _ => ⟨fun _ => H I hs XF.rf, fun q => ⟨fun z => ?_, fun _ => H I hs XF.rf⟩⟩⟩⟩), fun I Q hs H => rX12_setOrder (fun I1 e => by
          obtain ⟨h1, f1⟩ := SR_fl hs e
          refine mH_y hp h1 hh ⟨fun q => absurd q (by decide), fun _ => ?_⟩
          rw [show (6 : Int64) = (nI 7 - 1).toInt64 from rfl]
          refine mr_y hd (by decide) ⟨fun q => absurd q (by decide), fun _ => ?_⟩
          rw [show (9 : Int64) = (nI 10 - 1).toInt64 from rfl]
          exact mr_n hv (by decide) ⟨fun _ => H I1 h1 f1, fun q => absurd rfl q⟩)⟩
        exfalso
        rcases hv with y | y
        · exact q y
        · rw [Int32.le_iff_toInt_le] at y z
          have e1 : (nI 10).toInt = 10 := rfl
          have e2 : (9 : Int32).toInt = 9 := rfl
          omega
      · subst e
        have e1 : nI h * (7 : Int32) + nI d = nI (7 * h + d) := by rw [show nI h * (7 : Int32) = nI (h * 7) from pk_mul h 7, nI_add, Nat.mul_comm]
        have e2 : (1 : Int32) + (7 : Int32) * nI h + nI d = nI (1 + (7 * h + d)) := by
          rw [show (7 : Int32) * nI h = nI (7 * h) from pk_mul 7 h, show (1 : Int32) + nI (7 * h) = nI (1 + 7 * h) from nI_add 1 _, nI_add, Nat.add_assoc]
        have hlo : LdOk (wP w) (b + 1) (sOr (wX w) (updN (lOr (wX w)) (7 * h + d) u)) := by
          obtain ⟨k1, k2, k3, k4, k5, k6⟩ := LdOk_up ho.2.1
          refine ⟨k1, k2, fun i hi => ?_, k4, k5, k6⟩
          show updN (lOr (wX w)) (7 * h + d) u i ≤ 9
          unfold updN
          split
          · omega
          · exact k3 i hi
        refine ⟨wx (wh w) (sOr (wX w) (updN (lOr (wX w)) (7 * h + d) u)), nI (lOr (wX w) (7 * h + d)), WOk_ch ho hlo, fun I Q hs H => rX11_setOrder (xH_y hp hs hh ⟨fun q => absurd q (by decide), fun _ => xW_y hd ⟨fun q => absurd q (by decide), fun _ => ⟨fun q => absurd q (nI_pos (by omega)), fun _ => ⟨fun _ => xBegin ho hs (fun J hJ h9 eJ => ?_), fun q => absurd ?_ q⟩⟩⟩⟩), fun I Q hs H => rX12_setOrder (fun I1 e => by
          obtain ⟨h1, f1⟩ := SR_fl hs e
          refine mH_y hp h1 hh ⟨fun q => absurd q (by decide), fun _ => ?_⟩
          rw [show (6 : Int64) = (nI 7 - 1).toInt64 from rfl]
          refine mr_y hd (by decide) ⟨fun q => absurd q (by decide), fun _ => ?_⟩
          rw [show (9 : Int64) = (nI 10 - 1).toInt64 from rfl]
          refine mr_y hu (by decide) ⟨fun q => absurd q (by decide), fun _ => rX12_exchange (mKeep ho h1 (fun J hJ sJ => ?_))⟩
          rw [e2, cl (by omega)]
          refine ⟨ci (by omega) (by decide), ci (by omega) (by decide), fun K eK => ?_⟩
          rw [zp (7 * h + d) (J 274) 1 (hJ.2.1.2.2.1 (7 * h + d) (by show 7 * h + d < 7 * pHc (wP w); omega))]
          have s : SamM [274] [] J K := by rw [eK]; exact SamM.rf.u2 (by simp) (by decide)
          have hl := LM_Or (n := 7 * h + d) (v := u) hp ho.2.1.2.2.2.2.2 hJ.2.1 (by omega) rfl
          rw [← eK] at hl
          exact H K (SR_led hJ hl s) (f1.tr ((MF_sam sJ (by simp)).tr (MF_sam s (by simp)))))⟩
        · rw [e1, cl (by omega)]
          refine ⟨ci (by omega) (by decide), ci (by omega) (by decide), fun K eK => ?_⟩
          rw [show J 31 (7 * h + d) = nI (lOr (wX w) (7 * h + d)) from hJ.2.1.2.2.1 (7 * h + d) (by show 7 * h + d < 7 * pHc (wP w); omega)]
          have hl := LX_Or (n := 7 * h + d) (v := u) hJ.2.1
          rw [← eK] at hl
          have f : ∀ c, c ≠ 31 → K c = J c := fun c hc => by rw [eK, up2_cell _ _ _ hc]
          exact H K (SX_led hJ h9 hl (fun c hc => f c (by omega))) (fun c hc => (f c (by omega)).trans (eJ c (by omega)))
        · rw [show (9 : Int32) = nI 9 from rfl, ile (by omega) (by decide)]; omega)
theorem t_breakBottles {b : Nat} (a c : Int32) : Spp b mX11_breakBottles mX12_breakBottles [.ref 0, .int a, .int c] [.ref 261, .int a, .int c] := stp_of (fun w ho => by
  have hp := ho.1
  have hhc := hp.2.2.2.1
  rcases in_or (a := a) (n := pHc (wP w)) (by omega) with ha | ⟨h, hh, e⟩
  · exact ⟨w, -1, WOk_up ho, fun I Q hs H => rX11_breakBottles (xH_n hs ha ⟨fun _ => H I hs XF.rf, fun q => absurd rfl q⟩), fun I Q hs H => rX12_breakBottles (fun I1 e => by
      obtain ⟨h1, f1⟩ := SR_fl hs e
      exact mH_n hp h1 ha ⟨fun _ => H I1 h1 f1, fun q => absurd rfl q⟩)⟩
  · subst e
    have xv35 : ∀ J w', SX w' J → wP w' = wP w → wX w' = wX w → J 35 h = lBo (wX w) h := fun J w' hJ e1 e2 => by
      rw [← e2]; exact (hJ.2.1.2.2.2.1 h (by rw [e1]; exact hh)).2.1
    have mv145 : ∀ J w', SR w' J → wP w' = wP w → wX w' = wX w → J 274 (145 + h) = lBo (wX w) h := fun J w' hJ e1 e2 => by
      rw [← e2]; exact zp h (J 274) 145 (hJ.2.1.2.2.2.1 h (by rw [e1]; exact hh)).2.1
    by_cases hc : 1 ≤ c ∧ c ≤ lBo (wX w) h
    · refine ⟨wx (wh w) (sBr (sBo (wX w) (upd (lBo (wX w)) h (lBo (wX w) h - c))) (upd (lBr (wX w)) h (lBr (wX w) h + c))), lBo (wX w) h - c, WOk_ch ho (LdOk_up ho.2.1), fun I Q hs H => rX11_breakBottles (xH_y hp hs hh ⟨fun q => absurd q (by decide), fun _ => ⟨fun q => ?_, fun q => ⟨ci (by omega) (by decide), ?_⟩⟩⟩), fun I Q hs H => rX12_breakBottles (fun I1 e => by
        obtain ⟨h1, f1⟩ := SR_fl hs e
        refine mH_y hp h1 hh ⟨fun q => absurd q (by decide), fun _ => ?_⟩
        rw [show (145 : Int32) = nI 145 from rfl, show (181 : Int32) = nI 181 from rfl, nI_add, nI_add, cl (by omega), cl (by omega), mv145 I1 w h1 rfl rfl, show (1 : Int64) = (1 : Int32).toInt64 from rfl]
        refine ⟨ci (by omega) (by decide), mw_y hc.1 hc.2 ⟨fun _ => mKeep ho h1 (fun J hJ sJ => ⟨ci (by omega) (by decide), ci (by omega) (by decide), fun K eK => ⟨ci (by omega) (by decide), ci (by omega) (by decide), fun L eL => ⟨ci (by omega) (by decide), ?_⟩⟩⟩), fun q => absurd q (by decide)⟩⟩
        rw [mv145 J (wh w) hJ rfl rfl] at eK
        have l1 := LM_Bo (n := h) (y := lBo (wX w) h - c) hp ho.2.1.2.2.2.2.2 hJ.2.1 hh rfl
        rw [← eK] at l1
        have e181 : K 274 (181 + h) = lBr (wX w) h := by rw [eK, up2_slot _ _ (by omega)]; exact zp h (J 274) 181 (hJ.2.1.2.2.2.1 h hh).2.2.2.2
        rw [e181] at eL
        have l2 := LM_Br (n := h) (y := lBr (wX w) h + c) hp (by exact ho.2.1.2.2.2.2.2) l1 hh rfl
        rw [← eL] at l2
        have s : SamM [274] [] J L := by rw [eL, eK]; exact (SamM.rf.u2 (by simp) (by decide)).u2 (by simp) (by decide)
        have eb : L 274 (145 + h) = lBo (wX w) h - c := by rw [eL, up2_slot _ _ (by omega), eK, up2_same]
        rw [eb]
        exact H L (SR_led hJ l2 s) (f1.tr ((MF_sam sJ (by simp)).tr (MF_sam s (by simp)))))⟩
      · exfalso
        rw [Int32.lt_iff_toInt_lt] at q
        have := Int32.le_iff_toInt_le.mp hc.1
        omega
      · rw [cl (by omega), xv35 I w hs rfl rfl]
        refine ⟨fun _ => xBegin ho hs (fun J hJ h9 eJ => ⟨ci (by omega) (by decide), ci (by omega) (by decide), fun K eK => ⟨ci (by omega) (by decide), ci (by omega) (by decide), fun L eL => ⟨ci (by omega) (by decide), ?_⟩⟩⟩), fun z => absurd hc.2 z⟩
        rw [xv35 J (wh w) hJ rfl rfl] at eK
        have l1 := LX_Bo (n := h) (y := lBo (wX w) h - c) hJ.2.1
        rw [← eK] at l1
        have e38 : K 38 h = lBr (wX w) h := by rw [eK, up2_cell _ _ _ (by decide)]; exact (hJ.2.1.2.2.2.1 h hh).2.2.2.2
        rw [e38] at eL
        have l2 := LX_Br (n := h) (y := lBr (wX w) h + c) l1
        rw [← eL] at l2
        have eb : L 35 h = lBo (wX w) h - c := by rw [eL, up2_cell _ _ _ (by decide), eK, up2_same]
        have f : ∀ c, c ≠ 35 → c ≠ 38 → L c = J c := fun c h1 h2 => by rw [eL, up2_cell _ _ _ h2, eK, up2_cell _ _ _ h1]
        rw [eb]
        exact H L (SX_led hJ h9 l2 (fun c hc => f c (by omega) (by omega))) (fun c hc => (f c (by omega) (by omega)).trans (eJ c (by omega)))
    · refine ⟨w, -1, WOk_up ho, fun I Q hs H => rX11_breakBottles (xH_y hp hs hh ⟨fun q => absurd q (by decide), fun _ => ⟨fun _ => H I hs XF.rf, fun q => ⟨ci (by omega) (by decide), ?_⟩⟩⟩), fun I Q hs H => rX12_breakBottles (fun I1 e => by
        obtain ⟨h1, f1⟩ := SR_fl hs e
        refine mH_y hp h1 hh ⟨fun q => absurd q (by decide), fun _ => ?_⟩
        rw [show (145 : Int32) = nI 145 from rfl, nI_add, cl (by omega), mv145 I1 w h1 rfl rfl, show (1 : Int64) = (1 : Int32).toInt64 from rfl]
        exact ⟨ci (by omega) (by decide), mw_n hc ⟨fun q => absurd rfl q, fun _ => H I1 h1 f1⟩⟩)⟩
      rw [cl (by omega), xv35 I w hs rfl rfl]
      refine ⟨fun z => absurd ⟨?_, z⟩ hc, fun _ => H I hs XF.rf⟩
      rw [Int32.lt_iff_toInt_lt] at q
      rw [Int32.le_iff_toInt_le]
      omega)
theorem t_setGate {b : Nat} (a c d : Int32) : Spp b mX11_setGate mX12_setGate [.ref 0, .int a, .int c, .int d] [.ref 261, .int a, .int c, .int d] := stp_of (fun w ho => by
  have hp := ho.1
  have hsc := hp.2.2.1
  rcases in_or (a := a) (n := pSc (wP w)) (by omega) with ha | ⟨k, hk, e⟩
  · exact ⟨w, 0, WOk_up ho, fun I Q hs H => rX11_setGate (xS_n hs ha ⟨fun _ => H I hs XF.rf, fun q => absurd rfl q⟩), fun I Q hs H => rX12_setGate (fun I1 e => by
      obtain ⟨h1, f1⟩ := SR_fl hs e
      exact mS_n hp h1 ha ⟨fun _ => H I1 h1 f1, fun q => absurd rfl q⟩)⟩
  · subst e
    rcases in_or (a := c) (n := 1440) (by decide) with hc | ⟨f, hf, e⟩
    · refine ⟨w, 0, WOk_up ho, fun I Q hs H => rX11_setGate (xS_y hp hs hk ⟨fun q => absurd q (by decide), fun _ => ⟨fun _ => H I hs XF.rf, fun q => ⟨fun _ => H I hs XF.rf, fun z => ?_⟩⟩⟩), fun I Q hs H => rX12_setGate (fun I1 e => by
        obtain ⟨h1, f1⟩ := SR_fl hs e
        refine mS_y hp h1 hk ⟨fun q => absurd q (by decide), fun _ => ?_⟩
        rw [show (1439 : Int64) = (nI 1440 - 1).toInt64 from rfl]
        exact mr_n hc (by decide) ⟨fun _ => H I1 h1 f1, fun q => absurd rfl q⟩)⟩
      exfalso
      rcases hc with y | y
      · exact q y
      · rw [Int32.le_iff_toInt_le] at y
        rw [Int32.lt_iff_toInt_lt] at z
        have e1 : (nI 1440).toInt = 1440 := rfl
        have e2 : (1439 : Int32).toInt = 1439 := rfl
        omega
    · subst e
      have hx1 : ¬ (1439 : Int32) < nI f := by rw [show (1439 : Int32) = nI 1439 from rfl, ilt (by decide) (by omega)]; omega
      have e1440 : (1440 : Int64) = (nI 1440).toInt64 := rfl
      by_cases hd : nI (f + 1) ≤ d ∧ d ≤ nI 1440
      · obtain ⟨t, ht, e⟩ := nI_of (x := d) (fun q => by
          have := Int32.le_iff_toInt_le.mp hd.1
          rw [nI_toInt (by omega)] at this
          rw [Int32.lt_iff_toInt_lt] at q
          have e0 : (0 : Int32).toInt = 0 := rfl
          omega)
        subst e
        rw [ile (by omega) (by omega), ile (by omega) (by decide)] at hd
        have hlo : LdOk (wP w) (b + 1) (sT (sF (wX w) (updN (lF (wX w)) k f)) (updN (lT (wX w)) k t)) := by
          obtain ⟨k1, k2, k3, k4, k5, k6⟩ := LdOk_up ho.2.1
          refine ⟨k1, k2, k3, fun i hi => ?_, k5, k6⟩
          show updN (lT (wX w)) k t i = 0 ∧ updN (lF (wX w)) k f i = 0 ∨ updN (lF (wX w)) k f i < updN (lT (wX w)) k t i ∧ updN (lT (wX w)) k t i ≤ 1440
          by_cases e : i = k
          · rw [e, updN_e, updN_e]; omega
          · rw [updN_n _ _ e, updN_n _ _ e]; exact k4 i hi
        refine ⟨wx (wh w) (sT (sF (wX w) (updN (lF (wX w)) k f)) (updN (lT (wX w)) k t)), 1, WOk_ch ho hlo, fun I Q hs H => rX11_setGate (xS_y hp hs hk ⟨fun q => absurd q (by decide), fun _ => ⟨fun q => absurd q (nI_pos (by omega)), fun _ => ⟨fun q => absurd q hx1, fun _ => ⟨fun q => ?_, fun _ => ⟨fun _ => xBegin ho hs (fun J hJ h9 eJ => ⟨ci (by omega) (by decide), fun K eK => ⟨ci (by omega) (by decide), fun L eL => ?_⟩⟩), fun q => absurd ?_ q⟩⟩⟩⟩⟩), fun I Q hs H => rX12_setGate (fun I1 e => by
          obtain ⟨h1, f1⟩ := SR_fl hs e
          refine mS_y hp h1 hk ⟨fun q => absurd q (by decide), fun _ => ?_⟩
          rw [show (1439 : Int64) = (nI 1440 - 1).toInt64 from rfl]
          refine mr_y hf (by decide) ⟨fun q => absurd q (by decide), fun _ => ?_⟩
          rw [nI_s, e1440]
          refine mw_y (by rw [ile (by omega) (by omega)]; omega) (by rw [ile (by omega) (by decide)]; omega) ⟨fun _ => mKeep ho h1 (fun J hJ sJ => ?_), fun q => absurd q (by decide)⟩
          rw [show (97 : Int32) = nI 97 from rfl, show (115 : Int32) = nI 115 from rfl, nI_add, nI_add, cl (by omega), cl (by omega)]
          refine ⟨ci (by omega) (by decide), fun K eK => ⟨ci (by omega) (by decide), fun L eL => ?_⟩⟩
          have l := LM_gate (n := k) (f := f) (t := t) hp ho.2.1.2.2.2.2.2 hJ.2.1 hk (by omega) rfl rfl
          rw [← eK, ← eL] at l
          have s : SamM [274] [] J L := by rw [eL, eK]; exact (SamM.rf.u2 (by simp) (by decide)).u2 (by simp) (by decide)
          exact H L (SR_led hJ l s) (f1.tr ((MF_sam sJ (by simp)).tr (MF_sam s (by simp)))))⟩
        · rw [ile (by omega) (by omega)] at q; omega
        · rw [cl (by omega)] at eK eL
          have l := LX_gate (n := k) (f := f) (t := t) hJ.2.1
          rw [← eK, ← eL] at l
          have g : ∀ c, c ≠ 33 → c ≠ 34 → L c = J c := fun c h1 h2 => by rw [eL, up2_cell _ _ _ h2, eK, up2_cell _ _ _ h1]
          exact H L (SX_led hJ h9 l (fun c hc => g c (by omega) (by omega))) (fun c hc => (g c (by omega) (by omega)).trans (eJ c (by omega)))
        · rw [show (1440 : Int32) = nI 1440 from rfl, ile (by omega) (by decide)]; omega
      · refine ⟨w, 0, WOk_up ho, fun I Q hs H => rX11_setGate (xS_y hp hs hk ⟨fun q => absurd q (by decide), fun _ => ⟨fun _ => H I hs XF.rf, fun q => ⟨fun _ => H I hs XF.rf, fun _ => ⟨fun _ => H I hs XF.rf, fun y => ⟨fun z => absurd ⟨?_, z⟩ hd, fun _ => H I hs XF.rf⟩⟩⟩⟩⟩), fun I Q hs H => rX12_setGate (fun I1 e => by
          obtain ⟨h1, f1⟩ := SR_fl hs e
          refine mS_y hp h1 hk ⟨fun q => absurd q (by decide), fun _ => ?_⟩
          rw [show (1439 : Int64) = (nI 1440 - 1).toInt64 from rfl]
          refine mr_y hf (by decide) ⟨fun q => absurd q (by decide), fun _ => ?_⟩
          rw [nI_s, e1440]
          exact mw_n hd ⟨fun q => absurd rfl q, fun _ => H I1 h1 f1⟩)⟩
        rw [Int32.le_iff_toInt_le] at y
        rw [Int32.le_iff_toInt_le, nI_toInt (by omega)]
        rw [nI_toInt (by omega)] at y
        omega)
theorem t_setSkipped {b : Nat} (a : Int32) (c : Bool) : Spp b mX11_setSkipped mX12_setSkipped [.ref 0, .int a, .int (bI c)] [.ref 261, .int a, .int (bI c)] := stp_of (fun w ho => by
  have hp := ho.1
  have hhc := hp.2.2.2.1
  have mfl : ∀ (I I1 : MI) (Q : Int32 → MI → Prop), (LX12_setSkipped_14 a (bI c) (bI c) I1 Q) → (bI c = 0 → LX12_setSkipped_14 a (bI c) 0 I1 Q) ∧ (¬ bI c = 0 → LX12_setSkipped_14 a (bI c) 1 I1 Q) := fun I I1 Q h => by
    cases c
    · exact ⟨fun _ => h, fun q => absurd rfl q⟩
    · exact ⟨fun q => absurd q (by decide), fun _ => h⟩
  rcases in_or (a := a) (n := pHc (wP w)) (by omega) with ha | ⟨h, hh, e⟩
  · exact ⟨w, 0, WOk_up ho, fun I Q hs H => rX11_setSkipped (xH_n hs ha ⟨fun _ => H I hs XF.rf, fun q => absurd rfl q⟩), fun I Q hs H => rX12_setSkipped (fun I1 e => by
      obtain ⟨h1, f1⟩ := SR_fl hs e
      exact mfl I I1 Q (rX12_setSkipped_14 (mH_n hp h1 ha ⟨fun _ => H I1 h1 f1, fun q => absurd rfl q⟩)))⟩
  · subst e
    have bieq : (if (lSk (wX w)).testBit h = true then (1 : Int32) else 0) = bI c ↔ (lSk (wX w)).testBit h = c := by
      cases (lSk (wX w)).testBit h <;> cases c <;> simp [bI]
    have m133 : ∀ J w', SR w' J → wP w' = wP w → wX w' = wX w → J 274 (133 + h) = if (lSk (wX w)).testBit h = true then (1 : Int32) else 0 := fun J w' hJ e1 e2 => by
      rw [← e2]; exact zp h (J 274) 133 (hJ.2.1.2.1 h (by rw [e1]; exact hh))
    by_cases he : (lSk (wX w)).testBit h = c
    · refine ⟨w, 0, WOk_up ho, fun I Q hs H => rX11_setSkipped (xH_y hp hs hh ⟨fun q => absurd q (by decide), fun _ => sX_isSkipped hs.2.1 (by omega) ?_⟩), fun I Q hs H => rX12_setSkipped (fun I1 e => by
        obtain ⟨h1, f1⟩ := SR_fl hs e
        refine mfl I I1 Q (rX12_setSkipped_14 (mH_y hp h1 hh ⟨fun q => absurd q (by decide), fun _ => ?_⟩))
        rw [show (133 : Int32) = nI 133 from rfl, nI_add, cl (by omega), m133 I1 w h1 rfl rfl, bieq]
        exact ⟨ci (by omega) (by decide), fun q => absurd he q, fun _ => H I1 h1 f1⟩)⟩
      rw [bieq]
      exact ⟨fun q => absurd he q, fun _ => H I hs XF.rf⟩
    · have hc : c = !(lSk (wX w)).testBit h := by
        cases hq : (lSk (wX w)).testBit h <;> cases c <;> simp_all
      have hbit : ∀ i, i < pHc (wP w) → (lSk (wX w) ^^^ 2 ^ h).testBit i = if i = h then c else (lSk (wX w)).testBit i := fun i _ => by
        rw [Nat.testBit_xor, Nat.testBit_two_pow]
        by_cases e : i = h
        · subst e; rw [if_pos rfl, hc]; simp
        · rw [if_neg e]
          have : ¬ h = i := fun q => e q.symm
          simp [this]
      have hlo : LdOk (wP w) (b + 1) (sSk (wX w) (lSk (wX w) ^^^ 2 ^ h)) := by
        obtain ⟨k1, k2, k3, k4, k5, k6⟩ := LdOk_up ho.2.1
        refine ⟨k1, ?_, k3, k4, k5, k6⟩
        show lSk (wX w) ^^^ 2 ^ h < 4096
        exact Nat.xor_lt_two_pow (n := 12) k2 (Nat.pow_lt_pow_right (by decide) (by omega))
      refine ⟨wx (wh w) (sSk (wX w) (lSk (wX w) ^^^ 2 ^ h)), 1, WOk_ch ho hlo, fun I Q hs H => rX11_setSkipped (xH_y hp hs hh ⟨fun q => absurd q (by decide), fun _ => sX_isSkipped hs.2.1 (by omega) ?_⟩), fun I Q hs H => rX12_setSkipped (fun I1 e => by
        obtain ⟨h1, f1⟩ := SR_fl hs e
        refine mfl I I1 Q (rX12_setSkipped_14 (mH_y hp h1 hh ⟨fun q => absurd q (by decide), fun _ => ?_⟩))
        rw [show (133 : Int32) = nI 133 from rfl, nI_add, cl (by omega), m133 I1 w h1 rfl rfl, bieq]
        refine ⟨ci (by omega) (by decide), fun _ => mKeep ho h1 (fun J hJ sJ => ⟨ci (by omega) (by decide), fun K eK => ?_⟩), fun q => absurd q he⟩
        have l := LM_Sk (n := h) (s := lSk (wX w) ^^^ 2 ^ h) (c := c) hp ho.2.1.2.2.2.2.2 hJ.2.1 (by omega) hbit rfl
        have eb : (if c = true then (1 : Int32) else 0) = bI c := rfl
        rw [eb, ← eK] at l
        have s : SamM [274] [] J K := by rw [eK]; exact SamM.rf.u2 (by simp) (by decide)
        exact H K (SR_led hJ l s) (f1.tr ((MF_sam sJ (by simp)).tr (MF_sam s (by simp)))))⟩
      rw [bieq]
      refine ⟨fun _ => xBegin ho hs (fun J hJ h9 eJ K eK => ?_), fun q => absurd q he⟩
      have e1 : J 30 1 = nI (lSk (wX w)) := hJ.2.1.2.1
      rw [e1, b_xor1 (by omega)] at eK
      have l := LX_Sk (y := lSk (wX w) ^^^ 2 ^ h) hJ.2.1
      rw [← eK] at l
      have g : ∀ c, c ≠ 30 → K c = J c := fun c h1 => by rw [eK, up2_cell _ _ _ h1]
      exact H K (SX_led hJ h9 l (fun c hc => g c (by omega))) (fun c hc => (g c (by omega)).trans (eJ c (by omega))))
