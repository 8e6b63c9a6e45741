/-! houses, statements and the whole text in the reference -/
section
variable {n : Nat} {g : Nat → Int32} {I : MI}
theorem pord_e {c : Nat → Nat} {r : Rs} {k : Nat} (h : (pord c n r k).1.1 ≠ 0) : ∀ m, (pord c n r (k + m)).1 = (pord c n r k).1
  | 0 => rfl
  | m + 1 => by
    have ih := pord_e h m
    show pnum c n 0 9 (pord c n r (k + m)).1 = _
    rw [ih]; exact pnum_e h
theorem mhouse {r : Rs} {Q : MI → Prop} (hg : Gok n g) (h0 : r.1 = 0) (h : MS n g r I) (ho : POk (rP r) (rD r)) (H : ∀ J, MS n g (phouse (fun j => cc (g j)) n r) J → FM I J → Q J) : Wv mX12_readHouse [.ref 261] I Q := by
  have hn := hg.1
  have hD := h.2 h0
  have hhc := ho.1.2.2.2.1
  have hnc := ho.1.2.1
  have hn2 := ho.1.1
  have i6 : I 264 6 = nI (pHc (rP r)) := hD.2.2.2.2.2.2.1
  have i0 : I 264 0 = nI (pNc (rP r)) := hD.1
  have em1 : nI (pNc (rP r)) - 1 = nI (pNc (rP r) - 1) := by
    obtain ⟨m, hm⟩ : ∃ m, pNc (rP r) = m + 1 := ⟨pNc (rP r) - 1, by omega⟩
    rw [hm]; exact nI_pred m
  refine rX12_readHouse ?_
  rw [cl6, i6, show (12 : Int32) = nI 12 from rfl, ile (by decide) (by omega)]
  refine ⟨in67, fun hge => rX12_readHouse_18 (mmust (k := 4) hg h.1 (by decide) (fun z => absurd rfl z) (fun _ J tJ sJ => ⟨fun z => absurd rfl z, fun _ => H J ?_ (FM_o sJ)⟩)), fun hlt => rX12_readHouse_18 (mmust (k := 4) hg h.1 (by decide) (fun _ => ?_) (fun z => absurd z (by decide)))⟩
  · have hp : phouse (fun j => cc (g j)) n r = perr (rT r).1 4 r := by unfold phouse; rw [if_pos hge]
    rw [hp]
    refine ⟨tJ, fun z => ?_⟩
    unfold perr at z; rw [if_pos h0] at z; exact absurd z (by show ¬ 8 * (rT r).1 + 4 = 0; omega)
  · rw [decide_eq_true h0]
    refine ⟨fun _ => ⟨in67, mnext hg h0 h.1 (fun I3 t3 s3 => ⟨i264 (k := 0) (by decide), ?_⟩)⟩, fun z => absurd z (by decide)⟩
    have p0 : (padv (fun j => cc (g j)) n r).1 = 0 := by rw [(padv_2 _ _ _).1]; exact h0
    have iv : vp_in (nI (12 + pHc (rP r))) 24 := ci (by omega) (by decide)
    have nh : ∀ c, 270 ≤ c → c ≤ 272 → ¬ half c (12 + pHc (rP r)) := fun c a1 a2 => by unfold half; omega
    rw [show (0 : Int32).toNatClampNeg = 0 from rfl, SO_c s3 264 (by decide), i0, em1, cl6, i6, show (12 : Int32) = nI 12 from rfl, nI_add, cl (show 12 + pHc (rP r) < 2147483648 by omega)]
    -- the end of a house, with an error
    have f139 : ∀ (l1 l2 : Int32) (J : MI), J 264 6 = nI (pHc (rP r)) → (∀ K, K = up2 J 264 6 (nI (pHc (rP r) + 1)) → Q K) → LX12_readHouse_139 l1 l2 J Q := by
      intro l1 l2 J hJ HK
      refine rX12_readHouse_139 ⟨in67, in67, fun K eK => HK K ?_⟩
      rw [cl6, hJ, nI_s] at eK
      exact eK
    have bad : ∀ (re : Rs) (J : MI) (l2 : Int32) (k : Nat), (pord (fun j => cc (g j)) n r 7).1.1 = re.1 → re.1 ≠ 0 → PTM n g re J → FM I J → J 264 6 = nI (pHc (rP r)) → LX12_readHouse_102 (nI (12 + pHc (rP r))) l2 J Q := by
      intro re J l2 k e1 e2 tJ fJ j6
      have go : LX12_readHouse_139 (nI (12 + pHc (rP r))) l2 J Q := by
        refine f139 _ _ J j6 (fun K eK => H K ?_ (fJ.tr (FM_u (by simp) (by unfold half; omega) eK)))
        have hp : phouse (fun j => cc (g j)) n r = (pord (fun j => cc (g j)) n r 7).1 := by unfold phouse; rw [if_neg hlt, if_neg (by rw [e1]; exact e2)]
        rw [hp]
        exact MS_er (PTM_u tJ (by decide) eK) e2 e1
      refine rX12_readHouse_102 ⟨fun _ => go, fun _ => ?_⟩
      rw [PTM_z tJ]
      exact ⟨fun _ => go, fun z => absurd z e2⟩
    have ord_bad : ∀ k, k ≤ 7 → (pord (fun j => cc (g j)) n r k).1.1 ≠ 0 → (pord (fun j => cc (g j)) n r 7).1.1 = (pord (fun j => cc (g j)) n r k).1.1 := fun k hk z => by
      have := pord_e z (7 - k)
      rw [show k + (7 - k) = 7 by omega] at this
      rw [this]
    refine mnum (lo := 1) hg p0 t3 (by decide) (by omega) (fun I4 va t4 s4 hva => ⟨iv, fun I6 e6 => ?_⟩)
    have t6 : PTM n g (pho1 (fun j => cc (g j)) n r) I6 := PTM_u t4 (by decide) e6
    have f6 : FM I I6 := ((FM_o s3).tr (FM_o s4)).tr (FM_u (by simp) (nh 270 (by decide) (by decide)) e6)
    have c6 : ∀ c, c ≠ 261 → c ≠ 270 → I6 c = I c := fun c a1 a2 => by rw [e6, up2_cell _ _ _ a2, SO_c s4 c a1, SO_c s3 c a1]
    rw [PTM_z t6]
    refine ⟨fun z1 => rX12_readHouse_80 ?_, fun z1 => mnum (lo := 0) (hi := 50) hg z1 t6 (by decide) (by decide) (fun I7 vb t7 s7 hvb => ⟨iv, fun I9 e9 => rX12_readHouse_80 ?_⟩)⟩
    · rw [PTM_z t6]
      refine ⟨fun _ => rX12_readHouse_100 (bad _ I6 0 0 ?_ z1 t6 f6 (by rw [c6 264 (by decide) (by decide)]; exact i6)), fun z => absurd z z1⟩
      have h2 : pho2 (fun j => cc (g j)) n r = pho1 (fun j => cc (g j)) n r := pnum_e z1
      have h3 : pho3 (fun j => cc (g j)) n r = pho1 (fun j => cc (g j)) n r := by unfold pho3; rw [h2]; exact pnum_e z1
      have h4 : (pord (fun j => cc (g j)) n r 0).1 = pho1 (fun j => cc (g j)) n r := h3
      rw [ord_bad 0 (by decide) (by rw [h4]; exact z1), h4]
    · have t9 : PTM n g (pho2 (fun j => cc (g j)) n r) I9 := PTM_u t7 (by decide) e9
      have f9 : FM I I9 := (f6.tr (FM_o s7)).tr (FM_u (by simp) (nh 271 (by decide) (by decide)) e9)
      have c9 : ∀ c, c ≠ 261 → c ≠ 270 → c ≠ 271 → I9 c = I c := fun c a1 a2 a3 => by rw [e9, up2_cell _ _ _ a3, SO_c s7 c a1]; exact c6 c a1 a2
      rw [PTM_z t9]
      refine ⟨fun z2 => rX12_readHouse_100 (bad _ I9 0 0 ?_ z2 t9 f9 (by rw [c9 264 (by decide) (by decide) (by decide)]; exact i6)), fun z2 => ?_⟩
      · have h3 : pho3 (fun j => cc (g j)) n r = pho2 (fun j => cc (g j)) n r := pnum_e z2
        have h4 : (pord (fun j => cc (g j)) n r 0).1 = pho2 (fun j => cc (g j)) n r := h3
        rw [ord_bad 0 (by decide) (by rw [h4]; exact z2), h4]
      rw [cl (show 12 + pHc (rP r) < 2147483648 by omega)]
      refine mnum (lo := 0) (hi := 9) hg z2 t9 (by decide) (by decide) (fun I10 vc t10 s10 hvc => ⟨iv, fun I12 e12 => rX12_readHouse_100 ?_⟩)
      have t12 : PTM n g (pho3 (fun j => cc (g j)) n r) I12 := PTM_u t10 (by decide) e12
      have f12 : FM I I12 := (f9.tr (FM_o s10)).tr (FM_u (by simp) (nh 272 (by decide) (by decide)) e12)
      have c12 : ∀ c, c ≠ 261 → c ≠ 270 → c ≠ 271 → c ≠ 272 → I12 c = I c := fun c a1 a2 a3 a4 => by rw [e12, up2_cell _ _ _ a4, SO_c s10 c a1]; exact c9 c a1 a2 a3
      have o270 : ∀ k, I12 270 k = if k = 12 + pHc (rP r) then va else I 270 k := fun k => by
        rw [e12, up2_cell _ _ _ (by decide), SO_c s10 270 (by decide), e9, up2_cell _ _ _ (by decide), SO_c s7 270 (by decide), e6, up2_ap, if_pos rfl, SO_c s4 270 (by decide), SO_c s3 270 (by decide)]
      have o271 : ∀ k, I12 271 k = if k = 12 + pHc (rP r) then vb else I 271 k := fun k => by
        rw [e12, up2_cell _ _ _ (by decide), SO_c s10 271 (by decide), e9, up2_ap, if_pos rfl, SO_c s7 271 (by decide), c6 271 (by decide) (by decide)]
      have o272 : ∀ k, I12 272 k = if k = 12 + pHc (rP r) then vc else I 272 k := fun k => by
        rw [e12, up2_ap, if_pos rfl, SO_c s10 272 (by decide), c9 272 (by decide) (by decide) (by decide)]
      -- the end of a house
      have hfin : ∀ (R : Rs × (Nat → Nat)) (J : MI), R.1.1 = 0 → (∀ J, MS n g (0, (rT R.1, rM r, addH (rP r) (pval (fun j => cc (g j)) (padv (fun j => cc (g j)) n r)) (pval (fun j => cc (g j)) (pho1 (fun j => cc (g j)) n r)), (R.2, upd (rD r).2.1 (pHc (rP r)) (nI (pval (fun j => cc (g j)) (pho2 (fun j => cc (g j)) n r))), (rD r).2.2))) J → FM I J → Q J) → (pho3 (fun j => cc (g j)) n r).1 = 0 → R.1.2.2 = (pho3 (fun j => cc (g j)) n r).2.2 → PTM n g R.1 J → (∀ c, c ≠ 261 → c ≠ 273 → J c = I12 c) → (∀ i, i < 7 * pHc (rP r) + 7 → J 273 (84 + i) = nI (R.2 i)) → FM I J → LX12_readHouse_102 (nI (12 + pHc (rP r))) (nI 7) J Q := by
        intro R J z H' z3 z22 tJ oJ hJ fJ
        refine rX12_readHouse_102 ⟨fun _ => ?_, fun q => absurd (by rw [show (7 : Int32) = nI 7 from rfl, ile (by decide) (by decide)]; omega) q⟩
        refine f139 _ _ J (by rw [oJ 264 (by decide) (by decide), c12 264 (by decide) (by decide) (by decide) (by decide)]; exact i6) (fun K eK => H' K ?_ (fJ.tr (FM_u (by simp) (by unfold half; omega) eK)))
        obtain ⟨q1, q2, q3, q4, q5, q6⟩ := pho_0 z3
        have ea : va = nI (pval (fun j => cc (g j)) (padv (fun j => cc (g j)) n r)) := hva q2
        have eb : vb = nI (pval (fun j => cc (g j)) (pho1 (fun j => cc (g j)) n r)) := hvb q1
        have ec : vc = nI (pval (fun j => cc (g j)) (pho2 (fun j => cc (g j)) n r)) := hvc z3
        have hm : rM R.1 = rM r := by show R.1.2.2.1 = r.2.2.1; rw [z22, q6]
        have oK : ∀ c, c ≠ 264 → K c = J c := fun c hc => by rw [eK, up2_cell _ _ _ hc]
        have o4 : ∀ k, k ≠ 6 → K 264 k = I 264 k := fun k hk => by rw [eK, up2_slot _ _ hk, oJ 264 (by decide) (by decide), c12 264 (by decide) (by decide) (by decide) (by decide)]
        have os : ∀ c, 265 ≤ c → c ≤ 269 → K c = I c := fun c a1 a2 => by rw [oK c (by omega), oJ c (by omega) (by omega)]; exact c12 c (by omega) (by omega) (by omega) (by omega)
        obtain ⟨b0, b1, b2, b3, b4, b5, b6, b7, b8, b9⟩ := hD
        refine ⟨PTM_m (PTM_u tJ (by decide) eK) z.symm rfl hm.symm, fun _ => ⟨?_, ?_, ?_, ?_, ?_, ?_, ?_, ?_, ?_, ?_⟩⟩
        · rw [o4 0 (by decide)]; exact b0
        · rw [o4 1 (by decide)]; exact b1
        · rw [o4 2 (by decide)]; exact b2
        · rw [o4 3 (by decide)]; exact b3
        · rw [o4 4 (by decide)]; exact b4
        · rw [o4 5 (by decide)]; exact b5
        · rw [eK, up2_same]; rfl
        · intro k hk
          rw [os 265 (by decide) (by decide), os 266 (by decide) (by decide), os 267 (by decide) (by decide), os 268 (by decide) (by decide), os 269 (by decide) (by decide)]
          exact b7 k hk
        · intro k hk
          have hk' : k < pHc (rP r) + 1 := hk
          show K 270 (12 + k) = nI (updN (pHn (rP r)) (pHc (rP r)) _ k) ∧ K 271 (12 + k) = nI (updN (pHw (rP r)) (pHc (rP r)) _ k) ∧ K 272 (12 + k) = upd (rD r).2.1 (pHc (rP r)) _ k
          rw [oK 270 (by decide), oK 271 (by decide), oK 272 (by decide), oJ 270 (by decide) (by decide), oJ 271 (by decide) (by decide), oJ 272 (by decide) (by decide), o270, o271, o272, upd_ap]
          by_cases e : k = pHc (rP r)
          · rw [if_pos (by omega), if_pos (by omega), if_pos (by omega), if_pos e, e, updN_e, updN_e]; exact ⟨ea, eb, ec⟩
          · rw [if_neg (by omega), if_neg (by omega), if_neg (by omega), if_neg e, updN_n _ _ e, updN_n _ _ e]; exact b8 k (by omega)
        · intro i hi
          have hi' : i < 7 * (pHc (rP r) + 1) := hi
          rw [oK 273 (by decide)]
          exact hJ i (by omega)
      have go : ∀ (m k : Nat) (J : MI), m + k = 7 → PTM n g (pord (fun j => cc (g j)) n r k).1 J → (∀ c, c ≠ 261 → c ≠ 273 → J c = I12 c) → ((pord (fun j => cc (g j)) n r k).1.1 = 0 → ∀ i, i < 7 * pHc (rP r) + k → J 273 (84 + i) = nI ((pord (fun j => cc (g j)) n r k).2 i)) → FM I J → LX12_readHouse_102 (nI (12 + pHc (rP r))) (nI k) J Q := by
        intro m
        induction m with
        | zero =>
          intro k J hm tJ oJ hJ fJ
          have : k = 7 := by omega
          subst this
          by_cases z : (pord (fun j => cc (g j)) n r 7).1.1 = 0
          · obtain ⟨z3, z22⟩ := pord_0 7 z
            refine hfin (pord (fun j => cc (g j)) n r 7) J z (fun K hK fK => H K ?_ fK) z3 z22 tJ oJ (hJ z) fJ
            unfold phouse
            rw [if_neg hlt, if_pos z]
            exact hK
          · exact bad _ J _ 7 rfl z tJ fJ (by rw [oJ 264 (by decide) (by decide), c12 264 (by decide) (by decide) (by decide) (by decide)]; exact i6)
        | succ m ih =>
          intro k J hm tJ oJ hJ fJ
          by_cases z : (pord (fun j => cc (g j)) n r k).1.1 = 0
          · refine rX12_readHouse_102 ⟨fun q => ?_, fun _ => ?_⟩
            · rw [show (7 : Int32) = nI 7 from rfl, ile (by decide) (by omega)] at q; omega
            · rw [PTM_z tJ, show (7 : Int32) * nI (12 + pHc (rP r)) = nI (7 * (12 + pHc (rP r))) from pk_mul 7 _, nI_add, cl (by omega)]
              refine ⟨fun y => absurd z y, fun _ => mnum (lo := 0) (hi := 9) hg z tJ (by decide) (by decide) (fun K v tK sK hv => ⟨ci (by omega) (by decide), fun L eL => ?_⟩)⟩
              rw [nI_s]
              refine ih (k + 1) L (by omega) (PTM_u tK (by decide) eL) (fun c a1 a2 => ?_) (fun y i hi => ?_) ((fJ.tr (FM_o sK)).tr (FM_u (by simp) (by unfold half; omega) eL))
              · rw [eL, up2_cell _ _ _ a2, SO_c sK c a1]; exact oJ c a1 a2
              · have y' : (pnum (fun j => cc (g j)) n 0 9 (pord (fun j => cc (g j)) n r k).1).1 = 0 := y
                show L 273 (84 + i) = nI (updN (pord (fun j => cc (g j)) n r k).2 (7 * pHc (rP r) + k) (pval (fun j => cc (g j)) (pord (fun j => cc (g j)) n r k).1) i)
                rw [eL, up2_ap, if_pos rfl]
                by_cases e : i = 7 * pHc (rP r) + k
                · rw [if_pos (by omega), e, updN_e]; exact hv y'
                · rw [if_neg (by omega), updN_n _ _ e, SO_c sK 273 (by decide)]; exact hJ z i (by omega)
          · exact bad _ J _ k (ord_bad k (by omega) z) z tJ fJ (by rw [oJ 264 (by decide) (by decide), c12 264 (by decide) (by decide) (by decide) (by decide)]; exact i6)
      refine go 7 0 I12 rfl t12 (fun _ _ _ => rfl) (fun _ i hi => ?_) f12
      rw [c12 273 (by decide) (by decide) (by decide) (by decide)]
      exact hD.2.2.2.2.2.2.2.2.2 i hi
theorem mstm {r : Rs} {Q : MI → Prop} (hg : Gok n g) (h0 : r.1 = 0) (h : MS n g r I) (ho : POk (rP r) (rD r)) (hm : rM r < 16) (H : ∀ J, MS n g (pstm (fun j => cc (g j)) n r) J → FM I J → Q J) : Wv mX12_statement [.ref 261] I Q := by
  have hn := hg.1
  have hD := h.2 h0
  have hsc := ho.1.2.2.1
  have hhc := ho.1.2.2.2.1
  obtain ⟨hT, hs, ht, h8, h21⟩ := PTM_0 h0 h.1
  have hb := sane_b hs
  have w : ∀ (j : Nat) (Qw : Int32 → MI → Prop), j < 7 → Qw (bI (isW (fun j => cc (g j)) (rT r) j)) I → Wi mX12_is [.ref 261, .retAddr (2 * j + 1)] I Qw := fun j Qw hj HQ => mis hg hj h0 h.1 HQ
  have no : ∀ i j, i < 6 → j < 6 → i ≠ j → isW (fun j => cc (g j)) (rT r) i = true → ¬ isW (fun j => cc (g j)) (rT r) j = true := fun i j hi hj hij hw => by rw [isW_one hi hj hij hw]; decide
  have fl : ∀ {v : Bool}, v = false → ¬ v = true := fun {v} q => by rw [q]; decide
  refine rX12_statement (w 4 _ (by decide) ?_)
  rw [bI_ne, bI_eq]
  refine ⟨fun w4 => w 5 _ (by decide) ?_, fun w4 => mstreet hg h0 h ho (fun J hJ fJ => H J ?_ fJ)⟩
  · rw [bI_ne, bI_eq]
    refine ⟨fun w5 => w 0 _ (by decide) ?_, fun w5 => mhouse hg h0 h ho (fun J hJ fJ => H J ?_ fJ)⟩
    · rw [bI_ne, bI_eq]
      refine ⟨fun w0 => w 1 _ (by decide) ?_, fun w0 => ⟨i264 (k := 5) (by decide), in67, ?_⟩⟩
      · rw [bI_ne, bI_eq]
        refine ⟨fun w1 => w 2 _ (by decide) ?_, fun w1 => monce (j := 1) hg (by decide) (by omega) h.1 (fun J tJ sJ => ?_)⟩
        · rw [bI_ne, bI_eq]
          refine ⟨fun w2 => w 3 _ (by decide) ?_, fun w2 => monce (j := 2) hg (by decide) (by omega) h.1 (fun J tJ sJ => ?_)⟩
          · cases w3 : isW (fun j => cc (g j)) (rT r) 3 with
            | true =>
              refine mmust (k := 1) hg h.1 (by decide) (fun _ => ?_) (fun z => absurd z (by decide))
              rw [decide_eq_true h0]
              refine ⟨fun z => absurd z (by decide), fun _ => monce (j := 3) hg (by decide) (by omega) h.1 (fun J tJ sJ => ?_)⟩
              have hps : pstm (fun j => cc (g j)) n r = pprice (fun j => cc (g j)) n r := by unfold pstm; rw [if_neg (fl w0), if_neg (fl w1), if_neg (fl w2), if_pos w3]
              have r2 := mfield (k := 3) (kI := 3) (f := sPr) (p := rP r) (d := rD r) (Q := fun K => LX12_statement_213 K Q) hg tJ (mone_d h sJ) (lo := 0) (hi := 99) (by decide) (by decide) rfl (by decide) (fun v z => ⟨rfl, rfl⟩) (fun v J z hz hd => vMPr v J z hz hd) (fun K hK fK => rX12_statement_213 ?_)
              · exact r2
              · exact mfield (k := 4) (kI := 4) (f := sDe) (p := rP (pset (fun j => cc (g j)) n 0 99 sPr (pone (fun j => cc (g j)) n 3 r))) (d := rD (pset (fun j => cc (g j)) n 0 99 sPr (pone (fun j => cc (g j)) n 3 r))) hg hK.1 (fun z => ⟨rfl, hK.2 z⟩) (lo := 0) (hi := 99) (by decide) (by decide) rfl (by decide) (fun v z => ⟨rfl, rfl⟩) (fun v J z hz hd => vMDe v J z hz hd) (fun L hL fL => H L (by rw [hps]; exact hL) ((FM_o sJ).tr (fK.tr fL)))
            | false =>
              refine mmust (k := 1) hg h.1 (by decide) (fun z => absurd rfl z) (fun _ J tJ sJ => ⟨fun _ => H J ?_ (FM_o sJ), fun z => absurd rfl z⟩)
              have hps : pstm (fun j => cc (g j)) n r = perr (rT r).1 1 r := by unfold pstm; rw [if_neg (fl w0), if_neg (fl w1), if_neg (fl w2), if_neg (fl w3), if_neg (fl w4), if_neg (fl w5)]
              rw [hps]
              refine ⟨tJ, fun z => ?_⟩
              unfold perr at z; rw [if_pos h0] at z; exact absurd z (by show ¬ 8 * (rT r).1 + 1 = 0; omega)
          · have hps : pstm (fun j => cc (g j)) n r = pstart (fun j => cc (g j)) n r := by unfold pstm; rw [if_neg (fl w0), if_neg (fl w1), if_pos w2]
            exact mfield (k := 2) (kI := 2) (f := sSt) (p := rP r) (d := rD r) hg tJ (mone_d h sJ) (lo := 0) (hi := 1439) (by decide) (by decide) rfl (by decide) (fun v z => ⟨rfl, rfl⟩) (fun v J z hz hd => vMSt v J z hz hd) (fun L hL fL => H L (by rw [hps]; exact hL) ((FM_o sJ).tr fL))
        · have hps : pstm (fun j => cc (g j)) n r = pcart (fun j => cc (g j)) n r := by unfold pstm; rw [if_neg (fl w0), if_pos w1]
          exact mfield (k := 1) (kI := 1) (f := sCap) (p := rP r) (d := rD r) hg tJ (mone_d h sJ) (lo := 10) (hi := 200) (by decide) (by decide) rfl (by decide) (fun v z => ⟨rfl, rfl⟩) (fun v J z hz hd => vMCap v J z hz hd) (fun L hL fL => H L (by rw [hps]; exact hL) ((FM_o sJ).tr fL))
      · have hps : pstm (fun j => cc (g j)) n r = pnodes (fun j => cc (g j)) n r := by unfold pstm; rw [if_pos w0]
        rw [show (5 : Int32).toNatClampNeg = 5 from rfl, cl6, show I 264 5 = nI (pSc (rP r)) from hD.2.2.2.2.2.1, show I 264 6 = nI (pHc (rP r)) from hD.2.2.2.2.2.2.1, nI_add, nI_zero, ieq (by omega) (by decide)]
        have rest : ∀ (r1 : Rs) (J : MI), MS n g r1 J → rM r1 < 16 → FM I J → pnodes (fun j => cc (g j)) n r = pset (fun j => cc (g j)) n 2 10 sNc (pone (fun j => cc (g j)) n 0 r1) → Wv mX12_once [.ref 261, .int 0] J (fun I3 => ((¬ (I3 261 8) = 0 → (Q I3)) ∧ ((I3 261 8) = 0 → (Wi mX12_number [.ref 261, .int 2, .int 10] I3 (fun r5 I4 => (vp_in 0 7 ∧ ∀ I6 : MI, I6 = up2 I4 264 (0 : Int32).toNatClampNeg r5 → Q I6)))))) := by
          intro r1 J hJ hm1 fJ hp
          refine monce (j := 0) hg (by decide) (by omega) hJ.1 (fun K tK sK => ?_)
          exact mfield (k := 0) (kI := 0) (f := sNc) (p := rP r1) (d := rD r1) hg tK (mone_d hJ sK) (lo := 2) (hi := 10) (by decide) (by decide) rfl (by decide) (fun v z => ⟨rfl, rfl⟩) (fun v J z hz hd => vMNc v J z hz hd) (fun L hL fL => H L (by rw [hps, hp]; exact hL) (fJ.tr ((FM_o sK).tr fL)))
        refine ⟨fun z => rX12_statement_64 (mmust (k := 1) hg h.1 (by decide) (fun y => absurd rfl y) (fun _ J tJ sJ => rest (perr (rT r).1 1 r) J ⟨tJ, fun y => ?_⟩ ?_ (FM_o sJ) (by unfold pnodes; rw [if_pos (by omega)]))), fun z => rX12_statement_64 (mmust (k := 1) hg h.1 (by decide) (fun _ => rest r I h hm FM.rf (by unfold pnodes; rw [if_neg (by omega)])) (fun y => absurd y (by decide)))⟩
        · unfold perr at y; rw [if_pos h0] at y; exact absurd y (by show ¬ 8 * (rT r).1 + 1 = 0; omega)
        · unfold perr; rw [if_pos h0]; exact hm
    · have hps : pstm (fun j => cc (g j)) n r = phouse (fun j => cc (g j)) n r := by
        unfold pstm
        rw [if_neg (no 5 0 (by decide) (by decide) (by decide) w5), if_neg (no 5 1 (by decide) (by decide) (by decide) w5), if_neg (no 5 2 (by decide) (by decide) (by decide) w5), if_neg (no 5 3 (by decide) (by decide) (by decide) w5), if_neg (no 5 4 (by decide) (by decide) (by decide) w5), if_pos w5]
      rw [hps]; exact hJ
  · have hps : pstm (fun j => cc (g j)) n r = pstreet (fun j => cc (g j)) n r := by
      unfold pstm
      rw [if_neg (no 4 0 (by decide) (by decide) (by decide) w4), if_neg (no 4 1 (by decide) (by decide) (by decide) w4), if_neg (no 4 2 (by decide) (by decide) (by decide) w4), if_neg (no 4 3 (by decide) (by decide) (by decide) w4), if_pos w4]
    rw [hps]; exact hJ
end
