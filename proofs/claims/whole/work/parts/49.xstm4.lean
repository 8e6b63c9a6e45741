/-! houses, statements and the whole text in the class -/
section
variable {n : Nat} {g : Nat → Int32} {I : MI}
theorem pord_0 {c : Nat → Nat} {r : Rs} : ∀ k, (pord c n r k).1.1 = 0 → (pho3 c n r).1 = 0 ∧ (pord c n r k).1.2.2 = (pho3 c n r).2.2
  | 0, h => ⟨h, rfl⟩
  | k + 1, h => by
    have h' : (pnum c n 0 9 (pord c n r k).1).1 = 0 := h
    obtain ⟨a1, -, -, -, a5⟩ := pnum_0 h'
    obtain ⟨b1, b2⟩ := pord_0 k a1
    exact ⟨b1, a5.trans b2⟩
theorem pord_le {c : Nat → Nat} {r : Rs} (ho : ∀ i, i < 7 * pHc (rP r) → (rD r).1 i ≤ 9) : ∀ k, (pord c n r k).1.1 = 0 → ∀ i, i < 7 * pHc (rP r) + k → (pord c n r k).2 i ≤ 9
  | 0, _, i, hi => ho i hi
  | k + 1, h, i, hi => by
    have h' : (pnum c n 0 9 (pord c n r k).1).1 = 0 := h
    obtain ⟨a1, -, -, a4, -⟩ := pnum_0 h'
    show updN (pord c n r k).2 (7 * pHc (rP r) + k) (pval c (pord c n r k).1) i ≤ 9
    by_cases e : i = 7 * pHc (rP r) + k
    · rw [e, updN_e]; exact a4
    · rw [updN_n _ _ e]; exact pord_le ho k a1 i (by omega)
theorem pho_0 {c : Nat → Nat} {r : Rs} (h : (pho3 c n r).1 = 0) : (pho2 c n r).1 = 0 ∧ (pho1 c n r).1 = 0 ∧ 1 ≤ pval c (padv c n r) ∧ pval c (padv c n r) ≤ pNc (rP r) - 1 ∧ pval c (pho1 c n r) ≤ 50 ∧ (pho3 c n r).2.2 = r.2.2 := by
  obtain ⟨a1, -, -, -, a5⟩ := pnum_0 h
  obtain ⟨b1, -, -, b4, b5⟩ := pnum_0 a1
  obtain ⟨d1, -, d3, d4, d5⟩ := pnum_0 b1
  refine ⟨a1, b1, d3, d4, b4, ?_⟩
  have q1 : (pho3 c n r).2.2 = (pho2 c n r).2.2 := a5
  have q2 : (pho2 c n r).2.2 = (pho1 c n r).2.2 := b5
  have q3 : (pho1 c n r).2.2 = (padv c n r).2.2 := d5
  rw [q1, q2, q3, (padv_2 c n r).2]
theorem xhouse {r : Rs} {Q : MI → Prop} (hg : Gok n g) (h0 : r.1 = 0) (h : XS n g r I) (H : ∀ J, XS n g (phouse (fun j => cc (g j)) n r) J → FrP I J → Q J) : Wv mX5_readHouse [.ref 3] I Q := by
  have hn := hg.1
  obtain ⟨hT, hs, ht, h4, h3⟩ := PTX_0 h0 h.1
  have hb := sane_b hs
  obtain ⟨hd, ho⟩ := h.2.1 h0
  have hsc := ho.1.2.2.1
  have hhc := ho.1.2.2.2.1
  have hnc := ho.1.2.1
  have hn2 := ho.1.1
  have i41 : I 4 1 = nI (pSc (rP r)) := hd.1.2.1
  have i42 : I 4 2 = nI (pHc (rP r)) := hd.1.2.2.1
  refine rX5_readHouse ?_
  rw [i42, show (12 : Int32) = nI 12 from rfl, ilt (by omega) (by decide)]
  refine ⟨fun hlt => ?_, fun hge => ?_⟩
  · have c4 : ∀ J, FrR I J → J 4 0 - 1 = nI (pNc (rP r) - 1) := fun J f => by
      rw [f 4 (by decide) (by decide), hd.1.1]
      obtain ⟨m, hm⟩ : ∃ m, pNc (rP r) = m + 1 := ⟨pNc (rP r) - 1, by omega⟩
      rw [hm]; exact nI_pred m
    refine xadv hg h.1 (fun I1 t1 f1 => ?_)
    rw [c4 I1 f1, cl (by omega)]
    refine xrn (lo := 1) (hi := pNc (rP r) - 1) hg t1 (fun _ => ⟨rfl, rfl, by decide, by omega⟩) (fun I2 va t2 f2 hva => ⟨ci (by omega) (by decide), fun I4 e4 => ?_⟩)
    have t4 : PTX n g (pho1 (fun j => cc (g j)) n r) I4 := PTX_u t2 (by decide) e4
    refine xrn (lo := 0) (hi := 50) hg t4 (fun _ => ⟨rfl, rfl, by decide, by decide⟩) (fun I5 vb t5 f5 hvb => ⟨ci (by omega) (by decide), fun I7 e7 => ?_⟩)
    have t7 : PTX n g (pho2 (fun j => cc (g j)) n r) I7 := PTX_u t5 (by decide) e7
    refine xrn (lo := 0) (hi := 9) hg t7 (fun _ => ⟨rfl, rfl, by decide, by decide⟩) (fun I8 vc t8 f8 hvc => ⟨ci (by omega) (by decide), fun I10 e10 => ?_⟩)
    have t10 : PTX n g (pho3 (fun j => cc (g j)) n r) I10 := PTX_u t8 (by decide) e10
    -- before the orders
    have o10 : ∀ c, c ≠ 1 → c ≠ 3 → c ≠ 8 → c ≠ 9 → c ≠ 12 → I10 c = I c := fun c a1 a3 a8 a9 a12 => by
      rw [e10, up2_cell _ _ _ a12, f8 c a1 a3, e7, up2_cell _ _ _ a9, f5 c a1 a3, e4, up2_cell _ _ _ a8, f2 c a1 a3, f1 c a1 a3]
    have o8 : ∀ k, I10 8 k = if k = pHc (rP r) then va else I 8 k := fun k => by
      rw [e10, up2_cell _ _ _ (by decide), f8 8 (by decide) (by decide), e7, up2_cell _ _ _ (by decide), f5 8 (by decide) (by decide), e4, up2_ap, if_pos rfl, f2 8 (by decide) (by decide), f1 8 (by decide) (by decide)]
    have o9 : ∀ k, I10 9 k = if k = pHc (rP r) then vb else I 9 k := fun k => by
      rw [e10, up2_cell _ _ _ (by decide), f8 9 (by decide) (by decide), e7, up2_ap, if_pos rfl, f5 9 (by decide) (by decide), e4, up2_cell _ _ _ (by decide), f2 9 (by decide) (by decide), f1 9 (by decide) (by decide)]
    have o12 : ∀ k, I10 12 k = if k = pHc (rP r) then vc else I 12 k := fun k => by
      rw [e10, up2_ap, if_pos rfl, f8 12 (by decide) (by decide), e7, up2_cell _ _ _ (by decide), f5 12 (by decide) (by decide), e4, up2_cell _ _ _ (by decide), f2 12 (by decide) (by decide), f1 12 (by decide) (by decide)]
    have e7i : ∀ k, nI (pHc (rP r)) * (7 : Int32) + nI k = nI (7 * pHc (rP r) + k) := fun k => by rw [show nI (pHc (rP r)) * (7 : Int32) = nI (pHc (rP r) * 7) from pk_mul _ 7, nI_add, Nat.mul_comm]
    have hfin : ∀ (R : Rs × (Nat → Nat)) (J : MI), (∀ J, XS n g (if R.1.1 = 0 then (0, (rT R.1, rM r, addH (rP r) (pval (fun j => cc (g j)) (padv (fun j => cc (g j)) n r)) (pval (fun j => cc (g j)) (pho1 (fun j => cc (g j)) n r)), (R.2, upd (rD r).2.1 (pHc (rP r)) (nI (pval (fun j => cc (g j)) (pho2 (fun j => cc (g j)) n r))), (rD r).2.2))) else R.1) J → FrP I J → Q J) → (R.1.1 = 0 → (pho3 (fun j => cc (g j)) n r).1 = 0 ∧ R.1.2.2 = (pho3 (fun j => cc (g j)) n r).2.2) → (R.1.1 = 0 → ∀ i, i < 7 * pHc (rP r) + 7 → R.2 i ≤ 9) → PTX n g R.1 J → (∀ c, c ≠ 1 → c ≠ 3 → c ≠ 11 → J c = I10 c) → (R.1.1 = 0 → ∀ i, i < 7 * pHc (rP r) + 7 → J 11 i = nI (R.2 i)) → LX5_readHouse_91 (nI (pHc (rP r))) (nI 7) J Q := by
      intro R J H' P0 PL tJ oJ hJ
      refine rX5_readHouse_91 ⟨fun _ K eK => ?_, fun q => absurd (by rw [show (7 : Int32) = nI 7 from rfl, ile (by decide) (by decide)]; omega) q⟩
      have j42 : J 4 2 = nI (pHc (rP r)) := by rw [oJ 4 (by decide) (by decide) (by decide), o10 4 (by decide) (by decide) (by decide) (by decide) (by decide)]; exact i42
      rw [j42, nI_s] at eK
      have tK := PTX_u tJ (by decide) eK
      have same : ∀ c, c ≠ 1 → c ≠ 3 → c ≠ 4 → c ≠ 8 → c ≠ 9 → c ≠ 11 → c ≠ 12 → K c = I c := fun c a1 a3 a4 a8 a9 a11 a12 => by
        rw [eK, up2_cell _ _ _ a4, oJ c a1 a3 a11]; exact o10 c a1 a3 a8 a9 a12
      have s4 : ∀ k, k ≠ 2 → K 4 k = I 4 k := fun k hk => by
        rw [eK, up2_slot _ _ hk, oJ 4 (by decide) (by decide) (by decide), o10 4 (by decide) (by decide) (by decide) (by decide) (by decide)]
      have s42 : K 4 2 = nI (pHc (rP r) + 1) := by rw [eK, up2_same]
      have cnt : Cnt K := ⟨pSc (rP r), pHc (rP r) + 1, hsc, by omega, by rw [s4 1 (by decide)]; exact i41, s42⟩
      have k8 : ∀ c, c ≠ 1 → c ≠ 3 → c ≠ 4 → c ≠ 11 → K c = I10 c := fun c a1 a3 a4 a11 => by rw [eK, up2_cell _ _ _ a4]; exact oJ c a1 a3 a11
      refine H' K ?_ (fun c hc => same c (by omega) (by omega) (by omega) (by omega) (by omega) (by omega) (by omega))
      by_cases z : R.1.1 = 0
      · rw [if_pos z]
        obtain ⟨z3, z22⟩ := P0 z
        obtain ⟨q1, q2, q3, q4, q5, q6⟩ := pho_0 z3
        have ea : va = nI (pval (fun j => cc (g j)) (padv (fun j => cc (g j)) n r)) := hva q2
        have eb : vb = nI (pval (fun j => cc (g j)) (pho1 (fun j => cc (g j)) n r)) := hvb q1
        have ec : vc = nI (pval (fun j => cc (g j)) (pho2 (fun j => cc (g j)) n r)) := hvc z3
        have hm : rM R.1 = rM r := by
          show R.1.2.2.1 = r.2.2.1
          rw [z22, q6]
        refine ⟨PTX_m tK z.symm rfl hm.symm, fun _ => ⟨⟨⟨?_, ?_, s42, ?_, ?_, ?_, ?_, ?_, ?_⟩, ?_, ?_, ?_⟩, ⟨⟨hn2, hnc, hsc, ?_, ho.1.2.2.2.2.1, ho.1.2.2.2.2.2.1, ho.1.2.2.2.2.2.2.1, ho.1.2.2.2.2.2.2.2.1, ?_⟩, ?_, ho.2.2⟩⟩, cnt⟩
        · rw [s4 0 (by decide)]; exact hd.1.1
        · rw [s4 1 (by decide)]; exact hd.1.2.1
        · rw [s4 3 (by decide)]; exact hd.1.2.2.2.1
        · rw [s4 4 (by decide)]; exact hd.1.2.2.2.2.1
        · rw [s4 5 (by decide)]; exact hd.1.2.2.2.2.2.1
        · rw [s4 6 (by decide)]; exact hd.1.2.2.2.2.2.2.1
        · intro k hk
          rw [same 5 (by decide) (by decide) (by decide) (by decide) (by decide) (by decide) (by decide), same 6 (by decide) (by decide) (by decide) (by decide) (by decide) (by decide) (by decide), same 7 (by decide) (by decide) (by decide) (by decide) (by decide) (by decide) (by decide)]
          exact hd.1.2.2.2.2.2.2.2.1 k hk
        · intro k hk
          have hk' : k < pHc (rP r) + 1 := hk
          show K 8 k = nI (updN (pHn (rP r)) (pHc (rP r)) _ k) ∧ K 9 k = nI (updN (pHw (rP r)) (pHc (rP r)) _ k)
          rw [k8 8 (by decide) (by decide) (by decide) (by decide), k8 9 (by decide) (by decide) (by decide) (by decide), o8, o9]
          by_cases e : k = pHc (rP r)
          · rw [if_pos e, if_pos e, e, updN_e, updN_e]; exact ⟨ea, eb⟩
          · rw [if_neg e, if_neg e, updN_n _ _ e, updN_n _ _ e]; exact hd.1.2.2.2.2.2.2.2.2 k (by omega)
        · intro i hi
          have hi' : i < 7 * (pHc (rP r) + 1) := hi
          rw [eK, up2_cell _ _ _ (by decide)]
          exact hJ z i (by omega)
        · intro k hk
          have hk' : k < pHc (rP r) + 1 := hk
          show K 12 k = upd (rD r).2.1 (pHc (rP r)) (nI (pval (fun j => cc (g j)) (pho2 (fun j => cc (g j)) n r))) k
          rw [k8 12 (by decide) (by decide) (by decide) (by decide), o12, upd_ap]
          by_cases e : k = pHc (rP r)
          · rw [if_pos e, if_pos e]; exact ec
          · rw [if_neg e, if_neg e]; exact hd.2.2.1 k (by omega)
        · intro k hk
          rw [same 13 (by decide) (by decide) (by decide) (by decide) (by decide) (by decide) (by decide), same 14 (by decide) (by decide) (by decide) (by decide) (by decide) (by decide) (by decide)]
          exact hd.2.2.2 k hk
        · show pHc (rP r) + 1 ≤ 12; omega
        · intro k hk
          have hk' : k < pHc (rP r) + 1 := hk
          show 1 ≤ updN (pHn (rP r)) (pHc (rP r)) _ k ∧ updN (pHn (rP r)) (pHc (rP r)) _ k < pNc (rP r) ∧ updN (pHw (rP r)) (pHc (rP r)) _ k ≤ 50
          by_cases e : k = pHc (rP r)
          · rw [e, updN_e, updN_e]; omega
          · rw [updN_n _ _ e, updN_n _ _ e]; exact ho.1.2.2.2.2.2.2.2.2 k (by omega)
        · intro i hi
          have hi' : i < 7 * (pHc (rP r) + 1) := hi
          exact PL z i (by omega)
      · rw [if_neg z]
        exact ⟨tK, fun y => absurd y z, cnt⟩
    have go : ∀ (m k : Nat) (J : MI), m + k = 7 → PTX n g (pord (fun j => cc (g j)) n r k).1 J → (∀ c, c ≠ 1 → c ≠ 3 → c ≠ 11 → J c = I10 c) → ((pord (fun j => cc (g j)) n r k).1.1 = 0 → ∀ i, i < 7 * pHc (rP r) + k → J 11 i = nI ((pord (fun j => cc (g j)) n r k).2 i)) → LX5_readHouse_91 (nI (pHc (rP r))) (nI k) J Q := by
      intro m
      induction m with
      | zero =>
        intro k J hm tJ oJ hJ
        have : k = 7 := by omega
        subst this
        refine hfin (pord (fun j => cc (g j)) n r 7) J (fun K hK fK => H K ?_ fK) (pord_0 7) (pord_le ho.2.1 7) tJ oJ hJ
        unfold phouse
        rw [if_neg (by omega)]
        exact hK
      | succ m ih =>
        intro k J hm tJ oJ hJ
        refine rX5_readHouse_91 ⟨fun q => ?_, fun _ => ?_⟩
        · rw [show (7 : Int32) = nI 7 from rfl, ile (by decide) (by omega)] at q; omega
        · rw [e7i k, cl (by omega)]
          refine xrn (lo := 0) (hi := 9) hg tJ (fun _ => ⟨rfl, rfl, by decide, by decide⟩) (fun K v tK fK hv => ⟨ci (by omega) (by decide), fun L eL => ?_⟩)
          rw [nI_s]
          refine ih (k + 1) L (by omega) (PTX_u tK (by decide) eL) (fun c a1 a3 a11 => ?_) (fun z i hi => ?_)
          · rw [eL, up2_cell _ _ _ a11, fK c a1 a3]; exact oJ c a1 a3 a11
          · have z' : (pnum (fun j => cc (g j)) n 0 9 (pord (fun j => cc (g j)) n r k).1).1 = 0 := z
            have zk := (pnum_0 z').1
            show L 11 i = nI (updN (pord (fun j => cc (g j)) n r k).2 (7 * pHc (rP r) + k) (pval (fun j => cc (g j)) (pord (fun j => cc (g j)) n r k).1) i)
            rw [eL, up2_ap, if_pos rfl]
            by_cases e : i = 7 * pHc (rP r) + k
            · rw [if_pos e, e, updN_e]; exact hv z'
            · rw [if_neg e, updN_n _ _ e, fK 11 (by decide) (by decide)]; exact hJ zk i (by omega)
    refine go 7 0 I10 rfl t10 (fun _ _ _ _ => rfl) (fun _ i hi => ?_)
    rw [o10 11 (by decide) (by decide) (by decide) (by decide) (by decide)]
    exact hd.2.1 i hi
  · refine xfail (off := (rT r).1) (k := 4) h.1 (fun _ => ht.1) (by omega) (by decide) (fun J tJ fJ => H J ?_ (FrP_R fJ))
    unfold phouse
    rw [if_pos (by omega)]
    refine ⟨tJ, fun y => ?_, Cnt_of h.2.2 (by rw [fJ 4 (by decide) (by decide)]) (by rw [fJ 4 (by decide) (by decide)])⟩
    unfold perr at y; rw [if_pos h0] at y; exact absurd y (by show ¬ 8 * (rT r).1 + 4 = 0; omega)
theorem xstm {r : Rs} {Q : MI → Prop} (hg : Gok n g) (h0 : r.1 = 0) (h : XS n g r I) (H : ∀ J, XS n g (pstm (fun j => cc (g j)) n r) J → FrP I J → Q J) : Wv mX5_readStatement [.ref 3] I Q := by
  have hn := hg.1
  obtain ⟨hT, hs, ht, h4, h3⟩ := PTX_0 h0 h.1
  have hb := sane_b hs
  unfold pstm at H
  have w : ∀ (j : Nat) (Qw : Int32 → MI → Prop), j < 7 → Qw (bI (isW (fun j => cc (g j)) (rT r) j)) I → Wi mX9_isWord [.ref 1, .retAddr (2 * j + 1)] I Qw := fun j Qw hj HQ => xword hg hj h.1 (fun v hv => by rw [hv h0]; exact HQ)
  refine rX5_readStatement (w 0 _ (by decide) ?_)
  rw [bI_ne, bI_eq]
  refine ⟨fun w0 => w 1 _ (by decide) ?_, fun w0 => by rw [if_pos w0] at H; exact xnodes hg h0 h H⟩
  rw [if_neg (by rw [w0]; decide)] at H
  rw [bI_ne, bI_eq]
  refine ⟨fun w1 => w 2 _ (by decide) ?_, fun w1 => ?_⟩
  · rw [if_neg (by rw [w1]; decide)] at H
    rw [bI_ne, bI_eq]
    refine ⟨fun w2 => w 3 _ (by decide) ?_, fun w2 => ?_⟩
    · rw [if_neg (by rw [w2]; decide)] at H
      rw [bI_ne, bI_eq]
      refine ⟨fun w3 => w 4 _ (by decide) ?_, fun w3 => ?_⟩
      · rw [if_neg (by rw [w3]; decide)] at H
        rw [bI_ne, bI_eq]
        refine ⟨fun w4 => w 5 _ (by decide) ?_, fun w4 => by rw [if_pos w4] at H; exact xstreet hg h0 h H⟩
        rw [if_neg (by rw [w4]; decide)] at H
        rw [bI_ne, bI_eq]
        refine ⟨fun w5 => ?_, fun w5 => by rw [if_pos w5] at H; exact xhouse hg h0 h H⟩
        rw [if_neg (by rw [w5]; decide)] at H
        refine xfail (off := (rT r).1) (k := 1) h.1 (fun _ => ht.1) (by omega) (by decide) (fun J tJ fJ => H J ⟨tJ, fun y => ?_, Cnt_of h.2.2 (by rw [fJ 4 (by decide) (by decide)]) (by rw [fJ 4 (by decide) (by decide)])⟩ (FrP_R fJ))
        unfold perr at y; rw [if_pos h0] at y; exact absurd y (by show ¬ 8 * (rT r).1 + 1 = 0; omega)
      · rw [if_pos w3] at H
        refine xonce (j := 3) hg (by decide) rfl h.1 (fun K hK fK => ?_)
        obtain ⟨e1, e2⟩ := xonce_d (j := 3) h fK
        have r1 := xfield (k := 5) (f := sPr) (p := rP r) (d := rD r) (Q := fun K2 => Wi mX5_readNumber [.ref 3, .int 0, .int 99] K2 (fun r14 I13 => (∀ I15 : MI, I15 = up2 I13 4 6 r14 → Q I15))) hg hK e2 e1 (lo := 0) (hi := 99) rfl rfl (by decide) (by decide) (by decide) (fun v z => ⟨rfl, rfl⟩) (fun _ => wPr) (fun L hL fL => ?_)
        · exact r1
        · exact xfield (k := 6) (f := sDe) (p := rP (pset (fun j => cc (g j)) n 0 99 sPr (pone (fun j => cc (g j)) n 3 r))) (d := rD (pset (fun j => cc (g j)) n 0 99 sPr (pone (fun j => cc (g j)) n 3 r))) hg hL.1 hL.2.2 (fun z => ⟨rfl, hL.2.1 z⟩) (lo := 0) (hi := 99) rfl rfl (by decide) (by decide) (by decide) (fun v z => ⟨rfl, rfl⟩) (fun _ => wDe) (fun M hM fM => H M hM ((FrP_R fK).tr (fL.tr fM)))
    · rw [if_pos w2] at H
      refine xonce (j := 2) hg (by decide) rfl h.1 (fun K hK fK => ?_)
      obtain ⟨e1, e2⟩ := xonce_d (j := 2) h fK
      exact xfield (k := 4) (f := sSt) (p := rP r) (d := rD r) hg hK e2 e1 (lo := 0) (hi := 1439) rfl rfl (by decide) (by decide) (by decide) (fun v z => ⟨rfl, rfl⟩) (fun _ => wSt) (fun L hL fL => H L hL ((FrP_R fK).tr fL))
  · rw [if_pos w1] at H
    refine xonce (j := 1) hg (by decide) rfl h.1 (fun K hK fK => ?_)
    obtain ⟨e1, e2⟩ := xonce_d (j := 1) h fK
    exact xfield (k := 3) (f := sCap) (p := rP r) (d := rD r) hg hK e2 e1 (lo := 10) (hi := 200) rfl rfl (by decide) (by decide) (by decide) (fun v z => ⟨rfl, rfl⟩) (fun _ => wCap) (fun L hL fL => H L hL ((FrP_R fK).tr fL))
/-- the text, statement by statement -/
def plp (c : Nat → Nat) (n : Nat) : Nat → Rs → Rs
  | 0, r => r
  | m + 1, r => if r.1 ≠ 0 ∨ (rT r).2.2 = 0 then r else plp c n m (psemi c n (pstm c n r))
theorem psemi_d {r : Rs} {J : MI} (h : XS n g r I) (f : FrR I J) (t : PTX n g (psemi (fun j => cc (g j)) n r) J) : XS n g (psemi (fun j => cc (g j)) n r) J := by
  refine ⟨t, fun z => ?_, Cnt_of h.2.2 (by rw [f 4 (by decide) (by decide)]) (by rw [f 4 (by decide) (by decide)])⟩
  unfold psemi at z ⊢
  by_cases h0 : r.1 ≠ 0
  · rw [if_pos h0] at z; exact absurd z h0
  · rw [if_neg h0] at z ⊢
    by_cases h3 : (rT r).2.2 ≠ 3
    · rw [if_pos h3] at z
      have : 8 * (rT r).1 + 1 = 0 := z
      omega
    · rw [if_neg h3]
      obtain ⟨d1, d2⟩ := h.2.1 (by omega)
      exact ⟨DXp_of d1 (fun c a1 a2 => f c (by omega) (by omega)), d2⟩
theorem xloop {a : Int32} {Q : MI → Prop} (hg : Gok n g) : ∀ (m i : Nat) (r : Rs) (J : MI), m + i = 900 → XS n g r J → (∀ K, XS n g (plp (fun j => cc (g j)) n m r) K → FrP J K → Q K) → LX5_readRound_27 a (nI i) J Q := by
  intro m
  induction m with
  | zero =>
    intro i r J hm hJ H
    have : i = 900 := by omega
    subst this
    exact rX5_readRound_27 ⟨fun _ => H J hJ FrP.rf, fun q => absurd (by rw [e900, ile (by decide) (by decide)]; omega) q⟩
  | succ m ih =>
    intro i r J hm hJ H
    simp only [plp] at H
    refine rX5_readRound_27 ⟨fun q => ?_, fun _ => ⟨fun q => ?_, fun q => ⟨fun q2 => ?_, fun q2 => ?_⟩⟩⟩
    · rw [e900, ile (by decide) (by omega)] at q; omega
    · have h0 : r.1 ≠ 0 := fun z => q (PTX_0 z hJ.1).2.2.2.1
      rw [if_pos (Or.inl h0)] at H
      exact H J hJ FrP.rf
    · have h0 : r.1 = 0 := by
        rcases hJ.1.2 with z | z
        · exact z.1
        · rw [z.2.2.1, nI_zero, ieq (by omega) (by decide)] at q; exact q
      obtain ⟨hT, hs, ht, h4, h3⟩ := PTX_0 h0 hJ.1
      have hb := sane_b hs
      rw [ht.2.2, nI_zero, ieq (by omega) (by decide)] at q2
      rw [if_pos (Or.inr q2)] at H
      exact H J hJ FrP.rf
    · have h0 : r.1 = 0 := by
        rcases hJ.1.2 with z | z
        · exact z.1
        · rw [z.2.2.1, nI_zero, ieq (by omega) (by decide)] at q; exact q
      obtain ⟨hT, hs, ht, h4, h3⟩ := PTX_0 h0 hJ.1
      have hk : (rT r).2.2 ≠ 0 := fun z => q2 (by rw [ht.2.2, z]; rfl)
      rw [if_neg (by omega)] at H
      refine xstm hg h0 hJ (fun K hK fK => xsemi hg hK.1 (fun L tL fL => ?_))
      rw [nI_s]
      exact ih (i + 1) _ L (by omega) (psemi_d hK fL tL) (fun M hM fM => H M hM (fK.tr ((FrP_R fL).tr fM)))
end
