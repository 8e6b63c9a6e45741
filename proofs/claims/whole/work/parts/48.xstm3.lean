/-! streets and houses in the class -/
theorem PTX_m {n : Nat} {g : Nat → Int32} {r r2 : Rs} {I : MI} (h : PTX n g r I) (h0 : r2.1 = r.1) (h1 : rT r2 = rT r) (h2 : rM r2 = rM r) : PTX n g r2 I := by
  unfold PTX at *
  rw [h0, h1, h2]
  exact h
theorem updN_p {f : Nat → Nat} {k a : Nat} {Pr : Nat → Nat → Prop} (h : ∀ i, i < k → Pr i (f i)) (ha : Pr k a) : ∀ i, i < k + 1 → Pr i (updN f k a i) := by
  intro i hi
  by_cases e : i = k
  · rw [e, updN_e]; exact ha
  · rw [updN_n _ _ e]; exact h i (by omega)
section
variable {n : Nat} {g : Nat → Int32} {I : MI}
theorem pst_0 {c : Nat → Nat} {r : Rs} (h : (pst4 c n r).1 = 0) : (pst3 c n r).1 = 0 ∧ pst3 c n r = pst2 c n r ∧ (pst2 c n r).1 = 0 ∧ (pst1 c n r).1 = 0 ∧ stA c n r ≤ pNc (rP r) - 1 ∧ stB c n r ≤ pNc (rP r) - 1 ∧ stB c n r ≠ stA c n r ∧ jnd (rP r) (stA c n r) (stB c n r) (pSc (rP r)) = false ∧ 1 ≤ stL c n r ∧ stL c n r ≤ 99 ∧ (pst4 c n r).2.2 = r.2.2 := by
  obtain ⟨a1, a2, a3, a4, a5⟩ := pnum_0 h
  have e3 : pst3 c n r = pst2 c n r ∧ (pst2 c n r).1 = 0 ∧ ¬ (stB c n r = stA c n r ∨ jnd (rP r) (stA c n r) (stB c n r) (pSc (rP r)) = true) := by
    unfold pst3 at a1 ⊢
    by_cases q : (pst2 c n r).1 = 0 ∧ (stB c n r = stA c n r ∨ jnd (rP r) (stA c n r) (stB c n r) (pSc (rP r)) = true)
    · rw [if_pos q] at a1
      unfold perr at a1
      rw [if_pos q.1] at a1
      have : 8 * (rT (pst1 c n r)).1 + 3 = 0 := a1
      omega
    · rw [if_neg q] at a1 ⊢
      exact ⟨rfl, a1, fun z => q ⟨a1, z⟩⟩
  obtain ⟨b1, b2, b3, b4, b5⟩ := pnum_0 e3.2.1
  obtain ⟨d1, d2, d3, d4, d5⟩ := pnum_0 b1
  have pa := padv_2 c n r
  refine ⟨a1, e3.1, e3.2.1, b1, d4, b4, fun z => e3.2.2 (Or.inl z), ?_, a3, a4, ?_⟩
  · cases hj : jnd (rP r) (stA c n r) (stB c n r) (pSc (rP r)) with
    | false => rfl
    | true => exact absurd (Or.inr hj) e3.2.2
  · have q1 : (pst4 c n r).2.2 = (pst3 c n r).2.2 := a5
    have q2 : (pst2 c n r).2.2 = (pst1 c n r).2.2 := b5
    have q3 : (pst1 c n r).2.2 = (padv c n r).2.2 := d5
    rw [q1, e3.1, q2, q3, pa.2]
theorem xstreet {r : Rs} {Q : MI → Prop} (hg : Gok n g) (h0 : r.1 = 0) (h : XS n g r I) (H : ∀ J, XS n g (pstreet (fun j => cc (g j)) n r) J → FrP I J → Q J) : Wv mX5_readStreet [.ref 3] I Q := by
  have hn := hg.1
  obtain ⟨hT, hs, ht, h4, h3⟩ := PTX_0 h0 h.1
  have hb := sane_b hs
  obtain ⟨hd, ho⟩ := h.2.1 h0
  obtain ⟨sc', hc', hsc', hhc', e41, e42⟩ := h.2.2
  have hsc := ho.1.2.2.1
  have hhc := ho.1.2.2.2.1
  have hnc := ho.1.2.1
  have hn2 := ho.1.1
  have i41 : I 4 1 = nI (pSc (rP r)) := hd.1.2.1
  have i42 : I 4 2 = nI (pHc (rP r)) := hd.1.2.2.1
  refine rX5_readStreet ?_
  rw [i41, show (18 : Int32) = nI 18 from rfl, ilt (by omega) (by decide)]
  refine ⟨fun hlt => ?_, fun hge => ?_⟩
  · have c4 : ∀ J, FrR I J → J 4 0 - 1 = nI (pNc (rP r) - 1) := fun J f => by
      rw [f 4 (by decide) (by decide), hd.1.1]
      obtain ⟨m, hm⟩ : ∃ m, pNc (rP r) = m + 1 := ⟨pNc (rP r) - 1, by omega⟩
      rw [hm]; exact nI_pred m
    refine xadv hg h.1 (fun I1 t1 f1 => ?_)
    rw [c4 I1 f1]
    refine xrn (lo := 0) (hi := pNc (rP r) - 1) hg t1 (fun _ => ⟨rfl, rfl, by decide, by omega⟩) (fun I2 av t2 f2 hav => ?_)
    rw [c4 I2 (f1.tr f2)]
    refine xrn (lo := 0) (hi := pNc (rP r) - 1) hg t2 (fun _ => ⟨rfl, rfl, by decide, by omega⟩) (fun I4 bv t4 f4 hbv => ?_)
    have t2' : PTX n g (pst1 (fun j => cc (g j)) n r) I2 := t2
    have t4' : PTX n g (pst2 (fun j => cc (g j)) n r) I4 := t4
    have f04 : FrR I I4 := (f1.tr f2).tr f4
    -- both ends are numbers
    have good : (pst2 (fun j => cc (g j)) n r).1 = 0 → av = nI (stA (fun j => cc (g j)) n r) ∧ bv = nI (stB (fun j => cc (g j)) n r) ∧ stA (fun j => cc (g j)) n r ≤ 9 ∧ stB (fun j => cc (g j)) n r ≤ 9 ∧ I2 1 3 = nI (rT (pst1 (fun j => cc (g j)) n r)).1 ∧ (rT (pst1 (fun j => cc (g j)) n r)).1 ≤ 900 := by
      intro z
      obtain ⟨b1, b2, b3, b4, b5⟩ := pnum_0 z
      obtain ⟨d1, d2, d3, d4, d5⟩ := pnum_0 b1
      obtain ⟨-, s2, k2, -⟩ := PTX_0 b1 t2'
      have b4' : stB (fun j => cc (g j)) n r ≤ pNc (rP r) - 1 := b4
      have d4' : stA (fun j => cc (g j)) n r ≤ pNc (rP r) - 1 := d4
      refine ⟨hav b1, hbv z, by omega, by omega, k2.1, ?_⟩
      have := sane_b s2
      omega
    -- after both ends
    have f98 : ∀ (J : MI) (l3 : Int32), PTX n g (pst3 (fun j => cc (g j)) n r) J → FrR I J → LX5_readStreet_98 (nI (pSc (rP r))) av l3 bv J Q := by
      intro J l3 tJ fJ
      refine rX5_readStreet_98 ?_
      rw [cl (by omega)]
      refine ⟨ci (by omega) (by decide), fun K1 e1 => ⟨ci (by omega) (by decide), fun K2 e2 => ?_⟩⟩
      have tK2 := PTX_u (PTX_u tJ (by decide) e1) (by decide) e2
      refine xrn (lo := 1) (hi := 99) hg tK2 (fun _ => ⟨rfl, rfl, by decide, by decide⟩) (fun K3 lv t3 f3 hlv => ⟨ci (by omega) (by decide), fun K5 e5 => ?_⟩)
      have t5 : PTX n g (pst4 (fun j => cc (g j)) n r) K5 := PTX_u t3 (by decide) e5
      refine xgate hg hlt t5 (fun r2 K6 t6 o6 o6k hN hE K7 e7 => ?_)
      have k41 : K6 4 1 = nI (pSc (rP r)) := by
        rw [o6 4 (by decide) (by decide) (by decide) (by decide), e5, up2_cell _ _ _ (by decide), f3 4 (by decide) (by decide), e2, up2_cell _ _ _ (by decide), e1, up2_cell _ _ _ (by decide), fJ 4 (by decide) (by decide)]; exact i41
      rw [k41, nI_s] at e7
      have t7 := PTX_u t6 (by decide) e7
      -- all cells at the end
      have same : ∀ c, c ≠ 1 → c ≠ 3 → c ≠ 4 → c ≠ 5 → c ≠ 6 → c ≠ 7 → c ≠ 13 → c ≠ 14 → K7 c = I c := fun c a1 a3 a4 a5 a6 a7 a13 a14 => by
        rw [e7, up2_cell _ _ _ a4, o6 c a1 a3 a13 a14, e5, up2_cell _ _ _ a7, f3 c a1 a3, e2, up2_cell _ _ _ a6, e1, up2_cell _ _ _ a5]; exact fJ c a1 a3
      have fr : FrP I K7 := fun c hc => same c (by omega) (by omega) (by omega) (by omega) (by omega) (by omega) (by omega) (by omega)
      have s4 : ∀ k, k ≠ 1 → K7 4 k = I 4 k := fun k hk => by
        rw [e7, up2_slot _ _ hk, o6 4 (by decide) (by decide) (by decide) (by decide), e5, up2_cell _ _ _ (by decide), f3 4 (by decide) (by decide), e2, up2_cell _ _ _ (by decide), e1, up2_cell _ _ _ (by decide), fJ 4 (by decide) (by decide)]
      have s41 : K7 4 1 = nI (pSc (rP r) + 1) := by rw [e7, up2_same]
      have s5 : ∀ k, K7 5 k = if k = pSc (rP r) then av else I 5 k := fun k => by
        rw [e7, up2_cell _ _ _ (by decide), o6 5 (by decide) (by decide) (by decide) (by decide), e5, up2_cell _ _ _ (by decide), f3 5 (by decide) (by decide), e2, up2_cell _ _ _ (by decide), e1, up2_ap, if_pos rfl, fJ 5 (by decide) (by decide)]
      have s6 : ∀ k, K7 6 k = if k = pSc (rP r) then bv else I 6 k := fun k => by
        rw [e7, up2_cell _ _ _ (by decide), o6 6 (by decide) (by decide) (by decide) (by decide), e5, up2_cell _ _ _ (by decide), f3 6 (by decide) (by decide), e2, up2_ap, if_pos rfl, e1, up2_cell _ _ _ (by decide), fJ 6 (by decide) (by decide)]
      have s7 : ∀ k, K7 7 k = if k = pSc (rP r) then lv else I 7 k := fun k => by
        rw [e7, up2_cell _ _ _ (by decide), o6 7 (by decide) (by decide) (by decide) (by decide), e5, up2_ap, if_pos rfl, f3 7 (by decide) (by decide), e2, up2_cell _ _ _ (by decide), e1, up2_cell _ _ _ (by decide), fJ 7 (by decide) (by decide)]
      have s13 : ∀ k, k ≠ pSc (rP r) → K7 13 k = I 13 k ∧ K7 14 k = I 14 k := fun k hk => by
        obtain ⟨u1, u2⟩ := o6k k hk
        refine ⟨?_, ?_⟩
        · rw [e7, up2_cell _ _ _ (by decide), u1, e5, up2_cell _ _ _ (by decide), f3 13 (by decide) (by decide), e2, up2_cell _ _ _ (by decide), e1, up2_cell _ _ _ (by decide), fJ 13 (by decide) (by decide)]
        · rw [e7, up2_cell _ _ _ (by decide), u2, e5, up2_cell _ _ _ (by decide), f3 14 (by decide) (by decide), e2, up2_cell _ _ _ (by decide), e1, up2_cell _ _ _ (by decide), fJ 14 (by decide) (by decide)]
      have cnt : Cnt K7 := ⟨pSc (rP r) + 1, pHc (rP r), by omega, hhc, s41, by rw [s4 2 (by decide)]; exact i42⟩
      refine H K7 ?_ fr
      unfold pstreet
      rw [if_neg (by omega)]
      by_cases z4 : (pst4 (fun j => cc (g j)) n r).1 = 0
      · rw [if_neg (by omega)]
        obtain ⟨p1, p2, p3, p4, p5, p6, p7, p8, p9, p10, p11⟩ := pst_0 z4
        obtain ⟨g1, g2, g3, g4, -, -⟩ := good p3
        have hL : lv = nI (stL (fun j => cc (g j)) n r) := hlv z4
        obtain ⟨hN1, hN2⟩ := hN z4
        -- a street with its gate
        have mk : ∀ (F T : Nat) (tt : Nat × Nat × Nat), K7 13 (pSc (rP r)) = nI F → K7 14 (pSc (rP r)) = nI T → (T = 0 ∧ F = 0 ∨ F < T ∧ T ≤ 1440) → PTX n g (0, (tt, rM r, addS (rP r) (stA (fun j => cc (g j)) n r) (stB (fun j => cc (g j)) n r) (stL (fun j => cc (g j)) n r), addG (rD r) (pSc (rP r)) F T)) K7 → XS n g (0, (tt, rM r, addS (rP r) (stA (fun j => cc (g j)) n r) (stB (fun j => cc (g j)) n r) (stL (fun j => cc (g j)) n r), addG (rD r) (pSc (rP r)) F T)) K7 := by
          intro F T tt k13 k14 hFT tP
          refine ⟨tP, fun _ => ⟨⟨⟨?_, s41, ?_, ?_, ?_, ?_, ?_, ?_, ?_⟩, ?_, ?_, ?_⟩, ⟨⟨hn2, hnc, ?_, hhc, ho.1.2.2.2.2.1, ho.1.2.2.2.2.2.1, ho.1.2.2.2.2.2.2.1, ?_, ho.1.2.2.2.2.2.2.2.2⟩, ho.2.1, ?_⟩⟩, cnt⟩
          · rw [s4 0 (by decide)]; exact hd.1.1
          · rw [s4 2 (by decide)]; exact hd.1.2.2.1
          · rw [s4 3 (by decide)]; exact hd.1.2.2.2.1
          · rw [s4 4 (by decide)]; exact hd.1.2.2.2.2.1
          · rw [s4 5 (by decide)]; exact hd.1.2.2.2.2.2.1
          · rw [s4 6 (by decide)]; exact hd.1.2.2.2.2.2.2.1
          · intro k hk
            have hk' : k < pSc (rP r) + 1 := hk
            show K7 5 k = nI (updN (pA (rP r)) (pSc (rP r)) _ k) ∧ K7 6 k = nI (updN (pB (rP r)) (pSc (rP r)) _ k) ∧ K7 7 k = nI (updN (pL (rP r)) (pSc (rP r)) _ k)
            rw [s5, s6, s7]
            by_cases e : k = pSc (rP r)
            · rw [if_pos e, if_pos e, if_pos e, e, updN_e, updN_e, updN_e]; exact ⟨g1, g2, hL⟩
            · rw [if_neg e, if_neg e, if_neg e, updN_n _ _ e, updN_n _ _ e, updN_n _ _ e]
              exact hd.1.2.2.2.2.2.2.2.1 k (by omega)
          · intro hh hhh
            rw [same 8 (by decide) (by decide) (by decide) (by decide) (by decide) (by decide) (by decide) (by decide), same 9 (by decide) (by decide) (by decide) (by decide) (by decide) (by decide) (by decide) (by decide)]
            exact hd.1.2.2.2.2.2.2.2.2 hh hhh
          · intro i hi
            rw [same 11 (by decide) (by decide) (by decide) (by decide) (by decide) (by decide) (by decide) (by decide)]
            exact hd.2.1 i hi
          · intro hh hhh
            rw [same 12 (by decide) (by decide) (by decide) (by decide) (by decide) (by decide) (by decide) (by decide)]
            exact hd.2.2.1 hh hhh
          · intro k hk
            have hk' : k < pSc (rP r) + 1 := hk
            show K7 13 k = nI (updN (rD r).2.2.1 (pSc (rP r)) F k) ∧ K7 14 k = nI (updN (rD r).2.2.2 (pSc (rP r)) T k)
            by_cases e : k = pSc (rP r)
            · rw [e, updN_e, updN_e]; exact ⟨k13, k14⟩
            · rw [updN_n _ _ e, updN_n _ _ e, (s13 k e).1, (s13 k e).2]
              exact hd.2.2.2 k (by omega)
          · show pSc (rP r) + 1 ≤ 18; omega
          · intro k hk
            have hk' : k < pSc (rP r) + 1 := hk
            show updN (pA (rP r)) (pSc (rP r)) _ k < pNc (rP r) ∧ updN (pB (rP r)) (pSc (rP r)) _ k < pNc (rP r) ∧ 1 ≤ updN (pL (rP r)) (pSc (rP r)) _ k ∧ updN (pL (rP r)) (pSc (rP r)) _ k ≤ 99
            by_cases e : k = pSc (rP r)
            · rw [e, updN_e, updN_e, updN_e]; omega
            · rw [updN_n _ _ e, updN_n _ _ e, updN_n _ _ e]; exact ho.1.2.2.2.2.2.2.2.1 k (by omega)
          · intro k hk
            have hk' : k < pSc (rP r) + 1 := hk
            show updN (rD r).2.2.2 (pSc (rP r)) T k = 0 ∧ updN (rD r).2.2.1 (pSc (rP r)) F k = 0 ∨ updN (rD r).2.2.1 (pSc (rP r)) F k < updN (rD r).2.2.2 (pSc (rP r)) T k ∧ updN (rD r).2.2.2 (pSc (rP r)) T k ≤ 1440
            by_cases e : k = pSc (rP r)
            · rw [e, updN_e, updN_e]; exact hFT
            · rw [updN_n _ _ e, updN_n _ _ e]; exact ho.2.2 k (by omega)
        have k713 : ∀ y, K6 13 (pSc (rP r)) = y → K7 13 (pSc (rP r)) = y := fun y hy => by rw [e7, up2_cell _ _ _ (by decide)]; exact hy
        have k714 : ∀ y, K6 14 (pSc (rP r)) = y → K7 14 (pSc (rP r)) = y := fun y hy => by rw [e7, up2_cell _ _ _ (by decide)]; exact hy
        cases hG : isW (fun j => cc (g j)) (rT (pst4 (fun j => cc (g j)) n r)) 6 with
        | true =>
          have hG' : stG (fun j => cc (g j)) n r = true := hG
          rw [if_pos hG']
          obtain ⟨w1, w2⟩ := hN1 hG
          have w1' : r2 = pst6 (fun j => cc (g j)) n r := w1
          rw [w1'] at t7 w2
          by_cases z6 : (pst6 (fun j => cc (g j)) n r).1 = 0
          · rw [if_pos z6]
            obtain ⟨w3, w4⟩ := w2 z6
            obtain ⟨q1, q2, q3, q4, q5⟩ := pnum_0 z6
            obtain ⟨u1, u2, u3, u4, u5⟩ := pnum_0 q1
            have u4' : stF (fun j => cc (g j)) n r ≤ 1439 := u4
            have q3' : stF (fun j => cc (g j)) n r + 1 ≤ stT (fun j => cc (g j)) n r := q3
            have q4' : stT (fun j => cc (g j)) n r ≤ 1440 := q4
            have hm : rM (pst6 (fun j => cc (g j)) n r) = rM r := by
              have m1 : (pst6 (fun j => cc (g j)) n r).2.2 = (pst5 (fun j => cc (g j)) n r).2.2 := q5
              have m2 : (pst5 (fun j => cc (g j)) n r).2.2 = (padv (fun j => cc (g j)) n (pst4 (fun j => cc (g j)) n r)).2.2 := u5
              show (pst6 (fun j => cc (g j)) n r).2.2.1 = r.2.2.1
              rw [m1, m2, (padv_2 _ _ _).2, p11]
            exact mk (stF (fun j => cc (g j)) n r) (stT (fun j => cc (g j)) n r) _ (k713 _ w3) (k714 _ w4) (Or.inr ⟨by omega, q4'⟩) (PTX_m t7 z6.symm rfl hm.symm)
          · rw [if_neg z6]
            exact ⟨t7, fun y => absurd y z6, cnt⟩
        | false =>
          have hG' : ¬ stG (fun j => cc (g j)) n r = true := fun y => by
            have : isW (fun j => cc (g j)) (rT (pst4 (fun j => cc (g j)) n r)) 6 = true := y
            rw [hG] at this; cases this
          rw [if_neg hG']
          obtain ⟨w1, w3, w4⟩ := hN2 hG
          rw [w1] at t7
          have hm : rM (pst4 (fun j => cc (g j)) n r) = rM r := by show (pst4 (fun j => cc (g j)) n r).2.2.1 = r.2.2.1; rw [p11]
          exact mk 0 0 _ (k713 _ w3) (k714 _ w4) (Or.inl ⟨rfl, rfl⟩) (PTX_m t7 z4.symm rfl hm.symm)
      · rw [if_pos z4]
        rw [hE z4] at t7
        exact ⟨t7, fun y => absurd y z4, cnt⟩
    -- the same street again
    have f92 : ((pst2 (fun j => cc (g j)) n r).1 = 0 → stB (fun j => cc (g j)) n r = stA (fun j => cc (g j)) n r ∨ jnd (rP r) (stA (fun j => cc (g j)) n r) (stB (fun j => cc (g j)) n r) (pSc (rP r)) = true) → LX5_readStreet_92 (nI (pSc (rP r))) av (I2 1 3) bv I4 Q := by
      intro z
      by_cases z2 : (pst2 (fun j => cc (g j)) n r).1 = 0
      · obtain ⟨g1, g2, g3, g4, g5, g6⟩ := good z2
        refine rX5_readStreet_92 (xfail (off := (rT (pst1 (fun j => cc (g j)) n r)).1) (k := 3) t4' (fun _ => g5) g6 (by decide) (fun J tJ fJ => f98 J _ ?_ (f04.tr fJ)))
        unfold pst3
        rw [if_pos ⟨z2, z z2⟩]
        exact tJ
      · refine rX5_readStreet_92 (xfail (off := 0) (k := 3) t4' (fun y => absurd y z2) (by decide) (by decide) (fun J tJ fJ => f98 J _ ?_ (f04.tr fJ)))
        unfold pst3
        rw [if_neg (fun y => z2 y.1)]
        unfold perr at tJ
        rw [if_neg z2] at tJ
        exact tJ
    refine ⟨fun q => f92 (fun z2 => ?_), fun q => ?_⟩
    · obtain ⟨g1, g2, g3, g4, -, -⟩ := good z2
      rw [g1, g2, ieq (by omega) (by omega)] at q
      exact Or.inl q
    · have j41 : I4 4 1 = nI (pSc (rP r)) := by rw [f04 4 (by decide) (by decide)]; exact i41
      refine sX_joins (by omega) j41 ?_
      have hPX : PX 4 (rP r) I4 := PX_of hd.1 (fun i _ _ => f04 i (by omega) (by omega))
      have jj : (pst2 (fun j => cc (g j)) n r).1 = 0 → jI (I4 5) (I4 6) av bv (pSc (rP r)) = jnd (rP r) (stA (fun j => cc (g j)) n r) (stB (fun j => cc (g j)) n r) (pSc (rP r)) := fun z2 => by
        obtain ⟨g1, g2, g3, g4, -, -⟩ := good z2
        rw [g1, g2]
        exact jI_jnd ho.1 hPX (by omega) (by omega) _ (Nat.le_refl _)
      rw [bI_ne, bI_eq]
      refine ⟨fun z => f98 I4 _ ?_ f04, fun z => f92 (fun z2 => Or.inr (by rw [← jj z2]; exact z))⟩
      unfold pst3
      rw [if_neg]
      · exact t4'
      · rintro ⟨z2, y | y⟩
        · obtain ⟨g1, g2, g3, g4, -, -⟩ := good z2
          exact q (by rw [g1, g2, y])
        · rw [jj z2, y] at z; cases z
  · refine xfail (off := (rT r).1) (k := 4) h.1 (fun _ => ht.1) (by omega) (by decide) (fun J tJ fJ => H J ?_ (FrP_R fJ))
    unfold pstreet
    rw [if_pos (by omega)]
    refine ⟨tJ, fun y => ?_, Cnt_of h.2.2 (by rw [fJ 4 (by decide) (by decide)]) (by rw [fJ 4 (by decide) (by decide)])⟩
    unfold perr at y; rw [if_pos h0] at y; exact absurd y (by show ¬ 8 * (rT r).1 + 4 = 0; omega)
end
