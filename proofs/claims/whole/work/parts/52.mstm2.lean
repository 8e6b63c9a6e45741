/-! streets and houses in the reference -/
section
variable {n : Nat} {g : Nat → Int32} {I : MI}
theorem PTM_er {r r2 : Rs} (h : PTM n g r I) (h0 : r.1 ≠ 0) (h1 : r2.1 = r.1) : PTM n g r2 I := by
  obtain ⟨hT, hh⟩ := h
  rcases hh with q | q
  · exact absurd q.1 h0
  · refine ⟨hT, Or.inr ?_⟩
    rw [h1]; exact q
theorem MS_er {r r2 : Rs} (h : PTM n g r I) (h0 : r.1 ≠ 0) (h1 : r2.1 = r.1) : MS n g r2 I := ⟨PTM_er h h0 h1, fun z => absurd (h1.symm.trans z) h0⟩
theorem i264 {k : Nat} (hk : k < 7) : vp_in (nI k) 7 := ci hk (by decide)
theorem mstreet {r : Rs} {Q : MI → Prop} (hg : Gok n g) (h0 : r.1 = 0) (h : MS n g r I) (ho : POk (rP r) (rD r)) (H : ∀ J, MS n g (pstreet (fun j => cc (g j)) n r) J → FM I J → Q J) : Wv mX12_readStreet [.ref 261] I Q := by
  have hn := hg.1
  have hD := h.2 h0
  have hsc := ho.1.2.2.1
  have hnc := ho.1.2.1
  have hn2 := ho.1.1
  have i5 : I 264 5 = nI (pSc (rP r)) := hD.2.2.2.2.2.1
  have i0 : I 264 0 = nI (pNc (rP r)) := hD.1
  have em1 : nI (pNc (rP r)) - 1 = nI (pNc (rP r) - 1) := by
    obtain ⟨m, hm⟩ : ∃ m, pNc (rP r) = m + 1 := ⟨pNc (rP r) - 1, by omega⟩
    rw [hm]; exact nI_pred m
  refine rX12_readStreet ?_
  rw [show (5 : Int32).toNatClampNeg = 5 from rfl, i5, show (18 : Int32) = nI 18 from rfl, ile (by decide) (by omega)]
  refine ⟨i264 (k := 5) (by decide), fun hge => rX12_readStreet_17 (mmust (k := 4) hg h.1 (by decide) (fun z => absurd rfl z) (fun _ J tJ sJ => ⟨fun z => absurd rfl z, fun _ => H J ?_ (FM_o sJ)⟩)), fun hlt => rX12_readStreet_17 (mmust (k := 4) hg h.1 (by decide) (fun _ => ?_) (fun z => absurd z (by decide)))⟩
  · have hp : pstreet (fun j => cc (g j)) n r = perr (rT r).1 4 r := by unfold pstreet; rw [if_pos hge]
    rw [hp]
    refine ⟨tJ, fun z => ?_⟩
    unfold perr at z; rw [if_pos h0] at z; exact absurd z (by show ¬ 8 * (rT r).1 + 4 = 0; omega)
  · rw [decide_eq_true h0]
    refine ⟨fun _ => ⟨i264 (k := 5) (by decide), mnext hg h0 h.1 (fun I3 t3 s3 => ⟨i264 (k := 0) (by decide), ?_⟩)⟩, fun z => absurd z (by decide)⟩
    have p0 : (padv (fun j => cc (g j)) n r).1 = 0 := by rw [(padv_2 _ _ _).1]; exact h0
    rw [show (0 : Int32).toNatClampNeg = 0 from rfl, show (5 : Int32).toNatClampNeg = 5 from rfl, SO_c s3 264 (by decide), i0, em1, i5, show (18 : Int32) = nI 18 from rfl, nI_add]
    refine mnum (lo := 0) hg p0 t3 (by decide) (by omega) (fun I4 av t4 s4 hav => ?_)
    have t4' : PTM n g (pst1 (fun j => cc (g j)) n r) I4 := t4
    have s04 : SamM [] kQ I I4 := s3.tr s4
    have dk : ∀ J, SamM [] kQ I J → DMp (rP r) (rD r) J := fun J s => DMp_of hD (fun c a1 a2 => SO_c s c (by omega))
    -- any error ends the street
    have hp4 : ∀ e, (pst4 (fun j => cc (g j)) n r).1 ≠ 0 → (pst4 (fun j => cc (g j)) n r).1 = e → ∀ (re : Rs) (J : MI), re.1 = e → PTM n g re J → FM I J → Q J := by
      intro e h1 h2 re J hre tJ fJ
      refine H J ?_ fJ
      have hp : pstreet (fun j => cc (g j)) n r = pst4 (fun j => cc (g j)) n r := by unfold pstreet; rw [if_neg (by omega), if_pos h1]
      rw [hp]
      exact MS_er tJ (by rw [hre, ← h2]; exact h1) (by rw [h2, hre])
    -- the end of a street
    have f271 : ∀ (l1 l2 l3 l4 : Int32) (J : MI), J 264 5 = nI (pSc (rP r)) → (∀ K, K = up2 J 264 5 (nI (pSc (rP r) + 1)) → Q K) → LX12_readStreet_271 l1 l2 l3 l4 J Q := by
      intro l1 l2 l3 l4 J hJ HK
      refine rX12_readStreet_271 ⟨i264 (k := 5) (by decide), i264 (k := 5) (by decide), fun K eK => HK K ?_⟩
      rw [show (5 : Int32).toNatClampNeg = 5 from rfl, hJ, nI_s] at eK
      exact eK
    -- the length and the gate
    have f170 : (pst3 (fun j => cc (g j)) n r).1 = 0 → ∀ (lv : Int32) (J : MI), av = nI (stA (fun j => cc (g j)) n r) → PTM n g (pst4 (fun j => cc (g j)) n r) J → SamM [] kQ I J → ((pst4 (fun j => cc (g j)) n r).1 = 0 → lv = nI (stL (fun j => cc (g j)) n r)) → LX12_readStreet_170 (nI (18 + pSc (rP r))) av (nI (stB (fun j => cc (g j)) n r)) lv J Q := by
      intro z3 lv J ea tJ sJ hlv
      refine rX12_readStreet_170 ?_
      rw [PTM_z tJ, cl (show 18 + pSc (rP r) < 2147483648 by omega)]
      refine ⟨fun z4 => ?_, fun z4 => hp4 _ z4 rfl _ J rfl tJ (FM_o sJ)⟩
      obtain ⟨p1, p2, p3, p4, p5, p6, p7, p8, p9, p10, p11⟩ := pst_0 z4
      have iv : vp_in (nI (18 + pSc (rP r))) 36 := ci (by omega) (by decide)
      refine ⟨iv, fun K1 e1 => ⟨iv, fun K2 e2 => ⟨iv, fun K3 e3 => ⟨iv, fun K4 e4 => ⟨iv, fun K5 e5 => ?_⟩⟩⟩⟩⟩
      have t5 : PTM n g (pst4 (fun j => cc (g j)) n r) K5 := PTM_u (PTM_u (PTM_u (PTM_u (PTM_u tJ (by decide) e1) (by decide) e2) (by decide) e3) (by decide) e4) (by decide) e5
      have nh : ∀ c, 265 ≤ c → c ≤ 269 → ¬ half c (18 + pSc (rP r)) := fun c a1 a2 => by unfold half; omega
      have f5 : FM J K5 := ((((FM_u (by simp) (nh 265 (by decide) (by decide)) e1).tr (FM_u (by simp) (nh 266 (by decide) (by decide)) e2)).tr (FM_u (by simp) (nh 267 (by decide) (by decide)) e3)).tr (FM_u (by simp) (nh 268 (by decide) (by decide)) e4)).tr (FM_u (by simp) (nh 269 (by decide) (by decide)) e5)
      have hm4 : rM (pst4 (fun j => cc (g j)) n r) = rM r := by show (pst4 (fun j => cc (g j)) n r).2.2.1 = r.2.2.1; rw [p11]
      have dJ := dk J sJ
      -- a street with its gate
      have mk : ∀ (F T : Nat) (tt : Nat × Nat × Nat) (L K : MI), (∀ c, c ≠ 261 → c ≠ 268 → c ≠ 269 → L c = K5 c) → (∀ k, k ≠ 18 + pSc (rP r) → L 268 k = K5 268 k ∧ L 269 k = K5 269 k) → (T = 0 → L 268 (18 + pSc (rP r)) = -1) → (T ≠ 0 → L 268 (18 + pSc (rP r)) = nI F ∧ L 269 (18 + pSc (rP r)) = nI T) → K = up2 L 264 5 (nI (pSc (rP r) + 1)) → DMp (addS (rP r) (stA (fun j => cc (g j)) n r) (stB (fun j => cc (g j)) n r) (stL (fun j => cc (g j)) n r)) (addG (rD r) (pSc (rP r)) F T) K := by
        intro F T tt L K hc hk hT0 hT1 eK
        have oK : ∀ c, c ≠ 264 → K c = L c := fun c h => by rw [eK, up2_cell _ _ _ h]
        have o4 : ∀ k, k ≠ 5 → K 264 k = J 264 k := fun k h => by
          rw [eK, up2_slot _ _ h, hc 264 (by decide) (by decide) (by decide), e5, up2_cell _ _ _ (by decide), e4, up2_cell _ _ _ (by decide), e3, up2_cell _ _ _ (by decide), e2, up2_cell _ _ _ (by decide), e1, up2_cell _ _ _ (by decide)]
        have o5 : ∀ k, K 265 k = if k = 18 + pSc (rP r) then av else J 265 k := fun k => by
          rw [oK 265 (by decide), hc 265 (by decide) (by decide) (by decide), e5, up2_cell _ _ _ (by decide), e4, up2_cell _ _ _ (by decide), e3, up2_cell _ _ _ (by decide), e2, up2_cell _ _ _ (by decide), e1, up2_ap, if_pos rfl]
        have o6 : ∀ k, K 266 k = if k = 18 + pSc (rP r) then nI (stB (fun j => cc (g j)) n r) else J 266 k := fun k => by
          rw [oK 266 (by decide), hc 266 (by decide) (by decide) (by decide), e5, up2_cell _ _ _ (by decide), e4, up2_cell _ _ _ (by decide), e3, up2_cell _ _ _ (by decide), e2, up2_ap, if_pos rfl, e1, up2_cell _ _ _ (by decide)]
        have o7 : ∀ k, K 267 k = if k = 18 + pSc (rP r) then lv else J 267 k := fun k => by
          rw [oK 267 (by decide), hc 267 (by decide) (by decide) (by decide), e5, up2_cell _ _ _ (by decide), e4, up2_cell _ _ _ (by decide), e3, up2_ap, if_pos rfl, e2, up2_cell _ _ _ (by decide), e1, up2_cell _ _ _ (by decide)]
        have o8 : ∀ k, k ≠ 18 + pSc (rP r) → K 268 k = J 268 k ∧ K 269 k = J 269 k := fun k h => by
          obtain ⟨u1, u2⟩ := hk k h
          refine ⟨?_, ?_⟩
          · rw [oK 268 (by decide), u1, e5, up2_cell _ _ _ (by decide), e4, up2_slot _ _ h, e3, up2_cell _ _ _ (by decide), e2, up2_cell _ _ _ (by decide), e1, up2_cell _ _ _ (by decide)]
          · rw [oK 269 (by decide), u2, e5, up2_slot _ _ h, e4, up2_cell _ _ _ (by decide), e3, up2_cell _ _ _ (by decide), e2, up2_cell _ _ _ (by decide), e1, up2_cell _ _ _ (by decide)]
        have oo : ∀ c, 270 ≤ c → c ≤ 273 → K c = J c := fun c a1 a2 => by
          rw [oK c (by omega), hc c (by omega) (by omega) (by omega), e5, up2_cell _ _ _ (by omega), e4, up2_cell _ _ _ (by omega), e3, up2_cell _ _ _ (by omega), e2, up2_cell _ _ _ (by omega), e1, up2_cell _ _ _ (by omega)]
        obtain ⟨b0, b1, b2, b3, b4, b5, b6, b7, b8, b9⟩ := dJ
        refine ⟨?_, ?_, ?_, ?_, ?_, ?_, ?_, ?_, ?_, ?_⟩
        · rw [o4 0 (by decide)]; exact b0
        · rw [o4 1 (by decide)]; exact b1
        · rw [o4 2 (by decide)]; exact b2
        · rw [o4 3 (by decide)]; exact b3
        · rw [o4 4 (by decide)]; exact b4
        · rw [eK, up2_same]; rfl
        · rw [o4 6 (by decide)]; exact b6
        · intro k hk'
          have hk2 : k < pSc (rP r) + 1 := hk'
          show K 265 (18 + k) = nI (updN (pA (rP r)) (pSc (rP r)) _ k) ∧ K 266 (18 + k) = nI (updN (pB (rP r)) (pSc (rP r)) _ k) ∧ K 267 (18 + k) = nI (updN (pL (rP r)) (pSc (rP r)) _ k) ∧ (updN (rD r).2.2.2 (pSc (rP r)) T k = 0 → K 268 (18 + k) = -1) ∧ (updN (rD r).2.2.2 (pSc (rP r)) T k ≠ 0 → K 268 (18 + k) = nI (updN (rD r).2.2.1 (pSc (rP r)) F k) ∧ K 269 (18 + k) = nI (updN (rD r).2.2.2 (pSc (rP r)) T k))
          rw [o5, o6, o7]
          by_cases e : k = pSc (rP r)
          · subst e
            rw [if_pos rfl, if_pos rfl, if_pos rfl, updN_e, updN_e, updN_e, updN_e, updN_e, oK 268 (by decide), oK 269 (by decide)]
            exact ⟨ea, rfl, hlv z4, hT0, hT1⟩
          · rw [if_neg (by omega), if_neg (by omega), if_neg (by omega), updN_n _ _ e, updN_n _ _ e, updN_n _ _ e, updN_n _ _ e, updN_n _ _ e, (o8 (18 + k) (by omega)).1, (o8 (18 + k) (by omega)).2]
            exact b7 k (by omega)
        · intro k hk'
          rw [oo 270 (by decide) (by decide), oo 271 (by decide) (by decide), oo 272 (by decide) (by decide)]
          exact b8 k hk'
        · intro k hk'
          rw [oo 273 (by decide) (by decide)]
          exact b9 k hk'
      have k5 : K5 264 5 = nI (pSc (rP r)) := by
        rw [e5, up2_cell _ _ _ (by decide), e4, up2_cell _ _ _ (by decide), e3, up2_cell _ _ _ (by decide), e2, up2_cell _ _ _ (by decide), e1, up2_cell _ _ _ (by decide)]; exact dJ.2.2.2.2.2.1
      have fI5 : FM I K5 := (FM_o sJ).tr f5
      have hpN : (stG (fun j => cc (g j)) n r = true → pstreet (fun j => cc (g j)) n r = if (pst6 (fun j => cc (g j)) n r).1 = 0 then (0, (rT (pst6 (fun j => cc (g j)) n r), rM r, addS (rP r) (stA (fun j => cc (g j)) n r) (stB (fun j => cc (g j)) n r) (stL (fun j => cc (g j)) n r), addG (rD r) (pSc (rP r)) (stF (fun j => cc (g j)) n r) (stT (fun j => cc (g j)) n r))) else pst6 (fun j => cc (g j)) n r) := fun hG => by
        unfold pstreet; rw [if_neg (by omega), if_neg (by omega), if_pos hG]
      refine mis hg (by decide) z4 t5 ?_
      rw [bI_ne, bI_eq]
      refine ⟨fun hG => f271 _ _ _ _ K5 k5 (fun K eK => H K ?_ (fI5.tr (FM_u (by simp) (by unfold half; omega) eK))), fun hG => ?_⟩
      · have hp : pstreet (fun j => cc (g j)) n r = (0, (rT (pst4 (fun j => cc (g j)) n r), rM r, addS (rP r) (stA (fun j => cc (g j)) n r) (stB (fun j => cc (g j)) n r) (stL (fun j => cc (g j)) n r), addG (rD r) (pSc (rP r)) 0 0)) := by
          unfold pstreet
          rw [if_neg (by omega), if_neg (by omega), if_neg (fun z => by
            have z' : isW (fun j => cc (g j)) (rT (pst4 (fun j => cc (g j)) n r)) 6 = true := z
            rw [hG] at z'; cases z')]
        rw [hp]
        refine ⟨PTM_m (PTM_u t5 (by decide) eK) z4.symm rfl hm4.symm, fun _ => mk 0 0 (0, 0, 0) K5 K (fun _ _ _ _ => rfl) (fun _ _ => ⟨rfl, rfl⟩) (fun _ => ?_) (fun z => absurd rfl z) eK⟩
        rw [e5, up2_cell _ _ _ (by decide), e4, up2_same]
      · have hp := hpN hG
        refine mnext hg z4 t5 (fun G1 tg1 sg1 => ?_)
        have pz : (padv (fun j => cc (g j)) n (pst4 (fun j => cc (g j)) n r)).1 = 0 := by rw [(padv_2 _ _ _).1]; exact z4
        refine mnum (lo := 0) (hi := 1439) hg pz tg1 (by decide) (by decide) (fun G2 fv tg2 sg2 hfv => ⟨iv, fun G3 eg3 => ?_⟩)
        have tg3 : PTM n g (pst5 (fun j => cc (g j)) n r) G3 := PTM_u tg2 (by decide) eg3
        have fg3 : FM K5 G3 := ((FM_o sg1).tr (FM_o sg2)).tr (FM_u (by simp) (nh 268 (by decide) (by decide)) eg3)
        have g3c : ∀ c, c ≠ 261 → c ≠ 268 → G3 c = K5 c := fun c a1 a2 => by rw [eg3, up2_cell _ _ _ a2, SO_c sg2 c a1, SO_c sg1 c a1]
        rw [PTM_z tg3]
        refine ⟨fun z5 => f271 _ _ _ _ G3 (by rw [g3c 264 (by decide) (by decide)]; exact k5) (fun K eK => H K ?_ (fI5.tr (fg3.tr (FM_u (by simp) (by unfold half; omega) eK)))), fun z5 => ⟨iv, ?_⟩⟩
        · have h6 : pst6 (fun j => cc (g j)) n r = pst5 (fun j => cc (g j)) n r := pnum_e z5
          rw [hp, if_neg (by rw [h6]; exact z5), h6]
          exact MS_er (PTM_u tg3 (by decide) eK) z5 rfl
        · have g268 : G3 268 (18 + pSc (rP r)) = nI (stF (fun j => cc (g j)) n r) := by rw [eg3, up2_same]; exact hfv z5
          have hF : stF (fun j => cc (g j)) n r ≤ 1439 := (pnum_0 z5).2.2.2.1
          rw [g268, nI_s]
          refine mnum (hi := 1440) hg z5 tg3 (by omega) (by decide) (fun G4 tv tg4 sg4 htv => ⟨iv, fun G5 eg5 => ?_⟩)
          have tg5 : PTM n g (pst6 (fun j => cc (g j)) n r) G5 := PTM_u tg4 (by decide) eg5
          have fg5 : FM G3 G5 := (FM_o sg4).tr (FM_u (by simp) (nh 269 (by decide) (by decide)) eg5)
          have g5c : ∀ c, c ≠ 261 → c ≠ 268 → c ≠ 269 → G5 c = K5 c := fun c a1 a2 a3 => by rw [eg5, up2_cell _ _ _ a3, SO_c sg4 c a1]; exact g3c c a1 a2
          refine f271 _ _ _ _ G5 (by rw [g5c 264 (by decide) (by decide) (by decide)]; exact k5) (fun K eK => H K ?_ (fI5.tr (fg3.tr (fg5.tr (FM_u (by simp) (by unfold half; omega) eK)))))
          rw [hp]
          by_cases z6 : (pst6 (fun j => cc (g j)) n r).1 = 0
          · rw [if_pos z6]
            obtain ⟨q1, q2, q3, q4, q5⟩ := pnum_0 z6
            have q3' : stF (fun j => cc (g j)) n r + 1 ≤ stT (fun j => cc (g j)) n r := q3
            have u5 := (pnum_0 q1).2.2.2.2
            have hm : rM (pst6 (fun j => cc (g j)) n r) = rM r := by
              have m1 : (pst6 (fun j => cc (g j)) n r).2.2 = (pst5 (fun j => cc (g j)) n r).2.2 := q5
              have m2 : (pst5 (fun j => cc (g j)) n r).2.2 = (padv (fun j => cc (g j)) n (pst4 (fun j => cc (g j)) n r)).2.2 := u5
              show (pst6 (fun j => cc (g j)) n r).2.2.1 = r.2.2.1
              rw [m1, m2, (padv_2 _ _ _).2, p11]
            refine ⟨PTM_m (PTM_u tg5 (by decide) eK) z6.symm rfl hm.symm, fun _ => mk (stF (fun j => cc (g j)) n r) (stT (fun j => cc (g j)) n r) (0, 0, 0) G5 K g5c (fun k hk => ⟨?_, ?_⟩) (fun z => by omega) (fun _ => ⟨?_, ?_⟩) eK⟩
            · rw [eg5, up2_cell _ _ _ (by decide), SO_c sg4 268 (by decide), eg3, up2_slot _ _ hk, SO_c sg2 268 (by decide), SO_c sg1 268 (by decide)]
            · rw [eg5, up2_slot _ _ hk, SO_c sg4 269 (by decide), eg3, up2_cell _ _ _ (by decide), SO_c sg2 269 (by decide), SO_c sg1 269 (by decide)]
            · rw [eg5, up2_cell _ _ _ (by decide), SO_c sg4 268 (by decide)]; exact g268
            · rw [eg5, up2_same]; exact htv z6
          · rw [if_neg z6]
            exact MS_er (PTM_u tg5 (by decide) eK) z6 rfl
    -- the second end, not the same street again
    have f127 : (pst1 (fun j => cc (g j)) n r).1 = 0 → ∀ J, PTM n g (pst1 (fun j => cc (g j)) n r) J → SamM [] kQ I J → ((pst2 (fun j => cc (g j)) n r).1 = 0 → ¬ (stB (fun j => cc (g j)) n r = stA (fun j => cc (g j)) n r ∨ jnd (rP r) (stA (fun j => cc (g j)) n r) (stB (fun j => cc (g j)) n r) (pSc (rP r)) = true)) → LX12_readStreet_127 (nI (18 + pSc (rP r))) av J Q := by
      intro z1 J tJ sJ hc
      have h3 : pst3 (fun j => cc (g j)) n r = pst2 (fun j => cc (g j)) n r := by
        unfold pst3
        rw [if_neg (fun z => hc z.1 z.2)]
      refine rX12_readStreet_127 ?_
      rw [PTM_z tJ]
      refine ⟨fun z => absurd z1 z, fun _ => ⟨i264 (k := 0) (by decide), ?_⟩⟩
      rw [show (0 : Int32).toNatClampNeg = 0 from rfl, SO_c sJ 264 (by decide), i0, em1]
      refine mnum (lo := 0) hg z1 tJ (by decide) (by omega) (fun K bv tK sK hbv => rX12_readStreet_151 ?_)
      have tK' : PTM n g (pst2 (fun j => cc (g j)) n r) K := tK
      rw [PTM_z tK']
      refine ⟨fun z2 => rX12_readStreet_170 ?_, fun z2 => ?_⟩
      · have h4 : pst4 (fun j => cc (g j)) n r = pst2 (fun j => cc (g j)) n r := by unfold pst4; rw [h3]; exact pnum_e z2
        rw [PTM_z tK']
        exact ⟨fun z => absurd z z2, fun _ => hp4 _ (by rw [h4]; exact z2) rfl _ K (by rw [h4]) tK' ((FM_o sJ).tr (FM_o sK))⟩
      · have eb : bv = nI (stB (fun j => cc (g j)) n r) := hbv z2
        rw [eb]
        have tK3 : PTM n g (pst3 (fun j => cc (g j)) n r) K := by rw [h3]; exact tK'
        have z3 : (pst3 (fun j => cc (g j)) n r).1 = 0 := by rw [h3]; exact z2
        exact mnum (lo := 1) (hi := 99) hg z3 tK3 (by decide) (by decide) (fun L lv tL sL hlv => f170 z3 lv L (hav z1) tL ((sJ.tr sK).tr sL) hlv)
    -- the same street again
    have f121 : (pst2 (fun j => cc (g j)) n r).1 = 0 → (pst1 (fun j => cc (g j)) n r).1 = 0 → (stB (fun j => cc (g j)) n r = stA (fun j => cc (g j)) n r ∨ jnd (rP r) (stA (fun j => cc (g j)) n r) (stB (fun j => cc (g j)) n r) (pSc (rP r)) = true) → LX12_readStreet_121 (nI (18 + pSc (rP r))) av I4 Q := by
      intro z2 z1 hc
      refine rX12_readStreet_121 (rX12_readStreet_122 (mmust (k := 3) hg t4' (by decide) (fun z => absurd rfl z) (fun _ J tJ sJ => ?_)))
      have e3 : (pst3 (fun j => cc (g j)) n r).1 = 8 * (rT (pst1 (fun j => cc (g j)) n r)).1 + 3 := by
        unfold pst3; rw [if_pos ⟨z2, hc⟩]; unfold perr; rw [if_pos z2]
      have e3n : (pst3 (fun j => cc (g j)) n r).1 ≠ 0 := by rw [e3]; omega
      have e4 : pst4 (fun j => cc (g j)) n r = pst3 (fun j => cc (g j)) n r := pnum_e e3n
      unfold perr at tJ
      rw [if_pos z1] at tJ
      have nz : ¬ (8 * (rT (pst1 (fun j => cc (g j)) n r)).1 + 3, (pst1 (fun j => cc (g j)) n r).2).1 = 0 := by show ¬ 8 * (rT (pst1 (fun j => cc (g j)) n r)).1 + 3 = 0; omega
      refine rX12_readStreet_127 ?_
      rw [PTM_z tJ]
      refine ⟨fun _ => rX12_readStreet_151 ?_, fun z => absurd z nz⟩
      rw [PTM_z tJ]
      refine ⟨fun _ => rX12_readStreet_170 ?_, fun z => absurd z nz⟩
      rw [PTM_z tJ]
      exact ⟨fun z => absurd z nz, fun _ => hp4 _ (by rw [e4]; exact e3n) rfl _ J (by rw [e4, e3]) tJ ((FM_o s04).tr (FM_o sJ))⟩
    rw [PTM_z t4']
    refine ⟨fun z1 => ?_, fun z1 => ?_⟩
    · obtain ⟨hT4, hs4, ht4, -, -⟩ := PTM_0 z1 t4'
      have hb4 := sane_b hs4
      have t2 := tkI_2 hb4.2.2.1
      rw [ht4.2.2.1, t2.1]
      refine ⟨fun hk => f127 z1 I4 t4' s04 (fun z2 => absurd (pnum_0 z2).2.1 hk), fun hk => ⟨i264 (k := 0) (by decide), ?_⟩⟩
      have e7 : I4 261 7 = nI (stB (fun j => cc (g j)) n r) := ht4.2.2.2 hk
      have hv : stB (fun j => cc (g j)) n r ≤ 9999 := vl_4 hg hs4 hk
      rw [e7, SO_c s04 264 (by decide), i0, em1, show (0 : Int64) = (nI 0).toInt64 from rfl]
      refine sM_rng (by omega) (by decide) (by omega) (fun hin => ⟨fun z => absurd z (by decide), fun _ => ?_⟩) (fun hout => ⟨fun _ => f127 z1 I4 t4' s04 (fun z2 => ?_), fun z => absurd rfl z⟩)
      · have z2 : (pst2 (fun j => cc (g j)) n r).1 = 0 := by
          unfold pst2 pnum
          have hpv : pval (fun j => cc (g j)) (pst1 (fun j => cc (g j)) n r) = stB (fun j => cc (g j)) n r := rfl
          rw [if_neg (by omega), if_neg (by omega), hpv, if_neg (by omega)]
        have hA : stA (fun j => cc (g j)) n r ≤ pNc (rP r) - 1 := (pnum_0 z1).2.2.2.1
        have ea : av = nI (stA (fun j => cc (g j)) n r) := hav z1
        have g5 : I4 264 (5 : Int32).toNatClampNeg = nI (pSc (rP r)) := by rw [show (5 : Int32).toNatClampNeg = 5 from rfl, SO_c s04 264 (by decide)]; exact i5
        rw [ea, e7, ieq (by omega) (by omega)]
        refine ⟨fun z => by rw [← ea]; exact f121 z2 z1 (Or.inl z), fun z => ⟨i264 (k := 5) (by decide), ?_⟩⟩
        have i45 : I4 264 5 = nI (pSc (rP r)) := g5
        rw [i45]
        refine sM_joined ho.1 (dk I4 s04) (by omega) (by omega) ?_
        rw [bI_ne, bI_eq, ← ea]
        refine ⟨fun y => f121 z2 z1 (Or.inr y), fun y => rX12_readStreet_122 (mmust (k := 3) hg t4' (by decide) (fun _ => f127 z1 I4 t4' s04 (fun _ x => x.elim z (fun x => by rw [y] at x; cases x))) (fun x => absurd x (by decide)))⟩
      · obtain ⟨-, -, a3, a4, -⟩ := pnum_0 z2
        have a4' : stB (fun j => cc (g j)) n r ≤ pNc (rP r) - 1 := a4
        exact absurd ⟨by omega, a4'⟩ hout
    · have h2 : pst2 (fun j => cc (g j)) n r = pst1 (fun j => cc (g j)) n r := pnum_e z1
      have h3 : pst3 (fun j => cc (g j)) n r = pst1 (fun j => cc (g j)) n r := by unfold pst3; rw [if_neg (fun z => z1 (by rw [← h2]; exact z.1)), h2]
      have h4 : pst4 (fun j => cc (g j)) n r = pst1 (fun j => cc (g j)) n r := by unfold pst4; rw [h3]; exact pnum_e z1
      exact hp4 _ (by rw [h4]; exact z1) rfl _ I4 (by rw [h4]) t4' (FM_o s04)
end
