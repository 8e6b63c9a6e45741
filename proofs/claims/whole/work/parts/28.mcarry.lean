/-! the reference's end of a round -/
theorem vpn (n : Nat) {N : Nat} (h : n < N) (hN : N < 2147483648) : vp_in (nI n) N := ci h hN
section
variable {p : Pl} {x : Ld} {b : Nat} {I : MI}
theorem sM_learn {B : Bt} {f : Nat → Nat} {L : Lg} {m n : Nat} {Q : MI → Prop} (hp : PlOk p) (hL : L.2.1 ≤ 12) (hx : LM 274 0 p (asm x B f L) I) (hm : m < pNc p) (hn : n < pNc p)
    (H : ∀ J, LM 274 0 p (asm x B (updN f (10 * m + n) (f (10 * m + n) + 1)) L) J → (∀ k, ¬ (193 ≤ k ∧ k < 293) → J 274 k = I 274 k) → SamM [274] [] I J → Q J) : Wv mX12_learn [.ref 261, .int (nI m), .int (nI n)] I Q := by
  have hnc := hp.2.1
  have e : (193 : Int32) + (10 : Int32) * nI m + nI n = nI (193 + (10 * m + n)) := by
    rw [show (10 : Int32) * nI m = nI (10 * m) from pk_mul 10 m, show (193 : Int32) + nI (10 * m) = nI (193 + 10 * m) from nI_add 193 _, nI_add, Nat.add_assoc]
  refine rX12_learn ?_
  rw [e, cl (by omega)]
  refine ⟨ci (by omega) (by decide), ci (by omega) (by decide), fun I1 e1 => ?_⟩
  have v : I 274 (193 + (10 * m + n)) = nI (f (10 * m + n)) := by
    have := hx.2.2.2.2.2.2.1 m n hm hn
    rwa [Nat.zero_add] at this
  rw [v, nI_s] at e1
  refine H I1 ?_ (fun k hk => ?_) (by rw [e1]; exact SamM.rf.u2 (by simp) (by decide))
  · rw [e1]
    exact LM_Ha (v := f (10 * m + n) + 1) hp hL hx hm hn rfl
  · rw [e1, up2_slot _ _ (by omega)]
theorem sM_close {a1 : Int32} {r : List Nat} {Q : Int32 → MI → Prop} (hp : PlOk p) (hok : LdOk p b x) (hb : b + 1 ≤ 100000) (hP : PM p I) (hx : LM 274 0 p x I) (hT : TM p x r I) (hl : (kV (trav p x r)).length ≤ 12) (he : ∀ e, e ∈ kV (trav p x r) → e.1 < pHc p)
    (H : ∀ J, LM 274 0 p (nxt p x (trav p x r)) J → SamM [274] [] I J → Q (nI (kV (trav p x r)).length) J) : LX12_carryOut_42 a1 0 0 I Q := by
  have hhc := hp.2.2.2.1
  have hnc := hp.2.1
  have hn2 := hp.1
  have hday := hok.1
  obtain ⟨t0, t1, t2, t3⟩ := hT
  generalize hV : kV (trav p x r) = V at *
  -- the end
  have skp : ∀ (y : Ld) (l2 : Int32) (J : MI), lVi y ≤ 12 → LM 274 0 p y J → SamM [274] [] I J → (∀ K, LM 274 0 p (sSk y 0) K → SamM [274] [] I K → Q (nI V.length) K) → LX12_carryOut_273 a1 l2 0 J Q := by
    intro y l2 J hvi hy sj HK
    have go : ∀ (m k : Nat) (J : MI) (s : Nat), m + k = 12 → (∀ i, i < k → s.testBit i = false) → LM 274 0 p (sSk y s) J → SamM [274] [] I J → LX12_carryOut_273 a1 l2 (nI k) J Q := by
      intro m
      induction m with
      | zero =>
        intro k J s hm hs hJ sJ
        have : k = 12 := by omega
        subst this
        refine rX12_carryOut_273 ⟨fun _ => ?_, fun q => absurd (by rw [show (12 : Int32) = nI 12 from rfl, ile (by decide) (by decide)]; omega) q⟩
        rw [sJ.2 39 (by simp), t1]
        refine HK J ?_ sJ
        obtain ⟨c1, c2, c3, c4, c5, c6, c7, c8, c9, c10, c11⟩ := hJ
        refine ⟨c1, fun h hh => ?_, c3, c4, c5, c6, c7, c8, c9, c10, c11⟩
        rw [c2 h hh]
        show (if s.testBit h = true then 1 else 0) = if (0 : Nat).testBit h = true then 1 else 0
        rw [hs h (by omega), Nat.zero_testBit]
      | succ m ih =>
        intro k J s hm hs hJ sJ
        refine rX12_carryOut_273 ⟨fun q => ?_, fun _ => ?_⟩
        · rw [show (12 : Int32) = nI 12 from rfl, ile (by decide) (by omega)] at q; omega
        · rw [show (133 : Int32) = nI 133 from rfl, nI_add, cl (by omega)]
          refine ⟨ci (by omega) (by decide), fun J1 e1 => ?_⟩
          rw [nI_s]
          refine ih (k + 1) J1 (clr s k) (by omega) (fun i hi => ?_) ?_ (by rw [e1]; exact sJ.u2 (by simp) (by decide))
          · rw [clr_bit]
            by_cases e : i = k
            · simp [e]
            · rw [hs i (by omega)]; rfl
          · rw [e1]
            exact LM_Sk (x := sSk y s) (n := k) (s := clr s k) (c := false) hp hvi hJ (by omega) (fun i hi => by
              show (clr s k).testBit i = if i = k then false else s.testBit i
              rw [clr_bit]
              by_cases e : i = k
              · simp [e]
              · simp [e]) rfl
    exact go 12 0 J (lSk y) rfl (fun i hi => absurd hi (Nat.not_lt_zero i)) hy sj
  have f225 : ∀ (B : Bt) (f : Nat → Nat) (L : Lg) (l2 l3 : Int32) (J : MI), LM 274 0 p (asm x B f L) J → SamM [274] [] I J → (∀ v, v < V.length → J 274 (296 + v) = nI (V.getD v (0, 0, 0)).1 ∧ J 274 (308 + v) = nI (V.getD v (0, 0, 0)).2.1 ∧ J 274 (320 + v) = nI (V.getD v (0, 0, 0)).2.2) → B = V.foldl (btf x) (lBo x, lDl x, lRt x) → f = hbe (fin p x (trav p x r)) (V.foldl (hbf p) (0, lHa x)) → LX12_carryOut_225 a1 l2 l3 J Q := by
    intro B f L l2 l3 J hJ sJ hrec hB hf
    refine rX12_carryOut_225 ⟨vpn 293 (by decide) (by decide), fun I1 e1 => ⟨vpn 294 (by decide) (by decide), fun I2 e2 => ⟨vpn 295 (by decide) (by decide), fun I3 e3 => ⟨vpn 0 (by decide) (by decide), vpn 0 (by decide) (by decide), fun I4 e4 => ?_⟩⟩⟩⟩
    rw [show (293 : Int32).toNatClampNeg = 293 from rfl, sJ.2 37 (by simp), t0] at e1
    rw [show (294 : Int32).toNatClampNeg = 294 from rfl, show I1 261 = J 261 by rw [e1, up2_cell _ _ _ (by decide)], sJ.2 39 (by simp), t1] at e2
    rw [show (295 : Int32).toNatClampNeg = 295 from rfl, show I2 261 = J 261 by rw [e2, up2_cell _ _ _ (by decide), e1, up2_cell _ _ _ (by decide)], sJ.2 40 (by simp), t2] at e3
    have l3' : LM 274 0 p (sLog (asm x B f L) (lgOf p x (trav p x r))) I3 := by
      refine LM_log hp hJ (fun k hk => ?_) ?_ ?_ ?_ (fun v hv => ?_)
      · rw [e3, up2_slot _ _ (by omega), e2, up2_slot _ _ (by omega), e1, up2_slot _ _ (by omega)]
      · rw [e3, up2_slot _ _ (by decide), e2, up2_slot _ _ (by decide), e1, up2_same]; rfl
      · rw [e3, up2_slot _ _ (by decide), e2, up2_same]
        show nI V.length = nI (kV (trav p x r)).length
        rw [hV]
      · rw [e3, up2_same]; rfl
      · have hv' : v < V.length := by rw [← hV]; exact hv
        show _ = nI ((kV (trav p x r)).getD v (0, 0, 0)).1 ∧ _ = nI ((kV (trav p x r)).getD v (0, 0, 0)).2.1 ∧ _ = nI ((kV (trav p x r)).getD v (0, 0, 0)).2.2
        rw [hV, e3, up2_slot _ _ (by omega), up2_slot _ _ (by omega), up2_slot _ _ (by omega), e2, up2_slot _ _ (by omega), up2_slot _ _ (by omega), up2_slot _ _ (by omega), e1, up2_slot _ _ (by omega), up2_slot _ _ (by omega), up2_slot _ _ (by omega)]
        exact hrec v hv'
    have hvl : (lgOf p x (trav p x r)).2.1 ≤ 12 := by show (kV (trav p x r)).length ≤ 12; rw [hV]; exact hl
    have d0 : I3 274 0 = nI (lDay x) := l3'.1
    rw [show (0 : Int32).toNatClampNeg = 0 from rfl, d0, nI_s] at e4
    have l4 := LM_Day (y := lDay x + 1) hp hvl l3' rfl
    rw [← e4] at l4
    refine skp _ l2 I4 hvl l4 (by rw [e4, e3, e2, e1]; exact (((sJ.u2 (by simp) (by decide)).u2 (by simp) (by decide)).u2 (by simp) (by decide)).u2 (by simp) (by decide)) (fun K hK sK => H K ?_ sK)
    have : nxt p x (trav p x r) = sSk (sDay (sLog (asm x B f L) (lgOf p x (trav p x r))) (lDay x + 1)) 0 := by
      unfold nxt
      rw [hV, ← hB, ← hf]
      rfl
    rw [this]
    exact hK
  have go : ∀ (rest pre : List (Nat × Nat × Nat)) (B : Bt) (s : Nat × (Nat → Nat)) (g1 g2 g3 : Nat → Int32) (J : MI), V = pre ++ rest → s.1 < pNc p → (∀ i, s.2 i ≤ lHa x i + pre.length) → LM 274 0 p (asm x B s.2 (lFi x, lVi x, lRl x, g1, g2, g3)) J → SamM [274] [] I J → (∀ v, v < pre.length → J 274 (296 + v) = nI (V.getD v (0, 0, 0)).1 ∧ J 274 (308 + v) = nI (V.getD v (0, 0, 0)).2.1 ∧ J 274 (320 + v) = nI (V.getD v (0, 0, 0)).2.2) → rest.foldl (btf x) B = V.foldl (btf x) (lBo x, lDl x, lRt x) → rest.foldl (hbf p) s = V.foldl (hbf p) (0, lHa x) → LX12_carryOut_42 a1 (nI s.1) (nI pre.length) J Q := by
    intro rest
    induction rest with
    | nil =>
      intro pre B s g1 g2 g3 J hr hs hsb hxJ sj hrec hB hH
      have hB' : B = V.foldl (btf x) (lBo x, lDl x, lRt x) := hB
      have hH' : s = V.foldl (hbf p) (0, lHa x) := hH
      have hpl : pre.length = V.length := by rw [hr]; simp
      rw [hpl] at hrec
      refine rX12_carryOut_42 ⟨fun _ => ⟨fun y => ?_, fun y => ⟨fun z => ?_, fun z => ?_⟩⟩, fun q => absurd ?_ q⟩
      · rw [sj.2 37 (by simp), t0] at y
        refine f225 B s.2 _ _ _ J hxJ sj hrec hB' ?_
        unfold hbe
        rw [← hH', if_neg (fun w => w.2 y)]
      · rw [nI_zero, ieq (by omega) (by decide)] at z
        refine f225 B s.2 _ _ _ J hxJ sj hrec hB' ?_
        unfold hbe
        rw [← hH', if_neg (fun w => w.1 z)]
      · rw [sj.2 37 (by simp), t0] at y
        have z' : s.1 ≠ 0 := fun w => z (by rw [w]; rfl)
        refine sM_learn (n := 0) hp (by exact hok.2.2.2.2.2) hxJ hs (by omega) (fun K hK hk sK => ?_)
        refine f225 B _ _ _ _ K hK (sj.tr sK) (fun v hv => ?_) hB' ?_
        · rw [hk _ (by omega), hk _ (by omega), hk _ (by omega)]; exact hrec v hv
        · unfold hbe
          rw [← hH', if_pos ⟨z', y⟩]
      · rw [sj.2 39 (by simp), t1, hr]; simp
    | cons e rest ih =>
      intro pre B s g1 g2 g3 J hr hs hsb hxJ sj hrec hB hH
      have hlen : V.length = pre.length + (rest.length + 1) := by rw [hr]; simp
      have hge : V.getD pre.length (0, 0, 0) = e := by rw [hr]; exact getD_mid _ _ _ _
      have hv := t3 pre.length (by omega)
      rw [hge] at hv
      have heh : e.1 < pHc p := he e (by rw [hr]; simp)
      have hpn := hp.2.2.2.2.2.2.2.2 e.1 heh
      have j282 : ∀ K : MI, SamM [274] [] I K → K 282 (nI pre.length).toNatClampNeg = nI e.1 := fun K hK => by rw [cl (by omega), hK.1 282 (by decide) (by simp)]; exact hv.1
      have j283 : ∀ K : MI, SamM [274] [] I K → K 283 (nI pre.length).toNatClampNeg = nI e.2.1 := fun K hK => by rw [cl (by omega), hK.1 283 (by decide) (by simp)]; exact hv.2.1
      have j284 : ∀ K : MI, SamM [274] [] I K → K 284 (nI pre.length).toNatClampNeg = nI e.2.2 := fun K hK => by rw [cl (by omega), hK.1 284 (by decide) (by simp)]; exact hv.2.2
      have hvi := hok.2.2.2.2.2
      have lok : LdOk p (b + 1) (asm x B s.2 (lFi x, lVi x, lRl x, g1, g2, g3)) := by
        obtain ⟨k1, k2, k3, k4, k5, k6⟩ := hok
        refine ⟨Nat.le_succ_of_le k1, k2, k3, k4, fun a c ha hc => ?_, k6⟩
        have q1 := hsb (10 * a + c)
        have q2 := k5 a c ha hc
        show s.2 (10 * a + c) ≤ 13 * (b + 1)
        omega
      refine rX12_carryOut_42 ⟨fun q => ?_, fun _ => ?_⟩
      · rw [sj.2 39 (by simp), t1, ile (by omega) (by omega)] at q; omega
      · rw [j282 J sj]
        rw [show (145 : Int32) = nI 145 from rfl, show (157 : Int32) = nI 157 from rfl, show (169 : Int32) = nI 169 from rfl, show (296 : Int32) = nI 296 from rfl, show (308 : Int32) = nI 308 from rfl, show (320 : Int32) = nI 320 from rfl]
        rw [nI_add, nI_add, nI_add, nI_add, nI_add, nI_add, cl (n := 145 + e.1) (by omega), cl (n := 157 + e.1) (by omega), cl (n := 169 + e.1) (by omega), cl (n := 296 + pre.length) (by omega), cl (n := 308 + pre.length) (by omega), cl (n := 320 + pre.length) (by omega), cl (n := e.1) (by omega)]
        refine ⟨ci (by omega) (by decide), ci (by omega) (by decide), sM_dem (x := asm x B s.2 (lFi x, lVi x, lRl x, g1, g2, g3)) (b := b + 1) hp lok hb hxJ heh ⟨ci (by omega) (by decide), ci (by omega) (by decide), fun I3 d3 => ⟨ci (by omega) (by decide), ?_⟩⟩⟩
        have hd : dem (asm x B s.2 (lFi x, lVi x, lRl x, g1, g2, g3)) e.1 = dem x e.1 := rfl
        have v145 : J 274 (145 + e.1) = B.1 e.1 := by have := (hxJ.2.2.2.1 e.1 heh).2.1; rwa [Nat.zero_add] at this
        have v157 : J 274 (157 + e.1) = B.2.1 e.1 := by have := (hxJ.2.2.2.1 e.1 heh).2.2.1; rwa [Nat.zero_add] at this
        have v169 : J 274 (169 + e.1) = B.2.2 e.1 := by have := (hxJ.2.2.2.1 e.1 heh).2.2.2.1; rwa [Nat.zero_add] at this
        rw [hd, j284 J sj, v145] at d3
        have s3 : SamM [274] [] I I3 := by rw [d3]; exact sj.u2 (by simp) (by decide)
        have l3 := LM_Bo (n := e.1) (y := B.1 e.1 + (nI (dem x e.1) - nI e.2.2)) hp (by exact hvi) hxJ heh rfl
        rw [← d3] at l3
        refine sM_dem (x := sBo (asm x B s.2 (lFi x, lVi x, lRl x, g1, g2, g3)) (upd B.1 e.1 (B.1 e.1 + (nI (dem x e.1) - nI e.2.2)))) (b := b + 1) hp lok hb l3 heh ⟨ci (by omega) (by decide), fun I6 d6 => ⟨ci (by omega) (by decide), ci (by omega) (by decide), ci (by omega) (by decide), fun I7 d7 => ⟨ci (by omega) (by decide), fun I8 d8 => ⟨ci (by omega) (by decide), ci (by omega) (by decide), fun I9 d9 => ⟨ci (by omega) (by decide), ci (by omega) (by decide), fun I10 d10 => ⟨ci (by omega) (by decide), ?_⟩⟩⟩⟩⟩⟩
        have hd2 : dem (sBo (asm x B s.2 (lFi x, lVi x, lRl x, g1, g2, g3)) (upd B.1 e.1 (B.1 e.1 + (nI (dem x e.1) - nI e.2.2)))) e.1 = dem x e.1 := rfl
        have w157 : I3 274 (157 + e.1) = B.2.1 e.1 := by rw [d3, up2_slot _ _ (by omega)]; exact v157
        rw [hd2, w157] at d6
        have s6 : SamM [274] [] I I6 := by rw [d6]; exact s3.u2 (by simp) (by decide)
        have l6 := LM_Dl (n := e.1) (y := B.2.1 e.1 + nI (dem x e.1)) hp (by exact hvi) l3 heh rfl
        rw [← d6] at l6
        have w169 : I6 274 (169 + e.1) = B.2.2 e.1 := by rw [d6, up2_slot _ _ (by omega), d3, up2_slot _ _ (by omega)]; exact v169
        rw [w169, j284 I6 s6] at d7
        have s7 : SamM [274] [] I I7 := by rw [d7]; exact s6.u2 (by simp) (by decide)
        have l7 := LM_Rt (n := e.1) (y := B.2.2 e.1 + nI e.2.2) hp (by exact hvi) l6 heh rfl
        rw [← d7] at l7
        have s8 : SamM [274] [] I I8 := by rw [d8]; exact s7.u2 (by simp) (by decide)
        have l8 := LM_Vh (n := pre.length) (y := nI e.1) hp (by exact hvi) l7 (by omega) rfl
        rw [← d8] at l8
        rw [j283 I8 s8] at d9
        have s9 : SamM [274] [] I I9 := by rw [d9]; exact s8.u2 (by simp) (by decide)
        have l9 := LM_Vm (n := pre.length) (y := nI e.2.1) hp (by exact hvi) l8 (by omega) rfl
        rw [← d9] at l9
        rw [j284 I9 s9] at d10
        have s10 : SamM [274] [] I I10 := by rw [d10]; exact s9.u2 (by simp) (by decide)
        have l10 := LM_Vr (n := pre.length) (y := nI e.2.2) hp (by exact hvi) l9 (by omega) rfl
        rw [← d10] at l10
        have hrec10 : ∀ v, v < pre.length + 1 → I10 274 (296 + v) = nI (V.getD v (0, 0, 0)).1 ∧ I10 274 (308 + v) = nI (V.getD v (0, 0, 0)).2.1 ∧ I10 274 (320 + v) = nI (V.getD v (0, 0, 0)).2.2 := by
          intro v hv
          by_cases ev : v = pre.length
          · rw [ev, hge]
            refine ⟨?_, ?_, ?_⟩
            · rw [d10, up2_slot _ _ (by omega), d9, up2_slot _ _ (by omega), d8, up2_same]
            · rw [d10, up2_slot _ _ (by omega), d9, up2_same]
            · rw [d10, up2_same]
          · have hrv := hrec v (by omega)
            refine ⟨?_, ?_, ?_⟩
            · rw [d10, up2_slot _ _ (by omega), d9, up2_slot _ _ (by omega), d8, up2_slot _ _ (by omega), d7, up2_slot _ _ (by omega), d6, up2_slot _ _ (by omega), d3, up2_slot _ _ (by omega)]; exact hrv.1
            · rw [d10, up2_slot _ _ (by omega), d9, up2_slot _ _ (by omega), d8, up2_slot _ _ (by omega), d7, up2_slot _ _ (by omega), d6, up2_slot _ _ (by omega), d3, up2_slot _ _ (by omega)]; exact hrv.2.1
            · rw [d10, up2_slot _ _ (by omega), d9, up2_slot _ _ (by omega), d8, up2_slot _ _ (by omega), d7, up2_slot _ _ (by omega), d6, up2_slot _ _ (by omega), d3, up2_slot _ _ (by omega)]; exact hrv.2.2
        have j270 : ∀ K : MI, SamM [274] [] I K → K 270 e.1 = nI (pHn p e.1) := fun K hK => by rw [hK.1 270 (by decide) (by simp)]; exact (hP.2.2.2.2.2.2.2.2 e.1 heh).1
        have nx : ∀ K, LM 274 0 p (asm x (btf x B e) (hbf p s e).2 (lFi x, lVi x, lRl x, upd g1 pre.length (nI e.1), upd g2 pre.length (nI e.2.1), upd g3 pre.length (nI e.2.2))) K → SamM [274] [] I K → (∀ v, v < pre.length + 1 → K 274 (296 + v) = nI (V.getD v (0, 0, 0)).1 ∧ K 274 (308 + v) = nI (V.getD v (0, 0, 0)).2.1 ∧ K 274 (320 + v) = nI (V.getD v (0, 0, 0)).2.2) → pHn p e.1 = (hbf p s e).1 → ∀ l2, LX12_carryOut_192 a1 l2 (nI pre.length) (nI e.1) K Q := by
          intro K hK sK hrK hl2 l2
          refine rX12_carryOut_192 ?_
          rw [cl (by omega), j270 K sK, hl2, nI_s]
          refine ⟨ci (by omega) (by decide), ?_⟩
          have := ih (pre ++ [e]) (btf x B e) (hbf p s e) _ _ _ K (by rw [hr]; simp) (hbf_lt hp heh hs) (fun i => by
            have q1 := hbf_le p s e i
            have q2 := hsb i
            rw [show (pre ++ [e]).length = pre.length + 1 by simp]
            omega) hK sK (by rw [show (pre ++ [e]).length = pre.length + 1 by simp]; exact hrK) hB hH
          rw [show (pre ++ [e]).length = pre.length + 1 by simp] at this
          exact this
        rw [j270 I10 s10, ieq (by omega) (by omega)]
        refine ⟨fun q => nx I10 ?_ s10 hrec10 ?_ _, fun q => ⟨ci (by omega) (by decide), ?_⟩⟩
        · have : hbf p s e = s := by unfold hbf; rw [if_pos q]
          rw [this]
          exact l10
        · have : hbf p s e = s := by unfold hbf; rw [if_pos q]
          rw [this]; exact q
        · have eh : hbf p s e = (pHn p e.1, updN s.2 (10 * s.1 + pHn p e.1) (s.2 (10 * s.1 + pHn p e.1) + 1)) := by unfold hbf; rw [if_neg q]
          rw [eh] at nx
          exact sM_learn (x := x) (B := btf x B e) (f := s.2) (L := (lFi x, lVi x, lRl x, upd g1 pre.length (nI e.1), upd g2 pre.length (nI e.2.1), upd g3 pre.length (nI e.2.2))) hp hvi l10 hs hpn.2.1 (fun K hK hk sK => nx K hK (s10.tr sK) (fun v hv => by rw [hk _ (by omega), hk _ (by omega), hk _ (by omega)]; exact hrec10 v hv) rfl _)
  exact go V [] (lBo x, lDl x, lRt x) (0, lHa x) _ _ _ I rfl (by show 0 < pNc p; omega) (fun i => Nat.le_refl _) hx SamM.rf (fun v hv => absurd hv (Nat.not_lt_zero v)) rfl rfl
end
