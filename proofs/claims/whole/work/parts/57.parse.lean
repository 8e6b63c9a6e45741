/-! parsing as a step -/
theorem plp_ok {c : Nat → Nat} {n : Nat} : ∀ (m : Nat) (r : Rs), (r.1 = 0 → POk (rP r) (rD r) ∧ rM r < 16) → (plp c n m r).1 = 0 → POk (rP (plp c n m r)) (rD (plp c n m r))
  | 0, r, h, z => (h z).1
  | m + 1, r, h, z => by
    simp only [plp] at z ⊢
    by_cases q : r.1 ≠ 0 ∨ (rT r).2.2 = 0
    · rw [if_pos q] at z ⊢; exact (h z).1
    · rw [if_neg q] at z ⊢
      have h0 : r.1 = 0 := by omega
      obtain ⟨o1, o2⟩ := h h0
      exact plp_ok m _ (fun y => psemi_ok (fun x => pstm_ok h0 o1 o2 x) y) z
theorem prd2_ok {g : Nat → Int32} {n : Nat} (h : (prd2 g n).1 = 0) : POk (rP (prd2 g n)) (rD (prd2 g n)) := plp_ok 900 _ (fun _ => ⟨ok00, by show 0 < 16; decide⟩) h
theorem PM_FM {p : Pl} {I J : MI} (hp : PlOk p) (h : PM p I) (f : FM I J) : PM p J := by
  have hsc := hp.2.2.1
  have hhc := hp.2.2.2.1
  obtain ⟨a0, a1, a2, a3, a4, a5, a6, a7, a8⟩ := h
  have e := f.1.1 263 (by decide) (by simp)
  unfold PM
  rw [e]
  refine ⟨a0, a1, a2, a3, a4, a5, a6, fun k hk => ?_, fun k hk => ?_⟩
  · rw [f.2 265 k (by unfold half; omega), f.2 266 k (by unfold half; omega), f.2 267 k (by unfold half; omega)]; exact a7 k hk
  · rw [f.2 270 k (by unfold half; omega), f.2 271 k (by unfold half; omega)]; exact a8 k hk
theorem xparse {w : Wd} {b n : Nat} (ho : WOk b w) (hn : n ≤ wN w) : ((prd2 (wG w) n).1 ≠ 0 → StX mX11_parse [.ref 0, .int (nI n)] w (wP w, wX w, wH w, wS w, 0, wG w) (-2 - nI (prd2 (wG w) n).1)) ∧ ((prd2 (wG w) n).1 = 0 → StX mX11_parse [.ref 0, .int (nI n)] w (rP (prd2 (wG w) n), mkL (rD (prd2 (wG w) n)), [], (fun _ => none), 0, wG w) (nI (pHc (rP (prd2 (wG w) n))))) := by
  have hN := ho.2.2.2.2.1
  have hg : Gok n (wG w) := ⟨by omega, fun j hj => ho.2.2.2.2.2 j (by omega)⟩
  have main : ∀ (I : MI) (Q : Int32 → MI → Prop), SX w I → (∀ J I2, XS n (wG w) (prd2 (wG w) n) J → FrP I J → I2 = up2 J 1 1 0 → ((I2 3 4) = 0 → (Wv mX6_copyFrom [.ref 24, .ref 4] I2 (fun I3 => (Wv mX8_copyFrom [.ref 30, .ref 10] I3 (fun I4 => (Wv mX2_clear [.ref 61] I4 (fun I5 => (Wv mX11_emptySlots [.ref 0] I5 (fun I6 => (Wv mX1_forget [.ref 50] I6 (fun I7 => (Q (I7 24 2) I7)))))))))))) ∧ (¬ (I2 3 4) = 0 → (Q ((-2) - (I2 3 4)) I2))) → Wi mX11_parse [.ref 0, .int (nI n)] I Q := by
    intro I Q hs HK
    have hB := hs.2.2.2.2.2.2
    refine rX11_parse ⟨fun q => absurd q (nI_pos (by omega)), fun _ => ⟨fun _ => xread hg hB hn hN (fun J hJ fJ I2 e2 => HK J I2 hJ fJ e2), fun q => absurd ?_ q⟩⟩
    rw [hB.1, ile (by omega) (by omega)]; exact hn
  refine ⟨fun hz I Q hs H => main I Q hs (fun J I2 hJ fJ e2 => ?_), fun hz I Q hs H => main I Q hs (fun J I2 hJ fJ e2 => ?_)⟩
  · have i34 : I2 3 4 = nI (prd2 (wG w) n).1 ∧ (prd2 (wG w) n).1 < 8000 := by
      rcases hJ.1.2 with q | q
      · exact absurd q.1 hz
      · exact ⟨by rw [e2, up2_cell _ _ _ (by decide)]; exact q.2.2.1, q.2.1⟩
    have e : ∀ c, c = 2 ∨ c = 10 ∨ 15 ≤ c → I2 c = I c := fun c hc => by rw [e2, up2_cell _ _ _ (by omega)]; exact fJ c hc
    obtain ⟨h1, h2, h3, h4, h5, h6, h7⟩ := hs
    refine ⟨fun q => ?_, fun _ => ?_⟩
    · rw [i34.1, nI_zero, ieq (by omega) (by decide)] at q; exact absurd q hz
    · rw [i34.1]
      exact H I2 ⟨PX_of h1 (fun i _ _ => e i (by omega)), LX_of h2 (fun i _ _ => e i (by omega)), HX_of h3 (fun i _ _ => e i (by omega)), SlX_of h4 (fun i _ _ => e i (by omega)), CX_of h5 (fun i _ => e i (by omega)), Scr_of h6 (fun i _ => e i (by omega)), by rw [e2, up2_same]; rfl, fun j hj => absurd hj (Nat.not_lt_zero j)⟩ (fun c hc => e c (by omega))
  · obtain ⟨hT, hsn, ht, h34, h33⟩ := PTX_0 hz hJ.1
    obtain ⟨hd, hpo⟩ := hJ.2.1 hz
    have i34 : I2 3 4 = 0 := by rw [e2, up2_cell _ _ _ (by decide)]; exact h34
    have e : ∀ c, c = 2 ∨ c = 10 ∨ 15 ≤ c → I2 c = I c := fun c hc => by rw [e2, up2_cell _ _ _ (by omega)]; exact fJ c hc
    have hd2 : DXp (rP (prd2 (wG w) n)) (rD (prd2 (wG w) n)) I2 := DXp_of hd (fun c a1 a2 => by rw [e2, up2_cell _ _ _ (by omega)])
    obtain ⟨h1, h2, h3, h4, h5, h6, h7⟩ := hs
    generalize prd2 (wG w) n = r at *
    have hhc := hpo.1.2.2.2.1
    have hsc := hpo.1.2.2.1
    have hnc := hpo.1.2.1
    refine ⟨fun _ => ?_, fun q => absurd i34 q⟩
    refine sX_pcopy hpo.1 hd2.1 (fun I3 p3 o3 => sX_copy is_30 is_10 (Or.inr (by omega)) (fun I4 c4 => rX2_clear (fun I5 e5 => sX_empty (fun I6 z0 z1 o6 => rX1_forget (fun I7 e7 => ?_)))))
    have sc3 : Scr I3 := Scr_of h6 (fun c hc => by rw [o3 c (by omega)]; exact e c (by omega))
    obtain ⟨s1, s2, s3, s4, s5, s6, s7⟩ := sc3
    have l3 : LX 10 (rP r) (mkL (rD r)) I3 := by
      refine ⟨s1, s2, fun i hi => ?_, fun h hh => ⟨?_, (s3 h (by omega)).1, (s3 h (by omega)).2.1, (s3 h (by omega)).2.2.1, (s3 h (by omega)).2.2.2⟩, fun k hk => ?_, fun a c ha hc => s4 _ (by omega), s5, s6, s7, fun v hv => absurd hv (Nat.not_lt_zero v)⟩
      · rw [o3 _ (by omega)]; exact hd2.2.1 i hi
      · rw [o3 _ (by omega)]; exact hd2.2.2.1 h hh
      · rw [o3 _ (by omega), o3 _ (by omega)]; exact hd2.2.2.2 k hk
    have l4 : LX 30 (rP r) (mkL (rD r)) I4 := LX_cp hpo.1 (Nat.zero_le _) c4 l3
    have o7 : ∀ c, c ≠ 50 → c ≠ 61 → c ≠ 260 → I7 c = I4 c := fun c a1 a2 a3 => by rw [e7, up2_cell _ _ _ a1, o6 c a3, e5, up2_cell _ _ _ a2]
    have far : ∀ c, c = 2 ∨ c = 10 ∨ (15 ≤ c ∧ c < 24) ∨ (43 < c ∧ c ≠ 50 ∧ c ≠ 61 ∧ c ≠ 260) → I7 c = I c := fun c hc => by
      rw [o7 c (by omega) (by omega) (by omega), c4.1 c (by omega), o3 c (by omega)]; exact e c (by omega)
    have p7 : PX 24 (rP r) I7 := PX_of (PX_of p3 (fun i a1 a2 => c4.1 i (by omega))) (fun i a1 a2 => o7 i (by omega) (by omega) (by omega))
    have i724 : I7 24 2 = nI (pHc (rP r)) := p7.2.2.1
    rw [i724]
    obtain ⟨u1, u2, m, u3, u4, u5⟩ := h3
    have i61 : I7 61 = I5 61 := by rw [e7, up2_cell _ _ _ (by decide), o6 61 (by decide)]
    have i461 : I4 61 = I 61 := by rw [c4.1 61 (by omega), o3 61 (by omega)]; exact e 61 (by omega)
    refine H I7 ⟨p7, LX_of l4 (fun i a1 a2 => o7 i (by omega) (by omega) (by omega)), ⟨Nat.zero_le _, by rw [i61, e5, up2_same]; rfl, m, u3, by rw [i61, e5, up2_slot _ _ (by decide), i461]; exact u4, fun i y hy => by have hy' : ([] : List Ld)[i]? = some y := hy; simp at hy'⟩, fun j hj => ⟨?_, fun y hy => by cases hy⟩, Or.inl (by rw [e7, up2_same]), Scr_of h6 (fun c hc => far c (by omega)), ?_, fun j hj => absurd hj (Nat.not_lt_zero j)⟩ (fun c hc => far c (by omega))
    · have hj' : j = 0 ∨ j = 1 := by omega
      have i260 : I7 260 = I6 260 := by rw [e7, up2_cell _ _ _ (by decide)]
      rw [i260]
      rcases hj' with q | q <;> subst q
      · exact z0
      · exact z1
    · show I7 1 1 = nI 0
      rw [o7 1 (by decide) (by decide) (by decide), c4.1 1 (by omega), o3 1 (by omega), e2, up2_same]; rfl
theorem mparse {w : Wd} {b n : Nat} (ho : WOk b w) (hn : n ≤ wN w) : ((prd2 (wG w) n).1 ≠ 0 → StM mX12_parse [.ref 261, .int (nI n)] w (wP w, wX w, wH w, wS w, 0, wG w) (-2 - nI (prd2 (wG w) n).1)) ∧ ((prd2 (wG w) n).1 = 0 → StM mX12_parse [.ref 261, .int (nI n)] w (rP (prd2 (wG w) n), mkL (rD (prd2 (wG w) n)), [], (fun _ => none), 0, wG w) (nI (pHc (rP (prd2 (wG w) n))))) := by
  have hN := ho.2.2.2.2.1
  have hg : Gok n (wG w) := ⟨by omega, fun j hj => ho.2.2.2.2.2 j (by omega)⟩
  have main : ∀ (I : MI) (Q : Int32 → MI → Prop), SR w I → (∀ K, MS n (wG w) (prd2 (wG w) n) K → (∀ c, c < 261 ∨ c = 262 ∨ c = 263 ∨ 274 ≤ c → K c = I c) → (∀ c k, half c k → K c k = I c k) → K 261 24 = I 261 24 → K 261 2 = nI 0 → LX12_parse_151 (nI n) K Q) → Wi mX12_parse [.ref 261, .int (nI n)] I Q := by
    intro I Q hs HK
    refine rX12_parse (fun I1 e1 => ?_)
    obtain ⟨hs1, f1⟩ := SR_fl hs e1
    have hB := hs1.2.2.2.2
    rw [hB.1, l64 (n := 0) (by decide)]
    refine mw_y (by rw [ile (by decide) (by omega)]; omega) (by rw [ile (by omega) (by omega)]; exact hn) ⟨fun _ I4 e4 I5 e5 I6 e6 I7 e7 I8 e8 => ?_, fun q => absurd q (by decide)⟩
    refine ⟨vpn 0 (by decide) (by decide), fun I9 e9 => ⟨vpn 1 (by decide) (by decide), fun I10 e10 => ⟨vpn 2 (by decide) (by decide), fun I11 e11 => ⟨vpn 3 (by decide) (by decide), fun I12 e12 => ⟨vpn 4 (by decide) (by decide), fun I13 e13 => ⟨vpn 5 (by decide) (by decide), fun I14 e14 => ⟨in67, fun I15 e15 => ?_⟩⟩⟩⟩⟩⟩⟩
    rw [show (0 : Int32).toNatClampNeg = 0 from rfl] at e9
    rw [show (1 : Int32).toNatClampNeg = 1 from rfl] at e10
    rw [show (2 : Int32).toNatClampNeg = 2 from rfl] at e11
    rw [show (3 : Int32).toNatClampNeg = 3 from rfl] at e12
    rw [show (4 : Int32).toNatClampNeg = 4 from rfl] at e13
    rw [show (5 : Int32).toNatClampNeg = 5 from rfl] at e14
    rw [show (6 : Int32).toNatClampNeg = 6 from rfl] at e15
    have oc : ∀ c, c ≠ 261 → c ≠ 264 → I15 c = I c := fun c a1 a2 => by
      rw [e15, up2_cell _ _ _ a2, e14, up2_cell _ _ _ a2, e13, up2_cell _ _ _ a2, e12, up2_cell _ _ _ a2, e11, up2_cell _ _ _ a2, e10, up2_cell _ _ _ a2, e9, up2_cell _ _ _ a2, e8, up2_cell _ _ _ a1, e7, up2_cell _ _ _ a1, e6, up2_cell _ _ _ a1, e5, up2_cell _ _ _ a1, e4, up2_cell _ _ _ a1, e1, up2_cell _ _ _ a1]
    have o261 : I15 261 = I8 261 := by
      rw [e15, up2_cell _ _ _ (by decide), e14, up2_cell _ _ _ (by decide), e13, up2_cell _ _ _ (by decide), e12, up2_cell _ _ _ (by decide), e11, up2_cell _ _ _ (by decide), e10, up2_cell _ _ _ (by decide), e9, up2_cell _ _ _ (by decide)]
    have v3 : I15 261 3 = nI n := by rw [o261, e8, up2_slot _ _ (by decide), e7, up2_slot _ _ (by decide), e6, up2_slot _ _ (by decide), e5, up2_slot _ _ (by decide), e4, up2_same]
    have v2 : I15 261 2 = nI 0 := by rw [o261, e8, up2_slot _ _ (by decide), e7, up2_slot _ _ (by decide), e6, up2_slot _ _ (by decide), e5, up2_same]; rfl
    have v5 : I15 261 5 = nI 0 := by rw [o261, e8, up2_slot _ _ (by decide), e7, up2_slot _ _ (by decide), e6, up2_same]; rfl
    have v8 : I15 261 8 = 0 := by rw [o261, e8, up2_slot _ _ (by decide), e7, up2_same]
    have v21 : I15 261 21 = nI 0 := by rw [o261, e8, up2_same]; rfl
    have v24 : I15 261 24 = I 261 24 := by rw [o261, e8, up2_slot _ _ (by decide), e7, up2_slot _ _ (by decide), e6, up2_slot _ _ (by decide), e5, up2_slot _ _ (by decide), e4, up2_slot _ _ (by decide), e1, up2_slot _ _ (by decide)]
    have hT : TxM n (wG w) I15 := ⟨v3, fun j hj => by rw [oc 262 (by decide) (by decide)]; exact hs.2.2.2.2.2 j (by omega)⟩
    have d4 : I15 264 0 = 2 ∧ I15 264 1 = 60 ∧ I15 264 2 = 300 ∧ I15 264 3 = 5 ∧ I15 264 4 = 10 ∧ I15 264 5 = 0 ∧ I15 264 6 = 0 := by
      subst e9; subst e10; subst e11; subst e12; subst e13; subst e14; subst e15
      refine ⟨?_, ?_, ?_, ?_, ?_, ?_, ?_⟩ <;> simp [up2_ap]
    refine sM_next hg hT (Nat.zero_le _) v5 (fun I16 t16 s16 => ?_)
    have c16 := fun c h => s16.1 c h (List.not_mem_nil)
    refine mloop hg 900 0 (r00 (fun j => cc (wG w j)) n) I16 rfl ⟨⟨TxM_sam hT s16 (by simp) (by simp), Or.inl ⟨rfl, ⟨0, Nat.zero_le _, rfl⟩, t16, by rw [s16.2 8 (by simp)]; exact v8, by rw [s16.2 21 (by simp)]; exact v21⟩⟩, fun _ => ?_⟩ (fun _ => ⟨ok00, by show 0 < 16; decide⟩) (fun _ => ⟨⟨0, Nat.zero_le _, rfl⟩, Nat.zero_le _⟩) (fun K hK fK => HK K hK (fun c hc => ?_) (fun c k hck => ?_) ?_ ?_)
    · refine ⟨?_, ?_, ?_, ?_, ?_, ?_, ?_, fun k hk => absurd hk (Nat.not_lt_zero k), fun k hk => absurd hk (Nat.not_lt_zero k), fun k hk => absurd hk (Nat.not_lt_zero k)⟩
      · rw [c16 264 (by decide)]; exact d4.1
      · rw [c16 264 (by decide)]; exact d4.2.1
      · rw [c16 264 (by decide)]; exact d4.2.2.1
      · rw [c16 264 (by decide)]; exact d4.2.2.2.1
      · rw [c16 264 (by decide)]; exact d4.2.2.2.2.1
      · rw [c16 264 (by decide)]; exact d4.2.2.2.2.2.1
      · rw [c16 264 (by decide)]; exact d4.2.2.2.2.2.2
    · rw [fK.1.1 c (by omega) (by simp; omega), c16 c (by omega)]; exact oc c (by omega) (by omega)
    · rw [fK.2 c k hck, c16 c (by unfold half at hck; omega)]
      exact congrFun (oc c (by unfold half at hck; omega) (by unfold half at hck; omega)) k
    · rw [fK.1.2 24 (by simp), s16.2 24 (by simp)]; exact v24
    · rw [fK.1.2 2 (by simp), s16.2 2 (by simp)]; exact v2
  refine ⟨fun hz I Q hs H => main I Q hs (fun K hK oK hfK k24 k2 => ?_), fun hz I Q hs H => main I Q hs (fun K hK oK hfK k24 k2 => ?_)⟩
  · have h8 := PTM_e hz hK.1
    refine rX12_parse_151 ⟨fun q => absurd q h8, fun _ => ?_⟩
    have hv : (8 : Int32) * K 261 9 + K 261 8 = nI (prd2 (wG w) n).1 := by
      rcases hK.1.2 with q | ⟨-, off, k, a1, a2, a3, -⟩
      · exact absurd q.1 hz
      · rw [a1, a2, show (8 : Int32) * nI off = nI (8 * off) from pk_mul 8 off, nI_add, a3]
    rw [hv]
    obtain ⟨g1, g2, g3, g4, g5⟩ := hs
    refine H K ⟨?_, LM_of g2 (oK 274 (by omega)), HM_of g3 k24 (oK 275 (by omega)), SlM_of g4 (oK 276 (by omega)) (oK 277 (by omega)), k2, fun j hj => absurd hj (Nat.not_lt_zero j)⟩ (fun c hc => oK c (by omega))
    have hsc := ho.1.2.2.1
    have hhc := ho.1.2.2.2.1
    obtain ⟨a0, a1, a2, a3, a4, a5, a6, a7, a8⟩ := g1
    unfold PM
    rw [oK 263 (by omega)]
    refine ⟨a0, a1, a2, a3, a4, a5, a6, fun k hk => ?_, fun k hk => ?_⟩
    · have hk' : k < pSc (wP w) := hk
      rw [hfK 265 k (by unfold half; omega), hfK 266 k (by unfold half; omega), hfK 267 k (by unfold half; omega)]; exact a7 k hk
    · have hk' : k < pHc (wP w) := hk
      rw [hfK 270 k (by unfold half; omega), hfK 271 k (by unfold half; omega)]; exact a8 k hk
  · refine mgood hz hK (prd2_ok hz) (fun J pJ lJ j24 z0 z1 far j261 => ?_)
    refine H J ⟨pJ, lJ, ⟨Nat.zero_le _, by rw [j24]; rfl, fun i y hy => by have hy' : ([] : List Ld)[i]? = some y := hy; simp at hy'⟩, fun j hj => ⟨?_, fun y hy => by cases hy⟩, by rw [j261 2 (by decide)]; exact k2, fun j hj => absurd hj (Nat.not_lt_zero j)⟩ (fun c hc => (far c (by omega)).trans (oK c (by omega)))
    have hj' : j = 0 ∨ j = 1 := by omega
    rcases hj' with q | q <;> subst q
    · exact z0
    · exact z1
theorem t_parse {b : Nat} (a : Int32) : Spp b mX11_parse mX12_parse [.ref 0, .int a] [.ref 261, .int a] := stp_of (fun w ho => by
  have hN := ho.2.2.2.2.1
  rcases in_or (a := a) (n := wN w + 1) (by omega) with ha | ⟨n, hn, e⟩
  · refine ⟨w, -1, WOk_up ho, fun I Q hs H => rX11_parse ⟨fun _ => H I hs XF.rf, fun q => ⟨fun z => ?_, fun _ => H I hs XF.rf⟩⟩, fun I Q hs H => rX12_parse (fun I1 e1 => ?_)⟩
    · exfalso
      rcases ha with y | y
      · exact q y
      · rw [hs.2.2.2.2.2.2.1] at z
        rw [Int32.le_iff_toInt_le, nI_toInt (by omega)] at y z
        omega
    · obtain ⟨hs1, f1⟩ := SR_fl hs e1
      rw [hs1.2.2.2.2.1, l64 (n := 0) (by decide)]
      refine mw_n (fun q => ?_) ⟨fun q => absurd rfl q, fun _ => H I1 hs1 f1⟩
      rcases ha with y | y
      · rw [Int32.lt_iff_toInt_lt] at y
        have := Int32.le_iff_toInt_le.mp q.1
        have e0 : (nI 0).toInt = 0 := rfl
        have e0' : (0 : Int32).toInt = 0 := rfl
        omega
      · have := Int32.le_iff_toInt_le.mp q.2
        rw [Int32.le_iff_toInt_le, nI_toInt (by omega)] at y
        rw [nI_toInt (by omega)] at this
        omega
  · subst e
    have hn' : n ≤ wN w := by omega
    by_cases hz : (prd2 (wG w) n).1 = 0
    · exact ⟨_, _, ⟨(prd2_ok hz).1, LdOk_mk (prd2_ok hz) _, fun y hy => (by cases hy), fun j y _ hy => (by cases hy), Nat.zero_le _, fun j hj => absurd hj (Nat.not_lt_zero j)⟩, (xparse ho hn').2 hz, (mparse ho hn').2 hz⟩
    · exact ⟨(wP w, wX w, wH w, wS w, 0, wG w), _, ⟨ho.1, LdOk_up ho.2.1, fun y hy => LdOk_up (ho.2.2.1 y hy), fun j y hj hy => LdOk_up (ho.2.2.2.1 j y hj hy), Nat.zero_le _, fun j hj => absurd hj (Nat.not_lt_zero j)⟩, (xparse ho hn').1 hz, (mparse ho hn').1 hz⟩)
