/-! the class's statements -/
section
variable {n : Nat} {g : Nat → Int32} {I : MI}
theorem PTX_0 {r : Rs} (h0 : r.1 = 0) (h : PTX n g r I) : TxX n g I ∧ sane (fun j => cc (g j)) n (rT r) ∧ TkX (rT r) I ∧ I 3 4 = 0 ∧ I 3 3 = nI (rM r) := by
  obtain ⟨hT, hh⟩ := h
  rcases hh with q | q
  · exact ⟨hT, q.2⟩
  · exact absurd h0 q.1
theorem bI_ne (v : Bool) : ¬ bI v = 0 ↔ v = true := by cases v <;> simp [bI]
/-- a word's number into a field: nodes, cart, start, price -/
theorem wNc {p : Pl} {d : Dl} (h0 : pSc p = 0 ∧ pHc p = 0) (v : Nat) (J : MI) (z : Zs) (hz : z.2.2 = (p, d)) (h1 : 2 ≤ v) (h2 : v ≤ 10) (hd : DXp p d J) : DXp (sNc v z).2.2.1 (sNc v z).2.2.2 (up2 J 4 0 (nI v)) ∧ (POk p d → POk (sNc v z).2.2.1 (sNc v z).2.2.2) := by
  obtain ⟨z1, z2, z3, z4⟩ := z
  cases hz
  obtain ⟨⟨a1, a2, a3, a4, a5, a6, a7, a8, a9⟩, b1, b2, b3⟩ := hd
  refine ⟨⟨⟨up2_same _ _ _ _, ?_, ?_, ?_, ?_, ?_, ?_, ?_, ?_⟩, ?_, ?_, ?_⟩, fun ho => ?_⟩
  · rw [up2_slot _ _ (by decide)]; exact a2
  · rw [up2_slot _ _ (by decide)]; exact a3
  · rw [up2_slot _ _ (by decide)]; exact a4
  · rw [up2_slot _ _ (by decide)]; exact a5
  · rw [up2_slot _ _ (by decide)]; exact a6
  · rw [up2_slot _ _ (by decide)]; exact a7
  · rw [up2_cell _ _ _ (by decide), up2_cell _ _ _ (by decide), up2_cell _ _ _ (by decide)]; exact a8
  · rw [up2_cell _ _ _ (by decide), up2_cell _ _ _ (by decide)]; exact a9
  · rw [up2_cell _ _ _ (by decide)]; exact b1
  · rw [up2_cell _ _ _ (by decide)]; exact b2
  · rw [up2_cell _ _ _ (by decide), up2_cell _ _ _ (by decide)]; exact b3
  · obtain ⟨⟨c1, c2, c3, c4, c5, c6, c7, c8, c9⟩, o2, o3⟩ := ho
    refine ⟨⟨h1, h2, c3, c4, c5, c6, c7, fun k hk => ?_, fun h hh => ?_⟩, o2, o3⟩
    · have hk' : k < pSc p := hk
      omega
    · have hh' : h < pHc p := hh
      omega
theorem wCap {p : Pl} {d : Dl} (v : Nat) (J : MI) (z : Zs) (hz : z.2.2 = (p, d)) (h1 : 10 ≤ v) (h2 : v ≤ 200) (hd : DXp p d J) : DXp (sCap v z).2.2.1 (sCap v z).2.2.2 (up2 J 4 3 (nI v)) ∧ (POk p d → POk (sCap v z).2.2.1 (sCap v z).2.2.2) := by
  obtain ⟨z1, z2, z3, z4⟩ := z
  cases hz
  obtain ⟨⟨a1, a2, a3, a4, a5, a6, a7, a8, a9⟩, b1, b2, b3⟩ := hd
  refine ⟨⟨⟨?_, ?_, ?_, up2_same _ _ _ _, ?_, ?_, ?_, ?_, ?_⟩, ?_, ?_, ?_⟩, fun ho => ?_⟩
  · rw [up2_slot _ _ (by decide)]; exact a1
  · rw [up2_slot _ _ (by decide)]; exact a2
  · rw [up2_slot _ _ (by decide)]; exact a3
  · rw [up2_slot _ _ (by decide)]; exact a5
  · rw [up2_slot _ _ (by decide)]; exact a6
  · rw [up2_slot _ _ (by decide)]; exact a7
  · rw [up2_cell _ _ _ (by decide), up2_cell _ _ _ (by decide), up2_cell _ _ _ (by decide)]; exact a8
  · rw [up2_cell _ _ _ (by decide), up2_cell _ _ _ (by decide)]; exact a9
  · rw [up2_cell _ _ _ (by decide)]; exact b1
  · rw [up2_cell _ _ _ (by decide)]; exact b2
  · rw [up2_cell _ _ _ (by decide), up2_cell _ _ _ (by decide)]; exact b3
  · obtain ⟨⟨c1, c2, c3, c4, c5, c6, c7, c8, c9⟩, o2, o3⟩ := ho
    exact ⟨⟨c1, c2, c3, c4, h1, h2, c7, c8, c9⟩, o2, o3⟩
theorem wSt {p : Pl} {d : Dl} (v : Nat) (J : MI) (z : Zs) (hz : z.2.2 = (p, d)) (h1 : 0 ≤ v) (h2 : v ≤ 1439) (hd : DXp p d J) : DXp (sSt v z).2.2.1 (sSt v z).2.2.2 (up2 J 4 4 (nI v)) ∧ (POk p d → POk (sSt v z).2.2.1 (sSt v z).2.2.2) := by
  obtain ⟨z1, z2, z3, z4⟩ := z
  cases hz
  obtain ⟨⟨a1, a2, a3, a4, a5, a6, a7, a8, a9⟩, b1, b2, b3⟩ := hd
  refine ⟨⟨⟨?_, ?_, ?_, ?_, up2_same _ _ _ _, ?_, ?_, ?_, ?_⟩, ?_, ?_, ?_⟩, fun ho => ?_⟩
  · rw [up2_slot _ _ (by decide)]; exact a1
  · rw [up2_slot _ _ (by decide)]; exact a2
  · rw [up2_slot _ _ (by decide)]; exact a3
  · rw [up2_slot _ _ (by decide)]; exact a4
  · rw [up2_slot _ _ (by decide)]; exact a6
  · rw [up2_slot _ _ (by decide)]; exact a7
  · rw [up2_cell _ _ _ (by decide), up2_cell _ _ _ (by decide), up2_cell _ _ _ (by decide)]; exact a8
  · rw [up2_cell _ _ _ (by decide), up2_cell _ _ _ (by decide)]; exact a9
  · rw [up2_cell _ _ _ (by decide)]; exact b1
  · rw [up2_cell _ _ _ (by decide)]; exact b2
  · rw [up2_cell _ _ _ (by decide), up2_cell _ _ _ (by decide)]; exact b3
  · obtain ⟨⟨c1, c2, c3, c4, c5, c6, c7, c8, c9⟩, o2, o3⟩ := ho
    exact ⟨⟨c1, c2, c3, c4, c5, c6, h2, c8, c9⟩, o2, o3⟩
theorem wPr {p : Pl} {d : Dl} (v : Nat) (J : MI) (z : Zs) (hz : z.2.2 = (p, d)) (h1 : 0 ≤ v) (h2 : v ≤ 99) (hd : DXp p d J) : DXp (sPr v z).2.2.1 (sPr v z).2.2.2 (up2 J 4 5 (nI v)) ∧ (POk p d → POk (sPr v z).2.2.1 (sPr v z).2.2.2) := by
  obtain ⟨z1, z2, z3, z4⟩ := z
  cases hz
  obtain ⟨⟨a1, a2, a3, a4, a5, a6, a7, a8, a9⟩, b1, b2, b3⟩ := hd
  refine ⟨⟨⟨?_, ?_, ?_, ?_, ?_, up2_same _ _ _ _, ?_, ?_, ?_⟩, ?_, ?_, ?_⟩, fun ho => ho⟩
  · rw [up2_slot _ _ (by decide)]; exact a1
  · rw [up2_slot _ _ (by decide)]; exact a2
  · rw [up2_slot _ _ (by decide)]; exact a3
  · rw [up2_slot _ _ (by decide)]; exact a4
  · rw [up2_slot _ _ (by decide)]; exact a5
  · rw [up2_slot _ _ (by decide)]; exact a7
  · rw [up2_cell _ _ _ (by decide), up2_cell _ _ _ (by decide), up2_cell _ _ _ (by decide)]; exact a8
  · rw [up2_cell _ _ _ (by decide), up2_cell _ _ _ (by decide)]; exact a9
  · rw [up2_cell _ _ _ (by decide)]; exact b1
  · rw [up2_cell _ _ _ (by decide)]; exact b2
  · rw [up2_cell _ _ _ (by decide), up2_cell _ _ _ (by decide)]; exact b3
theorem wDe {p : Pl} {d : Dl} (v : Nat) (J : MI) (z : Zs) (hz : z.2.2 = (p, d)) (h1 : 0 ≤ v) (h2 : v ≤ 99) (hd : DXp p d J) : DXp (sDe v z).2.2.1 (sDe v z).2.2.2 (up2 J 4 6 (nI v)) ∧ (POk p d → POk (sDe v z).2.2.1 (sDe v z).2.2.2) := by
  obtain ⟨z1, z2, z3, z4⟩ := z
  cases hz
  obtain ⟨⟨a1, a2, a3, a4, a5, a6, a7, a8, a9⟩, b1, b2, b3⟩ := hd
  refine ⟨⟨⟨?_, ?_, ?_, ?_, ?_, ?_, up2_same _ _ _ _, ?_, ?_⟩, ?_, ?_, ?_⟩, fun ho => ho⟩
  · rw [up2_slot _ _ (by decide)]; exact a1
  · rw [up2_slot _ _ (by decide)]; exact a2
  · rw [up2_slot _ _ (by decide)]; exact a3
  · rw [up2_slot _ _ (by decide)]; exact a4
  · rw [up2_slot _ _ (by decide)]; exact a5
  · rw [up2_slot _ _ (by decide)]; exact a6
  · rw [up2_cell _ _ _ (by decide), up2_cell _ _ _ (by decide), up2_cell _ _ _ (by decide)]; exact a8
  · rw [up2_cell _ _ _ (by decide), up2_cell _ _ _ (by decide)]; exact a9
  · rw [up2_cell _ _ _ (by decide)]; exact b1
  · rw [up2_cell _ _ _ (by decide)]; exact b2
  · rw [up2_cell _ _ _ (by decide), up2_cell _ _ _ (by decide)]; exact b3
theorem xonce_d {r : Rs} {j : Nat} {J : MI} (h : XS n g r I) (f : FrR I J) : ((pone (fun j => cc (g j)) n j r).1 = 0 → (pone (fun j => cc (g j)) n j r).2.2.2 = (rP r, rD r) ∧ DXp (rP r) (rD r) J ∧ POk (rP r) (rD r)) ∧ Cnt J := by
  refine ⟨fun z => ?_, Cnt_of h.2.2 (by rw [f 4 (by decide) (by decide)]) (by rw [f 4 (by decide) (by decide)])⟩
  obtain ⟨p0, p1, p2⟩ := pone_0 z
  obtain ⟨d1, d2⟩ := h.2.1 p0
  exact ⟨by rw [p2], DXp_of d1 (fun c h1 h2 => f c (by omega) (by omega)), d2⟩
theorem xnodes {r : Rs} {Q : MI → Prop} (hg : Gok n g) (h0 : r.1 = 0) (h : XS n g r I) (H : ∀ J, XS n g (pnodes (fun j => cc (g j)) n r) J → FrP I J → Q J) : Wv mX5_readNodes [.ref 3] I Q := by
  have hn := hg.1
  obtain ⟨hT, hs, ht, h4, h3⟩ := PTX_0 h0 h.1
  have hb := sane_b hs
  obtain ⟨hd, ho⟩ := h.2.1 h0
  have hsc := ho.1.2.2.1
  have hhc := ho.1.2.2.2.1
  -- from the second half on
  have f32 : ∀ (r1 : Rs) (J : MI), XS n g r1 J → FrP I J → (r1.1 = 0 → pSc (rP r1) = 0 ∧ pHc (rP r1) = 0) → pnodes (fun j => cc (g j)) n r = pset (fun j => cc (g j)) n 2 10 sNc (pone (fun j => cc (g j)) n 0 r1) → LX5_readNodes_32 J Q := by
    intro r1 J hJ fJ h00 hp
    refine rX5_readNodes_32 (xonce (j := 0) hg (by decide) rfl hJ.1 (fun K hK fK => ?_))
    obtain ⟨e1, e2⟩ := xonce_d (j := 0) hJ fK
    exact xfield (f := sNc) (p := rP r1) (d := rD r1) hg hK e2 e1 (lo := 2) (hi := 10) rfl rfl (by decide) (by decide) (by decide) (fun v z => ⟨rfl, rfl⟩) (fun z0 => wNc (h00 (pone_0 z0).1)) (fun L hL fL => H L (by rw [hp]; exact hL) (fJ.tr ((FrP_R fK).tr fL)))
  have f20 : (0 < pSc (rP r) ∨ 0 < pHc (rP r)) → LX5_readNodes_20 I Q := by
    intro z
    refine rX5_readNodes_20 (xfail (off := (rT r).1) (k := 1) h.1 (fun _ => ht.1) (by omega) (by decide) (fun J tJ fJ => ?_))
    refine f32 (perr (rT r).1 1 r) J ⟨tJ, fun y => ?_, Cnt_of h.2.2 (by rw [fJ 4 (by decide) (by decide)]) (by rw [fJ 4 (by decide) (by decide)])⟩ (FrP_R fJ) (fun y => ?_) (by unfold pnodes; rw [if_pos z])
    · unfold perr at y; rw [if_pos h0] at y; exact absurd y (by show ¬ 8 * (rT r).1 + 1 = 0; omega)
    · unfold perr at y; rw [if_pos h0] at y; exact absurd y (by show ¬ 8 * (rT r).1 + 1 = 0; omega)
  refine rX5_readNodes ?_
  rw [hd.1.2.1, hd.1.2.2.1, nI_zero, ilt (by decide) (by omega), ile (by omega) (by decide)]
  exact ⟨fun z => f20 (Or.inl z), fun z => ⟨fun y => f32 r I h FrP.rf (fun _ => by omega) (by unfold pnodes; rw [if_neg (by omega)]), fun y => f20 (Or.inr (by omega))⟩⟩
/-! streets -/
def jI (f g : Nat → Int32) (a b : Int32) : Nat → Bool
  | 0 => false
  | k + 1 => jI f g a b k || ((decide (f k = a) && decide (g k = b)) || (decide (f k = b) && decide (g k = a)))
theorem sX_joins {sc : Nat} {a b : Int32} {Q : Int32 → MI → Prop} (hsc : sc ≤ 18) (h : I 4 1 = nI sc) (H : Q (bI (jI (I 5) (I 6) a b sc)) I) : Wi mX6_joins [.ref 4, .int a, .int b] I Q := by
  have go : ∀ (m k : Nat), m + k = sc → jI (I 5) (I 6) a b k = false → LX6_joins_2 a b (nI k) I Q := by
    intro m
    induction m with
    | zero =>
      intro k hm hk
      have : k = sc := by omega
      subst this
      rw [hk] at H
      refine rX6_joins_2 ⟨fun _ => H, fun q => absurd ?_ q⟩
      rw [h, ile (by omega) (by omega)]; omega
    | succ m ih =>
      intro k hm hk
      have up : ∀ j, k + 1 ≤ j → jI (I 5) (I 6) a b (k + 1) = true → jI (I 5) (I 6) a b j = true := by
        intro j
        induction j with
        | zero => intro hj _; omega
        | succ j ihj =>
          intro hj ht
          by_cases e : j = k
          · rw [e]; exact ht
          · have := ihj (by omega) ht
            simp only [jI, this, Bool.true_or]
      have yes : jI (I 5) (I 6) a b (k + 1) = true → Q 1 I := fun z => by
        rw [up sc (by omega) z] at H; exact H
      have nx : jI (I 5) (I 6) a b (k + 1) = false → LX6_joins_2 a b (nI k + 1) I Q := fun z => by rw [nI_s]; exact ih (k + 1) (by omega) z
      have ck : (nI k).toNatClampNeg = k := cl (by omega)
      refine rX6_joins_2 ⟨fun q => ?_, fun _ => ?_⟩
      · rw [h, ile (by omega) (by omega)] at q; omega
      · rw [ck]
        have f35 : ∀ t0 : Int32, (t0 = 0 → ¬ (I 5 k = a ∧ I 6 k = b)) → (¬ t0 = 0 → I 5 k = a ∧ I 6 k = b) → LX6_joins_35 a b (nI k) t0 I Q := by
          intro t0 z1 z2
          have f62 : ∀ u : Int32, (u = 0 → ¬ (I 5 k = b ∧ I 6 k = a)) → (¬ u = 0 → I 5 k = b ∧ I 6 k = a) → LX6_joins_62 a b (nI k) t0 u I Q := by
            intro u y1 y2
            refine rX6_joins_62 ⟨fun q => yes ?_, fun q => ⟨fun q2 => nx ?_, fun q2 => yes ?_⟩⟩
            · have := z2 q
              simp only [jI, hk, decide_eq_true this.1, decide_eq_true this.2]; rfl
            · have a1 := z1 q
              have a2 := y1 q2
              simp only [jI, hk]
              by_cases e1 : I 5 k = a
              · have e2 : ¬ I 6 k = b := fun y => a1 ⟨e1, y⟩
                by_cases e3 : I 5 k = b
                · have e4 : ¬ I 6 k = a := fun y => a2 ⟨e3, y⟩
                  simp [e2, e4]
                · simp [e2, e3]
              · by_cases e3 : I 5 k = b
                · have e4 : ¬ I 6 k = a := fun y => a2 ⟨e3, y⟩
                  simp [e1, e4]
                · simp [e1, e3]
            · have := y2 q2
              simp only [jI, hk, decide_eq_true this.1, decide_eq_true this.2]; simp
          refine rX6_joins_35 ?_
          rw [ck]
          exact ⟨ci (by omega) (by decide), fun q => rX6_joins_61 (f62 0 (fun _ y => q y.1) (fun y => absurd rfl y)), fun q => ⟨ci (by omega) (by decide), fun q2 => rX6_joins_61 (f62 0 (fun _ y => q2 y.2) (fun y => absurd rfl y)), fun q2 => f62 1 (fun y => absurd y (by decide)) (fun _ => ⟨q, q2⟩)⟩⟩
        exact ⟨ci (by omega) (by decide), fun q => rX6_joins_34 (f35 0 (fun _ y => q y.1) (fun y => absurd rfl y)), fun q => ⟨ci (by omega) (by decide), fun q2 => rX6_joins_34 (f35 0 (fun _ y => q2 y.2) (fun y => absurd rfl y)), fun q2 => f35 1 (fun y => absurd y (by decide)) (fun _ => ⟨q, q2⟩)⟩⟩
  exact rX6_joins (go sc 0 (by omega) rfl)
theorem jI_jnd {p : Pl} {a b : Nat} (hp : PlOk p) (hP : PX 4 p I) (ha : a < 100) (hb : b < 100) : ∀ k, k ≤ pSc p → jI (I 5) (I 6) (nI a) (nI b) k = jnd p a b k
  | 0, _ => rfl
  | k + 1, hk => by
    have ih := jI_jnd hp hP ha hb k (by omega)
    have hs := hp.2.2.2.2.2.2.2.1 k (by omega)
    have hnc := hp.2.1
    obtain ⟨e1, e2, -⟩ := hP.2.2.2.2.2.2.2.1 k (by omega)
    have e1' : I 5 k = nI (pA p k) := e1
    have e2' : I 6 k = nI (pB p k) := e2
    simp only [jI, jnd, ih, e1', e2', ieq (show pA p k < 2147483648 by omega) (show a < 2147483648 by omega), ieq (show pB p k < 2147483648 by omega) (show b < 2147483648 by omega), ieq (show pA p k < 2147483648 by omega) (show b < 2147483648 by omega), ieq (show pB p k < 2147483648 by omega) (show a < 2147483648 by omega)]
/-- the gate of a street, once its length is read -/
theorem xgate {r : Rs} {sc : Nat} {Q : MI → Prop} (hg : Gok n g) (hsc : sc < 18) (h : PTX n g r I)
    (H : ∀ (r2 : Rs) (J : MI), PTX n g r2 J → (∀ c, c ≠ 1 → c ≠ 3 → c ≠ 13 → c ≠ 14 → J c = I c) → (∀ k, k ≠ sc → J 13 k = I 13 k ∧ J 14 k = I 14 k) →
      (r.1 = 0 → (isW (fun j => cc (g j)) (rT r) 6 = true → r2 = pnum (fun j => cc (g j)) n (pval (fun j => cc (g j)) (padv (fun j => cc (g j)) n r) + 1) 1440 (pnum (fun j => cc (g j)) n 0 1439 (padv (fun j => cc (g j)) n r)) ∧ (r2.1 = 0 → J 13 sc = nI (pval (fun j => cc (g j)) (padv (fun j => cc (g j)) n r)) ∧ J 14 sc = nI (pval (fun j => cc (g j)) (pnum (fun j => cc (g j)) n 0 1439 (padv (fun j => cc (g j)) n r))))) ∧ (isW (fun j => cc (g j)) (rT r) 6 = false → r2 = r ∧ J 13 sc = 0 ∧ J 14 sc = 0)) →
      (r.1 ≠ 0 → r2 = r) → Q J) : Wv mX5_readGate [.ref 3, .int (nI sc)] I Q := by
  refine rX5_readGate ?_
  rw [cl (by omega)]
  refine ⟨ci (by omega) (by decide), fun G1 e1 => ⟨ci (by omega) (by decide), fun G2 e2 => ?_⟩⟩
  have t2 : PTX n g r G2 := PTX_u (PTX_u h (by decide) e1) (by decide) e2
  have o2 : ∀ c, c ≠ 13 → c ≠ 14 → G2 c = I c := fun c k1 k2 => by rw [e2, up2_cell _ _ _ k2, e1, up2_cell _ _ _ k1]
  refine xword hg (by decide) t2 (fun v hv => ?_)
  rw [bI_ne, bI_eq]
  refine ⟨fun z => H r G2 t2 (fun c _ _ k3 k4 => o2 c k3 k4) (fun k hk => ?_) (fun h0 => ⟨fun y => ?_, fun _ => ⟨rfl, ?_, ?_⟩⟩) (fun _ => rfl), fun z => ?_⟩
  · exact ⟨by rw [e2, up2_cell _ _ _ (by decide), e1, up2_slot _ _ hk], by rw [e2, up2_slot _ _ hk, e1, up2_cell _ _ _ (by decide)]⟩
  · have := hv h0; rw [z, y] at this; cases this
  · rw [e2, up2_cell _ _ _ (by decide), e1, up2_same]
  · rw [e2, up2_same]
  · refine xadv hg t2 (fun G3 t3 f3 => xrn (lo := 0) (hi := 1439) hg t3 (fun _ => ⟨rfl, rfl, by decide, by decide⟩) (fun G6 w t6 f6 hw => ⟨ci (by omega) (by decide), fun G8 e8 => ⟨ci (by omega) (by decide), ?_⟩⟩))
    have t8 := PTX_u t6 (by decide) e8
    have g13 : G8 13 sc = w := by rw [e8, up2_same]
    rw [g13]
    have hvl : ∀ r' : Rs, (pnum (fun j => cc (g j)) n 0 1439 r').1 = 0 → pval (fun j => cc (g j)) r' ≤ 1439 := fun r' z => (pnum_0 z).2.2.2.1
    refine xrn (lo := pval (fun j => cc (g j)) (padv (fun j => cc (g j)) n r) + 1) (hi := 1440) hg t8 (fun y => ?_) (fun G9 w2 t9 f9 hw2 => ⟨ci (by omega) (by decide), fun G11 e11 => ?_⟩)
    · have := hvl _ y
      refine ⟨by rw [hw y, nI_s], rfl, by omega, by decide⟩
    · have t11 := PTX_u t9 (by decide) e11
      refine H _ G11 t11 (fun c k1 k2 k3 k4 => ?_) (fun k hk => ?_) (fun h0 => ⟨fun _ => ⟨rfl, fun y => ?_⟩, fun y => ?_⟩) (fun h0 => ?_)
      · rw [e11, up2_cell _ _ _ k4, f9 c k1 k2, e8, up2_cell _ _ _ k3, f6 c k1 k2, f3 c k1 k2]; exact o2 c k3 k4
      · refine ⟨?_, ?_⟩
        · rw [e11, up2_cell _ _ _ (by decide), f9 13 (by decide) (by decide), e8, up2_slot _ _ hk, f6 13 (by decide) (by decide), f3 13 (by decide) (by decide), e2, up2_cell _ _ _ (by decide), e1, up2_slot _ _ hk]
        · rw [e11, up2_slot _ _ hk, f9 14 (by decide) (by decide), e8, up2_cell _ _ _ (by decide), f6 14 (by decide) (by decide), f3 14 (by decide) (by decide), e2, up2_slot _ _ hk, e1, up2_cell _ _ _ (by decide)]
      · have y1 := (pnum_0 y).1
        refine ⟨?_, ?_⟩
        · rw [e11, up2_cell _ _ _ (by decide), f9 13 (by decide) (by decide), g13]; exact hw y1
        · rw [e11, up2_same]; exact hw2 y
      · have := hv h0; rw [z, y] at this; cases this
      · rw [padv_e h0, pnum_e h0, pnum_e h0]
end
