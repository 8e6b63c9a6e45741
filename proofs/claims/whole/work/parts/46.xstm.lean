/-! the statements, as functions -/
def pset (c : Nat → Nat) (n lo hi : Nat) (f : Nat → Zs → Zs) (r : Rs) : Rs := if (pnum c n lo hi r).1 = 0 then (0, f (pval c r) (pnum c n lo hi r).2) else pnum c n lo hi r
def zP (z : Zs) (p : Pl) : Zs := (z.1, z.2.1, p, z.2.2.2)
def zD (z : Zs) (d : Dl) : Zs := (z.1, z.2.1, z.2.2.1, d)
def sNc (v : Nat) (z : Zs) : Zs := zP z ((v, z.2.2.1.1.2), z.2.2.1.2)
def sCap (v : Nat) (z : Zs) : Zs := zP z ((pNc z.2.2.1, pSc z.2.2.1, pHc z.2.2.1, v, pSt z.2.2.1), z.2.2.1.2)
def sSt (v : Nat) (z : Zs) : Zs := zP z ((pNc z.2.2.1, pSc z.2.2.1, pHc z.2.2.1, pCap z.2.2.1, v), z.2.2.1.2)
def sPr (v : Nat) (z : Zs) : Zs := zP z (z.2.2.1.1, (nI v, pDe z.2.2.1), z.2.2.1.2.2)
def sDe (v : Nat) (z : Zs) : Zs := zP z (z.2.2.1.1, (pPr z.2.2.1, nI v), z.2.2.1.2.2)
def pnodes (c : Nat → Nat) (n : Nat) (r : Rs) : Rs := pset c n 2 10 sNc (pone c n 0 (if 0 < pSc (rP r) ∨ 0 < pHc (rP r) then perr (rT r).1 1 r else r))
def pcart (c : Nat → Nat) (n : Nat) (r : Rs) : Rs := pset c n 10 200 sCap (pone c n 1 r)
def pstart (c : Nat → Nat) (n : Nat) (r : Rs) : Rs := pset c n 0 1439 sSt (pone c n 2 r)
def pprice (c : Nat → Nat) (n : Nat) (r : Rs) : Rs := pset c n 0 99 sDe (pset c n 0 99 sPr (pone c n 3 r))
def jnd (p : Pl) (a b : Nat) : Nat → Bool
  | 0 => false
  | k + 1 => jnd p a b k || ((decide (pA p k = a) && decide (pB p k = b)) || (decide (pA p k = b) && decide (pB p k = a)))
def addS (p : Pl) (a b l : Nat) : Pl := ((pNc p, pSc p + 1, pHc p, pCap p, pSt p), p.2.1, updN (pA p) (pSc p) a, updN (pB p) (pSc p) b, updN (pL p) (pSc p) l, pHn p, pHw p)
def addG (d : Dl) (k f t : Nat) : Dl := (d.1, d.2.1, updN d.2.2.1 k f, updN d.2.2.2 k t)
def addH (p : Pl) (v w : Nat) : Pl := ((pNc p, pSc p, pHc p + 1, pCap p, pSt p), p.2.1, pA p, pB p, pL p, updN (pHn p) (pHc p) v, updN (pHw p) (pHc p) w)
/-- the street's ends: after both -/
def pst1 (c : Nat → Nat) (n : Nat) (r : Rs) : Rs := pnum c n 0 (pNc (rP r) - 1) (padv c n r)
def pst2 (c : Nat → Nat) (n : Nat) (r : Rs) : Rs := pnum c n 0 (pNc (rP r) - 1) (pst1 c n r)
def stA (c : Nat → Nat) (n : Nat) (r : Rs) : Nat := pval c (padv c n r)
def stB (c : Nat → Nat) (n : Nat) (r : Rs) : Nat := pval c (pst1 c n r)
def pst3 (c : Nat → Nat) (n : Nat) (r : Rs) : Rs := if (pst2 c n r).1 = 0 ∧ (stB c n r = stA c n r ∨ jnd (rP r) (stA c n r) (stB c n r) (pSc (rP r)) = true) then perr (rT (pst1 c n r)).1 3 (pst2 c n r) else pst2 c n r
def pst4 (c : Nat → Nat) (n : Nat) (r : Rs) : Rs := pnum c n 1 99 (pst3 c n r)
def stL (c : Nat → Nat) (n : Nat) (r : Rs) : Nat := pval c (pst3 c n r)
def stG (c : Nat → Nat) (n : Nat) (r : Rs) : Bool := isW c (rT (pst4 c n r)) 6
def pst5 (c : Nat → Nat) (n : Nat) (r : Rs) : Rs := pnum c n 0 1439 (padv c n (pst4 c n r))
def stF (c : Nat → Nat) (n : Nat) (r : Rs) : Nat := pval c (padv c n (pst4 c n r))
def pst6 (c : Nat → Nat) (n : Nat) (r : Rs) : Rs := pnum c n (stF c n r + 1) 1440 (pst5 c n r)
def stT (c : Nat → Nat) (n : Nat) (r : Rs) : Nat := pval c (pst5 c n r)
def pstreet (c : Nat → Nat) (n : Nat) (r : Rs) : Rs :=
  if 18 ≤ pSc (rP r) then perr (rT r).1 4 r
  else if (pst4 c n r).1 ≠ 0 then pst4 c n r
  else if stG c n r = true then (if (pst6 c n r).1 = 0 then (0, (rT (pst6 c n r), rM r, addS (rP r) (stA c n r) (stB c n r) (stL c n r), addG (rD r) (pSc (rP r)) (stF c n r) (stT c n r))) else pst6 c n r)
  else (0, (rT (pst4 c n r), rM r, addS (rP r) (stA c n r) (stB c n r) (stL c n r), addG (rD r) (pSc (rP r)) 0 0))
def pho1 (c : Nat → Nat) (n : Nat) (r : Rs) : Rs := pnum c n 1 (pNc (rP r) - 1) (padv c n r)
def pho2 (c : Nat → Nat) (n : Nat) (r : Rs) : Rs := pnum c n 0 50 (pho1 c n r)
def pho3 (c : Nat → Nat) (n : Nat) (r : Rs) : Rs := pnum c n 0 9 (pho2 c n r)
/-- the orders of a house: what has been read, and the orders so far -/
def pord (c : Nat → Nat) (n : Nat) (r : Rs) : Nat → Rs × (Nat → Nat)
  | 0 => (pho3 c n r, (rD r).1)
  | k + 1 => (pnum c n 0 9 (pord c n r k).1, updN (pord c n r k).2 (7 * pHc (rP r) + k) (pval c (pord c n r k).1))
def phouse (c : Nat → Nat) (n : Nat) (r : Rs) : Rs :=
  if 12 ≤ pHc (rP r) then perr (rT r).1 4 r
  else if (pord c n r 7).1.1 = 0 then (0, (rT (pord c n r 7).1, rM r, addH (rP r) (pval c (padv c n r)) (pval c (pho1 c n r)), ((pord c n r 7).2, upd (rD r).2.1 (pHc (rP r)) (nI (pval c (pho2 c n r))), (rD r).2.2)))
  else (pord c n r 7).1
def pstm (c : Nat → Nat) (n : Nat) (r : Rs) : Rs :=
  if isW c (rT r) 0 then pnodes c n r else if isW c (rT r) 1 then pcart c n r else if isW c (rT r) 2 then pstart c n r else if isW c (rT r) 3 then pprice c n r else if isW c (rT r) 4 then pstreet c n r else if isW c (rT r) 5 then phouse c n r else perr (rT r).1 1 r
/-! frozen, and what a number leaves -/
theorem pnum_e {c : Nat → Nat} {n lo hi : Nat} {r : Rs} (h : r.1 ≠ 0) : pnum c n lo hi r = r := by unfold pnum; rw [if_pos h]
theorem padv_e {c : Nat → Nat} {n : Nat} {r : Rs} (h : r.1 ≠ 0) : padv c n r = r := by unfold padv; rw [if_neg h]
theorem pone_e {c : Nat → Nat} {n j : Nat} {r : Rs} (h : r.1 ≠ 0) : pone c n j r = r := by unfold pone; rw [if_pos h]
theorem pset_e {c : Nat → Nat} {n lo hi : Nat} {f : Nat → Zs → Zs} {r : Rs} (h : r.1 ≠ 0) : pset c n lo hi f r = r := by unfold pset; rw [pnum_e h, if_neg h]
theorem pnum_0 {c : Nat → Nat} {n lo hi : Nat} {r : Rs} (h : (pnum c n lo hi r).1 = 0) : r.1 = 0 ∧ (rT r).2.2 = 2 ∧ lo ≤ pval c r ∧ pval c r ≤ hi ∧ (pnum c n lo hi r).2.2 = r.2.2 := by
  unfold pnum at h ⊢
  by_cases h0 : r.1 ≠ 0
  · rw [if_pos h0] at h; exact absurd h h0
  · rw [if_neg h0] at h ⊢
    by_cases h1 : (rT r).2.2 ≠ 2
    · rw [if_pos h1] at h
      have : 8 * (rT r).1 + 1 = 0 := h
      omega
    · rw [if_neg h1] at h ⊢
      by_cases h2 : pval c r < lo ∨ hi < pval c r
      · rw [if_pos h2] at h
        have : 8 * (rT r).1 + 2 = 0 := h
        omega
      · rw [if_neg h2]
        exact ⟨by omega, by omega, by omega, by omega, rfl⟩
theorem padv_2 (c : Nat → Nat) (n : Nat) (r : Rs) : (padv c n r).1 = r.1 ∧ (padv c n r).2.2 = r.2.2 := by
  unfold padv
  split
  · rename_i h; exact ⟨h.symm, rfl⟩
  · exact ⟨rfl, rfl⟩
theorem pone_0 {c : Nat → Nat} {n j : Nat} {r : Rs} (h : (pone c n j r).1 = 0) : r.1 = 0 ∧ (rM r).testBit j = false ∧ (pone c n j r).2.2 = (rM r ||| 2 ^ j, r.2.2.2) := by
  unfold pone at h ⊢
  by_cases h0 : r.1 ≠ 0
  · rw [if_pos h0] at h; exact absurd h h0
  · rw [if_neg h0] at h ⊢
    by_cases h1 : (rM r).testBit j = true
    · rw [if_pos h1] at h
      have : 8 * (rT r).1 + 3 = 0 := h
      omega
    · rw [if_neg h1]
      exact ⟨by omega, by simpa using h1, rfl⟩
/-! the class's draft -/
def DXp (p : Pl) (d : Dl) (I : MI) : Prop := PX 4 p I ∧ (∀ i, i < 7 * pHc p → I 11 i = nI (d.1 i)) ∧ (∀ h, h < pHc p → I 12 h = d.2.1 h) ∧ ∀ k, k < pSc p → I 13 k = nI (d.2.2.1 k) ∧ I 14 k = nI (d.2.2.2 k)
def POk (p : Pl) (d : Dl) : Prop := PlOk p ∧ (∀ i, i < 7 * pHc p → d.1 i ≤ 9) ∧ ∀ k, k < pSc p → d.2.2.2 k = 0 ∧ d.2.2.1 k = 0 ∨ d.2.2.1 k < d.2.2.2 k ∧ d.2.2.2 k ≤ 1440
theorem DXp_of {p : Pl} {d : Dl} {I J : MI} (h : DXp p d I) (e : ∀ c, 4 ≤ c → c ≤ 14 → J c = I c) : DXp p d J := by
  obtain ⟨h1, h2, h3, h4⟩ := h
  refine ⟨PX_of h1 (fun i _ _ => e i (by omega) (by omega)), ?_, ?_, ?_⟩
  · rw [e 11 (by decide) (by decide)]; exact h2
  · rw [e 12 (by decide) (by decide)]; exact h3
  · rw [e 13 (by decide) (by decide), e 14 (by decide) (by decide)]; exact h4
def Cnt (I : MI) : Prop := ∃ sc hc, sc ≤ 18 ∧ hc ≤ 12 ∧ I 4 1 = nI sc ∧ I 4 2 = nI hc
theorem Cnt_of {I J : MI} (h : Cnt I) (e1 : J 4 1 = I 4 1) (e2 : J 4 2 = I 4 2) : Cnt J := by
  obtain ⟨sc, hc, h1, h2, h3, h4⟩ := h
  exact ⟨sc, hc, h1, h2, e1.trans h3, e2.trans h4⟩
def XS (n : Nat) (g : Nat → Int32) (r : Rs) (I : MI) : Prop := PTX n g r I ∧ (r.1 = 0 → DXp (rP r) (rD r) I ∧ POk (rP r) (rD r)) ∧ Cnt I
def FrP (I J : MI) : Prop := ∀ c, c = 2 ∨ c = 10 ∨ 15 ≤ c → J c = I c
theorem FrP.rf {I : MI} : FrP I I := fun _ _ => rfl
theorem FrP.tr {I J K : MI} (h : FrP I J) (h2 : FrP J K) : FrP I K := fun c hc => (h2 c hc).trans (h c hc)
theorem FrP_R {I J : MI} (h : FrR I J) : FrP I J := fun c hc => h c (by omega) (by omega)
theorem FrP_u {I J K : MI} {c k : Nat} {x : Int32} (h : FrP I J) (hc : c ≠ 2 ∧ c ≠ 10 ∧ c < 15) (e : K = up2 J c k x) : FrP I K := fun i hi => by
  rw [e, up2_cell _ _ _ (by omega)]; exact h i hi
theorem PTX_of {n : Nat} {g : Nat → Int32} {r : Rs} {I J : MI} (h : PTX n g r I) (e1 : J 1 = I 1) (e2 : J 2 = I 2) (e3 : J 3 = I 3) : PTX n g r J := by
  unfold PTX TxX TkX at *
  rw [e1, e2, e3]
  exact h
theorem PTX_u {n : Nat} {g : Nat → Int32} {r : Rs} {I J : MI} {c k : Nat} {x : Int32} (h : PTX n g r I) (hc : 4 ≤ c) (e : J = up2 I c k x) : PTX n g r J :=
  PTX_of h (by rw [e, up2_cell _ _ _ (by omega)]) (by rw [e, up2_cell _ _ _ (by omega)]) (by rw [e, up2_cell _ _ _ (by omega)])
section
variable {n : Nat} {g : Nat → Int32} {I : MI}
theorem xonce {r : Rs} {j : Nat} {a : Int32} {Q : MI → Prop} (hg : Gok n g) (hj : j < 4) (ha : a = nI (2 ^ j)) (h : PTX n g r I) (H : ∀ J, PTX n g (pone (fun j => cc (g j)) n j r) J → FrR I J → Q J) : Wv mX5_takeOnce [.ref 3, .int a] I Q := by
  subst ha
  have hn := hg.1
  -- the end: seen, and on
  have fin : ∀ (r1 : Rs) (J : MI), PTX n g r1 J → FrR I J → (r1.1 = 0 → r1 = r ∧ (rM r).testBit j = false) → (r1.1 ≠ 0 → r1 = pone (fun j => cc (g j)) n j r) → LX5_takeOnce_21 (nI (2 ^ j)) J Q := by
    intro r1 J hJ fJ h0 h1
    refine rX5_takeOnce_21 (fun K eK => ?_)
    have fK : FrR J K := fun c _ h3 => by rw [eK, up2_cell _ _ _ h3]
    by_cases hr : r1.1 = 0
    · obtain ⟨er, hb⟩ := h0 hr
      subst er
      obtain ⟨hT, hh⟩ := hJ
      have hh' : r1.1 = 0 ∧ sane (fun j => cc (g j)) n (rT r1) ∧ TkX (rT r1) J ∧ J 3 4 = 0 ∧ J 3 3 = nI (rM r1) := by
        rcases hh with q | q
        · exact q
        · exact absurd hr q.1
      obtain ⟨-, hs, ht, h4, h3⟩ := hh'
      rw [h3, b_orI] at eK
      have hK : PTX n g (0, rT r1, rM r1 ||| 2 ^ j, r1.2.2.2) K := by
        refine ⟨⟨by rw [eK, up2_cell _ _ _ (by decide)]; exact hT.1, fun i hi => by rw [eK, up2_cell _ _ _ (by decide)]; exact hT.2 i hi⟩, Or.inl ⟨rfl, hs, ?_, ?_, ?_⟩⟩
        · unfold TkX; rw [eK, up2_cell _ _ _ (by decide)]; exact ht
        · rw [eK, up2_slot _ _ (by decide)]; exact h4
        · rw [eK, up2_same]
      refine xadv hg hK (fun L hL fL => H L ?_ (fJ.tr (fK.tr fL)))
      unfold pone
      rw [if_neg (by omega), if_neg (by rw [hb]; decide)]
      exact hL
    · have e1 := h1 hr
      obtain ⟨hT, hh⟩ := hJ
      have hh' : r1.1 ≠ 0 ∧ r1.1 < 8000 ∧ J 3 4 = nI r1.1 ∧ ∃ t, sane (fun j => cc (g j)) n t ∧ TkX t J := by
        rcases hh with q | q
        · exact absurd q.1 hr
        · exact q
      obtain ⟨-, h8, h4, t, hs, ht⟩ := hh'
      have hK : PTX n g r1 K := by
        refine ⟨⟨by rw [eK, up2_cell _ _ _ (by decide)]; exact hT.1, fun i hi => by rw [eK, up2_cell _ _ _ (by decide)]; exact hT.2 i hi⟩, Or.inr ⟨hr, h8, ?_, t, hs, ?_⟩⟩
        · rw [eK, up2_slot _ _ (by decide)]; exact h4
        · unfold TkX; rw [eK, up2_cell _ _ _ (by decide)]; exact ht
      refine xadv hg hK (fun L hL fL => H L ?_ (fJ.tr (fK.tr fL)))
      rw [padv_e hr] at hL
      rw [← e1]; exact hL
  by_cases h0 : r.1 = 0
  · have hX := h
    obtain ⟨hT, hh⟩ := h
    have hh' : r.1 = 0 ∧ sane (fun j => cc (g j)) n (rT r) ∧ TkX (rT r) I ∧ I 3 4 = 0 ∧ I 3 3 = nI (rM r) := by
      rcases hh with q | q
      · exact q
      · exact absurd h0 q.1
    obtain ⟨-, hs, ht, h4, h3⟩ := hh'
    have hb := sane_b hs
    have iff0 : I 3 3 &&& nI (2 ^ j) = 0 ↔ (rM r).testBit j = false := by
      rw [h3, ← b_shl1 j (by omega)]
      exact b_test (by omega)
    refine rX5_takeOnce ?_
    rw [iff0]
    refine ⟨fun q => fin r I hX FrR.rf (fun _ => ⟨rfl, q⟩) (fun z => absurd h0 z), fun q => ?_⟩
    have hp : pone (fun j => cc (g j)) n j r = (8 * (rT r).1 + 3, r.2) := by unfold pone; rw [if_neg (by omega), if_pos (by simpa using q)]
    refine xfail (off := (rT r).1) (k := 3) hX (fun _ => ht.1) (by omega) (by decide) (fun J tJ fJ => ?_)
    unfold perr at tJ
    rw [if_pos h0] at tJ
    exact fin _ J tJ fJ (fun z => absurd z (by show ¬ 8 * (rT r).1 + 3 = 0; omega)) (fun _ => hp.symm)
  · have hp : pone (fun j => cc (g j)) n j r = r := pone_e h0
    refine rX5_takeOnce ⟨fun _ => fin r I h FrR.rf (fun z => absurd z h0) (fun _ => hp.symm), fun _ => ?_⟩
    refine xfail (off := 0) (k := 3) h (fun z => absurd z h0) (by decide) (by decide) (fun J tJ fJ => ?_)
    unfold perr at tJ
    rw [if_neg h0] at tJ
    exact fin r J tJ fJ (fun z => absurd z h0) (fun _ => hp.symm)
theorem xsemi {r : Rs} {Q : MI → Prop} (hg : Gok n g) (h : PTX n g r I) (H : ∀ J, PTX n g (psemi (fun j => cc (g j)) n r) J → FrR I J → Q J) : Wv mX5_readSemicolon [.ref 3] I Q := by
  have hn := hg.1
  by_cases h0 : r.1 = 0
  · have hX := h
    obtain ⟨hT, hh⟩ := h
    have hh' : r.1 = 0 ∧ sane (fun j => cc (g j)) n (rT r) ∧ TkX (rT r) I ∧ I 3 4 = 0 ∧ I 3 3 = nI (rM r) := by
      rcases hh with q | q
      · exact q
      · exact absurd h0 q.1
    obtain ⟨-, hs, ht, h4, h3⟩ := hh'
    have hb := sane_b hs
    refine rX5_readSemicolon ?_
    rw [ht.2.2, show (3 : Int32) = nI 3 from rfl, ieq (by omega) (by decide)]
    refine ⟨fun q => rX5_readSemicolon_23 (xadv hg hX (fun J tJ fJ => H J ?_ fJ)), fun q => ?_⟩
    · unfold psemi
      rw [if_neg (by omega), if_neg (by omega)]
      unfold padv at tJ
      rw [if_pos h0] at tJ
      exact tJ
    · refine xfail (off := (rT r).1) (k := 1) hX (fun _ => ht.1) (by omega) (by decide) (fun J tJ fJ => rX5_readSemicolon_23 (xadv hg tJ (fun K tK fK => H K ?_ (fJ.tr fK))))
      unfold psemi
      rw [if_neg (by omega), if_pos q]
      unfold perr at tK
      rw [if_pos h0, padv_e (by show 8 * (rT r).1 + 1 ≠ 0; omega)] at tK
      exact tK
  · have hp : psemi (fun j => cc (g j)) n r = r := by unfold psemi; rw [if_pos h0]
    rw [hp] at H
    have ad : ∀ J, PTX n g r J → FrR I J → LX5_readSemicolon_23 J Q := fun J hJ fJ => rX5_readSemicolon_23 (xadv hg hJ (fun K tK fK => by
      rw [padv_e h0] at tK
      exact H K tK (fJ.tr fK)))
    refine rX5_readSemicolon ⟨fun _ => ad I h FrR.rf, fun _ => xfail (off := 0) (k := 1) h (fun z => absurd z h0) (by decide) (by decide) (fun J tJ fJ => ?_)⟩
    unfold perr at tJ
    rw [if_neg h0] at tJ
    exact ad J tJ fJ
/-- a number into a field of the plan -/
theorem xfield {r : Rs} {lo hi k : Nat} {a b : Int32} {f : Nat → Zs → Zs} {p : Pl} {d : Dl} {Q : MI → Prop} (hg : Gok n g) (h : PTX n g r I) (hc : Cnt I) (hd : r.1 = 0 → r.2.2.2 = (p, d) ∧ DXp p d I ∧ POk p d) (ha : a = nI lo) (hb : b = nI hi) (hlo : lo < 100000) (hhi : hi < 100000) (hk : k ≠ 1 ∧ k ≠ 2)
    (hf : ∀ v z, (f v z).1 = z.1 ∧ (f v z).2.1 = z.2.1)
    (hw : r.1 = 0 → ∀ v J z, z.2.2 = (p, d) → lo ≤ v → v ≤ hi → DXp p d J → DXp (f v z).2.2.1 (f v z).2.2.2 (up2 J 4 k (nI v)) ∧ (POk p d → POk (f v z).2.2.1 (f v z).2.2.2))
    (H : ∀ J, XS n g (pset (fun j => cc (g j)) n lo hi f r) J → FrP I J → Q J) : Wi mX5_readNumber [.ref 3, .int a, .int b] I (fun v J => ∀ K, K = up2 J 4 k v → Q K) := by
  subst ha; subst hb
  refine xrn hg h (fun _ => ⟨rfl, rfl, hlo, hhi⟩) (fun J v tJ fJ hv K eK => H K ?_ (FrP_u (FrP_R fJ) (by decide) eK))
  have tK := PTX_u tJ (by decide) eK
  have cK : Cnt K := Cnt_of hc (by rw [eK, up2_slot _ _ (by omega), fJ 4 (by decide) (by decide)]) (by rw [eK, up2_slot _ _ (by omega), fJ 4 (by decide) (by decide)])
  unfold pset
  by_cases h0 : (pnum (fun j => cc (g j)) n lo hi r).1 = 0
  · rw [if_pos h0]
    obtain ⟨p0, p1, p2, p3, p4⟩ := pnum_0 h0
    obtain ⟨d1, d2, d3⟩ := hd p0
    have ev := hv h0
    have z22 : (pnum (fun j => cc (g j)) n lo hi r).2.2.2 = (p, d) := by rw [p4]; exact d1
    have dJ : DXp p d J := DXp_of d2 (fun c h1 h2 => fJ c (by omega) (by omega))
    have := hw p0 (pval (fun j => cc (g j)) r) J (pnum (fun j => cc (g j)) n lo hi r).2 z22 p2 p3 dJ
    rw [← ev, ← eK] at this
    refine ⟨?_, fun _ => ⟨this.1, this.2 d3⟩, cK⟩
    obtain ⟨f1, f2⟩ := hf (pval (fun j => cc (g j)) r) (pnum (fun j => cc (g j)) n lo hi r).2
    obtain ⟨hT, hh⟩ := tK
    refine ⟨hT, Or.inl ?_⟩
    rcases hh with q | q
    · obtain ⟨q1, q2, q3, q4, q5⟩ := q
      refine ⟨rfl, ?_, ?_, q4, ?_⟩
      · show sane (fun j => cc (g j)) n (f (pval (fun j => cc (g j)) r) (pnum (fun j => cc (g j)) n lo hi r).2).1
        rw [f1]; exact q2
      · show TkX (f (pval (fun j => cc (g j)) r) (pnum (fun j => cc (g j)) n lo hi r).2).1 K
        rw [f1]; exact q3
      · show K 3 3 = nI (f (pval (fun j => cc (g j)) r) (pnum (fun j => cc (g j)) n lo hi r).2).2.1
        rw [f2]; exact q5
    · exact absurd h0 q.1
  · rw [if_neg h0]
    exact ⟨tK, fun z => absurd z h0, cK⟩
end
