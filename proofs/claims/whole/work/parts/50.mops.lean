/-! the reference reads -/
abbrev kQ : List Nat := [4, 5, 6, 7, 8, 9, 21]
section
variable (n : Nat) (g : Nat → Int32)
def PTM (r : Rs) (I : MI) : Prop := TxM n g I ∧ ((r.1 = 0 ∧ sane (fun j => cc (g j)) n (rT r) ∧ TkM (fun j => cc (g j)) (rT r) I ∧ I 261 8 = 0 ∧ I 261 21 = nI (rM r)) ∨ (r.1 ≠ 0 ∧ ∃ off k, I 261 8 = nI k ∧ I 261 9 = nI off ∧ r.1 = 8 * off + k ∧ 1 ≤ k ∧ k ≤ 4 ∧ off ≤ 900))
end
section
variable {n : Nat} {g : Nat → Int32} {I : MI}
theorem PTM_0 {r : Rs} (h0 : r.1 = 0) (h : PTM n g r I) : TxM n g I ∧ sane (fun j => cc (g j)) n (rT r) ∧ TkM (fun j => cc (g j)) (rT r) I ∧ I 261 8 = 0 ∧ I 261 21 = nI (rM r) := by
  obtain ⟨hT, hh⟩ := h
  rcases hh with q | q
  · exact ⟨hT, q.2⟩
  · exact absurd h0 q.1
theorem PTM_e {r : Rs} (h0 : r.1 ≠ 0) (h : PTM n g r I) : ¬ I 261 8 = 0 := by
  obtain ⟨hT, hh⟩ := h
  rcases hh with q | ⟨-, off, k, e1, -, -, e4, e5, -⟩
  · exact absurd q.1 h0
  · rw [e1, nI_zero, ieq (by omega) (by decide)]; omega
theorem PTM_z {r : Rs} (h : PTM n g r I) : I 261 8 = 0 ↔ r.1 = 0 := by
  constructor
  · intro q
    by_cases h0 : r.1 = 0
    · exact h0
    · exact absurd q (PTM_e h0 h)
  · intro q; exact (PTM_0 q h).2.2.2.1
theorem PTM_of {r : Rs} {J : MI} {cs : List Nat} (h : PTM n g r I) (s : SamM cs [] I J) (hc : 262 ∉ cs) : PTM n g r J := by
  have e262 := s.1 262 (by decide) hc
  have e : ∀ k, J 261 k = I 261 k := fun k => s.2 k (by simp)
  unfold PTM TxM TkM at *
  rw [e262]
  simp only [e]
  exact h
theorem PTM_u {r : Rs} {J : MI} {c k : Nat} {x : Int32} (h : PTM n g r I) (hc : 263 ≤ c) (e : J = up2 I c k x) : PTM n g r J :=
  PTM_of (cs := [c]) h (by rw [e]; exact SamM.rf.u2 (by simp) (by omega)) (by simp; omega)
theorem PTM_m {r r2 : Rs} (h : PTM n g r I) (h0 : r2.1 = r.1) (h1 : rT r2 = rT r) (h2 : rM r2 = rM r) : PTM n g r2 I := by
  unfold PTM at *
  rw [h0, h1, h2]
  exact h
theorem mmust {r : Rs} {k : Nat} {a : Int32} {Q : Int32 → MI → Prop} (hg : Gok n g) (h : PTM n g r I) (hk : 1 ≤ k ∧ k ≤ 4) (H1 : a ≠ 0 → Q (bI (decide (r.1 = 0))) I) (H0 : a = 0 → ∀ J, PTM n g (perr (rT r).1 k r) J → SamM [] kQ I J → Q 0 J) : Wi mX12_must [.ref 261, .int a, .int (nI k)] I Q := by
  have hn := hg.1
  by_cases h0 : r.1 = 0
  · obtain ⟨hT, hs, ht, h8, h21⟩ := PTM_0 h0 h
    have hb := sane_b hs
    refine rX12_must ⟨fun q => absurd h8 q, fun _ => ⟨fun q => rX12_must_24 ⟨fun z => absurd h8 z, fun _ => ?_⟩, fun q J1 e1 J2 e2 => rX12_must_24 ⟨fun _ => H0 q J2 ?_ ?_, fun z => ?_⟩⟩⟩
    · have := H1 q; rw [decide_eq_true h0] at this; exact this
    · have s : SamM [] [8, 9] I J2 := by rw [e2, e1]; exact (SamM.rf.fk (by simp)).fk (by simp)
      refine ⟨TxM_sam hT s (by simp) (by simp), Or.inr ?_⟩
      unfold perr
      rw [if_pos h0]
      have e14 : J1 261 4 = nI (rT r).1 := by rw [e1, up2_slot _ _ (by decide)]; exact ht.1
      refine ⟨by show 8 * (rT r).1 + k ≠ 0; omega, (rT r).1, k, ?_, ?_, rfl, hk.1, hk.2, by omega⟩
      · rw [e2, up2_slot _ _ (by decide), e1, up2_same]
      · rw [e2, up2_same]; exact e14
    · rw [e2, e1]; exact (SamM.rf.fk (by simp)).fk (by simp)
    · rw [e2, up2_slot _ _ (by decide), e1, up2_same, nI_zero, ieq (by omega) (by decide)] at z; omega
  · have h8 := PTM_e h0 h
    refine rX12_must ⟨fun _ => rX12_must_24 ⟨fun _ => ?_, fun z => absurd z h8⟩, fun q => absurd q h8⟩
    by_cases ha : a = 0
    · refine H0 ha I ?_ SamM.rf
      unfold perr
      rw [if_neg h0]; exact h
    · have := H1 ha; rw [decide_eq_false h0] at this; exact this
theorem mnext {r : Rs} {Q : MI → Prop} (hg : Gok n g) (h0 : r.1 = 0) (h : PTM n g r I) (H : ∀ J, PTM n g (padv (fun j => cc (g j)) n r) J → SamM [] kQ I J → Q J) : Wv mX12_nextToken [.ref 261] I Q := by
  obtain ⟨hT, hs, ht, h8, h21⟩ := PTM_0 h0 h
  have hb := sane_b hs
  refine sM_next hg hT hb.2.1 ht.2.1 (fun J tJ s => H J ⟨TxM_sam hT s (by simp) (by simp), Or.inl ?_⟩ (s.mo (by simp) (by simp)))
  unfold padv
  rw [if_pos h0]
  exact ⟨rfl, sane_next hs, tJ, by rw [s.2 8 (by simp)]; exact h8, by rw [s.2 21 (by simp)]; exact h21⟩
theorem tkI_2 {k : Nat} (h : k ≤ 4) : (nI (tkI k) = (2 : Int32) ↔ k = 2) ∧ (nI (tkI k) = (0 : Int32) ↔ k = 0) ∧ (nI (tkI k) = (59 : Int32) ↔ k = 3) ∧ (nI (tkI k) = (1 : Int32) ↔ k = 1) := by
  have : k = 0 ∨ k = 1 ∨ k = 2 ∨ k = 3 ∨ k = 4 := by omega
  rcases this with e | e | e | e | e <;> subst e <;> decide
theorem mnum {r : Rs} {lo hi : Nat} {Q : Int32 → MI → Prop} (hg : Gok n g) (h0 : r.1 = 0) (h : PTM n g r I) (hlo : lo < 100000) (hhi : hi < 100000) (H : ∀ J v, PTM n g (pnum (fun j => cc (g j)) n lo hi r) J → SamM [] kQ I J → ((pnum (fun j => cc (g j)) n lo hi r).1 = 0 → v = nI (pval (fun j => cc (g j)) r)) → Q v J) : Wi mX12_number [.ref 261, .int (nI lo), .int (nI hi)] I Q := by
  have hn := hg.1
  obtain ⟨hT, hs, ht, h8, h21⟩ := PTM_0 h0 h
  have hb := sane_b hs
  have t2 := tkI_2 hb.2.2.1
  -- an error of kind k
  have er : ∀ k : Nat, pnum (fun j => cc (g j)) n lo hi r = (8 * (rT r).1 + k, r.2) → 1 ≤ k → ∀ J, PTM n g (perr (rT r).1 k r) J → SamM [] kQ I J → Q 0 J := by
    intro k hp hk J tJ sJ
    unfold perr at tJ
    rw [if_pos h0] at tJ
    exact H J 0 (by rw [hp]; exact tJ) sJ (fun y => by rw [hp] at y; exact absurd y (by show ¬ 8 * (rT r).1 + k = 0; omega))
  refine rX12_number ⟨fun q => rX12_number_14 ?_, fun q => rX12_number_14 ?_⟩
  · have hk : (rT r).2.2 ≠ 2 := fun z => q (by rw [ht.2.2.1, t2.1]; exact z)
    have hp : pnum (fun j => cc (g j)) n lo hi r = (8 * (rT r).1 + 1, r.2) := by unfold pnum; rw [if_neg (by omega), if_pos hk]
    exact mmust (k := 1) hg h (by decide) (fun z => absurd rfl z) (fun _ J tJ sJ => ⟨fun _ => er 1 hp (by decide) J tJ sJ, fun z => absurd rfl z⟩)
  · have hk : (rT r).2.2 = 2 := by rw [ht.2.2.1, t2.1] at q; exact q
    have hv := vl_4 hg hs hk
    have hpv : pval (fun j => cc (g j)) r = vl (fun j => cc (g j)) (rT r).1 ((rT r).2.1 - (rT r).1) := rfl
    have e7 : I 261 7 = nI (pval (fun j => cc (g j)) r) := ht.2.2.2 hk
    rw [← hpv] at hv
    refine mmust (k := 1) hg h (by decide) (fun _ => ?_) (fun z => absurd z (by decide))
    rw [decide_eq_true h0]
    refine ⟨fun z => absurd z (by decide), fun _ => ?_⟩
    rw [e7]
    refine sM_rng (by omega) (by omega) (by omega) (fun z => ?_) (fun z => ?_)
    · refine mmust (k := 2) hg h (by decide) (fun _ => ?_) (fun y => absurd y (by decide))
      rw [decide_eq_true h0]
      have hp : pnum (fun j => cc (g j)) n lo hi r = padv (fun j => cc (g j)) n r := by unfold pnum padv; rw [if_neg (by omega), if_neg (by omega), if_neg (by omega), if_pos h0]
      refine ⟨fun _ => mnext hg h0 h (fun J tJ sJ => H J _ (by rw [hp]; exact tJ) sJ (fun _ => e7)), fun y => absurd y (by decide)⟩
    · have hp : pnum (fun j => cc (g j)) n lo hi r = (8 * (rT r).1 + 2, r.2) := by unfold pnum; rw [if_neg (by omega), if_neg (by omega), if_pos (by omega)]
      exact mmust (k := 2) hg h (by decide) (fun y => absurd rfl y) (fun _ J tJ sJ => ⟨fun y => absurd rfl y, fun _ => er 2 hp (by decide) J tJ sJ⟩)
theorem mis {r : Rs} {j : Nat} {Q : Int32 → MI → Prop} (hg : Gok n g) (hj : j < 7) (h0 : r.1 = 0) (h : PTM n g r I) (H : Q (bI (isW (fun j => cc (g j)) (rT r) j)) I) : Wi mX12_is [.ref 261, .retAddr (2 * j + 1)] I Q := by
  have hn := hg.1
  have hl := len_ok j hj
  obtain ⟨hT, hs, ht, h8, h21⟩ := PTM_0 h0 h
  obtain ⟨b1, b2, b3, b4, b5⟩ := sane_b hs
  have t2 := tkI_2 b3
  unfold isW at H
  generalize rT r = t at *
  refine rX12_is hj ⟨fun q => absurd h8 q, fun _ => ⟨fun q => ?_, fun q => sJ_length hj ⟨fun z => ?_, fun z => ?_⟩⟩⟩
  · have hk : ¬ t.2.2 = 1 := fun z => q (by rw [ht.2.2.1, t2.2.2.2]; exact z)
    rw [decide_eq_false hk] at H
    exact H
  · have hk : t.2.2 = 1 := by rw [ht.2.2.1, t2.2.2.2] at q; exact q
    rw [ht.1, ht.2.1, pk_sub b1] at z
    have z' : t.2.1 - t.1 = strLen.getD j 0 := by
      have : nI (t.2.1 - t.1) = nI (strLen.getD j 0) := z
      rw [ieq (by omega) (by omega)] at this
      exact this
    rw [decide_eq_true hk, decide_eq_true z'] at H
    have go : ∀ (m i : Nat), m + i = strLen.getD j 0 → wm (fun j => cc (g j)) t.1 j i = true → LX12_is_35 j (nI i) I Q := by
      intro m
      induction m with
      | zero =>
        intro i hm hw
        have : i = strLen.getD j 0 := by omega
        subst this
        rw [hw] at H
        refine rX12_is_35 hj (sJ_length hj ⟨fun _ => H, fun y => absurd ?_ y⟩)
        show nI (strLen.getD j 0) ≤ nI (strLen.getD j 0)
        rw [ile (by omega) (by omega)]
        omega
      | succ m ih =>
        intro i hm hw
        refine rX12_is_35 hj (sJ_length hj ⟨fun y => ?_, fun _ => ?_⟩)
        · have y' : nI (strLen.getD j 0) ≤ nI i := y
          rw [ile (by omega) (by omega)] at y'
          omega
        · rw [ht.1, nI_add]
          refine sM_byte hg hT (by omega) (fun y0 => sJ_charAt hj (ci (by omega) (by omega)) ?_) (fun y0 => by omega)
          obtain ⟨c1, c2⟩ := ch_ok j hj i (by omega)
          have h256 := (cc_ok (hg.2 _ y0)).2.1
          rw [cl (by omega), c1, ieq (by omega) (by omega), nI_s]
          refine ⟨fun y => ih (i + 1) (by omega) (by simp only [wm, Bool.and_eq_true, decide_eq_true_eq]; exact ⟨hw, y⟩), fun y => ?_⟩
          have hf : ∀ k, i + 1 ≤ k → wm (fun j => cc (g j)) t.1 j k = false := by
            intro k
            induction k with
            | zero => intro hk; omega
            | succ k ihk =>
              intro hk
              by_cases ek : k = i
              · subst ek; simp only [wm, hw, decide_eq_false y]; rfl
              · simp only [wm, ihk (by omega)]; rfl
          rw [hf (strLen.getD j 0) (by omega)] at H
          exact H
    exact go (strLen.getD j 0) 0 (by omega) rfl
  · have hk : t.2.2 = 1 := by rw [ht.2.2.1, t2.2.2.2] at q; exact q
    rw [ht.1, ht.2.1, pk_sub b1] at z
    have z' : ¬ t.2.1 - t.1 = strLen.getD j 0 := fun y => z (by rw [y]; rfl)
    rw [decide_eq_true hk, decide_eq_false z'] at H
    exact H
theorem monce {r : Rs} {j : Nat} {Q : MI → Prop} (hg : Gok n g) (hj : j < 4) (hm : rM r < 2147483648) (h : PTM n g r I) (H : ∀ J, PTM n g (pone (fun j => cc (g j)) n j r) J → SamM [] kQ I J → Q J) : Wv mX12_once [.ref 261, .int (nI j)] I Q := by
  have fin : ∀ (r1 : Rs) (J : MI) (y : Int32), PTM n g r1 J → SamM [] kQ I J → (r1.1 = 0 → r1 = r ∧ (rM r).testBit j = false) → (r1.1 ≠ 0 → r1 = pone (fun j => cc (g j)) n j r) → (∀ I3 : MI, I3 = up2 J 261 21 ((J 261 21) ||| ((1 : Int32) <<< (nI j &&& 31))) → (¬ (I3 261 8) = 0 → (Q I3)) ∧ ((I3 261 8) = 0 → (Wv mX12_nextToken [.ref 261] I3 (fun I4 => (Q I4))))) := by
    intro r1 J _ hJ sJ h0 h1 K eK
    have sK : SamM [] kQ J K := by rw [eK]; exact SamM.rf.fk (by simp)
    have k8 : K 261 8 = J 261 8 := by rw [eK, up2_slot _ _ (by decide)]
    by_cases hr : r1.1 = 0
    · obtain ⟨er, hb⟩ := h0 hr
      subst er
      obtain ⟨hT, hs, ht, h8, h21⟩ := PTM_0 hr hJ
      rw [h21, b_or1 (by omega)] at eK
      have hK : PTM n g (0, rT r1, rM r1 ||| 2 ^ j, r1.2.2.2) K := by
        refine ⟨TxM_sam hT sK (by simp) (by simp), Or.inl ⟨rfl, hs, ?_, by rw [k8]; exact h8, by rw [eK, up2_same]⟩⟩
        unfold TkM
        rw [eK, up2_slot _ _ (by decide), up2_slot _ _ (by decide), up2_slot _ _ (by decide), up2_slot _ _ (by decide)]
        exact ht
      refine ⟨fun z => absurd (by rw [k8]; exact h8) z, fun _ => mnext hg rfl hK (fun L tL sL => H L ?_ (sJ.tr (sK.tr sL)))⟩
      unfold pone
      rw [if_neg (by omega), if_neg (by rw [hb]; decide)]
      exact tL
    · have e1 := h1 hr
      have h8 := PTM_e hr hJ
      refine ⟨fun _ => H K ?_ (sJ.tr sK), fun z => absurd (by rw [← k8]; exact z) h8⟩
      rw [← e1]
      obtain ⟨hT, hh⟩ := hJ
      refine ⟨TxM_sam hT sK (by simp) (by simp), Or.inr ?_⟩
      rcases hh with q | ⟨q, off, k, a1, a2, a3⟩
      · exact absurd q.1 hr
      · exact ⟨q, off, k, by rw [k8]; exact a1, by rw [eK, up2_slot _ _ (by decide)]; exact a2, a3⟩
  by_cases h0 : r.1 = 0
  · obtain ⟨hT, hs, ht, h8, h21⟩ := PTM_0 h0 h
    refine rX12_once ?_
    rw [h21]
    refine ⟨fun q => rX12_once_17 ?_, fun q => rX12_once_17 ?_⟩
    · have hb := ne_sh hm (by omega) q
      have hp : pone (fun j => cc (g j)) n j r = perr (rT r).1 3 r := by unfold pone perr; rw [if_neg (by omega), if_pos hb, if_pos h0]
      refine mmust (k := 3) hg h (by decide) (fun z => absurd rfl z) (fun _ J tJ sJ => fin _ J 0 tJ sJ (fun z => ?_) (fun _ => hp.symm))
      unfold perr at z; rw [if_pos h0] at z; exact absurd z (by show ¬ 8 * (rT r).1 + 3 = 0; omega)
    · have hb := eq_sh hm (by omega) q
      exact mmust (k := 3) hg h (by decide) (fun _ => fin r I 0 h SamM.rf (fun _ => ⟨rfl, hb⟩) (fun z => absurd h0 z)) (fun z => absurd z (by decide))
  · have hp := pone_e (c := fun j => cc (g j)) (n := n) (j := j) h0
    have all : ∀ t, LX12_once_17 (nI j) t I Q := fun t => rX12_once_17 (mmust (k := 3) hg h (by decide) (fun _ => fin r I 0 h SamM.rf (fun z => absurd z h0) (fun _ => hp.symm)) (fun _ J tJ sJ => by
      unfold perr at tJ
      rw [if_neg h0] at tJ
      exact fin r J 0 tJ sJ (fun z => absurd z h0) (fun _ => hp.symm)))
    exact rX12_once ⟨fun _ => all 0, fun _ => all 1⟩
/-! the reference's draft -/
def DMp (p : Pl) (d : Dl) (I : MI) : Prop := I 264 0 = nI (pNc p) ∧ I 264 1 = nI (pCap p) ∧ I 264 2 = nI (pSt p) ∧ I 264 3 = pPr p ∧ I 264 4 = pDe p ∧ I 264 5 = nI (pSc p) ∧ I 264 6 = nI (pHc p) ∧ (∀ k, k < pSc p → I 265 (18 + k) = nI (pA p k) ∧ I 266 (18 + k) = nI (pB p k) ∧ I 267 (18 + k) = nI (pL p k) ∧ (d.2.2.2 k = 0 → I 268 (18 + k) = -1) ∧ (d.2.2.2 k ≠ 0 → I 268 (18 + k) = nI (d.2.2.1 k) ∧ I 269 (18 + k) = nI (d.2.2.2 k))) ∧ (∀ h, h < pHc p → I 270 (12 + h) = nI (pHn p h) ∧ I 271 (12 + h) = nI (pHw p h) ∧ I 272 (12 + h) = d.2.1 h) ∧ ∀ i, i < 7 * pHc p → I 273 (84 + i) = nI (d.1 i)
abbrev cD : List Nat := [264, 265, 266, 267, 268, 269, 270, 271, 272, 273]
/-- the first halves stay -/
def half (c k : Nat) : Prop := (265 ≤ c ∧ c ≤ 269 ∧ k < 18) ∨ (270 ≤ c ∧ c ≤ 272 ∧ k < 12) ∨ (c = 273 ∧ k < 84)
def FM (I J : MI) : Prop := SamM cD kQ I J ∧ ∀ c k, half c k → J c k = I c k
theorem FM.rf {I : MI} : FM I I := ⟨SamM.rf, fun _ _ _ => rfl⟩
theorem FM.tr {I J K : MI} (h : FM I J) (h2 : FM J K) : FM I K := ⟨h.1.tr h2.1, fun c k q => (h2.2 c k q).trans (h.2 c k q)⟩
theorem FM_o {I J : MI} (s : SamM [] kQ I J) : FM I J := ⟨s.mo (by simp) (by simp), fun c k q => by rw [s.1 c (by unfold half at q; omega) (by simp)]⟩
theorem FM_u {I J : MI} {c k : Nat} {x : Int32} (hc : c ∈ cD) (hk : ¬ half c k) (e : J = up2 I c k x) : FM I J := by
  refine ⟨by rw [e]; exact SamM.rf.u2 hc (by intro q; rw [q] at hc; revert hc; decide), fun c' k' q => ?_⟩
  rw [e, up2_ap]
  split
  · rename_i h1
    split
    · rename_i h2; subst h1; subst h2; exact absurd q hk
    · rfl
  · rfl
theorem DMp_of {p : Pl} {d : Dl} {J : MI} (h : DMp p d I) (e : ∀ c, 264 ≤ c → c ≤ 273 → J c = I c) : DMp p d J := by
  unfold DMp
  rw [e 264 (by decide) (by decide), e 265 (by decide) (by decide), e 266 (by decide) (by decide), e 267 (by decide) (by decide), e 268 (by decide) (by decide), e 269 (by decide) (by decide), e 270 (by decide) (by decide), e 271 (by decide) (by decide), e 272 (by decide) (by decide), e 273 (by decide) (by decide)]
  exact h
def MS (n : Nat) (g : Nat → Int32) (r : Rs) (I : MI) : Prop := PTM n g r I ∧ (r.1 = 0 → DMp (rP r) (rD r) I)
theorem SO_c {J : MI} (s : SamM [] kQ I J) : ∀ c, c ≠ 261 → J c = I c := fun c hc => s.1 c hc (by simp)
end
