/-! the reference's statements -/
section
variable {n : Nat} {g : Nat → Int32} {I : MI}
theorem vMNc {p : Pl} {d : Dl} (v : Nat) (J : MI) (z : Zs) (hz : z.2.2 = (p, d)) (hd : DMp p d J) : DMp (sNc v z).2.2.1 (sNc v z).2.2.2 (up2 J 264 0 (nI v)) := by
  obtain ⟨z1, z2, z3, z4⟩ := z
  cases hz
  obtain ⟨a0, a1, a2, a3, a4, a5, a6, a7, a8, a9⟩ := hd
  refine ⟨?_, ?_, ?_, ?_, ?_, ?_, ?_, ?_, ?_, ?_⟩
  · rw [up2_same]; rfl
  · rw [up2_slot _ _ (by decide)]; exact a1
  · rw [up2_slot _ _ (by decide)]; exact a2
  · rw [up2_slot _ _ (by decide)]; exact a3
  · rw [up2_slot _ _ (by decide)]; exact a4
  · rw [up2_slot _ _ (by decide)]; exact a5
  · rw [up2_slot _ _ (by decide)]; exact a6
  · rw [up2_cell _ _ _ (by decide), up2_cell _ _ _ (by decide), up2_cell _ _ _ (by decide), up2_cell _ _ _ (by decide), up2_cell _ _ _ (by decide)]; exact a7
  · rw [up2_cell _ _ _ (by decide), up2_cell _ _ _ (by decide), up2_cell _ _ _ (by decide)]; exact a8
  · rw [up2_cell _ _ _ (by decide)]; exact a9
theorem vMCap {p : Pl} {d : Dl} (v : Nat) (J : MI) (z : Zs) (hz : z.2.2 = (p, d)) (hd : DMp p d J) : DMp (sCap v z).2.2.1 (sCap v z).2.2.2 (up2 J 264 1 (nI v)) := by
  obtain ⟨z1, z2, z3, z4⟩ := z
  cases hz
  obtain ⟨a0, a1, a2, a3, a4, a5, a6, a7, a8, a9⟩ := hd
  refine ⟨?_, ?_, ?_, ?_, ?_, ?_, ?_, ?_, ?_, ?_⟩
  · rw [up2_slot _ _ (by decide)]; exact a0
  · rw [up2_same]; rfl
  · rw [up2_slot _ _ (by decide)]; exact a2
  · rw [up2_slot _ _ (by decide)]; exact a3
  · rw [up2_slot _ _ (by decide)]; exact a4
  · rw [up2_slot _ _ (by decide)]; exact a5
  · rw [up2_slot _ _ (by decide)]; exact a6
  · rw [up2_cell _ _ _ (by decide), up2_cell _ _ _ (by decide), up2_cell _ _ _ (by decide), up2_cell _ _ _ (by decide), up2_cell _ _ _ (by decide)]; exact a7
  · rw [up2_cell _ _ _ (by decide), up2_cell _ _ _ (by decide), up2_cell _ _ _ (by decide)]; exact a8
  · rw [up2_cell _ _ _ (by decide)]; exact a9
theorem vMSt {p : Pl} {d : Dl} (v : Nat) (J : MI) (z : Zs) (hz : z.2.2 = (p, d)) (hd : DMp p d J) : DMp (sSt v z).2.2.1 (sSt v z).2.2.2 (up2 J 264 2 (nI v)) := by
  obtain ⟨z1, z2, z3, z4⟩ := z
  cases hz
  obtain ⟨a0, a1, a2, a3, a4, a5, a6, a7, a8, a9⟩ := hd
  refine ⟨?_, ?_, ?_, ?_, ?_, ?_, ?_, ?_, ?_, ?_⟩
  · rw [up2_slot _ _ (by decide)]; exact a0
  · rw [up2_slot _ _ (by decide)]; exact a1
  · rw [up2_same]; rfl
  · rw [up2_slot _ _ (by decide)]; exact a3
  · rw [up2_slot _ _ (by decide)]; exact a4
  · rw [up2_slot _ _ (by decide)]; exact a5
  · rw [up2_slot _ _ (by decide)]; exact a6
  · rw [up2_cell _ _ _ (by decide), up2_cell _ _ _ (by decide), up2_cell _ _ _ (by decide), up2_cell _ _ _ (by decide), up2_cell _ _ _ (by decide)]; exact a7
  · rw [up2_cell _ _ _ (by decide), up2_cell _ _ _ (by decide), up2_cell _ _ _ (by decide)]; exact a8
  · rw [up2_cell _ _ _ (by decide)]; exact a9
theorem vMPr {p : Pl} {d : Dl} (v : Nat) (J : MI) (z : Zs) (hz : z.2.2 = (p, d)) (hd : DMp p d J) : DMp (sPr v z).2.2.1 (sPr v z).2.2.2 (up2 J 264 3 (nI v)) := by
  obtain ⟨z1, z2, z3, z4⟩ := z
  cases hz
  obtain ⟨a0, a1, a2, a3, a4, a5, a6, a7, a8, a9⟩ := hd
  refine ⟨?_, ?_, ?_, ?_, ?_, ?_, ?_, ?_, ?_, ?_⟩
  · rw [up2_slot _ _ (by decide)]; exact a0
  · rw [up2_slot _ _ (by decide)]; exact a1
  · rw [up2_slot _ _ (by decide)]; exact a2
  · rw [up2_same]; rfl
  · rw [up2_slot _ _ (by decide)]; exact a4
  · rw [up2_slot _ _ (by decide)]; exact a5
  · rw [up2_slot _ _ (by decide)]; exact a6
  · rw [up2_cell _ _ _ (by decide), up2_cell _ _ _ (by decide), up2_cell _ _ _ (by decide), up2_cell _ _ _ (by decide), up2_cell _ _ _ (by decide)]; exact a7
  · rw [up2_cell _ _ _ (by decide), up2_cell _ _ _ (by decide), up2_cell _ _ _ (by decide)]; exact a8
  · rw [up2_cell _ _ _ (by decide)]; exact a9
theorem vMDe {p : Pl} {d : Dl} (v : Nat) (J : MI) (z : Zs) (hz : z.2.2 = (p, d)) (hd : DMp p d J) : DMp (sDe v z).2.2.1 (sDe v z).2.2.2 (up2 J 264 4 (nI v)) := by
  obtain ⟨z1, z2, z3, z4⟩ := z
  cases hz
  obtain ⟨a0, a1, a2, a3, a4, a5, a6, a7, a8, a9⟩ := hd
  refine ⟨?_, ?_, ?_, ?_, ?_, ?_, ?_, ?_, ?_, ?_⟩
  · rw [up2_slot _ _ (by decide)]; exact a0
  · rw [up2_slot _ _ (by decide)]; exact a1
  · rw [up2_slot _ _ (by decide)]; exact a2
  · rw [up2_slot _ _ (by decide)]; exact a3
  · rw [up2_same]; rfl
  · rw [up2_slot _ _ (by decide)]; exact a5
  · rw [up2_slot _ _ (by decide)]; exact a6
  · rw [up2_cell _ _ _ (by decide), up2_cell _ _ _ (by decide), up2_cell _ _ _ (by decide), up2_cell _ _ _ (by decide), up2_cell _ _ _ (by decide)]; exact a7
  · rw [up2_cell _ _ _ (by decide), up2_cell _ _ _ (by decide), up2_cell _ _ _ (by decide)]; exact a8
  · rw [up2_cell _ _ _ (by decide)]; exact a9
theorem mfield {r : Rs} {lo hi k : Nat} {f : Nat → Zs → Zs} {p : Pl} {d : Dl} {kI : Int32} {Q : MI → Prop} (hg : Gok n g) (h : PTM n g r I) (hd : r.1 = 0 → r.2.2.2 = (p, d) ∧ DMp p d I) (hlo : lo < 100000) (hhi : hi < 100000) (hk : kI = nI k) (hk7 : k < 7)
    (hf : ∀ v z, (f v z).1 = z.1 ∧ (f v z).2.1 = z.2.1)
    (hw : ∀ v J z, z.2.2 = (p, d) → DMp p d J → DMp (f v z).2.2.1 (f v z).2.2.2 (up2 J 264 k (nI v)))
    (H : ∀ J, MS n g (pset (fun j => cc (g j)) n lo hi f r) J → FM I J → Q J) : (¬ (I 261 8) = 0 → Q I) ∧ ((I 261 8) = 0 → Wi mX12_number [.ref 261, .int (nI lo), .int (nI hi)] I (fun v J => vp_in kI 7 ∧ ∀ K, K = up2 J 264 kI.toNatClampNeg v → Q K)) := by
  subst hk
  rw [PTM_z h]
  refine ⟨fun h0 => H I (by rw [pset_e h0]; exact ⟨h, fun z => absurd z h0⟩) FM.rf, fun h0 => ?_⟩
  obtain ⟨d1, d2⟩ := hd h0
  refine mnum hg h0 h hlo hhi (fun J v tJ sJ hv => ⟨ci hk7 (by decide), fun K eK => ?_⟩)
  rw [cl (by omega)] at eK
  have tK := PTM_u tJ (by decide) eK
  refine H K ?_ ((FM_o sJ).tr (FM_u (by simp) (by unfold half; omega) eK))
  unfold pset
  by_cases z : (pnum (fun j => cc (g j)) n lo hi r).1 = 0
  · rw [if_pos z]
    obtain ⟨p0, p1, p2, p3, p4⟩ := pnum_0 z
    have z22 : (pnum (fun j => cc (g j)) n lo hi r).2.2.2 = (p, d) := by rw [p4]; exact d1
    have dJ : DMp p d J := DMp_of d2 (fun c a1 a2 => SO_c sJ c (by omega))
    have := hw (pval (fun j => cc (g j)) r) J (pnum (fun j => cc (g j)) n lo hi r).2 z22 dJ
    rw [← hv z, ← eK] at this
    obtain ⟨f1, f2⟩ := hf (pval (fun j => cc (g j)) r) (pnum (fun j => cc (g j)) n lo hi r).2
    exact ⟨PTM_m tK z.symm f1 f2, fun _ => this⟩
  · rw [if_neg z]
    exact ⟨tK, fun y => absurd y z⟩
theorem mone_d {r : Rs} {j : Nat} {J : MI} (h : MS n g r I) (s : SamM [] kQ I J) : (pone (fun j => cc (g j)) n j r).1 = 0 → (pone (fun j => cc (g j)) n j r).2.2.2 = (rP r, rD r) ∧ DMp (rP r) (rD r) J := by
  intro z
  obtain ⟨p0, p1, p2⟩ := pone_0 z
  exact ⟨by rw [p2], DMp_of (h.2 p0) (fun c a1 a2 => SO_c s c (by omega))⟩
theorem sM_joined {p : Pl} {d : Dl} {a b : Nat} {Q : Int32 → MI → Prop} (hp : PlOk p) (hD : DMp p d I) (ha : a < 100) (hb : b < 100) (H : Q (bI (jnd p a b (pSc p))) I) : Wi mX12_isJoined [.ref 261, .int (nI a), .int (nI b), .int (nI (pSc p))] I Q := by
  have hsc := hp.2.2.1
  have hnc := hp.2.1
  have go : ∀ (m k : Nat), m + k = pSc p → jnd p a b k = false → LX12_isJoined_4 (nI a) (nI b) (nI (pSc p)) (nI (18 + k)) I Q := by
    intro m
    induction m with
    | zero =>
      intro k hm hk
      have : k = pSc p := by omega
      subst this
      rw [hk] at H
      refine rX12_isJoined_4 ⟨fun _ => H, fun q => absurd ?_ q⟩
      rw [show (18 : Int32) = nI 18 from rfl, nI_add, ile (by omega) (by omega)]; omega
    | succ m ih =>
      intro k hm hk
      have hs := hp.2.2.2.2.2.2.2.1 k (by omega)
      obtain ⟨e1, e2, -⟩ := hD.2.2.2.2.2.2.2.1 k (by omega)
      have up : ∀ j, k + 1 ≤ j → jnd p a b (k + 1) = true → jnd p a b j = true := by
        intro j
        induction j with
        | zero => intro hj _; omega
        | succ j ihj =>
          intro hj ht
          by_cases e : j = k
          · rw [e]; exact ht
          · have := ihj (by omega) ht
            simp only [jnd, this, Bool.true_or]
      have yes : jnd p a b (k + 1) = true → Q 1 I := fun z => by rw [up (pSc p) (by omega) z] at H; exact H
      refine rX12_isJoined_4 ⟨fun q => ?_, fun _ => ?_⟩
      · rw [show (18 : Int32) = nI 18 from rfl, nI_add, ile (by omega) (by omega)] at q; omega
      · rw [cl (by omega), e1, e2, ieq (by omega) (by omega), ieq (by omega) (by omega)]
        have f35 : ¬ (pA p k = a ∧ pB p k = b) → LX12_isJoined_35 (nI a) (nI b) (nI (pSc p)) (nI (18 + k)) I Q := by
          intro z
          have f59 : ¬ (pA p k = b ∧ pB p k = a) → LX12_isJoined_59 (nI a) (nI b) (nI (pSc p)) (nI (18 + k)) I Q := by
            intro y
            refine rX12_isJoined_59 ?_
            rw [nI_s, Nat.add_assoc]
            refine ih (k + 1) (by omega) ?_
            simp only [jnd, hk]
            by_cases e3 : pA p k = a
            · have e4 : ¬ pB p k = b := fun x => z ⟨e3, x⟩
              by_cases e5 : pA p k = b
              · have e6 : ¬ pB p k = a := fun x => y ⟨e5, x⟩
                simp [e4, e6]
              · simp [e4, e5]
            · by_cases e5 : pA p k = b
              · have e6 : ¬ pB p k = a := fun x => y ⟨e5, x⟩
                simp [e3, e6]
              · simp [e3, e5]
          refine rX12_isJoined_35 ?_
          rw [cl (by omega), e1, e2, ieq (by omega) (by omega), ieq (by omega) (by omega)]
          refine ⟨ci (by omega) (by decide), fun y => f59 (fun x => y x.1), fun y => ⟨ci (by omega) (by decide), fun y2 => f59 (fun x => y2 x.2), fun y2 => yes ?_⟩⟩
          simp only [jnd, hk, decide_eq_true y, decide_eq_true y2]; simp
        refine ⟨ci (by omega) (by decide), fun z => f35 (fun x => z x.1), fun z => ⟨ci (by omega) (by decide), fun z2 => yes ?_, fun z2 => f35 (fun x => z2 x.2)⟩⟩
        simp only [jnd, hk, decide_eq_true z, decide_eq_true z2]; simp
  exact rX12_isJoined (go (pSc p) 0 (by omega) rfl)
end
