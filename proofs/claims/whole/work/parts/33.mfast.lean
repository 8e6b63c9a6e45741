/-! the reference's fastest order -/
noncomputable def ffin (p : Pl) (x : Ld) : Nat := if pCap p < tot p x then INF else bs p x 0 (pSt p) (stp p x (pHc p))
noncomputable def frt (p : Pl) (x : Ld) : List Nat := ford p x (ffin p x) 10 0 (pSt p) (stp p x (pHc p))
abbrev cM9 : List Nat := [278, 279, 280, 281]
theorem fs_none {P : Nat → Bool} (h : ∀ v, P v = false) : ∀ n, fs P n = none
  | 0 => rfl
  | n + 1 => by simp only [fs, fs_none h n, h n]; rfl
theorem ford_zero (p : Pl) (x : Ld) (F n u t : Nat) : ford p x F n u t 0 = [] := by
  cases n with
  | zero => rfl
  | succ n =>
    simp only [ford]
    rw [fs_none (fun v => by unfold fP; rw [decide_eq_false_iff_not]; intro q; have := q.1; simp at this) 10]
theorem ford_some {p : Pl} {x : Ld} {F n u t s v : Nat} (h : fs (fP p x F u t s) 10 = some v) : ford p x F (n + 1) u t s = v :: ford p x F n v (ea (nt p x) u t v + sty p x v) (clr s v) := by
  simp only [ford]
  rw [h]
section
variable {p : Pl} {x : Ld} {b : Nat} {I : MI}
theorem tot_le (hp : PlOk p) (hok : LdOk p b x) : tot p x ≤ 108 := by
  have := unm_le hp hok (fun _ => false)
  have e : unm p x (fun _ => false) = tot p x := by
    unfold unm tot
    exact sumTo_eq _ (fun i _ => by simp)
  omega
theorem sM_fast {Q : Int32 → MI → Prop} (hp : PlOk p) (hok : LdOk p b x) (hb : b ≤ 100000) (hP : PM p I) (hx : LM 274 0 p x I)
    (H0 : ffin p x = INF → ∀ J, SamM cM9 [30, 32] I J → Q 0 J)
    (H1 : ffin p x < INF → ∀ J, RtM (frt p x) J → J 261 32 = nI (ffin p x) → SamM cM9 [30, 32] I J → Q 1 J) : Wi mX12_layFastest [.ref 261] I Q := by
  have hnc := hp.2.1
  have h2 := hp.1
  have hII : INF = 1000000000 := rfl
  have hcap := hp.2.2.2.2.2.1
  have hst := hp.2.2.2.2.2.2.1
  have hto := tot_le hp hok
  have hso := stp_ok (x := x) hp
  have hs1 := hso.1
  have hb9 := bits_le hp hso
  -- from stop to stop
  have go : ∀ (F : Nat), F < INF → (∀ J, RtM (ford p x F 10 0 (pSt p) (stp p x (pHc p))) J → J 261 32 = nI F → SamM cM9 [30, 32] I J → Q 1 J) → ∀ (n u t s : Nat) (r : List Nat) (J : MI), bits s ≤ n → n + r.length ≤ 10 → t + 2200 * n ≤ 30000 → SetOk p s → u < pNc p → bs p x u t s = F → RtM r J → J 261 32 = nI F → SamM cM9 [30, 32] I J → r ++ ford p x F n u t s = ford p x F 10 0 (pSt p) (stp p x (pHc p)) → LX12_layFastest_56 (nI s) (nI u) (nI t) J Q := by
    intro F hF HQ n
    induction n with
    | zero =>
      intro u t s r J hbs hl hT hs hu hbe hr h32 sJ hro
      have h0 : s = 0 := (set_zero hs.1).mpr (by omega)
      subst h0
      rw [ford_zero, List.append_nil] at hro
      exact rX12_layFastest_56 ⟨fun _ => HQ J (by rw [← hro]; exact hr) h32 sJ, fun q => absurd rfl q⟩
    | succ n ih =>
      intro u t s r J hbs hl hT hs hu hbe hr h32 sJ hro
      rw [Nat.mul_add, Nat.mul_one] at hT
      have hs1' := hs.1
      by_cases h0 : s = 0
      · subst h0
        rw [ford_zero, List.append_nil] at hro
        exact rX12_layFastest_56 ⟨fun _ => HQ J (by rw [← hro]; exact hr) h32 sJ, fun q => absurd rfl q⟩
      · obtain ⟨v, f1, f2, f3, f4, f5⟩ := ford_step (x := x) (u := u) (t := t) hp hs h0 hbe hF
        obtain ⟨l1, l2, l3⟩ := bit_lt hp hs f2
        rw [ford_some f1] at hro
        have hEA := ea_is (nt_ok hp hok) (u := u) (t := t) (by omega)
        refine rX12_layFastest_56 ⟨fun q => ?_, fun _ => ?_⟩
        · rw [nI_zero, ieq (by omega) (by decide)] at q; exact absurd q h0
        -- the search for the first next stop
        have srch : ∀ (m w : Nat) (K : MI), m + w = v → RtM r K → K 261 32 = nI F → SamM cM9 [30, 32] I K → LX12_layFastest_66 (nI s) (nI u) (nI t) (nI w) 0 K Q := by
          intro m
          induction m with
          | zero =>
            intro w K hm hrK h32K sK
            have : w = v := by omega
            subst this
            have hPK := PM_sam hP sK (by simp)
            have hxK := LM_sam hx sK (by decide) (by simp)
            have hEI := hEA.2.2.2 w l3
            refine rX12_layFastest_66 ⟨fun q => absurd rfl q, fun _ => ?_⟩
            rw [b_sh1 (by omega) (by omega)]
            refine ⟨fun q => absurd f2 q, fun _ => ?_⟩
            refine sM_arrivalOf (nt_ok hp hok) (NM_PL hPK hxK) hu l3 (by omega) (fun f g hA => ?_)
            have s1 : SamM cM9 [30, 32] I (mem2 K f g) := sK.m2 (by simp) (by simp)
            have r1 : RtM r (mem2 K f g) := by
              unfold RtM
              rw [mem2_n K f g (by decide) (by decide), mem2_n K f g (by decide) (by decide)]; exact hrK
            have g32 : mem2 K f g 261 32 = nI F := by rw [mem2_n K f g (by decide) (by decide)]; exact h32K
            generalize mem2 K f g = K1 at s1 r1 g32
            rw [eINF, ile (by omega) (by omega)]
            refine ⟨fun q => by omega, fun _ => ?_⟩
            refine sM_stay hp hok hb (PM_sam hP s1 (by simp)) (LM_sam hx s1 (by decide) (by simp)) l1 ?_
            have hn2 : ea (nt p x) u t w + sty p x w + 2200 * n ≤ 30000 ∧ ea (nt p x) u t w + sty p x w ≤ 40000 := by
              rcases Nat.le_total 1440 t with z | z
              · have := tnext (c := t) hp hok z (by omega) (Nat.le_refl _) l3 f3; omega
              · have := tnext (c := 1440) hp hok (Nat.le_refl _) (by decide) z l3 f3; omega
            rw [nI_add, b_clr (by omega) (by omega)]
            refine sM_best hp hok hb (PM_sam hP s1 (by simp)) (LM_sam hx s1 (by decide) (by simp)) (clr_ok hs) l3 (by omega) (fun K2 s2 => ?_)
            have k32 : K2 261 32 = nI F := by rw [s2.2 32 (by simp)]; exact g32
            have s2' : SamM cM9 [30, 32] I K2 := s1.tr (s2.mo (by simp) (by simp))
            have r2 : RtM r K2 := by unfold RtM; rw [s2.2 30 (by simp), s2.1 280 (by decide) (by simp)]; exact r1
            rw [k32, f4]
            refine ⟨fun q => absurd rfl q, fun _ => rX12_layFastest_133 (rX12_layFastest_135 ⟨fun _ => ?_, fun q => absurd q (by decide)⟩)⟩
            refine rX12_layFastest_66 ⟨fun _ => ?_, fun q => absurd q (by decide)⟩
            refine sM_arrivalOf (nt_ok hp hok) (NM_PL (PM_sam hP s2' (by simp)) (LM_sam hx s2' (by decide) (by simp))) hu l3 (by omega) (fun f2' g2' hA2 => ?_)
            have s3 : SamM cM9 [30, 32] I (mem2 K2 f2' g2') := s2'.m2 (by simp) (by simp)
            have r3 : RtM r (mem2 K2 f2' g2') := by
              unfold RtM
              rw [mem2_n K2 f2' g2' (by decide) (by decide), mem2_n K2 f2' g2' (by decide) (by decide)]; exact r2
            have g32' : mem2 K2 f2' g2' 261 32 = nI F := by rw [mem2_n K2 f2' g2' (by decide) (by decide)]; exact k32
            generalize mem2 K2 f2' g2' = K3 at s3 r3 g32'
            refine sM_stay hp hok hb (PM_sam hP s3 (by simp)) (LM_sam hx s3 (by decide) (by simp)) l1 ?_
            rw [r3.1, cl (by omega)]
            refine ⟨ci (by omega) (by decide), fun K5 e5 K6 e6 => ?_⟩
            have r6 := RtM_add r3 (by omega) e5 e6
            have s6 : SamM cM9 [30, 32] I K6 := by subst e5; subst e6; exact (s3.u2 (by simp) (by decide)).fk (by simp)
            have k6 : K6 261 32 = nI F := by rw [e6, up2_slot _ _ (by decide), e5, up2_cell _ _ _ (by decide)]; exact g32'
            rw [nI_add, b_clr (by omega) (by omega)]
            have hcb := clr_bits l1 f2
            exact ih w _ (clr s w) (r ++ [w]) K6 (by omega) (by simp; omega) hn2.1 (clr_ok hs) l3 f4 r6 k6 s6 (by rw [List.append_assoc]; exact hro)
          | succ m ihm =>
            intro w K hm hrK h32K sK
            have hPK := PM_sam hP sK (by simp)
            have hxK := LM_sam hx sK (by decide) (by simp)
            have hfw := f5 w (by omega)
            unfold fP at hfw
            rw [decide_eq_false_iff_not] at hfw
            have nxt0 : ∀ K1, RtM r K1 → K1 261 32 = nI F → SamM cM9 [30, 32] I K1 → LX12_layFastest_135 (nI s) (nI u) (nI t) (nI w) 0 K1 Q := by
              intro K1 r1 k1 s1
              refine rX12_layFastest_135 ⟨fun q => absurd rfl q, fun _ => ?_⟩
              rw [nI_s]
              exact ihm (w + 1) K1 (by omega) r1 k1 s1
            refine rX12_layFastest_66 ⟨fun q => absurd rfl q, fun _ => ?_⟩
            rw [b_sh1 (by omega) (by omega)]
            refine ⟨fun q => nxt0 K hrK h32K sK, fun hbit => ?_⟩
            obtain ⟨m1, m2, m3⟩ := bit_lt hp hs hbit
            have hEI := hEA.2.2.2 w m3
            refine sM_arrivalOf (nt_ok hp hok) (NM_PL hPK hxK) hu m3 (by omega) (fun f g hA => ?_)
            have s1 : SamM cM9 [30, 32] I (mem2 K f g) := sK.m2 (by simp) (by simp)
            have r1 : RtM r (mem2 K f g) := by
              unfold RtM
              rw [mem2_n K f g (by decide) (by decide), mem2_n K f g (by decide) (by decide)]; exact hrK
            have g32 : mem2 K f g 261 32 = nI F := by rw [mem2_n K f g (by decide) (by decide)]; exact h32K
            generalize mem2 K f g = K1 at s1 r1 g32
            rw [eINF, ile (by omega) (by omega)]
            refine ⟨fun q => rX12_layFastest_132 (rX12_layFastest_133 (nxt0 K1 r1 g32 s1)), fun q => ?_⟩
            have hlt : ea (nt p x) u t w < INF := by omega
            refine sM_stay hp hok hb (PM_sam hP s1 (by simp)) (LM_sam hx s1 (by decide) (by simp)) m1 ?_
            have hn2 : ea (nt p x) u t w + sty p x w ≤ 40000 := by
              rcases Nat.le_total 1440 t with z | z
              · have := tnext (c := t) hp hok z (by omega) (Nat.le_refl _) m3 hlt; omega
              · have := tnext (c := 1440) hp hok (Nat.le_refl _) (by decide) z m3 hlt; omega
            rw [nI_add, b_clr (by omega) (by omega)]
            refine sM_best hp hok hb (PM_sam hP s1 (by simp)) (LM_sam hx s1 (by decide) (by simp)) (clr_ok hs) m3 (by omega) (fun K2 s2 => ?_)
            have k32 : K2 261 32 = nI F := by rw [s2.2 32 (by simp)]; exact g32
            have s2' : SamM cM9 [30, 32] I K2 := s1.tr (s2.mo (by simp) (by simp))
            have r2 : RtM r K2 := by unfold RtM; rw [s2.2 30 (by simp), s2.1 280 (by decide) (by simp)]; exact r1
            have hbi := bs_inf (x := x) (u := w) (t := ea (nt p x) u t w + sty p x w) hp hok (by omega) (clr_ok (v := w) hs).1
            rw [k32, ieq (by omega) (by omega)]
            refine ⟨fun _ => rX12_layFastest_132 (rX12_layFastest_133 (nxt0 K2 r2 k32 s2')), fun z => absurd ⟨hbit, hlt, z⟩ hfw⟩
        exact srch v 0 J rfl hr h32 sJ
  refine rX12_layFastest (sM_tot hp hok hb hP hx ⟨in17, ?_⟩)
  rw [show (1 : Int32).toNatClampNeg = 1 from rfl, hP.2.1, ile (by omega) (by omega)]
  refine ⟨fun q => sM_stops hp hok hb hP hx ⟨in27, ?_⟩, fun q => H0 ?_ I SamM.rf⟩
  · rw [show (2 : Int32).toNatClampNeg = 2 from rfl, hP.2.2.1]
    have hfe : ffin p x = bs p x 0 (pSt p) (stp p x (pHc p)) := by unfold ffin; rw [if_neg (by omega)]
    have hbi := bs_inf (x := x) (u := 0) (t := pSt p) hp hok (by omega) hs1
    refine sM_best (u := 0) hp hok hb hP hx hso (by omega) (by omega) (fun J sJ I7 e7 => ?_)
    have s7 : SamM cM9 [30, 32] I I7 := by rw [e7]; exact (sJ.mo (by simp) (by simp)).fk (by simp)
    have k32 : I7 261 32 = nI (ffin p x) := by rw [e7, up2_same, hfe]
    rw [k32, eINF, ieq (by omega) (by omega)]
    refine ⟨fun z I8 e8 => ?_, fun z => H0 z I7 s7⟩
    have s8 : SamM cM9 [30, 32] I I8 := by rw [e8]; exact s7.fk (by simp)
    refine go (ffin p x) (by omega) (fun J r1 k1 s1 => H1 (by omega) J r1 k1 s1) 10 0 (pSt p) (stp p x (pHc p)) [] I8 (by omega) (by decide) (by omega) hso (by omega) hfe.symm ?_ ?_ s8 rfl
    · exact ⟨by rw [e8, up2_same]; rfl, fun i hi => absurd hi (Nat.not_lt_zero i)⟩
    · rw [e8, up2_slot _ _ (by decide)]; exact k32
  · unfold ffin; rw [if_pos (by omega)]
end
