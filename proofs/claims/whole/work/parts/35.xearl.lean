/-! the class's earliest minutes -/
def plc (s v : Nat) : Nat := s / 2 * 10 + v
theorem b_plc {s v : Nat} (hs : s < 2147483648) : (nI s >>> ((1 : Int32) &&& 31)) * (10 : Int32) + nI v = nI (plc s v) := by
  have := b_shr (n := s) (j := 1) hs (by decide)
  rw [show nI 1 = (1 : Int32) from rfl, Nat.pow_one] at this
  rw [this, show nI (s / 2) * (10 : Int32) = nI (s / 2 * 10) from pk_mul _ 10, nI_add]
  rfl
theorem set_even {p : Pl} {s : Nat} (h : SetOk p s) : s % 2 = 0 := by
  have h0 : s.testBit 0 = false := by
    cases hb : s.testBit 0 with
    | false => rfl
    | true => have := (h.2 0 hb).1; omega
  rw [Nat.testBit_zero, decide_eq_false_iff_not] at h0
  omega
theorem plc_inj {p : Pl} {s s' v v' : Nat} (hs : SetOk p s) (hs' : SetOk p s') (hv : v < 10) (hv' : v' < 10) (h : plc s v = plc s' v') : s = s' ∧ v = v' := by
  have := set_even hs
  have := set_even hs'
  unfold plc at h
  omega
theorem plc_lt {s v : Nat} (hs : s < 1024) (hv : v < 10) : plc s v < 5120 := by unfold plc; omega
theorem sX_place {s v : Nat} {I : MI} {Q : Int32 → MI → Prop} (hs : s < 2147483648) (H : Q (nI (plc s v)) I) : Wi mX1_place [.int (nI s), .int (nI v)] I Q := by
  refine rX1_place ?_
  rw [b_plc hs]; exact H
theorem sX_isLast {s v : Nat} {I : MI} {Q : Int32 → MI → Prop} (hs : s < 1024) (hv : v < 10) (H : Q (bI (lst s v)) I) : Wi mX1_isLast [.int (nI s), .int (nI v)] I Q := by
  refine rX1_isLast ?_
  unfold lst at H
  rw [nI_zero, ieq (by omega) (by decide), ieq (by omega) (by decide), ← nI_zero, b_test (by omega)]
  by_cases h0 : s = 0
  · rw [if_pos h0] at H
    refine ⟨fun q => absurd h0 q, fun _ => ⟨fun q => ?_, fun q => ?_⟩⟩
    · rw [decide_eq_false q] at H; exact H
    · rw [decide_eq_true q] at H; exact H
  · rw [if_neg h0] at H
    refine ⟨fun _ => ⟨fun q => ?_, fun q => ?_⟩, fun q => absurd q h0⟩
    · rw [q] at H; exact H
    · rw [show s.testBit v = true by simpa using q] at H; exact H
theorem sX_isPart {s L : Nat} {I : MI} {Q : Int32 → MI → Prop} (hs : s < 1024) (h7 : I 50 7 = nI L) (H1 : sub s L → Q 1 I) (H0 : ¬ sub s L → Q 0 I) : Wi mX1_isPart [.ref 50, .int (nI s)] I Q := by
  refine rX1_isPart ?_
  rw [h7, b_sub hs]
  exact ⟨H0, H1⟩
theorem minX {a b : Nat} (ha : a ≤ INF) (hb : b ≤ INF) : (if xv a < xv b then xv a else xv b) = xv (min b a) := by
  by_cases h : xv a < xv b
  · rw [if_pos h]
    have : ¬ b ≤ a := fun q => by
      have := (xv_le hb ha).mpr q
      rw [Int32.lt_iff_toInt_lt] at h
      rw [Int32.le_iff_toInt_le] at this
      omega
    rw [Nat.min_eq_right (by omega)]
  · rw [if_neg h]
    have : b ≤ a := by
      rcases Nat.lt_or_ge a b with q | q
      · exfalso
        apply h
        have h2 := (xv_le ha hb).mpr (by omega)
        have h3 : ¬ xv b ≤ xv a := fun z => by have := (xv_le hb ha).mp z; omega
        rw [Int32.le_iff_toInt_le] at h2 h3
        rw [Int32.lt_iff_toInt_lt]
        omega
      · exact q
    rw [Nat.min_eq_left this]
section
variable {p : Pl} {x : Ld} {b : Nat} {I : MI}
theorem sX_sumV {Q : MI → Prop} (hp : PlOk p) (hok : LdOk p b x) (hb : b ≤ 100000) (hP : PX 24 p I) (hx : LX 30 p x I) (H : ∀ J, (∀ v, v < 10 → J 53 v = nI (sty p x v)) → Same [53] I J → Q J) : Wv mX1_sumVisits [.ref 50] I Q := by
  have hhc := hp.2.2.2.1
  have hnc := hp.2.1
  refine rX1_sumVisits (sJ_fill53 (fun f hf => ?_))
  have go : ∀ (m h : Nat) (J : MI), m + h = pHc p → (∀ v, v < 10 → J 53 v = nI (sumTo (styF p x v) h)) → Same [53] I J → LX1_sumVisits_10 (nI h) J Q := by
    intro m
    induction m with
    | zero =>
      intro h J hm hJ sJ
      have : h = pHc p := by omega
      subst this
      refine rX1_sumVisits_10 ⟨fun _ => H J hJ sJ, fun q => absurd ?_ q⟩
      rw [(PX_sam hP sJ (by simp)).2.2.1]; exact (ile (by omega) (by omega)).mpr (Nat.le_refl _)
    | succ m ih =>
      intro h J hm hJ sJ
      have hh : h < pHc p := by omega
      have hPJ := PX_sam hP sJ (by simp)
      have hxJ := LX_sam hx sJ (by simp)
      have hd := dem_le hok hh
      have hpn := hp.2.2.2.2.2.2.2.2 h hh
      refine rX1_sumVisits_10 ⟨fun q => ?_, fun _ => sX_dem hp hok hb hxJ hh ?_⟩
      · rw [hPJ.2.2.1, ile (by omega) (by omega)] at q; omega
      · rw [nI_zero, ile (by omega) (by decide)]
        refine ⟨fun q => rX1_sumVisits_57 ?_, fun q => ⟨ci (by omega) (by decide), ?_⟩⟩
        · rw [nI_s]
          refine ih (h + 1) J (by omega) (fun v hv => ?_) sJ
          rw [hJ v hv]
          simp only [sumTo]
          have : styF p x v h = 0 := by unfold styF; rw [if_neg (fun z => by omega)]
          rw [this]; rfl
        · rw [cl (by omega), (hPJ.2.2.2.2.2.2.2.2 h hh).1]
          refine ⟨ci (by omega) (by decide), sX_vmin hp hPJ hh ⟨ci (by omega) (by decide), fun J5 e5 => rX1_sumVisits_57 ?_⟩⟩
          rw [cl (by omega), hJ _ (by omega), nI_add] at e5
          rw [nI_s]
          refine ih (h + 1) J5 (by omega) (fun v hv => ?_) (by rw [e5]; exact sJ.u2 (by simp))
          rw [e5]
          simp only [sumTo]
          by_cases e : v = pHn p h
          · subst e
            rw [up2_same]
            have : styF p x (pHn p h) h = vmin p h := by unfold styF; rw [if_pos ⟨rfl, by omega⟩]
            rw [this]
          · rw [up2_slot _ _ e, hJ v hv]
            have : styF p x v h = 0 := by unfold styF; rw [if_neg (fun z => e z.1.symm)]
            rw [this]; rfl
  refine go (pHc p) 0 _ (by omega) (fun v hv => ?_) (Same.rf.up (by simp))
  rw [show upA I 53 f 53 = f from if_pos rfl, hf v hv]
  rfl
def TbX (p : Pl) (L : Nat) (T : Nat → Nat → Nat) (I : MI) : Prop := I 54 0 = nI (pSt p) ∧ ∀ s v, sub s L → s ≠ 0 → v < 10 → I 54 (plc s v) = xv (T s v)
theorem TbX_go {L a w c n : Nat} {T : Nat → Nat → Nat} {J K : MI} (hp : PlOk p) (hL : SetOk p L) (ha : sub a L) (hn : n < 10) (hT : TbX p L (goT p x L a w c n T) J)
    (h1 : ¬ ((dif L a).testBit n = true ∧ ea (nt p x) w c n < INF) → K 54 = J 54)
    (h2 : (dif L a).testBit n = true → ea (nt p x) w c n < INF → ∀ k, K 54 k = if k = plc (a ||| 2 ^ n) n then xv (min (T (a ||| 2 ^ n) n) (ea (nt p x) w c n + sty p x n)) else J 54 k) : TbX p L (goT p x L a w c (n + 1) T) K := by
  by_cases q : (dif L a).testBit n = true ∧ ea (nt p x) w c n < INF
  · have hso := sub_ok (or_sub ha q.1) hL
    have hev := set_even hso
    have hgt : 0 < a ||| 2 ^ n := by have := or_gt (dif_no q.1).2; omega
    refine ⟨?_, fun s i hs h0 hi => ?_⟩
    · rw [h2 q.1 q.2, if_neg (by unfold plc; omega)]; exact hT.1
    · rw [goT_s, h2 q.1 q.2]
      by_cases e : s = a ||| 2 ^ n ∧ i = n
      · rw [if_pos (by rw [e.1, e.2]), if_pos ⟨e.1, e.2, q⟩, e.1, e.2]
      · rw [if_neg (fun z => e (plc_inj (sub_ok hs hL) hso hi hn z)), if_neg (fun z => e ⟨z.1, z.2.1⟩)]
        exact hT.2 s i hs h0 hi
  · refine ⟨by rw [h1 q]; exact hT.1, fun s i hs h0 hi => ?_⟩
    rw [goT_s, h1 q, if_neg (fun z => q z.2.2)]
    exact hT.2 s i hs h0 hi
theorem goT_nc {L a w c n : Nat} {T : Nat → Nat → Nat} (hL : SetOk p L) (hn : pNc p ≤ n) (h10 : n ≤ 10) : goT p x L a w c n T = goT p x L a w c 10 T := by
  funext s i
  unfold goT
  by_cases q : i < n ∧ s = a ||| 2 ^ i ∧ (dif L a).testBit i = true ∧ ea (nt p x) w c i < INF
  · rw [if_pos q, if_pos ⟨by omega, q.2⟩]
  · rw [if_neg q, if_neg]
    rintro ⟨z1, z2, z3, z4⟩
    have := (hL.2 i (dif_no z3).1).2
    exact q ⟨by omega, z2, z3, z4⟩
theorem goT_1 {L a w c : Nat} {T : Nat → Nat → Nat} (hL : SetOk p L) : goT p x L a w c 1 T = T := by
  funext s i
  unfold goT
  rw [if_neg]
  rintro ⟨z1, z2, z3, z4⟩
  have := (hL.2 i (dif_no z3).1).1
  omega
abbrev cXe : List Nat := [46, 50, 54]
/-- what stays in the search's own row -/
def sX50 (I J : MI) : Prop := ∀ k, k ≠ 8 → J 50 k = I 50 k
/-- Fastest.driveOn, to the other stops -/
theorem sX_driveOn {L a w c : Nat} {T : Nat → Nat → Nat} {Q : MI → Prop} (hp : PlOk p) (hok : LdOk p b x) (hP : PX 24 p I) (hx : LX 30 p x I) (hL : SetOk p L) (h7 : I 50 7 = nI L) (h53 : ∀ v, v < 10 → I 53 v = nI (sty p x v)) (ha : sub a L) (hw : w < pNc p) (hc : c ≤ 200000000) (hT : TbX p L T I) (hTI : ∀ s v, T s v ≤ INF) (hpl : I 54 (plc a w) = nI c) (F0 : Nat) (hF0 : F0 ≤ INF) (h8 : I 50 8 = xv F0)
    (H1 : a ≠ L → ∀ K, TbX p L (goT p x L a w c 10 T) K → K 50 8 = xv F0 → Same cXe I K → sX50 I K → Q K)
    (H2 : a = L → ∀ K, TbX p L T K → K 50 8 = xv (min F0 (ea (nt p x) w c 0)) → Same cXe I K → sX50 I K → Q K) : Wv mX1_driveOn [.ref 50, .int (nI a), .int (nI w)] I Q := by
  have hnc := hp.2.1
  have hn2 := hp.1
  have hII : INF = 1000000000 := rfl
  have ha1 := sub_lt hL ha
  have hL1 := hL.1
  have hpw := plc_lt ha1 (show w < 10 by omega)
  refine rX1_driveOn (sX_place (by omega) ?_)
  rw [cl (by omega), hpl]
  refine ⟨ci hpw (by decide), sX_arrivals (nt_ok hp hok) (NX_PL hP hx) hw (by omega) (fun f hf => ⟨rfl, ?_⟩)⟩
  have hEA := ea_is (nt_ok hp hok) (u := w) (t := c) (by omega)
  have n50 : upA I 46 f 50 = I 50 := upA_ne I f (by decide)
  have s0 : Same cXe I (upA I 46 f) := Same.rf.up (by simp)
  have T0 : TbX p L T (upA I 46 f) := by
    unfold TbX
    rw [upA_ne I f (by decide)]
    exact hT
  rw [n50, h7, ieq (by omega) (by omega)]
  refine ⟨fun q => ?_, fun q => ⟨vpn 0 (by decide) (by decide), fun x5 e5 I6 e6 => H2 q I6 ?_ ?_ ?_ ?_⟩⟩
  · have go : ∀ (m n : Nat) (J : MI), m + n = pNc p → 1 ≤ n → TbX p L (goT p x L a w c n T) J → J 46 = f → J 50 8 = xv F0 → Same cXe I J → sX50 I J → LX1_driveOn_45 (nI a) (nI w) (nI n) J Q := by
      intro m
      induction m with
      | zero =>
        intro n J hm hn hJ h46 h8J sJ s50
        have : n = pNc p := by omega
        subst this
        refine rX1_driveOn_45 ⟨fun _ => H1 q J (by rw [← goT_nc hL (Nat.le_refl _) hnc]; exact hJ) h8J sJ s50, fun z => absurd ?_ z⟩
        rw [(PX_sam hP sJ (by simp)).1]; exact (ile (by omega) (by omega)).mpr (Nat.le_refl _)
      | succ m ih =>
        intro n J hm hn hJ h46 h8J sJ s50
        have h7J : J 50 7 = nI L := by rw [s50 7 (by decide)]; exact h7
        have same : ¬ ((dif L a).testBit n = true ∧ ea (nt p x) w c n < INF) → LX1_driveOn_124 (nI a) (nI w) (nI n) J Q := by
          intro z
          refine rX1_driveOn_124 ?_
          rw [nI_s]
          exact ih (n + 1) J (by omega) (by omega) (TbX_go hp hL ha (by omega) hJ (fun _ => rfl) (fun z1 z2 => absurd ⟨z1, z2⟩ z)) h46 h8J sJ s50
        refine rX1_driveOn_45 ⟨fun z => ?_, fun _ => ?_⟩
        · rw [(PX_sam hP sJ (by simp)).1, ile (by omega) (by omega)] at z; omega
        · rw [h7J, b_has hL1 (by omega)]
          refine ⟨fun z => same (fun y => by rw [z] at y; cases y.1), fun z => ⟨ci (by omega) (by decide), ?_⟩⟩
          have z' : (dif L a).testBit n = true := by simpa using z
          have zb := dif_no z'
          obtain ⟨l1, l2, l3⟩ := bit_lt hp hL zb.1
          have hEI := hEA.2.2.2 n l3
          have hE : J 46 (nI n).toNatClampNeg = xv (ea (nt p x) w c n) := by rw [cl (by omega), h46]; exact hf n l3
          have hor := or_lt ha1 l1
          rw [hE, xv_eq hEI]
          refine ⟨fun y => same (fun y' => by omega), fun y => ?_⟩
          have hlt : ea (nt p x) w c n < INF := by
            have : nNc (nt p x) = pNc p := rfl
            omega
          have hn3 : ea (nt p x) w c n + sty p x n < INF := by
            rcases Nat.le_total 1440 c with k | k
            · have := tnext (c := c) hp hok k (by omega) (Nat.le_refl _) l3 hlt; omega
            · have := tnext (c := 1440) hp hok (Nat.le_refl _) (by decide) k l3 hlt; omega
          have hpl2 := plc_lt hor l1
          rw [b_or1 (by omega)]
          refine sX_place (by omega) ?_
          rw [cl (n := plc (a ||| 2 ^ n) n) (by omega)]
          refine ⟨ci hpl2 (by decide), ci (by omega) (by decide), ci (by omega) (by decide), fun x3 e3 => ⟨ci hpl2 (by decide), fun I4 e4 => rX1_driveOn_124 ?_⟩⟩
          have hsub := or_sub ha z'
          have hne : a ||| 2 ^ n ≠ 0 := by have := or_gt zb.2; omega
          have hTv := hJ.2 (a ||| 2 ^ n) n hsub hne l1
          have hgo : goT p x L a w c n T (a ||| 2 ^ n) n = T (a ||| 2 ^ n) n := by unfold goT; rw [if_neg (fun y => absurd y.1 (Nat.lt_irrefl n))]
          rw [hgo] at hTv
          have h53J : J 53 (nI n).toNatClampNeg = nI (sty p x n) := by rw [cl (by omega), sJ 53 (by simp)]; exact h53 n l1
          rw [hE, h53J, hTv, xv_fin hlt, nI_add, ← xv_fin hn3, minX (by omega) (hTI _ _)] at e3
          rw [nI_s]
          refine ih (n + 1) I4 (by omega) (by omega) (TbX_go hp hL ha (by omega) hJ (fun y => absurd ⟨z', hlt⟩ y) (fun _ _ k => ?_)) ?_ ?_ ?_ ?_
          · rw [e4, up2_ap, if_pos rfl, e3]
          · rw [e4, up2_cell _ _ _ (by decide)]; exact h46
          · rw [e4, up2_cell _ _ _ (by decide)]; exact h8J
          · rw [e4]; exact sJ.u2 (by simp)
          · intro k hk; rw [e4, up2_cell _ _ _ (by decide)]; exact s50 k hk
    refine go (pNc p - 1) 1 _ (by omega) (by omega) ?_ (if_pos rfl) (by rw [n50]; exact h8) s0 (fun k _ => by rw [n50])
    rw [goT_1 hL]; exact T0
  · unfold TbX
    rw [e6, up2_cell _ _ _ (by decide)]
    exact T0
  · have e0 : upA I 46 f 46 (0 : Int32).toNatClampNeg = xv (ea (nt p x) w c 0) := by
      rw [show (0 : Int32).toNatClampNeg = 0 from rfl, show upA I 46 f 46 = f from if_pos rfl]; exact hf 0 (by show 0 < pNc p; omega)
    have hE0 := hEA.2.2.2 0 (by show 0 < pNc p; omega)
    rw [e0, h8, minX hE0 hF0] at e5
    rw [e6, up2_same, e5]
  · rw [e6]; exact s0.u2 (by simp)
  · intro k hk; rw [e6, up2_slot _ _ hk, n50]
/-- the least end so far, in the last row -/
noncomputable def gL (p : Pl) (x : Ld) (L : Nat) (T : Nat → Nat → Nat) (v : Nat) : Nat := if L = 0 then (if v = 0 then ea (nt p x) 0 (pSt p) 0 else INF) else if L.testBit v = true ∧ T L v < INF then ea (nt p x) v (T L v) 0 else INF
theorem sX_findE {L : Nat} {Q : MI → Prop} (hp : PlOk p) (hok : LdOk p b x) (hP : PX 24 p I) (hx : LX 30 p x I) (hL : SetOk p L) (h7 : I 50 7 = nI L) (h8 : I 50 8 = 2147483647) (h53 : ∀ v, v < 10 → I 53 v = nI (sty p x v))
    (H : ∀ J T, T1 p x 0 (pSt p) L T → T2 p x 0 (pSt p) L T → (∀ s v, T s v ≤ INF) → (∀ s v, sub s L → s ≠ 0 → s.testBit v = false → T s v = INF) → TbX p L T J → J 50 8 = xv (bs p x 0 (pSt p) L) → Same cXe I J → sX50 I J → Q J) : Wv mX1_findEarliest [.ref 50] I Q := by
  have hnc := hp.2.1
  have hn2 := hp.1
  have hII : INF = 1000000000 := rfl
  have hL1 := hL.1
  have hLe := set_even hL
  have hst := hp.2.2.2.2.2.2.1
  have hbL := bits_le hp hL
  have ok := nt_ok hp hok
  have inPX : ∀ J : MI, Same cXe I J → PX 24 p J := fun J sJ => PX_sam hP sJ (by simp)
  have inLX : ∀ J : MI, Same cXe I J → LX 30 p x J := fun J sJ => LX_sam hx sJ (by simp)
  have odd : ∀ a, a % 2 = 1 → ¬ sub a L := by
    intro a ha hs
    have := set_even (sub_ok hs hL)
    omega
  -- the end of the last row
  have fend : ∀ (T : Nat → Nat → Nat) (J : MI), DI p x 0 (pSt p) L (L + 2) 0 T → TbX p L T J → J 50 8 = xv (bmin (gL p x L T) (pNc p)) → Same cXe I J → sX50 I J → Q J := by
    intro T J hD hT h8J sJ s50
    have h1 := DI_T1 hD
    have h2 := DI_end hD (by omega)
    have e : bmin (gL p x L T) (pNc p) = bs p x 0 (pSt p) L := by
      refine tab_min (c0 := 1440) hp hok hL h1 h2 (by omega) (by omega) (Nat.le_refl _) (by decide) _ (bmin_inf _ _) (fun w c he => ?_) (fun hf => ?_)
      · rcases he with ⟨q1, q2, q3⟩ | ⟨q1, q2, q3, q4⟩
        · have := bmin_le (f := gL p x L T) (v := 0) (pNc p) (by omega)
          unfold gL at this
          rw [if_pos q1, if_pos rfl] at this
          rw [q2, q3]; exact this
        · have := bmin_le (f := gL p x L T) (v := w) (pNc p) (hL.2 w q4).2
          unfold gL at this
          rw [if_neg q1, if_pos ⟨q4, by omega⟩, q2] at this
          exact this
      · obtain ⟨v, -, hv⟩ := bmin_at _ _ hf
        unfold gL at hv hf
        by_cases q1 : L = 0
        · rw [if_pos q1] at hv
          by_cases q2 : v = 0
          · rw [if_pos q2] at hv
            exact ⟨0, pSt p, Or.inl ⟨q1, rfl, rfl⟩, hv⟩
          · rw [if_neg q2] at hv; omega
        · rw [if_neg q1] at hv
          by_cases q2 : L.testBit v = true ∧ T L v < INF
          · rw [if_pos q2] at hv
            exact ⟨v, T L v, Or.inr ⟨q1, rfl, q2.2, q2.1⟩, hv⟩
          · rw [if_neg q2] at hv; omega
    exact H J T h1 h2 hD.1 hD.2.1 hT (by rw [h8J, e]) sJ s50
  have rows : ∀ (m a : Nat) (T : Nat → Nat → Nat) (J : MI), m * 2 + a = L + 2 → a % 2 = 0 → DI p x 0 (pSt p) L a 0 T → TbX p L T J → (a ≤ L → J 50 8 = xv INF) → (L < a → J 50 8 = xv (bmin (gL p x L T) (pNc p))) → Same cXe I J → sX50 I J → LX1_findEarliest_28 (nI a) J Q := by
    intro m
    induction m with
    | zero =>
      intro a T J hm ha hD hT h8a h8b sJ s50
      have : a = L + 2 := by omega
      subst this
      refine rX1_findEarliest_28 ⟨fun _ => fend T J hD hT (h8b (by omega)) sJ s50, fun q => absurd ?_ q⟩
      rw [s50 7 (by decide), h7, ilt (by omega) (by omega)]; omega
    | succ m ih =>
      intro a T J hm ha hD hT h8a h8b sJ s50
      have haL : a ≤ L := by omega
      have h7J : J 50 7 = nI L := by rw [s50 7 (by decide)]; exact h7
      have two : nI a + 2 = nI (a + 2) := nI_add a 2
      refine rX1_findEarliest_28 ⟨fun q => ?_, fun _ => sX_isPart (by omega) h7J (fun hs => ⟨fun _ => ?_, fun q => absurd q (by decide)⟩) (fun hs => ⟨fun q => absurd rfl q, fun _ => rX1_findEarliest_95 ?_⟩)⟩
      · rw [h7J, ilt (by omega) (by omega)] at q; omega
      · -- a row of the table
        have go : ∀ (k v : Nat) (T : Nat → Nat → Nat) (K : MI), k + v = pNc p → DI p x 0 (pSt p) L a v T → TbX p L T K → (a < L → K 50 8 = xv INF) → (a = L → K 50 8 = xv (bmin (gL p x L T) v)) → Same cXe I K → sX50 I K → LX1_findEarliest_49 (nI a) (nI v) K Q := by
          intro k
          induction k with
          | zero =>
            intro v T K hk hD hT h8a h8b sK s50K
            have : v = pNc p := by omega
            subst this
            refine rX1_findEarliest_49 ⟨fun _ => rX1_findEarliest_95 ?_, fun q => absurd ?_ q⟩
            · rw [two]
              refine ih (a + 2) T K (by omega) (by omega) (DI_jump (DI_row hp hL (by omega) (Nat.le_refl _) hD) (odd (a + 1) (by omega))) hT (fun q => h8a (by omega)) (fun q => ?_) sK s50K
              have : a = L := by omega
              exact h8b this
            · rw [(inPX K sK).1]; exact (ile (by omega) (by omega)).mpr (Nat.le_refl _)
          | succ k ihk =>
            intro v T K hk hD hT h8a h8b sK s50K
            have hv10 : v < 10 := by omega
            have h7K : K 50 7 = nI L := by rw [s50K 7 (by decide)]; exact h7
            have hbi := bmin_inf (gL p x L T) v
            have skp : (∀ c, ¬ En 0 (pSt p) T a v c) → LX1_findEarliest_89 (nI a) (nI v) K Q := by
              intro hn
              refine rX1_findEarliest_89 ?_
              rw [nI_s]
              refine ihk (v + 1) T K (by omega) (DI_skip hD (fun c _ => hn c)) hT h8a (fun q => ?_) sK s50K
              simp only [bmin]
              have hg : gL p x L T v = INF := by
                unfold gL
                by_cases q1 : L = 0
                · rw [if_pos q1]
                  by_cases q2 : v = 0
                  · exact absurd (Or.inl ⟨by omega, q2, rfl⟩) (hn (pSt p))
                  · rw [if_neg q2]
                · rw [if_neg q1]
                  by_cases q2 : L.testBit v = true ∧ T L v < INF
                  · exact absurd (Or.inr ⟨by omega, rfl, by rw [q]; exact q2.2, by rw [q]; exact q2.1⟩) (hn (T a v))
                  · rw [if_neg q2]
              rw [hg, Nat.min_eq_left hbi]
              exact h8b q
            refine rX1_findEarliest_49 ⟨fun q => ?_, fun _ => sX_isLast (by omega) hv10 ?_⟩
            · rw [(inPX K sK).1, ile (by omega) (by omega)] at q; omega
            · rw [bI_eq]
              refine ⟨fun q => skp (fun c he => by rw [en_lst he] at q; cases q), fun q => ?_⟩
              have hl : lst a v = true := by simpa using q
              have hpl := plc_lt (show a < 1024 by omega) hv10
              refine sX_place (by omega) ?_
              rw [cl (by omega)]
              refine ⟨ci hpl (by decide), fun z => ?_, fun z => ?_⟩
              · refine skp (fun c he => ?_)
                rcases he with ⟨q1, q2, q3⟩ | ⟨q1, q2, q3, q4⟩
                · subst q1; subst q2
                  rw [show plc 0 0 = 0 from rfl, hT.1, nI_max, ieq (by omega) (by decide)] at z
                  omega
                · rw [hT.2 a v hs q1 hv10, xv_eq (hD.1 a v)] at z
                  omega
              · -- the stop is left
                have hen : ∃ c, En 0 (pSt p) T a v c ∧ K 54 (plc a v) = nI c := by
                  by_cases q1 : a = 0
                  · subst q1
                    have hv0 : v = 0 := by unfold lst at hl; rw [if_pos rfl] at hl; simpa using hl
                    subst hv0
                    exact ⟨pSt p, Or.inl ⟨rfl, rfl, rfl⟩, hT.1⟩
                  · have hbit : a.testBit v = true := by unfold lst at hl; rw [if_neg q1] at hl; exact hl
                    have hTv := hT.2 a v hs q1 hv10
                    have hlt : T a v < INF := by
                      rcases Nat.lt_or_ge (T a v) INF with y | y
                      · exact y
                      · exact absurd (by rw [hTv, xv_eq (hD.1 a v)]; have := hD.1 a v; omega) z
                    exact ⟨T a v, Or.inr ⟨q1, rfl, hlt, hbit⟩, by rw [hTv, xv_fin hlt]⟩
                obtain ⟨c, he, hpc⟩ := hen
                have hba := sub_bits hs
                have hbd := en_bd (c0 := 1440) hp hok hL (DI_T1 hD) (by omega) (Nat.le_refl _) (by decide) (bits a) a v c rfl hs he
                have hvn := en_lt hp hL (by omega) hs he
                refine sX_driveOn hp hok (inPX K sK) (inLX K sK) hL h7K (fun w hw => by rw [sK 53 (by simp)]; exact h53 w hw) hs hvn (by omega) hT hD.1 hpc (if a = L then bmin (gL p x L T) v else INF) (by split <;> omega) ?_ (fun q1 K2 hK2 h82 s2 s502 => rX1_findEarliest_89 ?_) (fun q1 K2 hK2 h82 s2 s502 => rX1_findEarliest_89 ?_)
                · by_cases q1 : a = L
                  · rw [if_pos q1]; exact h8b q1
                  · rw [if_neg q1]; exact h8a (by omega)
                · rw [nI_s]
                  rw [if_neg q1] at h82
                  refine ihk (v + 1) _ K2 (by omega) (DI_go hp hL hD hs he (fun w hw hf => ?_)) hK2 (fun _ => h82) (fun q2 => absurd q2 q1) (sK.tr s2) (fun k hk => (s502 k hk).trans (s50K k hk))
                  have hcc : 1440 + 2200 * bits a ≤ 400000000 := by omega
                  have := tnext (c := 1440 + 2200 * bits a) hp hok (Nat.le_add_right _ _) hcc hbd hw hf
                  omega
                · rw [nI_s]
                  rw [if_pos q1] at h82
                  have hdi : DI p x 0 (pSt p) L a (v + 1) T := by
                    obtain ⟨d1, d2, d3, d4⟩ := hD
                    refine ⟨d1, d2, d3, fun s w c' v' hs' hpr hen' hLv hsv hf => ?_⟩
                    refine d4 s w c' v' hs' ?_ hen' hLv hsv hf
                    have h1 : s ≤ L := Nat.le_of_testBit hs'
                    rcases Nat.lt_or_ge s a with y | y
                    · exact Or.inl y
                    · have : s = L := by omega
                      subst this
                      rw [hsv] at hLv; cases hLv
                  refine ihk (v + 1) T K2 (by omega) hdi hK2 (fun q2 => by omega) (fun _ => ?_) (sK.tr s2) (fun k hk => (s502 k hk).trans (s50K k hk))
                  rw [h82]
                  simp only [bmin]
                  congr 2
                  unfold gL
                  rcases he with ⟨r1, r2, r3⟩ | ⟨r1, r2, r3, r4⟩
                  · rw [if_pos (by omega), if_pos r2, r2, r3]
                  · rw [if_neg (by omega), if_pos ⟨by rw [← q1]; exact r4, by rw [← q1, r2]; exact r3⟩, ← q1, r2]
        refine go (pNc p) 0 T J (by omega) hD hT (fun q => h8a (by omega)) (fun q => ?_) sJ s50
        exact h8a (by omega)
      · rw [two]
        exact ih (a + 2) T J (by omega) (by omega) (DI_jump (DI_jump hD hs) (odd (a + 1) (by omega))) hT (fun q => h8a (by omega)) (fun q => absurd (by rw [show a = L by omega]; exact fun _ h => h) hs) sJ s50
  refine rX1_findEarliest (sJ_fill54 (fun f hf => sX_place (s := 0) (v := 0) (by decide) ?_))
  rw [show plc 0 0 = 0 from rfl, cl (by decide)]
  refine ⟨vpn 0 (by decide) (by decide), fun I4 e4 => ?_⟩
  have s4 : Same cXe I I4 := by rw [e4]; exact (Same.rf.up (by simp)).u2 (by simp)
  have f50 : I4 50 = I 50 := by rw [e4, up2_cell _ _ _ (by decide), upA_ne _ _ (by decide)]
  refine rows (L / 2 + 1) 0 (fun _ _ => INF) I4 (by omega) rfl DI_start ⟨?_, fun s v hs h0 hv => ?_⟩ (fun _ => by rw [f50, h8]; rfl) (fun q => absurd q (Nat.not_lt_zero L)) s4 (fun k _ => by rw [f50])
  · rw [e4, up2_same, upA_ne _ _ (by decide)]; exact hP.2.2.2.2.1
  · have hsl := sub_lt hL hs
    have hse := set_even (sub_ok hs hL)
    have := plc_lt hsl hv
    rw [e4, up2_slot _ _ (by unfold plc; omega), show upA I 54 f 54 = f from if_pos rfl, hf _ this]
    rfl
end
