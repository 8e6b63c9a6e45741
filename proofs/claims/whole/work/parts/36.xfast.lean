/-! the class's latest minutes, and its fastest order -/
def TbL (L : Nat) (B : Nat → Nat → Nat) (I : MI) : Prop := ∀ s v, sub s L → v < 10 → I 55 (plc s v) = dvI (B s v)
theorem maxD {a b : Nat} (ha : a < 1073741824) (hb : b < 1073741824) : (if dvI a < dvI b then dvI b else dvI a) = dvI (max a b) := by
  by_cases h : dvI a < dvI b
  · rw [if_pos h]
    rw [Int32.lt_iff_toInt_lt, dvI_toInt ha, dvI_toInt hb] at h
    rw [Nat.max_eq_right (by omega)]
  · rw [if_neg h]
    rw [Int32.lt_iff_toInt_lt, dvI_toInt ha, dvI_toInt hb] at h
    rw [Nat.max_eq_left (by omega)]
theorem dlt {d t : Nat} (hd : d ≤ INF) (ht : t ≤ INF) : dvI d < xv t ↔ ¬ t < d := by
  have hII : INF = 1000000000 := rfl
  rw [Int32.lt_iff_toInt_lt, dvI_toInt (by omega)]
  rcases Nat.lt_or_ge t INF with q | q
  · rw [xv_fin q, nI_toInt (by omega)]; omega
  · have : t = INF := by omega
    subst this
    rw [xv_inf, nI_max, nI_toInt (by decide)]
    omega
theorem nI_m2 (n : Nat) : nI (n + 2) + (-2) = nI n := by
  rw [show (-2 : Int32) = (-1) + (-1) by decide, ← Int32.add_assoc, pk_m1 (n + 1), pk_m1 n]
section
variable {p : Pl} {x : Ld} {b : Nat} {I : MI}
theorem TbL_go {L s0 n : Nat} {D : Nat → Nat} {B : Nat → Nat → Nat} {J K : MI} (hL : SetOk p L) (hs0 : sub s0 L) (hn : n < 10) (hT : TbL L (alT s0 n D B) J)
    (h1 : ¬ lst s0 n = true → K 55 = J 55)
    (h2 : lst s0 n = true → ∀ k, K 55 k = if k = plc s0 n then dvI (max (B s0 n) (D n)) else J 55 k) : TbL L (alT s0 (n + 1) D B) K := by
  intro s i hs hi
  rw [alT_s]
  by_cases q : lst s0 n = true
  · rw [h2 q]
    by_cases e : s = s0 ∧ i = n
    · rw [if_pos (by rw [e.1, e.2]), if_pos ⟨e.1, e.2, q⟩, e.1, e.2]
    · rw [if_neg (fun z => e (plc_inj (sub_ok hs hL) (sub_ok hs0 hL) hi hn z)), if_neg (fun z => e ⟨z.1, z.2.1⟩)]
      exact hT s i hs hi
  · rw [h1 q, if_neg (fun z => q z.2.2)]
    exact hT s i hs hi
theorem sX_allow {L s0 : Nat} {D : Nat → Nat} {B : Nat → Nat → Nat} {Q : MI → Prop} (hp : PlOk p) (hP : PX 24 p I) (hL : SetOk p L) (hs0 : sub s0 L) (hD : DX (nt p x) D (I 47)) (hDb : ∀ v, v < pNc p → D v < 1073741824) (hB : ∀ s v, B s v < 1073741824) (hT : TbL L B I)
    (H : ∀ K, TbL L (alT s0 (pNc p) D B) K → Same [55] I K → Q K) : Wv mX1_allow [.ref 50, .int (nI s0), .ref 47] I Q := by
  have hnc := hp.2.1
  have hs1 := sub_lt hL hs0
  have go : ∀ (m n : Nat) (J : MI), m + n = pNc p → TbL L (alT s0 n D B) J → Same [55] I J → LX1_allow_2 (nI s0) (nI n) J Q := by
    intro m
    induction m with
    | zero =>
      intro n J hm hJ sJ
      have : n = pNc p := by omega
      subst this
      refine rX1_allow_2 ⟨fun _ => H J hJ sJ, fun q => absurd ?_ q⟩
      rw [(PX_sam hP sJ (by simp)).1]; exact (ile (by omega) (by omega)).mpr (Nat.le_refl _)
    | succ m ih =>
      intro n J hm hJ sJ
      refine rX1_allow_2 ⟨fun q => ?_, fun _ => sX_isLast hs1 (by omega) ?_⟩
      · rw [(PX_sam hP sJ (by simp)).1, ile (by omega) (by omega)] at q; omega
      · rw [bI_eq]
        refine ⟨fun q => rX1_allow_48 ?_, fun q => ?_⟩
        · rw [nI_s]
          exact ih (n + 1) J (by omega) (TbL_go hL hs0 (by omega) hJ (fun _ => rfl) (fun z => by rw [q] at z; cases z)) sJ
        · have hl : lst s0 n = true := by simpa using q
          have hpl := plc_lt hs1 (show n < 10 by omega)
          refine sX_place (by omega) ?_
          rw [cl (by omega), cl (by omega), sJ 47 (by simp), hD n (by show n < pNc p; omega), hJ s0 n hs0 (by omega), alT_neg (fun z => absurd z.2.1 (Nat.lt_irrefl n))]
          refine ⟨ci hpl (by decide), ci (by omega) (by decide), fun x5 e5 => ⟨ci hpl (by decide), fun J6 e6 => rX1_allow_48 ?_⟩⟩
          rw [maxD (hB _ _) (hDb n (by omega))] at e5
          rw [nI_s]
          refine ih (n + 1) J6 (by omega) (TbL_go hL hs0 (by omega) hJ (fun z => absurd hl z) (fun _ k => ?_)) (by rw [e6]; exact sJ.u2 (by simp))
          rw [e6, up2_ap, if_pos rfl, e5]
  exact rX1_allow (go (pNc p) 0 I (by omega) (by rw [alT_0]; exact hT) Same.rf)
theorem sX_findL {L F : Nat} {T : Nat → Nat → Nat} {Q : MI → Prop} (hp : PlOk p) (hok : LdOk p b x) (hP : PX 24 p I) (hx : LX 30 p x I) (hL : SetOk p L) (h7 : I 50 7 = nI L) (hF : F ≤ 100000) (h8 : I 50 8 = nI F) (h53 : ∀ v, v < 10 → I 53 v = nI (sty p x v)) (h1 : T1 p x 0 (pSt p) L T) (hTI : ∀ s v, T s v ≤ INF) (hTb : TbX p L T I)
    (H : ∀ K B, LI p x L F 0 0 T B → TbL L B K → Same [47, 55] I K → Q K) : Wv mX1_findLatest [.ref 50] I Q := by
  have hnc := hp.2.1
  have hn2 := hp.1
  have hII : INF = 1000000000 := rfl
  have hL1 := hL.1
  have hLe := set_even hL
  have ok := nt_ok hp hok
  have inPX : ∀ J : MI, Same [47, 55] I J → PX 24 p J := fun J sJ => PX_sam hP sJ (by simp)
  have inLX : ∀ J : MI, Same [47, 55] I J → LX 30 p x J := fun J sJ => LX_sam hx sJ (by simp)
  have odd : ∀ a, a % 2 = 1 → ¬ sub a L := by
    intro a ha hs
    have := set_even (sub_ok hs hL)
    omega
  have rows : ∀ (m a : Nat) (B : Nat → Nat → Nat) (J : MI), m * 2 = a → a ≤ L → LI p x L F a 0 T B → TbL L B J → Same [47, 55] I J → LX1_findLatest_33 (nI a) J Q := by
    intro m
    induction m with
    | zero =>
      intro a B J hm haL hD hT sJ
      have : a = 0 := by omega
      subst this
      exact rX1_findLatest_33 ⟨fun _ => H J B hD hT sJ, fun q => absurd (by rw [nI_zero, ile (by decide) (by decide)]; omega) q⟩
    | succ m ih =>
      intro a B J hm haL hD hT sJ
      obtain ⟨a', ha'⟩ : ∃ a', a = a' + 2 := ⟨a - 2, by omega⟩
      have two : nI a + (-2) = nI a' := by rw [ha']; exact nI_m2 a'
      have h7J : J 50 7 = nI L := by rw [sJ 50 (by simp)]; exact h7
      refine rX1_findLatest_33 ⟨fun q => ?_, fun _ => sX_isPart (by omega) h7J (fun hs => ⟨fun _ => ?_, fun q => absurd q (by decide)⟩) (fun hs => ⟨fun q => absurd rfl q, fun _ => rX1_findLatest_128 ?_⟩)⟩
      · rw [nI_zero, ile (by omega) (by decide)] at q; omega
      · have go : ∀ (k v : Nat) (B : Nat → Nat → Nat) (K : MI), k + v = pNc p → 1 ≤ v → LI p x L F a v T B → TbL L B K → Same [47, 55] I K → LX1_findLatest_50 (nI a) (nI v) K Q := by
          intro k
          induction k with
          | zero =>
            intro v B K hk hv hD hT sK
            have : v = pNc p := by omega
            subst this
            refine rX1_findLatest_50 ⟨fun _ => rX1_findLatest_128 ?_, fun q => absurd ?_ q⟩
            · rw [two]
              rw [ha', show a' + 2 = a' + 1 + 1 from rfl] at hD
              exact ih a' B K (by omega) (by omega) (LI_jump (LI_row hp hL (Nat.le_refl _) hD) (odd (a' + 1) (by omega))) hT sK
            · rw [(inPX K sK).1]; exact (ile (by omega) (by omega)).mpr (Nat.le_refl _)
          | succ k ihk =>
            intro v B K hk hv hD hT sK
            have hv10 : v < 10 := by omega
            have hpl := plc_lt (show a < 1024 by omega) hv10
            have skp : ¬ (a.testBit v = true ∧ T a v < B a v) → ∀ l3, LX1_findLatest_122 (nI a) (nI v) l3 K Q := by
              intro hn l3
              refine rX1_findLatest_122 ?_
              rw [nI_s]
              exact ihk (v + 1) B K (by omega) (by omega) (LI_skip hD (fun _ hb' ht => hn ⟨hb', ht⟩)) hT sK
            have hla : lst a v = a.testBit v := by unfold lst; rw [if_neg (by omega)]
            refine rX1_findLatest_50 ⟨fun q => ?_, fun _ => sX_place (by omega) (sX_isLast (by omega) hv10 ?_)⟩
            · rw [(inPX K sK).1, ile (by omega) (by omega)] at q; omega
            · rw [bI_eq, hla]
              refine ⟨fun q => skp (fun z => by rw [q] at z; cases z.1) _, fun q => ?_⟩
              have hbit : a.testBit v = true := by simpa using q
              have hB1 := hD.1 a v
              have hTv : K 54 (plc a v) = xv (T a v) := by rw [sK 54 (by simp)]; exact hTb.2 a v hs (by omega) hv10
              rw [cl (by omega), hT a v hs hv10, hTv, dlt (by omega) (hTI a v)]
              refine ⟨ci hpl (by decide), ci hpl (by decide), fun z => skp (fun y => z y.2) _, fun z => ⟨ci hpl (by decide), ci hv10 (by decide), ?_⟩⟩
              have ht : T a v < B a v := Classical.not_not.mp z
              obtain ⟨w', c', -, -, e3⟩ := h1 a v hs (by omega) hbit (by omega)
              have hvn := (bit_lt hp hL (hs v hbit)).2.2
              have hm : dvI (B a v) - K 53 (nI v).toNatClampNeg = nI (B a v - 1 - sty p x v) := by
                rw [cl (by omega), sK 53 (by simp), h53 v hv10]
                refine toI_eq (by omega) ?_
                have hsl := sty_le (x := x) hp v
                rw [dsub (by omega) (by omega)]
                omega
              rw [hm]
              refine sX_departures ok (NX_PL (inPX K sK) (inLX K sK)) (show v < nNc (nt p x) from hvn) (by omega) (fun f hf => ⟨rfl, ?_⟩)
              have hdb : ∀ w, w < pNc p → ld (nt p x) v (B a v - 1 - sty p x v) w < 1073741824 := fun w _ => by
                have := ld_le ok (m := B a v - 1 - sty p x v) (v := w) (by omega) (show v < nNc (nt p x) from hvn)
                omega
              rw [b_clr (by omega) (by omega)]
              have sK1 : Same [47, 55] I (upA K 47 f) := sK.up (by simp)
              refine sX_allow (x := x) (D := lsrc p x B a v) (B := B) hp (inPX _ sK1) hL (fun i hi => hs i (clr_sub a v i hi)) (by rw [show upA K 47 f 47 = f from if_pos rfl]; exact hf) hdb (fun s w => by have := hD.1 s w; omega) (fun s i hs' hi => by rw [upA_ne K f (by decide)]; exact hT s i hs' hi) (fun K2 hK2 s2 => rX1_findLatest_122 ?_)
              rw [nI_s]
              exact ihk (v + 1) _ K2 (by omega) (by omega) (LI_use hp hok hL (by omega) hD hs hbit ht) hK2 (sK1.tr (s2.mo (by simp)))
        have h0 : LI p x L F a 1 T B := LI_skip hD (fun hs' hb' => by
          have := (hL.2 0 (hs' 0 hb')).1
          omega)
        exact go (pNc p - 1) 1 B J (by omega) (Nat.le_refl _) h0 hT sJ
      · rw [two]
        rw [ha', show a' + 2 = a' + 1 + 1 from rfl] at hD hs
        exact ih a' B J (by omega) (by omega) (LI_jump (LI_jump hD hs) (odd (a' + 1) (by omega))) hT sJ
  refine rX1_findLatest (sJ_fill55 (fun f hf => ?_))
  have n50 : upA I 55 f 50 = I 50 := upA_ne I f (by decide)
  have s1 : Same [47, 55] I (upA I 55 f) := Same.rf.up (by simp)
  rw [n50, h8, h7]
  refine sX_departures (g := 0) ok (NX_PL (inPX _ s1) (inLX _ s1)) (by show 0 < pNc p; omega) (by omega) (fun f2 hf2 => ⟨rfl, ?_⟩)
  have s2 : Same [47, 55] I (upA (upA I 55 f) 47 f2) := s1.up (by simp)
  refine sX_allow (x := x) (B := fun _ _ => 0) hp (inPX _ s2) hL (fun _ h => h) (by rw [show upA (upA I 55 f) 47 f2 47 = f2 from if_pos rfl]; exact hf2) (fun v _ => by
    have := ld_le ok (m := F) (v := v) (by omega) (show 0 < nNc (nt p x) by show 0 < pNc p; omega)
    omega) (fun _ _ => by decide) (fun s i hs hi => ?_) (fun K hK sK => ?_)
  · rw [upA_ne _ f2 (by decide), show upA I 55 f 55 = f from if_pos rfl, hf _ (plc_lt (sub_lt hL hs) hi)]
    rfl
  · have s3 : Same [47, 55] I K := s2.tr (sK.mo (by simp))
    rw [s3 50 (by simp), h7]
    exact rows (L / 2) L _ K (by omega) (Nat.le_refl _) (LI_jump (LI_start hp hok hL (by omega)) (odd (L + 1) (by omega))) hK s3
/-- the first next stop that is in time -/
theorem sX_first {L F s u t v : Nat} {T B : Nat → Nat → Nat} {Q : Int32 → MI → Prop} (hp : PlOk p) (hok : LdOk p b x) (hP : PX 24 p I) (hL : SetOk p L) (h7 : I 50 7 = nI L) (hFI : F < INF) (h53 : ∀ v, v < 10 → I 53 v = nI (sty p x v)) (h1 : T1 p x 0 (pSt p) L T) (h2 : T2 p x 0 (pSt p) L T) (hD : LI p x L F 0 0 T B) (hT : TbL L B I) (hs : sub s L) (hu : u < pNc p) (c : Nat) (he : En 0 (pSt p) T s u c) (hct : c ≤ t) (ht : t ≤ 30000) (hA : AX (nt p x) (ea (nt p x) u t) (I 46)) (hbF : bs p x u t (dif L s) = F) (hf : fs (fP p x F u t (dif L s)) 10 = some v) (H : Q (nI v) I) : Wi mX1_firstInTime [.ref 50, .int (nI s), .ref 46] I Q := by
  have hnc := hp.2.1
  have hII : INF = 1000000000 := rfl
  have hL1 := hL.1
  have hs1 := sub_lt hL hs
  have ok := nt_ok hp hok
  have hst := hp.2.2.2.2.2.2.1
  have hEA := ea_is ok (u := u) (t := t) (by omega)
  have hdo := sub_ok (dif_sub L s) hL
  obtain ⟨f1, f2, f3⟩ := fs_some _ _ hf
  have f2' := f2
  unfold fP at f2'
  rw [decide_eq_true_eq] at f2'
  obtain ⟨l1, l2, l3⟩ := bit_lt hp hdo f2'.1
  -- in time or not
  have say : ∀ w, (dif L s).testBit w = true → ea (nt p x) u t w < INF → (ea (nt p x) u t w + sty p x w < B (s ||| 2 ^ w) w ↔ bs p x w (ea (nt p x) u t w + sty p x w) (clr (dif L s) w) ≤ F) ∧ ea (nt p x) u t w + sty p x w < 100000 := by
    intro w hw hfw
    obtain ⟨m1, m2, m3⟩ := bit_lt hp hdo hw
    obtain ⟨k1, k2⟩ := dif_no hw
    have hm := ea_mon ok (u := u) hct (by omega) (show w < nNc (nt p x) from m3)
    have ht2 := h2 s u c w hs he k1 k2 (by omega)
    have hn3 : ea (nt p x) u t w + sty p x w ≤ 32200 := tnext (c := 30000) hp hok (by decide) (by decide) ht m3 hfw
    have hne : s ||| 2 ^ w ≠ 0 := by have := or_gt k2; omega
    have hb9 := bits_le hp (sub_ok (dif_sub L (s ||| 2 ^ w)) hL)
    have := LI_says hp hok hL hFI h1 h2 (by omega) hD (bits (dif L (s ||| 2 ^ w))) (s ||| 2 ^ w) w (T (s ||| 2 ^ w) w) (ea (nt p x) u t w + sty p x w) rfl (or_sub hs hw) (Or.inr ⟨hne, rfl, by omega, by rw [or_bit]; simp⟩) (by omega) (by omega)
    rw [dif_or]
    exact ⟨this, by omega⟩
  have go : ∀ (m w : Nat), m + w = v → 1 ≤ w → LX1_firstInTime_2 (nI s) (nI w) I Q := by
    intro m
    induction m with
    | zero =>
      intro w hm hw
      have : w = v := by omega
      subst this
      have hEI := hEA.2.2.2 w l3
      have hE : I 46 (nI w).toNatClampNeg = xv (ea (nt p x) u t w) := by rw [cl (by omega)]; exact hA w l3
      obtain ⟨s1, s2⟩ := say w f2'.1 f2'.2.1
      refine rX1_firstInTime_2 ⟨fun q => ?_, fun _ => ?_⟩
      · rw [hP.1, ile (by omega) (by omega)] at q; omega
      · rw [h7, b_has hL1 (by omega), hE, xv_eq hEI]
        refine ⟨fun q => (by rw [f2'.1] at q; cases q), fun _ => ⟨ci (by omega) (by decide), fun q => (by have := f2'.2.1; omega), fun _ => ?_⟩⟩
        refine rX1_firstInTime_41 ⟨fun q => absurd q (by decide), fun _ => ⟨ci (by omega) (by decide), ci (by omega) (by decide), ?_⟩⟩
        have hor := or_lt hs1 l1
        have hpl := plc_lt hor l1
        rw [b_or1 (by omega)]
        refine sX_place (by omega) ?_
        have hB1 := hD.1 (s ||| 2 ^ w) w
        have h53w : I 53 (nI w).toNatClampNeg = nI (sty p x w) := by rw [cl (by omega)]; exact h53 w l1
        rw [cl (n := plc (s ||| 2 ^ w) w) (by omega), hT _ w (or_sub hs f2'.1) l1, hE, h53w, xv_fin f2'.2.1, nI_add, ← xv_fin (d := ea (nt p x) u t w + sty p x w) (by omega), dlt (by omega) (by omega)]
        refine ⟨ci hpl (by decide), fun q => absurd ?_ q, fun _ => H⟩
        rw [s1, f2'.2.2]
        exact Nat.le_refl _
    | succ m ih =>
      intro w hm hw
      have hfw := f3 w (by omega)
      unfold fP at hfw
      rw [decide_eq_false_iff_not] at hfw
      have nx : ∀ t0, LX1_firstInTime_77 (nI s) (nI w) t0 I Q := by
        intro t0
        refine rX1_firstInTime_77 ?_
        rw [nI_s]
        exact ih (w + 1) (by omega) (by omega)
      have no : LX1_firstInTime_40 (nI s) (nI w) I Q := rX1_firstInTime_40 (rX1_firstInTime_41 ⟨fun _ => nx 0, fun q => absurd rfl q⟩)
      have hE : I 46 (nI w).toNatClampNeg = xv (ea (nt p x) u t w) := by rw [cl (by omega)]; exact hA w (by show w < pNc p; omega)
      have hEI := hEA.2.2.2 w (by show w < pNc p; omega)
      refine rX1_firstInTime_2 ⟨fun q => ?_, fun _ => ?_⟩
      · rw [hP.1, ile (by omega) (by omega)] at q; omega
      · rw [h7, b_has hL1 (by omega), hE, xv_eq hEI]
        refine ⟨fun _ => no, fun q => ⟨ci (by omega) (by decide), fun _ => no, fun z => ?_⟩⟩
        have hbit : (dif L s).testBit w = true := by simpa using q
        have hlt : ea (nt p x) u t w < INF := by
          have : nNc (nt p x) = pNc p := rfl
          omega
        obtain ⟨s1, s2⟩ := say w hbit hlt
        refine rX1_firstInTime_41 ⟨fun q => absurd q (by decide), fun _ => ⟨ci (by omega) (by decide), ci (by omega) (by decide), ?_⟩⟩
        have hor := or_lt hs1 (show w < 10 by omega)
        have hpl := plc_lt hor (show w < 10 by omega)
        rw [b_or1 (by omega)]
        refine sX_place (by omega) ?_
        have hB1 := hD.1 (s ||| 2 ^ w) w
        have h53w : I 53 (nI w).toNatClampNeg = nI (sty p x w) := by rw [cl (by omega)]; exact h53 w (by omega)
        rw [cl (n := plc (s ||| 2 ^ w) w) (by omega), hT _ w (or_sub hs hbit) (by omega), hE, h53w, xv_fin hlt, nI_add, ← xv_fin (d := ea (nt p x) u t w + sty p x w) (by omega), dlt (by omega) (by omega)]
        refine ⟨ci hpl (by decide), fun _ => nx 1, fun y => ?_⟩
        have y' := s1.mp (Classical.not_not.mp y)
        have hst2 := bs_step (x := x) (u := u) (t := t) hp hdo hbit hlt
        exact absurd ⟨hbit, hlt, by omega⟩ hfw
  exact rX1_firstInTime (go (v - 1) 1 (by omega) (Nat.le_refl _))
abbrev cXf : List Nat := [46, 47, 50, 51, 52, 53, 54, 55]
theorem sX_walk {L F : Nat} {T B : Nat → Nat → Nat} {Q : MI → Prop} (hp : PlOk p) (hok : LdOk p b x) (hP : PX 24 p I) (hx : LX 30 p x I) (hL : SetOk p L) (h7 : I 50 7 = nI L) (hFI : F < INF) (h53 : ∀ v, v < 10 → I 53 v = nI (sty p x v)) (h1 : T1 p x 0 (pSt p) L T) (h2 : T2 p x 0 (pSt p) L T) (hTI : ∀ s v, T s v ≤ INF) (hD : LI p x L F 0 0 T B) (hT : TbL L B I) (hbF : bs p x 0 (pSt p) L = F) (hr0 : RtX 51 [] I)
    (H : ∀ K, RtX 51 (ford p x F 10 0 (pSt p) L) K → Same [46, 51, 52] I K → Q K) : Wv mX1_walk [.ref 50] I Q := by
  have hnc := hp.2.1
  have hn2 := hp.1
  have hII : INF = 1000000000 := rfl
  have hL1 := hL.1
  have hst := hp.2.2.2.2.2.2.1
  have ok := nt_ok hp hok
  have hbL := bits_le hp hL
  have go : ∀ (n s u t c : Nat) (r : List Nat) (J : MI), bits (dif L s) ≤ n → n + r.length = 10 → t + 2200 * n ≤ 30000 → sub s L → u < pNc p → En 0 (pSt p) T s u c → c ≤ t → bs p x u t (dif L s) = F → RtX 51 r J → Same [46, 51, 52] I J → r ++ ford p x F n u t (dif L s) = ford p x F 10 0 (pSt p) L → LX1_walk_15 (nI s) (nI u) (nI t) (nI r.length) J Q := by
    intro n
    induction n with
    | zero =>
      intro s u t c r J hb hl hTm hs hu he hct hbe hr sJ hro
      have hd0 : dif L s = 0 := (set_zero (dif_lt hL1)).mpr (by omega)
      rw [hd0, ford_zero, List.append_nil] at hro
      refine rX1_walk_15 ⟨fun _ => H J (by rw [← hro]; exact hr) sJ, fun q => absurd ?_ q⟩
      rw [nI_10, ile (by decide) (by omega)]; omega
    | succ n ih =>
      intro s u t c r J hb hl hTm hs hu he hct hbe hr sJ hro
      rw [Nat.mul_add, Nat.mul_one] at hTm
      have hs1 := sub_lt hL hs
      have hPJ := PX_sam hP sJ (by simp)
      have hxJ := LX_sam hx sJ (by simp)
      have h7J : J 50 7 = nI L := by rw [sJ 50 (by simp)]; exact h7
      refine rX1_walk_15 ⟨fun q => ?_, fun _ => ?_⟩
      · rw [nI_10, ile (by decide) (by omega)] at q; omega
      · rw [h7J, ieq (by omega) (by omega)]
        refine ⟨fun q => ?_, fun q => ?_⟩
        · subst q
          rw [dif_self, ford_zero, List.append_nil] at hro
          exact H J (by rw [← hro]; exact hr) sJ
        · have hd0 : dif L s ≠ 0 := by
            intro z
            apply q
            have := (dif_0 L s).mp z
            apply Nat.eq_of_testBit_eq
            intro i
            cases hi : s.testBit i with
            | true => rw [hs i hi]
            | false =>
              cases hj : L.testBit i with
              | false => rfl
              | true => have := this i hj; rw [hi] at this; cases this
          have hdo := sub_ok (dif_sub L s) hL
          obtain ⟨v, f1, f2, f3, f4, f5⟩ := ford_step (x := x) (u := u) (t := t) hp hdo hd0 hbe hFI
          obtain ⟨l1, l2, l3⟩ := bit_lt hp hdo f2
          rw [ford_some f1] at hro
          refine sX_arrivals ok (NX_PL hPJ hxJ) hu (by omega) (fun f hf => ⟨rfl, ?_⟩)
          have s1 : Same [46, 51, 52] I (upA J 46 f) := sJ.up (by simp)
          have a46 : upA J 46 f 46 = f := if_pos rfl
          refine sX_first hp hok (PX_sam hP s1 (by simp)) hL (by rw [s1 50 (by simp)]; exact h7) hFI (fun w hw => by rw [s1 53 (by simp)]; exact h53 w hw) h1 h2 hD (fun s' i hs' hi => by rw [s1 55 (by simp)]; exact hT s' i hs' hi) hs hu c he hct (by omega) (by rw [a46]; exact hf) hbe f1 ⟨ci (by omega) (by decide), ci (by omega) (by decide), ?_⟩
          have hrJ : RtX 51 r (upA J 46 f) := by unfold RtX; rw [upA_ne J f (by decide), upA_ne J f (by decide)]; exact hr
          refine sX_add51 hrJ (by omega) (fun J5 r5 s5 => ?_)
          have e46 : upA J 46 f 46 (nI v).toNatClampNeg = nI (ea (nt p x) u t v) := by rw [cl (by omega), a46, ← xv_fin f3]; exact hf v l3
          have e53 : upA J 46 f 53 (nI v).toNatClampNeg = nI (sty p x v) := by rw [cl (by omega), s1 53 (by simp)]; exact h53 v l1
          rw [e46, e53, nI_add, b_or1 (by omega), nI_s]
          obtain ⟨k1, k2⟩ := dif_no f2
          have hm := ea_mon ok (u := u) hct (by omega) (show v < nNc (nt p x) from l3)
          have ht2 := h2 s u c v hs he k1 k2 (by omega)
          have hcb := clr_bits l1 f2
          rw [dif_or] at hcb f4 hro
          have hne : s ||| 2 ^ v ≠ 0 := by have := or_gt k2; omega
          have hb9 := bits_le hp hdo
          have hn3 : ea (nt p x) u t v + sty p x v + 2200 * n ≤ 30000 := by
            rcases Nat.le_total 1440 t with z | z
            · have := tnext (c := t) hp hok z (by omega) (Nat.le_refl _) l3 f3; omega
            · have := tnext (c := 1440) hp hok (Nat.le_refl _) (by decide) z l3 f3; omega
          have := ih (s ||| 2 ^ v) v (ea (nt p x) u t v + sty p x v) (T (s ||| 2 ^ v) v) (r ++ [v]) J5 (by omega) (by simp; omega) hn3 (or_sub hs f2) l3 (Or.inr ⟨hne, rfl, by omega, by rw [or_bit]; simp⟩) (by omega) f4 r5 (s1.tr (s5.mo (by simp))) (by rw [List.append_assoc]; exact hro)
          rw [show (r ++ [v]).length = r.length + 1 by simp] at this
          exact this
  refine rX1_walk ?_
  rw [hP.2.2.2.2.1]
  exact go 10 0 0 (pSt p) (pSt p) [] I (by rw [dif_zero]; omega) rfl (by omega) (fun i hi => by simp at hi) (by omega) (Or.inl ⟨rfl, rfl, rfl⟩) (Nat.le_refl _) (by rw [dif_zero]; exact hbF) hr0 Same.rf (by rw [dif_zero]; rfl)
noncomputable def frx (p : Pl) (x : Ld) : List Nat := if ffin p x < INF then frt p x else []
/-- what the search holds, once it is known -/
def FX (p : Pl) (x : Ld) (I : MI) : Prop := I 50 8 = xv (ffin p x) ∧ RtX 51 (frx p x) I
theorem ffin_le (hp : PlOk p) (hok : LdOk p b x) : ffin p x ≤ INF := by
  unfold ffin
  split
  · exact Nat.le_refl _
  · exact bs_inf hp hok (by have := hp.2.2.2.2.2.2.1; have hII : INF = 1000000000 := rfl; omega) (stp_ok hp).1
theorem sX_find {Q : MI → Prop} (hp : PlOk p) (hok : LdOk p b x) (hb : b ≤ 100000) (hP : PX 24 p I) (hx : LX 30 p x I) (hk : I 50 9 = 0 ∨ (I 50 9 = 1 ∧ FX p x I))
    (H : ∀ J, J 50 9 = 1 → FX p x J → Same cXf I J → Q J) : Wv mX1_find [.ref 50] I Q := by
  have hII : INF = 1000000000 := rfl
  have hn2 := hp.1
  have hst := hp.2.2.2.2.2.2.1
  have hcap := hp.2.2.2.2.2.1
  have hto := tot_le hp hok
  have hL := stp_ok (x := x) hp
  refine rX1_find ⟨fun q I1 e1 I2 e2 => ?_, fun q => ?_⟩
  · have s2 : Same cXf I I2 := by rw [e2, e1]; exact (Same.rf.u2 (by simp)).u2 (by simp)
    refine sX_clear51 (fun I3 r3 s3 => ?_)
    have s3' : Same cXf I I3 := s2.tr (s3.mo (by simp))
    have a8 : I3 50 8 = 2147483647 := by rw [s3 50 (by simp), e2, up2_same]
    have a9 : I3 50 9 = 1 := by rw [s3 50 (by simp), e2, up2_slot _ _ (by decide), e1, up2_same]
    refine sX_sum hp hok hb (PX_sam hP s3' (by simp)) (LX_sam hx s3' (by simp)) ?_
    rw [(PX_sam hP s3' (by simp)).2.2.2.1, ile (by omega) (by omega)]
    refine ⟨fun z => sX_stops hp hok hb (PX_sam hP s3' (by simp)) (LX_sam hx s3' (by simp)) (fun I8 e8 => ?_), fun z => ?_⟩
    · have hfe : ffin p x = bs p x 0 (pSt p) (stp p x (pHc p)) := by unfold ffin; rw [if_neg (by omega)]
      have s8 : Same cXf I I8 := by rw [e8]; exact s3'.u2 (by simp)
      have r8 : RtX 51 [] I8 := by unfold RtX; rw [e8, up2_cell _ _ _ (by decide), up2_cell _ _ _ (by decide)]; exact r3
      have b7 : I8 50 7 = nI (stp p x (pHc p)) := by rw [e8, up2_same]
      have b8 : I8 50 8 = 2147483647 := by rw [e8, up2_slot _ _ (by decide)]; exact a8
      have b9 : I8 50 9 = 1 := by rw [e8, up2_slot _ _ (by decide)]; exact a9
      refine sX_sumV hp hok hb (PX_sam hP s8 (by simp)) (LX_sam hx s8 (by simp)) (fun I9 h53 s9 => ?_)
      have s9' : Same cXf I I9 := s8.tr (s9.mo (by simp))
      have f50 : I9 50 = I8 50 := s9 50 (by simp)
      refine sX_findE hp hok (PX_sam hP s9' (by simp)) (LX_sam hx s9' (by simp)) hL (by rw [f50]; exact b7) (by rw [f50]; exact b8) h53 (fun I10 T h1 h2 hTI hTn hTb h8 s10 s50 => ?_)
      have s10' : Same cXf I I10 := s9'.tr (s10.mo (by simp))
      have c7 : I10 50 7 = nI (stp p x (pHc p)) := by rw [s50 7 (by decide), f50]; exact b7
      have c9 : I10 50 9 = 1 := by rw [s50 9 (by decide), f50]; exact b9
      have r10 : RtX 51 [] I10 := by unfold RtX; rw [s10 51 (by simp), s10 (51 + 1) (by simp), s9 51 (by simp), s9 (51 + 1) (by simp)]; exact r8
      have c53 : ∀ v, v < 10 → I10 53 v = nI (sty p x v) := fun v hv => by rw [s10 53 (by simp)]; exact h53 v hv
      rw [← hfe] at h8
      have hfl := ffin_le hp hok
      rw [h8, xv_eq hfl]
      refine ⟨fun y => H I10 c9 ⟨h8, ?_⟩ s10', fun y => ?_⟩
      · unfold frx; rw [if_neg (by omega)]; exact r10
      · have hlt : ffin p x < INF := by omega
        -- the end is soon enough for the search
        have hFb : ffin p x ≤ 100000 := by
          have hbL := bits_le hp hL
          rw [hfe] at hlt ⊢
          obtain ⟨s, w, c, k1, k2, k3, k4⟩ := tab_up (c0 := 1440) hp hok hL h1 h2 (by omega) (by omega) (Nat.le_refl _) (by decide) hlt (bits (stp p x (pHc p))) (Nat.le_refl _)
          have hlo := tab_lo hp hL h1 _ s w c k2 k1 k3
          have hcb := en_bd (c0 := 1440) hp hok hL h1 (by omega) (Nat.le_refl _) (by decide) _ s w c k2 k1 k3
          have hsL : dif (stp p x (pHc p)) s = 0 := by
            rw [dif_0]
            intro i hi
            cases hsi : s.testBit i with
            | true => rfl
            | false =>
              have := cnt_lt (p := fun v => s.testBit v) (q := fun v => (stp p x (pHc p)).testBit v) (w := i) (n := 10) (fun k _ hk => k1 k hk) (bit_lt hp hL hi).1 hsi hi
              unfold bits at k2
              omega
          rw [hsL, bs_zero] at hlo k4
          have hlt2 : ea (nt p x) w c 0 < INF := by omega
          have hcc : 1440 + 2200 * bits (stp p x (pHc p)) ≤ 400000000 := by omega
          have := ea_dr hp hok hcb (Nat.le_add_right _ _) hcc (show 0 < pNc p by omega) hlt2
          omega
        rw [xv_fin hlt] at h8
        refine sX_findL hp hok (PX_sam hP s10' (by simp)) (LX_sam hx s10' (by simp)) hL c7 hFb h8 c53 h1 hTI hTb (fun I11 B hD hB s11 => ?_)
        have s11' : Same cXf I I11 := s10'.tr (s11.mo (by simp))
        refine sX_walk hp hok (PX_sam hP s11' (by simp)) (LX_sam hx s11' (by simp)) hL (by rw [s11 50 (by simp)]; exact c7) hlt (fun v hv => by rw [s11 53 (by simp)]; exact c53 v hv) h1 h2 hTI hD hB hfe.symm (by unfold RtX; rw [s11 51 (by simp), s11 (51 + 1) (by simp)]; exact r10) (fun K rK sK => H K ?_ ⟨?_, ?_⟩ (s11'.tr (sK.mo (by simp))))
        · rw [sK 50 (by simp), s11 50 (by simp)]; exact c9
        · rw [sK 50 (by simp), s11 50 (by simp), xv_fin hlt]; exact h8
        · unfold frx; rw [if_pos hlt]; exact rK
    · have hfe : ffin p x = INF := by unfold ffin; rw [if_pos (by omega)]
      refine H I3 a9 ⟨by rw [a8, hfe]; rfl, ?_⟩ s3'
      unfold frx; rw [if_neg (by omega)]; exact r3
  · rcases hk with z | ⟨z1, z2⟩
    · exact absurd z q
    · exact H I z1 z2 Same.rf
end
