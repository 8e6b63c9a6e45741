/-! the reference's least end -/
def TbM (L : Nat) (T : Nat → Nat → Nat) (I : MI) : Prop := ∀ s v, sub s L → v < 10 → I 281 (10 * s + v) = nI (T s v)
theorem ix10 (s v : Nat) : (10 : Int32) * nI s + nI v = nI (10 * s + v) := by
  rw [show (10 : Int32) * nI s = nI (10 * s) from pk_mul 10 s, nI_add]
theorem e1024 : (1024 : Int32) = nI 1024 := rfl
theorem eINF : (1000000000 : Int32) = nI INF := rfl
abbrev cM8 : List Nat := [278, 279, 281]
theorem sub_lt {p : Pl} {s L : Nat} (hL : SetOk p L) (h : sub s L) : s < 1024 := (sub_ok h hL).1
section
variable {p : Pl} {x : Ld} {b : Nat} {I : MI}
/-- one more stop is tried at the end of a row's place -/
theorem TbM_go {L a w c n : Nat} {T : Nat → Nat → Nat} {J K : MI} (hp : PlOk p) (hL : SetOk p L) (hn : n < 10) (hT : TbM L (goT p x L a w c n T) J) (hI : ∀ s v, T s v ≤ INF)
    (h1 : ¬ ((dif L a).testBit n = true ∧ ea (nt p x) w c n < INF) → K 281 = J 281)
    (h2 : (dif L a).testBit n = true → ea (nt p x) w c n < INF → ∀ k, K 281 k = if k = 10 * (a ||| 2 ^ n) + n then nI (min (T (a ||| 2 ^ n) n) (ea (nt p x) w c n + sty p x n)) else J 281 k) : TbM L (goT p x L a w c (n + 1) T) K := by
  intro s i hs hi
  rw [goT_s]
  by_cases q : (dif L a).testBit n = true ∧ ea (nt p x) w c n < INF
  · rw [h2 q.1 q.2]
    by_cases e : s = a ||| 2 ^ n ∧ i = n
    · rw [if_pos (by rw [e.1, e.2]), if_pos ⟨e.1, e.2, q⟩, e.1, e.2]
    · rw [if_neg (fun z => e ⟨by omega, by omega⟩), if_neg (fun z => e ⟨z.1, z.2.1⟩)]
      exact hT s i hs hi
  · rw [h1 q, if_neg (fun z => q z.2.2)]
    exact hT s i hs hi
theorem sM_goes {L a w c : Nat} {T : Nat → Nat → Nat} {Q : MI → Prop} (hp : PlOk p) (hok : LdOk p b x) (hb : b ≤ 100000) (hP : PM p I) (hx : LM 274 0 p x I) (hL : SetOk p L) (ha : sub a L) (hw : w < pNc p) (hc : c ≤ 200000000) (hT : TbM L T I) (hTc : T a w = c) (hI : ∀ s v, T s v ≤ INF)
    (H : ∀ K, TbM L (goT p x L a w c 10 T) K → SamM cM8 [] I K → Q K) : Wv mX12_goesOn [.ref 261, .int (nI a), .int (nI w), .int (nI L)] I Q := by
  have hnc := hp.2.1
  have hII : INF = 1000000000 := rfl
  have ha1 := sub_lt hL ha
  have hL1 := hL.1
  refine rX12_goesOn ?_
  rw [ix10, cl (by omega), hT a w ha (by omega), hTc]
  refine ⟨ci (by omega) (by decide), ?_⟩
  refine sM_lay (nt_ok hp hok) (NM_PL hP hx) hw (by omega) (fun f g hA => ?_)
  have hEA := ea_is (nt_ok hp hok) (u := w) (t := c) (by omega)
  have go : ∀ (m n : Nat) (J : MI), m + n = 10 → TbM L (goT p x L a w c n T) J → J 278 = f → SamM cM8 [] I J → LX12_goesOn_19 (nI a) (nI w) (nI L) (nI n) J Q := by
    intro m
    induction m with
    | zero =>
      intro n J hm hJ h278 sJ
      have : n = 10 := by omega
      subst this
      exact rX12_goesOn_19 ⟨fun _ => H J hJ sJ, fun q => absurd (by rw [nI_10, ile (by decide) (by decide)]; omega) q⟩
    | succ m ih =>
      intro n J hm hJ h278 sJ
      have hPJ := PM_sam hP sJ (by simp)
      have hxJ := LM_sam hx sJ (by decide) (by simp)
      have same : ¬ ((dif L a).testBit n = true ∧ ea (nt p x) w c n < INF) → LX12_goesOn_99 (nI a) (nI w) (nI L) (nI n) J Q := by
        intro q
        refine rX12_goesOn_99 ?_
        rw [nI_s]
        exact ih (n + 1) J (by omega) (TbM_go hp hL (by omega) hJ hI (fun _ => rfl) (fun z1 z2 => absurd ⟨z1, z2⟩ q)) h278 sJ
      refine rX12_goesOn_19 ⟨fun q => ?_, fun _ => ?_⟩
      · rw [nI_10, ile (by decide) (by omega)] at q; omega
      · rw [b_has hL1 (by omega)]
        refine ⟨fun q => same (fun z => by rw [q] at z; cases z.1), fun q => ?_⟩
        have q' : (dif L a).testBit n = true := by simpa using q
        have qb := q'
        rw [dif_bit, Bool.and_eq_true, Bool.not_eq_true'] at qb
        obtain ⟨l1, l2, l3⟩ := bit_lt hp hL qb.1
        have hE : J 278 (nI n).toNatClampNeg = nI (ea (nt p x) w c n) := by rw [cl (by omega), h278]; exact hA n l3
        have hEI := hEA.2.2.2 n l3
        have hor := or_lt ha1 l1
        rw [hE, eINF, ieq (by omega) (by omega), b_or1 (by omega), ix10, cl (by omega)]
        refine ⟨ci (by omega) (by decide), fun z => ⟨ci (by omega) (by decide), ci (by omega) (by decide), ?_⟩, fun z => same (fun y => by omega)⟩
        refine sM_stay hp hok hb hPJ hxJ l1 (fun x3 e3 => ⟨ci (by omega) (by decide), fun I4 e4 => rX12_goesOn_99 ?_⟩)
        have hlt : ea (nt p x) w c n < INF := by omega
        have hsub : sub (a ||| 2 ^ n) L := fun i hi => by
          rw [or_bit, Bool.or_eq_true, decide_eq_true_eq] at hi
          rcases hi with y | y
          · exact ha i y
          · rw [← y]; exact qb.1
        have hTv := hJ (a ||| 2 ^ n) n hsub l1
        have hgo : goT p x L a w c n T (a ||| 2 ^ n) n = T (a ||| 2 ^ n) n := by unfold goT; rw [if_neg (fun y => absurd y.1 (Nat.lt_irrefl n))]
        rw [hgo] at hTv
        have hTI := hI (a ||| 2 ^ n) n
        have hst := sty_le (x := x) hp n
        rw [hTv, nI_add, minI (by omega) (by omega)] at e3
        rw [nI_s]
        refine ih (n + 1) I4 (by omega) (TbM_go hp hL (by omega) hJ hI (fun y => absurd ⟨q', hlt⟩ y) (fun _ _ k => ?_)) ?_ ?_
        · rw [e4, up2_ap, if_pos rfl, e3]
        · rw [e4, up2_cell _ _ _ (by decide)]; exact h278
        · rw [e4]; exact sJ.u2 (by simp) (by decide)
  refine go 10 0 _ rfl ?_ ?_ (SamM.rf.m2 (by simp) (by simp))
  · rw [goT_0]
    intro s v hs hv
    rw [mem2_n I f g (by decide) (by decide)]
    exact hT s v hs hv
  · unfold mem2
    rw [upA_ne _ g (by decide)]
    exact if_pos rfl
theorem sM_best {u t L : Nat} {Q : Int32 → MI → Prop} (hp : PlOk p) (hok : LdOk p b x) (hb : b ≤ 100000) (hP : PM p I) (hx : LM 274 0 p x I) (hL : SetOk p L) (hu : u < pNc p) (ht : t ≤ 100000000)
    (H : ∀ J, SamM cM8 [] I J → Q (nI (bs p x u t L)) J) : Wi mX12_bestEnd [.ref 261, .int (nI u), .int (nI t), .int (nI L)] I Q := by
  have hnc := hp.2.1
  have h2 := hp.1
  have hII : INF = 1000000000 := rfl
  have hL1 := hL.1
  have hbL := bits_le hp hL
  -- the end: the least over the last stops
  have ph3 : ∀ (T : Nat → Nat → Nat) (J : MI), L ≠ 0 → T1 p x u t L T → T2 p x u t L T → (∀ s v, T s v ≤ INF) → TbM L T J → SamM cM8 [] I J → LX12_bestEnd_227 (nI u) (nI t) (nI L) (nI INF) 0 J Q := by
    intro T J hL0 hT1 hT2 hTI hTb sJ
    have go : ∀ (m v : Nat) (K : MI), m + v = 10 → TbM L T K → SamM cM8 [] I K → LX12_bestEnd_227 (nI u) (nI t) (nI L) (nI (bmin (fun v => if L.testBit v = true ∧ T L v < INF then ea (nt p x) v (T L v) 0 else INF) v)) (nI v) K Q := by
      intro m
      induction m with
      | zero =>
        intro v K hm hK sK
        have : v = 10 := by omega
        subst this
        refine rX12_bestEnd_227 ⟨fun _ => ?_, fun q => absurd (by rw [nI_10, ile (by decide) (by decide)]; omega) q⟩
        have e := tab_min (c0 := max t 1440) hp hok hL hT1 hT2 hu (by omega) (by omega) (by omega) (bmin (fun v => if L.testBit v = true ∧ T L v < INF then ea (nt p x) v (T L v) 0 else INF) 10) (bmin_inf _ _) (fun w c he => ?_) (fun hf => ?_)
        · rw [e]; exact H K sK
        · rcases he with ⟨q, -⟩ | ⟨-, q2, q3, q4⟩
          · exact absurd q hL0
          · have := bmin_le (f := fun v => if L.testBit v = true ∧ T L v < INF then ea (nt p x) v (T L v) 0 else INF) (v := w) 10 (bit_lt hp hL q4).1
            rw [if_pos ⟨q4, by omega⟩, q2] at this
            exact this
        · obtain ⟨v, -, hv⟩ := bmin_at _ _ hf
          by_cases q : L.testBit v = true ∧ T L v < INF
          · rw [if_pos q] at hv
            exact ⟨v, T L v, Or.inr ⟨hL0, rfl, q.2, q.1⟩, hv⟩
          · rw [if_neg q] at hv; omega
      | succ m ih =>
        intro v K hm hK sK
        have hPK := PM_sam hP sK (by simp)
        have hxK := LM_sam hx sK (by decide) (by simp)
        have nx := ih (v + 1)
        simp only [bmin] at nx
        have hbi := bmin_inf (fun v => if L.testBit v = true ∧ T L v < INF then ea (nt p x) v (T L v) 0 else INF) v
        have skp : ¬ (L.testBit v = true ∧ T L v < INF) → LX12_bestEnd_289 (nI u) (nI t) (nI L) (nI (bmin (fun v => if L.testBit v = true ∧ T L v < INF then ea (nt p x) v (T L v) 0 else INF) v)) (nI v) K Q := by
          intro q
          refine rX12_bestEnd_289 ?_
          have := nx K (by omega) hK sK
          rw [if_neg q, Nat.min_eq_left hbi] at this
          rw [nI_s]; exact this
        refine rX12_bestEnd_227 ⟨fun q => ?_, fun _ => ⟨fun q => skp (fun z => ?_), fun q => ?_⟩⟩
        · rw [nI_10, ile (by decide) (by omega)] at q; omega
        · rw [eq_sh (by omega) (by omega) q] at z; cases z.1
        · have hv := ne_sh (by omega) (by omega) q
          obtain ⟨l1, l2, l3⟩ := bit_lt hp hL hv
          have hTv := hK L v (fun _ h => h) l1
          have hTi := hTI L v
          rw [ix10, cl (by omega), hTv, eINF, ieq (by omega) (by omega)]
          refine ⟨ci (by omega) (by decide), fun z => ⟨ci (by omega) (by decide), ?_⟩, fun z => skp (fun y => by omega)⟩
          have hlt : T L v < INF := by omega
          have hbd := en_bd (c0 := max t 1440) hp hok hL hT1 (by omega) (by omega) (by omega) (bits L) L v (T L v) rfl (fun _ h => h) (Or.inr ⟨hL0, rfl, hlt, hv⟩)
          have hEI := (ea_is (nt_ok hp hok) (u := v) (t := T L v) hlt).2.2.2 0 (by show 0 < pNc p; omega)
          refine sM_arrivalOf (v := 0) (nt_ok hp hok) (NM_PL hPK hxK) l3 (by show 0 < pNc p; omega) (by omega) (fun f g hA x3 e3 => rX12_bestEnd_289 ?_)
          rw [minI (by omega) (by omega)] at e3
          have := nx (mem2 K f g) (by omega) (fun s i hs hi => by rw [mem2_n K f g (by decide) (by decide)]; exact hK s i hs hi) (sK.m2 (by simp) (by simp))
          rw [if_pos ⟨hv, hlt⟩] at this
          rw [nI_s, e3]; exact this
    exact go 10 0 J rfl hTb sJ
  -- the rows
  have ph2 : ∀ (m a : Nat) (T : Nat → Nat → Nat) (J : MI), m + a = 1024 → 1 ≤ a → L ≠ 0 → DI p x u t L a 0 T → TbM L T J → SamM cM8 [] I J → LX12_bestEnd_145 (nI u) (nI t) (nI L) (nI a) J Q := by
    intro m
    induction m with
    | zero =>
      intro a T J hm h1 hL0 hD hT sJ
      have : a = 1024 := by omega
      subst this
      exact rX12_bestEnd_145 ⟨fun _ => ph3 T J hL0 (DI_T1 hD) (DI_end hD (by omega)) hD.1 hT sJ, fun q => absurd (by rw [e1024, ile (by decide) (by decide)]; omega) q⟩
    | succ m ih =>
      intro a T J hm h1 hL0 hD hT sJ
      refine rX12_bestEnd_145 ⟨fun q => ?_, fun _ => ?_⟩
      · rw [e1024, ile (by decide) (by omega)] at q; omega
      · rw [b_sub (show a < 1024 by omega), ieq (by omega) (by omega)]
        refine ⟨fun q => rX12_bestEnd_214 ?_, fun q => ⟨fun z => ?_, fun z => rX12_bestEnd_214 ?_⟩⟩
        · rw [nI_s]; exact ih (a + 1) T J (by omega) (by omega) hL0 (DI_jump hD q) hT sJ
        · have go : ∀ (k v : Nat) (T : Nat → Nat → Nat) (K : MI), k + v = 10 → DI p x u t L a v T → TbM L T K → SamM cM8 [] I K → LX12_bestEnd_174 (nI u) (nI t) (nI L) (nI a) (nI v) K Q := by
            intro k
            induction k with
            | zero =>
              intro v T K hk hD hT sK
              have : v = 10 := by omega
              subst this
              refine rX12_bestEnd_174 ⟨fun _ => rX12_bestEnd_214 ?_, fun y => absurd (by rw [nI_10, ile (by decide) (by decide)]; omega) y⟩
              rw [nI_s]; exact ih (a + 1) T K (by omega) (by omega) hL0 (DI_row hp hL hu (by omega) hD) hT sK
            | succ k ihk =>
              intro v T K hk hD hT sK
              have hTv := hT a v q (by omega)
              have hTI := hD.1 a v
              refine rX12_bestEnd_174 ⟨fun y => ?_, fun _ => ?_⟩
              · rw [nI_10, ile (by decide) (by omega)] at y; omega
              · rw [ix10, cl (by omega), hTv, eINF, ile (by omega) (by omega)]
                refine ⟨ci (by omega) (by decide), fun y => rX12_bestEnd_208 ?_, fun y => ?_⟩
                · rw [nI_s]
                  refine ihk (v + 1) T K (by omega) (DI_skip hD (fun c _ he => ?_)) hT sK
                  rcases he with ⟨w1, -⟩ | ⟨-, w2, w3, -⟩
                  · omega
                  · omega
                · have hbit : a.testBit v = true := by
                    cases hb' : a.testBit v with
                    | true => rfl
                    | false => have := hD.2.1 a v q (by omega) hb'; omega
                  have hlt : T a v < INF := by omega
                  have hen : En u t T a v (T a v) := Or.inr ⟨by omega, rfl, hlt, hbit⟩
                  have hba := sub_bits q
                  have hbd := en_bd (c0 := max t 1440) hp hok hL (DI_T1 hD) (by omega) (by omega) (by omega) (bits a) a v (T a v) rfl q hen
                  have hvn := (bit_lt hp hL (q v hbit)).2.2
                  refine sM_goes hp hok hb (PM_sam hP sK (by simp)) (LM_sam hx sK (by decide) (by simp)) hL q hvn (by omega) hT rfl hD.1 (fun K2 hK2 s2 => rX12_bestEnd_208 ?_)
                  rw [nI_s]
                  refine ihk (v + 1) _ K2 (by omega) (DI_go hp hL hD q hen (fun w hw hf => ?_)) hK2 (sK.tr s2)
                  have := tnext (c := max t 1440 + 2200 * bits a) hp hok (by omega) (by omega) hbd hw hf
                  omega
          exact go 10 0 T J rfl hD hT sJ
        · rw [nI_s]
          subst z
          refine ih (a + 1) T J (by omega) (by omega) hL0 ?_ hT sJ
          obtain ⟨d1, d2, d3, d4⟩ := hD
          refine ⟨d1, d2, fun s v hs h0 hb' hf => ?_, fun s w c v hs hpr hen hLv hsv hf => ?_⟩
          · obtain ⟨k1, k2⟩ := d3 s v hs h0 hb' hf
            exact ⟨by omega, k2⟩
          · refine d4 s w c v hs ?_ hen hLv hsv hf
            have h1 : s ≤ a := Nat.le_of_testBit hs
            rcases Nat.lt_or_ge s a with y | y
            · exact Or.inl y
            · have : s = a := by omega
              subst this
              rw [hsv] at hLv; cases hLv
  -- the first stops
  have ph1 : ∀ (f : Nat → Int32), AM (nt p x) (ea (nt p x) u t) f → L ≠ 0 → ∀ (m n : Nat) (J : MI), m + n = 10 → TbM L (goT p x L 0 u t n (fun _ _ => INF)) J → J 278 = f → SamM cM8 [] I J → LX12_bestEnd_78 (nI u) (nI t) (nI L) (nI n) J Q := by
    intro f hA hL0 m
    have hEA := ea_is (nt_ok hp hok) (u := u) (t := t) (by omega)
    induction m with
    | zero =>
      intro n J hm hJ h278 sJ
      have : n = 10 := by omega
      subst this
      refine rX12_bestEnd_78 ⟨fun _ => ?_, fun q => absurd (by rw [nI_10, ile (by decide) (by decide)]; omega) q⟩
      refine ph2 1023 1 _ J rfl (Nat.le_refl _) hL0 ?_ hJ sJ
      have sk : ∀ v, v ≤ u → DI p x u t L 0 v (fun _ _ => INF) := by
        intro v
        induction v with
        | zero => intro _; exact DI_start
        | succ v ihv =>
          intro hv
          refine DI_skip (ihv (by omega)) (fun c _ he => ?_)
          rcases he with ⟨-, w2, -⟩ | ⟨w1, -⟩
          · omega
          · exact absurd rfl w1
      have d0 := DI_go hp hL (sk u (Nat.le_refl _)) (fun i hi => by simp at hi) (Or.inl ⟨rfl, rfl, rfl⟩) (fun v hv hf => by
        have := tnext (c := max t 1440) hp hok (by omega) (by omega) (by omega) hv hf
        omega)
      have sk2 : ∀ v, DI p x u t L 0 (u + 1 + v) (goT p x L 0 u t 10 (fun _ _ => INF)) := by
        intro v
        induction v with
        | zero => exact d0
        | succ v ihv =>
          refine DI_skip ihv (fun c _ he => ?_)
          rcases he with ⟨-, w2, -⟩ | ⟨w1, -⟩
          · have w2' : u + 1 + v = u := w2
            omega
          · exact absurd rfl w1
      exact DI_row hp hL hu (n := u + 1 + 10) (by omega) (sk2 10)
    | succ m ih =>
      intro n J hm hJ h278 sJ
      have hPJ := PM_sam hP sJ (by simp)
      have hxJ := LM_sam hx sJ (by decide) (by simp)
      have same : ¬ ((dif L 0).testBit n = true ∧ ea (nt p x) u t n < INF) → LX12_bestEnd_136 (nI u) (nI t) (nI L) (nI n) J Q := by
        intro q
        refine rX12_bestEnd_136 ?_
        rw [nI_s]
        exact ih (n + 1) J (by omega) (TbM_go hp hL (by omega) hJ (fun _ _ => Nat.le_refl _) (fun _ => rfl) (fun z1 z2 => absurd ⟨z1, z2⟩ q)) h278 sJ
      refine rX12_bestEnd_78 ⟨fun q => ?_, fun _ => ?_⟩
      · rw [nI_10, ile (by decide) (by omega)] at q; omega
      · rw [b_sh1 (by omega) (by omega)]
        refine ⟨fun q => same (fun z => q (by rw [dif_zero] at z; exact z.1)), fun q => ?_⟩
        obtain ⟨l1, l2, l3⟩ := bit_lt hp hL q
        have hE : J 278 (nI n).toNatClampNeg = nI (ea (nt p x) u t n) := by rw [cl (by omega), h278]; exact hA n l3
        have hEI := hEA.2.2.2 n l3
        have hpw : 2 ^ n < 2 ^ 10 := Nat.pow_lt_pow_right (by decide) l1
        rw [hE, eINF, ile (by omega) (by omega), b_shl1 n (by omega), ix10, cl (by omega)]
        refine ⟨ci (by omega) (by decide), fun z => same (fun y => by omega), fun z => ⟨ci (by omega) (by decide), ?_⟩⟩
        refine sM_stay hp hok hb hPJ hxJ l1 ⟨ci (by omega) (by decide), fun I3 e3 => rX12_bestEnd_136 ?_⟩
        have hlt : ea (nt p x) u t n < INF := by omega
        have hn2 := tnext (c := max t 1440) hp hok (by omega) (by omega) (by omega) l3 hlt
        have hd0 : (dif L 0).testBit n = true := by rw [dif_zero]; exact q
        rw [nI_s]
        refine ih (n + 1) I3 (by omega) (TbM_go hp hL (by omega) hJ (fun _ _ => Nat.le_refl _) (fun y => absurd ⟨hd0, hlt⟩ y) (fun _ _ k => ?_)) ?_ ?_
        · rw [e3, up2_ap, if_pos rfl, nI_add, Nat.zero_or, Nat.min_eq_right (by omega)]
        · rw [e3, up2_cell _ _ _ (by decide)]; exact h278
        · rw [e3]; exact sJ.u2 (by simp) (by decide)
  -- the table is cleared
  have ph0 : ∀ (m a : Nat) (J : MI), m + a = 1024 → L ≠ 0 → (∀ s v, s < a → sub s L → v < 10 → J 281 (10 * s + v) = nI INF) → SamM cM8 [] I J → LX12_bestEnd_15 (nI u) (nI t) (nI L) (nI a) J Q := by
    intro m
    induction m with
    | zero =>
      intro a J hm hL0 hJ sJ
      have : a = 1024 := by omega
      subst this
      refine rX12_bestEnd_15 ⟨fun _ => ?_, fun q => absurd (by rw [e1024, ile (by decide) (by decide)]; omega) q⟩
      refine sM_lay (nt_ok hp hok) (NM_PL (PM_sam hP sJ (by simp)) (LM_sam hx sJ (by decide) (by simp))) hu (by omega) (fun f g hA => ?_)
      refine ph1 f hA hL0 10 0 _ rfl ?_ ?_ (sJ.m2 (by simp) (by simp))
      · rw [goT_0]
        intro s v hs hv
        rw [mem2_n J f g (by decide) (by decide)]
        exact hJ s v (sub_lt hL hs) hs hv
      · unfold mem2
        rw [upA_ne _ g (by decide)]
        exact if_pos rfl
    | succ m ih =>
      intro a J hm hL0 hJ sJ
      refine rX12_bestEnd_15 ⟨fun q => ?_, fun _ => ?_⟩
      · rw [e1024, ile (by decide) (by omega)] at q; omega
      · rw [b_sub (show a < 1024 by omega)]
        refine ⟨fun q => rX12_bestEnd_63 ?_, fun q => ?_⟩
        · rw [nI_s]
          refine ih (a + 1) J (by omega) hL0 (fun s v h1 h2 h3 => ?_) sJ
          by_cases e : s = a
          · subst e; exact absurd h2 q
          · exact hJ s v (by omega) h2 h3
        · have go : ∀ (k v : Nat) (K : MI), k + v = 10 → (∀ s i, s < a → sub s L → i < 10 → K 281 (10 * s + i) = nI INF) → (∀ i, i < v → K 281 (10 * a + i) = nI INF) → SamM cM8 [] I K → LX12_bestEnd_35 (nI u) (nI t) (nI L) (nI a) (nI v) K Q := by
            intro k
            induction k with
            | zero =>
              intro v K hk h1 h2 sK
              have : v = 10 := by omega
              subst this
              refine rX12_bestEnd_35 ⟨fun _ => rX12_bestEnd_63 ?_, fun y => absurd (by rw [nI_10, ile (by decide) (by decide)]; omega) y⟩
              rw [nI_s]
              refine ih (a + 1) K (by omega) hL0 (fun s v k1 k2 k3 => ?_) sK
              by_cases e : s = a
              · subst e; exact h2 v k3
              · exact h1 s v (by omega) k2 k3
            | succ k ihk =>
              intro v K hk h1 h2 sK
              refine rX12_bestEnd_35 ⟨fun y => ?_, fun _ => ?_⟩
              · rw [nI_10, ile (by decide) (by omega)] at y; omega
              · rw [ix10, cl (by omega)]
                refine ⟨ci (by omega) (by decide), fun K1 e1 => ?_⟩
                rw [nI_s]
                refine ihk (v + 1) K1 (by omega) (fun s i k1 k2 k3 => ?_) (fun i hi => ?_) (by rw [e1]; exact sK.u2 (by simp) (by decide))
                · rw [e1, up2_slot _ _ (by omega)]; exact h1 s i k1 k2 k3
                · rw [e1]
                  by_cases e : i = v
                  · rw [up2_e _ _ (by omega)]; rfl
                  · rw [up2_slot _ _ (by omega)]; exact h2 i (by omega)
          exact go 10 0 J rfl hJ (fun i hi => absurd hi (Nat.not_lt_zero i)) sJ
  refine rX12_bestEnd ⟨fun q => ?_, fun q => ?_⟩
  · exact ph0 1024 0 I rfl (fun z => q (by rw [z]; rfl)) (fun s v h => absurd h (Nat.not_lt_zero s)) SamM.rf
  · have h0 : L = 0 := by rw [nI_zero, ieq (by omega) (by decide)] at q; exact q
    subst h0
    exact sM_arrivalOf (v := 0) (nt_ok hp hok) (NM_PL hP hx) hu (by show 0 < pNc p; omega) (by omega) (fun f g hA => H _ (SamM.rf.m2 (by simp) (by simp)))
end
