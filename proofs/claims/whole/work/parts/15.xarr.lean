theorem sX_impR {N : NT} {I : MI} {f : Nat → Int32} {D : Nat → Nat} {k w v : Nat} {Q : Int32 → MI → Prop} (ok : NetOk N) (hN : NX N I) (hD : AX N D f) (hI : ∀ v, v < nNc N → D v ≤ INF) (he : Ed N k w v) (hb : D w < INF → D w < 500000000)
    (H : ∀ r f1, AX N (rlx N k w v D) f1 → (r = 0 → rlx N k w v D = D) → Q r (upA I 46 f1)) : Wi mX4_improveArrival [.ref 45, .int (nI k), .int (nI w), .int (nI v)] (upA I 46 f) Q := by
  obtain ⟨hw, hv⟩ := Ed_lt ok he
  refine sX_impA ok hN hD hI he hb (fun h1 h2 => H 1 _ (rlx_ax hD h1 h2 (hI v hv)) (fun q => absurd q (by decide))) (fun h => ?_)
  have e := rlx_no (N := N) (k := k) (w := w) (v := v) (D := D) h
  exact H 0 f (by rw [e]; exact hD) (fun _ => e)
theorem sX_tail {l1 b l3 l4 l5 l6 r1 r2 : Int32} {I : MI} {Q : MI → Prop} (H : ∀ b', (b' = 0 → b = 0 ∧ r1 = 0 ∧ r2 = 0) → LX4_sweepStreets_19 l1 b' l3 (l4 + 1) I Q) : LX4_sweepStreets_111 l1 b l3 l4 l5 l6 r1 r2 I Q := by
  have h1 : LX4_sweepStreets_127 l1 b l3 l4 l5 l6 r1 r2 I Q := rX4_sweepStreets_127 (rX4_sweepStreets_132 (H 1 (fun q => absurd q (by decide))))
  exact rX4_sweepStreets_111 ⟨fun _ => h1, fun hb => ⟨fun _ => h1, fun h2 => ⟨fun h3 => rX4_sweepStreets_132 (H 0 (fun _ => ⟨hb, h2, h3⟩)), fun _ => h1⟩⟩⟩
theorem sX_sw19 {N : NT} {I : MI} {E : Nat → Nat} {u t i b0 : Nat} {Q : MI → Prop} (ok : NetOk N) (hN : NX N I) (hE : IsEA N u t E) (h0 : 1440 ≤ b0) (h1 : b0 ≤ 400000000) (hi : i < 10)
    (Hout : ∀ D f b, AX N D f → swLB N E D → D u ≤ t → swP N E D (i + 1) → (b = 0 → swC N D (nSc N)) → (∀ v, v < nNc N → D v < INF → D v ≤ b0 + 198 * (18 * (i + 1))) → LX4_sweepStreets_4 0 b (nI (i + 1)) (upA I 46 f) Q) :
    ∀ (m j : Nat) (D : Nat → Nat) (f : Nat → Int32) (b : Int32), m + j = nSc N → AX N D f → swLB N E D → D u ≤ t → swP N E D i → swR N E D i j → (b = 0 → swC N D j) → (∀ v, v < nNc N → D v < INF → D v ≤ b0 + 198 * (18 * i + j)) → LX4_sweepStreets_19 0 b (nI i) (nI j) (upA I 46 f) Q := by
  have hsc := ok.2.1
  have hII : INF = 1000000000 := rfl
  intro m
  induction m with
  | zero =>
    intro j D f b hm hA hL hU hP hR hC hB
    have hsc2 : upA I 46 f 24 1 = nI (nSc N) := (NX_46 hN f).2.1
    refine rX4_sweepStreets_19 ⟨fun _ => ?_, fun h => absurd ?_ h⟩
    · rw [nI_s]
      refine Hout D f b hA hL hU ?_ (fun hb => ?_) (fun v hv hf => ?_)
      · intro v hv hd
        have hEv := hE.2.2.2 v hv
        have hlb := hL v hv
        by_cases hf : E v = INF
        · omega
        · by_cases hvu : v = u
          · subst hvu
            have := hE.1
            omega
          · rcases hE.2.1 v hv hvu with q | ⟨k, w, he, hw, hp⟩
            · exact absurd q hf
            · have hlt : E w < E v := by rw [hp]; exact thr_gt ok he.1 hw
              have hdw := dep_lt (N := N) (D := E) (Ed_lt ok he).1 hlt
              have := hR k w v (by have := he.1; omega) he (by omega) hw
              omega
      · have := hC hb
        rwa [show j = nSc N by omega] at this
      · have := hB v hv hf
        omega
    · rw [hsc2, ile (by omega) (by omega)]; omega
  | succ m ih =>
    intro j D f b hm hA hL hU hP hR hC hB
    have hj : j < nSc N := by omega
    have hN1 := NX_46 hN f
    obtain ⟨hnc2, hsc2, hst⟩ := hN1
    obtain ⟨e25, e26, -, -, -⟩ := hst j hj
    obtain ⟨hAj, hBj, -⟩ := ok.2.2 j hj
    have he1 : Ed N j (nA N j) (nB N j) := ⟨hj, Or.inl ⟨rfl, rfl⟩⟩
    have he2 : Ed N j (nB N j) (nA N j) := ⟨hj, Or.inr ⟨rfl, rfl⟩⟩
    refine rX4_sweepStreets_19 ⟨fun h => ?_, fun _ => ?_⟩
    · rw [hsc2, ile (by omega) (by omega)] at h; omega
    · rw [cl (by omega : j < 2147483648), e25, e26]
      refine ⟨ci (by omega) (by decide), ci (by omega) (by decide), fun _ => ?_, fun h => absurd rfl h⟩
      refine sX_impR ok hN hA (fun v hv => (hL v hv).2) he1 (fun q => by have := hB _ hAj q; omega) (fun r1 f1 hA1 hr1 => ?_)
      have hL1 := rlx_lb ok hE he1 hL
      have hB1 := rlx_fin (v := nB N j) ok hj (by omega) hB hAj
      refine rX4_sweepStreets_82 ⟨fun _ => ?_, fun h => absurd rfl h⟩
      refine sX_impR ok hN hA1 (fun v hv => (hL1 v hv).2) he2 (fun q => by have := hB1 _ hBj q; omega) (fun r2 f2 hA2 hr2 => ?_)
      have hL2 := rlx_lb ok hE he2 hL1
      have hB2 := rlx_fin (v := nA N j) ok hj (by omega) hB1 hBj
      have hle : ∀ x, rlx N j (nB N j) (nA N j) (rlx N j (nA N j) (nB N j) D) x ≤ D x := fun x => Nat.le_trans (rlx_le x) (rlx_le x)
      refine sX_tail (fun b' hb' => ?_)
      rw [nI_s]
      refine ih (j + 1) _ f2 b' (by omega) hA2 hL2 (Nat.le_trans (hle u) hU) ?_ ?_ ?_ ?_
      · intro v hv hd
        have h3 := hP v hv hd
        have h4 := hle v
        have h5 := (hL2 v hv).1
        omega
      · intro k w v hk he hd hw
        rcases Nat.lt_or_ge k j with q | q
        · exact Nat.le_trans (hle v) (hR k w v q he hd hw)
        · have hkj : k = j := by omega
          subst hkj
          obtain ⟨hwn, hvn⟩ := Ed_lt ok he
          have hDw := hP w hwn hd
          rcases he.2 with ⟨rfl, rfl⟩ | ⟨rfl, rfl⟩
          · refine Nat.le_trans (rlx_le _) ?_
            rw [← hDw]
            exact rlx_at (by omega)
          · have hD1 : rlx N k (nA N k) (nB N k) D (nB N k) = E (nB N k) := by
              have h4 := rlx_le (N := N) (k := k) (w := nA N k) (v := nB N k) (D := D) (nB N k)
              have h5 := (hL1 _ hwn).1
              omega
            rw [← hD1]
            exact rlx_at (by omega)
      · intro hz
        obtain ⟨hb0, hz1, hz2⟩ := hb' hz
        have e1 := hr1 hz1
        have e2 := hr2 hz2
        rw [e1] at e2
        rw [e1, e2]
        intro k w v hk he hw
        rcases Nat.lt_or_ge k j with q | q
        · exact hC hb0 k w v q he hw
        · have hkj : k = j := by omega
          subst hkj
          rcases he.2 with ⟨rfl, rfl⟩ | ⟨rfl, rfl⟩
          · have := rlx_at (N := N) (k := k) (w := nA N k) (v := nB N k) (D := D) hw
            rwa [e1] at this
          · have := rlx_at (N := N) (k := k) (w := nB N k) (v := nA N k) (D := D) hw
            rwa [e2] at this
      · intro v hv hf
        have := hB2 v hv hf
        omega
/-- the sweeps end with the truth -/
theorem sX_sw4 {N : NT} {I : MI} {E : Nat → Nat} {u t b0 : Nat} {Q : MI → Prop} (ok : NetOk N) (hN : NX N I) (hE : IsEA N u t E) (h0 : 1440 ≤ b0) (h1 : b0 ≤ 400000000) (H : ∀ f, AX N E f → Q (upA I 46 f)) :
    ∀ (m i : Nat) (D : Nat → Nat) (f : Nat → Int32) (b : Int32), m + i = 10 → AX N D f → swLB N E D → D u ≤ t → swP N E D i → (b = 0 → swC N D (nSc N)) → (∀ v, v < nNc N → D v < INF → D v ≤ b0 + 198 * (18 * i)) → LX4_sweepStreets_4 0 b (nI i) (upA I 46 f) Q := by
  intro m
  induction m with
  | zero =>
    intro i D f b hm hA hL hU hP hC hB
    refine rX4_sweepStreets_4 ⟨fun _ => H f (fun v hv => ?_), fun h => absurd ?_ h⟩
    · rw [hA v hv, hP v hv (by have := dep_le ok (D := E) hv; omega)]
    · rw [nI_10, ile (by decide) (by omega)]; omega
  | succ m ih =>
    intro i D f b hm hA hL hU hP hC hB
    refine rX4_sweepStreets_4 ⟨fun h => ?_, fun _ => ⟨fun hb => ?_, fun hb => ?_⟩⟩
    · rw [nI_10, ile (by decide) (by omega)] at h; omega
    · have hcl := hC hb
      have key : ∀ x v, v < nNc N → E v = x → D v ≤ E v := by
        intro x
        induction x using Nat.strongRecOn with
        | _ x ihx =>
          intro v hv hx
          by_cases hvu : v = u
          · subst hvu; rw [hE.1]; exact hU
          · rcases hE.2.1 v hv hvu with q | ⟨k, w, he, hw, hp⟩
            · rw [q]; exact (hL v hv).2
            · have hlt : E w < E v := by rw [hp]; exact thr_gt ok he.1 hw
              have hwn := (Ed_lt ok he).1
              have h3 := ihx (E w) (by omega) w hwn rfl
              have h4 := hcl k w v he.1 he (by omega)
              have h5 := thr_mono ok he.1 h3
              omega
      refine H f (fun v hv => ?_)
      have h3 := key _ v hv rfl
      have h4 := (hL v hv).1
      rw [hA v hv, show D v = E v by omega]
    · have e0 : (0 : Int32) = nI 0 := rfl
      have := sX_sw19 (Q := Q) (i := i) ok hN hE h0 h1 (by omega) (fun D f b a1 a2 a3 a4 a5 a6 => ih (i + 1) D f b (by omega) a1 a2 a3 a4 a5 a6) (nSc N) 0 D f 0 (by omega) hA hL hU hP (fun k w v hk => absurd hk (Nat.not_lt_zero k)) (fun _ k w v hk => absurd hk (Nat.not_lt_zero k)) (fun v hv hf => by have := hB v hv hf; omega)
      exact this
/-- Network.arrivalsFrom -/
theorem sX_arrivals {N : NT} {I : MI} {u t : Nat} {Q : Nat → MI → Prop} (ok : NetOk N) (hN : NX N I) (hu : u < nNc N) (ht : t ≤ 400000000) (H : ∀ f, AX N (ea N u t) f → Q 46 (upA I 46 f)) : Wr mX4_arrivalsFrom [.ref 45, .int (nI u), .int (nI t)] I Q := by
  have hnc := ok.1
  have hII : INF = 1000000000 := rfl
  have hE := ea_is ok (u := u) (t := t) (by omega)
  refine rX4_arrivalsFrom (sJ_fill46 (fun f hf => ⟨ci (by omega) (by decide), fun I2 e2 => ?_⟩))
  rw [e2, cl (by omega), up2_upA]
  refine rX4_sweepStreets ?_
  have e0 : (0 : Int32) = nI 0 := rfl
  refine sX_sw4 (b0 := max t 1440) ok hN hE (by omega) (by omega) H 10 0 (fun v => if v = u then t else INF) _ 1 rfl ?_ ?_ ?_ ?_ (fun h => absurd h (by decide)) ?_
  · intro v hv
    by_cases he : v = u
    · subst he; dsimp only; rw [upd_same, if_pos rfl, xv_fin (by omega)]
    · dsimp only; rw [upd_ne _ _ he, if_neg he, hf v (by omega), xv_inf]
  · intro v hv
    by_cases he : v = u
    · subst he; dsimp only; rw [if_pos rfl, hE.1]; omega
    · dsimp only; rw [if_neg he]; exact ⟨hE.2.2.2 v hv, Nat.le_refl _⟩
  · rw [if_pos rfl]; exact Nat.le_refl t
  · intro v hv hd; omega
  · intro v hv hf
    by_cases he : v = u
    · rw [if_pos he] at hf ⊢; omega
    · rw [if_neg he] at hf; omega
