theorem in07 : vp_in (0 : Int32) 7 := ci (n := 0) (by decide) (by decide)
theorem in57 : vp_in (5 : Int32) 7 := ci (n := 5) (by decide) (by decide)
def bfl (o : Option Nat) : Int32 := match o with | none => 0 | some _ => 1
def bst (o : Option Nat) : Int32 := match o with | none => -1 | some x => nI x
def bsI (N : NT) (D : Nat → Nat) (S : Nat → Bool) (v : Nat) (o : Option Nat) : Prop := match o with
  | none => ∀ y, y < v → S y = false → D y = INF
  | some x => x < v ∧ S x = false ∧ D x < INF ∧ ∀ y, y < v → S y = false → D y < INF → D x ≤ D y
theorem sM_scan {N : NT} {I : MI} {f g : Nat → Int32} {D : Nat → Nat} {S : Nat → Bool} {a1 a2 a3 : Int32} {Q : MI → Prop} (ok : NetOk N) (hN : NM N I) (hA : AM N D f) (hG : SM N S g) (hI : ∀ v, v < nNc N → D v ≤ INF)
    (H : ∀ o, bsI N D S (nNc N) o → LX12_layArrivals_123 a1 a2 a3 (bst o) (nI (nNc N)) (bfl o) (mem2 I f g) Q) :
    ∀ (m v : Nat) (o : Option Nat), m + v = nNc N → bsI N D S v o → LX12_layArrivals_48 a1 a2 a3 (bst o) (nI v) (mem2 I f g) Q := by
  have hnc := ok.1
  have hII : INF = 1000000000 := rfl
  have hn0 : mem2 I f g 263 0 = nI (nNc N) := (NM_2 hN f g).1
  intro m
  induction m with
  | zero =>
    intro v o hm ho
    have hv : v = nNc N := by omega
    subst hv
    refine rX12_layArrivals_48 ⟨in07, fun _ => ?_, fun h => absurd ?_ h⟩
    · have := H o ho
      cases o with
      | none => exact ⟨fun _ => this, fun h => absurd (by decide) h⟩
      | some x =>
        refine ⟨fun h => absurd h (nI_pos (by have := ho.1; omega)), fun _ => this⟩
    · rw [clz, hn0]; exact (ile (by omega) (by omega)).mpr (Nat.le_refl _)
  | succ m ih =>
    intro v o hm ho
    have hv : v < nNc N := by omega
    have ev : mem2 I f g 278 v = nI (D v) := by rw [mem2_278]; exact hA v hv
    have gv : mem2 I f g 279 v = if S v then 1 else 0 := by rw [mem2_279]; exact hG v hv
    have hDv := hI v hv
    have next : ∀ o', bsI N D S (v + 1) o' → LX12_layArrivals_107 a1 a2 a3 (bst o') (nI v) (mem2 I f g) Q := fun o' h => rX12_layArrivals_107 (by rw [nI_s]; exact ih (v + 1) o' (by omega) h)
    have keep : (S v = true ∨ D v = INF ∨ ∃ x, o = some x ∧ D x ≤ D v) → LX12_layArrivals_107 a1 a2 a3 (bst o) (nI v) (mem2 I f g) Q := by
      intro hk
      refine next o ?_
      cases o with
      | none =>
        intro y hy hs
        by_cases he : y = v
        · subst he
          rcases hk with q | q | ⟨x, q, -⟩
          · rw [hs] at q; cases q
          · exact q
          · cases q
        · exact ho y (by omega) hs
      | some x =>
        refine ⟨by have := ho.1; omega, ho.2.1, ho.2.2.1, fun y hy hs hf => ?_⟩
        by_cases he : y = v
        · subst he
          rcases hk with q | q | ⟨x', q, q2⟩
          · rw [hs] at q; cases q
          · omega
          · cases q; exact q2
        · exact ho.2.2.2 y (by omega) hs hf
    have take : S v = false → D v < INF → (∀ x, o = some x → D v < D x) → LX12_layArrivals_103 a1 a2 a3 (bst o) (nI v) (mem2 I f g) Q := by
      intro hs hf hlt
      refine rX12_layArrivals_103 (next (some v) ⟨by omega, hs, hf, fun y hy hys hyf => ?_⟩)
      by_cases he : y = v
      · subst he; exact Nat.le_refl _
      · cases o with
        | none => have := ho y (by omega) hys; omega
        | some x => have := ho.2.2.2 y (by omega) hys hyf; have := hlt x rfl; omega
    refine rX12_layArrivals_48 ⟨in07, fun h => ?_, fun _ => ?_⟩
    · rw [clz, hn0, ile (by omega) (by omega)] at h; omega
    · rw [cl (by omega : v < 2147483648), gv, ev]
      refine ⟨ci (by omega) (by decide), fun h => ?_, fun h => ⟨ci (by omega) (by decide), fun h2 => ?_, fun h2 => ?_⟩⟩
      · refine keep (Or.inl ?_)
        cases hs : S v with
        | true => rfl
        | false => rw [hs] at h; exact absurd rfl h
      · rw [inf_nI, ile (by omega) (by omega)] at h2
        exact keep (Or.inr (Or.inl (by omega)))
      · rw [inf_nI, ile (by omega) (by omega)] at h2
        have hs : S v = false := by
          cases hs : S v with
          | false => rfl
          | true => rw [hs] at h; exact absurd h (by decide)
        cases o with
        | none => exact ⟨fun _ => take hs (by omega) (fun x q => by cases q), fun h3 => absurd (by decide) h3⟩
        | some x =>
          have hx := ho.1
          refine ⟨fun h3 => absurd h3 (nI_pos (by omega)), fun _ => ?_⟩
          have ex : mem2 I f g 278 x = nI (D x) := by rw [mem2_278]; exact hA x (by omega)
          have hDx := ho.2.2.1
          show vp_in (nI v) 10 ∧ vp_in (nI x) 10 ∧ _
          rw [show (bst (some x)).toNatClampNeg = x from cl (by omega), ex, ile (by omega) (by omega)]
          refine ⟨ci (by omega) (by decide), ci (by omega) (by decide), fun h3 => keep (Or.inr (Or.inr ⟨x, rfl, h3⟩)), fun h3 => take hs (by omega) (fun x' q => by cases q; omega)⟩
/-- the streets of a node that is done -/
theorem sM_rel {N : NT} {I : MI} {g : Nat → Int32} {E : Nat → Nat} {S : Nat → Bool} {u t b : Nat} {a1 a2 a3 : Int32} {Q : MI → Prop} (ok : NetOk N) (hN : NM N I) (hE : IsEA N u t E) (hb : b < nNc N) (hEb : E b < 500000000)
    (H : ∀ D f, AM N D f → djI N E D S u t → LX12_layArrivals_38 a1 a2 a3 (mem2 I f g) Q) (hSb : S b = true) :
    ∀ (m j : Nat) (D : Nat → Nat) (f : Nat → Int32), m + j = nSc N → AM N D f → swLB N E D → D u ≤ t → (∀ v, v < nNc N → S v = true → D v = E v ∧ E v < INF) → (∀ k w v, Ed N k w v → S w = true → (w ≠ b ∨ k < j) → D v ≤ thr N k (E w)) → LX12_layArrivals_142 a1 a2 a3 (nI b) (nI j) (mem2 I f g) Q := by
  have hnc := ok.1
  have hsc := ok.2.1
  have hII : INF = 1000000000 := rfl
  intro m
  induction m with
  | zero =>
    intro j D f hm hA hL hU hS hR
    have e5 : mem2 I f g 263 5 = nI (nSc N) := (NM_2 hN f g).2.1
    refine rX12_layArrivals_142 ⟨in57, fun _ => H D f hA ⟨hL, hU, hS, fun k w v he hs => hR k w v he hs (Or.inr (by have := he.1; omega))⟩, fun h => absurd ?_ h⟩
    rw [show (5 : Int32).toNatClampNeg = 5 from rfl, e5, ile (by omega) (by omega)]; omega
  | succ m ih =>
    intro j D f hm hA hL hU hS hR
    have hj : j < nSc N := by omega
    obtain ⟨-, e5, hst⟩ := NM_2 hN f g
    obtain ⟨e1, e2, -, -, -⟩ := hst j hj
    obtain ⟨hAj, hBj, -⟩ := ok.2.2 j hj
    -- the street's other end, if it has one end here
    have step : ∀ c, c < nNc N → Ed N j b c → (∀ v, Ed N j b v → v = c) → LX12_layArrivals_198 a1 a2 a3 (nI b) (nI j) (nI c) (mem2 I f g) Q := by
      intro c hc he hone
      have hDb := hS b hb hSb
      have ec : mem2 I f g 278 c = nI (D c) := by rw [mem2_278]; exact hA c hc
      have eb : mem2 I f g 278 b = nI (D b) := by rw [mem2_278]; exact hA b hb
      refine rX12_layArrivals_198 ⟨fun h => absurd h (nI_pos (by omega)), fun _ => ?_⟩
      rw [cl (by omega : c < 2147483648), cl (by omega : b < 2147483648), ec, eb]
      refine ⟨ci (by omega) (by decide), ci (by omega) (by decide), ?_⟩
      refine sM_through ok (NM_2 hN f g) hj (by omega) ?_
      intro x3 e3
      refine ⟨ci (by omega) (by decide), fun I4 e4 => rX12_layArrivals_235 ?_⟩
      have hthr := thr_le (t := D b) ok hj
      have hDc := (hL c hc).2
      have hthI : thr N j (D b) ≤ INF ∨ thr N j (D b) < 600000000 := by omega
      have hx3 : x3 = nI (if thr N j (D b) < D c then thr N j (D b) else D c) := by
        rw [e3]
        by_cases q : thr N j (D b) < D c
        · rw [if_pos ((ilt (by omega) (by omega)).mpr q), if_pos q]
        · rw [if_neg (fun z => q ((ilt (by omega) (by omega)).mp z)), if_neg q]
      rw [e4, hx3, mem2_f, nI_s]
      have hD' : ∀ x, (fun x => if x = c then (if thr N j (D b) < D c then thr N j (D b) else D c) else D x) x ≤ D x := by
        intro x
        dsimp only
        by_cases q : x = c
        · subst q; rw [if_pos rfl]; split <;> omega
        · rw [if_neg q]; exact Nat.le_refl _
      have hL' : swLB N E (fun x => if x = c then (if thr N j (D b) < D c then thr N j (D b) else D c) else D x) := by
        intro x hx
        refine ⟨?_, Nat.le_trans (hD' x) (hL x hx).2⟩
        dsimp only
        by_cases q : x = c
        · subst q
          rw [if_pos rfl]
          have h1 := hE.2.2.1 j b x he hDb.2
          have h2 := (hL x hx).1
          rw [hDb.1]
          split <;> omega
        · rw [if_neg q]; exact (hL x hx).1
      refine ih (j + 1) _ _ (by omega) ?_ hL' (Nat.le_trans (hD' u) hU) ?_ ?_
      · intro v hv
        by_cases q : v = c
        · subst q; rw [upd_same]; dsimp only; rw [if_pos rfl]
        · rw [upd_ne _ _ q]; dsimp only; rw [if_neg q]; exact hA v hv
      · intro v hv hs
        have h1 := hS v hv hs
        have h2 := hD' v
        have h3 := (hL' v hv).1
        try dsimp only at h2 h3
        exact ⟨by try dsimp only
                  omega, h1.2⟩
      · intro k w v hed hs hor
        by_cases q : w = b ∧ k = j
        · obtain ⟨rfl, rfl⟩ := q
          have := hone v hed
          subst this
          try dsimp only
          rw [if_pos rfl, hDb.1]
          split <;> omega
        · refine Nat.le_trans (hD' v) (hR k w v hed hs ?_)
          rcases hor with z | z
          · exact Or.inl z
          · by_cases z2 : w = b
            · right
              rcases Nat.lt_or_ge k j with z3 | z3
              · exact z3
              · exact absurd ⟨z2, by omega⟩ q
            · exact Or.inl z2
    refine rX12_layArrivals_142 ⟨in57, fun h => ?_, fun _ => ?_⟩
    · rw [show (5 : Int32).toNatClampNeg = 5 from rfl, e5, ile (by omega) (by omega)] at h; omega
    · rw [cl (by omega : j < 2147483648), e1, e2, ieq (by omega) (by omega), ieq (by omega) (by omega)]
      refine ⟨ci (by omega) (by decide), fun h => ⟨ci (by omega) (by decide), fun h2 => ?_, fun h2 => ⟨ci (by omega) (by decide), ?_⟩⟩, fun h => ⟨ci (by omega) (by decide), ?_⟩⟩
      · refine rX12_layArrivals_198 ⟨fun _ => rX12_layArrivals_235 ?_, fun q => absurd (by decide) q⟩
        rw [nI_s]
        refine ih (j + 1) D f (by omega) hA hL hU hS (fun k w v hed hs hor => hR k w v hed hs ?_)
        rcases hor with z | z
        · exact Or.inl z
        · by_cases z2 : w = b
          · right
            rcases Nat.lt_or_ge k j with z3 | z3
            · exact z3
            · have hkj : k = j := by omega
              subst hkj; subst z2
              rcases hed.2 with ⟨q, -⟩ | ⟨-, q⟩
              · exact absurd q h
              · exact absurd q h2
          · exact Or.inl z2
      · refine step (nA N j) hAj ⟨hj, Or.inr ⟨rfl, h2⟩⟩ (fun v hed => ?_)
        rcases hed.2 with ⟨q, -⟩ | ⟨q, -⟩
        · exact absurd q h
        · exact q.symm
      · refine step (nB N j) hBj ⟨hj, Or.inl ⟨h, rfl⟩⟩ (fun v hed => ?_)
        rcases hed.2 with ⟨-, q⟩ | ⟨q1, q2⟩
        · exact q.symm
        · rw [q2, ← q1, h]
theorem sM_main {N : NT} {I : MI} {E : Nat → Nat} {u t : Nat} {a1 a2 : Int32} {Q : MI → Prop} (ok : NetOk N) (hN : NM N I) (hE : IsEA N u t E) (hEb : ∀ v, v < nNc N → E v = INF ∨ E v < 500000000)
    (H : ∀ f g, AM N E f → Q (mem2 I f g)) :
    ∀ (m : Nat) (D : Nat → Nat) (S : Nat → Bool) (f g : Nat → Int32), m + cnt S (nNc N) = nNc N → AM N D f → SM N S g → djI N E D S u t → LX12_layArrivals_38 a1 a2 1 (mem2 I f g) Q := by
  have hnc := ok.1
  have hII : INF = 1000000000 := rfl
  intro m
  induction m with
  | zero =>
    intro D S f g hm hA hG hJ
    have hall : ∀ y, y < nNc N → S y = true := by
      intro y hy
      cases hs : S y with
      | true => rfl
      | false =>
        have := cnt_lt (p := S) (q := fun _ => true) (w := y) (n := nNc N) (fun _ _ _ => rfl) hy hs rfl
        have := cnt_le (fun _ => true) (nNc N)
        omega
    refine rX12_layArrivals_38 ⟨fun h => absurd h (by decide), fun _ => ?_⟩
    have e0 : (0 : Int32) = nI 0 := rfl
    refine sM_scan ok hN hA hG (fun v hv => (hJ.1 v hv).2) (fun o ho => ?_) (nNc N) 0 none (by omega) (fun y hy => absurd hy (Nat.not_lt_zero y))
    cases o with
    | none =>
      refine rX12_layArrivals_123 ⟨fun h => absurd rfl h, fun _ => rX12_layArrivals_38 ⟨fun _ => H f g (fun v hv => ?_), fun h => absurd rfl h⟩⟩
      rw [hA v hv, (hJ.2.2.1 v hv (hall v hv)).1]
    | some x =>
      have := hall x ho.1
      rw [ho.2.1] at this; cases this
  | succ m ih =>
    intro D S f g hm hA hG hJ
    refine rX12_layArrivals_38 ⟨fun h => absurd h (by decide), fun _ => ?_⟩
    have e0 : (0 : Int32) = nI 0 := rfl
    refine sM_scan ok hN hA hG (fun v hv => (hJ.1 v hv).2) (fun o ho => ?_) (nNc N) 0 none (by omega) (fun y hy => absurd hy (Nat.not_lt_zero y))
    cases o with
    | none =>
      refine rX12_layArrivals_123 ⟨fun h => absurd rfl h, fun _ => rX12_layArrivals_38 ⟨fun _ => H f g (fun v hv => ?_), fun h => absurd rfl h⟩⟩
      rw [hA v hv, dj_end ok hE hJ ho v hv]
    | some b =>
      obtain ⟨hb, hs, hf, hmin⟩ := ho
      have hDE := dj_best ok hE hJ hb hs hmin hf
      refine rX12_layArrivals_123 ⟨fun _ => ?_, fun h => absurd h (show ¬ (1 : Int32) = 0 by decide)⟩
      rw [show (bst (some b)).toNatClampNeg = b from cl (by omega)]
      refine ⟨ci (by omega) (by decide), fun I1 e1 => ?_⟩
      rw [e1, mem2_g, narZ1]
      have hS' : SM N (fun v => if v = b then true else S v) (upd g b 1) := by
        intro v hv
        by_cases q : v = b
        · subst q; rw [upd_same]; simp
        · rw [upd_ne _ _ q]; simp only [if_neg q]; exact hG v hv
      have hc : cnt (fun v => if v = b then true else S v) (nNc N) = cnt S (nNc N) + 1 := by
        have : ∀ n, n ≤ nNc N → cnt (fun v => if v = b then true else S v) n = cnt S n + (if b < n then 1 else 0) := by
          intro n
          induction n with
          | zero => intro _; simp [cnt]
          | succ n ihn =>
            intro hn
            simp only [cnt]
            rw [ihn (by omega)]
            by_cases q : n = b
            · subst q; simp [hs]
            · simp only [if_neg q]
              have : (b < n + 1) ↔ (b < n) := by omega
              simp only [this]
              omega
        rw [this _ (Nat.le_refl _), if_pos hb]
      have hEb2 : E b < 500000000 := by rcases hEb b hb with q | q <;> omega
      refine sM_rel (S := fun v => if v = b then true else S v) ok hN hE hb hEb2 (fun D' f' hA' hJ' => ih D' _ f' _ (by omega) hA' hS' hJ') (by simp) (nSc N) 0 D f (by omega) hA hJ.1 hJ.2.1 ?_ ?_
      · intro v hv hsv
        by_cases q : v = b
        · subst q; exact ⟨hDE, by omega⟩
        · simp only [if_neg q] at hsv; exact hJ.2.2.1 v hv hsv
      · intro k w v hed hsw hor
        rcases hor with z | z
        · simp only [if_neg z] at hsw; exact hJ.2.2.2 k w v hed hsw
        · exact absurd z (Nat.not_lt_zero k)
/-- layArrivals -/
theorem sM_lay {N : NT} {I : MI} {u t : Nat} {Q : MI → Prop} (ok : NetOk N) (hN : NM N I) (hu : u < nNc N) (ht : t ≤ 400000000) (H : ∀ f g, AM N (ea N u t) f → Q (mem2 I f g)) : Wv mX12_layArrivals [.ref 261, .int (nI u), .int (nI t)] I Q := by
  have hnc := ok.1
  have hII : INF = 1000000000 := rfl
  have hE := ea_is ok (u := u) (t := t) (by omega)
  refine rX12_layArrivals ?_
  have e0 : (0 : Int32) = nI 0 := rfl
  have := sM_init (I := I) (a := nI u) (b := nI t) (Q := Q) (fun f g hfg => ?_) 10 0 (I 278) (I 279) rfl (fun v hv => absurd hv (Nat.not_lt_zero v))
  · rw [mem2_id] at this; exact this
  refine rX12_layArrivals_2 ⟨fun _ => ⟨ci (by omega) (by decide), fun I1 e1 => ?_⟩, fun h => absurd (by decide) h⟩
  rw [e1, cl (by omega), mem2_f]
  refine sM_main ok hN hE (fun v hv => ?_) H (nNc N) (fun v => if v = u then t else INF) (fun _ => false) _ _ ?_ ?_ ?_ ?_
  · rcases ea_le (u := u) (t := t) ok (by omega) hv with q | q
    · exact Or.inl q
    · right; omega
  · have : ∀ n, cnt (fun _ => false) n = 0 := by
      intro n
      induction n with
      | zero => rfl
      | succ n ih => simp [cnt, ih]
    rw [this]; rfl
  · intro v hv
    by_cases he : v = u
    · subst he; dsimp only; rw [upd_same, if_pos rfl]
    · dsimp only; rw [upd_ne _ _ he, if_neg he]; exact (hfg v (by omega)).1
  · intro v hv
    rw [(hfg v (by omega)).2]; rfl
  · refine ⟨?_, ?_, ?_, ?_⟩
    · intro v hv
      by_cases he : v = u
      · subst he; dsimp only; rw [if_pos rfl, hE.1]; omega
      · dsimp only; rw [if_neg he]; exact ⟨hE.2.2.2 v hv, Nat.le_refl _⟩
    · dsimp only; rw [if_pos rfl]; exact Nat.le_refl t
    · intro v hv h; simp at h
    · intro k w v hed h; simp at h
theorem sM_arrivalOf {N : NT} {I : MI} {u v t : Nat} {Q : Int32 → MI → Prop} (ok : NetOk N) (hN : NM N I) (hu : u < nNc N) (hv : v < nNc N) (ht : t ≤ 400000000) (H : ∀ f g, AM N (ea N u t) f → Q (nI (ea N u t v)) (mem2 I f g)) : Wi mX12_arrivalOf [.ref 261, .int (nI u), .int (nI v), .int (nI t)] I Q := by
  have hnc := ok.1
  refine rX12_arrivalOf (sM_lay ok hN hu ht (fun f g hA => ⟨ci (by omega) (by decide), ?_⟩))
  rw [cl (by omega), mem2_278, hA v hv]
  exact H f g hA
