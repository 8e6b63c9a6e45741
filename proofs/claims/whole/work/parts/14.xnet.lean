/-! the class's earliest arrivals -/
def NX (N : NT) (I : MI) : Prop := I 24 0 = nI (nNc N) ∧ I 24 1 = nI (nSc N) ∧ ∀ k, k < nSc N → I 25 k = nI (nA N k) ∧ I 26 k = nI (nB N k) ∧ I 27 k = nI (nL N k) ∧ I 33 k = nI (nF N k) ∧ I 34 k = nI (nT N k)
theorem NX_of {N : NT} {I I1 : MI} (h : NX N I) (e : ∀ c, c = 24 ∨ c = 25 ∨ c = 26 ∨ c = 27 ∨ c = 33 ∨ c = 34 → I1 c = I c) : NX N I1 := by
  unfold NX
  rw [e 24 (by simp), e 25 (by simp), e 26 (by simp), e 27 (by simp), e 33 (by simp), e 34 (by simp)]
  exact h
theorem NX_46 {N : NT} {I : MI} (h : NX N I) (f : Nat → Int32) : NX N (upA I 46 f) := NX_of h (fun c hc => upA_ne I f (by omega))
theorem NX_47 {N : NT} {I : MI} (h : NX N I) (f : Nat → Int32) : NX N (upA I 47 f) := NX_of h (fun c hc => upA_ne I f (by omega))
/-- the row of arrivals holds D -/
def AX (N : NT) (D : Nat → Nat) (f : Nat → Int32) : Prop := ∀ v, v < nNc N → f v = xv (D v)
theorem sX_impA {N : NT} {I : MI} {f : Nat → Int32} {D : Nat → Nat} {k w v : Nat} {Q : Int32 → MI → Prop} (ok : NetOk N) (hN : NX N I) (hD : AX N D f) (hI : ∀ v, v < nNc N → D v ≤ INF) (he : Ed N k w v) (hb : D w < INF → D w < 500000000)
    (H1 : D w < INF → thr N k (D w) < D v → Q 1 (upA I 46 (upd f v (nI (thr N k (D w)))))) (H0 : (D w < INF → ¬ thr N k (D w) < D v) → Q 0 (upA I 46 f)) : Wi mX4_improveArrival [.ref 45, .int (nI k), .int (nI w), .int (nI v)] (upA I 46 f) Q := by
  have hII : INF = 1000000000 := rfl
  obtain ⟨hw, hv⟩ := Ed_lt ok he
  have hnc := ok.1
  have hsc := ok.2.1
  have hk := he.1
  obtain ⟨-, -, hL1, hL2, hg⟩ := ok.2.2 k hk
  obtain ⟨-, -, hst⟩ := NX_46 hN f
  obtain ⟨-, -, e27, e33, e34⟩ := hst k hk
  have e46 : ∀ v, v < nNc N → upA I 46 f 46 v = xv (D v) := fun v hv => by rw [upA_same]; exact hD v hv
  have hfin : ∀ x : Nat, thr N k (D w) = x + nL N k → x < 600000000 → D w < INF → x + nL N k < 2147483648 →
      vp_in (nI k) 18 ∧ vp_in (nI v) 10 ∧ ((nI x + upA I 46 f 27 (nI k).toNatClampNeg) < upA I 46 f 46 (nI v).toNatClampNeg → (vp_in (nI v) 10 ∧ ∀ I1 : MI, I1 = up2 (upA I 46 f) 46 (nI v).toNatClampNeg (nI x + upA I 46 f 27 (nI k).toNatClampNeg) → Q 1 I1)) ∧ (¬ (nI x + upA I 46 f 27 (nI k).toNatClampNeg) < upA I 46 f 46 (nI v).toNatClampNeg → Q 0 (upA I 46 f)) := by
    intro x hx hx2 hwf hlt
    rw [cl (by omega : k < 2147483648), cl (by omega : v < 2147483648), e27, e46 v hv, nI_add, ← hx]
    rw [← hx] at hlt
    have hxI : thr N k (D w) < INF := by omega
    refine ⟨ci (by omega) (by decide), ci (by omega) (by decide), fun h => ⟨ci (by omega) (by decide), fun I1 e1 => ?_⟩, fun h => ?_⟩
    · rw [xv_lt hxI (hI v hv)] at h
      rw [e1, up2_upA]
      exact H1 hwf h
    · rw [xv_lt hxI (hI v hv)] at h
      exact H0 (fun _ => h)
  refine rX4_improveArrival ?_
  rw [cl (by omega : k < 2147483648), cl (by omega : w < 2147483648), e46 w hw, e34]
  refine ⟨ci (by omega) (by decide), ci (by omega) (by decide), fun h => ?_, fun h => ?_⟩
  · rw [xv_eq (hI w hw)] at h
    exact H0 (fun q => by omega)
  · have hwf : D w < INF := by
      have := hI w hw
      rcases Nat.lt_or_ge (D w) INF with q | q
      · exact q
      · exact absurd (by rw [xv_eq (hI w hw)]; omega) h
    have hb := hb hwf
    rw [xv_fin hwf]
    have go : (nT N k = 0 ∨ ¬ nT N k ≤ D w) → LX4_improveArrival_40 (nI k) (nI w) (nI v) (nI (D w)) (nI (nT N k)) (upA I 46 f) Q := by
      intro hopen
      refine rX4_improveArrival_40 ?_
      rw [cl (by omega : k < 2147483648), e33]
      refine ⟨ci (by omega) (by decide), fun h2 => rX4_improveArrival_65 (hfin (D w) ?_ (by omega) hwf (by omega)), fun h2 => rX4_improveArrival_65 (hfin (nF N k) ?_ (by omega) hwf (by omega))⟩
      · rw [ile (by omega) (by omega)] at h2
        unfold thr
        rcases hopen with h3 | h3
        · rw [if_pos h3]
        · by_cases h4 : nT N k = 0
          · rw [if_pos h4]
          · rw [if_neg h4, if_neg h3, if_neg (by omega)]
      · rw [ile (by omega) (by omega)] at h2
        unfold thr
        rcases hopen with h3 | h3
        · omega
        · by_cases h4 : nT N k = 0
          · omega
          · rw [if_neg h4, if_neg h3, if_pos (by omega)]
    refine ⟨fun h2 => go ?_, fun h2 => ⟨fun h3 => go ?_, fun h3 => ?_⟩⟩
    · left
      rw [nI_zero, ieq (by omega) (by decide)] at h2
      exact h2
    · right
      rw [ilt (by omega) (by omega)] at h3
      omega
    · rw [ilt (by omega) (by omega)] at h3
      rw [nI_zero, ieq (by omega) (by decide)] at h2
      refine H0 (fun _ => ?_)
      unfold thr
      rw [if_neg h2, if_pos (by omega)]
      exact Nat.not_lt.mpr (hI v hv)
/-- what holds while the streets are swept: E is the truth -/
def swLB (N : NT) (E D : Nat → Nat) : Prop := ∀ v, v < nNc N → E v ≤ D v ∧ D v ≤ INF
def swP (N : NT) (E D : Nat → Nat) (i : Nat) : Prop := ∀ v, v < nNc N → dep N E v < i → D v = E v
def swR (N : NT) (E D : Nat → Nat) (i j : Nat) : Prop := ∀ k w v, k < j → Ed N k w v → dep N E w < i → E w < INF → D v ≤ thr N k (E w)
def swC (N : NT) (D : Nat → Nat) (j : Nat) : Prop := ∀ k w v, k < j → Ed N k w v → D w < INF → D v ≤ thr N k (D w)
/-- D after one direction of street k -/
def rlx (N : NT) (k w v : Nat) (D : Nat → Nat) : Nat → Nat := fun x => if x = v ∧ D w < INF ∧ thr N k (D w) < D v then thr N k (D w) else D x
theorem rlx_le {N : NT} {k w v : Nat} {D : Nat → Nat} (x : Nat) : rlx N k w v D x ≤ D x := by
  unfold rlx
  split
  · rename_i h; obtain ⟨rfl, -, h⟩ := h; omega
  · omega
theorem rlx_at {N : NT} {k w v : Nat} {D : Nat → Nat} (h : D w < INF) : rlx N k w v D v ≤ thr N k (D w) := by
  unfold rlx
  split <;> omega
theorem rlx_no {N : NT} {k w v : Nat} {D : Nat → Nat} (h : D w < INF → ¬ thr N k (D w) < D v) : rlx N k w v D = D := by
  funext x
  unfold rlx
  rw [if_neg (fun q => h q.2.1 q.2.2)]
theorem rlx_ax {N : NT} {k w v : Nat} {D : Nat → Nat} {f : Nat → Int32} (hD : AX N D f) (h1 : D w < INF) (h2 : thr N k (D w) < D v) (hI : D v ≤ INF) : AX N (rlx N k w v D) (upd f v (nI (thr N k (D w)))) := by
  intro x hx
  by_cases he : x = v
  · subst he
    rw [upd_same]
    unfold rlx
    rw [if_pos ⟨rfl, h1, h2⟩, xv_fin (by omega)]
  · rw [upd_ne _ _ he]
    unfold rlx
    rw [if_neg (fun q => he q.1)]
    exact hD x hx
theorem rlx_lb {N : NT} (ok : NetOk N) {k w v u t : Nat} {E D : Nat → Nat} (hE : IsEA N u t E) (he : Ed N k w v) (h : swLB N E D) : swLB N E (rlx N k w v D) := by
  intro x hx
  refine ⟨?_, Nat.le_trans (rlx_le x) (h x hx).2⟩
  unfold rlx
  split
  · rename_i q
    obtain ⟨rfl, q1, q2⟩ := q
    obtain ⟨hw, -⟩ := Ed_lt ok he
    have hwE := (h w hw).1
    exact Nat.le_trans (hE.2.2.1 k w x he (by omega)) (thr_mono ok he.1 hwE)
  · exact (h x hx).1
theorem rlx_fin {N : NT} {k w v b : Nat} {D : Nat → Nat} (ok : NetOk N) (hk : k < nSc N) (hb : 1440 ≤ b) (h : ∀ v, v < nNc N → D v < INF → D v ≤ b) (hw : w < nNc N) : ∀ x, x < nNc N → rlx N k w v D x < INF → rlx N k w v D x ≤ b + 99 := by
  intro x hx hf
  unfold rlx at hf ⊢
  split
  · rename_i q
    rw [if_pos q] at hf
    have := h w hw q.2.1
    rcases thr_le (t := D w) ok hk with h3 | h3
    · omega
    · omega
  · rename_i q
    rw [if_neg q] at hf
    have := h x hx hf
    omega
