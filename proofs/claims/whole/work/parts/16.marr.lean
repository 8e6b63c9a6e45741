/-! the reference's earliest arrivals -/
def NM (N : NT) (I : MI) : Prop := I 263 0 = nI (nNc N) ∧ I 263 5 = nI (nSc N) ∧ ∀ k, k < nSc N → I 265 k = nI (nA N k) ∧ I 266 k = nI (nB N k) ∧ I 267 k = nI (nL N k) ∧ (nT N k = 0 → I 274 (97 + k) = -1) ∧ (nT N k ≠ 0 → I 274 (97 + k) = nI (nF N k) ∧ I 274 (115 + k) = nI (nT N k))
theorem NM_of {N : NT} {I I1 : MI} (h : NM N I) (e : ∀ c, c = 263 ∨ c = 265 ∨ c = 266 ∨ c = 267 ∨ c = 274 → I1 c = I c) : NM N I1 := by
  unfold NM
  rw [e 263 (by simp), e 265 (by simp), e 266 (by simp), e 267 (by simp), e 274 (by simp)]
  exact h
theorem inf_nI : (1000000000 : Int32) = nI INF := rfl
theorem sM_through {N : NT} {I : MI} {k t : Nat} {Q : Int32 → MI → Prop} (ok : NetOk N) (hN : NM N I) (hk : k < nSc N) (ht : t < 500000000) (H : Q (nI (thr N k t)) I) : Wi mX12_through [.ref 261, .int (nI k), .int (nI t)] I Q := by
  have hsc := ok.2.1
  obtain ⟨-, -, hL1, hL2, hg⟩ := ok.2.2 k hk
  obtain ⟨-, -, hst⟩ := hN
  obtain ⟨-, -, e3, e4, e5⟩ := hst k hk
  refine rX12_through ?_
  have a1 : (97 : Int32) + nI k = nI (97 + k) := nI_add 97 k
  have a2 : (115 : Int32) + nI k = nI (115 + k) := nI_add 115 k
  rw [a1, a2, cl (by omega : 97 + k < 2147483648), cl (by omega : 115 + k < 2147483648), cl (by omega : k < 2147483648), e3]
  refine ⟨ci (by omega) (by decide), fun h => ?_, fun h => ⟨ci (by omega) (by decide), ?_⟩⟩
  · have hT : nT N k ≠ 0 := fun q => by rw [e4 q] at h; exact absurd h (by decide)
    obtain ⟨e6, e7⟩ := e5 hT
    rw [e6, e7]
    refine ⟨ci (by omega) (by decide), fun h2 => ?_, fun h2 => ?_⟩
    · rw [ilt (by omega) (by omega)] at h2
      refine ⟨fun h3 => rX12_through_51 ?_, fun h3 => rX12_through_51 ?_⟩
      · rw [ile (by omega) (by omega)] at h3
        rw [cl (by omega : k < 2147483648), e3, nI_add]
        unfold thr at H
        rw [if_neg hT, if_neg (by omega), if_neg (by omega)] at H
        exact ⟨ci (by omega) (by decide), H⟩
      · rw [ile (by omega) (by omega)] at h3
        rw [cl (by omega : k < 2147483648), e3, nI_add]
        unfold thr at H
        rw [if_neg hT, if_neg (by omega), if_pos (by omega)] at H
        exact ⟨ci (by omega) (by decide), H⟩
    · rw [ilt (by omega) (by omega)] at h2
      unfold thr at H
      rw [if_neg hT, if_pos (by omega)] at H
      rw [inf_nI]; exact H
  · have hT : nT N k = 0 := by
      by_cases q : nT N k = 0
      · exact q
      · rw [(e5 q).1] at h
        exact absurd (nI_pos' (by omega)) h
    unfold thr at H
    rw [if_pos hT] at H
    rw [nI_add]; exact H
/-- the two rows hold the minutes and the marks -/
def AM (N : NT) (D : Nat → Nat) (f : Nat → Int32) : Prop := ∀ v, v < nNc N → f v = nI (D v)
def SM (N : NT) (S : Nat → Bool) (g : Nat → Int32) : Prop := ∀ v, v < nNc N → g v = if S v then 1 else 0
abbrev mem2 (I : MI) (f g : Nat → Int32) : MI := upA (upA I 278 f) 279 g
theorem mem2_278 (I : MI) (f g : Nat → Int32) : mem2 I f g 278 = f := by simp [mem2, upA]
theorem mem2_279 (I : MI) (f g : Nat → Int32) : mem2 I f g 279 = g := by simp [mem2, upA]
theorem mem2_ne (I : MI) (f g : Nat → Int32) {c : Nat} (h1 : c ≠ 278) (h2 : c ≠ 279) : mem2 I f g c = I c := by simp [mem2, upA, h1, h2]
theorem mem2_f (I : MI) (f g : Nat → Int32) (k : Nat) (x : Int32) : up2 (mem2 I f g) 278 k x = mem2 I (upd f k x) g := by
  funext i
  by_cases h : i = 278
  · subst h; simp [up2, mem2, upA]
  · by_cases h2 : i = 279
    · subst h2; simp [up2, mem2, upA]
    · simp [up2, mem2, upA, h, h2]
theorem mem2_g (I : MI) (f g : Nat → Int32) (k : Nat) (x : Int32) : up2 (mem2 I f g) 279 k x = mem2 I f (upd g k x) := by
  funext i
  by_cases h : i = 279
  · subst h; simp [up2, mem2, upA]
  · simp [up2, mem2, upA, h]
theorem mem2_id (I : MI) : mem2 I (I 278) (I 279) = I := by
  funext i
  by_cases h : i = 279
  · subst h; simp [mem2, upA]
  · by_cases h2 : i = 278
    · subst h2; simp [mem2, upA]
    · simp [mem2, upA, h, h2]
theorem NM_2 {N : NT} {I : MI} (h : NM N I) (f g : Nat → Int32) : NM N (mem2 I f g) := NM_of h (fun c hc => mem2_ne I f g (by omega) (by omega))
theorem narZ0 : vp_nar .boolean 0 = 0 := rfl
theorem narZ1 : vp_nar .boolean 1 = 1 := rfl
theorem sM_init {I : MI} {a b : Int32} {Q : MI → Prop} (H : ∀ f g, (∀ v, v < 10 → f v = nI INF ∧ g v = 0) → LX12_layArrivals_2 a b 10 (mem2 I f g) Q) : ∀ (m i : Nat) (f g : Nat → Int32), m + i = 10 → (∀ v, v < i → f v = nI INF ∧ g v = 0) → LX12_layArrivals_2 a b (nI i) (mem2 I f g) Q := by
  intro m
  induction m with
  | zero =>
    intro i f g hm hf
    have : i = 10 := by omega
    subst this
    exact H f g hf
  | succ m ih =>
    intro i f g hm hf
    refine rX12_layArrivals_2 ⟨fun h => ?_, fun _ => ?_⟩
    · rw [nI_10, ile (by decide) (by omega)] at h; omega
    · rw [cl (by omega : i < 2147483648)]
      refine ⟨ci (by omega) (by decide), fun I1 e1 => ⟨ci (by omega) (by decide), fun I2 e2 => ?_⟩⟩
      rw [e2, e1, mem2_f, mem2_g, nI_s, narZ0, inf_nI]
      refine ih (i + 1) _ _ (by omega) (fun v hv => ?_)
      by_cases he : v = i
      · subst he; rw [upd_same, upd_same]; exact ⟨rfl, rfl⟩
      · rw [upd_ne _ _ he, upd_ne _ _ he]; exact hf v (by omega)
/-- what holds between two rounds: E is the truth, S the nodes that are done -/
def djI (N : NT) (E D : Nat → Nat) (S : Nat → Bool) (u t : Nat) : Prop := swLB N E D ∧ D u ≤ t ∧ (∀ v, v < nNc N → S v = true → D v = E v ∧ E v < INF) ∧ (∀ k w v, Ed N k w v → S w = true → D v ≤ thr N k (E w))
theorem dj_exact {N : NT} (ok : NetOk N) {E D : Nat → Nat} {S : Nat → Bool} {u t : Nat} (hE : IsEA N u t E) (h : djI N E D S u t) : ∀ x, x < nNc N → S x = false → (∀ y, y < nNc N → S y = false → E x ≤ E y ∨ E y = INF) → D x ≤ E x := by
  intro x hx hs hmin
  by_cases hxu : x = u
  · subst hxu; rw [hE.1]; exact h.2.1
  · rcases hE.2.1 x hx hxu with q | ⟨k, w, he, hw, hp⟩
    · rw [q]; exact (h.1 x hx).2
    · have hlt : E w < E x := by rw [hp]; exact thr_gt ok he.1 hw
      have hwn := (Ed_lt ok he).1
      cases hsw : S w with
      | true => rw [hp]; exact h.2.2.2 k w x he hsw
      | false => rcases hmin w hwn hsw with q | q <;> omega
theorem dj_least {N : NT} {E : Nat → Nat} {S : Nat → Bool} (h : ∃ y, y < nNc N ∧ S y = false) : ∃ x, x < nNc N ∧ S x = false ∧ ∀ y, y < nNc N → S y = false → E x ≤ E y := by
  obtain ⟨y, hy, hs⟩ := h
  obtain ⟨e, ⟨x, h1, h2, h3⟩, h4⟩ := pk_least (fun e => ∃ x, x < nNc N ∧ S x = false ∧ E x = e) ⟨_, y, hy, hs, rfl⟩
  refine ⟨x, h1, h2, fun z hz hzs => ?_⟩
  exact Nat.le_of_not_lt (fun q => h4 (E z) (by omega) ⟨z, hz, hzs, rfl⟩)
theorem dj_best {N : NT} (ok : NetOk N) {E D : Nat → Nat} {S : Nat → Bool} {u t b : Nat} (hE : IsEA N u t E) (h : djI N E D S u t) (hb : b < nNc N) (hs : S b = false) (hmin : ∀ y, y < nNc N → S y = false → D y < INF → D b ≤ D y) (hf : D b < INF) : D b = E b := by
  obtain ⟨x, h1, h2, h3⟩ := dj_least (N := N) (E := E) (S := S) ⟨b, hb, hs⟩
  have h4 := dj_exact ok hE h x h1 h2 (fun y hy hys => Or.inl (h3 y hy hys))
  have h5 := h3 b hb hs
  have h6 := (h.1 b hb).1
  rcases Nat.lt_or_ge (D x) INF with q | q
  · have := hmin x h1 h2 q; omega
  · omega
theorem dj_end {N : NT} (ok : NetOk N) {E D : Nat → Nat} {S : Nat → Bool} {u t : Nat} (hE : IsEA N u t E) (h : djI N E D S u t) (hno : ∀ y, y < nNc N → S y = false → D y = INF) : ∀ v, v < nNc N → D v = E v := by
  intro v hv
  cases hs : S v with
  | true => exact (h.2.2.1 v hv hs).1
  | false =>
    obtain ⟨x, h1, h2, h3⟩ := dj_least (N := N) (E := E) (S := S) ⟨v, hv, hs⟩
    have h4 := dj_exact ok hE h x h1 h2 (fun y hy hys => Or.inl (h3 y hy hys))
    have h5 := h3 v hv hs
    have h6 := hno x h1 h2
    have h7 := hno v hv hs
    have h8 := hE.2.2.2 v hv
    omega
