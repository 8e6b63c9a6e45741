/-! filling the table, row by row -/
def prc (a0 v0 s w : Nat) : Prop := s < a0 ∨ (s = a0 ∧ w < v0)
def DI (p : Pl) (x : Ld) (u t L a0 v0 : Nat) (T : Nat → Nat → Nat) : Prop :=
  (∀ s v, T s v ≤ INF) ∧
  (∀ s v, sub s L → s ≠ 0 → s.testBit v = false → T s v = INF) ∧
  (∀ s v, sub s L → s ≠ 0 → s.testBit v = true → T s v < INF → clr s v ≤ a0 ∧ ∃ w c, En u t T (clr s v) w c ∧ ea (nt p x) w c v < INF ∧ T s v = ea (nt p x) w c v + sty p x v) ∧
  (∀ s w c v, sub s L → prc a0 v0 s w → En u t T s w c → L.testBit v = true → s.testBit v = false → ea (nt p x) w c v < INF → T (s ||| 2 ^ v) v ≤ ea (nt p x) w c v + sty p x v)
noncomputable def goT (p : Pl) (x : Ld) (L a w c n : Nat) (T : Nat → Nat → Nat) : Nat → Nat → Nat :=
  fun s i => if i < n ∧ s = a ||| 2 ^ i ∧ (dif L a).testBit i = true ∧ ea (nt p x) w c i < INF then min (T s i) (ea (nt p x) w c i + sty p x i) else T s i
theorem or_gt {a v : Nat} (h : a.testBit v = false) : a < a ||| 2 ^ v := by
  have h1 : a ≤ a ||| 2 ^ v := Nat.left_le_or
  rcases Nat.lt_or_ge a (a ||| 2 ^ v) with q | q
  · exact q
  · have e : a ||| 2 ^ v = a := by omega
    have : (a ||| 2 ^ v).testBit v = true := by rw [or_bit]; simp
    rw [e, h] at this; cases this
theorem clr_or {a v : Nat} (h : a.testBit v = false) : clr (a ||| 2 ^ v) v = a := by
  apply Nat.eq_of_testBit_eq
  intro i
  rw [clr_bit, or_bit]
  by_cases q : i = v
  · subst q; simp [h]
  · have q' : ¬ v = i := fun z => q z.symm
    simp [q, q']
theorem or_clr {s v : Nat} (h : s.testBit v = true) : clr s v ||| 2 ^ v = s := by
  apply Nat.eq_of_testBit_eq
  intro i
  rw [or_bit, clr_bit]
  by_cases q : i = v
  · subst q; simp [h]
  · have q' : ¬ v = i := fun z => q z.symm
    simp [q, q']
theorem or_inj {a b v : Nat} (ha : a.testBit v = false) (hb : b.testBit v = false) (h : a ||| 2 ^ v = b ||| 2 ^ v) : a = b := by
  rw [← clr_or ha, ← clr_or hb, h]
section
variable {p : Pl} {x : Ld} {b u t L : Nat} {T : Nat → Nat → Nat}
theorem goT_0 (a w c : Nat) : goT p x L a w c 0 T = T := by
  funext s i
  unfold goT
  rw [if_neg (fun q => absurd q.1 (Nat.not_lt_zero i))]
theorem goT_s (a w c n : Nat) (s i : Nat) : goT p x L a w c (n + 1) T s i = if s = a ||| 2 ^ n ∧ i = n ∧ (dif L a).testBit n = true ∧ ea (nt p x) w c n < INF then min (T s i) (ea (nt p x) w c n + sty p x n) else goT p x L a w c n T s i := by
  unfold goT
  by_cases e : i = n
  · subst e
    by_cases q : s = a ||| 2 ^ i ∧ (dif L a).testBit i = true ∧ ea (nt p x) w c i < INF
    · rw [if_pos ⟨by omega, q⟩, if_pos ⟨q.1, rfl, q.2⟩]
    · rw [if_neg (fun z => q z.2), if_neg (fun z => q ⟨z.1, z.2.2⟩), if_neg (fun z => q z.2)]
  · rw [if_neg (fun z : s = a ||| 2 ^ n ∧ i = n ∧ _ => e z.2.1)]
    by_cases q : i < n ∧ s = a ||| 2 ^ i ∧ (dif L a).testBit i = true ∧ ea (nt p x) w c i < INF
    · rw [if_pos ⟨by omega, q.2⟩, if_pos q]
    · rw [if_neg (fun z => q ⟨by omega, z.2⟩), if_neg q]
theorem goT_old {a w c n s : Nat} (h : s ≤ a) (i : Nat) : goT p x L a w c n T s i = T s i := by
  unfold goT
  rw [if_neg]
  rintro ⟨-, h2, h3, -⟩
  rw [dif_bit, Bool.and_eq_true, Bool.not_eq_true'] at h3
  have := or_gt h3.2
  omega
theorem goT_le (a w c n s i : Nat) : goT p x L a w c n T s i ≤ T s i := by
  unfold goT
  split
  · exact Nat.min_le_left _ _
  · exact Nat.le_refl _
theorem en_same {T' : Nat → Nat → Nat} {s w c : Nat} (h : T' s w = T s w) (he : En u t T s w c) : En u t T' s w c := by
  rcases he with q | ⟨q1, q2, q3⟩
  · exact Or.inl q
  · exact Or.inr ⟨q1, by rw [h]; exact q2, q3⟩
theorem en_uniq {s w c c' : Nat} (h : En u t T s w c) (h' : En u t T s w c') : c = c' := by
  rcases h with ⟨q1, -, q3⟩ | ⟨q1, q2, -⟩ <;> rcases h' with ⟨r1, -, r3⟩ | ⟨r1, r2, -⟩
  · omega
  · exact absurd q1 r1
  · exact absurd r1 q1
  · omega
theorem DI_T1 {a0 v0 : Nat} (h : DI p x u t L a0 v0 T) : T1 p x u t L T := fun s v hs h0 hb hf => (h.2.2.1 s v hs h0 hb hf).2
theorem DI_start : DI p x u t L 0 0 (fun _ _ => INF) :=
  ⟨fun _ _ => Nat.le_refl _, fun _ _ _ _ _ => rfl, fun _ _ _ _ _ h => absurd h (Nat.lt_irrefl _), fun s w c v _ h => by rcases h with q | ⟨-, q⟩ <;> exact absurd q (Nat.not_lt_zero _)⟩
theorem DI_go {a0 v0 c : Nat} (hp : PlOk p) (hL : SetOk p L) (h : DI p x u t L a0 v0 T) (hs0 : sub a0 L) (he : En u t T a0 v0 c) (hcI : ∀ v, v < pNc p → ea (nt p x) v0 c v < INF → ea (nt p x) v0 c v + sty p x v < INF) : DI p x u t L a0 (v0 + 1) (goT p x L a0 v0 c 10 T) := by
  obtain ⟨d1, d2, d3, d4⟩ := h
  have ent : ∀ s w c', s ≤ a0 → (En u t (goT p x L a0 v0 c 10 T) s w c' ↔ En u t T s w c') := fun s w c' hs => ⟨en_same (goT_old hs w).symm, en_same (goT_old hs w)⟩
  refine ⟨fun s v => Nat.le_trans (goT_le _ _ _ _ _ _) (d1 s v), fun s v hs h0 hb => ?_, fun s v hs h0 hb hf => ?_, fun s w c' v hs hpr hen hLv hsv hf => ?_⟩
  · unfold goT
    rw [if_neg]
    · exact d2 s v hs h0 hb
    · rintro ⟨-, h2, -, -⟩
      rw [h2, or_bit] at hb
      simp at hb
  · by_cases q : v < 10 ∧ s = a0 ||| 2 ^ v ∧ (dif L a0).testBit v = true ∧ ea (nt p x) v0 c v < INF
    · have e : goT p x L a0 v0 c 10 T s v = min (T s v) (ea (nt p x) v0 c v + sty p x v) := by unfold goT; rw [if_pos q]
      have q3 := q.2.2.1
      rw [dif_bit, Bool.and_eq_true, Bool.not_eq_true'] at q3
      rcases Nat.le_total (T s v) (ea (nt p x) v0 c v + sty p x v) with z | z
      · rw [Nat.min_eq_left z] at e
        rw [e] at hf ⊢
        obtain ⟨k1, w, c', k2, k3, k4⟩ := d3 s v hs h0 hb hf
        exact ⟨k1, w, c', (ent _ _ _ k1).mpr k2, k3, k4⟩
      · rw [Nat.min_eq_right z] at e
        have ec : clr s v = a0 := by rw [q.2.1]; exact clr_or q3.2
        rw [ec]
        exact ⟨Nat.le_refl _, v0, c, (ent _ _ _ (Nat.le_refl _)).mpr he, q.2.2.2, e⟩
    · have e : goT p x L a0 v0 c 10 T s v = T s v := by unfold goT; rw [if_neg q]
      rw [e] at hf ⊢
      obtain ⟨k1, w, c', k2, k3, k4⟩ := d3 s v hs h0 hb hf
      exact ⟨k1, w, c', (ent _ _ _ k1).mpr k2, k3, k4⟩
  · have hle : s ≤ a0 := by rcases hpr with z | ⟨z, -⟩ <;> omega
    have hen' := (ent s w c' hle).mp hen
    by_cases z : s = a0 ∧ w = v0
    · obtain ⟨z1, z2⟩ := z
      subst z1; subst z2
      have ec := en_uniq hen' he
      subst ec
      have hv10 := (bit_lt hp hL hLv).1
      unfold goT
      rw [if_pos ⟨hv10, rfl, by rw [dif_bit, hLv, hsv]; rfl, hf⟩]
      exact Nat.min_le_right _ _
    · refine Nat.le_trans (goT_le _ _ _ _ _ _) (d4 s w c' v hs ?_ hen' hLv hsv hf)
      rcases hpr with y | ⟨y1, y2⟩
      · exact Or.inl y
      · exact Or.inr ⟨y1, by
          rcases Nat.lt_or_ge w v0 with z' | z'
          · exact z'
          · exact absurd ⟨y1, by omega⟩ z⟩
theorem DI_skip {a0 v0 : Nat} (h : DI p x u t L a0 v0 T) (hn : ∀ c, sub a0 L → ¬ En u t T a0 v0 c) : DI p x u t L a0 (v0 + 1) T := by
  obtain ⟨d1, d2, d3, d4⟩ := h
  refine ⟨d1, d2, d3, fun s w c v hs hpr hen hLv hsv hf => ?_⟩
  by_cases z : s = a0 ∧ w = v0
  · obtain ⟨z1, z2⟩ := z
    subst z1; subst z2
    exact absurd hen (hn c hs)
  · refine d4 s w c v hs ?_ hen hLv hsv hf
    rcases hpr with y | ⟨y1, y2⟩
    · exact Or.inl y
    · exact Or.inr ⟨y1, by
        rcases Nat.lt_or_ge w v0 with z' | z'
        · exact z'
        · exact absurd ⟨y1, by omega⟩ z⟩
theorem DI_row {a0 n : Nat} (hp : PlOk p) (hL : SetOk p L) (hu : u < pNc p) (hn : pNc p ≤ n) (h : DI p x u t L a0 n T) : DI p x u t L (a0 + 1) 0 T := by
  obtain ⟨d1, d2, d3, d4⟩ := h
  refine ⟨d1, d2, fun s v hs h0 hb hf => ?_, fun s w c v hs hpr hen hLv hsv hf => ?_⟩
  · obtain ⟨k1, k2⟩ := d3 s v hs h0 hb hf
    exact ⟨by omega, k2⟩
  · refine d4 s w c v hs ?_ hen hLv hsv hf
    have hw := en_lt hp hL hu hs hen
    rcases hpr with y | ⟨-, y⟩
    · rcases Nat.lt_or_ge s a0 with z | z
      · exact Or.inl z
      · exact Or.inr ⟨by omega, by omega⟩
    · exact absurd y (Nat.not_lt_zero w)
theorem DI_jump {a0 : Nat} (h : DI p x u t L a0 0 T) (hn : ¬ sub a0 L) : DI p x u t L (a0 + 1) 0 T := by
  obtain ⟨d1, d2, d3, d4⟩ := h
  refine ⟨d1, d2, fun s v hs h0 hb hf => ?_, fun s w c v hs hpr hen hLv hsv hf => ?_⟩
  · obtain ⟨k1, k2⟩ := d3 s v hs h0 hb hf
    exact ⟨by omega, k2⟩
  · refine d4 s w c v hs ?_ hen hLv hsv hf
    rcases hpr with y | ⟨-, y⟩
    · rcases Nat.lt_or_ge s a0 with z | z
      · exact Or.inl z
      · have : s = a0 := by omega
        subst this
        exact absurd hs hn
    · exact absurd y (Nat.not_lt_zero w)
theorem DI_end {a0 : Nat} (h : DI p x u t L a0 0 T) (ha : L ≤ a0) : T2 p x u t L T := by
  intro s w c v hs hen hLv hsv hf
  refine h.2.2.2 s w c v hs (Or.inl ?_) hen hLv hsv hf
  have h1 : s ≤ L := Nat.le_of_testBit hs
  rcases Nat.lt_or_ge s L with q | q
  · omega
  · have : s = L := by omega
    subst this
    rw [hsv] at hLv; cases hLv
end
/-! sets in thirty-two bits -/
theorem b_all : (-1 : Int32) = nI 4294967295 := by decide
theorem b_dif {a c : Nat} (ha : a < 1024) : nI a &&& (nI c ^^^ (-1 : Int32)) = nI (dif a c) := by
  rw [b_all, b_xorI, b_andI]
  congr 1
  apply Nat.eq_of_testBit_eq
  intro i
  rw [Nat.testBit_and, Nat.testBit_xor, dif_bit]
  have e : (4294967295 : Nat).testBit i = decide (i < 32) := by
    rw [show (4294967295 : Nat) = 2 ^ 32 - 1 by decide, Nat.testBit_two_pow_sub_one]
  rw [e]
  by_cases hi : i < 32
  · simp [hi]
  · have : a.testBit i = false := Nat.testBit_lt_two_pow (Nat.lt_of_lt_of_le ha (by
      have : 2 ^ 10 ≤ 2 ^ i := Nat.pow_le_pow_right (by decide) (by omega)
      omega))
    simp [this]
theorem dif_lt {a c : Nat} (ha : a < 1024) : dif a c < 1024 := Nat.lt_of_le_of_lt (Nat.le_of_testBit (dif_sub a c)) ha
theorem dif_0 (a c : Nat) : dif a c = 0 ↔ sub a c := by
  constructor
  · intro h v hv
    have h3 : (dif a c).testBit v = false := by rw [h]; simp
    rw [dif_bit, hv] at h3
    simpa using h3
  · intro h
    apply Nat.eq_of_testBit_eq
    intro i
    rw [dif_bit, Nat.zero_testBit]
    cases hi : a.testBit i with
    | false => rfl
    | true => rw [h i hi]; rfl
theorem b_sub {a c : Nat} (ha : a < 1024) : nI a &&& (nI c ^^^ (-1 : Int32)) = 0 ↔ sub a c := by
  rw [b_dif ha, nI_zero, ieq (by have := dif_lt (c := c) ha; omega) (by decide)]
  exact dif_0 a c
theorem b_has {a c v : Nat} (ha : a < 1024) (hv : v < 31) : (nI a &&& (nI c ^^^ (-1 : Int32))) &&& ((1 : Int32) <<< (nI v &&& 31)) = 0 ↔ (dif a c).testBit v = false := by
  rw [b_dif ha, b_test hv]
theorem b_sh1 {s v : Nat} (hs : s < 2147483648) (hv : v < 31) : (nI s >>> (nI v &&& 31)) &&& (1 : Int32) = 1 ↔ s.testBit v = true := by
  rw [b_shr1 hs hv]
  cases s.testBit v <;> simp
theorem or_lt {s v : Nat} (hs : s < 1024) (hv : v < 10) : s ||| 2 ^ v < 1024 := Nat.or_lt_two_pow (n := 10) hs (Nat.pow_lt_pow_right (by decide) hv)
