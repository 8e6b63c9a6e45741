/-! the latest minutes that still do, as a table; a bound d stands for 'before d' -/
def lst (s w : Nat) : Bool := if s = 0 then decide (w = 0) else s.testBit w
theorem lst_lt {p : Pl} {s w : Nat} (hp : PlOk p) (hs : SetOk p s) (h : lst s w = true) : w < pNc p := by
  unfold lst at h
  split at h
  · rw [decide_eq_true_eq] at h; have := hp.1; omega
  · exact (hs.2 w h).2
/-- the sources behind (a0, v0) have been used -/
def prd (a0 v0 s v : Nat) : Prop := a0 < s ∨ (s = a0 ∧ v < v0)
noncomputable def lsrc (p : Pl) (x : Ld) (B : Nat → Nat → Nat) (s v w : Nat) : Nat := ld (nt p x) v (B s v - 1 - sty p x v) w
def LI (p : Pl) (x : Ld) (L F a0 v0 : Nat) (T B : Nat → Nat → Nat) : Prop :=
  (∀ s w, B s w ≤ F + 1) ∧
  (∀ s w, sub s L → lst s w = true → 0 < B s w → (s = L ∧ B s w = ld (nt p x) 0 F w) ∨ ∃ v, (dif L s).testBit v = true ∧ a0 ≤ s ||| 2 ^ v ∧ T (s ||| 2 ^ v) v < B (s ||| 2 ^ v) v ∧ B s w = lsrc p x B (s ||| 2 ^ v) v w) ∧
  (∀ w, lst L w = true → ld (nt p x) 0 F w ≤ B L w) ∧
  (∀ s v w, sub s L → (dif L s).testBit v = true → lst s w = true → prd a0 v0 (s ||| 2 ^ v) v → T (s ||| 2 ^ v) v < B (s ||| 2 ^ v) v → lsrc p x B (s ||| 2 ^ v) v w ≤ B s w)
/-- one use of a row of departures -/
def alT (s0 n : Nat) (D : Nat → Nat) (B : Nat → Nat → Nat) : Nat → Nat → Nat := fun s i => if s = s0 ∧ i < n ∧ lst s0 i = true then max (B s i) (D i) else B s i
theorem alT_pos {s0 n s i : Nat} {D : Nat → Nat} {B : Nat → Nat → Nat} (h : s = s0 ∧ i < n ∧ lst s0 i = true) : alT s0 n D B s i = max (B s i) (D i) := if_pos h
theorem alT_neg {s0 n s i : Nat} {D : Nat → Nat} {B : Nat → Nat → Nat} (h : ¬ (s = s0 ∧ i < n ∧ lst s0 i = true)) : alT s0 n D B s i = B s i := if_neg h
theorem alT_0 (s0 : Nat) (D : Nat → Nat) (B : Nat → Nat → Nat) : alT s0 0 D B = B := by
  funext s i
  exact alT_neg (fun q => absurd q.2.1 (Nat.not_lt_zero i))
theorem alT_s (s0 n : Nat) (D : Nat → Nat) (B : Nat → Nat → Nat) (s i : Nat) : alT s0 (n + 1) D B s i = if s = s0 ∧ i = n ∧ lst s0 n = true then max (B s i) (D n) else alT s0 n D B s i := by
  by_cases r : s = s0 ∧ i = n ∧ lst s0 n = true
  · obtain ⟨r1, r2, r3⟩ := r
    subst r2
    rw [if_pos ⟨r1, rfl, r3⟩, alT_pos ⟨r1, by omega, r3⟩]
  · rw [if_neg r]
    by_cases q : s = s0 ∧ i < n ∧ lst s0 i = true
    · rw [alT_pos q, alT_pos ⟨q.1, by omega, q.2.2⟩]
    · rw [alT_neg q, alT_neg]
      rintro ⟨z1, z2, z3⟩
      rcases Nat.lt_or_ge i n with z | z
      · exact q ⟨z1, z, z3⟩
      · have : i = n := by omega
        subst this
        exact r ⟨z1, rfl, z3⟩
theorem alT_ge (s0 n : Nat) (D : Nat → Nat) (B : Nat → Nat → Nat) (s i : Nat) : B s i ≤ alT s0 n D B s i := by
  by_cases q : s = s0 ∧ i < n ∧ lst s0 i = true
  · rw [alT_pos q]; exact Nat.le_max_left _ _
  · rw [alT_neg q]; exact Nat.le_refl _
theorem clr_lt {a v : Nat} (h : a.testBit v = true) : clr a v < a := by
  have := or_gt (a := clr a v) (v := v) (by rw [clr_bit]; simp)
  rwa [or_clr h] at this
theorem or_sub {s v L : Nat} (hs : sub s L) (hv : (dif L s).testBit v = true) : sub (s ||| 2 ^ v) L := fun i hi => by
  rw [or_bit, Bool.or_eq_true, decide_eq_true_eq] at hi
  rw [dif_bit, Bool.and_eq_true] at hv
  rcases hi with y | y
  · exact hs i y
  · rw [← y]; exact hv.1
theorem dif_no {L s v : Nat} (hv : (dif L s).testBit v = true) : L.testBit v = true ∧ s.testBit v = false := by
  rw [dif_bit, Bool.and_eq_true, Bool.not_eq_true'] at hv; exact hv
section
variable {p : Pl} {x : Ld} {b L F : Nat} {T B : Nat → Nat → Nat}
theorem LI_start (hp : PlOk p) (hok : LdOk p b x) (hL : SetOk p L) (hF : F < INF) : LI p x L F (L + 1) 0 T (alT L (pNc p) (ld (nt p x) 0 F) (fun _ _ => 0)) := by
  have h2 := hp.1
  have hle : ∀ w, ld (nt p x) 0 F w ≤ F + 1 := fun w => ld_le (nt_ok hp hok) hF (by show 0 < pNc p; omega)
  refine ⟨fun s w => ?_, fun s w hs hl h0 => ?_, fun w hl => ?_, fun s v w hs hv hl hpr hT => ?_⟩
  · by_cases q : s = L ∧ w < pNc p ∧ lst L w = true
    · rw [alT_pos q]; have := hle w; omega
    · rw [alT_neg q]; omega
  · by_cases q : s = L ∧ w < pNc p ∧ lst L w = true
    · left
      refine ⟨q.1, ?_⟩
      rw [alT_pos q]
      omega
    · rw [alT_neg q] at h0; exact absurd h0 (Nat.lt_irrefl 0)
  · rw [alT_pos ⟨rfl, lst_lt hp hL hl, hl⟩]; exact Nat.le_max_right _ _
  · exfalso
    have hle2 : s ||| 2 ^ v ≤ L := Nat.le_of_testBit (or_sub hs hv)
    rcases hpr with y | ⟨y, -⟩ <;> omega
theorem LI_use {a0 v0 : Nat} (hp : PlOk p) (hok : LdOk p b x) (hL : SetOk p L) (hF : F < INF) (h : LI p x L F a0 v0 T B) (hs0 : sub a0 L) (hb0 : a0.testBit v0 = true) (ht : T a0 v0 < B a0 v0) : LI p x L F a0 (v0 + 1) T (alT (clr a0 v0) (pNc p) (lsrc p x B a0 v0) B) := by
  obtain ⟨d1, d2, d3, d4⟩ := h
  have hcl := clr_lt hb0
  have hv0 := (bit_lt hp hL (hs0 v0 hb0)).2.2
  have old : ∀ s w, a0 ≤ s → alT (clr a0 v0) (pNc p) (lsrc p x B a0 v0) B s w = B s w := fun s w hs => alT_neg (fun q => by have := q.1; omega)
  have olds : ∀ s v w, a0 ≤ s → lsrc p x (alT (clr a0 v0) (pNc p) (lsrc p x B a0 v0) B) s v w = lsrc p x B s v w := fun s v w hs => by
    show ld (nt p x) v (alT (clr a0 v0) (pNc p) (lsrc p x B a0 v0) B s v - 1 - sty p x v) w = _
    rw [old s v hs]
    rfl
  have hor := or_clr hb0
  have hB := d1 a0 v0
  have hdv : (dif L (clr a0 v0)).testBit v0 = true := (dif_clr hs0 hb0).2
  have hle : ∀ w, lsrc p x B a0 v0 w ≤ F + 1 := fun w => by
    have := ld_le (nt_ok hp hok) (m := B a0 v0 - 1 - sty p x v0) (v := w) (by omega) (show v0 < nNc (nt p x) from hv0)
    unfold lsrc
    omega
  refine ⟨fun s w => ?_, fun s w hs hl h0 => ?_, fun w hl => Nat.le_trans (d3 w hl) (alT_ge _ _ _ _ _ _), fun s v w hs hv hl hpr hT => ?_⟩
  · by_cases q : s = clr a0 v0 ∧ w < pNc p ∧ lst (clr a0 v0) w = true
    · rw [alT_pos q]; have := hle w; have := d1 s w; omega
    · rw [alT_neg q]; exact d1 s w
  · have keep : alT (clr a0 v0) (pNc p) (lsrc p x B a0 v0) B s w = B s w → (s = L ∧ alT (clr a0 v0) (pNc p) (lsrc p x B a0 v0) B s w = ld (nt p x) 0 F w) ∨ ∃ v, (dif L s).testBit v = true ∧ a0 ≤ s ||| 2 ^ v ∧ T (s ||| 2 ^ v) v < alT (clr a0 v0) (pNc p) (lsrc p x B a0 v0) B (s ||| 2 ^ v) v ∧ alT (clr a0 v0) (pNc p) (lsrc p x B a0 v0) B s w = lsrc p x (alT (clr a0 v0) (pNc p) (lsrc p x B a0 v0) B) (s ||| 2 ^ v) v w := by
      intro e
      rw [e] at h0 ⊢
      rcases d2 s w hs hl h0 with ⟨k1, k2⟩ | ⟨v, k1, k2, k3, k4⟩
      · exact Or.inl ⟨k1, k2⟩
      · exact Or.inr ⟨v, k1, k2, by rw [old _ _ k2]; exact k3, by rw [olds _ _ _ k2]; exact k4⟩
    by_cases q : s = clr a0 v0 ∧ w < pNc p ∧ lst (clr a0 v0) w = true
    · have e := alT_pos (D := lsrc p x B a0 v0) (B := B) q
      rcases Nat.le_total (lsrc p x B a0 v0 w) (B s w) with z | z
      · rw [Nat.max_eq_left z] at e
        exact keep e
      · rw [Nat.max_eq_right z] at e
        refine Or.inr ⟨v0, by rw [q.1]; exact hdv, by rw [q.1, hor]; exact Nat.le_refl _, ?_, ?_⟩
        · rw [q.1, hor, old _ _ (Nat.le_refl _)]; exact ht
        · rw [e, q.1, hor, olds _ _ _ (Nat.le_refl _)]
    · exact keep (alT_neg q)
  · have hge : a0 ≤ s ||| 2 ^ v := by rcases hpr with y | ⟨y, -⟩ <;> omega
    rw [olds _ _ _ hge]
    rw [old _ _ hge] at hT
    by_cases z : s ||| 2 ^ v = a0 ∧ v = v0
    · obtain ⟨z1, z2⟩ := z
      subst z2
      have es : s = clr a0 v := by rw [← z1]; exact (clr_or (dif_no hv).2).symm
      rw [z1, alT_pos ⟨es, lst_lt hp (sub_ok hs hL) hl, by rw [← es]; exact hl⟩]
      exact Nat.le_max_right _ _
    · refine Nat.le_trans (d4 s v w hs hv hl ?_ hT) (alT_ge _ _ _ _ _ _)
      rcases hpr with y | ⟨y1, y2⟩
      · exact Or.inl y
      · exact Or.inr ⟨y1, by
          rcases Nat.lt_or_ge v v0 with z' | z'
          · exact z'
          · exact absurd ⟨y1, by omega⟩ z⟩
theorem LI_skip {a0 v0 : Nat} (h : LI p x L F a0 v0 T B) (hn : sub a0 L → a0.testBit v0 = true → ¬ T a0 v0 < B a0 v0) : LI p x L F a0 (v0 + 1) T B := by
  obtain ⟨d1, d2, d3, d4⟩ := h
  refine ⟨d1, d2, d3, fun s v w hs hv hl hpr hT => ?_⟩
  by_cases z : s ||| 2 ^ v = a0 ∧ v = v0
  · obtain ⟨z1, z2⟩ := z
    subst z2
    rw [z1] at hT
    exact absurd hT (hn (by rw [← z1]; exact or_sub hs hv) (by rw [← z1, or_bit]; simp))
  · refine d4 s v w hs hv hl ?_ hT
    rcases hpr with y | ⟨y1, y2⟩
    · exact Or.inl y
    · exact Or.inr ⟨y1, by
        rcases Nat.lt_or_ge v v0 with z' | z'
        · exact z'
        · exact absurd ⟨y1, by omega⟩ z⟩
theorem LI_row {a0 n : Nat} (hp : PlOk p) (hL : SetOk p L) (hn : pNc p ≤ n) (h : LI p x L F (a0 + 1) n T B) : LI p x L F a0 0 T B := by
  obtain ⟨d1, d2, d3, d4⟩ := h
  refine ⟨d1, fun s w hs hl h0 => ?_, d3, fun s v w hs hv hl hpr hT => ?_⟩
  · rcases d2 s w hs hl h0 with k | ⟨v, k1, k2, k3⟩
    · exact Or.inl k
    · exact Or.inr ⟨v, k1, by omega, k3⟩
  · refine d4 s v w hs hv hl ?_ hT
    have hvn := (bit_lt hp hL (dif_no hv).1).2.2
    rcases hpr with y | ⟨-, y⟩
    · rcases Nat.lt_or_ge (a0 + 1) (s ||| 2 ^ v) with z | z
      · exact Or.inl z
      · exact Or.inr ⟨by omega, by omega⟩
    · exact absurd y (Nat.not_lt_zero v)
theorem LI_jump {a0 : Nat} (h : LI p x L F (a0 + 1) 0 T B) (hn : ¬ sub (a0 + 1) L) : LI p x L F a0 0 T B := by
  obtain ⟨d1, d2, d3, d4⟩ := h
  refine ⟨d1, fun s w hs hl h0 => ?_, d3, fun s v w hs hv hl hpr hT => ?_⟩
  · rcases d2 s w hs hl h0 with k | ⟨v, k1, k2, k3⟩
    · exact Or.inl k
    · exact Or.inr ⟨v, k1, by omega, k3⟩
  · refine d4 s v w hs hv hl ?_ hT
    rcases hpr with y | ⟨-, y⟩
    · rcases Nat.lt_or_ge (a0 + 1) (s ||| 2 ^ v) with z | z
      · exact Or.inl z
      · exact absurd (by rw [show a0 + 1 = s ||| 2 ^ v by omega]; exact or_sub hs hv) hn
    · exact absurd y (Nat.not_lt_zero v)
theorem en_lst {s w c : Nat} {t : Nat} (h : En 0 t T s w c) : lst s w = true := by
  unfold lst
  rcases h with ⟨h1, h2, -⟩ | ⟨h1, -, -, h4⟩
  · rw [if_pos h1, h2]; rfl
  · rw [if_neg h1]; exact h4
/-- what the table says, where the earliest minutes allow it -/
theorem LI_says {st : Nat} (hp : PlOk p) (hok : LdOk p b x) (hL : SetOk p L) (hF : F < INF) (h1 : T1 p x 0 st L T) (h2 : T2 p x 0 st L T) (hst : st ≤ 1440) (h : LI p x L F 0 0 T B) : ∀ (n s w c g : Nat), bits (dif L s) = n → sub s L → En 0 st T s w c → c ≤ g → g + 2200 * n ≤ 100000000 → (g < B s w ↔ bs p x w g (dif L s) ≤ F) := by
  have hI : INF = 1000000000 := rfl
  have hn2 := hp.1
  have ok := nt_ok hp hok
  have h0n : 0 < nNc (nt p x) := by show 0 < pNc p; omega
  obtain ⟨d1, d2, d3, d4⟩ := h
  intro n
  induction n with
  | zero =>
    intro s w c g hb hs he hcg hg0
    have hg : g < INF := by omega
    have hd0 : dif L s = 0 := (set_zero (dif_lt hL.1)).mpr hb
    have hLs : s = L := by
      have := (dif_0 L s).mp hd0
      apply Nat.eq_of_testBit_eq
      intro i
      cases hi : s.testBit i with
      | true => rw [hs i hi]
      | false =>
        cases hj : L.testBit i with
        | false => rfl
        | true => have := this i hj; rw [hi] at this; cases this
    subst hLs
    have hl := en_lst he
    have hB : B s w = ld (nt p x) 0 F w := by
      have q1 := d3 w hl
      rcases Nat.eq_zero_or_pos (B s w) with q | q
      · omega
      · rcases d2 s w hs hl q with ⟨-, k⟩ | ⟨v, k1, -⟩
        · exact k
        · rw [dif_self] at k1; simp at k1
    rw [hB, hd0, bs_zero, ld_iff ok hF h0n g]
    have := ea_ge ok (ea_is ok (u := w) hg) (by omega) 0 h0n
    exact ⟨fun q => q.2, fun q => ⟨by omega, q⟩⟩
  | succ n ih =>
    intro s w c g hb hs he hcg hg0
    rw [Nat.mul_add, Nat.mul_one] at hg0
    have hg : g < INF := by omega
    have hl := en_lst he
    have hdo := sub_ok (dif_sub L s) hL
    have hd0 : dif L s ≠ 0 := fun q => by rw [q] at hb; rw [show bits 0 = 0 from rfl] at hb; omega
    -- one more stop
    have key : ∀ v, (dif L s).testBit v = true → ea (nt p x) w g v < INF → bits (dif L (s ||| 2 ^ v)) = n ∧ En 0 st T (s ||| 2 ^ v) v (T (s ||| 2 ^ v) v) ∧ T (s ||| 2 ^ v) v ≤ ea (nt p x) w g v + sty p x v ∧ sub (s ||| 2 ^ v) L ∧ sty p x v ≤ T (s ||| 2 ^ v) v ∧ v < nNc (nt p x) ∧ ea (nt p x) w g v + sty p x v + 2200 * n ≤ 100000000 := by
      intro v hv hf
      obtain ⟨k1, k2⟩ := dif_no hv
      obtain ⟨l1, l2, l3⟩ := bit_lt hp hdo hv
      have hm := ea_mon ok (u := w) hcg hg (show v < nNc (nt p x) from l3)
      have ht := h2 s w c v hs he k1 k2 (by omega)
      have hbb := clr_bits l1 hv
      rw [dif_or] at hbb
      have hsub := or_sub hs hv
      have hbs := sub_bits hs
      have hb9 := bits_le hp hL
      have hcb := en_bd (c0 := 1440) hp hok hL h1 hst (Nat.le_refl _) (by decide) (bits s) s w c rfl hs he
      have hcc : 1440 + 2200 * bits s ≤ 400000000 := by omega
      have hn3 := tnext (c := 1440 + 2200 * bits s) hp hok (Nat.le_add_right _ _) hcc hcb l3 (show ea (nt p x) w c v < INF by omega)
      have hg2 : g ≤ 100000000 := by omega
      have hnx : ea (nt p x) w g v + sty p x v + 2200 * n ≤ 100000000 := by
        rcases Nat.le_total 1440 g with z | z
        · have := tnext (c := g) hp hok z (by omega) (Nat.le_refl _) l3 hf; omega
        · have := tnext (c := 1440) hp hok (Nat.le_refl _) (by decide) z l3 hf
          have : n ≤ 10 := by have := bits_le hp hdo; omega
          omega
      have hne : s ||| 2 ^ v ≠ 0 := fun q => by
        have : (s ||| 2 ^ v).testBit v = true := by rw [or_bit]; simp
        rw [q] at this; simp at this
      have hbit : (s ||| 2 ^ v).testBit v = true := by rw [or_bit]; simp
      obtain ⟨w', c', -, -, e3⟩ := h1 (s ||| 2 ^ v) v hsub hne hbit (by omega)
      exact ⟨by omega, Or.inr ⟨hne, rfl, by omega, hbit⟩, by omega, hsub, by omega, l3, hnx⟩
    constructor
    · intro q
      rcases d2 s w hs hl (by omega) with ⟨k1, -⟩ | ⟨v, k1, -, k3, k4⟩
      · subst k1; rw [dif_self] at hd0; exact absurd rfl hd0
      · have hvn := (bit_lt hp hdo k1).2.2
        have hBv := d1 (s ||| 2 ^ v) v
        rw [k4] at q
        unfold lsrc at q
        obtain ⟨q1, q2⟩ := (ld_iff ok (by omega) (show v < nNc (nt p x) from hvn) g).mp q
        obtain ⟨e1, e2, e3, e4, e5, e6, e7⟩ := key v k1 (by omega)
        have := (ih (s ||| 2 ^ v) v (T (s ||| 2 ^ v) v) (ea (nt p x) w g v + sty p x v) e1 e4 e2 e3 e7).mp (by omega)
        have st1 := bs_step (x := x) (u := w) (t := g) hp hdo k1 (by omega)
        rw [dif_or] at st1
        omega
    · intro q
      obtain ⟨v, k1, k2, k3⟩ := bs_ex (x := x) (u := w) (t := g) hdo hd0 (by omega)
      rw [dif_or] at k3
      obtain ⟨e1, e2, e3, e4, e5, e6, e7⟩ := key v k1 k2
      have hi := (ih (s ||| 2 ^ v) v (T (s ||| 2 ^ v) v) (ea (nt p x) w g v + sty p x v) e1 e4 e2 e3 e7).mpr (by omega)
      have hBv := d1 (s ||| 2 ^ v) v
      refine Nat.lt_of_lt_of_le ?_ (d4 s v w hs k1 hl (Or.inl (by have := or_gt (dif_no k1).2; omega)) (by omega))
      unfold lsrc
      have := ea_ge ok (ea_is ok (u := w) hg) (by omega) v e6
      exact (ld_iff ok (by omega) e6 g).mpr ⟨by omega, by omega⟩
end
