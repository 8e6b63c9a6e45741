/-! the least end over all orders -/
def bmin (f : Nat → Nat) : Nat → Nat
  | 0 => INF
  | v + 1 => min (bmin f v) (f v)
theorem bmin_inf (f : Nat → Nat) : ∀ n, bmin f n ≤ INF
  | 0 => Nat.le_refl _
  | n + 1 => by have := bmin_inf f n; simp only [bmin]; omega
theorem bmin_le {f : Nat → Nat} {v : Nat} : ∀ n, v < n → bmin f n ≤ f v
  | 0, h => absurd h (Nat.not_lt_zero v)
  | n + 1, h => by
    simp only [bmin]
    by_cases e : v = n
    · subst e; omega
    · have := bmin_le (f := f) (v := v) n (by omega); omega
theorem bmin_at (f : Nat → Nat) : ∀ n, bmin f n < INF → ∃ v, v < n ∧ bmin f n = f v
  | 0, h => absurd h (Nat.lt_irrefl _)
  | n + 1, h => by
    simp only [bmin] at h ⊢
    by_cases e : bmin f n ≤ f n
    · rw [Nat.min_eq_left e] at h ⊢
      obtain ⟨v, h1, h2⟩ := bmin_at f n h
      exact ⟨v, by omega, h2⟩
    · rw [Nat.min_eq_right (by omega)]
      exact ⟨n, by omega, rfl⟩
theorem bmin_ge {f : Nat → Nat} {c : Nat} (hc : c ≤ INF) : ∀ n, (∀ v, v < n → c ≤ f v) → c ≤ bmin f n
  | 0, _ => hc
  | n + 1, h => by
    have h1 := bmin_ge (f := f) hc n (fun v hv => h v (by omega))
    have h2 := h n (by omega)
    simp only [bmin]
    omega
/-- a set without another -/
def dif (a b : Nat) : Nat := a ^^^ (a &&& b)
theorem dif_bit (a b i : Nat) : (dif a b).testBit i = (a.testBit i && !b.testBit i) := by
  unfold dif
  rw [Nat.testBit_xor, Nat.testBit_and]
  cases a.testBit i <;> cases b.testBit i <;> rfl
theorem or_bit (a v i : Nat) : (a ||| 2 ^ v).testBit i = (a.testBit i || decide (v = i)) := by rw [Nat.testBit_or, Nat.testBit_two_pow]
def sub (a b : Nat) : Prop := ∀ v, a.testBit v = true → b.testBit v = true
theorem sub_ok {p : Pl} {a b : Nat} (h : sub a b) (hb : SetOk p b) : SetOk p a := ⟨Nat.lt_of_le_of_lt (Nat.le_of_testBit h) hb.1, fun v hv => hb.2 v (h v hv)⟩
theorem dif_sub (a b : Nat) : sub (dif a b) a := fun v hv => by rw [dif_bit, Bool.and_eq_true] at hv; exact hv.1
theorem clr_sub (a v : Nat) : sub (clr a v) a := fun i hi => by rw [clr_bit, Bool.and_eq_true] at hi; exact hi.1
theorem bit_lt {p : Pl} {s v : Nat} (hp : PlOk p) (hs : SetOk p s) (hv : s.testBit v = true) : v < 10 ∧ 1 ≤ v ∧ v < pNc p := by
  have := hs.2 v hv
  have := hp.2.1
  omega
theorem or_bits {s v : Nat} (hv : v < 10) (h : s.testBit v = false) : bits (s ||| 2 ^ v) = bits s + 1 := by
  have e : clr (s ||| 2 ^ v) v = s := by
    apply Nat.eq_of_testBit_eq
    intro i
    rw [clr_bit, or_bit]
    by_cases q : i = v
    · subst q; simp [h]
    · have q' : ¬ v = i := fun z => q z.symm
      simp [q, q']
  have := clr_bits (s := s ||| 2 ^ v) hv (by rw [or_bit]; simp)
  rw [e] at this
  omega
theorem sty_le {p : Pl} {x : Ld} (hp : PlOk p) (v : Nat) : sty p x v ≤ 1212 := by
  have h := sumTo_le (f := styF p x v) (c := 101) (pHc p) (fun i hi => by
    have := hp.2.2.2.2.2.2.2.2 i hi
    unfold styF vmin
    split <;> omega)
  have := hp.2.2.2.1
  unfold sty
  omega
noncomputable def be (p : Pl) (x : Ld) : Nat → Nat → Nat → Nat → Nat
  | 0, u, t, _ => ea (nt p x) u t 0
  | n + 1, u, t, s => bmin (fun v => if s.testBit v = true ∧ ea (nt p x) u t v < INF then be p x n v (ea (nt p x) u t v + sty p x v) (clr s v) else INF) 10
noncomputable def bs (p : Pl) (x : Ld) (u t s : Nat) : Nat := be p x (bits s) u t s
section
variable {p : Pl} {x : Ld} {b : Nat}
theorem bs_zero (u t : Nat) : bs p x u t 0 = ea (nt p x) u t 0 := rfl
theorem bs_rec {u t s : Nat} (hs : s < 1024) (h0 : s ≠ 0) : bs p x u t s = bmin (fun v => if s.testBit v = true ∧ ea (nt p x) u t v < INF then bs p x v (ea (nt p x) u t v + sty p x v) (clr s v) else INF) 10 := by
  have hb : bits s ≠ 0 := fun q => h0 ((set_zero hs).mpr q)
  obtain ⟨n, hn⟩ : ∃ n, bits s = n + 1 := ⟨bits s - 1, by omega⟩
  have key : ∀ m, m ≤ 10 → bmin (fun v => if s.testBit v = true ∧ ea (nt p x) u t v < INF then be p x n v (ea (nt p x) u t v + sty p x v) (clr s v) else INF) m = bmin (fun v => if s.testBit v = true ∧ ea (nt p x) u t v < INF then bs p x v (ea (nt p x) u t v + sty p x v) (clr s v) else INF) m := by
    intro m
    induction m with
    | zero => intro _; rfl
    | succ m ih =>
      intro hm
      simp only [bmin]
      rw [ih (by omega)]
      congr 1
      by_cases q : s.testBit m = true ∧ ea (nt p x) u t m < INF
      · rw [if_pos q, if_pos q]
        have := clr_bits (by omega) q.1
        unfold bs
        rw [show bits (clr s m) = n by omega]
      · rw [if_neg q, if_neg q]
  unfold bs
  rw [hn]
  exact key 10 (Nat.le_refl _)
theorem bs_inf (hp : PlOk p) (hok : LdOk p b x) {u t s : Nat} (ht : t < INF) (hs : s < 1024) : bs p x u t s ≤ INF := by
  by_cases h0 : s = 0
  · subst h0
    rw [bs_zero]
    exact (ea_is (nt_ok hp hok) ht).2.2.2 0 (by have := hp.1; show 0 < pNc p; omega)
  · rw [bs_rec hs h0]
    exact bmin_inf _ _
theorem bs_step {u t s v : Nat} (hp : PlOk p) (hs : SetOk p s) (hv : s.testBit v = true) (hf : ea (nt p x) u t v < INF) : bs p x u t s ≤ bs p x v (ea (nt p x) u t v + sty p x v) (clr s v) := by
  have h0 : s ≠ 0 := fun q => by rw [q] at hv; simp at hv
  rw [bs_rec hs.1 h0]
  have := bmin_le (f := fun v => if s.testBit v = true ∧ ea (nt p x) u t v < INF then bs p x v (ea (nt p x) u t v + sty p x v) (clr s v) else INF) (v := v) 10 (bit_lt hp hs hv).1
  rw [if_pos ⟨hv, hf⟩] at this
  exact this
theorem bs_ex {u t s : Nat} (hs : SetOk p s) (h0 : s ≠ 0) (hf : bs p x u t s < INF) : ∃ v, s.testBit v = true ∧ ea (nt p x) u t v < INF ∧ bs p x u t s = bs p x v (ea (nt p x) u t v + sty p x v) (clr s v) := by
  rw [bs_rec hs.1 h0] at hf
  obtain ⟨v, -, h2⟩ := bmin_at _ _ hf
  rw [← bs_rec hs.1 h0] at h2 hf
  by_cases q : s.testBit v = true ∧ ea (nt p x) u t v < INF
  · rw [if_pos q] at h2
    exact ⟨v, q.1, q.2, h2⟩
  · rw [if_neg q] at h2
    omega
theorem tnext {c u t v : Nat} (hp : PlOk p) (hok : LdOk p b x) (hc : 1440 ≤ c) (hc2 : c ≤ 400000000) (ht : t ≤ c) (hv : v < pNc p) (hf : ea (nt p x) u t v < INF) : ea (nt p x) u t v + sty p x v ≤ c + 2200 := by
  have h1 := ea_dr hp hok ht hc hc2 hv hf
  have h2 := sty_le (x := x) hp v
  omega
theorem bs_mono (hp : PlOk p) (hok : LdOk p b x) : ∀ (n u t t' s : Nat), bits s = n → SetOk p s → t ≤ t' → t' + 2200 * n ≤ 400000000 → bs p x u t s ≤ bs p x u t' s := by
  have hI : INF = 1000000000 := rfl
  have h2 := hp.1
  intro n
  induction n with
  | zero =>
    intro u t t' s hb hs ht hT
    have h0 : s = 0 := (set_zero hs.1).mpr hb
    subst h0
    rw [bs_zero, bs_zero]
    exact ea_mon (nt_ok hp hok) ht (by omega) (by show 0 < pNc p; omega)
  | succ n ih =>
    intro u t t' s hb hs ht hT
    rw [Nat.mul_add, Nat.mul_one] at hT
    have h0 : s ≠ 0 := fun q => by
      subst q
      rw [show bits 0 = 0 from rfl] at hb; omega
    rcases Nat.lt_or_ge (bs p x u t' s) INF with q | q
    · obtain ⟨v, h1, h2, h3⟩ := bs_ex hs h0 q
      obtain ⟨l1, l2, l3⟩ := bit_lt hp hs h1
      rw [h3]
      have hle := ea_mon (nt_ok hp hok) (u := u) ht (by omega) (show v < nNc (nt p x) from l3)
      refine Nat.le_trans (bs_step hp hs h1 (by omega)) ?_
      have hcb := clr_bits l1 h1
      have hb9 := bits_le hp hs
      have e1 : bits (clr s v) = n := by omega
      have hT2 : t' ≤ 400000000 := by omega
      have e3 : ea (nt p x) u t' v + sty p x v + 2200 * n ≤ 400000000 := by
        rcases Nat.le_total 1440 t' with z | z
        · have hn := tnext (c := t') hp hok z hT2 (Nat.le_refl _) l3 h2
          omega
        · have hn := tnext (c := 1440) hp hok (Nat.le_refl _) (by decide) z l3 h2
          omega
      exact ih v _ _ (clr s v) e1 (clr_ok hs) (Nat.add_le_add_right hle _) e3
    · exact Nat.le_trans (bs_inf hp hok (by omega) hs.1) q
/-- a table of the least minutes at which a set is done and its last stop is left -/
def En (u t : Nat) (T : Nat → Nat → Nat) (s w c : Nat) : Prop := (s = 0 ∧ w = u ∧ c = t) ∨ (s ≠ 0 ∧ T s w = c ∧ c < INF ∧ s.testBit w = true)
def T1 (p : Pl) (x : Ld) (u t L : Nat) (T : Nat → Nat → Nat) : Prop := ∀ s v, sub s L → s ≠ 0 → s.testBit v = true → T s v < INF → ∃ w c, En u t T (clr s v) w c ∧ ea (nt p x) w c v < INF ∧ T s v = ea (nt p x) w c v + sty p x v
def T2 (p : Pl) (x : Ld) (u t L : Nat) (T : Nat → Nat → Nat) : Prop := ∀ s w c v, sub s L → En u t T s w c → L.testBit v = true → s.testBit v = false → ea (nt p x) w c v < INF → T (s ||| 2 ^ v) v ≤ ea (nt p x) w c v + sty p x v
theorem en_lt {u t L s w c : Nat} {T : Nat → Nat → Nat} (hp : PlOk p) (hL : SetOk p L) (hu : u < pNc p) (hs : sub s L) (h : En u t T s w c) : w < pNc p := by
  rcases h with ⟨-, h, -⟩ | ⟨-, -, -, h⟩
  · omega
  · exact (hL.2 w (hs w h)).2
theorem en_bd {u t L c0 : Nat} {T : Nat → Nat → Nat} (hp : PlOk p) (hok : LdOk p b x) (hL : SetOk p L) (h1 : T1 p x u t L T) (ht : t ≤ c0) (hc : 1440 ≤ c0) (hc2 : c0 ≤ 100000000) : ∀ (n s w c : Nat), bits s = n → sub s L → En u t T s w c → c ≤ c0 + 2200 * n := by
  intro n
  induction n with
  | zero =>
    intro s w c hb hs he
    have h0 : s = 0 := (set_zero (sub_ok hs hL).1).mpr hb
    rcases he with ⟨-, -, h⟩ | ⟨h, -⟩
    · omega
    · exact absurd h0 h
  | succ n ih =>
    intro s w c hb hs he
    have hso := sub_ok hs hL
    rcases he with ⟨h, -, -⟩ | ⟨h0, h2, h3, h4⟩
    · exfalso; subst h; rw [show bits 0 = 0 from rfl] at hb; omega
    · obtain ⟨w', c', k1, k2, k3⟩ := h1 s w hs h0 h4 (by omega)
      obtain ⟨l1, l2, l3⟩ := bit_lt hp hso h4
      have hcb := clr_bits l1 h4
      have hb9 := bits_le hp hso
      have := ih (clr s w) w' c' (by omega) (fun i hi => hs i (clr_sub s w i hi)) k1
      have := tnext (c := c0 + 2200 * n) hp hok (by omega) (by omega) this l3 k2
      omega
theorem dif_clr {L s v : Nat} (hs : sub s L) (hv : s.testBit v = true) : clr (dif L (clr s v)) v = dif L s ∧ (dif L (clr s v)).testBit v = true := by
  refine ⟨?_, ?_⟩
  · apply Nat.eq_of_testBit_eq
    intro i
    rw [clr_bit, dif_bit, dif_bit, clr_bit]
    by_cases e : i = v
    · subst e; simp [hv]
    · simp [e]
  · rw [dif_bit, clr_bit, hs v hv]; simp
theorem dif_or (L s v : Nat) : clr (dif L s) v = dif L (s ||| 2 ^ v) := by
  apply Nat.eq_of_testBit_eq
  intro i
  rw [clr_bit, dif_bit, dif_bit, or_bit]
  by_cases e : i = v
  · subst e; simp
  · have e' : ¬ v = i := fun z => e z.symm
    simp [e, e']
theorem dif_zero (L : Nat) : dif L 0 = L := by unfold dif; simp
theorem dif_self (L : Nat) : dif L L = 0 := by
  apply Nat.eq_of_testBit_eq
  intro i
  rw [dif_bit]; simp
theorem tab_lo {u t L : Nat} {T : Nat → Nat → Nat} (hp : PlOk p) (hL : SetOk p L) (h1 : T1 p x u t L T) : ∀ (n s w c : Nat), bits s = n → sub s L → En u t T s w c → bs p x u t L ≤ bs p x w c (dif L s) := by
  intro n
  induction n with
  | zero =>
    intro s w c hb hs he
    have h0 : s = 0 := (set_zero (sub_ok hs hL).1).mpr hb
    rcases he with ⟨-, h, h'⟩ | ⟨h, -⟩
    · rw [h0, h, h', dif_zero]; exact Nat.le_refl _
    · exact absurd h0 h
  | succ n ih =>
    intro s w c hb hs he
    have hso := sub_ok hs hL
    rcases he with ⟨h, -, -⟩ | ⟨h0, h2, h3, h4⟩
    · exfalso; subst h; rw [show bits 0 = 0 from rfl] at hb; omega
    · obtain ⟨w', c', k1, k2, k3⟩ := h1 s w hs h0 h4 (by omega)
      obtain ⟨l1, l2, l3⟩ := bit_lt hp hso h4
      have hcb := clr_bits l1 h4
      have hsc : sub (clr s w) L := fun i hi => hs i (clr_sub s w i hi)
      have i1 := ih (clr s w) w' c' (by omega) hsc k1
      obtain ⟨d1, d2⟩ := dif_clr hs h4
      have i2 := bs_step (x := x) (u := w') (t := c') hp (sub_ok (dif_sub L (clr s w)) hL) d2 k2
      rw [d1, ← k3, h2] at i2
      exact Nat.le_trans i1 i2
theorem sub_bits {a L : Nat} (h : sub a L) : bits a ≤ bits L := cnt_sub (fun k _ hk => h k hk)
theorem tab_up {u t L c0 : Nat} {T : Nat → Nat → Nat} (hp : PlOk p) (hok : LdOk p b x) (hL : SetOk p L) (h1 : T1 p x u t L T) (h2 : T2 p x u t L T) (hu : u < pNc p) (ht : t ≤ c0) (hc : 1440 ≤ c0) (hc2 : c0 ≤ 100000000) (hF : bs p x u t L < INF) : ∀ n, n ≤ bits L → ∃ s w c, sub s L ∧ bits s = n ∧ En u t T s w c ∧ bs p x w c (dif L s) ≤ bs p x u t L := by
  have hI : INF = 1000000000 := rfl
  have hbL := bits_le hp hL
  intro n
  induction n with
  | zero => intro _; exact ⟨0, u, t, fun v hv => by simp at hv, rfl, Or.inl ⟨rfl, rfl, rfl⟩, by rw [dif_zero]; exact Nat.le_refl _⟩
  | succ n ih =>
    intro hn
    obtain ⟨s, w, c, hs, hb, he, hle⟩ := ih (by omega)
    have hdo := sub_ok (dif_sub L s) hL
    have hd0 : dif L s ≠ 0 := by
      intro q
      have : sub L s := fun v hv => by
        have h3 : (dif L s).testBit v = false := by rw [q]; simp
        rw [dif_bit, hv] at h3
        simpa using h3
      have := sub_bits this
      omega
    obtain ⟨v, k1, k2, k3⟩ := bs_ex (x := x) (u := w) (t := c) hdo hd0 (by omega)
    obtain ⟨l1, l2, l3⟩ := bit_lt hp hdo k1
    have kb := k1
    rw [dif_bit, Bool.and_eq_true, Bool.not_eq_true'] at kb
    have hT := h2 s w c v hs he kb.1 kb.2 k2
    have hcb := en_bd hp hok hL h1 ht hc hc2 n s w c hb hs he
    have hn2 := tnext (c := c0 + 2200 * n) hp hok (by omega) (by omega) hcb l3 k2
    have hsub : sub (s ||| 2 ^ v) L := fun i hi => by
      rw [or_bit, Bool.or_eq_true, decide_eq_true_eq] at hi
      rcases hi with q | q
      · exact hs i q
      · rw [← q]; exact kb.1
    have hob := or_bits l1 kb.2
    refine ⟨s ||| 2 ^ v, v, T (s ||| 2 ^ v) v, hsub, by omega, Or.inr ⟨?_, rfl, by omega, by rw [or_bit]; simp⟩, ?_⟩
    · intro q
      have : (s ||| 2 ^ v).testBit v = true := by rw [or_bit]; simp
      rw [q] at this; simp at this
    · have hdb : bits (dif L (s ||| 2 ^ v)) ≤ 9 := bits_le hp (sub_ok (dif_sub _ _) hL)
      have hm := bs_mono hp hok _ v (T (s ||| 2 ^ v) v) _ (dif L (s ||| 2 ^ v)) rfl (sub_ok (dif_sub _ _) hL) hT (by omega)
      rw [dif_or] at k3
      omega
/-- the least end, from the table -/
theorem tab_min {u t L c0 : Nat} {T : Nat → Nat → Nat} (hp : PlOk p) (hok : LdOk p b x) (hL : SetOk p L) (h1 : T1 p x u t L T) (h2 : T2 p x u t L T) (hu : u < pNc p) (ht : t ≤ c0) (hc : 1440 ≤ c0) (hc2 : c0 ≤ 100000000) (r : Nat) (hr : r ≤ INF)
    (r1 : ∀ w c, En u t T L w c → r ≤ ea (nt p x) w c 0) (r2 : r < INF → ∃ w c, En u t T L w c ∧ r = ea (nt p x) w c 0) : r = bs p x u t L := by
  have hI : INF = 1000000000 := rfl
  have hinf := bs_inf (u := u) hp hok (t := t) (by omega) hL.1
  apply Nat.le_antisymm
  · rcases Nat.lt_or_ge (bs p x u t L) INF with q | q
    · obtain ⟨s, w, c, hs, hb, he, hle⟩ := tab_up hp hok hL h1 h2 hu ht hc hc2 q (bits L) (Nat.le_refl _)
      have hsL : s = L := by
        apply Nat.eq_of_testBit_eq
        intro i
        cases hi : s.testBit i with
        | true => rw [hs i hi]
        | false =>
          cases hj : L.testBit i with
          | false => rfl
          | true =>
            have := cnt_lt (p := fun v => s.testBit v) (q := fun v => L.testBit v) (w := i) (n := 10) (fun k _ hk => hs k hk) (bit_lt hp hL hj).1 hi hj
            unfold bits at hb
            omega
      subst hsL
      have := r1 w c he
      rw [dif_self, bs_zero] at hle
      omega
    · omega
  · rcases Nat.lt_or_ge r INF with q | q
    · obtain ⟨w, c, he, hre⟩ := r2 q
      have := tab_lo hp hL h1 (bits L) L w c rfl (fun _ h => h) he
      rw [dif_self, bs_zero] at this
      omega
    · omega
/-! the first order with the least end -/
def fs (P : Nat → Bool) : Nat → Option Nat
  | 0 => none
  | n + 1 => match fs P n with
    | some v => some v
    | none => if P n then some n else none
theorem fs_some {P : Nat → Bool} : ∀ (n v : Nat), fs P n = some v → v < n ∧ P v = true ∧ ∀ w, w < v → P w = false
  | 0, v, h => by cases h
  | n + 1, v, h => by
    simp only [fs] at h
    cases hs : fs P n with
    | some w =>
      rw [hs] at h
      have := fs_some n w hs
      cases h
      exact ⟨by omega, this.2⟩
    | none =>
      rw [hs] at h
      dsimp only at h
      split at h
      · rename_i q
        cases h
        refine ⟨by omega, q, fun w hw => ?_⟩
        have : ∀ m, fs P m = none → ∀ w, w < m → P w = false := by
          intro m
          induction m with
          | zero => intro _ w hw; exact absurd hw (Nat.not_lt_zero w)
          | succ m ih =>
            intro hm w hw
            simp only [fs] at hm
            cases hq : fs P m with
            | some z => rw [hq] at hm; cases hm
            | none =>
              rw [hq] at hm
              dsimp only at hm
              by_cases e : w = m
              · subst e
                split at hm
                · cases hm
                · rename_i z; simpa using z
              · exact ih hq w (by omega)
        exact this n hs w hw
      · cases h
theorem fs_at {P : Nat → Bool} {v : Nat} (hv : P v = true) (h : ∀ w, w < v → P w = false) : ∀ n, v < n → fs P n = some v := by
  intro n
  have hn : ∀ m, m ≤ v → fs P m = none := by
    intro m
    induction m with
    | zero => intro _; rfl
    | succ m ih => intro hm; simp only [fs, ih (by omega), h m (by omega)]; rfl
  induction n with
  | zero => intro q; exact absurd q (Nat.not_lt_zero v)
  | succ n ih =>
    intro q
    simp only [fs]
    by_cases e : v = n
    · subst e; rw [hn v (Nat.le_refl _)]; dsimp only; rw [if_pos hv]
    · rw [ih (by omega)]
noncomputable def fP (p : Pl) (x : Ld) (F u t s v : Nat) : Bool := decide (s.testBit v = true ∧ ea (nt p x) u t v < INF ∧ bs p x v (ea (nt p x) u t v + sty p x v) (clr s v) = F)
noncomputable def ford (p : Pl) (x : Ld) (F : Nat) : Nat → Nat → Nat → Nat → List Nat
  | 0, _, _, _ => []
  | n + 1, u, t, s => match fs (fP p x F u t s) 10 with
    | none => []
    | some v => v :: ford p x F n v (ea (nt p x) u t v + sty p x v) (clr s v)
theorem fs_ex {P : Nat → Bool} {v n : Nat} (hv : v < n) (h : P v = true) : ∃ w, fs P n = some w := by
  obtain ⟨w, h1, h2⟩ := pk_least (fun k => P k = true) ⟨v, h⟩
  have hw : w ≤ v := by
    rcases Nat.lt_or_ge v w with q | q
    · exact absurd h (h2 v q)
    · exact q
  exact ⟨w, fs_at h1 (fun k hk => by cases hk' : P k; rfl; exact absurd hk' (h2 k hk)) n (by omega)⟩
/-- what the next stop is, while the least end is still to be had -/
theorem ford_step {F u t s : Nat} (hp : PlOk p) (hs : SetOk p s) (h0 : s ≠ 0) (hF : bs p x u t s = F) (hI : F < INF) : ∃ v, fs (fP p x F u t s) 10 = some v ∧ s.testBit v = true ∧ ea (nt p x) u t v < INF ∧ bs p x v (ea (nt p x) u t v + sty p x v) (clr s v) = F ∧ ∀ w, w < v → fP p x F u t s w = false := by
  obtain ⟨v, h1, h2, h3⟩ := bs_ex (p := p) (x := x) (u := u) (t := t) hs h0 (by omega)
  obtain ⟨w, hw⟩ := fs_ex (P := fP p x F u t s) (n := 10) (bit_lt hp hs h1).1 (by unfold fP; rw [decide_eq_true_eq]; exact ⟨h1, h2, by rw [← h3]; exact hF⟩)
  obtain ⟨k1, k2, k3⟩ := fs_some _ _ hw
  have k4 := k2
  unfold fP at k4
  rw [decide_eq_true_eq] at k4
  exact ⟨w, hw, k4.1, k4.2.1, k4.2.2, k3⟩
end
