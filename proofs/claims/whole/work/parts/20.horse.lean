/-! frames; routes; the horse -/
def Same (cs : List Nat) (I I1 : MI) : Prop := ∀ c, c ∉ cs → I1 c = I c
theorem Same.rf {cs : List Nat} {I : MI} : Same cs I I := fun _ _ => rfl
theorem Same.tr {cs : List Nat} {I I1 I2 : MI} (h : Same cs I I1) (h2 : Same cs I1 I2) : Same cs I I2 := fun c hc => (h2 c hc).trans (h c hc)
theorem Same.mo {cs ds : List Nat} {I I1 : MI} (h : Same cs I I1) (hs : ∀ c, c ∈ cs → c ∈ ds) : Same ds I I1 := fun c hc => h c (fun q => hc (hs c q))
theorem Same.up {cs : List Nat} {I I1 : MI} {c : Nat} {f : Nat → Int32} (h : Same cs I I1) (hc : c ∈ cs) : Same cs I (upA I1 c f) := fun i hi => by
  rw [upA_ne I1 f (fun q => hi (by rw [q]; exact hc))]; exact h i hi
theorem Same.u2 {cs : List Nat} {I I1 : MI} {c k : Nat} {x : Int32} (h : Same cs I I1) (hc : c ∈ cs) : Same cs I (up2 I1 c k x) := Same.up h hc
/-- the reference: the rows cs may change, and its own numbers ks -/
def SamM (cs ks : List Nat) (I I1 : MI) : Prop := (∀ c, c ≠ 261 → c ∉ cs → I1 c = I c) ∧ ∀ k, k ∉ ks → I1 261 k = I 261 k
theorem SamM.rf {cs ks : List Nat} {I : MI} : SamM cs ks I I := ⟨fun _ _ _ => rfl, fun _ _ => rfl⟩
theorem SamM.tr {cs ks : List Nat} {I I1 I2 : MI} (h : SamM cs ks I I1) (h2 : SamM cs ks I1 I2) : SamM cs ks I I2 := ⟨fun c h0 hc => (h2.1 c h0 hc).trans (h.1 c h0 hc), fun k hk => (h2.2 k hk).trans (h.2 k hk)⟩
theorem SamM.mo {cs ks ds js : List Nat} {I I1 : MI} (h : SamM cs ks I I1) (hs : ∀ c, c ∈ cs → c ∈ ds) (ht : ∀ c, c ∈ ks → c ∈ js) : SamM ds js I I1 := ⟨fun c h0 hc => h.1 c h0 (fun q => hc (hs c q)), fun k hk => h.2 k (fun q => hk (ht k q))⟩
theorem SamM.up {cs ks : List Nat} {I I1 : MI} {c : Nat} {f : Nat → Int32} (h : SamM cs ks I I1) (hc : c ∈ cs) (h0 : c ≠ 261) : SamM cs ks I (upA I1 c f) :=
  ⟨fun i h1 hi => by rw [upA_ne I1 f (fun q => hi (by rw [q]; exact hc))]; exact h.1 i h1 hi, fun k hk => by rw [upA_ne I1 f (fun q => h0 q.symm)]; exact h.2 k hk⟩
theorem SamM.u2 {cs ks : List Nat} {I I1 : MI} {c k : Nat} {x : Int32} (h : SamM cs ks I I1) (hc : c ∈ cs) (h0 : c ≠ 261) : SamM cs ks I (up2 I1 c k x) := SamM.up h hc h0
theorem SamM.fk {cs ks : List Nat} {I I1 : MI} {k : Nat} {x : Int32} (h : SamM cs ks I I1) (hk : k ∈ ks) : SamM cs ks I (up2 I1 261 k x) :=
  ⟨fun i h1 hi => by rw [up2_cell I1 k x h1]; exact h.1 i h1 hi, fun j hj => by rw [up2_slot I1 x (fun q => hj (by rw [q]; exact hk))]; exact h.2 j hj⟩
theorem SamM.m2 {cs ks : List Nat} {I I1 : MI} {f g : Nat → Int32} (h : SamM cs ks I I1) (h1 : 278 ∈ cs) (h2 : 279 ∈ cs) : SamM cs ks I (mem2 I1 f g) := (h.up h1 (by decide)).up h2 (by decide)
theorem PM_sam {cs ks : List Nat} {p : Pl} {I I1 : MI} (h : PM p I) (s : SamM cs ks I I1) (hc : ∀ i, i ∈ cs → i ≠ 263 ∧ i ≠ 265 ∧ i ≠ 266 ∧ i ≠ 267 ∧ i ≠ 270 ∧ i ≠ 271) : PM p I1 :=
  PM_of h (fun i hi => s.1 i (by omega) (fun q => by have := hc i q; omega))
theorem LM_sam {cs ks : List Nat} {a o : Nat} {p : Pl} {x : Ld} {I I1 : MI} (h : LM a o p x I) (s : SamM cs ks I I1) (h0 : a ≠ 261) (hc : a ∉ cs) : LM a o p x I1 := LM_of h (s.1 a h0 hc)
theorem PX_sam {cs : List Nat} {c : Nat} {p : Pl} {I I1 : MI} (h : PX c p I) (s : Same cs I I1) (hc : ∀ i, i ∈ cs → i < c ∨ c + 5 < i) : PX c p I1 := PX_of h (fun i h1 h2 => s i (fun q => by have := hc i q; omega))
theorem LX_sam {cs : List Nat} {c : Nat} {p : Pl} {x : Ld} {I I1 : MI} (h : LX c p x I) (s : Same cs I I1) (hc : ∀ i, i ∈ cs → i < c ∨ c + 13 < i) : LX c p x I1 := LX_of h (fun i h1 h2 => s i (fun q => by have := hc i q; omega))
/-- a route in the class's cells c, c + 1; and in the reference's -/
def RtX (c : Nat) (r : List Nat) (I : MI) : Prop := I c 1 = nI r.length ∧ ∀ i, i < r.length → I (c + 1) i = nI (r.getD i 0)
def RtM (r : List Nat) (I : MI) : Prop := I 261 30 = nI r.length ∧ ∀ i, i < r.length → I 280 i = nI (r.getD i 0)
theorem getD_app (r : List Nat) (x i : Nat) : (r ++ [x]).getD i 0 = if i < r.length then r.getD i 0 else if i = r.length then x else 0 := by
  by_cases h : i < r.length
  · simp [h, List.getD_eq_getElem?_getD, List.getElem?_append_left h]
  · rw [if_neg h]
    by_cases h2 : i = r.length
    · subst h2; simp [List.getD_eq_getElem?_getD]
    · rw [if_neg h2, List.getD_eq_getElem?_getD, List.getElem?_eq_none (by simp; omega)]; rfl
theorem sX_add48 {r : List Nat} {v : Nat} {I : MI} {Q : MI → Prop} (hr : RtX 48 r I) (hl : r.length < 10) (H : ∀ I1, RtX 48 (r ++ [v]) I1 → Same [48, 49] I I1 → Q I1) : Wv mX7_add [.ref 48, .int (nI v)] I Q := by
  refine rX7_add_48 ⟨fun h => ?_, fun _ => ?_⟩
  · rw [hr.1, nI_10, ile (by decide) (by omega)] at h; omega
  · rw [hr.1, cl (by omega)]
    refine ⟨ci (by omega) (by decide), fun I1 e1 I2 e2 => H I2 ?_ ?_⟩
    · subst e1; subst e2
      refine ⟨?_, fun i hi => ?_⟩
      · rw [up2_same, up2_cell _ _ _ (by decide), hr.1, nI_s]; simp
      · rw [up2_cell _ _ _ (by decide), getD_app]
        simp at hi
        by_cases h : i = r.length
        · subst h; rw [up2_same, if_neg (by omega), if_pos rfl]
        · rw [up2_slot _ _ h, if_pos (by omega)]; exact hr.2 i (by omega)
    · subst e1; subst e2
      exact (Same.rf.u2 (by simp)).u2 (by simp)
theorem sX_add51 {r : List Nat} {v : Nat} {I : MI} {Q : MI → Prop} (hr : RtX 51 r I) (hl : r.length < 10) (H : ∀ I1, RtX 51 (r ++ [v]) I1 → Same [51, 52] I I1 → Q I1) : Wv mX7_add [.ref 51, .int (nI v)] I Q := by
  refine rX7_add_51 ⟨fun h => ?_, fun _ => ?_⟩
  · rw [hr.1, nI_10, ile (by decide) (by omega)] at h; omega
  · rw [hr.1, cl (by omega)]
    refine ⟨ci (by omega) (by decide), fun I1 e1 I2 e2 => H I2 ?_ ?_⟩
    · subst e1; subst e2
      refine ⟨?_, fun i hi => ?_⟩
      · rw [up2_same, up2_cell _ _ _ (by decide), hr.1, nI_s]; simp
      · rw [up2_cell _ _ _ (by decide), getD_app]
        simp at hi
        by_cases h : i = r.length
        · subst h; rw [up2_same, if_neg (by omega), if_pos rfl]
        · rw [up2_slot _ _ h, if_pos (by omega)]; exact hr.2 i (by omega)
    · subst e1; subst e2
      exact (Same.rf.u2 (by simp)).u2 (by simp)
theorem sX_clear48 {I : MI} {Q : MI → Prop} (H : ∀ I1, RtX 48 [] I1 → Same [48, 49] I I1 → Q I1) : Wv mX7_clear [.ref 48] I Q :=
  rX7_clear_48 (fun I1 e1 => H I1 ⟨by rw [e1, up2_same]; rfl, fun i hi => absurd hi (Nat.not_lt_zero i)⟩ (by rw [e1]; exact Same.rf.u2 (by simp)))
theorem sX_clear51 {I : MI} {Q : MI → Prop} (H : ∀ I1, RtX 51 [] I1 → Same [51, 52] I I1 → Q I1) : Wv mX7_clear [.ref 51] I Q :=
  rX7_clear_51 (fun I1 e1 => H I1 ⟨by rw [e1, up2_same]; rfl, fun i hi => absurd hi (Nat.not_lt_zero i)⟩ (by rw [e1]; exact Same.rf.u2 (by simp)))
/-- what a route answers at a place that is not negative -/
def rtAt (r : List Nat) (k : Nat) : Int32 := if k < r.length then nI (r.getD k 0) else -2
theorem sX_stopAt48 {r : List Nat} {k : Nat} {I : MI} {Q : Int32 → MI → Prop} (hr : RtX 48 r I) (hl : r.length ≤ 10) (hk : k < 2147483648) (H : Q (rtAt r k) I) : Wi mX7_stopAt [.ref 48, .int (nI k)] I Q := by
  refine rX7_stopAt_48 ⟨fun h => absurd h (nI_pos (by omega)), fun _ => ?_⟩
  rw [hr.1, ile (by omega) (by omega)]
  unfold rtAt at H
  refine ⟨fun h => ?_, fun h => ⟨ci (by omega) (by decide), ?_⟩⟩
  · rw [if_neg (by omega)] at H; exact H
  · rw [if_pos (by omega)] at H; rw [cl hk, hr.2 k (by omega)]; exact H
theorem sX_stopAt51 {r : List Nat} {k : Nat} {I : MI} {Q : Int32 → MI → Prop} (hr : RtX 51 r I) (hl : r.length ≤ 10) (hk : k < 2147483648) (H : Q (rtAt r k) I) : Wi mX7_stopAt [.ref 51, .int (nI k)] I Q := by
  refine rX7_stopAt_51 ⟨fun h => absurd h (nI_pos (by omega)), fun _ => ?_⟩
  rw [hr.1, ile (by omega) (by omega)]
  unfold rtAt at H
  refine ⟨fun h => ?_, fun h => ⟨ci (by omega) (by decide), ?_⟩⟩
  · rw [if_neg (by omega)] at H; exact H
  · rw [if_pos (by omega)] at H; rw [cl hk, hr.2 k (by omega)]; exact H
theorem sM_stopAt {r : List Nat} {k : Nat} {I : MI} {Q : Int32 → MI → Prop} (hr : RtM r I) (hl : r.length ≤ 10) (hk : k < 2147483648) (H : Q (rtAt r k) I) : Wi mX12_stopAt [.ref 261, .int (nI k)] I Q := by
  refine rX12_stopAt ?_
  rw [hr.1, ile (by omega) (by omega)]
  unfold rtAt at H
  refine ⟨fun h => ?_, fun h => ⟨ci (by omega) (by decide), ?_⟩⟩
  · rw [if_neg (by omega)] at H; exact H
  · rw [if_pos (by omega)] at H; rw [cl hk, hr.2 k (by omega)]; exact H
/-! sets of stops -/
def SetOk (p : Pl) (s : Nat) : Prop := s < 1024 ∧ ∀ v, s.testBit v = true → 1 ≤ v ∧ v < pNc p
def bits (s : Nat) : Nat := cnt (fun v => s.testBit v) 10
theorem stp_ok {p : Pl} {x : Ld} (hp : PlOk p) : SetOk p (stp p x (pHc p)) := by
  refine ⟨stp_lt hp _ (Nat.le_refl _), fun v hv => ?_⟩
  obtain ⟨i, h1, h2, -⟩ := (stp_bit v _).mp hv
  have := hp.2.2.2.2.2.2.2.2 i h1
  omega
theorem set_zero {s : Nat} (h : s < 1024) : s = 0 ↔ bits s = 0 := by
  constructor
  · intro h0; subst h0; rfl
  · intro h0
    apply Nat.eq_of_testBit_eq
    intro i
    rw [Nat.zero_testBit]
    cases hb : s.testBit i with
    | false => rfl
    | true =>
      have hi : i < 10 := by
        rcases Nat.lt_or_ge i 10 with q | q
        · exact q
        · have hw : 2 ^ 10 ≤ 2 ^ i := Nat.pow_le_pow_right (by decide) q
          have : s.testBit i = false := Nat.testBit_lt_two_pow (Nat.lt_of_lt_of_le h hw)
          rw [this] at hb; cases hb
      have := cnt_lt (p := fun _ => false) (q := fun v => s.testBit v) (w := i) (n := 10) (fun _ _ q => by cases q) hi rfl hb
      unfold bits at h0
      omega
theorem clr_bits {s v : Nat} (hv : v < 10) (hb : s.testBit v = true) : bits (clr s v) + 1 = bits s := by
  have key : ∀ n, cnt (fun i => (clr s v).testBit i) n + (if v < n then 1 else 0) = cnt (fun i => s.testBit i) n := by
    intro n
    induction n with
    | zero => rfl
    | succ n ih =>
      simp only [cnt, clr_bit] at ih ⊢
      by_cases h : n = v
      · subst h
        simp [hb] at ih ⊢
        exact ih
      · have : (v < n + 1) ↔ (v < n) := by omega
        simp only [this]
        simp [h] at ih ⊢
        omega
  have := key 10
  rw [if_pos hv] at this
  exact this
theorem clr_ok {p : Pl} {s v : Nat} (h : SetOk p s) : SetOk p (clr s v) := ⟨Nat.lt_of_le_of_lt (clr_le s v) h.1, fun i hi => h.2 i (by rw [clr_bit] at hi; simp only [Bool.and_eq_true] at hi; exact hi.1)⟩
theorem bits_le {p : Pl} {s : Nat} (hp : PlOk p) (h : SetOk p s) : bits s ≤ 9 := by
  have h0 : (s.testBit 0) = false := by
    cases hb : s.testBit 0 with
    | false => rfl
    | true => have := h.2 0 hb; omega
  have := cnt_lt (p := fun v => s.testBit v) (q := fun _ => true) (w := 0) (n := 10) (fun _ _ _ => rfl) (by decide) h0 rfl
  have := cnt_le (fun _ => true) 10
  unfold bits
  omega
/-- the best of the first stops of a set, by habit, then by arrival -/
def hsel (s : Nat) (hb D : Nat → Nat) : Nat → Option Nat
  | 0 => none
  | v + 1 => if s.testBit v then (match hsel s hb D v with | none => some v | some b => if hb b < hb v ∨ (hb v = hb b ∧ D v < D b) then some v else some b) else hsel s hb D v
theorem hsel_in {s : Nat} {hb D : Nat → Nat} : ∀ (n b : Nat), hsel s hb D n = some b → b < n ∧ s.testBit b = true
  | 0, b, h => by cases h
  | n + 1, b, h => by
    simp only [hsel] at h
    by_cases ht : s.testBit n = true
    · rw [if_pos ht] at h
      cases hs : hsel s hb D n with
      | none => rw [hs] at h; simp at h; subst h; exact ⟨by omega, ht⟩
      | some c =>
        rw [hs] at h
        have ih := hsel_in n c hs
        dsimp only at h
        split at h
        · cases h; exact ⟨by omega, ht⟩
        · cases h; exact ⟨by omega, ih.2⟩
    · rw [if_neg ht] at h
      have := hsel_in n b h
      exact ⟨by omega, this.2⟩
theorem hsel_none {s : Nat} {hb D : Nat → Nat} : ∀ n, hsel s hb D n = none → ∀ v, v < n → s.testBit v = false
  | 0, _, v, hv => absurd hv (Nat.not_lt_zero v)
  | n + 1, h, v, hv => by
    simp only [hsel] at h
    by_cases ht : s.testBit n = true
    · rw [if_pos ht] at h
      split at h
      · cases h
      · split at h <;> cases h
    · rw [if_neg ht] at h
      by_cases e : v = n
      · subst e; simpa using ht
      · exact hsel_none n h v (by omega)
theorem hsel_out {s : Nat} {hb D : Nat → Nat} (m : Nat) (h : ∀ v, m ≤ v → s.testBit v = false) : ∀ n, hsel s hb D (m + n) = hsel s hb D m
  | 0 => rfl
  | n + 1 => by
    show hsel s hb D (m + n + 1) = _
    simp only [hsel]
    rw [if_neg (by rw [h (m + n) (by omega)]; decide)]
    exact hsel_out m h n
theorem hsel_nc {p : Pl} {s : Nat} {hb D : Nat → Nat} (hp : PlOk p) (h : SetOk p s) : hsel s hb D 10 = hsel s hb D (pNc p) := by
  have := hsel_out (s := s) (hb := hb) (D := D) (pNc p) (fun v hv => by
    cases hb : s.testBit v with
    | false => rfl
    | true => have := h.2 v hb; omega) (10 - pNc p)
  have := hp.2.1
  rwa [show pNc p + (10 - pNc p) = 10 by omega] at *
/-- the horse's order -/
noncomputable def hpick (p : Pl) (x : Ld) (a s : Nat) : Option Nat := hsel s (fun v => lHa x (10 * a + v)) (ea (nt p x) a (pSt p)) 10
noncomputable def hord (p : Pl) (x : Ld) : Nat → Nat → Nat → List Nat
  | 0, _, _ => []
  | n + 1, a, s => match hpick p x a s with
    | none => []
    | some b => b :: hord p x n b (clr s b)
