/-! reading numbers and words, as functions: an error freezes all -/
abbrev Dl : Type := (Nat → Nat) × (Nat → Int32) × (Nat → Nat) × (Nat → Nat)
abbrev Zs : Type := (Nat × Nat × Nat) × Nat × Pl × Dl
abbrev Rs : Type := Nat × Zs
abbrev rT (r : Rs) : Nat × Nat × Nat := r.2.1
abbrev rM (r : Rs) : Nat := r.2.2.1
abbrev rP (r : Rs) : Pl := r.2.2.2.1
abbrev rD (r : Rs) : Dl := r.2.2.2.2
def sane (c : Nat → Nat) (n : Nat) (t : Nat × Nat × Nat) : Prop := ∃ q, q ≤ n ∧ t = tok c n q
theorem tok_f {c : Nat → Nat} {n q : Nat} (hq : q ≤ n) : q ≤ (tok c n q).1 ∧ (tok c n q).1 ≤ (tok c n q).2.1 ∧ (tok c n q).2.1 ≤ n ∧ (tok c n q).2.2 ≤ 4 ∧ ((tok c n q).2.2 ≠ 0 → (tok c n q).1 < (tok c n q).2.1) ∧ ((tok c n q).2.2 = 2 → (tok c n q).2.1 - (tok c n q).1 ≤ 4 ∧ ∀ i, (tok c n q).1 ≤ i → i < (tok c n q).2.1 → kd8 (c i) = 2) ∧ ((tok c n q).1 < n → (tok c n q).2.2 ≠ 0) := by
  have h1 := skw_ge c (n - q) q
  have h2 := skw_at c (n - q) q
  unfold tok
  generalize skw c (n - q) q = s at *
  by_cases a : n ≤ s
  · rw [if_pos a]
    exact ⟨h1.1, Nat.le_refl _, (by show s ≤ n; omega), (by show 0 ≤ 4; omega), fun z => absurd rfl z, fun z => (by cases z), fun z => absurd z (by show ¬ s < n; omega)⟩
  · rw [if_neg a]
    have hk := kd8_lt (c s)
    have h5 := h2 (by omega)
    by_cases b : kd8 (c s) = 1
    · rw [if_pos b]
      have hr := run_ge c 1 (n - (s + 1)) (s + 1)
      generalize run c 1 (n - (s + 1)) (s + 1) = e at *
      refine ⟨h1.1, (by show s ≤ e; omega), (by show e ≤ n; omega), ?_, fun _ => (by show s < e; omega), fun z => ?_, fun _ => ?_⟩
      · show (if 6 < e - s then 4 else 1) ≤ 4
        split <;> omega
      · exfalso
        have z' : (if 6 < e - s then 4 else 1) = 2 := z
        split at z' <;> omega
      · show (if 6 < e - s then 4 else 1) ≠ 0
        split <;> omega
    · rw [if_neg b]
      by_cases d : kd8 (c s) = 2
      · rw [if_pos d]
        have hr := run_ge c 2 (n - (s + 1)) (s + 1)
        have hi := run_in c 2 (n - (s + 1)) (s + 1)
        generalize run c 2 (n - (s + 1)) (s + 1) = e at *
        refine ⟨h1.1, (by show s ≤ e; omega), (by show e ≤ n; omega), ?_, fun _ => (by show s < e; omega), fun z => ?_, fun _ => ?_⟩
        · show (if 4 < e - s then 4 else 2) ≤ 4
          split <;> omega
        · have z' : (if 4 < e - s then 4 else 2) = 2 := z
          split at z'
          · omega
          · refine ⟨by show e - s ≤ 4; omega, fun i i1 i2 => ?_⟩
            have i1' : s ≤ i := i1
            by_cases ei : i = s
            · rw [ei]; exact d
            · exact hi i (by omega) i2
        · show (if 4 < e - s then 4 else 2) ≠ 0
          split <;> omega
      · rw [if_neg d]
        exact ⟨h1.1, (by show s ≤ s + 1; omega), (by show s + 1 ≤ n; omega), (by show kd8 (c s) ≤ 4; omega), fun _ => (by show s < s + 1; omega), fun z => absurd z d, fun _ => (by show kd8 (c s) ≠ 0; omega)⟩
def padv (c : Nat → Nat) (n : Nat) (r : Rs) : Rs := if r.1 = 0 then (0, tok c n (rT r).2.1, r.2.2) else r
def perr (off k : Nat) (r : Rs) : Rs := if r.1 = 0 then (8 * off + k, r.2) else r
def pval (c : Nat → Nat) (r : Rs) : Nat := vl c (rT r).1 ((rT r).2.1 - (rT r).1)
def pnum (c : Nat → Nat) (n lo hi : Nat) (r : Rs) : Rs := if r.1 ≠ 0 then r else if (rT r).2.2 ≠ 2 then (8 * (rT r).1 + 1, r.2) else if pval c r < lo ∨ hi < pval c r then (8 * (rT r).1 + 2, r.2) else (0, tok c n (rT r).2.1, r.2.2)
def pone (c : Nat → Nat) (n j : Nat) (r : Rs) : Rs := if r.1 ≠ 0 then r else if (rM r).testBit j = true then (8 * (rT r).1 + 3, r.2) else (0, tok c n (rT r).2.1, rM r ||| 2 ^ j, r.2.2.2)
def psemi (c : Nat → Nat) (n : Nat) (r : Rs) : Rs := if r.1 ≠ 0 then r else if (rT r).2.2 ≠ 3 then (8 * (rT r).1 + 1, r.2) else (0, tok c n (rT r).2.1, r.2.2)
def chn (j i : Nat) : Nat := ((strByt.getD j []).getD i 0).toNatClampNeg
def wm (c : Nat → Nat) (s j : Nat) : Nat → Bool
  | 0 => true
  | i + 1 => wm c s j i && decide (c (s + i) = chn j i)
def isW (c : Nat → Nat) (t : Nat × Nat × Nat) (j : Nat) : Bool := decide (t.2.2 = 1) && (decide (t.2.1 - t.1 = strLen.getD j 0) && wm c t.1 j (strLen.getD j 0))
theorem wm_0 {c : Nat → Nat} {s j : Nat} : ∀ k, wm c s j (k + 1) = true → c s = chn j 0
  | 0, h => by simp only [wm, Bool.and_eq_true, decide_eq_true_eq] at h; exact h.2
  | k + 1, h => by
    have h' : wm c s j (k + 1) = true := by
      simp only [wm, Bool.and_eq_true] at h ⊢
      exact h.1
    exact wm_0 k h'
theorem isW_key {c : Nat → Nat} {t : Nat × Nat × Nat} {j : Nat} (hj : j < 7) (h : isW c t j = true) : t.2.1 - t.1 = strLen.getD j 0 ∧ c t.1 = chn j 0 := by
  unfold isW at h
  simp only [Bool.and_eq_true, decide_eq_true_eq] at h
  refine ⟨h.2.1, ?_⟩
  have hl : ∀ j, j < 7 → ∃ k, strLen.getD j 0 = k + 1 := by
    intro j hj
    have : ∀ j, j < 7 → 0 < strLen.getD j 0 := by decide
    exact ⟨strLen.getD j 0 - 1, by have := this j hj; omega⟩
  obtain ⟨k, hk⟩ := hl j hj
  rw [hk] at h
  exact wm_0 k h.2.2
theorem isW_one {c : Nat → Nat} {t : Nat × Nat × Nat} {i j : Nat} (hi : i < 6) (hj : j < 6) (hij : i ≠ j) (h : isW c t i = true) : isW c t j = false := by
  cases h2 : isW c t j with
  | false => rfl
  | true =>
    have k1 := isW_key (by omega) h
    have k2 := isW_key (by omega) h2
    have key : ∀ i, i < 6 → ∀ j, j < 6 → strLen.getD i 0 = strLen.getD j 0 → chn i 0 = chn j 0 → i = j := by decide
    exact absurd (key i hi j hj (by omega) (by omega)) hij
theorem ch_ok : ∀ j, j < 7 → ∀ i, i < strLen.getD j 0 → (strByt.getD j []).getD i 0 = nI (chn j i) ∧ chn j i < 128 := by decide
theorem len_ok : ∀ j, j < 7 → strLen.getD j 0 < 7 := by decide
theorem byte_eq {y : Int32} {k : Nat} (h : y.toInt8.toInt32 = y) (hk : k < 128) : y = nI k ↔ cc y = k := by
  obtain ⟨h1, h2, h3, h4⟩ := cc_ok h
  constructor
  · intro e
    rcases Nat.lt_or_ge (cc y) 128 with q | q
    · have := e.symm.trans (h3 q)
      rw [ieq (by omega) (by omega)] at this
      omega
    · have := h4 q
      rw [e] at this
      exact absurd this (nI_pos (by omega))
  · intro e
    rw [h3 (by omega), e]
/-! the class -/
section
variable (n : Nat) (g : Nat → Int32)
def PTX (r : Rs) (I : MI) : Prop := TxX n g I ∧ ((r.1 = 0 ∧ sane (fun j => cc (g j)) n (rT r) ∧ TkX (rT r) I ∧ I 3 4 = 0 ∧ I 3 3 = nI (rM r)) ∨ (r.1 ≠ 0 ∧ r.1 < 8000 ∧ I 3 4 = nI r.1 ∧ ∃ t, sane (fun j => cc (g j)) n t ∧ TkX t I))
end
def FrR (I J : MI) : Prop := ∀ c, c ≠ 1 → c ≠ 3 → J c = I c
theorem FrR.rf {I : MI} : FrR I I := fun _ _ _ => rfl
theorem FrR.tr {I J K : MI} (h : FrR I J) (h2 : FrR J K) : FrR I K := fun c h1 h3 => (h2 c h1 h3).trans (h c h1 h3)
theorem FrR_S1 {I J : MI} (s : S1 I J) : FrR I J := fun c h1 _ => s.1 c h1
section
variable {n : Nat} {g : Nat → Int32} {I : MI}
theorem sane_b {c : Nat → Nat} {t : Nat × Nat × Nat} (h : sane c n t) : t.1 ≤ t.2.1 ∧ t.2.1 ≤ n ∧ t.2.2 ≤ 4 ∧ (t.2.2 ≠ 0 → t.1 < t.2.1) ∧ (t.2.2 = 2 → t.2.1 - t.1 ≤ 4 ∧ ∀ i, t.1 ≤ i → i < t.2.1 → kd8 (c i) = 2) := by
  obtain ⟨q, hq, e⟩ := h
  obtain ⟨h1, h2, h3, h4, h5, h6, h7⟩ := tok_f (c := c) hq
  rw [← e] at h1 h2 h3 h4 h5 h6 h7
  exact ⟨h2, h3, h4, h5, h6⟩
theorem sane_next {c : Nat → Nat} {t : Nat × Nat × Nat} (h : sane c n t) : sane c n (tok c n t.2.1) := ⟨t.2.1, (sane_b h).2.1, rfl⟩
theorem xadv {r : Rs} {Q : MI → Prop} (hg : Gok n g) (h : PTX n g r I) (H : ∀ J, PTX n g (padv (fun j => cc (g j)) n r) J → FrR I J → Q J) : Wv mX9_advance [.ref 1] I Q := by
  obtain ⟨hT, h | h⟩ := h
  · obtain ⟨h0, hs, ht, h4, h3⟩ := h
    have hb := sane_b hs
    refine sX_adv hg hT hb.2.1 ht (fun J tJ s => H J ⟨TxX_S1 hT s, Or.inl ?_⟩ (FrR_S1 s))
    unfold padv
    rw [if_pos h0]
    exact ⟨rfl, sane_next hs, tJ, by rw [s.1 3 (by decide)]; exact h4, by rw [s.1 3 (by decide)]; exact h3⟩
  · obtain ⟨h0, h8, h4, t, hs, ht⟩ := h
    have hb := sane_b hs
    refine sX_adv hg hT hb.2.1 ht (fun J tJ s => H J ⟨TxX_S1 hT s, Or.inr ?_⟩ (FrR_S1 s))
    unfold padv
    rw [if_neg h0]
    exact ⟨h0, h8, by rw [s.1 3 (by decide)]; exact h4, _, sane_next hs, tJ⟩
theorem xfail {r : Rs} {off k : Nat} {a : Int32} {Q : MI → Prop} (h : PTX n g r I) (ha : r.1 = 0 → a = nI off) (ho : off ≤ 900) (hk : 1 ≤ k ∧ k ≤ 4) (H : ∀ J, PTX n g (perr off k r) J → FrR I J → Q J) : Wv mX5_fail [.ref 3, .int a, .int (nI k)] I Q := by
  obtain ⟨hT, h | h⟩ := h
  · obtain ⟨h0, hs, ht, h4, h3⟩ := h
    refine rX5_fail ⟨fun q => absurd h4 q, fun _ J e => H J ⟨?_, Or.inr ?_⟩ ?_⟩
    · exact ⟨by rw [e, up2_cell _ _ _ (by decide)]; exact hT.1, fun j hj => by rw [e, up2_cell _ _ _ (by decide)]; exact hT.2 j hj⟩
    · unfold perr
      rw [if_pos h0]
      refine ⟨by show 8 * off + k ≠ 0; omega, by show 8 * off + k < 8000; omega, ?_, rT r, hs, ?_⟩
      · rw [e, up2_same, ha h0, show (8 : Int32) * nI off = nI (8 * off) from pk_mul 8 off, nI_add]
      · unfold TkX; rw [e, up2_cell _ _ _ (by decide)]; exact ht
    · intro c _ hc; rw [e, up2_cell _ _ _ hc]
  · obtain ⟨h0, h8, h4, t, hs, ht⟩ := h
    refine rX5_fail ⟨fun _ => H I ⟨hT, Or.inr ?_⟩ FrR.rf, fun q => ?_⟩
    · unfold perr
      rw [if_neg h0]
      exact ⟨h0, h8, h4, t, hs, ht⟩
    · rw [h4, nI_zero, ieq (by omega) (by decide)] at q; exact absurd q h0
theorem sX_val {t : Nat × Nat × Nat} {Q : Int32 → MI → Prop} (hg : Gok n g) (hT : TxX n g I) (hs : sane (fun j => cc (g j)) n t) (ht : TkX t I) (hk : t.2.2 = 2) (H : Q (nI (vl (fun j => cc (g j)) t.1 (t.2.1 - t.1))) I) : Wi mX9_value [.ref 1] I Q := by
  obtain ⟨h1, h2, h3, h4, h5⟩ := sane_b hs
  obtain ⟨h6, h7⟩ := h5 hk
  have hn := hg.1
  have go : ∀ (m k : Nat), m + k = t.2.1 - t.1 → LX9_value_7 (nI (vl (fun j => cc (g j)) t.1 k)) (nI (t.1 + k)) I Q := by
    intro m
    induction m with
    | zero =>
      intro k hm
      have : k = t.2.1 - t.1 := by omega
      subst this
      refine rX9_value_7 ⟨fun _ => H, fun q => absurd ?_ q⟩
      rw [ht.2.1, ile (by omega) (by omega)]; omega
    | succ m ih =>
      intro k hm
      refine rX9_value_7 ⟨fun q => ?_, fun _ => ⟨ci (by omega) (by decide), ?_⟩⟩
      · rw [ht.2.1, ile (by omega) (by omega)] at q; omega
      · have hd := (kd8_2 _).mp (h7 (t.1 + k) (by omega) (by omega))
        have hby := (byte_eq (k := cc (g (t.1 + k))) (hg.2 (t.1 + k) (by omega)) (by omega)).mpr rfl
        rw [cl (by omega), hT.2 (t.1 + k) (by omega), hby, nI_s]
        have nx := ih (k + 1) (by omega)
        simp only [vl] at nx
        rw [show nI (vl (fun j => cc (g j)) t.1 k) * (10 : Int32) = nI (vl (fun j => cc (g j)) t.1 k * 10) from pk_mul _ 10, nI_add, show (48 : Int32) = nI 48 from rfl, pk_sub (by omega)]
        have e : vl (fun j => cc (g j)) t.1 k * 10 + cc (g (t.1 + k)) - 48 = 10 * vl (fun j => cc (g j)) t.1 k + (cc (g (t.1 + k)) - 48) := by omega
        rw [e]
        exact nx
  refine rX9_value ?_
  rw [ht.1]
  exact go (t.2.1 - t.1) 0 (by omega)
theorem vl_4 {t : Nat × Nat × Nat} (hg : Gok n g) (hs : sane (fun j => cc (g j)) n t) (hk : t.2.2 = 2) : vl (fun j => cc (g j)) t.1 (t.2.1 - t.1) ≤ 9999 := by
  obtain ⟨h1, h2, h3, h4, h5⟩ := sane_b hs
  obtain ⟨h6, h7⟩ := h5 hk
  have d : ∀ k, k < t.2.1 - t.1 → cc (g (t.1 + k)) - 48 ≤ 9 := fun k hk => by
    have := (kd8_2 _).mp (h7 (t.1 + k) (by omega) (by omega))
    omega
  generalize t.2.1 - t.1 = m at *
  have : m = 0 ∨ m = 1 ∨ m = 2 ∨ m = 3 ∨ m = 4 := by omega
  rcases this with e | e | e | e | e <;> subst e
  · simp [vl]
  · have := d 0 (by decide); simp only [vl]; omega
  · have := d 0 (by decide); have := d 1 (by decide); simp only [vl]; omega
  · have := d 0 (by decide); have := d 1 (by decide); have := d 2 (by decide); simp only [vl]; omega
  · have := d 0 (by decide); have := d 1 (by decide); have := d 2 (by decide); have := d 3 (by decide); simp only [vl]; omega
theorem xrn {r : Rs} {lo hi : Nat} {a b : Int32} {Q : Int32 → MI → Prop} (hg : Gok n g) (h : PTX n g r I) (hab : r.1 = 0 → a = nI lo ∧ b = nI hi ∧ lo < 100000 ∧ hi < 100000) (H : ∀ J v, PTX n g (pnum (fun j => cc (g j)) n lo hi r) J → FrR I J → ((pnum (fun j => cc (g j)) n lo hi r).1 = 0 → v = nI (pval (fun j => cc (g j)) r)) → Q v J) : Wi mX5_readNumber [.ref 3, .int a, .int b] I Q := by
  have hn := hg.1
  by_cases h0 : r.1 = 0
  · obtain ⟨ea, eb, hlo, hhi⟩ := hab h0
    subst ea; subst eb
    obtain ⟨hT, hh⟩ := h
    have hh' : r.1 = 0 ∧ sane (fun j => cc (g j)) n (rT r) ∧ TkX (rT r) I ∧ I 3 4 = 0 ∧ I 3 3 = nI (rM r) := by
      rcases hh with q | q
      · exact q
      · exact absurd h0 q.1
    obtain ⟨-, hs, ht, h4, h3⟩ := hh'
    obtain ⟨b1, b2, b3, b4, b5⟩ := sane_b hs
    have hX : PTX n g r I := ⟨hT, Or.inl ⟨h0, hs, ht, h4, h3⟩⟩
    have er : ∀ k : Nat, 1 ≤ k ∧ k ≤ 4 → ∀ v, pnum (fun j => cc (g j)) n lo hi r = (8 * (rT r).1 + k, r.2) → (∀ J, PTX n g (pnum (fun j => cc (g j)) n lo hi r) J → FrR I J → Q v J) → Wv mX5_fail [.ref 3, .int (I 1 3), .int (nI k)] I (fun J => Q v J) := by
      intro k hk v hp HQ
      refine xfail (off := (rT r).1) (k := k) hX (fun _ => ht.1) (by omega) hk (fun J tJ fJ => HQ J ?_ fJ)
      unfold perr at tJ
      rw [if_pos h0] at tJ
      rw [hp]; exact tJ
    refine rX5_readNumber ⟨fun q => ?_, fun q => ?_⟩
    · have hk : (rT r).2.2 = 2 := by rw [ht.2.2, show (2 : Int32) = nI 2 from rfl, ieq (by omega) (by decide)] at q; exact q
      have hv := vl_4 hg hs hk
      refine sX_val hg hT hs ht hk ?_
      have hpv : pval (fun j => cc (g j)) r = vl (fun j => cc (g j)) (rT r).1 ((rT r).2.1 - (rT r).1) := rfl
      rw [← hpv] at hv ⊢
      rw [ilt (by omega) (by omega), ile (by omega) (by omega)]
      have bad : (pval (fun j => cc (g j)) r < lo ∨ hi < pval (fun j => cc (g j)) r) → LX5_readNumber_43 (nI lo) (nI hi) (nI (pval (fun j => cc (g j)) r)) I Q := by
        intro z
        have hp : pnum (fun j => cc (g j)) n lo hi r = (8 * (rT r).1 + 2, r.2) := by unfold pnum; rw [if_neg (by omega), if_neg (by omega), if_pos z]
        exact rX5_readNumber_43 (er 2 (by decide) (nI lo) hp (fun J tJ fJ => H J _ tJ fJ (fun y => by rw [hp] at y; exact absurd y (by show ¬ 8 * (rT r).1 + 2 = 0; omega))))
      refine ⟨fun z => bad (Or.inl z), fun z => ⟨fun y => ?_, fun y => bad (Or.inr (by omega))⟩⟩
      have hp : pnum (fun j => cc (g j)) n lo hi r = padv (fun j => cc (g j)) n r := by unfold pnum padv; rw [if_neg (by omega), if_neg (by omega), if_neg (by omega), if_pos h0]
      refine xadv hg hX (fun J tJ fJ => H J _ (by rw [hp]; exact tJ) fJ (fun _ => rfl))
    · have hk : (rT r).2.2 ≠ 2 := fun z => q (by rw [ht.2.2, z]; rfl)
      have hp : pnum (fun j => cc (g j)) n lo hi r = (8 * (rT r).1 + 1, r.2) := by unfold pnum; rw [if_neg (by omega), if_pos hk]
      exact er 1 (by decide) (nI lo) hp (fun J tJ fJ => H J _ tJ fJ (fun y => by rw [hp] at y; exact absurd y (by show ¬ 8 * (rT r).1 + 1 = 0; omega)))
  · have hp : pnum (fun j => cc (g j)) n lo hi r = r := by unfold pnum; rw [if_pos h0]
    rw [hp] at H
    have hX := h
    obtain ⟨hT, hh⟩ := h
    have hh' : r.1 ≠ 0 ∧ r.1 < 8000 ∧ I 3 4 = nI r.1 ∧ ∃ t, sane (fun j => cc (g j)) n t ∧ TkX t I := by
      rcases hh with q | q
      · exact absurd q.1 h0
      · exact q
    obtain ⟨-, h8, h4, t, hs, ht⟩ := hh'
    obtain ⟨b1, b2, b3, b4, b5⟩ := sane_b hs
    have fl : ∀ (k : Nat) (a' v : Int32), 1 ≤ k ∧ k ≤ 4 → Wv mX5_fail [.ref 3, .int a', .int (nI k)] I (fun J => Q v J) := fun k a' v hk =>
      xfail (off := 0) (k := k) hX (fun z => absurd z h0) (by decide) hk (fun J tJ fJ => by
        unfold perr at tJ
        rw [if_neg h0] at tJ
        exact H J _ tJ fJ (fun y => absurd y h0))
    have ad : ∀ v, Wv mX9_advance [.ref 1] I (fun J => Q v J) := fun v => xadv hg hX (fun J tJ fJ => by
        unfold padv at tJ
        rw [if_neg h0] at tJ
        exact H J _ tJ fJ (fun y => absurd y h0))
    refine rX5_readNumber ⟨fun q => ?_, fun q => fl 1 _ _ (by decide)⟩
    have hk : t.2.2 = 2 := by rw [ht.2.2, show (2 : Int32) = nI 2 from rfl, ieq (by omega) (by decide)] at q; exact q
    exact sX_val hg hT hs ht hk ⟨fun _ => rX5_readNumber_43 (fl 2 _ _ (by decide)), fun _ => ⟨fun _ => ad _, fun _ => rX5_readNumber_43 (fl 2 _ _ (by decide))⟩⟩
theorem xword {r : Rs} {j : Nat} {Q : Int32 → MI → Prop} (hg : Gok n g) (hj : j < 7) (h : PTX n g r I) (H : ∀ v, (r.1 = 0 → v = isW (fun j => cc (g j)) (rT r) j) → Q (bI v) I) : Wi mX9_isWord [.ref 1, .retAddr (2 * j + 1)] I Q := by
  have hn := hg.1
  have hl := len_ok j hj
  have main : ∀ t, sane (fun j => cc (g j)) n t → TkX t I → TxX n g I → Q (bI (isW (fun j => cc (g j)) t j)) I → Wi mX9_isWord [.ref 1, .retAddr (2 * j + 1)] I Q := by
    intro t hs ht hT HQ
    obtain ⟨b1, b2, b3, b4, b5⟩ := sane_b hs
    unfold isW at HQ
    refine rX9_isWord hj ⟨fun q => ?_, fun q => sJ_length hj ⟨fun z => ?_, fun z => ?_⟩⟩
    · have hk : ¬ t.2.2 = 1 := fun z => q (by rw [ht.2.2, z]; rfl)
      rw [decide_eq_false hk] at HQ
      exact HQ
    · have hk : t.2.2 = 1 := by rw [ht.2.2, nI_one, ieq (by omega) (by decide)] at q; exact q
      rw [ht.1, ht.2.1, pk_sub b1] at z
      have z' : t.2.1 - t.1 = strLen.getD j 0 := by
        have : nI (t.2.1 - t.1) = nI (strLen.getD j 0) := z
        rw [ieq (by omega) (by omega)] at this
        exact this
      rw [decide_eq_true hk, decide_eq_true z'] at HQ
      have go : ∀ (m i : Nat), m + i = strLen.getD j 0 → wm (fun j => cc (g j)) t.1 j i = true → LX9_isWord_28 j (nI i) I Q := by
        intro m
        induction m with
        | zero =>
          intro i hm hw
          have : i = strLen.getD j 0 := by omega
          subst this
          rw [hw] at HQ
          refine rX9_isWord_28 hj (sJ_length hj ⟨fun _ => HQ, fun y => absurd ?_ y⟩)
          show nI (strLen.getD j 0) ≤ nI (strLen.getD j 0)
          rw [ile (by omega) (by omega)]
          omega
        | succ m ih =>
          intro i hm hw
          refine rX9_isWord_28 hj (sJ_length hj ⟨fun y => ?_, fun _ => ?_⟩)
          · have y' : nI (strLen.getD j 0) ≤ nI i := y
            rw [ile (by omega) (by omega)] at y'
            omega
          · rw [ht.1, nI_add, cl (show t.1 + i < 2147483648 by omega)]
            refine ⟨ci (by omega) (by decide), sJ_charAt hj (ci (by omega) (by omega)) ?_⟩
            obtain ⟨c1, c2⟩ := ch_ok j hj i (by omega)
            rw [cl (by omega), c1, hT.2 (t.1 + i) (by omega), byte_eq (hg.2 _ (by omega)) c2, nI_s]
            refine ⟨fun y => ih (i + 1) (by omega) (by simp only [wm, Bool.and_eq_true, decide_eq_true_eq]; exact ⟨hw, y⟩), fun y => ?_⟩
            have hf : ∀ k, i + 1 ≤ k → wm (fun j => cc (g j)) t.1 j k = false := by
              intro k
              induction k with
              | zero => intro hk; omega
              | succ k ihk =>
                intro hk
                by_cases ek : k = i
                · subst ek; simp only [wm, hw, decide_eq_false y]; rfl
                · simp only [wm, ihk (by omega)]; rfl
            rw [hf (strLen.getD j 0) (by omega)] at HQ
            exact HQ
      exact go (strLen.getD j 0) 0 (by omega) rfl
    · have hk : t.2.2 = 1 := by rw [ht.2.2, nI_one, ieq (by omega) (by decide)] at q; exact q
      rw [ht.1, ht.2.1, pk_sub b1] at z
      have z' : ¬ t.2.1 - t.1 = strLen.getD j 0 := fun y => z (by rw [y]; rfl)
      rw [decide_eq_true hk, decide_eq_false z'] at HQ
      exact HQ
  obtain ⟨hT, h | h⟩ := h
  · obtain ⟨h0, hs, ht, h4, h3⟩ := h
    exact main _ hs ht hT (H _ (fun _ => rfl))
  · obtain ⟨h0, h8, h4, t, hs, ht⟩ := h
    exact main _ hs ht hT (H _ (fun z => absurd z h0))
end
