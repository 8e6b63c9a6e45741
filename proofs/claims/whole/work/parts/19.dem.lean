/-! demands, totals, stops, stays: both sides -/
def dem (x : Ld) (h : Nat) : Nat := if (lSk x).testBit h then 0 else lOr x (7 * h + lDay x % 7)
def sumTo (f : Nat → Nat) : Nat → Nat
  | 0 => 0
  | n + 1 => sumTo f n + f n
theorem sumTo_le {f : Nat → Nat} {c : Nat} : ∀ n, (∀ i, i < n → f i ≤ c) → sumTo f n ≤ n * c
  | 0, _ => by simp [sumTo]
  | n + 1, h => by
    have := sumTo_le n (fun i hi => h i (by omega))
    have := h n (by omega)
    simp only [sumTo, Nat.succ_mul]
    omega
theorem sumTo_mono (f : Nat → Nat) (a : Nat) : ∀ n, sumTo f a ≤ sumTo f (a + n)
  | 0 => Nat.le_refl _
  | n + 1 => by have := sumTo_mono f a n; show _ ≤ sumTo f (a + n) + f (a + n); omega
theorem sumTo_up {f : Nat → Nat} {a b : Nat} (h : a ≤ b) : sumTo f a ≤ sumTo f b := by
  have := sumTo_mono f a (b - a)
  rwa [show a + (b - a) = b by omega] at this
def stp (p : Pl) (x : Ld) : Nat → Nat
  | 0 => 0
  | h + 1 => if 0 < dem x h then stp p x h ||| 2 ^ pHn p h else stp p x h
def vmin (p : Pl) (h : Nat) : Nat := 2 * pHw p h + 1
def styF (p : Pl) (x : Ld) (v h : Nat) : Nat := if pHn p h = v ∧ 0 < dem x h then vmin p h else 0
def sty (p : Pl) (x : Ld) (v : Nat) : Nat := sumTo (styF p x v) (pHc p)
def tot (p : Pl) (x : Ld) : Nat := sumTo (dem x) (pHc p)
theorem dem_le {p : Pl} {x : Ld} {b h : Nat} (hx : LdOk p b x) (hh : h < pHc p) : dem x h ≤ 9 := by
  unfold dem
  split
  · omega
  · exact hx.2.2.1 _ (by have := Nat.mod_lt (lDay x) (show 0 < 7 by decide); omega)
theorem stp_lt {p : Pl} {x : Ld} (hp : PlOk p) : ∀ h, h ≤ pHc p → stp p x h < 1024
  | 0, _ => by simp [stp]
  | h + 1, hh => by
    have ih := stp_lt (x := x) hp h (by omega)
    have hn := (hp.2.2.2.2.2.2.2.2 h (by omega)).2.1
    have := hp.2.1
    have h2 : 2 ^ pHn p h < 2 ^ 10 := Nat.pow_lt_pow_right (by decide) (by omega)
    simp only [stp]
    split
    · exact Nat.or_lt_two_pow (n := 10) ih h2
    · exact ih
theorem stp_bit {p : Pl} {x : Ld} (v : Nat) : ∀ h, (stp p x h).testBit v = true ↔ ∃ i, i < h ∧ pHn p i = v ∧ 0 < dem x i
  | 0 => by simp [stp]
  | h + 1 => by
    have ih := stp_bit (p := p) (x := x) v h
    simp only [stp]
    by_cases hd : 0 < dem x h
    · rw [if_pos hd, Nat.testBit_or, Nat.testBit_two_pow, Bool.or_eq_true, ih, decide_eq_true_eq]
      constructor
      · rintro (⟨i, h1, h2⟩ | h1)
        · exact ⟨i, by omega, h2⟩
        · exact ⟨h, by omega, h1, hd⟩
      · rintro ⟨i, h1, h2, h3⟩
        by_cases e : i = h
        · subst e; exact Or.inr h2
        · exact Or.inl ⟨i, by omega, h2, h3⟩
    · rw [if_neg hd, ih]
      constructor
      · rintro ⟨i, h1, h2⟩; exact ⟨i, by omega, h2⟩
      · rintro ⟨i, h1, h2, h3⟩
        by_cases e : i = h
        · subst e; exact absurd h3 hd
        · exact ⟨i, by omega, h2, h3⟩
section DX
variable {p : Pl} {x : Ld} {b : Nat} {I : MI}
theorem sX_isSkipped {h : Nat} {Q : Int32 → MI → Prop} (hx : LX 30 p x I) (hh : h < 12) (H : Q (if (lSk x).testBit h then 1 else 0) I) : Wi mX8_isSkipped [.ref 30, .int (nI h)] I Q := by
  refine rX8_isSkipped ?_
  rw [hx.2.1, b_test (by omega)]
  cases ht : (lSk x).testBit h with
  | true => rw [ht] at H; exact ⟨fun q => (by cases q), fun _ => H⟩
  | false => rw [ht] at H; exact ⟨fun _ => H, fun q => absurd rfl q⟩
theorem sX_dem {h : Nat} {Q : Int32 → MI → Prop} (hp : PlOk p) (hok : LdOk p b x) (hb : b ≤ 100000) (hx : LX 30 p x I) (hh : h < pHc p) (H : Q (nI (dem x h)) I) : Wi mX10_demandOf [.ref 44, .int (nI h)] I Q := by
  have hhc := hp.2.2.2.1
  have hday := hok.1
  refine rX10_demandOf (sX_isSkipped hx (by omega) ?_)
  unfold dem at H
  have e1 : nI h * (7 : Int32) = nI (h * 7) := pk_mul h 7
  have e2 : I 30 0 - I 30 0 / 7 * 7 = nI (lDay x % 7) := by rw [hx.1]; exact pk_rem (d := 7) (by omega) (by decide) (by decide)
  cases ht : (lSk x).testBit h with
  | true =>
    rw [ht] at H
    exact ⟨fun q => absurd q (by decide), fun _ => H⟩
  | false =>
    rw [ht] at H
    refine ⟨fun _ => ?_, fun q => absurd rfl q⟩
    rw [e1, e2, nI_add]
    have hm := Nat.mod_lt (lDay x) (show 0 < 7 by decide)
    rw [cl (by omega), hx.2.2.1 _ (by omega)]
    refine ⟨ci (by omega) (by decide), ?_⟩
    rw [Nat.mul_comm h 7]
    exact H
theorem sX_sum {Q : Int32 → MI → Prop} (hp : PlOk p) (hok : LdOk p b x) (hb : b ≤ 100000) (hP : PX 24 p I) (hx : LX 30 p x I) (H : Q (nI (tot p x)) I) : Wi mX10_sumOfDemands [.ref 44] I Q := by
  have hhc := hp.2.2.2.1
  have go : ∀ (m h : Nat), m + h = pHc p → LX10_sumOfDemands_4 (nI (sumTo (dem x) h)) (nI h) I Q := by
    intro m
    induction m with
    | zero =>
      intro h hm
      have : h = pHc p := by omega
      subst this
      exact rX10_sumOfDemands_4 ⟨fun _ => H, fun q => absurd (by rw [hP.2.2.1]; exact (ile (by omega) (by omega)).mpr (Nat.le_refl _)) q⟩
    | succ m ih =>
      intro h hm
      refine rX10_sumOfDemands_4 ⟨fun q => ?_, fun _ => sX_dem hp hok hb hx (by omega) ?_⟩
      · rw [hP.2.2.1, ile (by omega) (by omega)] at q; omega
      · rw [nI_add, nI_s]; exact ih (h + 1) (by omega)
  exact rX10_sumOfDemands (go (pHc p) 0 (by omega))
theorem sX_stops {Q : Int32 → MI → Prop} (hp : PlOk p) (hok : LdOk p b x) (hb : b ≤ 100000) (hP : PX 24 p I) (hx : LX 30 p x I) (H : Q (nI (stp p x (pHc p))) I) : Wi mX10_stopSet [.ref 44] I Q := by
  have hhc := hp.2.2.2.1
  have hnc := hp.2.1
  have go : ∀ (m h : Nat), m + h = pHc p → LX10_stopSet_4 (nI (stp p x h)) (nI h) I Q := by
    intro m
    induction m with
    | zero =>
      intro h hm
      have : h = pHc p := by omega
      subst this
      exact rX10_stopSet_4 ⟨fun _ => H, fun q => absurd (by rw [hP.2.2.1]; exact (ile (by omega) (by omega)).mpr (Nat.le_refl _)) q⟩
    | succ m ih =>
      intro h hm
      refine rX10_stopSet_4 ⟨fun q => ?_, fun _ => sX_dem hp hok hb hx (by omega) ?_⟩
      · rw [hP.2.2.1, ile (by omega) (by omega)] at q; omega
      · have hd := dem_le hok (show h < pHc p by omega)
        have hn := hp.2.2.2.2.2.2.2.2 h (by omega)
        have next := ih (h + 1) (by omega)
        simp only [stp] at next
        rw [nI_zero, ile (by omega) (by decide)]
        refine ⟨fun q => rX10_stopSet_37 ?_, fun q => ⟨ci (by omega) (by decide), rX10_stopSet_37 ?_⟩⟩
        · rw [nI_s]; rw [if_neg (by omega)] at next; exact next
        · rw [cl (by omega), (hP.2.2.2.2.2.2.2.2 h (by omega)).1, b_or1 (by omega), nI_s]
          rw [if_pos (by omega)] at next; exact next
  exact rX10_stopSet (go (pHc p) 0 (by omega))
theorem sX_vmin {h : Nat} {Q : Int32 → MI → Prop} (hp : PlOk p) (hP : PX 24 p I) (hh : h < pHc p) (H : Q (nI (vmin p h)) I) : Wi mX10_visitMinutes [.ref 44, .int (nI h)] I Q := by
  have hhc := hp.2.2.2.1
  refine rX10_visitMinutes ?_
  rw [cl (by omega), (hP.2.2.2.2.2.2.2.2 h hh).2]
  refine ⟨ci (by omega) (by decide), ?_⟩
  have e : (2 : Int32) * nI (pHw p h) + 1 = nI (vmin p h) := by
    rw [show (2 : Int32) * nI (pHw p h) = nI (2 * pHw p h) from pk_mul 2 _, nI_s]; rfl
  rw [e]; exact H
theorem sX_demAt {v : Nat} {Q : Int32 → MI → Prop} (hp : PlOk p) (hok : LdOk p b x) (hb : b ≤ 100000) (hP : PX 24 p I) (hx : LX 30 p x I) (hv : v < 10) (H : Q (nI (sumTo (fun h => if pHn p h = v then dem x h else 0) (pHc p))) I) : Wi mX10_demandAtNode [.ref 44, .int (nI v)] I Q := by
  have hhc := hp.2.2.2.1
  have hnc := hp.2.1
  have go : ∀ (m h : Nat), m + h = pHc p → LX10_demandAtNode_4 (nI v) (nI (sumTo (fun h => if pHn p h = v then dem x h else 0) h)) (nI h) I Q := by
    intro m
    induction m with
    | zero =>
      intro h hm
      have : h = pHc p := by omega
      subst this
      exact rX10_demandAtNode_4 ⟨fun _ => H, fun q => absurd (by rw [hP.2.2.1]; exact (ile (by omega) (by omega)).mpr (Nat.le_refl _)) q⟩
    | succ m ih =>
      intro h hm
      have hn := hp.2.2.2.2.2.2.2.2 h (by omega)
      have next := ih (h + 1) (by omega)
      simp only [sumTo] at next
      refine rX10_demandAtNode_4 ⟨fun q => ?_, fun _ => ?_⟩
      · rw [hP.2.2.1, ile (by omega) (by omega)] at q; omega
      · rw [cl (by omega), (hP.2.2.2.2.2.2.2.2 h (by omega)).1, ieq (by omega) (by omega)]
        refine ⟨ci (by omega) (by decide), fun q => rX10_demandAtNode_36 ?_, fun q => sX_dem hp hok hb hx (by omega) (rX10_demandAtNode_36 ?_)⟩
        · rw [nI_s]; rw [if_neg q, Nat.add_zero] at next; exact next
        · rw [nI_s, nI_add]; rw [if_pos q] at next; exact next
  exact rX10_demandAtNode (go (pHc p) 0 (by omega))
theorem sM_dem {h : Nat} {Q : Int32 → MI → Prop} (hp : PlOk p) (hok : LdOk p b x) (hb : b ≤ 100000) (hx : LM 274 0 p x I) (hh : h < pHc p) (H : Q (nI (dem x h)) I) : Wi mX12_demandOf [.ref 261, .int (nI h)] I Q := by
  have hhc := hp.2.2.2.1
  have hday := hok.1
  have hm := Nat.mod_lt (lDay x) (show 0 < 7 by decide)
  refine rX12_demandOf ?_
  unfold dem at H
  have e1 : (133 : Int32) + nI h = nI (133 + h) := nI_add 133 h
  have e3 : (1 : Int32) + 7 * nI h = nI (1 + 7 * h) := by rw [show (7 : Int32) * nI h = nI (7 * h) from pk_mul 7 h]; exact nI_add 1 _
  have e0 : I 274 0 = nI (lDay x) := hx.1
  have e2 : I 274 0 - I 274 0 / 7 * 7 = nI (lDay x % 7) := by rw [e0]; exact pk_rem (d := 7) (by omega) (by decide) (by decide)
  have e4 := hx.2.1 h hh
  simp only [Nat.zero_add] at e4
  rw [clz, e1, cl (by omega), e2, e3, nI_add, cl (by omega), e4]
  refine ⟨ci (by omega) (by decide), fun q => ⟨ci (n := 0) (by decide) (by decide), ci (by omega) (by decide), ?_⟩, fun q => ?_⟩
  · cases ht : (lSk x).testBit h with
    | true => rw [ht] at q; exact absurd rfl q
    | false =>
      rw [ht] at H
      have e5 := hx.2.2.1 (7 * h + lDay x % 7) (by omega)
      rw [show 0 + 1 + (7 * h + lDay x % 7) = 1 + 7 * h + lDay x % 7 by omega] at e5
      rw [e5]; exact H
  · cases ht : (lSk x).testBit h with
    | true => rw [ht] at H; exact H
    | false => rw [ht] at q; exact absurd q (by decide)
theorem in67 : vp_in (6 : Int32) 7 := ci (n := 6) (by decide) (by decide)
theorem cl6 : (6 : Int32).toNatClampNeg = 6 := rfl
theorem sM_tot {Q : Int32 → MI → Prop} (hp : PlOk p) (hok : LdOk p b x) (hb : b ≤ 100000) (hP : PM p I) (hx : LM 274 0 p x I) (H : Q (nI (tot p x)) I) : Wi mX12_totalOf [.ref 261] I Q := by
  have hhc := hp.2.2.2.1
  have e6 := hP.2.2.2.2.2.2.1
  have go : ∀ (m h : Nat), m + h = pHc p → LX12_totalOf_4 (nI (sumTo (dem x) h)) (nI h) I Q := by
    intro m
    induction m with
    | zero =>
      intro h hm
      have : h = pHc p := by omega
      subst this
      exact rX12_totalOf_4 ⟨in67, fun _ => H, fun q => absurd (by rw [cl6, e6]; exact (ile (by omega) (by omega)).mpr (Nat.le_refl _)) q⟩
    | succ m ih =>
      intro h hm
      refine rX12_totalOf_4 ⟨in67, fun q => ?_, fun _ => sM_dem hp hok hb hx (by omega) ?_⟩
      · rw [cl6, e6, ile (by omega) (by omega)] at q; omega
      · rw [nI_add, nI_s]; exact ih (h + 1) (by omega)
  exact rX12_totalOf (go (pHc p) 0 (by omega))
theorem sM_stops {Q : Int32 → MI → Prop} (hp : PlOk p) (hok : LdOk p b x) (hb : b ≤ 100000) (hP : PM p I) (hx : LM 274 0 p x I) (H : Q (nI (stp p x (pHc p))) I) : Wi mX12_stopSet [.ref 261] I Q := by
  have hhc := hp.2.2.2.1
  have hnc := hp.2.1
  have e6 := hP.2.2.2.2.2.2.1
  have go : ∀ (m h : Nat), m + h = pHc p → LX12_stopSet_4 (nI (stp p x h)) (nI h) I Q := by
    intro m
    induction m with
    | zero =>
      intro h hm
      have : h = pHc p := by omega
      subst this
      exact rX12_stopSet_4 ⟨in67, fun _ => H, fun q => absurd (by rw [cl6, e6]; exact (ile (by omega) (by omega)).mpr (Nat.le_refl _)) q⟩
    | succ m ih =>
      intro h hm
      refine rX12_stopSet_4 ⟨in67, fun q => ?_, fun _ => sM_dem hp hok hb hx (by omega) ?_⟩
      · rw [cl6, e6, ile (by omega) (by omega)] at q; omega
      · have hd := dem_le hok (show h < pHc p by omega)
        have hn := hp.2.2.2.2.2.2.2.2 h (by omega)
        have next := ih (h + 1) (by omega)
        simp only [stp] at next
        rw [nI_zero, ile (by omega) (by decide)]
        refine ⟨fun q => rX12_stopSet_34 ?_, fun q => ⟨ci (by omega) (by decide), rX12_stopSet_34 ?_⟩⟩
        · rw [nI_s]; rw [if_neg (by omega)] at next; exact next
        · rw [cl (by omega), (hP.2.2.2.2.2.2.2.2 h (by omega)).1, b_or1 (by omega), nI_s]
          rw [if_pos (by omega)] at next; exact next
  exact rX12_stopSet (go (pHc p) 0 (by omega))
theorem sM_stay {v : Nat} {Q : Int32 → MI → Prop} (hp : PlOk p) (hok : LdOk p b x) (hb : b ≤ 100000) (hP : PM p I) (hx : LM 274 0 p x I) (hv : v < 10) (H : Q (nI (sty p x v)) I) : Wi mX12_stayAt [.ref 261, .int (nI v)] I Q := by
  have hhc := hp.2.2.2.1
  have hnc := hp.2.1
  have e6 := hP.2.2.2.2.2.2.1
  have go : ∀ (m h : Nat), m + h = pHc p → LX12_stayAt_4 (nI v) (nI (sumTo (styF p x v) h)) (nI h) I Q := by
    intro m
    induction m with
    | zero =>
      intro h hm
      have : h = pHc p := by omega
      subst this
      exact rX12_stayAt_4 ⟨in67, fun _ => H, fun q => absurd (by rw [cl6, e6]; exact (ile (by omega) (by omega)).mpr (Nat.le_refl _)) q⟩
    | succ m ih =>
      intro h hm
      have hn := hp.2.2.2.2.2.2.2.2 h (by omega)
      have hd := dem_le hok (show h < pHc p by omega)
      have next := ih (h + 1) (by omega)
      simp only [sumTo, styF] at next
      refine rX12_stayAt_4 ⟨in67, fun q => ?_, fun _ => ?_⟩
      · rw [cl6, e6, ile (by omega) (by omega)] at q; omega
      · rw [cl (by omega), (hP.2.2.2.2.2.2.2.2 h (by omega)).1, ieq (by omega) (by omega)]
        refine ⟨ci (by omega) (by decide), fun q => rX12_stayAt_46 ?_, fun q => sM_dem hp hok hb hx (by omega) ?_⟩
        · rw [nI_s]; rw [if_neg (fun z => q z.1), Nat.add_zero] at next; exact next
        · rw [nI_zero, ile (by omega) (by decide)]
          refine ⟨fun q2 => rX12_stayAt_46 ?_, fun q2 => ⟨ci (by omega) (by decide), rX12_stayAt_46 ?_⟩⟩
          · rw [nI_s]; rw [if_neg (fun z => by have := z.2; omega), Nat.add_zero] at next; exact next
          · rw [(hP.2.2.2.2.2.2.2.2 h (by omega)).2, nI_s]
            rw [if_pos ⟨q, by omega⟩] at next
            have e : (2 : Int32) * nI (pHw p h) + 1 = nI (vmin p h) := by
              rw [show (2 : Int32) * nI (pHw p h) = nI (2 * pHw p h) from pk_mul 2 _, nI_s]; rfl
            rw [e, nI_add]; exact next
  exact rX12_stayAt (go (pHc p) 0 (by omega))
end DX
