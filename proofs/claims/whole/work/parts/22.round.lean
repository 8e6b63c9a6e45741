/-! one round, as a function of the plan, the ledger and the order -/
abbrev Ct : Type := (Nat × Nat × Nat × Nat) × (Nat → Bool) × Bool × Nat × List (Nat × Nat × Nat)
abbrev kN (k : Ct) : Nat := k.1.1
abbrev kM (k : Ct) : Nat := k.1.2.1
abbrev kF (k : Ct) : Nat := k.1.2.2.1
abbrev kE (k : Ct) : Nat := k.1.2.2.2
abbrev kK (k : Ct) : Nat → Bool := k.2.1
abbrev kO (k : Ct) : Bool := k.2.2.1
abbrev kR (k : Ct) : Nat := k.2.2.2.1
abbrev kV (k : Ct) : List (Nat × Nat × Nat) := k.2.2.2.2
/-- what is still wanted -/
def unm (p : Pl) (x : Ld) (f : Nat → Bool) : Nat := sumTo (fun h => if f h then 0 else dem x h) (pHc p)
def spr (x : Ld) (h : Nat) : Nat := (lBo x h - lKp x h).toNatClampNeg
def ovr (k : Ct) : Ct := (k.1, k.2.1, true, k.2.2.2)
noncomputable def drive (p : Pl) (x : Ld) (k : Ct) (v : Nat) : Ct := ((v, ea (nt p x) (kN k) (kM k) v, k.1.2.2), k.2)
/-- at the depot, loaded again -/
noncomputable def relA (p : Pl) (x : Ld) (k : Ct) : Ct := ((0, ea (nt p x) (kN k) (kM k) 0 + 10, min (unm p x (kK k)) (pCap p), 0), kK k, kO k, kR k + 1, kV k)
noncomputable def relB (p : Pl) (x : Ld) (k : Ct) (v : Nat) : Bool := decide (ea (nt p x) (kN k) (kM k) 0 < INF ∧ ea (nt p x) 0 (kM (relA p x k)) v < INF)
noncomputable def relK (p : Pl) (x : Ld) (k : Ct) (v : Nat) : Ct :=
  if ea (nt p x) (kN k) (kM k) 0 < INF then (if ea (nt p x) 0 (kM (relA p x k)) v < INF then drive p x (relA p x k) v else relA p x k) else k
noncomputable def rel (p : Pl) (x : Ld) (k : Ct) (v : Nat) : Ct := if relB p x k v then relK p x k v else ovr (relK p x k v)
def mks (f : Nat → Bool) (h : Nat) : Nat → Bool := fun i => f i || decide (i = h)
def tkn (p : Pl) (x : Ld) (k : Ct) (h : Nat) : Nat := min (spr x h) (pCap p - (kF k - dem x h) - kE k)
def srv (p : Pl) (x : Ld) (k : Ct) (h : Nat) : Ct := ((kN k, kM k + vmin p h, kF k - dem x h, kE k + tkn p x k h), mks (kK k) h, kO k, kR k, kV k ++ [(h, kM k + vmin p h, tkn p x k h)])
noncomputable def hldn (p : Pl) (x : Ld) (v : Nat) (k : Ct) (h : Nat) : Ct := if kF k < dem x h then rel p x k v else k
noncomputable def hstep (p : Pl) (x : Ld) (v : Nat) (k : Ct) (h : Nat) : Ct :=
  if kO k then k else if pHn p h = v ∧ dem x h ≠ 0 then (if kO (hldn p x v k h) then hldn p x v k h else srv p x (hldn p x v k h) h) else k
noncomputable def hloop (p : Pl) (x : Ld) (v : Nat) (k : Ct) : Nat → Ct
  | 0 => k
  | h + 1 => hstep p x v (hloop p x v k h) h
def lvo (p : Pl) (k : Ct) (v : Nat) : Ct := (k.1, (fun i => kK k i || decide (pHn p i = v)), k.2.2)
noncomputable def sstep (p : Pl) (x : Ld) (k : Ct) (v : Nat) : Ct :=
  if kO k then k else if ea (nt p x) (kN k) (kM k) v < INF then hloop p x v (drive p x k v) (pHc p) else lvo p k v
noncomputable def rloop (p : Pl) (x : Ld) (k : Ct) : List Nat → Ct
  | [] => k
  | v :: r => rloop p x (sstep p x k v) r
def k0 (p : Pl) (x : Ld) : Ct := ((0, pSt p, min (tot p x) (pCap p), 0), (fun _ => false), false, 0, [])
noncomputable def fin (p : Pl) (x : Ld) (k : Ct) : Int32 :=
  if kO k then (if kN k = 0 then nI (kM k) else -2) else if ea (nt p x) (kN k) (kM k) 0 < INF then nI (ea (nt p x) (kN k) (kM k) 0) else -2
noncomputable def trav (p : Pl) (x : Ld) (r : List Nat) : Ct := rloop p x (k0 p x) r
/-! its bounds -/
theorem sumTo_ge {f : Nat → Nat} {h : Nat} : ∀ n, h < n → f h ≤ sumTo f n
  | 0, q => absurd q (Nat.not_lt_zero h)
  | n + 1, q => by
    simp only [sumTo]
    by_cases e : h = n
    · subst e; omega
    · have := sumTo_ge (f := f) (h := h) n (by omega); omega
theorem sumTo_eq {f g : Nat → Nat} : ∀ n, (∀ i, i < n → f i = g i) → sumTo f n = sumTo g n
  | 0, _ => rfl
  | n + 1, h => by simp only [sumTo]; rw [sumTo_eq n (fun i hi => h i (by omega)), h n (by omega)]
theorem unm_mks {f : Nat → Bool} {d : Nat → Nat} {h : Nat} (hf : f h = false) : ∀ n, sumTo (fun i => if mks f h i then 0 else d i) n + (if h < n then d h else 0) = sumTo (fun i => if f i then 0 else d i) n
  | 0 => by simp [sumTo]
  | n + 1 => by
    have ih := unm_mks (f := f) (d := d) hf n
    simp only [sumTo]
    by_cases e : h = n
    · subst e
      have e1 : mks f h h = true := by simp [mks]
      rw [e1, hf]
      rw [if_neg (by omega)] at ih
      simp
      omega
    · have e1 : mks f h n = f n := by simp [mks]; intro q; exact absurd q.symm e
      rw [e1]
      have e2 : (h < n + 1) ↔ h < n := by omega
      simp only [e2]
      omega
theorem unm_lvo {f g : Nat → Bool} {d : Nat → Nat} : ∀ n, (∀ i, i < n → g i = true → f i = false) → sumTo (fun i => if (f i || g i) then 0 else d i) n + sumTo (fun i => if g i then d i else 0) n = sumTo (fun i => if f i then 0 else d i) n
  | 0, _ => by simp [sumTo]
  | n + 1, h => by
    have ih := unm_lvo (f := f) (g := g) (d := d) n (fun i hi => h i (by omega))
    simp only [sumTo]
    have hn := h n (by omega)
    cases hg : g n with
    | false =>
      simp only [Bool.or_false, Bool.false_eq_true, if_false]
      omega
    | true =>
      rw [hn hg]
      simp only [Bool.or_true, Bool.false_eq_true, if_true, if_false]
      omega
theorem unm_le {p : Pl} {x : Ld} {b : Nat} (hp : PlOk p) (hok : LdOk p b x) (f : Nat → Bool) : unm p x f ≤ 108 := by
  have hhc := hp.2.2.2.1
  have := sumTo_le (f := fun h => if f h then 0 else dem x h) (c := 9) (pHc p) (fun i hi => by
    split
    · omega
    · exact dem_le hok hi)
  unfold unm
  omega
/-- the invariant of a cart under way; j bounds its clock -/
def KOk (p : Pl) (j : Nat) (k : Ct) : Prop := kN k < pNc p ∧ kM k ≤ j ∧ kF k + kE k ≤ pCap p ∧ (kV k).length ≤ cnt (kK k) (pHc p) ∧ kR k ≤ j ∧ ∀ e, e ∈ kV k → e.1 < pHc p
theorem KOk.up {p : Pl} {j j' : Nat} {k : Ct} (h : KOk p j k) (hj : j ≤ j') : KOk p j' k := ⟨h.1, Nat.le_trans h.2.1 hj, h.2.2.1, h.2.2.2.1, Nat.le_trans h.2.2.2.2.1 hj, h.2.2.2.2.2⟩
theorem ea_dr {p : Pl} {x : Ld} {b u t v j : Nat} (hp : PlOk p) (hok : LdOk p b x) (ht : t ≤ j) (h1 : 1440 ≤ j) (hj : j ≤ 400000000) (hv : v < pNc p) (hf : ea (nt p x) u t v < INF) : ea (nt p x) u t v ≤ j + 891 := by
  have hI : INF = 1000000000 := rfl
  rcases ea_le (nt_ok hp hok) (u := u) (t := t) (v := v) (by omega) hv with q | q
  · omega
  · omega
section
variable {p : Pl} {x : Ld} {b j : Nat} {k : Ct}
theorem drive_ok {v : Nat} (hp : PlOk p) (hok : LdOk p b x) (h : KOk p j k) (h1 : 1440 ≤ j) (hj : j ≤ 400000000) (hv : v < pNc p) (hf : ea (nt p x) (kN k) (kM k) v < INF) : KOk p (j + 891) (drive p x k v) :=
  ⟨hv, ea_dr hp hok h.2.1 h1 hj hv hf, h.2.2.1, h.2.2.2.1, Nat.le_trans h.2.2.2.2.1 (by omega), h.2.2.2.2.2⟩
theorem relA_ok (hp : PlOk p) (hok : LdOk p b x) (h : KOk p j k) (h1 : 1440 ≤ j) (hj : j ≤ 400000000) (hf : ea (nt p x) (kN k) (kM k) 0 < INF) : KOk p (j + 901) (relA p x k) := by
  have h2 := hp.1
  have := ea_dr hp hok h.2.1 h1 hj (v := 0) (by omega) hf
  exact ⟨(by show 0 < pNc p; omega), (by show ea (nt p x) (kN k) (kM k) 0 + 10 ≤ _; omega), (by show min (unm p x (kK k)) (pCap p) + 0 ≤ pCap p; omega), h.2.2.2.1, (by have := h.2.2.2.2.1; show kR k + 1 ≤ _; omega), h.2.2.2.2.2⟩
theorem relK_ok {v : Nat} (hp : PlOk p) (hok : LdOk p b x) (h : KOk p j k) (h1 : 1440 ≤ j) (hj : j ≤ 300000000) (hv : v < pNc p) : KOk p (j + 1792) (relK p x k v) := by
  unfold relK
  split
  · rename_i q
    have ha := relA_ok hp hok h h1 (by omega) q
    split
    · rename_i r; exact (drive_ok hp hok ha (by omega) (by omega) hv r).up (by omega)
    · exact ha.up (by omega)
  · exact h.up (by omega)
theorem relK_mk (v : Nat) : kK (relK p x k v) = kK k ∧ kO (relK p x k v) = kO k := by
  unfold relK
  split
  · split <;> exact ⟨rfl, rfl⟩
  · exact ⟨rfl, rfl⟩
theorem relB_full {v : Nat} (hr : relB p x k v = true) : relK p x k v = drive p x (relA p x k) v := by
  unfold relB at hr
  rw [decide_eq_true_eq] at hr
  unfold relK
  rw [if_pos hr.1, if_pos hr.2]
theorem rel_ok {v : Nat} (hp : PlOk p) (hok : LdOk p b x) (h : KOk p j k) (h1 : 1440 ≤ j) (hj : j ≤ 300000000) (hv : v < pNc p) : KOk p (j + 1792) (rel p x k v) := by
  have := relK_ok hp hok h h1 hj hv
  unfold rel
  split
  · exact this
  · exact this
theorem rel_mk (v : Nat) : kK (rel p x k v) = kK k := by
  unfold rel
  split
  · exact (relK_mk v).1
  · exact (relK_mk v).1
theorem rel_ov {v : Nat} (h0 : kO k = false) : kO (rel p x k v) = !relB p x k v := by
  unfold rel
  cases hr : relB p x k v with
  | true => rw [if_pos rfl, (relK_mk v).2, h0]; rfl
  | false => rw [if_neg (by decide)]; rfl
theorem srv_ok {h : Nat} (hk : KOk p j k) (hh : h < pHc p) (hp : PlOk p) (hd : dem x h ≤ kF k) (hm : kK k h = false) : KOk p (j + 101) (srv p x k h) := by
  have hw := hp.2.2.2.2.2.2.2.2 h hh
  obtain ⟨a1, a2, a3, a4, a5, a6⟩ := hk
  refine ⟨a1, ?_, ?_, ?_, ?_, ?_⟩
  · show kM k + vmin p h ≤ _
    unfold vmin
    omega
  · show kF k - dem x h + (kE k + tkn p x k h) ≤ pCap p
    unfold tkn
    omega
  · show (kV k ++ [_]).length ≤ cnt (mks (kK k) h) (pHc p)
    have := cnt_lt (p := kK k) (q := mks (kK k) h) (w := h) (n := pHc p) (fun i _ q => by simp [mks, q]) hh hm (by simp [mks])
    simp
    omega
  · show kR k ≤ _
    omega
  · intro e he
    have he' : e ∈ kV k ++ [(h, kM k + vmin p h, tkn p x k h)] := he
    rw [List.mem_append, List.mem_singleton] at he'
    rcases he' with q | q
    · exact a6 e q
    · subst q; exact hh
theorem hldn_ok {v h : Nat} (hp : PlOk p) (hok : LdOk p b x) (hk : KOk p j k) (h1 : 1440 ≤ j) (hj : j ≤ 300000000) (hv : v < pNc p) : KOk p (j + 1792) (hldn p x v k h) := by
  unfold hldn
  split
  · exact rel_ok hp hok hk h1 hj hv
  · exact hk.up (by omega)
theorem hldn_mk (v h : Nat) : kK (hldn p x v k h) = kK k := by
  unfold hldn
  split
  · exact rel_mk v
  · rfl
theorem hldn_full {v h : Nat} (hp : PlOk p) (hok : LdOk p b x) (hh : h < pHc p) (hm : kK k h = false) (h0 : kO k = false) (ho : kO (hldn p x v k h) = false) : dem x h ≤ kF (hldn p x v k h) ∧ (kN k = v → kN (hldn p x v k h) = v) := by
  unfold hldn at ho ⊢
  split
  · rename_i q
    rw [if_pos q, rel_ov h0] at ho
    have hr : relB p x k v = true := by cases hr : relB p x k v; rw [hr] at ho; cases ho; rfl
    unfold rel
    rw [if_pos hr, relB_full hr]
    refine ⟨?_, fun _ => rfl⟩
    show dem x h ≤ min (unm p x (kK k)) (pCap p)
    have hd := dem_le hok hh
    have hc := hp.2.2.2.2.1
    have hs := sumTo_ge (f := fun h => if kK k h then 0 else dem x h) (h := h) (pHc p) hh
    rw [hm, if_neg (by decide)] at hs
    unfold unm
    omega
  · rename_i q
    exact ⟨by omega, fun e => e⟩
theorem hstep_ok {v h : Nat} (hp : PlOk p) (hok : LdOk p b x) (hk : KOk p j k) (h1 : 1440 ≤ j) (hj : j ≤ 300000000) (hv : v < pNc p) (hh : h < pHc p) (hm : pHn p h = v → kK k h = false) :
    KOk p (j + 1893) (hstep p x v k h) ∧ (kO k = false → kN k = v → kO (hstep p x v k h) = false → kN (hstep p x v k h) = v) ∧ ∀ i, i ≠ h → kK (hstep p x v k h) i = kK k i := by
  unfold hstep
  split
  · exact ⟨hk.up (by omega), fun _ q _ => q, fun _ _ => rfl⟩
  · rename_i ho
    have ho' : kO k = false := by simpa using ho
    split
    · rename_i q
      have hm' := hm q.1
      have hl := hldn_ok (h := h) hp hok hk h1 hj hv
      split
      · rename_i r
        exact ⟨hl.up (by omega), fun _ _ z => (by rw [r] at z; cases z), fun i _ => (by rw [hldn_mk])⟩
      · rename_i r
        have r' : kO (hldn p x v k h) = false := by simpa using r
        obtain ⟨f1, f2⟩ := hldn_full hp hok hh hm' ho' r'
        refine ⟨(srv_ok hl hh hp f1 (by rw [hldn_mk]; exact hm')).up (by omega), fun _ e _ => f2 e, fun i hi => ?_⟩
        show mks (kK (hldn p x v k h)) h i = _
        rw [hldn_mk]
        simp [mks, hi]
    · exact ⟨hk.up (by omega), fun _ q _ => q, fun _ _ => rfl⟩
/-- where the cart is while it serves a stop -/
def HI (p : Pl) (v j h : Nat) (k kh : Ct) : Prop := KOk p (j + 1893 * h) kh ∧ (kO kh = false → kN kh = v) ∧ ∀ i, pHn p i ≠ v ∨ h ≤ i → kK kh i = kK k i
theorem hstep_HI {v h : Nat} {kh : Ct} (hp : PlOk p) (hok : LdOk p b x) (h1 : 1440 ≤ j) (hj : j ≤ 200000000) (hv : v < pNc p) (hh : h < pHc p) (hm : ∀ i, i < pHc p → pHn p i = v → kK k i = false) (hi : HI p v j h k kh) : HI p v j (h + 1) k (hstep p x v kh h) := by
  have hhc := hp.2.2.2.1
  obtain ⟨a1, a2, a3⟩ := hi
  have s := hstep_ok (h := h) hp hok a1 (by omega) (by omega) hv hh (fun e => by rw [a3 h (Or.inr (Nat.le_refl _))]; exact hm h hh e)
  refine ⟨s.1.up (by omega), fun ho => ?_, fun i hi => ?_⟩
  · by_cases hk : kO kh = true
    · have : hstep p x v kh h = kh := by unfold hstep; rw [if_pos hk]
      rw [this, hk] at ho; cases ho
    · have hk' : kO kh = false := by simpa using hk
      exact s.2.1 hk' (a2 hk') ho
  · by_cases e : i = h
    · subst e
      rcases hi with q | q
      · have : hstep p x v kh i = kh := by
          unfold hstep
          split
          · rfl
          · rw [if_neg (fun z => q z.1)]
        rw [this]
        exact a3 i (Or.inl q)
      · omega
    · rw [s.2.2 i e]
      exact a3 i (by omega)
theorem hloop_HI {v : Nat} (hp : PlOk p) (hok : LdOk p b x) (hk : KOk p j k) (h1 : 1440 ≤ j) (hj : j ≤ 200000000) (hv : v < pNc p) (hn : kN k = v) (hm : ∀ i, i < pHc p → pHn p i = v → kK k i = false) : ∀ h, h ≤ pHc p → HI p v j h k (hloop p x v k h)
  | 0, _ => ⟨hk, fun _ => hn, fun _ _ => rfl⟩
  | h + 1, hh => hstep_HI hp hok h1 hj hv (by omega) hm (hloop_HI hp hok hk h1 hj hv hn hm h (by omega))
theorem sstep_ok {v : Nat} (hp : PlOk p) (hok : LdOk p b x) (hk : KOk p j k) (h1 : 1440 ≤ j) (hj : j ≤ 100000000) (hv : v < pNc p) (hm : ∀ i, i < pHc p → pHn p i = v → kK k i = false) :
    KOk p (j + 25000) (sstep p x k v) ∧ ∀ i, pHn p i ≠ v → kK (sstep p x k v) i = kK k i := by
  have hhc := hp.2.2.2.1
  unfold sstep
  split
  · exact ⟨hk.up (by omega), fun _ _ => rfl⟩
  · split
    · rename_i q
      have := hloop_HI hp hok (drive_ok hp hok hk h1 (by omega) hv q) (by omega) (by omega) hv rfl hm (pHc p) (Nat.le_refl _)
      exact ⟨this.1.up (by omega), fun i hi => this.2.2 i (Or.inl hi)⟩
    · refine ⟨⟨hk.1, Nat.le_trans hk.2.1 (by omega), hk.2.2.1, ?_, Nat.le_trans hk.2.2.2.2.1 (by omega), hk.2.2.2.2.2⟩, fun i hi => ?_⟩
      · refine Nat.le_trans hk.2.2.2.1 (cnt_sub ?_)
        intro i _ hi
        show (kK k i || _) = true
        rw [hi]; rfl
      · show (kK k i || decide (pHn p i = v)) = kK k i
        simp [hi]
theorem k0_ok (hp : PlOk p) : KOk p 1440 (k0 p x) := by
  have := hp.1
  have := hp.2.2.2.2.2.2.1
  exact ⟨(by show 0 < pNc p; omega), (by show pSt p ≤ 1440; omega), (by show min (tot p x) (pCap p) + 0 ≤ pCap p; omega), Nat.zero_le _, Nat.zero_le _, fun e he => (by cases he)⟩
theorem rloop_ok (hp : PlOk p) (hok : LdOk p b x) : ∀ (r : List Nat) (j : Nat) (k : Ct), KOk p j k → 1440 ≤ j → j + 25000 * r.length ≤ 100000000 → (∀ v, v ∈ r → v < pNc p) → r.Nodup → (∀ i, i < pHc p → pHn p i ∈ r → kK k i = false) → KOk p (j + 25000 * r.length) (rloop p x k r)
  | [], j, k, hk, _, _, _, _, _ => hk
  | v :: r, j, k, hk, h1, hj, hv, hd, hm => by
    simp only [List.length_cons] at hj ⊢
    have s := sstep_ok hp hok hk h1 (by omega) (hv v (by simp)) (fun i hi e => hm i hi (by rw [e]; simp))
    rw [List.nodup_cons] at hd
    have hj1 : 1440 ≤ j + 25000 := Nat.le_trans h1 (Nat.le_add_right _ _)
    have hj2 : j + 25000 + 25000 * r.length ≤ 100000000 := by rw [Nat.mul_add, Nat.mul_one] at hj; omega
    have := rloop_ok hp hok r (j + 25000) (sstep p x k v) s.1 hj1 hj2 (fun w hw => hv w (by simp [hw])) hd.2 (fun i hi e => by
      rw [s.2 i (fun q => hd.1 (by rw [← q]; exact e))]
      exact hm i hi (by simp [e]))
    simp only [rloop]
    have hj3 : j + 25000 + 25000 * r.length ≤ j + 25000 * (r.length + 1) := by
      generalize r.length = n
      omega
    exact this.up hj3
end
