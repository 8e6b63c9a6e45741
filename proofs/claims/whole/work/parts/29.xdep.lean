/-! latest departures that are still in time; a bound d stands for 'before d' -/
def ldp (N : NT) (k e : Nat) : Nat := if e < nF N k + nL N k + 1 then 0 else if nT N k ≠ 0 ∧ nT N k ≤ e - 1 - nL N k then nT N k else e - nL N k
theorem ldp_iff {N : NT} (ok : NetOk N) {k e s : Nat} (hk : k < nSc N) (he : e ≤ INF) : s < ldp N k e ↔ thr N k s < e := by
  obtain ⟨-, -, h1, h2, h3⟩ := ok.2.2 k hk
  have hI : INF = 1000000000 := rfl
  unfold ldp thr
  by_cases h0 : nT N k = 0
  · rw [if_pos h0]
    by_cases h4 : e < nF N k + nL N k + 1
    · rw [if_pos h4]; omega
    · rw [if_neg h4, if_neg (fun q => q.1 h0)]; omega
  · rw [if_neg h0]
    by_cases h4 : e < nF N k + nL N k + 1
    · rw [if_pos h4]
      by_cases h5 : nT N k ≤ s
      · rw [if_pos h5]; omega
      · rw [if_neg h5]; split <;> omega
    · rw [if_neg h4]
      by_cases h5 : nT N k ≤ s
      · rw [if_pos h5]
        by_cases h6 : nT N k ≤ e - 1 - nL N k
        · rw [if_pos ⟨h0, h6⟩]; omega
        · rw [if_neg (fun q => h6 q.2)]; omega
      · rw [if_neg h5]
        by_cases h6 : nT N k ≤ e - 1 - nL N k
        · rw [if_pos ⟨h0, h6⟩]; split <;> omega
        · rw [if_neg (fun q => h6 q.2)]; split <;> omega
theorem ldp_lt {N : NT} (ok : NetOk N) {k e : Nat} (hk : k < nSc N) (he : 0 < ldp N k e) : ldp N k e < e := by
  obtain ⟨-, -, h1, h2, h3⟩ := ok.2.2 k hk
  unfold ldp at he ⊢
  split
  · rename_i q; rw [if_pos q] at he; omega
  · split
    · rename_i q; omega
    · omega
theorem rch_cons {N : NT} {k v w s : Nat} (he : Ed N k v w) (hf : thr N k s < INF) : ∀ (n x y : Nat), Rch N w (thr N k s) n x y → Rch N v s (n + 1) x y
  | 0, x, y, h => by
    obtain ⟨rfl, rfl⟩ := h
    exact ⟨v, s, k, ⟨rfl, rfl⟩, he, rfl, hf⟩
  | n + 1, x, y, h => by
    obtain ⟨a, b, j, h1, h2⟩ := h
    exact ⟨a, b, j, rch_cons he hf n a b h1, h2⟩
theorem rch_front {N : NT} {v s : Nat} : ∀ (n x y : Nat), Rch N v s (n + 1) x y → ∃ k w, Ed N k v w ∧ thr N k s < INF ∧ Rch N w (thr N k s) n x y
  | 0, x, y, h => by
    obtain ⟨a, b, j, ⟨rfl, rfl⟩, h2, h3, h4⟩ := h
    exact ⟨j, x, h2, by rw [← h3]; exact h4, rfl, h3⟩
  | n + 1, x, y, h => by
    obtain ⟨a, b, j, h1, h2⟩ := h
    obtain ⟨k, w, k1, k2, k3⟩ := rch_front n a b h1
    exact ⟨k, w, k1, k2, a, b, j, k3, h2⟩
theorem ea_rch {N : NT} {u t v y n : Nat} (h : Rch N u t n v y) : ea N u t v ≤ y := by
  rcases ea_spec N u t v with ⟨-, h2⟩ | ⟨h2, -⟩
  · exact Nat.le_of_not_lt (fun q => h2 _ q ⟨_, h⟩)
  · exact absurd ⟨_, _, h⟩ h2
theorem ea_edge {N : NT} {k v w s x : Nat} (he : Ed N k v w) (hf : thr N k s < INF) (hx : ea N w (thr N k s) x < INF) : ea N v s x ≤ ea N w (thr N k s) x := by
  rcases ea_spec N w (thr N k s) x with ⟨⟨n, hn⟩, -⟩ | ⟨-, h2⟩
  · exact ea_rch (rch_cons he hf n x _ hn)
  · omega
def ldP (N : NT) (g m v d : Nat) : Prop := ∀ s, s < d ↔ s ≤ m ∧ ea N v s g ≤ m
noncomputable def ld (N : NT) (g m v : Nat) : Nat := Classical.epsilon (ldP N g m v)
theorem ld_iff {N : NT} (ok : NetOk N) {g m v : Nat} (hm : m < INF) (hg : g < nNc N) : ldP N g m v (ld N g m v) := by
  have : ∃ d, ldP N g m v d := by
    obtain ⟨d, h1, h2⟩ := pk_least (fun s => ¬ (s ≤ m ∧ ea N v s g ≤ m)) ⟨m + 1, fun q => by omega⟩
    refine ⟨d, fun s => ⟨fun q => ?_, fun q => ?_⟩⟩
    · exact Classical.not_not.mp (h2 s q)
    · rcases Nat.lt_or_ge s d with z | z
      · exact z
      · exact absurd ⟨by omega, Nat.le_trans (ea_mon ok z (by omega) hg) q.2⟩ h1
  exact Classical.epsilon_spec this
theorem ld_le {N : NT} (ok : NetOk N) {g m v : Nat} (hm : m < INF) (hg : g < nNc N) : ld N g m v ≤ m + 1 := by
  rcases Nat.lt_or_ge (m + 1) (ld N g m v) with q | q
  · have := (ld_iff ok hm hg (m + 1)).mp q; omega
  · exact q
theorem ld_self {N : NT} (ok : NetOk N) {g m : Nat} (hm : m < INF) (hg : g < nNc N) : ld N g m g = m + 1 := by
  have h1 := ld_le ok (v := g) hm hg
  have h2 : m < ld N g m g := (ld_iff ok hm hg m).mpr ⟨Nat.le_refl m, by rw [ea_self ok hm]; exact Nat.le_refl m⟩
  omega
theorem ld_edge {N : NT} (ok : NetOk N) {g m k v w : Nat} (hm : m < INF) (hg : g < nNc N) (he : Ed N k v w) : ldp N k (ld N g m w) ≤ ld N g m v := by
  have hw := ld_le ok (v := w) hm hg
  rcases Nat.lt_or_ge (ld N g m v) (ldp N k (ld N g m w)) with q | q
  · exfalso
    have h9 := ldp_lt ok (e := ld N g m w) he.1 (by omega)
    have q0 := q
    rw [ldp_iff ok he.1 (by omega)] at q
    obtain ⟨h1, h2⟩ := (ld_iff ok hm hg _).mp q
    have h3 := ea_edge (s := ld N g m v) (x := g) he (by omega) (by omega)
    have h4 := ea_ge ok (ea_is ok (u := v) (t := ld N g m v) (by omega)) (by omega) g hg
    have := (ld_iff ok hm hg (v := v) (ld N g m v)).mpr ⟨by omega, by omega⟩
    omega
  · exact q
theorem ld_pred {N : NT} (ok : NetOk N) {g m v : Nat} (hm : m < INF) (hg : g < nNc N) (hv : v ≠ g) (h0 : 0 < ld N g m v) : ∃ k w, Ed N k v w ∧ ld N g m v = ldp N k (ld N g m w) ∧ ld N g m v < ld N g m w := by
  obtain ⟨h1, h2⟩ := (ld_iff ok hm hg (v := v) (ld N g m v - 1)).mp (by omega)
  rcases ea_spec N v (ld N g m v - 1) g with ⟨⟨n, hn⟩, -⟩ | ⟨-, h3⟩
  · cases n with
    | zero => exact absurd hn.1.symm hv
    | succ n =>
      obtain ⟨k, w, k1, k2, k3⟩ := rch_front n g _ hn
      have h4 := ea_rch k3
      have h5 := ea_ge ok (ea_is ok (u := w) (t := thr N k (ld N g m v - 1)) k2) (by omega) g hg
      have h6 : thr N k (ld N g m v - 1) < ld N g m w := (ld_iff ok hm hg _).mpr ⟨by omega, by omega⟩
      have hw := ld_le ok (v := w) hm hg
      have h7 : ld N g m v - 1 < ldp N k (ld N g m w) := (ldp_iff ok k1.1 (by omega)).mpr h6
      have h8 := ld_edge ok hm hg k1
      have h9 := ldp_lt ok (e := ld N g m w) k1.1 (by omega)
      exact ⟨k, w, k1, by omega, by omega⟩
  · omega
/-! the class's sweeps backwards -/
def dvI (d : Nat) : Int32 := nI d - 1
theorem dvI_toInt {d : Nat} (h : d < 1073741824) : (dvI d).toInt = (d : Int) - 1 := pk_sub_toInt (b := 1) h (by decide)
theorem dvI_s (d : Nat) : dvI (d + 1) = nI d := nI_pred d
def DX (N : NT) (D : Nat → Nat) (f : Nat → Int32) : Prop := ∀ v, v < nNc N → f v = dvI (D v)
def rld (N : NT) (k v w : Nat) (D : Nat → Nat) : Nat → Nat := fun x => if x = v ∧ D v < ldp N k (D w) then ldp N k (D w) else D x
theorem rld_ge {N : NT} {k v w : Nat} {D : Nat → Nat} (x : Nat) : D x ≤ rld N k v w D x := by
  unfold rld
  split
  · rename_i h; obtain ⟨rfl, h⟩ := h; omega
  · omega
theorem rld_at {N : NT} {k v w : Nat} {D : Nat → Nat} : ldp N k (D w) ≤ rld N k v w D v := by
  unfold rld
  split <;> omega
theorem rld_no {N : NT} {k v w : Nat} {D : Nat → Nat} (h : ¬ D v < ldp N k (D w)) : rld N k v w D = D := by
  funext x
  unfold rld
  rw [if_neg (fun q => h q.2)]
theorem rld_dx {N : NT} {k v w : Nat} {D : Nat → Nat} {f : Nat → Int32} (hD : DX N D f) (h : D v < ldp N k (D w)) : DX N (rld N k v w D) (upd f v (dvI (ldp N k (D w)))) := by
  intro x hx
  by_cases he : x = v
  · subst he
    rw [upd_same]
    unfold rld
    rw [if_pos ⟨rfl, h⟩]
  · rw [upd_ne _ _ he]
    unfold rld
    rw [if_neg (fun q => he q.1)]
    exact hD x hx
theorem dsub {d l : Nat} (hd : d < 1073741824) (hl : l < 1073741823) : (dvI d - nI l).toInt = (d : Int) - 1 - l := by
  have e : dvI d - nI l = nI d - nI (1 + l) := by
    unfold dvI
    rw [Int32.sub_sub, nI_one, nI_add]
  rw [e, pk_sub_toInt hd (by omega)]
  omega
theorem toI_eq {x : Int32} {n : Nat} (hn : n < 2147483648) (h : x.toInt = n) : x = nI n := by
  rw [← Int32.toInt_inj, h, nI_toInt hn]
theorem sX_impD {N : NT} {I : MI} {f : Nat → Int32} {D : Nat → Nat} {k v w : Nat} {Q : Int32 → MI → Prop} (ok : NetOk N) (hN : NX N I) (hD : DX N D f) (he : Ed N k v w) (hb : ∀ v, v < nNc N → D v < 500000000)
    (H : ∀ r f1, DX N (rld N k v w D) f1 → (r = 0 → rld N k v w D = D) → Q r (upA I 47 f1)) : Wi mX4_improveDeparture [.ref 45, .int (nI k), .int (nI v), .int (nI w)] (upA I 47 f) Q := by
  have hII : INF = 1000000000 := rfl
  obtain ⟨hv, hw⟩ := Ed_lt ok he
  have hnc := ok.1
  have hsc := ok.2.1
  have hk := he.1
  obtain ⟨-, -, hL1, hL2, hg⟩ := ok.2.2 k hk
  obtain ⟨-, -, hst⟩ := NX_47 hN f
  obtain ⟨-, -, e27, e33, e34⟩ := hst k hk
  have hbv := hb v hv
  have hbw := hb w hw
  have e47 : ∀ v, v < nNc N → upA I 47 f 47 v = dvI (D v) := fun v hv => by rw [upA_same]; exact hD v hv
  have no : ¬ D v < ldp N k (D w) → Q 0 (upA I 47 f) := fun q => H 0 f (by rw [rld_no q]; exact hD) (fun _ => rld_no q)
  have f63 : ∀ (y l5 : Int32), y = dvI (ldp N k (D w)) → ldp N k (D w) < 1073741824 → LX4_improveDeparture_63 (nI k) (nI v) (nI w) y l5 (upA I 47 f) Q := by
    intro y l5 hy hlt
    refine rX4_improveDeparture_63 ?_
    rw [cl (by omega), e47 v hv]
    have hiff : dvI (D v) < y ↔ D v < ldp N k (D w) := by
      rw [hy, Int32.lt_iff_toInt_lt, dvI_toInt (by omega), dvI_toInt hlt]; omega
    rw [hiff]
    refine ⟨ci (by omega) (by decide), fun q => ⟨ci (by omega) (by decide), fun I1 e1 => ?_⟩, no⟩
    rw [e1, up2_upA, hy]
    exact H 1 _ (rld_dx hD q) (fun z => absurd z (by decide))
  refine rX4_improveDeparture ?_
  rw [cl (n := k) (by omega), cl (n := w) (by omega), e47 w hw, e27, e33, e34]
  have ts := dsub (d := D w) (l := nL N k) (by omega) (by omega)
  have i1 : nI (nF N k) ≤ dvI (D w) - nI (nL N k) ↔ ¬ D w < nF N k + nL N k + 1 := by
    rw [Int32.le_iff_toInt_le, ts, nI_toInt (by omega)]; omega
  rw [i1]
  refine ⟨ci (by omega) (by decide), ci (by omega) (by decide), ci (by omega) (by decide), fun q => ⟨ci (by omega) (by decide), fun z => ?_, fun z => ?_⟩, fun q => no ?_⟩
  · rw [nI_zero, ieq (by omega) (by decide)] at z
    have el : ldp N k (D w) = D w - nL N k := by unfold ldp; rw [if_neg q, if_neg (fun y => y.1 z)]
    refine f63 _ _ ?_ (by omega)
    rw [← Int32.toInt_inj, ts, dvI_toInt (by omega), el]
    omega
  · rw [nI_zero, ieq (by omega) (by decide)] at z
    have i2 : dvI (D w) - nI (nL N k) < nI (nT N k) ↔ ¬ nT N k ≤ D w - 1 - nL N k := by
      rw [Int32.lt_iff_toInt_lt, ts, nI_toInt (by omega)]; omega
    rw [i2]
    refine ⟨fun y => ?_, fun y => ?_⟩
    · have el : ldp N k (D w) = D w - nL N k := by unfold ldp; rw [if_neg q, if_neg (fun a => y a.2)]
      refine f63 _ _ ?_ (by omega)
      rw [← Int32.toInt_inj, ts, dvI_toInt (by omega), el]
      omega
    · have el : ldp N k (D w) = nT N k := by unfold ldp; rw [if_neg q, if_pos ⟨z, Classical.not_not.mp y⟩]
      exact f63 _ _ (by rw [el]; rfl) (by omega)
  · have el : ldp N k (D w) = 0 := by unfold ldp; rw [if_pos (Classical.not_not.mp q)]
    omega
def dwB (N : NT) (E D : Nat → Nat) : Prop := ∀ v, v < nNc N → D v ≤ E v
def rnk (N : NT) (E : Nat → Nat) (v : Nat) : Nat := cnt (fun w => decide (E v < E w)) (nNc N)
theorem rnk_lt {N : NT} {E : Nat → Nat} {w v : Nat} (hw : w < nNc N) (h : E v < E w) : rnk N E w < rnk N E v :=
  cnt_lt (w := w) (fun k _ hk => by simp only [decide_eq_true_eq] at hk ⊢; omega) hw (by simp) (by simpa using h)
theorem rnk_le {N : NT} (ok : NetOk N) {E : Nat → Nat} {v : Nat} (hv : v < nNc N) : rnk N E v ≤ 9 := by
  have h1 : rnk N E v < cnt (fun _ => true) (nNc N) := cnt_lt (w := v) (fun _ _ _ => rfl) hv (by simp) rfl
  have h2 := cnt_le (fun _ => true) (nNc N)
  have := ok.1
  omega
def dwP (N : NT) (E D : Nat → Nat) (i : Nat) : Prop := ∀ v, v < nNc N → rnk N E v < i → D v = E v
def dwR (N : NT) (E D : Nat → Nat) (i j : Nat) : Prop := ∀ k v w, k < j → Ed N k v w → rnk N E w < i → ldp N k (E w) ≤ D v
def dwC (N : NT) (D : Nat → Nat) (j : Nat) : Prop := ∀ k v w, k < j → Ed N k v w → ldp N k (D w) ≤ D v
theorem rld_b {N : NT} (ok : NetOk N) {k v w g m : Nat} {D : Nat → Nat} (hm : m < INF) (hg : g < nNc N) (he : Ed N k v w) (h : dwB N (ld N g m) D) : dwB N (ld N g m) (rld N k v w D) := by
  intro x hx
  unfold rld
  split
  · rename_i q
    obtain ⟨rfl, q⟩ := q
    obtain ⟨-, hw⟩ := Ed_lt ok he
    have hwE := h w hw
    have h1 := ld_le ok (v := w) hm hg
    have h2 := ld_edge ok hm hg he
    refine Nat.le_trans ?_ h2
    rcases Nat.lt_or_ge (ldp N k (ld N g m w)) (ldp N k (D w)) with z | z
    · rw [ldp_iff ok he.1 (by omega)] at z
      have := (ldp_iff ok he.1 (e := ld N g m w) (by omega)).mpr (Nat.lt_of_lt_of_le z hwE)
      omega
    · exact z
  · exact h x hx
theorem sX_dw19 {N : NT} {I : MI} {g m i : Nat} {Q : MI → Prop} (ok : NetOk N) (hN : NX N I) (hg : g < nNc N) (hm : m ≤ 400000000) (hi : i < 10)
    (Hout : ∀ D f b, DX N D f → dwB N (ld N g m) D → m + 1 ≤ D g → dwP N (ld N g m) D (i + 1) → (b = 0 → dwC N D (nSc N)) → LX4_sweepStreets_4 1 b (nI (i + 1)) (upA I 47 f) Q) :
    ∀ (r j : Nat) (D : Nat → Nat) (f : Nat → Int32) (b : Int32), r + j = nSc N → DX N D f → dwB N (ld N g m) D → m + 1 ≤ D g → dwP N (ld N g m) D i → dwR N (ld N g m) D i j → (b = 0 → dwC N D j) → LX4_sweepStreets_19 1 b (nI i) (nI j) (upA I 47 f) Q := by
  have hsc := ok.2.1
  have hII : INF = 1000000000 := rfl
  have bnd : ∀ D, dwB N (ld N g m) D → ∀ v, v < nNc N → D v < 500000000 := fun D hD v hv => by
    have h1 := hD v hv
    have h2 := ld_le ok (v := v) (m := m) (by omega) hg
    omega
  intro r
  induction r with
  | zero =>
    intro j D f b hr hA hL hU hP hR hC
    have hsc2 : upA I 47 f 24 1 = nI (nSc N) := (NX_47 hN f).2.1
    refine rX4_sweepStreets_19 ⟨fun _ => ?_, fun h => absurd ?_ h⟩
    · rw [nI_s]
      refine Hout D f b hA hL hU ?_ (fun hb => ?_)
      · intro v hv hd
        have hlb := hL v hv
        by_cases hf : ld N g m v = 0
        · omega
        · by_cases hvg : v = g
          · subst hvg
            have := ld_self ok (m := m) (by omega) hg
            omega
          · obtain ⟨k, w, he, hp, hlt⟩ := ld_pred ok (m := m) (by omega) hg hvg (by omega)
            have hdw := rnk_lt (N := N) (E := ld N g m) (Ed_lt ok he).2 hlt
            have := hR k v w (by have := he.1; omega) he (by omega)
            omega
      · have := hC hb
        rwa [show j = nSc N by omega] at this
    · rw [hsc2, ile (by omega) (by omega)]; omega
  | succ r ih =>
    intro j D f b hr hA hL hU hP hR hC
    have hj : j < nSc N := by omega
    obtain ⟨hnc2, hsc2, hst⟩ := NX_47 hN f
    obtain ⟨e25, e26, -, -, -⟩ := hst j hj
    obtain ⟨hAj, hBj, -⟩ := ok.2.2 j hj
    have he1 : Ed N j (nA N j) (nB N j) := ⟨hj, Or.inl ⟨rfl, rfl⟩⟩
    have he2 : Ed N j (nB N j) (nA N j) := ⟨hj, Or.inr ⟨rfl, rfl⟩⟩
    refine rX4_sweepStreets_19 ⟨fun h => ?_, fun _ => ?_⟩
    · rw [hsc2, ile (by omega) (by omega)] at h; omega
    · rw [cl (by omega : j < 2147483648), e25, e26]
      refine ⟨ci (by omega) (by decide), ci (by omega) (by decide), fun h => absurd h (by decide), fun _ => ?_⟩
      refine sX_impD ok hN hA he1 (bnd D hL) (fun r1 f1 hA1 hr1 => ?_)
      have hL1 := rld_b ok (by omega) hg he1 hL
      refine rX4_sweepStreets_82 ⟨fun h => absurd h (by decide), fun _ => ?_⟩
      refine sX_impD ok hN hA1 he2 (bnd _ hL1) (fun r2 f2 hA2 hr2 => ?_)
      have hL2 := rld_b ok (by omega) hg he2 hL1
      have hle : ∀ x, D x ≤ rld N j (nB N j) (nA N j) (rld N j (nA N j) (nB N j) D) x := fun x => Nat.le_trans (rld_ge x) (rld_ge x)
      refine sX_tail (fun b' hb' => ?_)
      rw [nI_s]
      refine ih (j + 1) _ f2 b' (by omega) hA2 hL2 (Nat.le_trans hU (hle g)) ?_ ?_ ?_
      · intro v hv hd
        have h3 := hP v hv hd
        have h4 := hle v
        have h5 := hL2 v hv
        omega
      · intro k v w hk he hd
        rcases Nat.lt_or_ge k j with q | q
        · exact Nat.le_trans (hR k v w q he hd) (hle v)
        · have hkj : k = j := by omega
          subst hkj
          obtain ⟨hvn, hwn⟩ := Ed_lt ok he
          have hDw := hP w hwn hd
          rcases he.2 with ⟨rfl, rfl⟩ | ⟨rfl, rfl⟩
          · refine Nat.le_trans ?_ (rld_ge _)
            rw [← hDw]
            exact rld_at
          · have hD1 : rld N k (nA N k) (nB N k) D (nA N k) = ld N g m (nA N k) := by
              have h4 := rld_ge (N := N) (k := k) (v := nA N k) (w := nB N k) (D := D) (nA N k)
              have h5 := hL1 _ hwn
              omega
            rw [← hD1]
            exact rld_at
      · intro hz
        obtain ⟨hb0, hz1, hz2⟩ := hb' hz
        have e1 := hr1 hz1
        have e2 := hr2 hz2
        rw [e1] at e2
        rw [e1, e2]
        intro k v w hk he
        rcases Nat.lt_or_ge k j with q | q
        · exact hC hb0 k v w q he
        · have hkj : k = j := by omega
          subst hkj
          rcases he.2 with ⟨rfl, rfl⟩ | ⟨rfl, rfl⟩
          · have := rld_at (N := N) (k := k) (v := nA N k) (w := nB N k) (D := D)
            rwa [e1] at this
          · have := rld_at (N := N) (k := k) (v := nB N k) (w := nA N k) (D := D)
            rwa [e2] at this
theorem sX_dw4 {N : NT} {I : MI} {g m : Nat} {Q : MI → Prop} (ok : NetOk N) (hN : NX N I) (hg : g < nNc N) (hm : m ≤ 400000000) (H : ∀ f, DX N (ld N g m) f → Q (upA I 47 f)) :
    ∀ (r i : Nat) (D : Nat → Nat) (f : Nat → Int32) (b : Int32), r + i = 10 → DX N D f → dwB N (ld N g m) D → m + 1 ≤ D g → dwP N (ld N g m) D i → (b = 0 → dwC N D (nSc N)) → LX4_sweepStreets_4 1 b (nI i) (upA I 47 f) Q := by
  have hII : INF = 1000000000 := rfl
  intro r
  induction r with
  | zero =>
    intro i D f b hr hA hL hU hP hC
    refine rX4_sweepStreets_4 ⟨fun _ => H f (fun v hv => ?_), fun h => absurd ?_ h⟩
    · rw [hA v hv, hP v hv (by have := rnk_le ok (E := ld N g m) hv; omega)]
    · rw [nI_10, ile (by decide) (by omega)]; omega
  | succ r ih =>
    intro i D f b hr hA hL hU hP hC
    refine rX4_sweepStreets_4 ⟨fun h => ?_, fun _ => ⟨fun hb => ?_, fun hb => ?_⟩⟩
    · rw [nI_10, ile (by decide) (by omega)] at h; omega
    · have hcl := hC hb
      have key : ∀ x v, v < nNc N → rnk N (ld N g m) v = x → ld N g m v ≤ D v := by
        intro x
        induction x using Nat.strongRecOn with
        | _ x ihx =>
          intro v hv hx
          by_cases h0 : ld N g m v = 0
          · omega
          · by_cases hvg : v = g
            · subst hvg
              have := ld_self ok (m := m) (by omega) hg
              omega
            · obtain ⟨k, w, he, hp, hlt⟩ := ld_pred ok (m := m) (by omega) hg hvg (by omega)
              have hwn := (Ed_lt ok he).2
              have hdw := rnk_lt (N := N) (E := ld N g m) hwn hlt
              have h3 := ihx _ (by omega) w hwn rfl
              have h4 := hL w hwn
              have h5 := hcl k v w he.1 he
              rw [show D w = ld N g m w by omega] at h5
              omega
      refine H f (fun v hv => ?_)
      have h3 := key _ v hv rfl
      have h4 := hL v hv
      rw [hA v hv, show D v = ld N g m v by omega]
    · exact sX_dw19 (Q := Q) (i := i) ok hN hg hm (by omega) (fun D f b a1 a2 a3 a4 a5 => ih (i + 1) D f b (by omega) a1 a2 a3 a4 a5) (nSc N) 0 D f 0 (by omega) hA hL hU hP (fun k v w hk => absurd hk (Nat.not_lt_zero k)) (fun _ k v w hk => absurd hk (Nat.not_lt_zero k))
/-- Network.departuresTo -/
theorem sX_departures {N : NT} {I : MI} {g m : Nat} {Q : Nat → MI → Prop} (ok : NetOk N) (hN : NX N I) (hg : g < nNc N) (hm : m ≤ 400000000) (H : ∀ f, DX N (ld N g m) f → Q 47 (upA I 47 f)) : Wr mX4_departuresTo [.ref 45, .int (nI g), .int (nI m)] I Q := by
  have hnc := ok.1
  have hII : INF = 1000000000 := rfl
  refine rX4_departuresTo (sJ_fill47 (fun f hf => ⟨ci (by omega) (by decide), fun I2 e2 => ?_⟩))
  rw [e2, cl (by omega), up2_upA]
  refine rX4_sweepStreets ?_
  refine sX_dw4 ok hN hg hm H 10 0 (fun v => if v = g then m + 1 else 0) _ 1 rfl ?_ ?_ ?_ ?_ (fun h => absurd h (by decide))
  · intro v hv
    by_cases he : v = g
    · subst he; dsimp only; rw [upd_same, if_pos rfl, dvI_s]
    · dsimp only; rw [upd_ne _ _ he, if_neg he, hf v (by omega)]; rfl
  · intro v hv
    by_cases he : v = g
    · subst he; dsimp only; rw [if_pos rfl, ld_self ok (by omega) hg]; exact Nat.le_refl _
    · dsimp only; rw [if_neg he]; exact Nat.zero_le _
  · rw [if_pos rfl]; exact Nat.le_refl _
  · intro v hv hd; omega
