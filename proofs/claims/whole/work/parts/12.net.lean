/-! the street network, as numbers: earliest arrivals -/
def INF : Nat := 1000000000
abbrev NT : Type := Nat × Nat × (Nat → Nat) × (Nat → Nat) × (Nat → Nat) × (Nat → Nat) × (Nat → Nat)
abbrev nNc (N : NT) : Nat := N.1
abbrev nSc (N : NT) : Nat := N.2.1
abbrev nA (N : NT) : Nat → Nat := N.2.2.1
abbrev nB (N : NT) : Nat → Nat := N.2.2.2.1
abbrev nL (N : NT) : Nat → Nat := N.2.2.2.2.1
abbrev nF (N : NT) : Nat → Nat := N.2.2.2.2.2.1
abbrev nT (N : NT) : Nat → Nat := N.2.2.2.2.2.2
/-- when one is through street k, coming to it at t -/
def thr (N : NT) (k t : Nat) : Nat := if nT N k = 0 then t + nL N k else if nT N k ≤ t then INF else (if t < nF N k then nF N k else t) + nL N k
def Ed (N : NT) (k w v : Nat) : Prop := k < nSc N ∧ ((nA N k = w ∧ nB N k = v) ∨ (nA N k = v ∧ nB N k = w))
def NetOk (N : NT) : Prop := nNc N ≤ 10 ∧ nSc N ≤ 18 ∧ ∀ k, k < nSc N → nA N k < nNc N ∧ nB N k < nNc N ∧ 1 ≤ nL N k ∧ nL N k ≤ 99 ∧ (nT N k = 0 ∧ nF N k = 0 ∨ nF N k < nT N k ∧ nT N k ≤ 1440)
def IsEA (N : NT) (u t : Nat) (D : Nat → Nat) : Prop := D u = t ∧ (∀ v, v < nNc N → v ≠ u → D v = INF ∨ ∃ k w, Ed N k w v ∧ D w < INF ∧ D v = thr N k (D w)) ∧ (∀ k w v, Ed N k w v → D w < INF → D v ≤ thr N k (D w)) ∧ ∀ v, v < nNc N → D v ≤ INF
theorem Ed_lt {N : NT} (ok : NetOk N) {k w v : Nat} (h : Ed N k w v) : w < nNc N ∧ v < nNc N := by
  have := ok.2.2 k h.1
  rcases h.2 with ⟨h1, h2⟩ | ⟨h1, h2⟩ <;> omega
theorem Ed_sym {N : NT} {k w v : Nat} (h : Ed N k w v) : Ed N k v w := ⟨h.1, h.2.elim Or.inr Or.inl⟩
theorem thr_gt {N : NT} (ok : NetOk N) {k t : Nat} (hk : k < nSc N) (ht : t < INF) : t < thr N k t := by
  have := ok.2.2 k hk
  unfold thr
  split
  · omega
  · split
    · exact ht
    · split <;> omega
theorem thr_le {N : NT} (ok : NetOk N) {k t : Nat} (hk : k < nSc N) : thr N k t = INF ∨ thr N k t ≤ max t 1440 + 99 := by
  have := ok.2.2 k hk
  unfold thr
  split
  · right; omega
  · split
    · exact Or.inl rfl
    · right; split <;> omega
theorem thr_mono {N : NT} (ok : NetOk N) {k t t' : Nat} (hk : k < nSc N) (h : t ≤ t') : thr N k t ≤ thr N k t' := by
  have := ok.2.2 k hk
  have hI : INF = 1000000000 := rfl
  unfold thr
  by_cases h0 : nT N k = 0
  · rw [if_pos h0, if_pos h0]; omega
  · rw [if_neg h0, if_neg h0]
    by_cases h1 : nT N k ≤ t'
    · rw [if_pos h1]
      split
      · omega
      · split <;> omega
    · rw [if_neg h1, if_neg (by omega)]
      split <;> split <;> omega
/-- earlier starts come earlier everywhere -/
theorem ea_mono {N : NT} (ok : NetOk N) {u t t' : Nat} {D D' : Nat → Nat} (h : IsEA N u t D) (h' : IsEA N u t' D') (ht : t ≤ t') : ∀ v, v < nNc N → D v ≤ D' v := by
  suffices H : ∀ x v, v < nNc N → D' v = x → D v ≤ D' v from fun v hv => H _ v hv rfl
  intro x
  induction x using Nat.strongRecOn with
  | _ x ih =>
    intro v hv hx
    by_cases hu : v = u
    · subst hu; rw [h.1, h'.1]; exact ht
    · rcases h'.2.1 v hv hu with h1 | ⟨k, w, he, hw, hp⟩
      · rw [h1]; exact h.2.2.2 v hv
      · have hlt : D' w < x := by rw [← hx, hp]; exact thr_gt ok he.1 hw
        have hwn := (Ed_lt ok he).1
        have h2 := ih (D' w) hlt w hwn rfl
        exact Nat.le_trans (h.2.2.1 k w v he (by omega)) (by rw [hp]; exact thr_mono ok he.1 h2)
theorem ea_uniq {N : NT} (ok : NetOk N) {u t : Nat} {D D' : Nat → Nat} (h : IsEA N u t D) (h' : IsEA N u t D') {v : Nat} (hv : v < nNc N) : D v = D' v :=
  Nat.le_antisymm (ea_mono ok h h' (Nat.le_refl t) v hv) (ea_mono ok h' h (Nat.le_refl t) v hv)
theorem ea_ge {N : NT} (ok : NetOk N) {u t : Nat} {D : Nat → Nat} (h : IsEA N u t D) (htI : t ≤ INF) : ∀ v, v < nNc N → t ≤ D v := by
  suffices H : ∀ x v, v < nNc N → D v = x → t ≤ D v from fun v hv => H _ v hv rfl
  intro x
  induction x using Nat.strongRecOn with
  | _ x ih =>
    intro v hv hx
    by_cases hu : v = u
    · subst hu; rw [h.1]; exact Nat.le_refl t
    · rcases h.2.1 v hv hu with h1 | ⟨k, w, he, hw, hp⟩
      · rw [h1]; exact htI
      · have hlt : D w < x := by rw [← hx, hp]; exact thr_gt ok he.1 hw
        have := ih (D w) hlt w (Ed_lt ok he).1 rfl
        omega
/-- there is one: the least arrival by walks -/
def Rch (N : NT) (u t : Nat) : Nat → Nat → Nat → Prop
  | 0, v, x => v = u ∧ x = t
  | n + 1, v, x => ∃ w y k, Rch N u t n w y ∧ Ed N k w v ∧ x = thr N k y ∧ x < INF
def eaP (N : NT) (u t v x : Nat) : Prop := ((∃ n, Rch N u t n v x) ∧ ∀ j, j < x → ¬ ∃ n, Rch N u t n v j) ∨ ((¬ ∃ y n, Rch N u t n v y) ∧ x = INF)
noncomputable def ea (N : NT) (u t v : Nat) : Nat := Classical.epsilon (eaP N u t v)
theorem ea_spec (N : NT) (u t v : Nat) : eaP N u t v (ea N u t v) := by
  have : ∃ x, eaP N u t v x := by
    by_cases h : ∃ y n, Rch N u t n v y
    · obtain ⟨x, h1, h2⟩ := pk_least (fun y => ∃ n, Rch N u t n v y) h
      exact ⟨x, Or.inl ⟨h1, h2⟩⟩
    · exact ⟨INF, Or.inr ⟨h, rfl⟩⟩
  exact Classical.epsilon_spec this
theorem rch_fin {N : NT} {u t : Nat} (ht : t < INF) : ∀ (n v x : Nat), Rch N u t n v x → x < INF
  | 0, v, x, h => by rw [h.2]; exact ht
  | n + 1, v, x, h => by obtain ⟨w, y, k, -, -, -, h4⟩ := h; exact h4
theorem rch_ge {N : NT} (ok : NetOk N) {u t : Nat} (ht : t < INF) : ∀ (n v x : Nat), Rch N u t n v x → t ≤ x
  | 0, v, x, h => by rw [h.2]; exact Nat.le_refl t
  | n + 1, v, x, h => by
    obtain ⟨w, y, k, h1, h2, h3, -⟩ := h
    have := rch_ge ok ht n w y h1
    have := thr_gt ok h2.1 (rch_fin ht n w y h1)
    omega
theorem rch_lt {N : NT} (ok : NetOk N) {u t : Nat} (hu : u < nNc N) : ∀ (n v x : Nat), Rch N u t n v x → v < nNc N
  | 0, v, x, h => by rw [h.1]; exact hu
  | n + 1, v, x, h => by obtain ⟨w, y, k, -, h2, -⟩ := h; exact (Ed_lt ok h2).2
theorem ea_is {N : NT} (ok : NetOk N) {u t : Nat} (ht : t < INF) : IsEA N u t (ea N u t) := by
  have hcl : ∀ k w v, Ed N k w v → ea N u t w < INF → ea N u t v ≤ thr N k (ea N u t w) := by
    intro k w v he hw
    rcases ea_spec N u t w with ⟨⟨n, hn⟩, -⟩ | ⟨-, h2⟩
    · by_cases hf : thr N k (ea N u t w) < INF
      · have hr : Rch N u t (n + 1) v (thr N k (ea N u t w)) := ⟨w, _, k, hn, he, rfl, hf⟩
        rcases ea_spec N u t v with ⟨-, h3⟩ | ⟨h3, -⟩
        · exact Nat.le_of_not_lt (fun q => h3 _ q ⟨_, hr⟩)
        · exact absurd ⟨_, _, hr⟩ h3
      · rcases ea_spec N u t v with ⟨⟨n2, h3⟩, -⟩ | ⟨-, h3⟩
        · have := rch_fin ht n2 v _ h3; omega
        · omega
    · omega
  refine ⟨?_, ?_, hcl, ?_⟩
  · rcases ea_spec N u t u with ⟨⟨n, hn⟩, h2⟩ | ⟨h2, -⟩
    · have h3 := rch_ge ok ht n u _ hn
      rcases Nat.lt_or_ge t (ea N u t u) with q | q
      · exact absurd ⟨0, rfl, rfl⟩ (h2 t q)
      · omega
    · exact absurd ⟨t, 0, rfl, rfl⟩ h2
  · intro v hv hvu
    rcases ea_spec N u t v with ⟨⟨n, hn⟩, h2⟩ | ⟨-, h2⟩
    · right
      cases n with
      | zero => exact absurd hn.1 hvu
      | succ n =>
        obtain ⟨w, y, k, h3, h4, h5, h6⟩ := hn
        have hyf := rch_fin ht n w y h3
        have hle : ea N u t w ≤ y := by
          rcases ea_spec N u t w with ⟨-, h7⟩ | ⟨h7, -⟩
          · exact Nat.le_of_not_lt (fun q => h7 _ q ⟨_, h3⟩)
          · exact absurd ⟨_, _, h3⟩ h7
        refine ⟨k, w, h4, by omega, Nat.le_antisymm (hcl k w v h4 (by omega)) ?_⟩
        rw [h5]; exact thr_mono ok h4.1 hle
    · exact Or.inl h2
  · intro v hv
    rcases ea_spec N u t v with ⟨⟨n, hn⟩, -⟩ | ⟨-, h2⟩
    · exact Nat.le_of_lt (rch_fin ht n v _ hn)
    · omega
/-- how many nodes come earlier -/
def cnt (p : Nat → Bool) : Nat → Nat
  | 0 => 0
  | n + 1 => cnt p n + (if p n then 1 else 0)
theorem cnt_le (p : Nat → Bool) : ∀ n, cnt p n ≤ n
  | 0 => Nat.le_refl 0
  | n + 1 => by have := cnt_le p n; simp only [cnt]; split <;> omega
theorem cnt_sub {p q : Nat → Bool} : ∀ {n : Nat}, (∀ k, k < n → p k = true → q k = true) → cnt p n ≤ cnt q n
  | 0, _ => Nat.le_refl 0
  | n + 1, h => by
    have ih := cnt_sub (p := p) (q := q) (n := n) (fun k hk => h k (by omega))
    have hn := h n (by omega)
    simp only [cnt]
    cases hp : p n with
    | false => simp; omega
    | true => rw [hn hp]; simp; omega
theorem cnt_lt {p q : Nat → Bool} {w : Nat} : ∀ {n : Nat}, (∀ k, k < n → p k = true → q k = true) → w < n → p w = false → q w = true → cnt p n < cnt q n
  | 0, _, hw, _, _ => absurd hw (Nat.not_lt_zero w)
  | n + 1, h, hw, h1, h2 => by
    have hs := cnt_sub (p := p) (q := q) (n := n) (fun k hk => h k (by omega))
    have hn := h n (by omega)
    simp only [cnt]
    by_cases he : w = n
    · subst he; rw [h1, h2]; simp; omega
    · have ih := cnt_lt (p := p) (q := q) (w := w) (n := n) (fun k hk => h k (by omega)) (by omega) h1 h2
      cases hp : p n with
      | false => simp; omega
      | true => rw [hn hp]; simp; omega
def dep (N : NT) (D : Nat → Nat) (v : Nat) : Nat := cnt (fun w => decide (D w < D v)) (nNc N)
theorem dep_lt {N : NT} {D : Nat → Nat} {w v : Nat} (hw : w < nNc N) (h : D w < D v) : dep N D w < dep N D v :=
  cnt_lt (w := w) (fun k _ hk => by simp only [decide_eq_true_eq] at hk ⊢; omega) hw (by simp) (by simpa using h)
theorem dep_le {N : NT} (ok : NetOk N) {D : Nat → Nat} {v : Nat} (hv : v < nNc N) : dep N D v ≤ 9 := by
  have h1 : dep N D v < cnt (fun _ => true) (nNc N) := cnt_lt (w := v) (fun _ _ _ => rfl) hv (by simp) rfl
  have h2 := cnt_le (fun _ => true) (nNc N)
  have := ok.1
  omega
theorem ea_bnd {N : NT} (ok : NetOk N) {u t : Nat} {D : Nat → Nat} (h : IsEA N u t D) : ∀ v, v < nNc N → D v = INF ∨ D v ≤ max t 1440 + 99 * dep N D v := by
  suffices H : ∀ x v, v < nNc N → D v = x → D v = INF ∨ D v ≤ max t 1440 + 99 * dep N D v from fun v hv => H _ v hv rfl
  intro x
  induction x using Nat.strongRecOn with
  | _ x ih =>
    intro v hv hx
    by_cases hu : v = u
    · subst hu; right; rw [h.1]; omega
    · rcases h.2.1 v hv hu with h1 | ⟨k, w, he, hw, hp⟩
      · exact Or.inl h1
      · have hlt : D w < D v := by rw [hp]; exact thr_gt ok he.1 hw
        have hwn := (Ed_lt ok he).1
        rcases ih (D w) (by omega) w hwn rfl with h2 | h2
        · omega
        · have hd := dep_lt hwn hlt
          rcases thr_le (t := D w) ok he.1 with h3 | h3
          · left; rw [hp, h3]
          · right; rw [hp]; omega
theorem ea_le {N : NT} (ok : NetOk N) {u t v : Nat} (ht : t < INF) (hv : v < nNc N) : ea N u t v = INF ∨ ea N u t v ≤ max t 1440 + 891 := by
  rcases ea_bnd ok (ea_is ok (u := u) ht) v hv with h | h
  · exact Or.inl h
  · have := dep_le ok (D := ea N u t) hv
    right; omega
theorem ea_self {N : NT} (ok : NetOk N) {u t : Nat} (ht : t < INF) : ea N u t u = t := (ea_is ok ht).1
theorem ea_mon {N : NT} (ok : NetOk N) {u v t t' : Nat} (ht : t ≤ t') (ht' : t' < INF) (hv : v < nNc N) : ea N u t v ≤ ea N u t' v := ea_mono ok (ea_is ok (by omega)) (ea_is ok ht') ht v hv
