/-! copies of ledgers, the history, the snapshots -/
def Cp (c d : Nat) (I J : MI) : Prop := (∀ i, i < c ∨ c + 13 < i → J i = I i) ∧ J c 0 = I d 0 ∧ J c 1 = I d 1 ∧ (∀ j, j < 84 → J (c + 1) j = I (d + 1) j) ∧ (∀ j, j < 12 → J (c + 2) j = I (d + 2) j ∧ J (c + 5) j = I (d + 5) j ∧ J (c + 6) j = I (d + 6) j ∧ J (c + 7) j = I (d + 7) j ∧ J (c + 8) j = I (d + 8) j) ∧ (∀ j, j < 18 → J (c + 3) j = I (d + 3) j ∧ J (c + 4) j = I (d + 4) j) ∧ (∀ j, j < 100 → J (c + 9) j = I (d + 9) j) ∧ J (c + 10) 0 = I (d + 10) 0 ∧ J (c + 10) 1 = I (d + 10) 1 ∧ J (c + 10) 2 = I (d + 10) 2 ∧ ∀ j, j < 12 → J (c + 11) j = I (d + 11) j ∧ J (c + 12) j = I (d + 12) j ∧ J (c + 13) j = I (d + 13) j
theorem sX_copy {c d : Nat} {I : MI} {Q : MI → Prop} (hc : IsSt c) (hd : IsSt d) (hcd : c + 13 < d ∨ d + 13 < c) (H : ∀ J, Cp c d I J → Q J) : Wv mX8_copyFrom [.ref c, .ref d] I Q := by
  have hcl : IsLg (c + 10) := hc.2.2.2.2.2.2.2.2.2.2.2.2.2.2.2.2.2.2.2.2.2
  have hdl : IsLg (d + 10) := hd.2.2.2.2.2.2.2.2.2.2.2.2.2.2.2.2.2.2.2.2.2
  refine rX8_copyFrom hc hd (fun I1 e1 I2 e2 I3 e3 I4 e4 I5 e5 I6 e6 I7 e7 I8 e8 I9 e9 I10 e10 I11 e11 => rX3_copyFrom hcl hdl (fun I12 e12 I13 e13 I14 e14 I15 e15 I16 e16 I17 e17 => H I17 ?_))
  have o1 : ∀ i, i ≠ c → I1 i = I i := fun i h => by rw [e1, up2_cell _ _ _ h]
  have o2 : ∀ i, i ≠ c → I2 i = I1 i := fun i h => by rw [e2, up2_cell _ _ _ h]
  have o3 : ∀ i, i ≠ c + 1 → I3 i = I2 i := fun i h => by rw [e3, upA_ne _ _ h]
  have o4 : ∀ i, i ≠ c + 2 → I4 i = I3 i := fun i h => by rw [e4, upA_ne _ _ h]
  have o5 : ∀ i, i ≠ c + 3 → I5 i = I4 i := fun i h => by rw [e5, upA_ne _ _ h]
  have o6 : ∀ i, i ≠ c + 4 → I6 i = I5 i := fun i h => by rw [e6, upA_ne _ _ h]
  have o7 : ∀ i, i ≠ c + 5 → I7 i = I6 i := fun i h => by rw [e7, upA_ne _ _ h]
  have o8 : ∀ i, i ≠ c + 6 → I8 i = I7 i := fun i h => by rw [e8, upA_ne _ _ h]
  have o9 : ∀ i, i ≠ c + 7 → I9 i = I8 i := fun i h => by rw [e9, upA_ne _ _ h]
  have o10 : ∀ i, i ≠ c + 8 → I10 i = I9 i := fun i h => by rw [e10, upA_ne _ _ h]
  have o11 : ∀ i, i ≠ c + 9 → I11 i = I10 i := fun i h => by rw [e11, upA_ne _ _ h]
  have o12 : ∀ i, i ≠ c + 10 → I12 i = I11 i := fun i h => by rw [e12, up2_cell _ _ _ h]
  have o13 : ∀ i, i ≠ c + 10 → I13 i = I12 i := fun i h => by rw [e13, up2_cell _ _ _ h]
  have o14 : ∀ i, i ≠ c + 10 → I14 i = I13 i := fun i h => by rw [e14, up2_cell _ _ _ h]
  have o15 : ∀ i, i ≠ c + 11 → I15 i = I14 i := fun i h => by rw [e15, upA_ne _ _ h]
  have o16 : ∀ i, i ≠ c + 12 → I16 i = I15 i := fun i h => by rw [e16, upA_ne _ _ h]
  have o17 : ∀ i, i ≠ c + 13 → I17 i = I16 i := fun i h => by rw [e17, upA_ne _ _ h]
  refine ⟨?_, ?_, ?_, ?_, ?_, ?_, ?_, ?_, ?_, ?_, ?_⟩
  · intro i hi
    rw [o17 _ (by omega), o16 _ (by omega), o15 _ (by omega), o14 _ (by omega), o13 _ (by omega), o12 _ (by omega), o11 _ (by omega), o10 _ (by omega), o9 _ (by omega), o8 _ (by omega), o7 _ (by omega), o6 _ (by omega), o5 _ (by omega), o4 _ (by omega), o3 _ (by omega), o2 _ (by omega), o1 _ (by omega)]
  · rw [o17 _ (by omega), o16 _ (by omega), o15 _ (by omega), o14 _ (by omega), o13 _ (by omega), o12 _ (by omega), o11 _ (by omega), o10 _ (by omega), o9 _ (by omega), o8 _ (by omega), o7 _ (by omega), o6 _ (by omega), o5 _ (by omega), o4 _ (by omega), o3 _ (by omega), e2, up2_slot _ _ (by decide), e1, up2_same]
  · rw [o17 _ (by omega), o16 _ (by omega), o15 _ (by omega), o14 _ (by omega), o13 _ (by omega), o12 _ (by omega), o11 _ (by omega), o10 _ (by omega), o9 _ (by omega), o8 _ (by omega), o7 _ (by omega), o6 _ (by omega), o5 _ (by omega), o4 _ (by omega), o3 _ (by omega), e2, up2_same, o1 _ (by omega)]
  · intro j hj
    rw [o17 _ (by omega), o16 _ (by omega), o15 _ (by omega), o14 _ (by omega), o13 _ (by omega), o12 _ (by omega), o11 _ (by omega), o10 _ (by omega), o9 _ (by omega), o8 _ (by omega), o7 _ (by omega), o6 _ (by omega), o5 _ (by omega), o4 _ (by omega), e3, show upA I2 (c + 1) _ (c + 1) = _ from if_pos rfl, sb_cpy0 (by omega), o2 _ (by omega), o1 _ (by omega)]
  · intro j hj
    refine ⟨?_, ?_, ?_, ?_, ?_⟩
    · rw [o17 _ (by omega), o16 _ (by omega), o15 _ (by omega), o14 _ (by omega), o13 _ (by omega), o12 _ (by omega), o11 _ (by omega), o10 _ (by omega), o9 _ (by omega), o8 _ (by omega), o7 _ (by omega), o6 _ (by omega), o5 _ (by omega), e4, show upA I3 (c + 2) _ (c + 2) = _ from if_pos rfl, sb_cpy0 (by omega), o3 _ (by omega), o2 _ (by omega), o1 _ (by omega)]
    · rw [o17 _ (by omega), o16 _ (by omega), o15 _ (by omega), o14 _ (by omega), o13 _ (by omega), o12 _ (by omega), o11 _ (by omega), o10 _ (by omega), o9 _ (by omega), o8 _ (by omega), e7, show upA I6 (c + 5) _ (c + 5) = _ from if_pos rfl, sb_cpy0 (by omega), o6 _ (by omega), o5 _ (by omega), o4 _ (by omega), o3 _ (by omega), o2 _ (by omega), o1 _ (by omega)]
    · rw [o17 _ (by omega), o16 _ (by omega), o15 _ (by omega), o14 _ (by omega), o13 _ (by omega), o12 _ (by omega), o11 _ (by omega), o10 _ (by omega), o9 _ (by omega), e8, show upA I7 (c + 6) _ (c + 6) = _ from if_pos rfl, sb_cpy0 (by omega), o7 _ (by omega), o6 _ (by omega), o5 _ (by omega), o4 _ (by omega), o3 _ (by omega), o2 _ (by omega), o1 _ (by omega)]
    · rw [o17 _ (by omega), o16 _ (by omega), o15 _ (by omega), o14 _ (by omega), o13 _ (by omega), o12 _ (by omega), o11 _ (by omega), o10 _ (by omega), e9, show upA I8 (c + 7) _ (c + 7) = _ from if_pos rfl, sb_cpy0 (by omega), o8 _ (by omega), o7 _ (by omega), o6 _ (by omega), o5 _ (by omega), o4 _ (by omega), o3 _ (by omega), o2 _ (by omega), o1 _ (by omega)]
    · rw [o17 _ (by omega), o16 _ (by omega), o15 _ (by omega), o14 _ (by omega), o13 _ (by omega), o12 _ (by omega), o11 _ (by omega), e10, show upA I9 (c + 8) _ (c + 8) = _ from if_pos rfl, sb_cpy0 (by omega), o9 _ (by omega), o8 _ (by omega), o7 _ (by omega), o6 _ (by omega), o5 _ (by omega), o4 _ (by omega), o3 _ (by omega), o2 _ (by omega), o1 _ (by omega)]
  · intro j hj
    refine ⟨?_, ?_⟩
    · rw [o17 _ (by omega), o16 _ (by omega), o15 _ (by omega), o14 _ (by omega), o13 _ (by omega), o12 _ (by omega), o11 _ (by omega), o10 _ (by omega), o9 _ (by omega), o8 _ (by omega), o7 _ (by omega), o6 _ (by omega), e5, show upA I4 (c + 3) _ (c + 3) = _ from if_pos rfl, sb_cpy0 (by omega), o4 _ (by omega), o3 _ (by omega), o2 _ (by omega), o1 _ (by omega)]
    · rw [o17 _ (by omega), o16 _ (by omega), o15 _ (by omega), o14 _ (by omega), o13 _ (by omega), o12 _ (by omega), o11 _ (by omega), o10 _ (by omega), o9 _ (by omega), o8 _ (by omega), o7 _ (by omega), e6, show upA I5 (c + 4) _ (c + 4) = _ from if_pos rfl, sb_cpy0 (by omega), o5 _ (by omega), o4 _ (by omega), o3 _ (by omega), o2 _ (by omega), o1 _ (by omega)]
  · intro j hj
    rw [o17 _ (by omega), o16 _ (by omega), o15 _ (by omega), o14 _ (by omega), o13 _ (by omega), o12 _ (by omega), e11, show upA I10 (c + 9) _ (c + 9) = _ from if_pos rfl, sb_cpy0 (by omega), o10 _ (by omega), o9 _ (by omega), o8 _ (by omega), o7 _ (by omega), o6 _ (by omega), o5 _ (by omega), o4 _ (by omega), o3 _ (by omega), o2 _ (by omega), o1 _ (by omega)]
  · rw [o17 _ (by omega), o16 _ (by omega), o15 _ (by omega), e14, up2_slot _ _ (by decide), e13, up2_slot _ _ (by decide), e12, up2_same, o11 _ (by omega), o10 _ (by omega), o9 _ (by omega), o8 _ (by omega), o7 _ (by omega), o6 _ (by omega), o5 _ (by omega), o4 _ (by omega), o3 _ (by omega), o2 _ (by omega), o1 _ (by omega)]
  · rw [o17 _ (by omega), o16 _ (by omega), o15 _ (by omega), e14, up2_slot _ _ (by decide), e13, up2_same, o12 _ (by omega), o11 _ (by omega), o10 _ (by omega), o9 _ (by omega), o8 _ (by omega), o7 _ (by omega), o6 _ (by omega), o5 _ (by omega), o4 _ (by omega), o3 _ (by omega), o2 _ (by omega), o1 _ (by omega)]
  · rw [o17 _ (by omega), o16 _ (by omega), o15 _ (by omega), e14, up2_same, o13 _ (by omega), o12 _ (by omega), o11 _ (by omega), o10 _ (by omega), o9 _ (by omega), o8 _ (by omega), o7 _ (by omega), o6 _ (by omega), o5 _ (by omega), o4 _ (by omega), o3 _ (by omega), o2 _ (by omega), o1 _ (by omega)]
  · intro j hj
    refine ⟨?_, ?_, ?_⟩
    · rw [o17 _ (by omega), o16 _ (by omega), e15, show upA I14 (c + 11) _ (c + 11) = _ from if_pos rfl, sb_cpy0 (by omega), o14 _ (by omega), o13 _ (by omega), o12 _ (by omega), o11 _ (by omega), o10 _ (by omega), o9 _ (by omega), o8 _ (by omega), o7 _ (by omega), o6 _ (by omega), o5 _ (by omega), o4 _ (by omega), o3 _ (by omega), o2 _ (by omega), o1 _ (by omega)]
    · rw [o17 _ (by omega), e16, show upA I15 (c + 12) _ (c + 12) = _ from if_pos rfl, sb_cpy0 (by omega), o15 _ (by omega), o14 _ (by omega), o13 _ (by omega), o12 _ (by omega), o11 _ (by omega), o10 _ (by omega), o9 _ (by omega), o8 _ (by omega), o7 _ (by omega), o6 _ (by omega), o5 _ (by omega), o4 _ (by omega), o3 _ (by omega), o2 _ (by omega), o1 _ (by omega)]
    · rw [e17, show upA I16 (c + 13) _ (c + 13) = _ from if_pos rfl, sb_cpy0 (by omega), o16 _ (by omega), o15 _ (by omega), o14 _ (by omega), o13 _ (by omega), o12 _ (by omega), o11 _ (by omega), o10 _ (by omega), o9 _ (by omega), o8 _ (by omega), o7 _ (by omega), o6 _ (by omega), o5 _ (by omega), o4 _ (by omega), o3 _ (by omega), o2 _ (by omega), o1 _ (by omega)]
theorem LX_cp {c d : Nat} {p : Pl} {x : Ld} {I J : MI} (hp : PlOk p) (hv : lVi x ≤ 12) (h : Cp c d I J) (hx : LX d p x I) : LX c p x J := by
  have hhc := hp.2.2.2.1
  have hsc := hp.2.2.1
  have hnc := hp.2.1
  obtain ⟨-, k1, k2, k3, k4, k5, k6, k7, k8, k9, k10⟩ := h
  obtain ⟨x1, x2, x3, x4, x5, x6, x7, x8, x9, x10⟩ := hx
  refine ⟨k1.trans x1, k2.trans x2, fun i hi => (k3 i (by omega)).trans (x3 i hi), fun h hh => ?_, fun k hk => ?_, fun a b ha hb => (k6 _ (by omega)).trans (x6 a b ha hb), k7.trans x7, k8.trans x8, k9.trans x9, fun v hv' => ?_⟩
  · obtain ⟨a1, a2, a3, a4, a5⟩ := k4 h (by omega)
    obtain ⟨b1, b2, b3, b4, b5⟩ := x4 h hh
    exact ⟨a1.trans b1, a2.trans b2, a3.trans b3, a4.trans b4, a5.trans b5⟩
  · obtain ⟨a1, a2⟩ := k5 k (by omega)
    obtain ⟨b1, b2⟩ := x5 k hk
    exact ⟨a1.trans b1, a2.trans b2⟩
  · obtain ⟨a1, a2, a3⟩ := k10 v (by omega)
    obtain ⟨b1, b2, b3⟩ := x10 v hv'
    exact ⟨a1.trans b1, a2.trans b2, a3.trans b3⟩
theorem LM_cp {a o a' o' : Nat} {p : Pl} {x : Ld} {I J : MI} (hp : PlOk p) (hv : lVi x ≤ 12) (hx : LM a o p x I) (h : ∀ k, k < 332 → J a' (o' + k) = I a (o + k)) : LM a' o' p x J := by
  have hhc := hp.2.2.2.1
  have hsc := hp.2.2.1
  have hnc := hp.2.1
  have g : ∀ m k, m + k < 332 → J a' (o' + m + k) = I a (o + m + k) := fun m k hk => by rw [Nat.add_assoc, Nat.add_assoc]; exact h _ hk
  obtain ⟨c1, c2, c3, c4, c5, c6, c7, c8, c9, c10, c11⟩ := hx
  refine ⟨?_, fun i hi => ?_, fun i hi => ?_, fun i hi => ?_, fun i h1 h2 => ?_, fun i hi => ?_, fun c d h1 h2 => ?_, ?_, ?_, ?_, fun i hi => ?_⟩
  · exact (h 0 (by decide)).trans c1
  · rw [g _ _ (by omega)]; exact c2 i hi
  · rw [g _ _ (by omega)]; exact c3 i hi
  · rw [g _ _ (by omega), g _ _ (by omega), g _ _ (by omega), g _ _ (by omega), g _ _ (by omega)]; exact c4 i hi
  · rw [g _ _ (by omega)]; exact c5 i h1 h2
  · rw [g _ _ (by omega), g _ _ (by omega)]; exact c6 i hi
  · rw [g _ _ (by omega)]; exact c7 c d h1 h2
  · exact (h 293 (by decide)).trans c8
  · exact (h 294 (by decide)).trans c9
  · exact (h 295 (by decide)).trans c10
  · rw [g _ _ (by omega), g _ _ (by omega), g _ _ (by omega)]; exact c11 i hi
theorem st_past : ∀ j, j < 12 → Rf0 62 j = some (63 + 14 * j) ∧ kd (63 + 14 * j) = (0, 8) ∧ 63 + 14 * j < 286 := by decide
theorem is_past : ∀ j, j < 12 → IsSt (63 + 14 * j) := by
  intro j hj
  have : j = 0 ∨ j = 1 ∨ j = 2 ∨ j = 3 ∨ j = 4 ∨ j = 5 ∨ j = 6 ∨ j = 7 ∨ j = 8 ∨ j = 9 ∨ j = 10 ∨ j = 11 := by omega
  rcases this with h | h | h | h | h | h | h | h | h | h | h | h <;> subst h <;> (unfold IsSt IsLg; decide)
theorem is_30 : IsSt 30 := by unfold IsSt IsLg; decide
theorem is_10 : IsSt 10 := by unfold IsSt IsLg; decide
theorem st_slot : ∀ j, j < 2 → Rf0 231 j = some (232 + 14 * j) ∧ kd (232 + 14 * j) = (0, 8) ∧ 232 + 14 * j < 286 := by decide
theorem is_slot : ∀ j, j < 2 → IsSt (232 + 14 * j) := by
  intro j hj
  have : j = 0 ∨ j = 1 := by omega
  rcases this with h | h <;> subst h <;> (unfold IsSt IsLg; decide)
/-- the history: newest first -/
def HX (p : Pl) (hs : List Ld) (I : MI) : Prop := hs.length ≤ 12 ∧ I 61 2 = nI hs.length ∧ ∃ n, n < 12 ∧ I 61 1 = nI n ∧ ∀ i y, hs[i]? = some y → LX (63 + 14 * ((n + 11 - i) % 12)) p y I
def HM (p : Pl) (hs : List Ld) (I : MI) : Prop := hs.length ≤ 12 ∧ I 261 24 = nI hs.length ∧ ∀ i y, hs[i]? = some y → LM 275 (332 * (hs.length - 1 - i)) p y I
theorem HX_of {p : Pl} {hs : List Ld} {I J : MI} (h : HX p hs I) (e : ∀ i, 61 ≤ i → i ≤ 230 → J i = I i) : HX p hs J := by
  obtain ⟨h1, h2, n, h3, h4, h5⟩ := h
  refine ⟨h1, by rw [e 61 (by omega) (by omega)]; exact h2, n, h3, by rw [e 61 (by omega) (by omega)]; exact h4, fun i y hy => LX_of (h5 i y hy) (fun k k1 k2 => e k (by omega) (by omega))⟩
theorem HM_of {p : Pl} {hs : List Ld} {I J : MI} (h : HM p hs I) (e : J 261 24 = I 261 24) (e2 : J 275 = I 275) : HM p hs J :=
  ⟨h.1, e.trans h.2.1, fun i y hy => LM_of (h.2.2 i y hy) e2⟩
section
variable {p : Pl} {x : Ld} {b : Nat} {I : MI} {hs : List Ld}
theorem take_get (hs : List Ld) (x : Ld) (i : Nat) (y : Ld) (h : ((x :: hs).take 12)[i]? = some y) : (i = 0 ∧ y = x) ∨ ∃ k, i = k + 1 ∧ k < 11 ∧ hs[k]? = some y := by
  rw [List.getElem?_take] at h
  split at h
  · cases i with
    | zero => simp at h; exact Or.inl ⟨rfl, h.symm⟩
    | succ k => exact Or.inr ⟨k, rfl, by omega, by simpa using h⟩
  · cases h
theorem sX_remember {Q : MI → Prop} (hp : PlOk p) (hv : lVi x ≤ 12) (hvs : ∀ y, y ∈ hs → lVi y ≤ 12) (hx : LX 30 p x I) (hh : HX p hs I)
    (H : ∀ J, HX p ((x :: hs).take 12) J → (∀ i, i < 61 ∨ 230 < i → J i = I i) → Q J) : Wv mX2_remember [.ref 61, .ref 30] I Q := by
  obtain ⟨h1, h2, n, h3, h4, h5⟩ := hh
  refine rX2_remember ?_
  rw [h4, cl (by omega)]
  obtain ⟨r1, r2, r3⟩ := st_past n h3
  refine ⟨ci (by omega) (by decide), _, r1, r2, r3, sX_copy (is_past n h3) is_30 (Or.inr (by omega)) (fun J hJ J3 e3 x4 e4 J5 e5 => ?_)⟩
  have j61 : J 61 = I 61 := hJ.1 61 (by omega)
  have a1 : J 61 1 = nI n := by rw [j61]; exact h4
  have a2 : J3 61 2 = nI hs.length := by rw [e3, up2_slot _ _ (by decide), j61]; exact h2
  have a3 : J3 61 1 = nI ((n + 1) % 12) := by rw [e3, up2_same, a1, nI_s]; exact pk_rem (d := 12) (by omega) (by decide) (by decide)
  have hl : ((x :: hs).take 12).length = min 12 (hs.length + 1) := by rw [List.length_take, List.length_cons]
  have a4 : x4 = nI (min 12 (hs.length + 1)) := by
    rw [e4, a2, nI_s]
    have := minI (a := 12) (b := hs.length + 1) (by decide) (by omega)
    rw [Nat.min_comm] at this
    exact this
  refine H J5 ⟨by omega, ?_, (n + 1) % 12, Nat.mod_lt _ (by decide), ?_, fun i y hy => ?_⟩ ?_
  · rw [e5, up2_same, a4, hl]
  · rw [e5, up2_slot _ _ (by decide)]; exact a3
  · have jo : ∀ i, i ≠ 61 → J5 i = J i := fun i hi => by rw [e5, up2_cell _ _ _ hi, e3, up2_cell _ _ _ hi]
    rcases take_get hs x i y hy with ⟨i0, y0⟩ | ⟨k, i1, k1, hk⟩
    · subst i0; subst y0
      have e : ((n + 1) % 12 + 11 - 0) % 12 = n := by omega
      rw [e]
      exact LX_of (LX_cp hp hv hJ hx) (fun i _ _ => jo i (by omega))
    · subst i1
      have e : ((n + 1) % 12 + 11 - (k + 1)) % 12 = (n + 11 - k) % 12 := by omega
      rw [e]
      have hne : (n + 11 - k) % 12 ≠ n := by omega
      have hlt : (n + 11 - k) % 12 < 12 := Nat.mod_lt _ (by decide)
      refine LX_of (h5 k y hk) (fun i i1 i2 => ?_)
      rw [jo i (by omega)]
      exact hJ.1 i (by omega)
  · intro i hi
    rw [e5, up2_cell _ _ _ (by omega), e3, up2_cell _ _ _ (by omega)]
    exact hJ.1 i (by omega)
theorem sX_recall {y : Ld} {Q : MI → Prop} (hp : PlOk p) (hv : lVi y ≤ 12) (hh : HX p (y :: hs) I)
    (H : ∀ J, LX 30 p y J → HX p hs J → (∀ i, i < 30 ∨ (43 < i ∧ i ≠ 61) → J i = I i) → Q J) : Wv mX2_recall [.ref 61, .ref 30] I Q := by
  obtain ⟨h1, h2, n, h3, h4, h5⟩ := hh
  simp only [List.length_cons] at h1 h2
  refine rX2_recall ⟨fun _ I1 e1 I2 e2 => ?_, fun q => ?_⟩
  · have a1 : I1 61 1 = nI n := by rw [e1, up2_slot _ _ (by decide)]; exact h4
    have a2 : I2 61 1 = nI ((n + 11) % 12) := by
      rw [e2, up2_same, a1, show (12 : Int32) = nI 12 from rfl, nI_add, show nI (n + 12) - (1 : Int32) = nI (n + 11) from nI_pred (n + 11)]
      exact pk_rem (d := 12) (by omega) (by decide) (by decide)
    have a3 : I2 61 2 = nI hs.length := by rw [e2, up2_slot _ _ (by decide), e1, up2_same, h2]; exact nI_pred _
    have hlt : (n + 11) % 12 < 12 := Nat.mod_lt _ (by decide)
    have jo : ∀ i, i ≠ 61 → I2 i = I i := fun i hi => by rw [e2, up2_cell _ _ _ hi, e1, up2_cell _ _ _ hi]
    rw [a2, cl (by omega)]
    obtain ⟨r1, r2, r3⟩ := st_past _ hlt
    refine ⟨ci (by omega) (by decide), _, r1, r2, r3, sX_copy is_30 (is_past _ hlt) (Or.inl (by omega)) (fun J hJ => H J ?_ ?_ ?_)⟩
    · refine LX_cp hp hv hJ (LX_of (h5 0 y rfl) (fun i i1 i2 => jo i (by omega)))
    · refine ⟨by omega, by rw [hJ.1 61 (by omega)]; exact a3, (n + 11) % 12, hlt, by rw [hJ.1 61 (by omega)]; exact a2, fun i z hz => ?_⟩
      have hi : i < hs.length := by
        rcases Nat.lt_or_ge i hs.length with q | q
        · exact q
        · rw [List.getElem?_eq_none q] at hz; cases hz
      have e : ((n + 11) % 12 + 11 - i) % 12 = (n + 11 - (i + 1)) % 12 := by omega
      rw [e]
      refine LX_of (h5 (i + 1) z (by simpa using hz)) (fun k k1 k2 => ?_)
      rw [hJ.1 k (by omega)]
      exact jo k (by omega)
    · intro i hi
      rw [hJ.1 i (by omega)]
      exact jo i (by omega)
  · rw [h2, nI_zero, ieq (by omega) (by decide)] at q; omega
theorem sM_keep {Q : MI → Prop} (hp : PlOk p) (hv : lVi x ≤ 12) (hvs : ∀ y, y ∈ hs → lVi y ≤ 12) (hx : LM 274 0 p x I) (hh : HM p hs I)
    (H : ∀ J, HM p ((x :: hs).take 12) J → SamM [275] [24] I J → Q J) : Wv mX12_keepState [.ref 261] I Q := by
  obtain ⟨h1, h2, h3⟩ := hh
  -- the second loop: copies the ledger to place d
  have cpy : ∀ (d : Nat) (I0 : MI), d < 12 → I0 261 24 = nI d → SamM [275] [24] I I0 → (∀ J, (∀ k, k < 332 → J 275 (332 * d + k) = I 274 k) → (∀ k, k < 332 * d → J 275 k = I0 275 k) → J 261 24 = nI (d + 1) → SamM [275] [24] I J → Q J) → LX12_keepState_58 0 I0 Q := by
    intro d I0 hd e24 s0 HQ
    have go : ∀ (m k : Nat) (J : MI), m + k = 332 → J 261 24 = nI d → SamM [275] [24] I J → (∀ i, i < k → J 275 (332 * d + i) = I 274 i) → (∀ i, i < 332 * d → J 275 i = I0 275 i) → LX12_keepState_58 (nI k) J Q := by
      intro m
      induction m with
      | zero =>
        intro k J hm j24 sj g1 g2
        have : k = 332 := by omega
        subst this
        refine rX12_keepState_58 ⟨fun _ J1 e1 => HQ J1 ?_ ?_ ?_ ?_, fun q => absurd (by rw [show (332 : Int32) = nI 332 from rfl, ile (by decide) (by decide)]; omega) q⟩
        · intro i hi; rw [e1, up2_cell _ _ _ (by decide)]; exact g1 i hi
        · intro i hi; rw [e1, up2_cell _ _ _ (by decide)]; exact g2 i hi
        · rw [e1, up2_same, j24, nI_s]
        · rw [e1]; exact sj.fk (by simp)
      | succ m ih =>
        intro k J hm j24 sj g1 g2
        refine rX12_keepState_58 ⟨fun q => ?_, fun _ => ?_⟩
        · rw [show (332 : Int32) = nI 332 from rfl, ile (by decide) (by omega)] at q; omega
        · rw [j24, show (332 : Int32) * nI d = nI (332 * d) from pk_mul 332 d, nI_add, cl (by omega), cl (by omega), sj.1 274 (by decide) (by simp)]
          refine ⟨ci (by omega) (by decide), ci (by omega) (by decide), fun J1 e1 => ?_⟩
          rw [nI_s]
          refine ih (k + 1) J1 (by omega) ?_ ?_ ?_ ?_
          · rw [e1, up2_cell _ _ _ (by decide)]; exact j24
          · rw [e1]; exact sj.u2 (by simp) (by decide)
          · intro i hi
            rw [e1]
            by_cases e : i = k
            · rw [up2_e _ _ (by omega), e]
            · rw [up2_slot _ _ (by omega)]; exact g1 i (by omega)
          · intro i hi; rw [e1, up2_slot _ _ (by omega)]; exact g2 i hi
    exact go 332 0 I0 rfl e24 s0 (fun i hi => absurd hi (Nat.not_lt_zero i)) (fun _ _ => rfl)
  have hl : ((x :: hs).take 12).length = min 12 (hs.length + 1) := by rw [List.length_take, List.length_cons]
  have hx0 : ∀ k, k < 332 → I 274 (0 + k) = I 274 k := fun k _ => by rw [Nat.zero_add]
  refine rX12_keepState ⟨fun q => rX12_keepState_56 ?_, fun q => ?_⟩
  · have hlt : hs.length < 12 := by
      rw [h2, show (12 : Int32) = nI 12 from rfl, ieq (by omega) (by decide)] at q; omega
    refine cpy hs.length I hlt h2 SamM.rf (fun J g1 g2 g3 sj => H J ⟨by omega, ?_, fun i y hy => ?_⟩ sj)
    · rw [g3, hl, Nat.min_eq_right (by omega)]
    · rw [hl, Nat.min_eq_right (by omega)]
      rcases take_get hs x i y hy with ⟨i0, y0⟩ | ⟨k, i1, k1, hk⟩
      · subst i0; subst y0
        refine LM_cp hp hv hx (fun k hk => ?_)
        rw [hx0 k hk, show hs.length + 1 - 1 - 0 = hs.length by omega]
        exact g1 k hk
      · subst i1
        have hkl : k < hs.length := by
          rcases Nat.lt_or_ge k hs.length with z | z
          · exact z
          · rw [List.getElem?_eq_none z] at hk; cases hk
        rw [show hs.length + 1 - 1 - (k + 1) = hs.length - 1 - k by omega]
        exact LM_cp hp (hvs y (List.mem_of_getElem? hk)) (h3 k y hk) (fun i hi => g2 _ (by omega))
  · have hlt : hs.length = 12 := by
      rw [h2, show (12 : Int32) = nI 12 from rfl, ieq (by omega) (by decide)] at q; omega
    have e3652 : (3984 : Int32) - 332 = nI 3652 := rfl
    have go : ∀ (m k : Nat) (J : MI), m + k = 3652 → SamM [275] [24] I J → J 261 24 = nI 12 → (∀ i, i < k → J 275 i = I 275 (i + 332)) → (∀ i, k ≤ i → J 275 i = I 275 i) → LX12_keepState_11 (nI k) J Q := by
      intro m
      induction m with
      | zero =>
        intro k J hm sj j24 g1 g2
        have : k = 3652 := by omega
        subst this
        refine rX12_keepState_11 ⟨fun _ J1 e1 => rX12_keepState_56 ?_, fun z => absurd (by rw [e3652, ile (by decide) (by decide)]; omega) z⟩
        have s1 : SamM [275] [24] I J1 := by rw [e1]; exact sj.fk (by simp)
        refine cpy 11 J1 (by decide) (by rw [e1, up2_same, j24]; rfl) s1 (fun J2 f1 f2 f3 s2 => H J2 ⟨by omega, ?_, fun i y hy => ?_⟩ s2)
        · rw [f3, hl, Nat.min_eq_left (by omega)]
        · rw [hl, Nat.min_eq_left (by omega)]
          rcases take_get hs x i y hy with ⟨i0, y0⟩ | ⟨k, i1, k1, hk⟩
          · subst i0; subst y0
            refine LM_cp hp hv hx (fun k hk => ?_)
            rw [hx0 k hk]
            exact f1 k hk
          · subst i1
            refine LM_cp hp (hvs y (List.mem_of_getElem? hk)) (h3 k y hk) (fun i hi => ?_)
            rw [f2 _ (by omega), e1, up2_cell _ _ _ (by decide), g1 _ (by omega), hlt]
            congr 1
            omega
      | succ m ih =>
        intro k J hm sj j24 g1 g2
        refine rX12_keepState_11 ⟨fun z => ?_, fun _ => ?_⟩
        · rw [e3652, ile (by decide) (by omega)] at z; omega
        · rw [show (332 : Int32) = nI 332 from rfl, nI_add, cl (by omega), cl (by omega)]
          refine ⟨ci (by omega) (by decide), ci (by omega) (by decide), fun J1 e1 => ?_⟩
          rw [nI_s]
          refine ih (k + 1) J1 (by omega) (by rw [e1]; exact sj.u2 (by simp) (by decide)) (by rw [e1, up2_cell _ _ _ (by decide)]; exact j24) (fun i hi => ?_) (fun i hi => ?_)
          · rw [e1]
            by_cases e : i = k
            · rw [up2_e _ _ e, g2 _ (by omega), e]
            · rw [up2_slot _ _ e]; exact g1 i (by omega)
          · rw [e1, up2_slot _ _ (by omega)]; exact g2 i (by omega)
    exact go 3652 0 I rfl SamM.rf (by rw [h2, hlt]) (fun i hi => absurd hi (Nat.not_lt_zero i)) (fun _ _ => rfl)
end
