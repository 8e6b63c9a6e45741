/-! the three orders of stops -/
theorem numl_mem {s v : Nat} : ∀ n, v ∈ numl s n → v < n ∧ s.testBit v = true
  | 0, h => by cases h
  | n + 1, h => by
    simp only [numl] at h
    by_cases q : s.testBit n = true
    · rw [if_pos q, List.mem_append, List.mem_singleton] at h
      rcases h with h | h
      · have := numl_mem n h; exact ⟨by omega, this.2⟩
      · subst h; exact ⟨by omega, q⟩
    · rw [if_neg q] at h
      have := numl_mem n h
      exact ⟨by omega, this.2⟩
theorem numl_nd (s : Nat) : ∀ n, (numl s n).Nodup
  | 0 => List.nodup_nil
  | n + 1 => by
    simp only [numl]
    by_cases q : s.testBit n = true
    · rw [if_pos q, List.nodup_append]
      refine ⟨numl_nd s n, by simp, fun a ha c hc => ?_⟩
      have := (numl_mem n ha).1
      rw [List.mem_singleton] at hc
      omega
    · rw [if_neg q]; exact numl_nd s n
theorem hord_mem {p : Pl} {x : Ld} {v : Nat} : ∀ (n a s : Nat), v ∈ hord p x n a s → s.testBit v = true
  | 0, a, s, h => by cases h
  | n + 1, a, s, h => by
    simp only [hord] at h
    cases hq : hpick p x a s with
    | none => rw [hq] at h; cases h
    | some c =>
      rw [hq] at h
      rcases List.mem_cons.mp h with h | h
      · subst h; exact (hsel_in _ _ hq).2
      · exact clr_sub s c v (hord_mem n c (clr s c) h)
theorem hord_nd {p : Pl} {x : Ld} : ∀ (n a s : Nat), (hord p x n a s).Nodup
  | 0, a, s => List.nodup_nil
  | n + 1, a, s => by
    simp only [hord]
    cases hq : hpick p x a s with
    | none => exact List.nodup_nil
    | some c =>
      refine List.nodup_cons.mpr ⟨fun h => ?_, hord_nd n c (clr s c)⟩
      have := hord_mem n c (clr s c) h
      rw [clr_bit] at this
      simp at this
theorem hord_len {p : Pl} {x : Ld} : ∀ (n a s : Nat), (hord p x n a s).length ≤ n
  | 0, a, s => Nat.le_refl _
  | n + 1, a, s => by
    simp only [hord]
    cases hq : hpick p x a s with
    | none => exact Nat.zero_le _
    | some c => have := hord_len (p := p) (x := x) n c (clr s c); simp only [List.length_cons]; omega
theorem ford_mem {p : Pl} {x : Ld} {F v : Nat} : ∀ (n u t s : Nat), v ∈ ford p x F n u t s → s.testBit v = true
  | 0, u, t, s, h => by cases h
  | n + 1, u, t, s, h => by
    simp only [ford] at h
    cases hq : fs (fP p x F u t s) 10 with
    | none => rw [hq] at h; cases h
    | some c =>
      rw [hq] at h
      rcases List.mem_cons.mp h with h | h
      · subst h
        have := (fs_some _ _ hq).2.1
        unfold fP at this
        rw [decide_eq_true_eq] at this
        exact this.1
      · exact clr_sub s c v (ford_mem n _ _ (clr s c) h)
theorem ford_nd {p : Pl} {x : Ld} {F : Nat} : ∀ (n u t s : Nat), (ford p x F n u t s).Nodup
  | 0, u, t, s => List.nodup_nil
  | n + 1, u, t, s => by
    simp only [ford]
    cases hq : fs (fP p x F u t s) 10 with
    | none => exact List.nodup_nil
    | some c =>
      refine List.nodup_cons.mpr ⟨fun h => ?_, ford_nd n _ _ (clr s c)⟩
      have := ford_mem n _ _ (clr s c) h
      rw [clr_bit] at this
      simp at this
theorem ford_len {p : Pl} {x : Ld} {F : Nat} : ∀ (n u t s : Nat), (ford p x F n u t s).length ≤ n
  | 0, u, t, s => Nat.le_refl _
  | n + 1, u, t, s => by
    simp only [ford]
    cases hq : fs (fP p x F u t s) 10 with
    | none => exact Nat.zero_le _
    | some c => have := ford_len (p := p) (x := x) (F := F) n c (ea (nt p x) u t c + sty p x c) (clr s c); simp only [List.length_cons]; omega
/-- an order that a round can follow -/
def RtOk (p : Pl) (r : List Nat) : Prop := r.length ≤ 10 ∧ (∀ v, v ∈ r → v < pNc p) ∧ r.Nodup
theorem numl_ok {p : Pl} {x : Ld} (hp : PlOk p) : RtOk p (numl (stp p x (pHc p)) 10) := ⟨numl_le _ 10, fun v hv => ((stp_ok hp).2 v (numl_mem 10 hv).2).2, numl_nd _ 10⟩
theorem hord_ok {p : Pl} {x : Ld} (hp : PlOk p) : RtOk p (hord p x 10 0 (stp p x (pHc p))) := ⟨hord_len _ _ _, fun v hv => ((stp_ok hp).2 v (hord_mem _ _ _ hv)).2, hord_nd _ _ _⟩
theorem frt_ok {p : Pl} {x : Ld} (hp : PlOk p) : RtOk p (frt p x) := ⟨ford_len _ _ _ _, fun v hv => ((stp_ok hp).2 v (ford_mem _ _ _ _ hv)).2, ford_nd _ _ _ _⟩
theorem frx_ok {p : Pl} {x : Ld} (hp : PlOk p) : RtOk p (frx p x) := by
  unfold frx
  split
  · exact frt_ok hp
  · exact ⟨Nat.zero_le _, fun v hv => (by cases hv), List.nodup_nil⟩
theorem trav_ok {p : Pl} {x : Ld} {b : Nat} {r : List Nat} (hp : PlOk p) (hok : LdOk p b x) (hr : RtOk p r) : (kV (trav p x r)).length ≤ 12 ∧ ∀ e, e ∈ kV (trav p x r) → e.1 < pHc p := by
  have hlen := hr.1
  have h := rloop_ok hp hok r 1440 (k0 p x) (k0_ok hp) (Nat.le_refl _) (by omega) hr.2.1 hr.2.2 (fun _ _ _ => rfl)
  have hc := cnt_le (kK (rloop p x (k0 p x) r)) (pHc p)
  have hhc := hp.2.2.2.1
  refine ⟨?_, h.2.2.2.2.2⟩
  have h4 := h.2.2.2.1
  show (kV (rloop p x (k0 p x) r)).length ≤ 12
  omega
/-- the order of a choice, and whether there is one -/
noncomputable def rte (p : Pl) (x : Ld) (c : Int32) : List Nat := if c = 2 then frx p x else if c = 1 then hord p x 10 0 (stp p x (pHc p)) else numl (stp p x (pHc p)) 10
noncomputable def rtb (p : Pl) (x : Ld) (c : Int32) : Bool := if c = 2 then decide (ffin p x < INF) else true
theorem rte_ok {p : Pl} {x : Ld} (hp : PlOk p) (c : Int32) : RtOk p (rte p x c) := by
  unfold rte
  split
  · exact frx_ok hp
  · split
    · exact hord_ok hp
    · exact numl_ok hp
section
variable {p : Pl} {x : Ld} {b : Nat} {I : MI}
abbrev cXr : List Nat := [46, 47, 48, 49, 50, 51, 52, 53, 54, 55]
/-- the class's cache -/
def CX (p : Pl) (x : Ld) (I : MI) : Prop := I 50 9 = 0 ∨ (I 50 9 = 1 ∧ FX p x I)
theorem CX_of {J : MI} (h : CX p x I) (e : ∀ c, c = 50 ∨ c = 51 ∨ c = 52 → J c = I c) : CX p x J := by
  unfold CX FX RtX
  rw [e 50 (by simp), e 51 (by simp), e (51 + 1) (by simp)]
  exact h
theorem sX_chooseRoute {c : Int32} {Q : Int32 → MI → Prop} (hp : PlOk p) (hok : LdOk p b x) (hb : b ≤ 100000) (hP : PX 24 p I) (hx : LX 30 p x I) (hk : CX p x I)
    (H : ∀ J, RtX 48 (rte p x c) J → CX p x J → Same cXr I J → Q (bI (rtb p x c)) J) : Wi mX11_chooseRoute [.ref 0, .int c] I Q := by
  refine rX11_chooseRoute ⟨fun h2 => ⟨fun h1 => ?_, fun h1 => ?_⟩, fun h2 => ?_⟩
  · refine sX_stops hp hok hb hP hx (sX_fill (stp_ok hp).1 (fun J r s => ?_))
    have := H J (by unfold rte; rw [if_neg h2, if_neg h1]; exact r) (CX_of hk (fun i hi => s i (by rcases hi with e | e | e <;> simp [e]))) (s.mo (by simp))
    unfold rtb at this
    rw [if_neg h2] at this
    exact this
  · refine sX_horse hp hok hb hP hx (fun J r _ s => ?_)
    have := H J (by unfold rte; rw [if_neg h2, if_pos h1]; exact r) (CX_of hk (fun i hi => s i (by rcases hi with e | e | e <;> simp [e]))) (s.mo (by simp))
    unfold rtb at this
    rw [if_neg h2] at this
    exact this
  · refine sX_find hp hok hb hP hx hk (fun J h9 hF s => rX7_copyFrom (fun I1 e1 I2 e2 => ?_))
    have hlen := (frx_ok (x := x) hp).1
    have hr2 : RtX 48 (frx p x) I2 := by
      refine ⟨?_, fun i hi => ?_⟩
      · rw [e2, upA_ne _ _ (by decide), e1, up2_same]; exact hF.2.1
      · rw [e2, show upA I1 49 _ (48 + 1) = _ from if_pos rfl, sb_cpy0 (by omega), e1, up2_cell _ _ _ (by decide)]; exact hF.2.2 i hi
    have o : ∀ i, i ≠ 48 → i ≠ 49 → I2 i = J i := fun i h1 h2 => by rw [e2, upA_ne _ _ h2, e1, up2_cell _ _ _ h1]
    have hc : CX p x I2 := CX_of (Or.inr ⟨h9, hF⟩) (fun i hi => o i (by omega) (by omega))
    have s2 : Same cXr I I2 := by
      refine (s.mo (by simp)).tr ?_
      rw [e2, e1]
      exact (Same.rf.u2 (by simp)).up (by simp)
    have := H I2 (by unfold rte; rw [if_pos h2]; exact hr2) hc s2
    rw [o 50 (by decide) (by decide), hF.1, xv_eq (ffin_le hp hok)]
    unfold rtb at this
    rw [if_pos h2] at this
    have hle := ffin_le hp hok
    refine ⟨fun q => ?_, fun q => ?_⟩
    · rw [decide_eq_false (by omega)] at this; exact this
    · rw [decide_eq_true (by omega)] at this; exact this
theorem sM_layOrder {c : Int32} {Q : Int32 → MI → Prop} (hp : PlOk p) (hok : LdOk p b x) (hb : b ≤ 100000) (hP : PM p I) (hx : LM 274 0 p x I)
    (H : ∀ J, (rtb p x c = true → RtM (rte p x c) J) → SamM cM9 [30, 32] I J → Q (bI (rtb p x c)) J) : Wi mX12_layOrder [.ref 261, .int c] I Q := by
  refine rX12_layOrder ⟨fun h2 => ⟨fun h1 => ?_, fun h1 => ?_⟩, fun h2 => ?_⟩
  · refine sM_byNumber hp hok hb hP hx (fun J r s => ?_)
    have := H J (fun _ => by unfold rte; rw [if_neg h2, if_neg h1]; exact r) (s.mo (by simp) (by simp))
    unfold rtb at this
    rw [if_neg h2] at this
    exact this
  · refine sM_horse hp hok hb hP hx (fun J r s => ?_)
    have := H J (fun _ => by unfold rte; rw [if_neg h2, if_pos h1]; exact r) (s.mo (by simp) (by simp))
    unfold rtb at this
    rw [if_neg h2] at this
    exact this
  · have hle := ffin_le hp hok
    refine sM_fast hp hok hb hP hx (fun hf J s => ⟨rfl, ?_⟩) (fun hf J r _ s => ⟨rfl, ?_⟩)
    · have hb0 : rtb p x c = false := by unfold rtb; rw [if_pos h2]; exact decide_eq_false (by omega)
      have := H J (fun q => by rw [hb0] at q; cases q) s
      rw [hb0] at this
      exact this
    · have hb1 : rtb p x c = true := by unfold rtb; rw [if_pos h2]; exact decide_eq_true hf
      have := H J (fun _ => by unfold rte frx; rw [if_pos h2, if_pos hf]; exact r) s
      rw [hb1] at this
      exact this
end
