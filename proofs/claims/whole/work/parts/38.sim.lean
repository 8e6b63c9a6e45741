/-! the two sides agree -/
abbrev Wd : Type := Pl × Ld × List Ld × (Nat → Option Ld) × Nat × (Nat → Int32)
abbrev wP (w : Wd) : Pl := w.1
abbrev wX (w : Wd) : Ld := w.2.1
abbrev wH (w : Wd) : List Ld := w.2.2.1
abbrev wS (w : Wd) : Nat → Option Ld := w.2.2.2.1
abbrev wN (w : Wd) : Nat := w.2.2.2.2.1
abbrev wG (w : Wd) : Nat → Int32 := w.2.2.2.2.2
def WOk (b : Nat) (w : Wd) : Prop := PlOk (wP w) ∧ LdOk (wP w) b (wX w) ∧ (∀ y, y ∈ wH w → LdOk (wP w) b y) ∧ (∀ j y, j < 2 → wS w j = some y → LdOk (wP w) b y) ∧ wN w ≤ 900 ∧ ∀ j, j < wN w → (wG w j).toInt8.toInt32 = wG w j
def Scr (I : MI) : Prop := I 10 0 = 0 ∧ I 10 1 = 0 ∧ (∀ h, h < 12 → I 15 h = 0 ∧ I 16 h = 0 ∧ I 17 h = 0 ∧ I 18 h = 0) ∧ (∀ j, j < 100 → I 19 j = 0) ∧ I 20 0 = -2 ∧ I 20 1 = 0 ∧ I 20 2 = 0
def SlX (p : Pl) (sn : Nat → Option Ld) (I : MI) : Prop := ∀ j, j < 2 → I 260 j = bI (sn j).isSome ∧ ∀ y, sn j = some y → LX (232 + 14 * j) p y I
def SlM (p : Pl) (sn : Nat → Option Ld) (I : MI) : Prop := ∀ j, j < 2 → I 277 j = bI (sn j).isSome ∧ ∀ y, sn j = some y → LM 276 (332 * j) p y I
def BX (n : Nat) (g : Nat → Int32) (I : MI) : Prop := I 1 1 = nI n ∧ ∀ j, j < n → I 2 j = g j
def BM (n : Nat) (g : Nat → Int32) (I : MI) : Prop := I 261 2 = nI n ∧ ∀ j, j < n → I 262 j = g j
def SX (w : Wd) (I : MI) : Prop := PX 24 (wP w) I ∧ LX 30 (wP w) (wX w) I ∧ HX (wP w) (wH w) I ∧ SlX (wP w) (wS w) I ∧ CX (wP w) (wX w) I ∧ Scr I ∧ BX (wN w) (wG w) I
def SR (w : Wd) (I : MI) : Prop := PM (wP w) I ∧ LM 274 0 (wP w) (wX w) I ∧ HM (wP w) (wH w) I ∧ SlM (wP w) (wS w) I ∧ BM (wN w) (wG w) I
def Sim (b : Nat) (I : MI) : Prop := ∃ w, WOk b w ∧ SX w I ∧ SR w I
theorem SlX_of {p : Pl} {sn : Nat → Option Ld} {I J : MI} (h : SlX p sn I) (e : ∀ c, 232 ≤ c → c ≤ 260 → J c = I c) : SlX p sn J := fun j hj => by
  obtain ⟨h1, h2⟩ := h j hj
  rw [e 260 (by decide) (by decide)]
  exact ⟨h1, fun y hy => LX_of (h2 y hy) (fun i i1 i2 => e i (by omega) (by omega))⟩
theorem SlM_of {p : Pl} {sn : Nat → Option Ld} {I J : MI} (h : SlM p sn I) (e : J 276 = I 276) (e2 : J 277 = I 277) : SlM p sn J := fun j hj => by
  obtain ⟨h1, h2⟩ := h j hj
  rw [e2]
  exact ⟨h1, fun y hy => LM_of (h2 y hy) e⟩
theorem Scr_of {I J : MI} (h : Scr I) (e : ∀ c, c = 10 ∨ (15 ≤ c ∧ c ≤ 20) → J c = I c) : Scr J := by
  unfold Scr
  rw [e 10 (by omega), e 15 (by omega), e 16 (by omega), e 17 (by omega), e 18 (by omega), e 19 (by omega), e 20 (by omega)]
  exact h
theorem BX_of {n : Nat} {g : Nat → Int32} {I J : MI} (h : BX n g I) (e : J 1 = I 1) (e2 : J 2 = I 2) : BX n g J := by
  unfold BX
  rw [e, e2]; exact h
theorem BM_of {n : Nat} {g : Nat → Int32} {I J : MI} (h : BM n g I) (e : J 261 2 = I 261 2) (e2 : J 262 = I 262) : BM n g J := by
  unfold BM
  rw [e, e2]; exact h
/-- cells below 261 are the class's, the others the reference's -/
def XF (I J : MI) : Prop := ∀ c, 261 ≤ c → J c = I c
def MF (I J : MI) : Prop := ∀ c, c < 261 → J c = I c
theorem SX_MF {w : Wd} {I J : MI} (h : SX w I) (f : MF I J) : SX w J := by
  obtain ⟨h1, h2, h3, h4, h5, h6, h7⟩ := h
  exact ⟨PX_of h1 (fun i _ _ => f i (by omega)), LX_of h2 (fun i _ _ => f i (by omega)), HX_of h3 (fun i _ _ => f i (by omega)), SlX_of h4 (fun i _ _ => f i (by omega)), CX_of h5 (fun i _ => f i (by omega)), Scr_of h6 (fun i _ => f i (by omega)), BX_of h7 (f 1 (by decide)) (f 2 (by decide))⟩
theorem SR_XF {w : Wd} {I J : MI} (h : SR w I) (f : XF I J) : SR w J := by
  obtain ⟨h1, h2, h3, h4, h5⟩ := h
  exact ⟨PM_of h1 (fun i _ => f i (by omega)), LM_of h2 (f 274 (by decide)), HM_of h3 (by rw [f 261 (by decide)]) (f 275 (by decide)), SlM_of h4 (f 276 (by decide)) (f 277 (by decide)), BM_of h5 (by rw [f 261 (by decide)]) (f 262 (by decide))⟩
/-- a read of the class: only its scratch cells change -/
theorem SX_sam {cs : List Nat} {w : Wd} {I J : MI} (h : SX w I) (s : Same cs I J) (hc : ∀ c, c ∈ cs → 46 ≤ c ∧ c ≤ 60) (k : CX (wP w) (wX w) J) : SX w J := by
  obtain ⟨h1, h2, h3, h4, h5, h6, h7⟩ := h
  have f : ∀ c, c < 46 ∨ 60 < c → J c = I c := fun c hh => s c (fun q => by have := hc c q; omega)
  exact ⟨PX_of h1 (fun i _ _ => f i (by omega)), LX_of h2 (fun i _ _ => f i (by omega)), HX_of h3 (fun i _ _ => f i (by omega)), SlX_of h4 (fun i _ _ => f i (by omega)), k, Scr_of h6 (fun i _ => f i (by omega)), BX_of h7 (f 1 (by decide)) (f 2 (by decide))⟩
theorem XF_sam {cs : List Nat} {I J : MI} (s : Same cs I J) (hc : ∀ c, c ∈ cs → c < 261) : XF I J := fun c h => s c (fun q => by have := hc c q; omega)
theorem CX_sam {cs : List Nat} {p : Pl} {x : Ld} {I J : MI} (h : CX p x I) (s : Same cs I J) (hc : ∀ c, c ∈ cs → c < 50 ∨ 52 < c) : CX p x J := CX_of h (fun c hh => s c (fun q => by have := hc c q; omega))
theorem SR_sam {cs ks : List Nat} {w : Wd} {I J : MI} (h : SR w I) (s : SamM cs ks I J) (hc : ∀ c, c ∈ cs → 278 ≤ c) (hk : ∀ k, k ∈ ks → k ≠ 2 ∧ k ≠ 24) : SR w J := by
  obtain ⟨h1, h2, h3, h4, h5⟩ := h
  have f : ∀ c, c ≠ 261 → c < 278 → J c = I c := fun c h0 h1 => s.1 c h0 (fun q => by have := hc c q; omega)
  exact ⟨PM_of h1 (fun i _ => f i (by omega) (by omega)), LM_of h2 (f 274 (by decide) (by decide)), HM_of h3 (s.2 24 (fun q => (hk 24 q).2 rfl)) (f 275 (by decide) (by decide)), SlM_of h4 (f 276 (by decide) (by decide)) (f 277 (by decide) (by decide)), BM_of h5 (s.2 2 (fun q => (hk 2 q).1 rfl)) (f 262 (by decide) (by decide))⟩
theorem MF_sam {cs ks : List Nat} {I J : MI} (s : SamM cs ks I J) (hc : ∀ c, c ∈ cs → 261 < c) : MF I J := fun c h => s.1 c (by omega) (fun q => by have := hc c q; omega)
theorem XF.tr {I J K : MI} (h : XF I J) (h2 : XF J K) : XF I K := fun c hc => (h2 c hc).trans (h c hc)
theorem MF.tr {I J K : MI} (h : MF I J) (h2 : MF J K) : MF I K := fun c hc => (h2 c hc).trans (h c hc)
theorem XF.rf {I : MI} : XF I I := fun _ _ => rfl
theorem MF.rf {I : MI} : MF I I := fun _ _ => rfl
/-- a step of either side: from w to w2, with the answer r -/
def StX (μ : mD) (vs : List Value) (w w2 : Wd) (r : Int32) : Prop := ∀ (I : MI) (Q : Int32 → MI → Prop), SX w I → (∀ J, SX w2 J → XF I J → Q r J) → Wi μ vs I Q
def StM (μ : mD) (vs : List Value) (w w2 : Wd) (r : Int32) : Prop := ∀ (I : MI) (Q : Int32 → MI → Prop), SR w I → (∀ J, SR w2 J → MF I J → Q r J) → Wi μ vs I Q
/-- what the law needs of a method -/
def Spp (b : Nat) (μ ν : mD) (vs ws : List Value) : Prop := ∀ I, Sim b I → Wi μ vs I (fun r I1 => Wi ν ws I1 (fun r2 I2 => r = r2 ∧ Sim (b + 1) I2))
theorem stp_of {b : Nat} {μ ν : mD} {vs ws : List Value} (h : ∀ w, WOk b w → ∃ w2 r, WOk (b + 1) w2 ∧ StX μ vs w w2 r ∧ StM ν ws w w2 r) : Spp b μ ν vs ws := by
  intro I hI
  obtain ⟨w, ho, hx, hm⟩ := hI
  obtain ⟨w2, r, ho2, h1, h2⟩ := h w ho
  exact h1 I _ hx (fun J sx fx => h2 J _ (SR_XF hm fx) (fun K sk fk => ⟨rfl, w2, ho2, SX_MF sx fk, sk⟩))
theorem LdOk_up {p : Pl} {b : Nat} {x : Ld} (h : LdOk p b x) : LdOk p (b + 1) x :=
  ⟨Nat.le_succ_of_le h.1, h.2.1, h.2.2.1, h.2.2.2.1, fun a c ha hc => by have := h.2.2.2.2.1 a c ha hc; omega, h.2.2.2.2.2⟩
theorem WOk_up {b : Nat} {w : Wd} (h : WOk b w) : WOk (b + 1) w := ⟨h.1, LdOk_up h.2.1, fun y hy => LdOk_up (h.2.2.1 y hy), fun j y hj hy => LdOk_up (h.2.2.2.1 j y hj hy), h.2.2.2.2.1, h.2.2.2.2.2⟩
/-- a read: nothing changes -/
theorem stp_rd {b : Nat} {μ ν : mD} {vs ws : List Value} (h : ∀ w, WOk b w → ∃ r, StX μ vs w w r ∧ StM ν ws w w r) : Spp b μ ν vs ws :=
  stp_of (fun w ho => by obtain ⟨r, h1, h2⟩ := h w ho; exact ⟨w, r, WOk_up ho, h1, h2⟩)
/-- the reference's flag -/
theorem SR_fl {w : Wd} {I J : MI} {y : Int32} (h : SR w I) (e : J = up2 I 261 0 y) : SR w J ∧ MF I J := by
  have s : SamM [] [0] I J := by rw [e]; exact SamM.rf.fk (by simp)
  exact ⟨SR_sam h s (by simp) (by simp), MF_sam s (by simp)⟩
