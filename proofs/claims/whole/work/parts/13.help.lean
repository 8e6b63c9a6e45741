/-! helpers: numbers and cells -/
theorem cl {n : Nat} (h : n < 2147483648) : (nI n).toNatClampNeg = n := nI_clamp h
theorem ci {n N : Nat} (h : n < N) (hN : N < 2147483648) : vp_in (nI n) N := vp_in_nI h hN
theorem ile {a b : Nat} (ha : a < 2147483648) (hb : b < 2147483648) : nI a ≤ nI b ↔ a ≤ b := nI_leI ha hb
theorem ilt {a b : Nat} (ha : a < 2147483648) (hb : b < 2147483648) : nI a < nI b ↔ a < b := nI_ltI ha hb
theorem ieq {a b : Nat} (ha : a < 2147483648) (hb : b < 2147483648) : nI a = nI b ↔ a = b := nI_eq ha hb
theorem lt_nI (n : Nat) : (OfNat.ofNat n : Int32) = nI n := rfl
theorem nI_10 : (10 : Int32) = nI 10 := rfl
theorem nI_one : (1 : Int32) = nI 1 := rfl
theorem nI_zero : (0 : Int32) = nI 0 := rfl
theorem clz : (0 : Int32).toNatClampNeg = 0 := rfl
theorem nI_max : (2147483647 : Int32) = nI 2147483647 := rfl
theorem nI_s (n : Nat) : nI n + 1 = nI (n + 1) := nI_1 n
theorem up2_same (I : MI) (c k : Nat) (x : Int32) : up2 I c k x c k = x := by simp [up2, upA, upd]
theorem up2_slot (I : MI) {c k j : Nat} (x : Int32) (h : j ≠ k) : up2 I c k x c j = I c j := by simp [up2, upA, upd, h]
theorem up2_cell (I : MI) {c i : Nat} (k : Nat) (x : Int32) (h : i ≠ c) : up2 I c k x i = I i := upA_ne I _ h
theorem up2_upA (I : MI) (c k : Nat) (f : Nat → Int32) (x : Int32) : up2 (upA I c f) c k x = upA I c (upd f k x) := by
  funext i
  by_cases h : i = c
  · subst h; simp [up2, upA]
  · simp [up2, upA, h]
theorem upA_upA (I : MI) (c : Nat) (f g : Nat → Int32) : upA (upA I c f) c g = upA I c g := by
  funext i
  by_cases h : i = c
  · subst h; simp [upA]
  · simp [upA, h]
theorem upA_id (I : MI) (c : Nat) : upA I c (I c) = I := by
  funext i
  by_cases h : i = c
  · subst h; simp [upA]
  · simp [upA, h]
theorem upd_same (f : Nat → Int32) (k : Nat) (x : Int32) : upd f k x k = x := pk_us
theorem upd_ne (f : Nat → Int32) {k j : Nat} (x : Int32) (h : j ≠ k) : upd f k x j = f j := pk_un h
/-- a finite minute, or never, as the class holds it and as the reference does -/
def xv (d : Nat) : Int32 := if d = INF then 2147483647 else nI d
def mv (d : Nat) : Int32 := nI d
theorem xv_fin {d : Nat} (h : d < INF) : xv d = nI d := if_neg (by omega)
theorem xv_inf : xv INF = 2147483647 := if_pos rfl
theorem xv_eq {d : Nat} (h : d ≤ INF) : xv d = 2147483647 ↔ d = INF := by
  constructor
  · intro he
    rcases Nat.lt_or_ge d INF with q | q
    · rw [xv_fin q, nI_max, ieq (by have : INF = 1000000000 := rfl; omega) (by decide)] at he
      have : INF = 1000000000 := rfl
      omega
    · omega
  · intro he; rw [he, xv_inf]
theorem xv_lt {a b : Nat} (ha : a < INF) (hb : b ≤ INF) : nI a < xv b ↔ a < b := by
  have hI : INF = 1000000000 := rfl
  rcases Nat.lt_or_ge b INF with q | q
  · rw [xv_fin q, ilt (by omega) (by omega)]
  · have : b = INF := by omega
    subst this
    rw [xv_inf, nI_max, ilt (by omega) (by decide)]
    omega
/-- Arrays.fill over one of the rows -/
theorem fill_loop (μ : mD) (c N : Nat) (x : Int32) (Lb : Int32 → Int32 → Int32 → MI → (MI → Prop) → Prop) (hN : N < 2147483648)
    (hr : ∀ {l2 : Int32} {I : MI} {Q : MI → Prop}, ((nI N ≤ l2 → Q I) ∧ (¬ nI N ≤ l2 → vp_in l2 N ∧ ∀ I1, I1 = up2 I c l2.toNatClampNeg x → Lb x (l2 + 1) (nI N) I1 Q)) → Lb x l2 (nI N) I Q) {I : MI} {Q : MI → Prop} (H : ∀ f, (∀ v, v < N → f v = x) → Q (upA I c f)) :
    ∀ (m i : Nat) (f : Nat → Int32), m + i = N → (∀ v, v < i → f v = x) → Lb x (nI i) (nI N) (upA I c f) Q := by
  intro m
  induction m with
  | zero =>
    intro i f hm hf
    refine hr ⟨fun _ => H f (fun v hv => hf v (by omega)), fun h => absurd ?_ h⟩
    rw [ile hN (by omega)]; omega
  | succ m ih =>
    intro i f hm hf
    refine hr ⟨fun h => ?_, fun h => ⟨ci (by omega) hN, fun I1 e1 => ?_⟩⟩
    · rw [ile hN (by omega)] at h; omega
    · rw [e1, cl (by omega), up2_upA, nI_s]
      refine ih (i + 1) _ (by omega) (fun v hv => ?_)
      by_cases he : v = i
      · subst he; exact upd_same _ _ _
      · rw [upd_ne _ _ he]; exact hf v (by omega)
theorem sJ_fill46 {x : Int32} {I : MI} {Q : MI → Prop} (H : ∀ f, (∀ v, v < 10 → f v = x) → Q (upA I 46 f)) : Wv mJ7_fill_53178 [.ref 46, .int x] I Q := by
  refine rJ7_fill_53178_46 ?_
  have := fill_loop mJ7_fill_53178 46 10 x (fun a b c I Q => LJ7_fill_53178_46_5 a b c I Q) (by decide) (fun h => rJ7_fill_53178_46_5 h) H 10 0 (I 46) rfl (fun v hv => absurd hv (Nat.not_lt_zero v))
  rw [upA_id] at this
  exact this
theorem sJ_fill47 {x : Int32} {I : MI} {Q : MI → Prop} (H : ∀ f, (∀ v, v < 10 → f v = x) → Q (upA I 47 f)) : Wv mJ7_fill_53178 [.ref 47, .int x] I Q := by
  refine rJ7_fill_53178_47 ?_
  have := fill_loop mJ7_fill_53178 47 10 x (fun a b c I Q => LJ7_fill_53178_47_5 a b c I Q) (by decide) (fun h => rJ7_fill_53178_47_5 h) H 10 0 (I 47) rfl (fun v hv => absurd hv (Nat.not_lt_zero v))
  rw [upA_id] at this
  exact this
theorem sJ_fill53 {x : Int32} {I : MI} {Q : MI → Prop} (H : ∀ f, (∀ v, v < 10 → f v = x) → Q (upA I 53 f)) : Wv mJ7_fill_53178 [.ref 53, .int x] I Q := by
  refine rJ7_fill_53178_53 ?_
  have := fill_loop mJ7_fill_53178 53 10 x (fun a b c I Q => LJ7_fill_53178_53_5 a b c I Q) (by decide) (fun h => rJ7_fill_53178_53_5 h) H 10 0 (I 53) rfl (fun v hv => absurd hv (Nat.not_lt_zero v))
  rw [upA_id] at this
  exact this
theorem sJ_fill54 {x : Int32} {I : MI} {Q : MI → Prop} (H : ∀ f, (∀ v, v < 5120 → f v = x) → Q (upA I 54 f)) : Wv mJ7_fill_53178 [.ref 54, .int x] I Q := by
  refine rJ7_fill_53178_54 ?_
  have := fill_loop mJ7_fill_53178 54 5120 x (fun a b c I Q => LJ7_fill_53178_54_5 a b c I Q) (by decide) (fun h => rJ7_fill_53178_54_5 h) H 5120 0 (I 54) rfl (fun v hv => absurd hv (Nat.not_lt_zero v))
  rw [upA_id] at this
  exact this
theorem sJ_fill55 {x : Int32} {I : MI} {Q : MI → Prop} (H : ∀ f, (∀ v, v < 5120 → f v = x) → Q (upA I 55 f)) : Wv mJ7_fill_53178 [.ref 55, .int x] I Q := by
  refine rJ7_fill_53178_55 ?_
  have := fill_loop mJ7_fill_53178 55 5120 x (fun a b c I Q => LJ7_fill_53178_55_5 a b c I Q) (by decide) (fun h => rJ7_fill_53178_55_5 h) H 5120 0 (I 55) rfl (fun v hv => absurd hv (Nat.not_lt_zero v))
  rw [upA_id] at this
  exact this
