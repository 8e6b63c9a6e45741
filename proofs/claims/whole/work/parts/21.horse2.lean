/-! the horse, in both -/
theorem xv_le {a b : Nat} (ha : a ≤ INF) (hb : b ≤ INF) : xv a ≤ xv b ↔ a ≤ b := by
  have hI : INF = 1000000000 := rfl
  rcases Nat.lt_or_ge a INF with q | q <;> rcases Nat.lt_or_ge b INF with r | r
  · rw [xv_fin q, xv_fin r, ile (by omega) (by omega)]
  · have : b = INF := by omega
    subst this; rw [xv_fin q, xv_inf, nI_max, ile (by omega) (by decide)]; omega
  · have : a = INF := by omega
    subst this; rw [xv_fin r, xv_inf, nI_max, ile (by decide) (by omega)]; omega
  · have h1 : a = INF := by omega
    have h2 : b = INF := by omega
    rw [h1, h2, xv_inf, nI_max, ile (by decide) (by decide)]; omega
theorem sub_pos {a b : Nat} (ha : a < 1073741824) (hb : b < 1073741824) : 0 < nI a - nI b ↔ b < a := by
  rw [Int32.lt_iff_toInt_lt, pk_sub_toInt ha hb]
  show (0 : Int) < _ ↔ _
  omega
theorem sub_zero {a b : Nat} (ha : a < 1073741824) (hb : b < 1073741824) : nI a - nI b = 0 ↔ a = b := by
  rw [← Int32.toInt_inj, pk_sub_toInt ha hb]
  show (a : Int) - b = 0 ↔ _
  omega
theorem ne_bit {s v : Nat} (hv : v < 31) (q : ¬ nI s &&& ((1 : Int32) <<< (nI v &&& 31)) = 0) : s.testBit v = true := by
  cases h : s.testBit v with
  | false => exact absurd ((b_test hv).mpr h) q
  | true => rfl
theorem hpick_zero (p : Pl) (x : Ld) (a : Nat) : hpick p x a 0 = none := by
  cases h : hpick p x a 0 with
  | none => rfl
  | some b => have := (hsel_in _ _ h).2; simp at this
section
variable {p : Pl} {x : Ld} {b : Nat} {I : MI}
theorem hpick_some {a s : Nat} (hs : SetOk p s) (h0 : s ≠ 0) : ∃ c, hpick p x a s = some c ∧ s.testBit c = true ∧ 1 ≤ c ∧ c < pNc p ∧ c < 10 := by
  cases h : hpick p x a s with
  | none =>
    have hz := hsel_none _ h
    exfalso
    apply h0
    rw [set_zero hs.1]
    unfold bits
    have : ∀ n, n ≤ 10 → cnt (fun v => s.testBit v) n = 0 := by
      intro n
      induction n with
      | zero => intro _; rfl
      | succ n ih => intro hn; simp only [cnt, hz n (by omega), ih (by omega)]; rfl
    exact this 10 (Nat.le_refl _)
  | some c =>
    have hi := hsel_in _ _ h
    have := hs.2 c hi.2
    exact ⟨c, rfl, hi.2, this.1, this.2, hi.1⟩
theorem sX_choice {a s c : Nat} {Q : Int32 → MI → Prop} (hp : PlOk p) (hok : LdOk p b x) (hb : b ≤ 100000) (hP : PX 24 p I) (hx : LX 30 p x I) (ha : a < pNc p) (hs : SetOk p s) (hc : hpick p x a s = some c) (H : ∀ f, Q (nI c) (upA I 46 f)) : Wi mX11_horseChoice [.ref 0, .int (nI a), .int (nI s)] I Q := by
  have hnc := hp.2.1
  have hn2 := hp.1
  have e4 : I 24 4 = nI (pSt p) := hP.2.2.2.2.1
  have hst := hp.2.2.2.2.2.2.1
  have hI : INF = 1000000000 := rfl
  refine rX11_horseChoice ?_
  rw [e4]
  refine sX_arrivals (nt_ok hp hok) (NX_PL hP hx) ha (by omega) (fun f hf => ⟨rfl, ?_⟩)
  have hD : ∀ v, v < pNc p → ea (nt p x) a (pSt p) v ≤ INF := (ea_is (nt_ok hp hok) (by omega)).2.2.2
  have g0 : (upA I 46 f) 24 0 = nI (pNc p) := by rw [upA_ne I f (by decide)]; exact hP.1
  have g39 : ∀ d, d < pNc p → (upA I 46 f) 39 (10 * a + d) = nI (lHa x (10 * a + d)) := by
    intro d h2; rw [upA_ne I f (by decide)]; exact hx.2.2.2.2.2.1 a d ha h2
  have g46 : ∀ v, v < pNc p → (upA I 46 f) 46 v = xv (ea (nt p x) a (pSt p) v) := by
    intro v hv; rw [show (upA I 46 f) 46 = f from if_pos rfl]; exact hf v hv
  have hH := H f
  have hh : ∀ d, d < pNc p → lHa x (10 * a + d) < 1073741824 := fun d hd => by have := hok.2.2.2.2.1 a d ha hd; omega
  have e1 : ∀ w, nI a * (10 : Int32) + nI w = nI (10 * a + w) := by
    intro w; rw [show nI a * (10 : Int32) = nI (a * 10) from pk_mul a 10, nI_add, Nat.mul_comm]
  unfold hpick at hc
  rw [hsel_nc hp hs] at hc
  generalize ea (nt p x) a (pSt p) = D at hD g46 hc
  generalize upA I 46 f = J at hH g0 g39 g46
  have go : ∀ (m v : Nat), m + v = pNc p → 1 ≤ v → LX11_horseChoice_22 (nI a) (nI s) (nI ((hsel s (fun v => lHa x (10 * a + v)) D v).getD 0)) (nI v) J Q := by
    intro m
    induction m with
    | zero =>
      intro v hm h1
      have : v = pNc p := by omega
      subst this
      refine rX11_horseChoice_22 ⟨fun _ => ?_, fun q => absurd (by rw [g0]; exact (ile (by omega) (by omega)).mpr (Nat.le_refl _)) q⟩
      rw [hc]; exact hH
    | succ m ih =>
      intro v hm h1
      have next := ih (v + 1) (by omega) (by omega)
      simp only [hsel] at next
      refine rX11_horseChoice_22 ⟨fun q => ?_, fun _ => ⟨fun q => ?_, fun q => ?_⟩⟩
      · rw [g0, ile (by omega) (by omega)] at q; omega
      · have ht := ne_bit (by omega) q
        rw [if_pos ht] at next
        rw [e1, e1]
        cases ho : hsel s (fun v => lHa x (10 * a + v)) D v with
        | none =>
          rw [ho] at next
          refine ⟨ci (by omega) (by decide), ci (by show 10 * a + 0 < 100; omega) (by decide), fun x1 hx1 => ⟨fun _ => rX11_horseChoice_105 (rX11_horseChoice_109 (by rw [nI_s]; exact next)), fun q => absurd rfl q⟩⟩
        | some c' =>
          have hcc := hsel_in v c' ho
          have hc1 := hs.2 c' hcc.2
          rw [ho] at next
          dsimp only [Option.getD] at next ⊢
          refine ⟨ci (by omega) (by decide), ci (by omega) (by decide), fun x1 hx1 => ⟨fun q => ?_, fun _ => ?_⟩⟩
          · rw [nI_zero, ieq (by omega) (by decide)] at q; omega
          · rw [cl (by omega), cl (by omega), g39 v (by omega), g39 c' (by omega)] at hx1
            subst hx1
            rw [sub_pos (hh v (by omega)) (hh c' (by omega)), sub_zero (hh v (by omega)) (hh c' (by omega))]
            refine ⟨fun q => rX11_horseChoice_105 (rX11_horseChoice_109 ?_), fun q => ⟨fun r => rX11_horseChoice_109 ?_, fun r => ⟨ci (by omega) (by decide), ci (by omega) (by decide), fun z => rX11_horseChoice_109 ?_, fun z => rX11_horseChoice_105 (rX11_horseChoice_109 ?_)⟩⟩⟩
            · rw [if_pos (Or.inl q)] at next; rw [nI_s]; exact next
            · rw [if_neg (by rintro (h | h); exact q h; exact r h.1)] at next; rw [nI_s]; exact next
            · rw [cl (by omega), cl (by omega), g46 v (by omega), g46 c' (by omega), xv_le (hD _ (by omega)) (hD _ (by omega))] at z
              rw [if_neg (by rintro (h | h) <;> omega)] at next; rw [nI_s]; exact next
            · rw [cl (by omega), cl (by omega), g46 v (by omega), g46 c' (by omega), xv_le (hD _ (by omega)) (hD _ (by omega))] at z
              rw [if_pos (Or.inr ⟨r, by omega⟩)] at next; rw [nI_s]; exact next
      · rw [if_neg (by rw [(b_test (by omega)).mp q]; decide)] at next
        exact rX11_horseChoice_109 (by rw [nI_s]; exact next)
  have h1 := go (pNc p - 1) 1 (by omega) (by omega)
  simp only [hsel] at h1
  have h0 : s.testBit 0 = false := by
    cases h : s.testBit 0 with
    | false => rfl
    | true => have := (hs.2 0 h).1; omega
  rw [h0] at h1
  exact h1
theorem sX_horse {Q : MI → Prop} (hp : PlOk p) (hok : LdOk p b x) (hb : b ≤ 100000) (hP : PX 24 p I) (hx : LX 30 p x I) (H : ∀ I1, RtX 48 (hord p x 10 0 (stp p x (pHc p))) I1 → (hord p x 10 0 (stp p x (pHc p))).length ≤ 10 → Same [46, 48, 49] I I1 → Q I1) : Wv mX11_chooseByHabit [.ref 0] I Q := by
  have hnc := hp.2.1
  have hn2 := hp.1
  refine rX11_chooseByHabit (sX_clear48 (fun J r0 s0 => ?_))
  refine sX_stops hp hok hb (PX_sam hP s0 (by simp)) (LX_sam hx s0 (by simp)) ?_
  have s0' : Same [46, 48, 49] I J := s0.mo (by simp)
  have go : ∀ (n a s : Nat) (r : List Nat) (J : MI), bits s ≤ n → n + r.length = 10 → SetOk p s → a < pNc p → RtX 48 r J → Same [46, 48, 49] I J → (∀ I1, RtX 48 (r ++ hord p x n a s) I1 → (r ++ hord p x n a s).length ≤ 10 → Same [46, 48, 49] I I1 → Q I1) → LX11_chooseByHabit_19 (nI s) (nI a) (nI r.length) J Q := by
    intro n
    induction n with
    | zero =>
      intro a s r J hbt hl hs ha hr hsm hH
      refine rX11_chooseByHabit_19 ⟨fun _ => hH J (by rw [show hord p x 0 a s = [] from rfl, List.append_nil]; exact hr) (by rw [show hord p x 0 a s = [] from rfl, List.append_nil]; omega) hsm, fun q => absurd ?_ q⟩
      rw [nI_10, ile (by decide) (by omega)]; omega
    | succ n ih =>
      intro a s r J hbt hl hs ha hr hsm hH
      by_cases h0 : s = 0
      · subst h0
        have he : hord p x (n + 1) a 0 = [] := by simp only [hord, hpick_zero]
        rw [he, List.append_nil] at hH
        exact rX11_chooseByHabit_19 ⟨fun _ => hH J hr (by omega) hsm, fun _ => ⟨fun _ => hH J hr (by omega) hsm, fun q => absurd rfl q⟩⟩
      · obtain ⟨c, h1, h2, h3, h4, h5⟩ := hpick_some (x := x) (a := a) hs h0
        have he : hord p x (n + 1) a s = c :: hord p x n c (clr s c) := by simp only [hord, h1]
        refine rX11_chooseByHabit_19 ⟨fun q => ?_, fun _ => ⟨fun q => ?_, fun _ => ?_⟩⟩
        · rw [nI_10, ile (by decide) (by omega)] at q; omega
        · rw [nI_zero, ieq (by have := hs.1; omega) (by decide)] at q; exact absurd q h0
        · refine sX_choice hp hok hb (PX_sam hP hsm (by simp)) (LX_sam hx hsm (by simp)) ha hs h1 (fun f => ?_)
          have hr' : RtX 48 r (upA J 46 f) := by unfold RtX; rw [upA_ne J f (by decide), upA_ne J f (by decide)]; exact hr
          refine sX_add48 hr' (by omega) (fun J2 hr2 s2 => ?_)
          rw [b_clr (by have := hs.1; omega) (by omega), nI_s]
          have hcb := clr_bits h5 h2
          have := ih c (clr s c) (r ++ [c]) J2 (by omega) (by simp; omega) (clr_ok hs) h4 hr2 ((hsm.up (by simp)).tr (s2.mo (by simp))) (by rw [List.append_assoc]; rw [he] at hH; exact hH)
          rw [show (r ++ [c]).length = r.length + 1 by simp] at this
          exact this
  have hb9 := bits_le hp (stp_ok (x := x) hp)
  exact go 10 0 (stp p x (pHc p)) [] J (by omega) rfl (stp_ok hp) (by omega) r0 s0' (fun I1 h1 h2 h3 => H I1 h1 h2 h3)
theorem sM_habit {a c : Nat} {Q : Int32 → MI → Prop} (hp : PlOk p) (hx : LM 274 0 p x I) (ha : a < pNc p) (hc : c < pNc p) (H : Q (nI (lHa x (10 * a + c))) I) : Wi mX12_habitOf [.ref 261, .int (nI a), .int (nI c)] I Q := by
  have hnc := hp.2.1
  have e : (193 : Int32) + (10 : Int32) * nI a + nI c = nI (193 + (10 * a + c)) := by
    rw [show (10 : Int32) * nI a = nI (10 * a) from pk_mul 10 a, show (193 : Int32) + nI (10 * a) = nI (193 + 10 * a) from nI_add 193 _, nI_add, Nat.add_assoc]
  refine rX12_habitOf ?_
  rw [e, cl (by omega)]
  refine ⟨ci (by omega) (by decide), ?_⟩
  have := hx.2.2.2.2.2.2.1 a c ha hc
  rw [Nat.zero_add] at this
  rw [this]; exact H
/-- the reference's best: none is minus one -/
def obM : Option Nat → Int32
  | none => -1
  | some c => nI c
theorem ne_sh {s v : Nat} (hs : s < 2147483648) (hv : v < 31) (q : ¬ (nI s >>> (nI v &&& 31)) &&& (1 : Int32) = 0) : s.testBit v = true := by
  cases h : s.testBit v with
  | false => exact absurd (by rw [b_shr1 hs hv, h]; rfl) q
  | true => rfl
theorem eq_sh {s v : Nat} (hs : s < 2147483648) (hv : v < 31) (q : (nI s >>> (nI v &&& 31)) &&& (1 : Int32) = 0) : s.testBit v = false := by
  cases h : s.testBit v with
  | false => rfl
  | true => rw [b_shr1 hs hv, h] at q; exact absurd q (by decide)
theorem in27 : vp_in (2 : Int32) 7 := ci (n := 2) (by decide) (by decide)
theorem RtM_add {r : List Nat} {v : Nat} {I I1 I2 : MI} (hr : RtM r I) (hl : r.length < 10) (e1 : I1 = up2 I 280 r.length (nI v)) (e2 : I2 = up2 I1 261 30 (I1 261 30 + 1)) : RtM (r ++ [v]) I2 := by
  subst e1; subst e2
  refine ⟨?_, fun i hi => ?_⟩
  · rw [up2_same, up2_cell _ _ _ (by decide), hr.1, nI_s]; simp
  · rw [up2_cell _ _ _ (by decide), getD_app]
    simp at hi
    by_cases h : i = r.length
    · subst h; rw [up2_same, if_neg (by omega), if_pos rfl]
    · rw [up2_slot _ _ h, if_pos (by omega)]; exact hr.2 i (by omega)
theorem sM_hscan {a s c : Nat} {Q : MI → Prop} (hp : PlOk p) (hok : LdOk p b x) (hb : b ≤ 100000) (hx : LM 274 0 p x I) (ha : a < pNc p) (hs : SetOk p s) (hc : hpick p x a s = some c) (hA : AM (nt p x) (ea (nt p x) a (pSt p)) (I 278))
    (H : LX12_layHorse_32 (nI s) (nI a) (nI c) (nI 10) I Q) : LX12_layHorse_32 (nI s) (nI a) (-1) 0 I Q := by
  have hnc := hp.2.1
  have hst := hp.2.2.2.2.2.2.1
  have hI : INF = 1000000000 := rfl
  have hs1 := hs.1
  have hD : ∀ v, v < pNc p → ea (nt p x) a (pSt p) v ≤ INF := (ea_is (nt_ok hp hok) (by omega)).2.2.2
  have g46 : ∀ v, v < pNc p → I 278 v = nI (ea (nt p x) a (pSt p) v) := hA
  have hh : ∀ d, d < pNc p → lHa x (10 * a + d) < 1073741824 := fun d hd => by have := hok.2.2.2.2.1 a d ha hd; omega
  unfold hpick at hc
  generalize ea (nt p x) a (pSt p) = D at hD g46 hc
  have go : ∀ (m v : Nat), m + v = 10 → LX12_layHorse_32 (nI s) (nI a) (obM (hsel s (fun v => lHa x (10 * a + v)) D v)) (nI v) I Q := by
    intro m
    induction m with
    | zero =>
      intro v hm
      have : v = 10 := by omega
      subst this
      rw [hc]; exact H
    | succ m ih =>
      intro v hm
      have next := ih (v + 1) (by omega)
      simp only [hsel] at next
      refine rX12_layHorse_32 ⟨fun q => ?_, fun _ => ⟨fun q => ?_, fun q => ?_⟩⟩
      · rw [nI_10, ile (by decide) (by omega)] at q; omega
      · have ht := ne_sh (by omega) (by omega) q
        have hv := hs.2 v ht
        rw [if_pos ht] at next
        cases ho : hsel s (fun v => lHa x (10 * a + v)) D v with
        | none =>
          rw [ho] at next
          exact ⟨fun _ => rX12_layHorse_103 (rX12_layHorse_106 (by rw [nI_s]; exact next)), fun q => absurd (by decide) q⟩
        | some c' =>
          have hcc := hsel_in v c' ho
          have hc1 := hs.2 c' hcc.2
          rw [ho] at next
          dsimp only [obM] at next ⊢
          refine ⟨fun q => absurd q (nI_pos (by omega)), fun _ => sM_habit hp hx ha hv.2 (sM_habit hp hx ha hc1.2 ?_)⟩
          rw [ilt (by have := hh c' hc1.2; omega) (by have := hh v hv.2; omega)]
          refine ⟨fun q => rX12_layHorse_103 (rX12_layHorse_106 ?_), fun q => sM_habit hp hx ha hv.2 (sM_habit hp hx ha hc1.2 ?_)⟩
          · rw [if_pos (Or.inl q)] at next; rw [nI_s]; exact next
          · rw [ieq (by have := hh v hv.2; omega) (by have := hh c' hc1.2; omega)]
            refine ⟨fun r => rX12_layHorse_106 ?_, fun r => ⟨ci (by omega) (by decide), ci (by omega) (by decide), fun z => rX12_layHorse_106 ?_, fun z => rX12_layHorse_103 (rX12_layHorse_106 ?_)⟩⟩
            · rw [if_neg (by rintro (h | h); exact q h; exact r h.1)] at next; rw [nI_s]; exact next
            · have d1 := hD v (by omega)
              have d2 := hD c' (by omega)
              rw [cl (by omega), cl (by omega), g46 v (by omega), g46 c' (by omega), ile (by omega) (by omega)] at z
              rw [if_neg (by rintro (h | h) <;> omega)] at next; rw [nI_s]; exact next
            · have d1 := hD v (by omega)
              have d2 := hD c' (by omega)
              rw [cl (by omega), cl (by omega), g46 v (by omega), g46 c' (by omega), ile (by omega) (by omega)] at z
              rw [if_pos (Or.inr ⟨r, by omega⟩)] at next; rw [nI_s]; exact next
      · rw [if_neg (by rw [eq_sh (by omega) (by omega) q]; decide)] at next
        exact rX12_layHorse_106 (by rw [nI_s]; exact next)
  exact go 10 0 rfl
theorem sM_horse {Q : MI → Prop} (hp : PlOk p) (hok : LdOk p b x) (hb : b ≤ 100000) (hP : PM p I) (hx : LM 274 0 p x I) (H : ∀ I1, RtM (hord p x 10 0 (stp p x (pHc p))) I1 → SamM [278, 279, 280] [30] I I1 → Q I1) : Wv mX12_layHorse [.ref 261] I Q := by
  have hnc := hp.2.1
  have hn2 := hp.1
  have hst := hp.2.2.2.2.2.2.1
  refine rX12_layHorse (sM_stops hp hok hb hP hx (fun J e => ?_))
  have s0 : SamM [278, 279, 280] [30] I J := by rw [e]; exact SamM.rf.fk (by simp)
  have r0 : RtM [] J := ⟨by rw [e, up2_same]; rfl, fun i hi => absurd hi (Nat.not_lt_zero i)⟩
  have go : ∀ (n a s : Nat) (r : List Nat) (J : MI), bits s ≤ n → n + r.length ≤ 10 → SetOk p s → a < pNc p → RtM r J → SamM [278, 279, 280] [30] I J → (∀ I1, RtM (r ++ hord p x n a s) I1 → SamM [278, 279, 280] [30] I I1 → Q I1) → LX12_layHorse_12 (nI s) (nI a) J Q := by
    intro n
    induction n with
    | zero =>
      intro a s r J hbt hl hs ha hr hsm hH
      have h0 : s = 0 := (set_zero hs.1).mpr (by omega)
      subst h0
      exact rX12_layHorse_12 ⟨fun _ => hH J (by rw [show hord p x 0 a 0 = [] from rfl, List.append_nil]; exact hr) hsm, fun q => absurd rfl q⟩
    | succ n ih =>
      intro a s r J hbt hl hs ha hr hsm hH
      by_cases h0 : s = 0
      · subst h0
        have he : hord p x (n + 1) a 0 = [] := by simp only [hord, hpick_zero]
        rw [he, List.append_nil] at hH
        exact rX12_layHorse_12 ⟨fun _ => hH J hr hsm, fun q => absurd rfl q⟩
      · obtain ⟨c, h1, h2, h3, h4, h5⟩ := hpick_some (x := x) (a := a) hs h0
        have he : hord p x (n + 1) a s = c :: hord p x n c (clr s c) := by simp only [hord, h1]
        have hPJ := PM_sam hP hsm (by simp)
        have hxJ := LM_sam hx hsm (by decide) (by simp)
        refine rX12_layHorse_12 ⟨fun q => ?_, fun _ => ⟨in27, ?_⟩⟩
        · rw [nI_zero, ieq (by have := hs.1; omega) (by decide)] at q; exact absurd q h0
        · rw [show (2 : Int32).toNatClampNeg = 2 from rfl, hPJ.2.2.1]
          refine sM_lay (nt_ok hp hok) (NM_PL hPJ hxJ) ha (by omega) (fun f g hA => ?_)
          have hm : SamM [278, 279, 280] [30] I (mem2 J f g) := hsm.m2 (by simp) (by simp)
          have hr' : RtM r (mem2 J f g) := by
            unfold RtM mem2
            rw [upA_ne _ g (by decide), upA_ne _ f (by decide), upA_ne _ g (by decide), upA_ne _ f (by decide)]; exact hr
          refine sM_hscan (c := c) hp hok hb (LM_sam hx hm (by decide) (by simp)) ha hs h1 (by
            unfold mem2
            rw [upA_ne _ g (by decide), show upA J 278 f 278 = f from if_pos rfl]; exact hA) ?_
          refine rX12_layHorse_32 ⟨fun _ => ?_, fun q => absurd (by rw [nI_10, ile (by decide) (by decide)]; omega) q⟩
          rw [hr'.1, cl (by omega)]
          refine ⟨ci (by omega) (by decide), fun J2 e2 J3 e3 => ?_⟩
          have hr3 := RtM_add hr' (by omega) e2 e3
          have hm3 : SamM [278, 279, 280] [30] I J3 := by subst e2; subst e3; exact (hm.u2 (by simp) (by decide)).fk (by simp)
          rw [b_clr (by have := hs.1; omega) (by omega)]
          have hcb := clr_bits h5 h2
          exact ih c (clr s c) (r ++ [c]) J3 (by omega) (by simp; omega) (clr_ok hs) h4 hr3 hm3 (by rw [List.append_assoc]; rw [he] at hH; exact hH)
  have hb9 := bits_le hp (stp_ok (x := x) hp)
  exact go 10 0 (stp p x (pHc p)) [] J (by omega) (by decide) (stp_ok hp) (by omega) r0 s0 (fun I1 h1 h3 => H I1 h1 h3)
/-! by number -/
def numl (s : Nat) : Nat → List Nat
  | 0 => []
  | n + 1 => if s.testBit n then numl s n ++ [n] else numl s n
theorem numl_le (s : Nat) : ∀ n, (numl s n).length ≤ n
  | 0 => Nat.le_refl _
  | n + 1 => by
    have := numl_le s n
    simp only [numl]
    split
    · simp; omega
    · omega
theorem sX_fill {s : Nat} {Q : MI → Prop} (hs : s < 1024) (H : ∀ I1, RtX 48 (numl s 10) I1 → Same [48, 49] I I1 → Q I1) : Wv mX7_fillByNumber [.ref 48, .int (nI s)] I Q := by
  refine rX7_fillByNumber (sX_clear48 (fun J r0 s0 => ?_))
  have go : ∀ (m v : Nat) (J : MI), m + v = 10 → RtX 48 (numl s v) J → Same [48, 49] I J → LX7_fillByNumber_6 (nI s) (nI v) J Q := by
    intro m
    induction m with
    | zero =>
      intro v J hm hr hsm
      have : v = 10 := by omega
      subst this
      exact rX7_fillByNumber_6 ⟨fun _ => H J hr hsm, fun q => absurd (by rw [nI_10, ile (by decide) (by decide)]; omega) q⟩
    | succ m ih =>
      intro v J hm hr hsm
      have hl := numl_le s v
      refine rX7_fillByNumber_6 ⟨fun q => ?_, fun _ => ⟨fun q => rX7_fillByNumber_25 ?_, fun q => ?_⟩⟩
      · rw [nI_10, ile (by decide) (by omega)] at q; omega
      · rw [nI_s]
        exact ih (v + 1) J (by omega) (by simp only [numl]; rw [if_neg (by rw [(b_test (by omega)).mp q]; decide)]; exact hr) hsm
      · have ht := ne_bit (by omega) q
        refine sX_add48 hr (by omega) (fun J2 hr2 s2 => rX7_fillByNumber_25 ?_)
        rw [nI_s]
        exact ih (v + 1) J2 (by omega) (by simp only [numl]; rw [if_pos ht]; exact hr2) (hsm.tr s2)
  exact go 10 0 J rfl r0 s0
theorem sM_byNumber {Q : MI → Prop} (hp : PlOk p) (hok : LdOk p b x) (hb : b ≤ 100000) (hP : PM p I) (hx : LM 274 0 p x I) (H : ∀ I1, RtM (numl (stp p x (pHc p)) 10) I1 → SamM [280] [30] I I1 → Q I1) : Wv mX12_layByNumber [.ref 261] I Q := by
  refine rX12_layByNumber (sM_stops hp hok hb hP hx (fun J e => ?_))
  have s0 : SamM [280] [30] I J := by rw [e]; exact SamM.rf.fk (by simp)
  have r0 : RtM [] J := ⟨by rw [e, up2_same]; rfl, fun i hi => absurd hi (Nat.not_lt_zero i)⟩
  have hs := (stp_ok (x := x) hp).1
  generalize stp p x (pHc p) = s at H hs
  have go : ∀ (m v : Nat) (J : MI), m + v = 10 → RtM (numl s v) J → SamM [280] [30] I J → LX12_layByNumber_12 (nI s) (nI v) J Q := by
    intro m
    induction m with
    | zero =>
      intro v J hm hr hsm
      have : v = 10 := by omega
      subst this
      exact rX12_layByNumber_12 ⟨fun _ => H J hr hsm, fun q => absurd (by rw [nI_10, ile (by decide) (by decide)]; omega) q⟩
    | succ m ih =>
      intro v J hm hr hsm
      have hl := numl_le s v
      refine rX12_layByNumber_12 ⟨fun q => ?_, fun _ => ⟨fun q => ?_, fun q => rX12_layByNumber_49 ?_⟩⟩
      · rw [nI_10, ile (by decide) (by omega)] at q; omega
      · have ht := ne_sh (by omega) (by omega) q
        rw [hr.1, cl (by omega)]
        refine ⟨ci (by omega) (by decide), fun J2 e2 J3 e3 => rX12_layByNumber_49 ?_⟩
        have hr3 := RtM_add hr (by omega) e2 e3
        have hm3 : SamM [280] [30] I J3 := by subst e2; subst e3; exact (hsm.u2 (by simp) (by decide)).fk (by simp)
        rw [nI_s]
        exact ih (v + 1) J3 (by omega) (by simp only [numl]; rw [if_pos ht]; exact hr3) hm3
      · rw [nI_s]
        exact ih (v + 1) J (by omega) (by simp only [numl]; rw [if_neg (by rw [eq_sh (by omega) (by omega) q]; decide)]; exact hr) hsm
  exact go 10 0 J rfl r0 s0
end
