/-! the scanner -/
def cc (y : Int32) : Nat := (y &&& 255).toNatClampNeg
theorem cc_all : ∀ n, n < 256 → (((Int8.ofNat n).toInt32 &&& 255) = nI (cc (Int8.ofNat n).toInt32) ∧ cc (Int8.ofNat n).toInt32 < 256 ∧ (cc (Int8.ofNat n).toInt32 < 128 → (Int8.ofNat n).toInt32 = nI (cc (Int8.ofNat n).toInt32)) ∧ (128 ≤ cc (Int8.ofNat n).toInt32 → (Int8.ofNat n).toInt32 < 0)) := by decide +kernel
theorem cc_ok {y : Int32} (h : y.toInt8.toInt32 = y) : (y &&& 255) = nI (cc y) ∧ cc y < 256 ∧ (cc y < 128 → y = nI (cc y)) ∧ (128 ≤ cc y → y < 0) := by
  have h1 := cc_all y.toInt8.toBitVec.toNat (BitVec.isLt _)
  have e : Int8.ofNat y.toInt8.toBitVec.toNat = y.toInt8 := by
    apply Int8.toBitVec_inj.1
    show BitVec.ofNat 8 _ = _
    rw [BitVec.ofNat_toNat]
    simp
  rw [e, h] at h1
  exact h1
def kd8 (c : Nat) : Nat := if c = 32 ∨ c = 10 then 5 else if 97 ≤ c ∧ c ≤ 122 then 1 else if 48 ≤ c ∧ c ≤ 57 then 2 else if c = 59 then 3 else 4
theorem kd8_lt (c : Nat) : 1 ≤ kd8 c ∧ kd8 c ≤ 5 := by
  unfold kd8
  repeat' split
  all_goals omega
theorem sX_kind {y : Int32} {I : MI} {Q : Int32 → MI → Prop} (h : y.toInt8.toInt32 = y) (H : Q (nI (kd8 (cc y))) I) : Wi mX9_kindOf [.int y] I Q := by
  obtain ⟨-, h2, h3, h4⟩ := cc_ok h
  unfold kd8 at H
  generalize cc y = c at *
  rcases Nat.lt_or_ge c 128 with q | q
  · have e := h3 q
    subst e
    refine rX9_kindOf ?_
    rw [show (32 : Int32) = nI 32 from rfl, show (10 : Int32) = nI 10 from rfl, show (97 : Int32) = nI 97 from rfl, show (122 : Int32) = nI 122 from rfl, ieq (by omega) (by decide), ieq (by omega) (by decide), ilt (by omega) (by decide), ilt (by decide) (by omega)]
    have f28 : ¬ (c = 32 ∨ c = 10) → ¬ (97 ≤ c ∧ c ≤ 122) → LX9_kindOf_28 (nI c) I Q := by
      intro a1 a2
      rw [if_neg a1, if_neg a2] at H
      refine rX9_kindOf_28 ?_
      rw [show (48 : Int32) = nI 48 from rfl, show (57 : Int32) = nI 57 from rfl, ilt (by omega) (by decide), ilt (by decide) (by omega)]
      have f42 : ¬ (48 ≤ c ∧ c ≤ 57) → LX9_kindOf_42 (nI c) I Q := by
        intro a3
        rw [if_neg a3] at H
        refine rX9_kindOf_42 ?_
        rw [show (59 : Int32) = nI 59 from rfl, ieq (by omega) (by decide)]
        exact ⟨fun z => by rw [if_neg z] at H; exact H, fun z => by rw [if_pos z] at H; exact H⟩
      exact ⟨fun z => f42 (by omega), fun z => ⟨fun z2 => f42 (by omega), fun z2 => by rw [if_pos (by omega)] at H; exact H⟩⟩
    refine ⟨fun z => by rw [if_pos (Or.inl z)] at H; exact H, fun z => ⟨fun z2 => ⟨fun z3 => f28 (by omega) (by omega), fun z3 => ⟨fun z4 => f28 (by omega) (by omega), fun z4 => ?_⟩⟩, fun z2 => by rw [if_pos (Or.inr z2)] at H; exact H⟩⟩
    rw [if_neg (by omega), if_pos (by omega)] at H; exact H
  · have hy := h4 q
    rw [if_neg (by omega), if_neg (by omega), if_neg (by omega), if_neg (by omega)] at H
    have big : ∀ k : Nat, k < 200 → y < nI k ∧ ¬ nI k < y ∧ y ≠ nI k := fun k hk => by
      rw [Int32.lt_iff_toInt_lt] at hy
      have e0 : (0 : Int32).toInt = 0 := rfl
      have ek := nI_toInt (n := k) (by omega)
      refine ⟨by rw [Int32.lt_iff_toInt_lt]; omega, by rw [Int32.lt_iff_toInt_lt]; omega, fun z => by rw [z] at hy; omega⟩
    refine rX9_kindOf ⟨fun z => absurd z (big 32 (by decide)).2.2, fun _ => ⟨fun _ => ⟨fun _ => rX9_kindOf_28 ⟨fun _ => rX9_kindOf_42 ⟨fun _ => H, fun z => absurd z (big 59 (by decide)).2.2⟩, fun z => absurd (big 48 (by decide)).1 z⟩, fun z => absurd (big 97 (by decide)).1 z⟩, fun z => absurd z (big 10 (by decide)).2.2⟩⟩
/-! the tokens of a text: c are the codes of its bytes, n its length -/
def skw (c : Nat → Nat) : Nat → Nat → Nat
  | 0, q => q
  | f + 1, q => if kd8 (c q) = 5 then skw c f (q + 1) else q
def run (c : Nat → Nat) (k : Nat) : Nat → Nat → Nat
  | 0, q => q
  | f + 1, q => if kd8 (c q) = k then run c k f (q + 1) else q
theorem skw_ge (c : Nat → Nat) : ∀ f q, q ≤ skw c f q ∧ skw c f q ≤ q + f
  | 0, q => ⟨Nat.le_refl _, Nat.le_refl _⟩
  | f + 1, q => by
    have := skw_ge c f (q + 1)
    simp only [skw]
    split <;> omega
theorem skw_at (c : Nat → Nat) : ∀ f q, skw c f q < q + f → kd8 (c (skw c f q)) ≠ 5
  | 0, q, h => by simp only [skw] at h; omega
  | f + 1, q, h => by
    simp only [skw] at h ⊢
    split
    · rename_i z
      rw [if_pos z] at h
      exact skw_at c f (q + 1) (by omega)
    · rename_i z; exact z
theorem run_ge (c : Nat → Nat) (k : Nat) : ∀ f q, q ≤ run c k f q ∧ run c k f q ≤ q + f
  | 0, q => ⟨Nat.le_refl _, Nat.le_refl _⟩
  | f + 1, q => by
    have := run_ge c k f (q + 1)
    simp only [run]
    split <;> omega
theorem run_in (c : Nat → Nat) (k : Nat) : ∀ f q i, q ≤ i → i < run c k f q → kd8 (c i) = k
  | 0, q, i, h1, h2 => by simp only [run] at h2; omega
  | f + 1, q, i, h1, h2 => by
    simp only [run] at h2
    by_cases z : kd8 (c q) = k
    · rw [if_pos z] at h2
      by_cases e : i = q
      · rw [e]; exact z
      · exact run_in c k f (q + 1) i (by omega) h2
    · rw [if_neg z] at h2; omega
/-- the token after place q: start, end, kind (0 end, 1 word, 2 number, 3 semicolon, 4 illegal) -/
def tok (c : Nat → Nat) (n q : Nat) : Nat × Nat × Nat :=
  if n ≤ skw c (n - q) q then (skw c (n - q) q, skw c (n - q) q, 0)
  else if kd8 (c (skw c (n - q) q)) = 1 then (skw c (n - q) q, run c 1 (n - (skw c (n - q) q + 1)) (skw c (n - q) q + 1), if 6 < run c 1 (n - (skw c (n - q) q + 1)) (skw c (n - q) q + 1) - skw c (n - q) q then 4 else 1)
  else if kd8 (c (skw c (n - q) q)) = 2 then (skw c (n - q) q, run c 2 (n - (skw c (n - q) q + 1)) (skw c (n - q) q + 1), if 4 < run c 2 (n - (skw c (n - q) q + 1)) (skw c (n - q) q + 1) - skw c (n - q) q then 4 else 2)
  else (skw c (n - q) q, skw c (n - q) q + 1, kd8 (c (skw c (n - q) q)))
def vl (c : Nat → Nat) (s : Nat) : Nat → Nat
  | 0 => 0
  | k + 1 => 10 * vl c s k + (c (s + k) - 48)
/-- the text, and its token, in the class -/
def TxX (n : Nat) (g : Nat → Int32) (I : MI) : Prop := I 1 2 = nI n ∧ ∀ j, j < n → I 2 j = g j
def TkX (t : Nat × Nat × Nat) (I : MI) : Prop := I 1 3 = nI t.1 ∧ I 1 4 = nI t.2.1 ∧ I 1 5 = nI t.2.2
def Gok (n : Nat) (g : Nat → Int32) : Prop := n ≤ 900 ∧ ∀ j, j < n → (g j).toInt8.toInt32 = g j
/-- only the token changes -/
def S1 (I J : MI) : Prop := (∀ c, c ≠ 1 → J c = I c) ∧ J 1 1 = I 1 1 ∧ J 1 2 = I 1 2
theorem S1.rf {I : MI} : S1 I I := ⟨fun _ _ => rfl, rfl, rfl⟩
theorem S1.tr {I J K : MI} (h : S1 I J) (h2 : S1 J K) : S1 I K := ⟨fun c hc => (h2.1 c hc).trans (h.1 c hc), h2.2.1.trans h.2.1, h2.2.2.trans h.2.2⟩
theorem S1.up {I J K : MI} {k : Nat} {x : Int32} (h : S1 I J) (hk : 3 ≤ k) (e : K = up2 J 1 k x) : S1 I K :=
  ⟨fun c hc => by rw [e, up2_cell _ _ _ hc]; exact h.1 c hc, by rw [e, up2_slot _ _ (by omega)]; exact h.2.1, by rw [e, up2_slot _ _ (by omega)]; exact h.2.2⟩
theorem TxX_S1 {n : Nat} {g : Nat → Int32} {I J : MI} (h : TxX n g I) (s : S1 I J) : TxX n g J := ⟨s.2.2.trans h.1, fun j hj => by rw [s.1 2 (by decide)]; exact h.2 j hj⟩
section
variable {n : Nat} {g : Nat → Int32} {I : MI}
theorem sX_adv {q s0 k0 : Nat} {Q : MI → Prop} (hg : Gok n g) (hT : TxX n g I) (hq : q ≤ n) (ht : TkX (s0, q, k0) I) (H : ∀ J, TkX (tok (fun j => cc (g j)) n q) J → S1 I J → Q J) : Wv mX9_advance [.ref 1] I Q := by
  have hn := hg.1
  have hp1 := skw_ge (fun j => cc (g j)) (n - q) q
  -- the end of a token
  have f174 : ∀ (s e k l : Nat) (J : MI), s ≤ e → e ≤ n → l < 100 → TkX (s, e, k) J → S1 I J → (∀ K, TkX (s, e, if l < e - s then 4 else k) K → S1 I K → Q K) → LX9_advance_174 (nI l) J Q := by
    intro s e k l J h1 h2 hl tJ sJ HQ
    refine rX9_advance_174 ?_
    have j3 : J 1 3 = nI s := tJ.1
    have j4 : J 1 4 = nI e := tJ.2.1
    rw [j3, j4, pk_sub h1, ile (by omega) (by omega)]
    refine ⟨fun z => HQ J (by rw [if_neg (by omega)]; exact tJ) sJ, fun z K eK => HQ K ?_ (sJ.up (by decide) eK)⟩
    rw [if_pos (by omega)]
    exact ⟨by rw [eK, up2_slot _ _ (by decide)]; exact tJ.1, by rw [eK, up2_slot _ _ (by decide)]; exact tJ.2.1, by rw [eK, up2_same]; rfl⟩
  -- the rest of a word or a number
  have f126 : ∀ (s k l R : Nat), 1 < l → l < 100 → k ≤ 5 → (∀ K, TkX (s, R, if l < R - s then 4 else k) K → S1 I K → Q K) → ∀ (f e : Nat) (J : MI), f + e = n → s ≤ e → run (fun j => cc (g j)) k f e = R → TkX (s, e, k) J → S1 I J → LX9_advance_126 (nI l) J Q := by
    intro s k l R hl1 hl2 hk HQ f
    induction f with
    | zero =>
      intro e J he hse hR tJ sJ
      have hR' : e = R := hR
      subst hR'
      have j4 : J 1 4 = nI e := tJ.2.1
      refine rX9_advance_126 ⟨fun z => ?_, fun _ => ⟨fun _ => f174 s e k l J hse (by omega) hl2 tJ sJ HQ, fun z => absurd ?_ z⟩⟩
      · rw [nI_one, ile (by omega) (by decide)] at z; omega
      · rw [(TxX_S1 hT sJ).1, j4, ile (by omega) (by omega)]; omega
    | succ f ih =>
      intro e J he hse hR tJ sJ
      have hTJ := TxX_S1 hT sJ
      have j3 : J 1 3 = nI s := tJ.1
      have j4 : J 1 4 = nI e := tJ.2.1
      have j5 : J 1 5 = nI k := tJ.2.2
      refine rX9_advance_126 ⟨fun z => ?_, fun _ => ⟨fun z => ?_, fun _ => ?_⟩⟩
      · rw [nI_one, ile (by omega) (by decide)] at z; omega
      · rw [hTJ.1, j4, ile (by omega) (by omega)] at z
        omega
      · rw [j4, cl (show e < 2147483648 by omega), hTJ.2 e (by omega)]
        refine ⟨ci (by omega) (by decide), sX_kind (hg.2 e (by omega)) ?_⟩
        have hkl := kd8_lt (cc (g e))
        rw [j5, ieq (by omega) (by omega)]
        simp only [run] at hR
        refine ⟨fun z => ?_, fun z K eK => ?_⟩
        · rw [if_neg z] at hR
          subst hR
          exact f174 s e k l J hse (by omega) hl2 tJ sJ HQ
        · rw [if_pos z] at hR
          rw [j4, nI_s] at eK
          exact ih (e + 1) K (by omega) (by omega) hR ⟨by rw [eK, up2_slot _ _ (by decide)]; exact j3, by rw [eK, up2_same], by rw [eK, up2_slot _ _ (by decide)]; exact j5⟩ (sJ.up (by decide) eK)
  -- behind the white space
  have f48 : ∀ (J : MI), J 1 3 = nI (skw (fun j => cc (g j)) (n - q) q) → S1 I J → LX9_advance_48 J Q := by
    intro J hJ sJ
    have hTJ := TxX_S1 hT sJ
    unfold tok at H
    generalize hs : skw (fun j => cc (g j)) (n - q) q = s at *
    refine rX9_advance_48 (fun K eK => ?_)
    have sK := sJ.up (by decide) eK
    have hTK := TxX_S1 hT sK
    rw [hJ] at eK
    have k3 : K 1 3 = nI s := by rw [eK, up2_slot _ _ (by decide)]; exact hJ
    have k4 : K 1 4 = nI s := by rw [eK, up2_same]
    rw [k3, hTK.1, ilt (by omega) (by omega), cl (by omega)]
    refine ⟨fun z => ⟨ci (by omega) (by decide), ?_⟩, fun z L eL => ?_⟩
    · rw [hTK.2 s z]
      refine sX_kind (hg.2 s z) (fun L eL => ?_)
      have sL := sK.up (by decide) eL
      have l3 : L 1 3 = nI s := by rw [eL, up2_slot _ _ (by decide)]; exact k3
      have l4 : L 1 4 = nI s := by rw [eL, up2_slot _ _ (by decide)]; exact k4
      have l5 : L 1 5 = nI (kd8 (cc (g s))) := by rw [eL, up2_same]
      have hkl := kd8_lt (cc (g s))
      rw [if_neg (by omega)] at H
      have nxt : ∀ l, l < 100 → (∀ M, TkX (s, s + 1, kd8 (cc (g s))) M → S1 I M → LX9_advance_126 (nI l) M Q) → LX9_advance_115 (nI l) L Q := by
        intro l hl HM
        refine rX9_advance_115 (fun M eM => HM M ?_ (sL.up (by decide) eM))
        rw [l4, nI_s] at eM
        exact ⟨by rw [eM, up2_slot _ _ (by decide)]; exact l3, by rw [eM, up2_same], by rw [eM, up2_slot _ _ (by decide)]; exact l5⟩
      rw [l5, nI_one, show (2 : Int32) = nI 2 from rfl, ieq (by omega) (by decide), ieq (by omega) (by decide)]
      refine ⟨fun y1 => ⟨fun y2 => nxt 1 (by decide) (fun M tM sM => rX9_advance_126 ⟨fun _ => ?_, fun y => absurd (by rw [nI_one, ile (by decide) (by decide)]; omega) y⟩), fun y2 => nxt 4 (by decide) (fun M tM sM => ?_)⟩, fun y1 => nxt 6 (by decide) (fun M tM sM => ?_)⟩
      · rw [if_neg y1, if_neg y2] at H
        refine f174 s (s + 1) _ 1 M (by omega) (by omega) (by decide) tM sM (fun N tN sN => H N ?_ sN)
        rw [if_neg (by omega)] at tN
        exact tN
      · rw [if_neg y1, if_pos y2] at H
        rw [y2] at tM
        exact f126 s 2 4 _ (by decide) (by decide) (by decide) H (n - (s + 1)) (s + 1) M (by omega) (by omega) rfl tM sM
      · rw [if_pos y1] at H
        rw [y1] at tM
        exact f126 s 1 6 _ (by decide) (by decide) (by decide) H (n - (s + 1)) (s + 1) M (by omega) (by omega) rfl tM sM
    · rw [if_pos (by omega)] at H
      exact H L ⟨by rw [eL, up2_slot _ _ (by decide)]; exact k3, by rw [eL, up2_slot _ _ (by decide)]; exact k4, by rw [eL, up2_same]; rfl⟩ (sK.up (by decide) eL)
  have f8 : ∀ (f e : Nat) (J : MI), f + e = n → J 1 3 = nI e → S1 I J → skw (fun j => cc (g j)) f e = skw (fun j => cc (g j)) (n - q) q → LX9_advance_8 J Q := by
    intro f
    induction f with
    | zero =>
      intro e J he hJ sJ hsk
      refine rX9_advance_8 ⟨fun _ => f48 J (by rw [← hsk]; exact hJ) sJ, fun z => absurd ?_ z⟩
      rw [(TxX_S1 hT sJ).1, hJ, ile (by omega) (by omega)]; omega
    | succ f ih =>
      intro e J he hJ sJ hsk
      have hTJ := TxX_S1 hT sJ
      refine rX9_advance_8 ⟨fun z => ?_, fun _ => ?_⟩
      · rw [hTJ.1, hJ, ile (by omega) (by omega)] at z; omega
      · rw [hJ, cl (by omega), hTJ.2 e (by omega)]
        refine ⟨ci (by omega) (by decide), sX_kind (hg.2 e (by omega)) ?_⟩
        have hkl := kd8_lt (cc (g e))
        rw [show (5 : Int32) = nI 5 from rfl, ieq (by omega) (by decide)]
        simp only [skw] at hsk
        refine ⟨fun z => ?_, fun z K eK => ?_⟩
        · rw [if_neg z] at hsk
          exact f48 J (by rw [← hsk]; exact hJ) sJ
        · rw [if_pos z] at hsk
          rw [hJ, nI_s] at eK
          exact ih (e + 1) K (by omega) (by rw [eK, up2_same]) (sJ.up (by decide) eK) hsk
  refine rX9_advance (fun J eJ => f8 (n - q) q J (by omega) ?_ (S1.rf.up (by decide) eJ) rfl)
  rw [eJ, up2_same]; exact ht.2.1
/-! the same in the reference -/
def TxM (n : Nat) (g : Nat → Int32) (I : MI) : Prop := I 261 3 = nI n ∧ ∀ j, j < n → I 262 j = g j
def tkI (k : Nat) : Nat := if k = 3 then 59 else if k = 4 then 3 else k
def TkM (c : Nat → Nat) (t : Nat × Nat × Nat) (I : MI) : Prop := I 261 4 = nI t.1 ∧ I 261 5 = nI t.2.1 ∧ I 261 6 = nI (tkI t.2.2) ∧ (t.2.2 = 2 → I 261 7 = nI (vl c t.1 (t.2.1 - t.1)))
abbrev kT : List Nat := [4, 5, 6, 7]
theorem TxM_sam {cs ks : List Nat} {J : MI} (h : TxM n g I) (s : SamM cs ks I J) (hc : 262 ∉ cs) (hk : 3 ∉ ks) : TxM n g J := ⟨(s.2 3 hk).trans h.1, fun j hj => by rw [s.1 262 (by decide) hc]; exact h.2 j hj⟩
theorem sM_byte {k : Nat} {Q : Int32 → MI → Prop} (hg : Gok n g) (hT : TxM n g I) (hk : k < 2147483648) (H1 : k < n → Q (nI (cc (g k))) I) (H0 : n ≤ k → Q (-1) I) : Wi mX12_byteAt [.ref 261, .int (nI k)] I Q := by
  have hn := hg.1
  refine rX12_byteAt ?_
  rw [hT.1, ile (by omega) hk]
  refine ⟨H0, fun z => ⟨ci (by omega) (by decide), ?_⟩⟩
  rw [cl hk, hT.2 k (by omega), (cc_ok (hg.2 k (by omega))).1]
  exact H1 (by omega)
theorem sM_rng {c lo hi : Nat} {Q : Int32 → MI → Prop} (hc : c < 2147483648) (h1 : lo < 2147483648) (h2 : hi < 2147483648) (Hy : lo ≤ c ∧ c ≤ hi → Q 1 I) (Hn : ¬ (lo ≤ c ∧ c ≤ hi) → Q 0 I) : Wi mX12_within [.long (nI c).toInt64, .long (nI lo).toInt64, .long (nI hi).toInt64] I Q := by
  by_cases h : lo ≤ c ∧ c ≤ hi
  · exact mw_y (by rw [ile h1 hc]; exact h.1) (by rw [ile hc h2]; exact h.2) (Hy h)
  · exact mw_n (fun q => h (by rw [ile h1 hc, ile hc h2] at q; exact q)) (Hn h)
theorem sM_neg {lo hi : Nat} {Q : Int32 → MI → Prop} (h1 : lo < 2147483648) (H : Q 0 I) : Wi mX12_within [.long (-1 : Int32).toInt64, .long (nI lo).toInt64, .long (nI hi).toInt64] I Q :=
  mw_n (fun q => by
    have := q.1
    rw [Int32.le_iff_toInt_le, nI_toInt h1] at this
    have e : (-1 : Int32).toInt = -1 := rfl
    omega) H
theorem w97 : (97 : Int64) = (nI 97).toInt64 := rfl
theorem w122 : (122 : Int64) = (nI 122).toInt64 := rfl
theorem w48 : (48 : Int64) = (nI 48).toInt64 := rfl
theorem w57 : (57 : Int64) = (nI 57).toInt64 := rfl
theorem kd8_1 (c : Nat) : kd8 c = 1 ↔ 97 ≤ c ∧ c ≤ 122 := by
  unfold kd8
  by_cases a : c = 32 ∨ c = 10
  · rw [if_pos a]; omega
  · rw [if_neg a]
    by_cases b : 97 ≤ c ∧ c ≤ 122
    · rw [if_pos b]; omega
    · rw [if_neg b]
      by_cases d : 48 ≤ c ∧ c ≤ 57
      · rw [if_pos d]; omega
      · rw [if_neg d]
        by_cases e : c = 59
        · rw [if_pos e]; omega
        · rw [if_neg e]; omega
theorem kd8_2 (c : Nat) : kd8 c = 2 ↔ 48 ≤ c ∧ c ≤ 57 := by
  unfold kd8
  by_cases a : c = 32 ∨ c = 10
  · rw [if_pos a]; omega
  · rw [if_neg a]
    by_cases b : 97 ≤ c ∧ c ≤ 122
    · rw [if_pos b]; omega
    · rw [if_neg b]
      by_cases d : 48 ≤ c ∧ c ≤ 57
      · rw [if_pos d]; omega
      · rw [if_neg d]
        by_cases e : c = 59
        · rw [if_pos e]; omega
        · rw [if_neg e]; omega
theorem kd8_3 (c : Nat) : kd8 c = 3 ↔ c = 59 := by
  unfold kd8
  by_cases a : c = 32 ∨ c = 10
  · rw [if_pos a]; omega
  · rw [if_neg a]
    by_cases b : 97 ≤ c ∧ c ≤ 122
    · rw [if_pos b]; omega
    · rw [if_neg b]
      by_cases d : 48 ≤ c ∧ c ≤ 57
      · rw [if_pos d]; omega
      · rw [if_neg d]
        by_cases e : c = 59
        · rw [if_pos e]; omega
        · rw [if_neg e]; omega
theorem kd8_5 (c : Nat) : kd8 c = 5 ↔ c = 32 ∨ c = 10 := by
  unfold kd8
  by_cases a : c = 32 ∨ c = 10
  · rw [if_pos a]; omega
  · rw [if_neg a]
    by_cases b : 97 ≤ c ∧ c ≤ 122
    · rw [if_pos b]; omega
    · rw [if_neg b]
      by_cases d : 48 ≤ c ∧ c ≤ 57
      · rw [if_pos d]; omega
      · rw [if_neg d]
        by_cases e : c = 59
        · rw [if_pos e]; omega
        · rw [if_neg e]; omega
theorem vl_le (c : Nat → Nat) (s : Nat) (hc : ∀ j, c j < 256) : ∀ k, k ≤ 4 → vl c s k ≤ 300000
  | 0, _ => Nat.zero_le _
  | 1, _ => by have := hc (s + 0); simp only [vl]; omega
  | 2, _ => by have := hc (s + 0); have := hc (s + 1); simp only [vl]; omega
  | 3, _ => by have := hc (s + 0); have := hc (s + 1); have := hc (s + 2); simp only [vl]; omega
  | 4, _ => by have := hc (s + 0); have := hc (s + 1); have := hc (s + 2); have := hc (s + 3); simp only [vl]; omega
  | k + 5, h => by omega
theorem sM_next {q : Nat} {Q : MI → Prop} (hg : Gok n g) (hT : TxM n g I) (hq : q ≤ n) (ht : I 261 5 = nI q) (H : ∀ J, TkM (fun j => cc (g j)) (tok (fun j => cc (g j)) n q) J → SamM [] kT I J → Q J) : Wv mX12_nextToken [.ref 261] I Q := by
  have hn := hg.1
  have hp1 := skw_ge (fun j => cc (g j)) (n - q) q
  have inT : ∀ J, SamM [] kT I J → TxM n g J := fun J s => TxM_sam hT s (by simp) (by simp)
  have c256 : ∀ j, j < n → cc (g j) < 256 := fun j hj => (cc_ok (hg.2 j hj)).2.1
  -- words
  have f96 : ∀ (l1 : Int32) (s : Nat), (∀ K, TkM (fun j => cc (g j)) (s, run (fun j => cc (g j)) 1 (n - (s + 1)) (s + 1), if 6 < run (fun j => cc (g j)) 1 (n - (s + 1)) (s + 1) - s then 4 else 1) K → SamM [] kT I K → Q K) → ∀ (f e : Nat) (J : MI), f + e = n → s < e → run (fun j => cc (g j)) 1 f e = run (fun j => cc (g j)) 1 (n - (s + 1)) (s + 1) → J 261 4 = nI s → J 261 5 = nI e → SamM [] kT I J → LX12_nextToken_96 l1 J Q := by
    intro l1 s HQ f
    have fin : ∀ (e : Nat) (J : MI), s < e → e ≤ n → e = run (fun j => cc (g j)) 1 (n - (s + 1)) (s + 1) → J 261 4 = nI s → J 261 5 = nI e → SamM [] kT I J → ((J 261 5 - J 261 4 ≤ 6 → LX12_nextToken_150 l1 1 J Q) ∧ (¬ J 261 5 - J 261 4 ≤ 6 → LX12_nextToken_150 l1 3 J Q)) := by
      intro e J hse hen he j4 j5 sJ
      rw [j4, j5, pk_sub (by omega), show (6 : Int32) = nI 6 from rfl, ile (by omega) (by decide)]
      rw [← he] at HQ
      refine ⟨fun z => rX12_nextToken_150 (fun K eK => HQ K ?_ (by rw [eK]; exact sJ.fk (by simp))), fun z => rX12_nextToken_150 (fun K eK => HQ K ?_ (by rw [eK]; exact sJ.fk (by simp)))⟩
      · rw [if_neg (by omega)]
        exact ⟨by rw [eK, up2_slot _ _ (by decide)]; exact j4, by rw [eK, up2_slot _ _ (by decide)]; exact j5, by rw [eK, up2_same]; rfl, fun y => by cases y⟩
      · rw [if_pos (by omega)]
        exact ⟨by rw [eK, up2_slot _ _ (by decide)]; exact j4, by rw [eK, up2_slot _ _ (by decide)]; exact j5, by rw [eK, up2_same]; rfl, fun y => by cases y⟩
    induction f with
    | zero =>
      intro e J he hse hr j4 j5 sJ
      refine rX12_nextToken_96 ?_
      rw [j5]
      refine sM_byte hg (inT J sJ) (by omega) (fun z => by omega) (fun _ => ?_)
      rw [w97, w122]
      exact sM_neg (by decide) ⟨fun _ => fin e J hse (by omega) hr j4 j5 sJ, fun z => absurd rfl z⟩
    | succ f ih =>
      intro e J he hse hr j4 j5 sJ
      refine rX12_nextToken_96 ?_
      rw [j5]
      refine sM_byte hg (inT J sJ) (by omega) (fun z => ?_) (fun z => by omega)
      simp only [run] at hr
      rw [w97, w122]
      refine sM_rng (by have := c256 e z; omega) (by decide) (by decide) (fun y => ⟨fun w => absurd w (by decide), fun _ K eK => ?_⟩) (fun y => ⟨fun _ => ?_, fun w => absurd rfl w⟩)
      · rw [if_pos ((kd8_1 _).mpr y)] at hr
        rw [j5, nI_s] at eK
        exact ih (e + 1) K (by omega) (by omega) hr (by rw [eK, up2_slot _ _ (by decide)]; exact j4) (by rw [eK, up2_same]) (by rw [eK]; exact sJ.fk (by simp))
      · rw [if_neg (fun w => y ((kd8_1 _).mp w))] at hr
        exact fin e J hse (by omega) hr j4 j5 sJ
  -- numbers
  have f175 : ∀ (l1 : Int32) (s : Nat), (∀ K, TkM (fun j => cc (g j)) (s, run (fun j => cc (g j)) 2 (n - (s + 1)) (s + 1), if 4 < run (fun j => cc (g j)) 2 (n - (s + 1)) (s + 1) - s then 4 else 2) K → SamM [] kT I K → Q K) → ∀ (f e : Nat) (J : MI), f + e = n → s ≤ e → (e = s → s < n ∧ kd8 (cc (g s)) = 2) → (s < e → run (fun j => cc (g j)) 2 f e = run (fun j => cc (g j)) 2 (n - (s + 1)) (s + 1)) → J 261 4 = nI s → J 261 5 = nI e → J 261 7 = nI (vl (fun j => cc (g j)) s (min (e - s) 4)) → SamM [] kT I J → LX12_nextToken_175 l1 J Q := by
    intro l1 s HQ f
    have fin : ∀ (e : Nat) (J : MI), s < e → e ≤ n → e = run (fun j => cc (g j)) 2 (n - (s + 1)) (s + 1) → J 261 4 = nI s → J 261 5 = nI e → J 261 7 = nI (vl (fun j => cc (g j)) s (min (e - s) 4)) → SamM [] kT I J → ((J 261 5 - J 261 4 ≤ 4 → LX12_nextToken_271 l1 2 J Q) ∧ (¬ J 261 5 - J 261 4 ≤ 4 → LX12_nextToken_271 l1 3 J Q)) := by
      intro e J hse hen he j4 j5 j7 sJ
      rw [j4, j5, pk_sub (by omega), show (4 : Int32) = nI 4 from rfl, ile (by omega) (by decide)]
      rw [← he] at HQ
      refine ⟨fun z => rX12_nextToken_271 (fun K eK => HQ K ?_ (by rw [eK]; exact sJ.fk (by simp))), fun z => rX12_nextToken_271 (fun K eK => HQ K ?_ (by rw [eK]; exact sJ.fk (by simp)))⟩
      · rw [if_neg (by omega)]
        refine ⟨by rw [eK, up2_slot _ _ (by decide)]; exact j4, by rw [eK, up2_slot _ _ (by decide)]; exact j5, by rw [eK, up2_same]; rfl, fun _ => ?_⟩
        rw [eK, up2_slot _ _ (by decide), j7]
        rw [Nat.min_eq_left (by omega)]
      · rw [if_pos (by omega)]
        exact ⟨by rw [eK, up2_slot _ _ (by decide)]; exact j4, by rw [eK, up2_slot _ _ (by decide)]; exact j5, by rw [eK, up2_same]; rfl, fun y => by cases y⟩
    induction f with
    | zero =>
      intro e J he hse h0 hr j4 j5 j7 sJ
      have hlt : s < e := by
        rcases Nat.lt_or_ge s e with z | z
        · exact z
        · have := h0 (by omega); omega
      refine rX12_nextToken_175 ?_
      rw [j5]
      refine sM_byte hg (inT J sJ) (by omega) (fun z => by omega) (fun _ => ?_)
      rw [w48, w57]
      exact sM_neg (by decide) ⟨fun _ => fin e J hlt (by omega) (hr hlt) j4 j5 j7 sJ, fun z => absurd rfl z⟩
    | succ f ih =>
      intro e J he hse h0 hr j4 j5 j7 sJ
      refine rX12_nextToken_175 ?_
      rw [j5]
      refine sM_byte hg (inT J sJ) (by omega) (fun z => ?_) (fun z => by omega)
      have hce := c256 e z
      rw [w48, w57]
      refine sM_rng (by omega) (by decide) (by decide) (fun y => ⟨fun w => absurd w (by decide), fun _ => ?_⟩) (fun y => ⟨fun _ => ?_, fun w => absurd rfl w⟩)
      · -- one more digit
        have go : ∀ (t : Int32) (K : MI), t = nI (vl (fun j => cc (g j)) s (min (e + 1 - s) 4)) → K = J → LX12_nextToken_236 l1 t K Q := by
          intro t K ht hK
          subst hK
          refine rX12_nextToken_236 (fun K1 e1 K2 e2 => ?_)
          have k5 : K1 261 5 = nI e := by rw [e1, up2_slot _ _ (by decide)]; exact j5
          rw [k5, nI_s] at e2
          refine ih (e + 1) K2 (by omega) (by omega) (fun w => by omega) (fun _ => ?_) ?_ (by rw [e2, up2_same]) ?_ (by rw [e2, e1]; exact (sJ.fk (by simp)).fk (by simp))
          · by_cases es : s < e
            · have := hr es
              simp only [run] at this
              rw [if_pos ((kd8_2 _).mpr y)] at this
              exact this
            · have : e = s := by omega
              subst this
              rw [show n - (e + 1) = f by omega]
          · rw [e2, up2_slot _ _ (by decide), e1, up2_slot _ _ (by decide)]; exact j4
          · rw [e2, up2_slot _ _ (by decide), e1, up2_same]; exact ht
        rw [j4, j5, pk_sub hse, show (4 : Int32) = nI 4 from rfl, ile (by decide) (by omega)]
        refine ⟨fun w => go _ J ?_ rfl, fun w => sM_byte hg (inT J sJ) (by omega) (fun w2 => go _ J ?_ rfl) (fun w2 => by omega)⟩
        · rw [j7, Nat.min_eq_right (by omega), Nat.min_eq_right (by omega)]
        · rw [j7, Nat.min_eq_left (by omega), Nat.min_eq_left (by omega), show e + 1 - s = (e - s) + 1 by omega]
          simp only [vl]
          rw [show (10 : Int32) * nI (vl (fun j => cc (g j)) s (e - s)) = nI (10 * vl (fun j => cc (g j)) s (e - s)) from pk_mul 10 _, nI_add, show (48 : Int32) = nI 48 from rfl, pk_sub (by omega), show s + (e - s) = e by omega]
          congr 1
          omega
      · have es : s < e := by
          rcases Nat.lt_or_ge s e with w | w
          · exact w
          · have := (h0 (by omega)).2
            rw [show s = e by omega, kd8_2] at this
            exact absurd this y
        have := hr es
        simp only [run] at this
        rw [if_neg (fun w => y ((kd8_2 _).mp w))] at this
        exact fin e J es (by omega) this j4 j5 j7 sJ
  have hskat := skw_at (fun j => cc (g j)) (n - q) q
  have f8 : ∀ (f e : Nat) (J : MI), f + e = n → J 261 4 = nI e → SamM [] kT I J → skw (fun j => cc (g j)) f e = skw (fun j => cc (g j)) (n - q) q → LX12_nextToken_8 J Q := by
    intro f
    induction f with
    | zero =>
      intro e J he j4 sJ hsk
      have hen : e = n := by omega
      have hsk' : e = skw (fun j => cc (g j)) (n - q) q := hsk
      unfold tok at H
      rw [← hsk', if_pos (by omega)] at H
      refine rX12_nextToken_8 ?_
      rw [j4]
      refine sM_byte hg (inT J sJ) (by omega) (fun z => by omega) (fun _ => ⟨fun z => absurd z (by decide), fun _ => ?_⟩)
      rw [j4]
      refine sM_byte hg (inT J sJ) (by omega) (fun z => by omega) (fun _ => ⟨fun _ => ?_, fun z => absurd z (by decide)⟩)
      rw [j4]
      refine sM_byte hg (inT J sJ) (by omega) (fun z => by omega) (fun _ I7 e7 I8 e8 => ⟨fun z => absurd rfl z, fun _ I9 e9 => H I9 ?_ (by rw [e9, e8, e7]; exact ((sJ.fk (by simp)).fk (by simp)).fk (by simp))⟩)
      rw [j4] at e7
      exact ⟨by rw [e9, up2_slot _ _ (by decide), e8, up2_slot _ _ (by decide), e7, up2_slot _ _ (by decide)]; exact j4, by rw [e9, up2_slot _ _ (by decide), e8, up2_slot _ _ (by decide), e7, up2_same], by rw [e9, up2_same]; rfl, fun y => by cases y⟩
    | succ f ih =>
      intro e J he j4 sJ hsk
      simp only [skw] at hsk
      have hce := c256 e (by omega)
      have skp : kd8 (cc (g e)) = 5 → LX12_nextToken_34 J Q := by
        intro z
        rw [if_pos z] at hsk
        refine rX12_nextToken_34 (fun K eK => ?_)
        rw [j4, nI_s] at eK
        exact ih (e + 1) K (by omega) (by rw [eK, up2_same]) (by rw [eK]; exact sJ.fk (by simp)) hsk
      refine rX12_nextToken_8 ?_
      rw [j4]
      refine sM_byte hg (inT J sJ) (by omega) (fun _ => ?_) (fun z => by omega)
      rw [show (32 : Int32) = nI 32 from rfl, ieq (by omega) (by decide)]
      refine ⟨fun z => skp ((kd8_5 _).mpr (Or.inl z)), fun z1 => ?_⟩
      rw [j4]
      refine sM_byte hg (inT J sJ) (by omega) (fun _ => ?_) (fun z => by omega)
      rw [nI_10, ieq (by omega) (by decide)]
      refine ⟨fun z2 => ?_, fun z => skp ((kd8_5 _).mpr (Or.inr z))⟩
      have h5 : kd8 (cc (g e)) ≠ 5 := fun w => by rw [kd8_5] at w; omega
      rw [if_neg h5] at hsk
      rw [j4]
      refine sM_byte hg (inT J sJ) (by omega) (fun _ I7 e7 I8 e8 => ?_) (fun z => by omega)
      rw [j4] at e7
      unfold tok at H
      rw [← hsk, if_neg (by omega)] at H
      have s8 : SamM [] kT I I8 := by rw [e8, e7]; exact (sJ.fk (by simp)).fk (by simp)
      have k4 : I8 261 4 = nI e := by rw [e8, up2_slot _ _ (by decide), e7, up2_slot _ _ (by decide)]; exact j4
      have k5 : I8 261 5 = nI e := by rw [e8, up2_slot _ _ (by decide), e7, up2_same]
      have hm1 : ¬ nI (cc (g e)) = -1 := fun w => by
        have := congrArg Int32.toInt w
        rw [nI_toInt (by omega)] at this
        have e1 : (-1 : Int32).toInt = -1 := rfl
        omega
      refine ⟨fun _ => ?_, fun z => absurd z hm1⟩
      rw [w97, w122]
      refine sM_rng (by omega) (by decide) (by decide) (fun y => ⟨fun w => absurd w (by decide), fun _ => ?_⟩) (fun y => ⟨fun _ => ?_, fun w => absurd rfl w⟩)
      · rw [if_pos ((kd8_1 _).mpr y)] at H
        -- the first letter is read again
        refine rX12_nextToken_96 ?_
        rw [k5]
        refine sM_byte hg (inT I8 s8) (by omega) (fun _ => ?_) (fun z => by omega)
        rw [w97, w122]
        refine sM_rng (by omega) (by decide) (by decide) (fun _ => ⟨fun w => absurd w (by decide), fun _ K eK => ?_⟩) (fun y2 => absurd y y2)
        rw [k5, nI_s] at eK
        exact f96 _ e H (n - (e + 1)) (e + 1) K (by omega) (by omega) rfl (by rw [eK, up2_slot _ _ (by decide)]; exact k4) (by rw [eK, up2_same]) (by rw [eK]; exact s8.fk (by simp))
      · rw [if_neg (fun w => y ((kd8_1 _).mp w))] at H
        rw [w48, w57]
        refine sM_rng (by omega) (by decide) (by decide) (fun y2 => ⟨fun w => absurd w (by decide), fun _ K eK => ?_⟩) (fun y2 => ⟨fun _ K eK => ?_, fun w => absurd rfl w⟩)
        · rw [if_pos ((kd8_2 _).mpr y2)] at H
          refine f175 _ e H (n - e) e K (by omega) (Nat.le_refl _) (fun _ => ⟨by omega, (kd8_2 _).mpr y2⟩) (fun w => by omega) (by rw [eK, up2_slot _ _ (by decide)]; exact k4) (by rw [eK, up2_slot _ _ (by decide)]; exact k5) ?_ (by rw [eK]; exact s8.fk (by simp))
          rw [eK, up2_same, Nat.sub_self]; rfl
        · rw [if_neg (fun w => y2 ((kd8_2 _).mp w))] at H
          rw [k5, nI_s] at eK
          have sK : SamM [] kT I K := by rw [eK]; exact s8.fk (by simp)
          rw [show (59 : Int32) = nI 59 from rfl, ieq (by omega) (by decide)]
          have hk4 : K 261 4 = nI e := by rw [eK, up2_slot _ _ (by decide)]; exact k4
          have hk5 : K 261 5 = nI (e + 1) := by rw [eK, up2_same]
          have h2n : kd8 (cc (g e)) ≠ 2 := fun w => y2 ((kd8_2 _).mp w)
          have hkl := kd8_lt (cc (g e))
          refine ⟨fun y3 => rX12_nextToken_299 (fun L eL => H L ?_ (by rw [eL]; exact sK.fk (by simp))), fun y3 => rX12_nextToken_299 (fun L eL => H L ?_ (by rw [eL]; exact sK.fk (by simp)))⟩
          · have h4 : kd8 (cc (g e)) = 4 := by
              have a1 : kd8 (cc (g e)) ≠ 1 := fun w => y ((kd8_1 _).mp w)
              have a3 : kd8 (cc (g e)) ≠ 3 := fun w => y3 ((kd8_3 _).mp w)
              omega
            refine ⟨by rw [eL, up2_slot _ _ (by decide)]; exact hk4, by rw [eL, up2_slot _ _ (by decide)]; exact hk5, ?_, fun w => absurd w h2n⟩
            rw [eL, up2_same]
            show (3 : Int32) = nI (tkI (kd8 (cc (g e))))
            rw [h4]; rfl
          · have h3 : kd8 (cc (g e)) = 3 := (kd8_3 _).mpr y3
            refine ⟨by rw [eL, up2_slot _ _ (by decide)]; exact hk4, by rw [eL, up2_slot _ _ (by decide)]; exact hk5, ?_, fun w => absurd w h2n⟩
            rw [eL, up2_same, y3]
            show nI 59 = nI (tkI (kd8 (cc (g e))))
            rw [h3]; rfl
  refine rX12_nextToken (fun J eJ => f8 (n - q) q J (by omega) ?_ (by rw [eJ]; exact SamM.rf.fk (by simp)) rfl)
  rw [eJ, up2_same]; exact ht
end
