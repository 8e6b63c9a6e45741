/-! bits -/
theorem b_andI (a b : Nat) : nI a &&& nI b = nI (a &&& b) := by
  apply Int32.toBitVec_inj.1
  show BitVec.ofNat 32 a &&& BitVec.ofNat 32 b = BitVec.ofNat 32 (a &&& b)
  apply BitVec.eq_of_getLsbD_eq
  intro i hi
  simp [hi]
theorem b_orI (a b : Nat) : nI a ||| nI b = nI (a ||| b) := by
  apply Int32.toBitVec_inj.1
  show BitVec.ofNat 32 a ||| BitVec.ofNat 32 b = BitVec.ofNat 32 (a ||| b)
  apply BitVec.eq_of_getLsbD_eq
  intro i hi
  simp [hi]
theorem b_xorI (a b : Nat) : nI a ^^^ nI b = nI (a ^^^ b) := by
  apply Int32.toBitVec_inj.1
  show BitVec.ofNat 32 a ^^^ BitVec.ofNat 32 b = BitVec.ofNat 32 (a ^^^ b)
  apply BitVec.eq_of_getLsbD_eq
  intro i hi
  simp [hi]
theorem b_shl1 : ∀ n, n < 31 → (1 : Int32) <<< (nI n &&& 31) = nI (2 ^ n) := by decide +kernel
theorem b_pow {n : Nat} (h : n < 31) : 2 ^ n < 2147483648 := Nat.pow_lt_pow_right (by decide) h
theorem b_and0 (n j : Nat) : n &&& 2 ^ j = 0 ↔ n.testBit j = false := by
  constructor
  · intro h
    have h1 : (n &&& 2 ^ j).testBit j = false := by rw [h]; simp
    rw [Nat.testBit_and] at h1
    simpa using h1
  · intro h
    apply Nat.eq_of_testBit_eq
    intro i
    rw [Nat.testBit_and, Nat.testBit_two_pow]
    by_cases hi : j = i
    · subst hi; simp [h]
    · simp [hi]
theorem b_test {n j : Nat} (hj : j < 31) : nI n &&& ((1 : Int32) <<< (nI j &&& 31)) = 0 ↔ n.testBit j = false := by
  rw [b_shl1 j hj, b_andI, nI_zero]
  have h1 : n &&& 2 ^ j ≤ 2 ^ j := Nat.and_le_right
  have h2 := b_pow hj
  rw [ieq (by omega) (by decide)]
  exact b_and0 n j
theorem b_or1 {n j : Nat} (hj : j < 31) : nI n ||| ((1 : Int32) <<< (nI j &&& 31)) = nI (n ||| 2 ^ j) := by rw [b_shl1 j hj, b_orI]
theorem b_xor1 {n j : Nat} (hj : j < 31) : nI n ^^^ ((1 : Int32) <<< (nI j &&& 31)) = nI (n ^^^ 2 ^ j) := by rw [b_shl1 j hj, b_xorI]
theorem b_shrS : ∀ n, n < 32 → ((nI n &&& 31).toBitVec.smod 32).toNat = n := by decide +kernel
theorem b_shr {n j : Nat} (hn : n < 2147483648) (hj : j < 31) : nI n >>> (nI j &&& 31) = nI (n / 2 ^ j) := pk_shrN hn _ j (b_shrS j (by omega))
theorem b_shr1 {n j : Nat} (hn : n < 2147483648) (hj : j < 31) : (nI n >>> (nI j &&& 31)) &&& (1 : Int32) = if n.testBit j then 1 else 0 := by
  rw [b_shr hn hj, nI_one, b_andI]
  have e : n / 2 ^ j &&& 1 = (n / 2 ^ j) % 2 := Nat.and_one_is_mod _
  rw [e, Nat.testBit_eq_decide_div_mod_eq]
  have : n / 2 ^ j % 2 = 0 ∨ n / 2 ^ j % 2 = 1 := by omega
  rcases this with h | h <;> rw [h] <;> rfl
/-- a set without one of its members -/
def clr (a n : Nat) : Nat := a ^^^ (a &&& 2 ^ n)
theorem clr_bit (a n i : Nat) : (clr a n).testBit i = (a.testBit i && decide (i ≠ n)) := by
  unfold clr
  rw [Nat.testBit_xor, Nat.testBit_and, Nat.testBit_two_pow]
  by_cases h : n = i
  · subst h; cases a.testBit n <;> simp
  · have h2 : i ≠ n := fun q => h q.symm
    cases a.testBit i <;> simp [h, h2]
theorem clr_le (a n : Nat) : clr a n ≤ a := by
  apply Nat.le_of_testBit
  intro i hi
  rw [clr_bit] at hi
  simp only [Bool.and_eq_true] at hi
  exact hi.1
theorem b_not : ∀ n, n < 31 → nI (2 ^ n) ^^^ (-1 : Int32) = nI (4294967295 - 2 ^ n) := by decide +kernel
theorem b_clr {a j : Nat} (ha : a < 2147483648) (hj : j < 31) : nI a &&& (((1 : Int32) <<< (nI j &&& 31)) ^^^ (-1 : Int32)) = nI (clr a j) := by
  rw [b_shl1 j hj, b_not j hj, b_andI]
  congr 1
  apply Nat.eq_of_testBit_eq
  intro i
  have hp := b_pow hj
  rw [Nat.testBit_and, clr_bit]
  by_cases hi : i < 32
  · have e : 4294967295 - 2 ^ j = 2 ^ 32 - (2 ^ j + 1) := by omega
    rw [e, Nat.testBit_two_pow_sub_succ (by omega), Nat.testBit_two_pow]
    by_cases h : j = i
    · subst h; simp
    · have h2 : i ≠ j := fun q => h q.symm
      simp [hi, h, h2]
  · have : a.testBit i = false := Nat.testBit_lt_two_pow (Nat.lt_of_lt_of_le ha (by
      have : 2 ^ 31 ≤ 2 ^ i := Nat.pow_le_pow_right (by decide) (by omega)
      omega))
    simp [this]
/-! what a text settles, and what may change -/
abbrev Pl : Type := (Nat × Nat × Nat × Nat × Nat) × (Int32 × Int32) × (Nat → Nat) × (Nat → Nat) × (Nat → Nat) × (Nat → Nat) × (Nat → Nat)
abbrev pNc (p : Pl) : Nat := p.1.1
abbrev pSc (p : Pl) : Nat := p.1.2.1
abbrev pHc (p : Pl) : Nat := p.1.2.2.1
abbrev pCap (p : Pl) : Nat := p.1.2.2.2.1
abbrev pSt (p : Pl) : Nat := p.1.2.2.2.2
abbrev pPr (p : Pl) : Int32 := p.2.1.1
abbrev pDe (p : Pl) : Int32 := p.2.1.2
abbrev pA (p : Pl) : Nat → Nat := p.2.2.1
abbrev pB (p : Pl) : Nat → Nat := p.2.2.2.1
abbrev pL (p : Pl) : Nat → Nat := p.2.2.2.2.1
abbrev pHn (p : Pl) : Nat → Nat := p.2.2.2.2.2.1
abbrev pHw (p : Pl) : Nat → Nat := p.2.2.2.2.2.2
abbrev Ld : Type := (Nat × Nat × (Nat → Nat) × (Nat → Int32) × (Nat → Nat) × (Nat → Nat)) × ((Nat → Int32) × (Nat → Int32) × (Nat → Int32) × (Nat → Int32)) × (Nat → Nat) × (Int32 × Nat × Int32 × (Nat → Int32) × (Nat → Int32) × (Nat → Int32))
abbrev lDay (x : Ld) : Nat := x.1.1
abbrev lSk (x : Ld) : Nat := x.1.2.1
abbrev lOr (x : Ld) : Nat → Nat := x.1.2.2.1
abbrev lKp (x : Ld) : Nat → Int32 := x.1.2.2.2.1
abbrev lF (x : Ld) : Nat → Nat := x.1.2.2.2.2.1
abbrev lT (x : Ld) : Nat → Nat := x.1.2.2.2.2.2
abbrev lBo (x : Ld) : Nat → Int32 := x.2.1.1
abbrev lDl (x : Ld) : Nat → Int32 := x.2.1.2.1
abbrev lRt (x : Ld) : Nat → Int32 := x.2.1.2.2.1
abbrev lBr (x : Ld) : Nat → Int32 := x.2.1.2.2.2
abbrev lHa (x : Ld) : Nat → Nat := x.2.2.1
abbrev lFi (x : Ld) : Int32 := x.2.2.2.1
abbrev lVi (x : Ld) : Nat := x.2.2.2.2.1
abbrev lRl (x : Ld) : Int32 := x.2.2.2.2.2.1
abbrev lVh (x : Ld) : Nat → Int32 := x.2.2.2.2.2.2.1
abbrev lVm (x : Ld) : Nat → Int32 := x.2.2.2.2.2.2.2.1
abbrev lVr (x : Ld) : Nat → Int32 := x.2.2.2.2.2.2.2.2
def nt (p : Pl) (x : Ld) : NT := (pNc p, pSc p, pA p, pB p, pL p, lF x, lT x)
/-- ranges -/
def PlOk (p : Pl) : Prop := 2 ≤ pNc p ∧ pNc p ≤ 10 ∧ pSc p ≤ 18 ∧ pHc p ≤ 12 ∧ 10 ≤ pCap p ∧ pCap p ≤ 200 ∧ pSt p ≤ 1439 ∧ (∀ k, k < pSc p → pA p k < pNc p ∧ pB p k < pNc p ∧ 1 ≤ pL p k ∧ pL p k ≤ 99) ∧ ∀ h, h < pHc p → 1 ≤ pHn p h ∧ pHn p h < pNc p ∧ pHw p h ≤ 50
def LdOk (p : Pl) (b : Nat) (x : Ld) : Prop := lDay x ≤ b ∧ lSk x < 4096 ∧ (∀ i, i < 7 * pHc p → lOr x i ≤ 9) ∧ (∀ k, k < pSc p → lT x k = 0 ∧ lF x k = 0 ∨ lF x k < lT x k ∧ lT x k ≤ 1440) ∧ (∀ a c, a < pNc p → c < pNc p → lHa x (10 * a + c) ≤ 13 * b) ∧ lVi x ≤ 12
theorem nt_ok {p : Pl} {b : Nat} {x : Ld} (hp : PlOk p) (hx : LdOk p b x) : NetOk (nt p x) := by
  obtain ⟨-, h2, h3, -, -, -, -, h8, -⟩ := hp
  refine ⟨h2, h3, fun k hk => ?_⟩
  obtain ⟨a1, a2, a3, a4⟩ := h8 k hk
  exact ⟨a1, a2, a3, a4, hx.2.2.2.1 k hk⟩
/-- the class's plan at cell c, and its state at cell c -/
def PX (c : Nat) (p : Pl) (I : MI) : Prop := I c 0 = nI (pNc p) ∧ I c 1 = nI (pSc p) ∧ I c 2 = nI (pHc p) ∧ I c 3 = nI (pCap p) ∧ I c 4 = nI (pSt p) ∧ I c 5 = pPr p ∧ I c 6 = pDe p ∧ (∀ k, k < pSc p → I (c + 1) k = nI (pA p k) ∧ I (c + 2) k = nI (pB p k) ∧ I (c + 3) k = nI (pL p k)) ∧ ∀ h, h < pHc p → I (c + 4) h = nI (pHn p h) ∧ I (c + 5) h = nI (pHw p h)
def LX (c : Nat) (p : Pl) (x : Ld) (I : MI) : Prop := I c 0 = nI (lDay x) ∧ I c 1 = nI (lSk x) ∧ (∀ i, i < 7 * pHc p → I (c + 1) i = nI (lOr x i)) ∧ (∀ h, h < pHc p → I (c + 2) h = lKp x h ∧ I (c + 5) h = lBo x h ∧ I (c + 6) h = lDl x h ∧ I (c + 7) h = lRt x h ∧ I (c + 8) h = lBr x h) ∧ (∀ k, k < pSc p → I (c + 3) k = nI (lF x k) ∧ I (c + 4) k = nI (lT x k)) ∧ (∀ a b, a < pNc p → b < pNc p → I (c + 9) (10 * a + b) = nI (lHa x (10 * a + b))) ∧ I (c + 10) 0 = lFi x ∧ I (c + 10) 1 = nI (lVi x) ∧ I (c + 10) 2 = lRl x ∧ ∀ v, v < lVi x → I (c + 11) v = lVh x v ∧ I (c + 12) v = lVm x v ∧ I (c + 13) v = lVr x v
/-- the reference's plan, and its ledger in the row a from place o on -/
def PM (p : Pl) (I : MI) : Prop := I 263 0 = nI (pNc p) ∧ I 263 1 = nI (pCap p) ∧ I 263 2 = nI (pSt p) ∧ I 263 3 = pPr p ∧ I 263 4 = pDe p ∧ I 263 5 = nI (pSc p) ∧ I 263 6 = nI (pHc p) ∧ (∀ k, k < pSc p → I 265 k = nI (pA p k) ∧ I 266 k = nI (pB p k) ∧ I 267 k = nI (pL p k)) ∧ ∀ h, h < pHc p → I 270 h = nI (pHn p h) ∧ I 271 h = nI (pHw p h)
def LM (a o : Nat) (p : Pl) (x : Ld) (I : MI) : Prop := I a o = nI (lDay x) ∧ (∀ h, h < pHc p → I a (o + 133 + h) = if (lSk x).testBit h then 1 else 0) ∧ (∀ i, i < 7 * pHc p → I a (o + 1 + i) = nI (lOr x i)) ∧ (∀ h, h < pHc p → I a (o + 85 + h) = lKp x h ∧ I a (o + 145 + h) = lBo x h ∧ I a (o + 157 + h) = lDl x h ∧ I a (o + 169 + h) = lRt x h ∧ I a (o + 181 + h) = lBr x h) ∧ (∀ h, pHc p ≤ h → h < 12 → I a (o + 145 + h) = 0) ∧ (∀ k, k < pSc p → (lT x k = 0 → I a (o + 97 + k) = -1) ∧ (lT x k ≠ 0 → I a (o + 97 + k) = nI (lF x k) ∧ I a (o + 115 + k) = nI (lT x k))) ∧ (∀ c d, c < pNc p → d < pNc p → I a (o + 193 + (10 * c + d)) = nI (lHa x (10 * c + d))) ∧ I a (o + 293) = lFi x ∧ I a (o + 294) = nI (lVi x) ∧ I a (o + 295) = lRl x ∧ ∀ v, v < lVi x → I a (o + 296 + v) = lVh x v ∧ I a (o + 308 + v) = lVm x v ∧ I a (o + 320 + v) = lVr x v
theorem NX_PL {p : Pl} {x : Ld} {I : MI} (hp : PX 24 p I) (hx : LX 30 p x I) : NX (nt p x) I :=
  ⟨hp.1, hp.2.1, fun k hk => ⟨(hp.2.2.2.2.2.2.2.1 k hk).1, (hp.2.2.2.2.2.2.2.1 k hk).2.1, (hp.2.2.2.2.2.2.2.1 k hk).2.2, (hx.2.2.2.2.1 k hk).1, (hx.2.2.2.2.1 k hk).2⟩⟩
theorem NM_PL {p : Pl} {x : Ld} {I : MI} (hp : PM p I) (hx : LM 274 0 p x I) : NM (nt p x) I := by
  refine ⟨hp.1, hp.2.2.2.2.2.1, fun k hk => ?_⟩
  obtain ⟨a1, a2, a3⟩ := hp.2.2.2.2.2.2.2.1 k hk
  obtain ⟨b1, b2⟩ := hx.2.2.2.2.2.1 k hk
  simp only [Nat.zero_add] at b1 b2
  exact ⟨a1, a2, a3, b1, b2⟩
theorem PX_of {c : Nat} {p : Pl} {I I1 : MI} (h : PX c p I) (e : ∀ i, c ≤ i → i ≤ c + 5 → I1 i = I i) : PX c p I1 := by
  unfold PX
  rw [e c (by omega) (by omega), e (c + 1) (by omega) (by omega), e (c + 2) (by omega) (by omega), e (c + 3) (by omega) (by omega), e (c + 4) (by omega) (by omega), e (c + 5) (by omega) (by omega)]
  exact h
theorem LX_of {c : Nat} {p : Pl} {x : Ld} {I I1 : MI} (h : LX c p x I) (e : ∀ i, c ≤ i → i ≤ c + 13 → I1 i = I i) : LX c p x I1 := by
  unfold LX
  rw [e c (by omega) (by omega), e (c + 1) (by omega) (by omega), e (c + 2) (by omega) (by omega), e (c + 3) (by omega) (by omega), e (c + 4) (by omega) (by omega), e (c + 5) (by omega) (by omega), e (c + 6) (by omega) (by omega), e (c + 7) (by omega) (by omega), e (c + 8) (by omega) (by omega), e (c + 9) (by omega) (by omega), e (c + 10) (by omega) (by omega), e (c + 11) (by omega) (by omega), e (c + 12) (by omega) (by omega), e (c + 13) (by omega) (by omega)]
  exact h
theorem PM_of {p : Pl} {I I1 : MI} (h : PM p I) (e : ∀ i, i = 263 ∨ i = 265 ∨ i = 266 ∨ i = 267 ∨ i = 270 ∨ i = 271 → I1 i = I i) : PM p I1 := by
  unfold PM
  rw [e 263 (by simp), e 265 (by simp), e 266 (by simp), e 267 (by simp), e 270 (by simp), e 271 (by simp)]
  exact h
theorem LM_of {a o : Nat} {p : Pl} {x : Ld} {I I1 : MI} (h : LM a o p x I) (e : I1 a = I a) : LM a o p x I1 := by
  unfold LM
  rw [e]
  exact h
/-! the reference's range test -/
theorem sM_within {a b c : Int64} {I : MI} {Q : Int32 → MI → Prop} (H1 : b ≤ a → a ≤ c → Q 1 I) (H0 : ¬ (b ≤ a ∧ a ≤ c) → Q 0 I) : Wi mX12_within [.long a, .long b, .long c] I Q := by
  have e1 : lg_cmp a b < 0 ↔ ¬ b ≤ a := by
    unfold lg_cmp
    simp only [gt_iff_lt, Int64.lt_iff_toInt_lt, Int64.le_iff_toInt_le, ← Int64.toInt_inj]
    split
    · exact ⟨fun h => absurd h (by decide), fun h => absurd h (by omega)⟩
    · split
      · exact ⟨fun h => absurd h (by decide), fun h => absurd h (by omega)⟩
      · exact ⟨fun _ => by omega, fun _ => by decide⟩
  have e2 : 0 < lg_cmp a c ↔ ¬ a ≤ c := by
    unfold lg_cmp
    simp only [gt_iff_lt, Int64.lt_iff_toInt_lt, Int64.le_iff_toInt_le, ← Int64.toInt_inj]
    split
    · exact ⟨fun _ => by omega, fun _ => by decide⟩
    · split
      · exact ⟨fun h => absurd h (by decide), fun h => absurd h (by omega)⟩
      · exact ⟨fun h => absurd h (by decide), fun h => absurd h (by omega)⟩
  refine rX12_within ⟨fun h => H0 (fun q => (e1.mp h) q.1), fun h => ⟨fun h2 => H0 (fun q => (e2.mp h2) q.2), fun h2 => ?_⟩⟩
  rw [e1] at h
  rw [e2] at h2
  exact H1 (Classical.not_not.mp h) (Classical.not_not.mp h2)
theorem w64 (x y : Int32) : x.toInt64 ≤ y.toInt64 ↔ x ≤ y := by rw [Int64.le_iff_toInt_le, Int32.le_iff_toInt_le, Int32.toInt_toInt64, Int32.toInt_toInt64]
theorem l64 {n : Nat} (h : n < 2147483648) : (OfNat.ofNat n : Int64) = (nI n).toInt64 := (nI_l h).symm
