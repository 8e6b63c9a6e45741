/-! what a round changes in the ledger -/
abbrev Bt : Type := (Nat → Int32) × (Nat → Int32) × (Nat → Int32)
abbrev Lg : Type := Int32 × Nat × Int32 × (Nat → Int32) × (Nat → Int32) × (Nat → Int32)
def btf (x : Ld) (B : Bt) (e : Nat × Nat × Nat) : Bt := (upd B.1 e.1 (B.1 e.1 + (nI (dem x e.1) - nI e.2.2)), upd B.2.1 e.1 (B.2.1 e.1 + nI (dem x e.1)), upd B.2.2 e.1 (B.2.2 e.1 + nI e.2.2))
def hbf (p : Pl) (s : Nat × (Nat → Nat)) (e : Nat × Nat × Nat) : Nat × (Nat → Nat) := if pHn p e.1 = s.1 then s else (pHn p e.1, updN s.2 (10 * s.1 + pHn p e.1) (s.2 (10 * s.1 + pHn p e.1) + 1))
def hbe (fi : Int32) (s : Nat × (Nat → Nat)) : Nat → Nat := if s.1 ≠ 0 ∧ fi ≠ -2 then updN s.2 (10 * s.1 + 0) (s.2 (10 * s.1 + 0) + 1) else s.2
def asm (x : Ld) (B : Bt) (f : Nat → Nat) (L : Lg) : Ld := (x.1, (B.1, B.2.1, B.2.2, lBr x), f, L)
def sLog (x : Ld) (L : Lg) : Ld := (x.1, x.2.1, x.2.2.1, L)
noncomputable def lgOf (p : Pl) (x : Ld) (k : Ct) : Lg := (fin p x k, (kV k).length, nI (kR k), (fun i => nI ((kV k).getD i (0, 0, 0)).1), (fun i => nI ((kV k).getD i (0, 0, 0)).2.1), (fun i => nI ((kV k).getD i (0, 0, 0)).2.2))
noncomputable def nxt (p : Pl) (x : Ld) (k : Ct) : Ld := sSk (sDay (asm x ((kV k).foldl (btf x) (lBo x, lDl x, lRt x)) (hbe (fin p x k) ((kV k).foldl (hbf p) (0, lHa x))) (lgOf p x k)) (lDay x + 1)) 0
theorem hbf_le (p : Pl) (s : Nat × (Nat → Nat)) (e : Nat × Nat × Nat) (i : Nat) : (hbf p s e).2 i ≤ s.2 i + 1 := by
  unfold hbf
  split
  · omega
  · show updN s.2 _ _ i ≤ _
    unfold updN
    split
    · rename_i h; rw [h]; omega
    · omega
theorem hbf_lt {p : Pl} {s : Nat × (Nat → Nat)} {e : Nat × Nat × Nat} (hp : PlOk p) (he : e.1 < pHc p) (hs : s.1 < pNc p) : (hbf p s e).1 < pNc p := by
  unfold hbf
  split
  · exact hs
  · exact (hp.2.2.2.2.2.2.2.2 e.1 he).2.1
theorem hbf_fold (p : Pl) : ∀ (V : List (Nat × Nat × Nat)) (s : Nat × (Nat → Nat)) (i : Nat), (V.foldl (hbf p) s).2 i ≤ s.2 i + V.length
  | [], s, i => Nat.le_refl _
  | e :: V, s, i => by
    have h1 := hbf_fold p V (hbf p s e) i
    have h2 := hbf_le p s e i
    simp only [List.foldl_cons, List.length_cons]
    omega
theorem hbf_foldlt {p : Pl} (hp : PlOk p) : ∀ (V : List (Nat × Nat × Nat)) (s : Nat × (Nat → Nat)), (∀ e, e ∈ V → e.1 < pHc p) → s.1 < pNc p → (V.foldl (hbf p) s).1 < pNc p
  | [], s, _, hs => hs
  | e :: V, s, hV, hs => hbf_foldlt hp V (hbf p s e) (fun e' he => hV e' (by simp [he])) (hbf_lt hp (hV e (by simp)) hs)
theorem hbe_le (fi : Int32) (s : Nat × (Nat → Nat)) (i : Nat) : hbe fi s i ≤ s.2 i + 1 := by
  unfold hbe
  split
  · unfold updN
    split
    · rename_i h; rw [h]; omega
    · omega
  · omega
theorem nxt_ok {p : Pl} {b : Nat} {x : Ld} {k : Ct} (hok : LdOk p b x) (hl : (kV k).length ≤ 12) : LdOk p (b + 1) (nxt p x k) := by
  obtain ⟨h1, h2, h3, h4, h5, h6⟩ := hok
  refine ⟨by show lDay x + 1 ≤ b + 1; omega, by show 0 < 4096; decide, h3, h4, fun a c ha hc => ?_, hl⟩
  have q1 := hbe_le (fin p x k) ((kV k).foldl (hbf p) (0, lHa x)) (10 * a + c)
  have q2 := hbf_fold p (kV k) (0, lHa x) (10 * a + c)
  have q3 := h5 a c ha hc
  show hbe (fin p x k) ((kV k).foldl (hbf p) (0, lHa x)) (10 * a + c) ≤ 13 * (b + 1)
  dsimp only at q2
  omega
theorem LX_log {p : Pl} {x : Ld} {I J : MI} {L : Lg} (h : LX 30 p x I) (e : ∀ i, i < 40 → J i = I i) (h0 : J 40 0 = L.1) (h1 : J 40 1 = nI L.2.1) (h2 : J 40 2 = L.2.2.1) (h3 : ∀ v, v < L.2.1 → J 41 v = L.2.2.2.1 v ∧ J 42 v = L.2.2.2.2.1 v ∧ J 43 v = L.2.2.2.2.2 v) : LX 30 p (sLog x L) J := by
  obtain ⟨x1, x2, x3, x4, x5, x6, x7, x8, x9, x10⟩ := h
  unfold LX
  rw [e 30 (by decide), e (30 + 1) (by decide), e (30 + 2) (by decide), e (30 + 3) (by decide), e (30 + 4) (by decide), e (30 + 5) (by decide), e (30 + 6) (by decide), e (30 + 7) (by decide), e (30 + 8) (by decide), e (30 + 9) (by decide)]
  exact ⟨x1, x2, x3, x4, x5, x6, h0, h1, h2, h3⟩
theorem LM_log {p : Pl} {x : Ld} {I J : MI} {L : Lg} (hp : PlOk p) (h : LM 274 0 p x I) (e : ∀ k, k < 293 → J 274 k = I 274 k) (h0 : J 274 293 = L.1) (h1 : J 274 294 = nI L.2.1) (h2 : J 274 295 = L.2.2.1) (h3 : ∀ v, v < L.2.1 → J 274 (296 + v) = L.2.2.2.1 v ∧ J 274 (308 + v) = L.2.2.2.2.1 v ∧ J 274 (320 + v) = L.2.2.2.2.2 v) : LM 274 0 p (sLog x L) J := by
  have hhc := hp.2.2.2.1
  have hsc := hp.2.2.1
  have hnc := hp.2.1
  obtain ⟨c1, c2, c3, c4, c5, c6, c7, c8, c9, c10, c11⟩ := h
  refine ⟨?_, fun i hi => ?_, fun i hi => ?_, fun i hi => ?_, fun i h1 h2 => ?_, fun i hi => ?_, fun c d h1 h2 => ?_, h0, h1, h2, fun v hv => ?_⟩
  · rw [e _ (by omega)]; exact c1
  · rw [e _ (by omega)]; exact c2 i hi
  · rw [e _ (by omega)]; exact c3 i hi
  · rw [e _ (by omega), e _ (by omega), e _ (by omega), e _ (by omega), e _ (by omega)]; exact c4 i hi
  · rw [e _ (by omega)]; exact c5 i h1 h2
  · rw [e _ (by omega), e _ (by omega)]; exact c6 i hi
  · rw [e _ (by omega)]; exact c7 c d h1 h2
  · rw [Nat.zero_add, Nat.zero_add, Nat.zero_add]; exact h3 v hv
theorem getD_mid {α : Type} (pre rest : List α) (e d : α) : (pre ++ e :: rest).getD pre.length d = e := by simp [List.getD_eq_getElem?_getD]
section
variable {p : Pl} {x : Ld} {b : Nat} {I : MI}
theorem sX_settle {V : List (Nat × Nat × Nat)} {Q : MI → Prop} (hp : PlOk p) (hok : LdOk p b x) (hb : b ≤ 100000) (hx : LX 30 p x I) (hl : V.length ≤ 12) (h1 : I 57 1 = nI V.length) (hV : VL 58 59 60 V I) (he : ∀ e, e ∈ V → e.1 < pHc p)
    (H : ∀ J, LX 30 p (asm x (V.foldl (btf x) (lBo x, lDl x, lRt x)) (lHa x) x.2.2.2) J → Same [35, 36, 37] I J → Q J) : Wv mX11_settleAccounts [.ref 0, .ref 57] I Q := by
  have hhc := hp.2.2.2.1
  have go : ∀ (rest pre : List (Nat × Nat × Nat)) (B : Bt) (J : MI), V = pre ++ rest → LX 30 p (asm x B (lHa x) x.2.2.2) J → Same [35, 36, 37] I J → rest.foldl (btf x) B = V.foldl (btf x) (lBo x, lDl x, lRt x) → LX11_settleAccounts_2 (nI pre.length) J Q := by
    intro rest
    induction rest with
    | nil =>
      intro pre B J hr hxJ sj ht
      refine rX11_settleAccounts_2 ⟨fun _ => H J (by rw [← ht]; exact hxJ) sj, fun q => absurd ?_ q⟩
      rw [sj 57 (by simp), h1, hr]; simp
    | cons e rest ih =>
      intro pre B J hr hxJ sj ht
      have hlen : V.length = pre.length + (rest.length + 1) := by rw [hr]; simp
      have hge : V.getD pre.length (0, 0, 0) = e := by rw [hr]; exact getD_mid _ _ _ _
      have hv := hV pre.length (by omega)
      rw [hge] at hv
      have heh : e.1 < pHc p := he e (by rw [hr]; simp)
      have e58 : J 58 (nI pre.length).toNatClampNeg = nI e.1 := by rw [cl (by omega), sj 58 (by simp)]; exact hv.1
      refine rX11_settleAccounts_2 ⟨fun q => ?_, fun _ => ⟨ci (by omega) (by decide), ?_⟩⟩
      · rw [sj 57 (by simp), h1, ile (by omega) (by omega)] at q; omega
      · rw [e58]
        refine sX_dem (x := asm x B (lHa x) x.2.2.2) (b := b) hp hok hb hxJ heh ⟨ci (by omega) (by decide), ci (by omega) (by decide), ci (by omega) (by decide), fun I3 d3 => ⟨ci (by omega) (by decide), ci (by omega) (by decide), fun I4 d4 => ⟨ci (by omega) (by decide), ci (by omega) (by decide), ci (by omega) (by decide), fun I5 d5 => ?_⟩⟩⟩
        have hd : dem (asm x B (lHa x) x.2.2.2) e.1 = dem x e.1 := rfl
        rw [hd] at d3 d4
        rw [cl (by omega)] at d3 d4 d5
        have j60 : ∀ K : MI, Same [35, 36, 37] I K → K 60 (nI pre.length).toNatClampNeg = nI e.2.2 := by
          intro K hK; rw [cl (by omega), hK 60 (by simp)]; exact hv.2.2
        have v35 : J 35 e.1 = B.1 e.1 := (hxJ.2.2.2.1 e.1 heh).2.1
        have v36 : J 36 e.1 = B.2.1 e.1 := (hxJ.2.2.2.1 e.1 heh).2.2.1
        have v37 : J 37 e.1 = B.2.2 e.1 := (hxJ.2.2.2.1 e.1 heh).2.2.2.1
        rw [j60 J sj, v35] at d3
        have s3 : Same [35, 36, 37] I I3 := by rw [d3]; exact sj.u2 (by simp)
        have l3 : LX 30 p (sBo (asm x B (lHa x) x.2.2.2) (upd B.1 e.1 (B.1 e.1 + (nI (dem x e.1) - nI e.2.2)))) I3 := by rw [d3]; exact LX_Bo hxJ
        have w36 : I3 36 e.1 = B.2.1 e.1 := by rw [d3, up2_cell _ _ _ (by decide)]; exact v36
        rw [w36] at d4
        have s4 : Same [35, 36, 37] I I4 := by rw [d4]; exact s3.u2 (by simp)
        have l4 := LX_Dl (n := e.1) (y := B.2.1 e.1 + nI (dem x e.1)) l3
        rw [← d4] at l4
        have w37 : I4 37 e.1 = B.2.2 e.1 := by rw [d4, up2_cell _ _ _ (by decide), d3, up2_cell _ _ _ (by decide)]; exact v37
        rw [w37, j60 I4 s4] at d5
        have s5 : Same [35, 36, 37] I I5 := by rw [d5]; exact s4.u2 (by simp)
        have l5 := LX_Rt (n := e.1) (y := B.2.2 e.1 + nI e.2.2) l4
        rw [← d5] at l5
        rw [nI_s]
        have := ih (pre ++ [e]) (btf x B e) I5 (by rw [hr]; simp) l5 s5 ht
        rw [show (pre ++ [e]).length = pre.length + 1 by simp] at this
        exact this
  exact rX11_settleAccounts (go V [] (lBo x, lDl x, lRt x) I rfl hx Same.rf rfl)
theorem sX_learn {V : List (Nat × Nat × Nat)} {B : Bt} {L : Lg} {fi : Int32} {Q : MI → Prop} (hp : PlOk p) (hP : PX 24 p I) (hx : LX 30 p (asm x B (lHa x) L) I) (hl : V.length ≤ 12) (h0 : I 57 0 = fi) (h1 : I 57 1 = nI V.length) (hV : VL 58 59 60 V I) (he : ∀ e, e ∈ V → e.1 < pHc p)
    (H : ∀ J, LX 30 p (asm x B (hbe fi (V.foldl (hbf p) (0, lHa x))) L) J → Same [39] I J → Q J) : Wv mX11_learnHabits [.ref 0, .ref 57] I Q := by
  have hhc := hp.2.2.2.1
  have hnc := hp.2.1
  have hn2 := hp.1
  have e1 : ∀ a w, nI a * (10 : Int32) + nI w = nI (10 * a + w) := by
    intro a w; rw [show nI a * (10 : Int32) = nI (a * 10) from pk_mul a 10, nI_add, Nat.mul_comm]
  have go : ∀ (rest pre : List (Nat × Nat × Nat)) (s : Nat × (Nat → Nat)) (J : MI), V = pre ++ rest → s.1 < pNc p → LX 30 p (asm x B s.2 L) J → Same [39] I J → rest.foldl (hbf p) s = V.foldl (hbf p) (0, lHa x) → LX11_learnHabits_4 (nI s.1) (nI pre.length) J Q := by
    intro rest
    induction rest with
    | nil =>
      intro pre s J hr hs hxJ sj ht
      have ht' : s = V.foldl (hbf p) (0, lHa x) := ht
      rw [← ht'] at H
      have j57 : J 57 = I 57 := sj 57 (by simp)
      refine rX11_learnHabits_4 ⟨fun _ => ⟨fun z => ?_, fun z => ⟨fun y => ?_, fun y => ?_⟩⟩, fun q => absurd ?_ q⟩
      · rw [nI_zero, ieq (by omega) (by decide)] at z
        refine H J ?_ sj
        unfold hbe
        rw [if_neg (fun w => w.1 z)]
        exact hxJ
      · rw [j57, h0] at y
        refine H J ?_ sj
        unfold hbe
        rw [if_neg (fun w => w.2 y)]
        exact hxJ
      · rw [j57, h0] at y
        have z' : s.1 ≠ 0 := fun w => z (by rw [w]; rfl)
        rw [nI_zero, e1, cl (by omega)]
        refine ⟨ci (by omega) (by decide), ci (by omega) (by decide), fun I1 d1 => H I1 ?_ (by rw [d1]; exact sj.u2 (by simp))⟩
        unfold hbe
        rw [if_pos ⟨z', y⟩]
        have v39 : J 39 (10 * s.1 + 0) = nI (s.2 (10 * s.1 + 0)) := hxJ.2.2.2.2.2.1 s.1 0 hs (by omega)
        rw [v39, nI_s] at d1
        rw [d1]
        exact LX_Ha hxJ
      · rw [sj 57 (by simp), h1, hr]; simp
    | cons e rest ih =>
      intro pre s J hr hs hxJ sj ht
      have hlen : V.length = pre.length + (rest.length + 1) := by rw [hr]; simp
      have hge : V.getD pre.length (0, 0, 0) = e := by rw [hr]; exact getD_mid _ _ _ _
      have hv := hV pre.length (by omega)
      rw [hge] at hv
      have heh : e.1 < pHc p := he e (by rw [hr]; simp)
      have hpn := hp.2.2.2.2.2.2.2.2 e.1 heh
      have e58 : J 58 (nI pre.length).toNatClampNeg = nI e.1 := by rw [cl (by omega), sj 58 (by simp)]; exact hv.1
      have e28 : J 28 (nI e.1).toNatClampNeg = nI (pHn p e.1) := by rw [cl (by omega), sj 28 (by simp)]; exact (hP.2.2.2.2.2.2.2.2 e.1 heh).1
      have nx : ∀ K, LX 30 p (asm x B (hbf p s e).2 L) K → Same [39] I K → LX11_learnHabits_4 (nI (hbf p s e).1) (nI (pre.length + 1)) K Q := by
        intro K hK sK
        have := ih (pre ++ [e]) (hbf p s e) K (by rw [hr]; simp) (hbf_lt hp heh hs) hK sK ht
        rw [show (pre ++ [e]).length = pre.length + 1 by simp] at this
        exact this
      refine rX11_learnHabits_4 ⟨fun q => ?_, fun _ => ⟨ci (by omega) (by decide), ?_⟩⟩
      · rw [sj 57 (by simp), h1, ile (by omega) (by omega)] at q; omega
      · rw [e58, e28, ieq (by omega) (by omega), e1, cl (by omega)]
        refine ⟨ci (by omega) (by decide), fun q => rX11_learnHabits_56 ?_, fun q => ⟨ci (by omega) (by decide), ci (by omega) (by decide), fun I1 d1 => rX11_learnHabits_56 ?_⟩⟩
        · have : hbf p s e = s := by unfold hbf; rw [if_pos q]
          rw [this] at nx
          rw [nI_s]
          exact nx J hxJ sj
        · have : hbf p s e = (pHn p e.1, updN s.2 (10 * s.1 + pHn p e.1) (s.2 (10 * s.1 + pHn p e.1) + 1)) := by unfold hbf; rw [if_neg q]
          rw [this] at nx
          have v39 : J 39 (10 * s.1 + pHn p e.1) = nI (s.2 (10 * s.1 + pHn p e.1)) := hxJ.2.2.2.2.2.1 s.1 _ hs hpn.2.1
          rw [v39, nI_s] at d1
          rw [nI_s]
          refine nx I1 ?_ (by rw [d1]; exact sj.u2 (by simp))
          rw [d1]
          exact LX_Ha hxJ
  exact rX11_learnHabits (go V [] (0, lHa x) I rfl (by show 0 < pNc p; omega) hx Same.rf rfl)
theorem lg_40 : IsLg 40 := by unfold IsLg; decide
theorem lg_57 : IsLg 57 := by unfold IsLg; decide
/-- the class's end of a round -/
theorem sX_close {r : List Nat} {Q : Int32 → MI → Prop} (hp : PlOk p) (hok : LdOk p b x) (hb : b ≤ 100000) (hP : PX 24 p I) (hx : LX 30 p x I) (hT : TX p x r I) (hl : (kV (trav p x r)).length ≤ 12) (he : ∀ e, e ∈ kV (trav p x r) → e.1 < pHc p)
    (H : ∀ J, LX 30 p (nxt p x (trav p x r)) J → Same [30, 35, 36, 37, 39, 40, 41, 42, 43] I J → Q (nI (kV (trav p x r)).length) J) :
    Wv mX11_settleAccounts [.ref 0, .ref 57] I (fun I7 => (Wv mX11_learnHabits [.ref 0, .ref 57] I7 (fun I8 => (Wv mX3_copyFrom [.ref 40, .ref 57] I8 (fun I9 => (∀ I10 : MI, I10 = up2 I9 30 0 ((I9 30 0) + 1) → ∀ I11 : MI, I11 = up2 I10 30 1 0 → Q (I11 40 1) I11)))))) := by
  obtain ⟨t0, t1, t2, t3⟩ := hT
  have hday := hok.1
  refine sX_settle hp hok hb hx hl t1 t3 he (fun I7 l7 s7 => ?_)
  have f57 : I7 57 = I 57 := s7 57 (by simp)
  have V7 : VL 58 59 60 (kV (trav p x r)) I7 := by unfold VL; rw [s7 58 (by simp), s7 59 (by simp), s7 60 (by simp)]; exact t3
  refine sX_learn (fi := fin p x (trav p x r)) hp (PX_sam hP s7 (by simp)) l7 hl (by rw [f57]; exact t0) (by rw [f57]; exact t1) V7 he (fun I8 l8 s8 => ?_)
  have g57 : I8 57 = I 57 := (s8 57 (by simp)).trans f57
  have g58 : ∀ c, c = 58 ∨ c = 59 ∨ c = 60 → I8 c = I c := fun c hc => (s8 c (by rcases hc with h | h | h <;> simp [h])).trans (s7 c (by rcases hc with h | h | h <;> simp [h]))
  refine rX3_copyFrom lg_40 lg_57 (fun J1 e1 J2 e2 J3 e3 J4 e4 J5 e5 J6 e6 I10 e10 I11 e11 => ?_)
  have o1 : ∀ i, i ≠ 40 → J1 i = I8 i := fun i h => by rw [e1, up2_cell _ _ _ h]
  have o2 : ∀ i, i ≠ 40 → J2 i = J1 i := fun i h => by rw [e2, up2_cell _ _ _ h]
  have o3 : ∀ i, i ≠ 40 → J3 i = J2 i := fun i h => by rw [e3, up2_cell _ _ _ h]
  have o4 : ∀ i, i ≠ 40 + 1 → J4 i = J3 i := fun i h => by rw [e4, upA_ne _ _ h]
  have o5 : ∀ i, i ≠ 40 + 2 → J5 i = J4 i := fun i h => by rw [e5, upA_ne _ _ h]
  have o6 : ∀ i, i ≠ 40 + 3 → J6 i = J5 i := fun i h => by rw [e6, upA_ne _ _ h]
  have l6 : LX 30 p (sLog (asm x ((kV (trav p x r)).foldl (btf x) (lBo x, lDl x, lRt x)) (hbe (fin p x (trav p x r)) ((kV (trav p x r)).foldl (hbf p) (0, lHa x))) x.2.2.2) (lgOf p x (trav p x r))) J6 := by
    refine LX_log l8 (fun i hi => ?_) ?_ ?_ ?_ (fun v hv => ?_)
    · rw [o6 _ (by omega), o5 _ (by omega), o4 _ (by omega), o3 _ (by omega), o2 _ (by omega), o1 _ (by omega)]
    · rw [o6 _ (by decide), o5 _ (by decide), o4 _ (by decide), e3, up2_slot _ _ (by decide), e2, up2_slot _ _ (by decide), e1, up2_same, g57]; exact t0
    · rw [o6 _ (by decide), o5 _ (by decide), o4 _ (by decide), e3, up2_slot _ _ (by decide), e2, up2_same, o1 _ (by decide), g57]; exact t1
    · rw [o6 _ (by decide), o5 _ (by decide), o4 _ (by decide), e3, up2_same, o2 _ (by decide), o1 _ (by decide), g57]; exact t2
    · have hv' : v < (kV (trav p x r)).length := hv
      obtain ⟨a1, a2, a3⟩ := t3 v hv'
      refine ⟨?_, ?_, ?_⟩
      · rw [o6 _ (by decide), o5 _ (by decide), e4, show upA J3 (40 + 1) _ 41 = _ from if_pos rfl, sb_cpy0 (by omega), o3 _ (by decide), o2 _ (by decide), o1 _ (by decide), g58 _ (by decide)]; exact a1
      · rw [o6 _ (by decide), e5, show upA J4 (40 + 2) _ 42 = _ from if_pos rfl, sb_cpy0 (by omega), o4 _ (by decide), o3 _ (by decide), o2 _ (by decide), o1 _ (by decide), g58 _ (by decide)]; exact a2
      · rw [e6, show upA J5 (40 + 3) _ 43 = _ from if_pos rfl, sb_cpy0 (by omega), o5 _ (by decide), o4 _ (by decide), o3 _ (by decide), o2 _ (by decide), o1 _ (by decide), g58 _ (by decide)]; exact a3
  have d0 : J6 30 0 = nI (lDay x) := l6.1
  rw [d0, nI_s] at e10
  have l10 := LX_Day (y := lDay x + 1) l6
  rw [← e10] at l10
  have l11 := LX_Sk (y := 0) l10
  rw [show nI 0 = 0 from rfl, ← e11] at l11
  have a40 : I11 40 1 = nI (kV (trav p x r)).length := l11.2.2.2.2.2.2.2.1
  rw [a40]
  refine H I11 l11 (fun c hc => ?_)
  simp only [List.mem_cons, List.not_mem_nil, or_false, not_or] at hc
  rw [e11, up2_cell _ _ _ (by omega), e10, up2_cell _ _ _ (by omega), o6 _ (by omega), o5 _ (by omega), o4 _ (by omega), o3 _ (by omega), o2 _ (by omega), o1 _ (by omega), s8 c (by simp; omega), s7 c (by simp; omega)]
end
