/-! what the statements keep -/
theorem pset_0 {c : Nat → Nat} {n lo hi : Nat} {f : Nat → Zs → Zs} {r : Rs} (h : (pset c n lo hi f r).1 = 0) : r.1 = 0 ∧ (pnum c n lo hi r).1 = 0 ∧ ∃ v z, lo ≤ v ∧ v ≤ hi ∧ z = (pnum c n lo hi r).2 ∧ z.2 = r.2.2 ∧ (pset c n lo hi f r).2 = f v z := by
  unfold pset at h ⊢
  by_cases q : (pnum c n lo hi r).1 = 0
  · rw [if_pos q]
    obtain ⟨a1, a2, a3, a4, a5⟩ := pnum_0 q
    exact ⟨a1, q, _, _, a3, a4, rfl, a5, rfl⟩
  · rw [if_neg q] at h; exact absurd h q
theorem or16 {m j : Nat} (hm : m < 16) (hj : j < 4) : m ||| 2 ^ j < 16 := Nat.or_lt_two_pow (n := 4) hm (Nat.pow_lt_pow_right (by decide) hj)
section
variable {c : Nat → Nat} {n : Nat}
theorem pstm_ok {r : Rs} (h0 : r.1 = 0) (ho : POk (rP r) (rD r)) (hm : rM r < 16) (hz : (pstm c n r).1 = 0) : POk (rP (pstm c n r)) (rD (pstm c n r)) ∧ rM (pstm c n r) < 16 := by
  obtain ⟨⟨c1, c2, c3, c4, c5, c6, c7, c8, c9⟩, o2, o3⟩ := ho
  -- a field
  have fld : ∀ (j lo hi : Nat) (f : Nat → Zs → Zs) (r1 : Rs), j < 4 → (r1.1 = 0 → r1 = r) → (pset c n lo hi f (pone c n j r1)).1 = 0 → (∀ v z, (f v z).2.1 = z.2.1) → ∃ v z, lo ≤ v ∧ v ≤ hi ∧ z.2.2 = r.2.2.2 ∧ (pset c n lo hi f (pone c n j r1)).2 = f v z ∧ rM (pset c n lo hi f (pone c n j r1)) < 16 ∧ r1.1 = 0 := by
    intro j lo hi f r1 hj hr h1 hf
    obtain ⟨a1, -, v, z, a2, a3, -, a4, a5⟩ := pset_0 h1
    obtain ⟨b1, b2, b3⟩ := pone_0 a1
    have er := hr b1
    subst er
    refine ⟨v, z, a2, a3, ?_, a5, ?_, b1⟩
    · rw [a4, b3]
    · show (pset c n lo hi f (pone c n j r1)).2.2.1 < 16
      rw [a5, hf, a4, b3]
      exact or16 hm hj
  have st : ∀ (r2 : Rs) (z : Zs), r2.2 = z → POk z.2.2.1 z.2.2.2 → POk (rP r2) (rD r2) := fun r2 z e h => by
    show POk r2.2.2.2.1 r2.2.2.2.2
    rw [e]; exact h
  unfold pstm at hz ⊢
  by_cases w0 : isW c (rT r) 0 = true
  · rw [if_pos w0] at hz ⊢
    unfold pnodes at hz ⊢
    obtain ⟨v, z, v1, v2, e1, e2, e3, e4⟩ := fld 0 2 10 sNc _ (by decide) (fun q => by
      by_cases y : 0 < pSc (rP r) ∨ 0 < pHc (rP r)
      · rw [if_pos y] at q; unfold perr at q; rw [if_pos h0] at q; exact absurd q (by show ¬ 8 * (rT r).1 + 1 = 0; omega)
      · rw [if_neg y]) hz (fun _ _ => rfl)
    have y : ¬ (0 < pSc (rP r) ∨ 0 < pHc (rP r)) := fun y => by
      rw [if_pos y] at e4; unfold perr at e4; rw [if_pos h0] at e4; exact absurd e4 (by show ¬ 8 * (rT r).1 + 1 = 0; omega)
    refine ⟨st _ _ e2 ?_, e3⟩
    obtain ⟨z1, z2, z3, z4⟩ := z
    have e1' : (z3, z4) = r.2.2.2 := e1
    have e5 : z3 = rP r := congrArg Prod.fst e1'
    have e6 : z4 = rD r := congrArg Prod.snd e1'
    subst e5; subst e6
    refine ⟨⟨v1, v2, c3, c4, c5, c6, c7, fun k hk => ?_, fun k hk => ?_⟩, o2, o3⟩
    · have hk' : k < pSc (rP r) := hk; omega
    · have hk' : k < pHc (rP r) := hk; omega
  · rw [if_neg w0] at hz ⊢
    by_cases w1 : isW c (rT r) 1 = true
    · rw [if_pos w1] at hz ⊢
      obtain ⟨v, z, v1, v2, e1, e2, e3, e4⟩ := fld 1 10 200 sCap r (by decide) (fun _ => rfl) hz (fun _ _ => rfl)
      refine ⟨st _ _ e2 ?_, e3⟩
      obtain ⟨z1, z2, z3, z4⟩ := z
      have e1' : (z3, z4) = r.2.2.2 := e1
      have e5 : z3 = rP r := congrArg Prod.fst e1'
      have e6 : z4 = rD r := congrArg Prod.snd e1'
      subst e5; subst e6
      exact ⟨⟨c1, c2, c3, c4, v1, v2, c7, c8, c9⟩, o2, o3⟩
    · rw [if_neg w1] at hz ⊢
      by_cases w2 : isW c (rT r) 2 = true
      · rw [if_pos w2] at hz ⊢
        obtain ⟨v, z, v1, v2, e1, e2, e3, e4⟩ := fld 2 0 1439 sSt r (by decide) (fun _ => rfl) hz (fun _ _ => rfl)
        refine ⟨st _ _ e2 ?_, e3⟩
        obtain ⟨z1, z2, z3, z4⟩ := z
        have e1' : (z3, z4) = r.2.2.2 := e1
        have e5 : z3 = rP r := congrArg Prod.fst e1'
        have e6 : z4 = rD r := congrArg Prod.snd e1'
        subst e5; subst e6
        exact ⟨⟨c1, c2, c3, c4, c5, c6, v2, c8, c9⟩, o2, o3⟩
      · rw [if_neg w2] at hz ⊢
        by_cases w3 : isW c (rT r) 3 = true
        · rw [if_pos w3] at hz ⊢
          unfold pprice at hz ⊢
          obtain ⟨a1, -, v', z', a2, a3, -, a4, a5⟩ := pset_0 hz
          obtain ⟨v, z, v1, v2, e1, e2, e3, e4⟩ := fld 3 0 99 sPr r (by decide) (fun _ => rfl) a1 (fun _ _ => rfl)
          have hz2 : z'.2 = (sPr v z).2 := by rw [a4, e2]
          have e3' : (sPr v z).2.1 < 16 := by
            have q : (pset c n 0 99 sPr (pone c n 3 r)).2.2.1 < 16 := e3
            rw [e2] at q; exact q
          refine ⟨st _ _ a5 ?_, ?_⟩
          · obtain ⟨z1, z2, z3, z4⟩ := z
            obtain ⟨y1, y2, y3, y4⟩ := z'
            have e1' : (z3, z4) = r.2.2.2 := e1
            have e5 : z3 = rP r := congrArg Prod.fst e1'
            have e6 : z4 = rD r := congrArg Prod.snd e1'
            subst e5; subst e6
            have hy : (y2, y3, y4) = (z2, ((rP r).1, (nI v, pDe (rP r)), (rP r).2.2), rD r) := hz2
            have hy3 : y3 = ((rP r).1, (nI v, pDe (rP r)), (rP r).2.2) := congrArg (fun t => t.2.1) hy
            have hy4 : y4 = rD r := congrArg (fun t => t.2.2) hy
            subst hy3; subst hy4
            exact ⟨⟨c1, c2, c3, c4, c5, c6, c7, c8, c9⟩, o2, o3⟩
          · show (pset c n 0 99 sDe (pset c n 0 99 sPr (pone c n 3 r))).2.2.1 < 16
            rw [a5]
            show z'.2.1 < 16
            rw [hz2]; exact e3'
        · rw [if_neg w3] at hz ⊢
          by_cases w4 : isW c (rT r) 4 = true
          · rw [if_pos w4] at hz ⊢
            unfold pstreet at hz ⊢
            by_cases q1 : 18 ≤ pSc (rP r)
            · rw [if_pos q1] at hz; unfold perr at hz; rw [if_pos h0] at hz; exact absurd hz (by show ¬ 8 * (rT r).1 + 4 = 0; omega)
            · rw [if_neg q1] at hz ⊢
              by_cases q2 : (pst4 c n r).1 ≠ 0
              · rw [if_pos q2] at hz; exact absurd hz q2
              · rw [if_neg q2] at hz ⊢
                obtain ⟨p1, p2, p3, p4, p5, p6, p7, p8, p9, p10, p11⟩ := pst_0 (c := c) (n := n) (r := r) (by omega)
                have mk : ∀ F T : Nat, (T = 0 ∧ F = 0 ∨ F < T ∧ T ≤ 1440) → POk (addS (rP r) (stA c n r) (stB c n r) (stL c n r)) (addG (rD r) (pSc (rP r)) F T) := by
                  intro F T hFT
                  refine ⟨⟨c1, c2, by show pSc (rP r) + 1 ≤ 18; omega, c4, c5, c6, c7, fun k hk => ?_, c9⟩, o2, fun k hk => ?_⟩
                  · have hk' : k < pSc (rP r) + 1 := hk
                    show updN (pA (rP r)) (pSc (rP r)) _ k < pNc (rP r) ∧ updN (pB (rP r)) (pSc (rP r)) _ k < pNc (rP r) ∧ 1 ≤ updN (pL (rP r)) (pSc (rP r)) _ k ∧ updN (pL (rP r)) (pSc (rP r)) _ k ≤ 99
                    by_cases e : k = pSc (rP r)
                    · rw [e, updN_e, updN_e, updN_e]; omega
                    · rw [updN_n _ _ e, updN_n _ _ e, updN_n _ _ e]; exact c8 k (by omega)
                  · have hk' : k < pSc (rP r) + 1 := hk
                    show updN (rD r).2.2.2 (pSc (rP r)) T k = 0 ∧ updN (rD r).2.2.1 (pSc (rP r)) F k = 0 ∨ updN (rD r).2.2.1 (pSc (rP r)) F k < updN (rD r).2.2.2 (pSc (rP r)) T k ∧ updN (rD r).2.2.2 (pSc (rP r)) T k ≤ 1440
                    by_cases e : k = pSc (rP r)
                    · rw [e, updN_e, updN_e]; exact hFT
                    · rw [updN_n _ _ e, updN_n _ _ e]; exact o3 k (by omega)
                by_cases q3 : stG c n r = true
                · rw [if_pos q3] at hz ⊢
                  by_cases q4 : (pst6 c n r).1 = 0
                  · rw [if_pos q4]
                    obtain ⟨u1, u2, u3, u4, u5⟩ := pnum_0 q4
                    have u3' : stF c n r + 1 ≤ stT c n r := u3
                    have u4' : stT c n r ≤ 1440 := u4
                    exact ⟨mk _ _ (Or.inr ⟨by omega, u4'⟩), hm⟩
                  · rw [if_neg q4] at hz; exact absurd hz q4
                · rw [if_neg q3]
                  exact ⟨mk 0 0 (Or.inl ⟨rfl, rfl⟩), hm⟩
          · rw [if_neg w4] at hz ⊢
            by_cases w5 : isW c (rT r) 5 = true
            · rw [if_pos w5] at hz ⊢
              unfold phouse at hz ⊢
              by_cases q1 : 12 ≤ pHc (rP r)
              · rw [if_pos q1] at hz; unfold perr at hz; rw [if_pos h0] at hz; exact absurd hz (by show ¬ 8 * (rT r).1 + 4 = 0; omega)
              · rw [if_neg q1] at hz ⊢
                have P0 := pord_0 (n := n) (c := c) (r := r) 7
                have PL := pord_le (n := n) (c := c) (r := r) o2 7
                generalize pord c n r 7 = R at *
                by_cases q2 : R.1.1 = 0
                · rw [if_pos q2]
                  obtain ⟨z3, -⟩ := P0 q2
                  obtain ⟨k1, k2, k3, k4, k5, k6⟩ := pho_0 z3
                  refine ⟨⟨⟨c1, c2, c3, by show pHc (rP r) + 1 ≤ 12; omega, c5, c6, c7, c8, fun k hk => ?_⟩, fun i hi => ?_, o3⟩, hm⟩
                  · have hk' : k < pHc (rP r) + 1 := hk
                    show 1 ≤ updN (pHn (rP r)) (pHc (rP r)) _ k ∧ updN (pHn (rP r)) (pHc (rP r)) _ k < pNc (rP r) ∧ updN (pHw (rP r)) (pHc (rP r)) _ k ≤ 50
                    by_cases e : k = pHc (rP r)
                    · rw [e, updN_e, updN_e]; omega
                    · rw [updN_n _ _ e, updN_n _ _ e]; exact c9 k (by omega)
                  · have hi' : i < 7 * (pHc (rP r) + 1) := hi
                    exact PL q2 i (by omega)
                · rw [if_neg q2] at hz; exact absurd hz q2
            · rw [if_neg w5] at hz
              unfold perr at hz; rw [if_pos h0] at hz; exact absurd hz (by show ¬ 8 * (rT r).1 + 1 = 0; omega)
/-! the places go up -/
def GE (c : Nat → Nat) (n s : Nat) (r : Rs) : Prop := r.1 = 0 → sane c n (rT r) ∧ s ≤ (rT r).1
theorem GE_tok {s : Nat} {r : Rs} (h : GE c n s r) (h0 : r.1 = 0) : sane c n (tok c n (rT r).2.1) ∧ s ≤ (tok c n (rT r).2.1).1 := by
  obtain ⟨h1, h2⟩ := h h0
  have hb := sane_b h1
  have hf := tok_f (c := c) hb.2.1
  exact ⟨sane_next h1, by omega⟩
theorem GE_adv {s : Nat} {r : Rs} (h : GE c n s r) : GE c n s (padv c n r) := by
  intro z
  unfold padv at z ⊢
  by_cases h0 : r.1 = 0
  · rw [if_pos h0]; exact GE_tok h h0
  · rw [if_neg h0] at z; exact absurd z h0
theorem GE_num {s lo hi : Nat} {r : Rs} (h : GE c n s r) : GE c n s (pnum c n lo hi r) := by
  intro z
  obtain ⟨a1, a2, a3, a4, a5⟩ := pnum_0 z
  have e : pnum c n lo hi r = (0, tok c n (rT r).2.1, r.2.2) := by
    unfold pnum; rw [if_neg (by omega), if_neg (by omega), if_neg (by omega)]
  rw [e]
  exact GE_tok h a1
theorem GE_one {s j : Nat} {r : Rs} (h : GE c n s r) : GE c n s (pone c n j r) := by
  intro z
  obtain ⟨a1, a2, a3⟩ := pone_0 z
  have e : pone c n j r = (0, tok c n (rT r).2.1, rM r ||| 2 ^ j, r.2.2.2) := by
    unfold pone; rw [if_neg (by omega), if_neg (by rw [a2]; decide)]
  rw [e]
  exact GE_tok h a1
theorem GE_set {s lo hi : Nat} {f : Nat → Zs → Zs} {r : Rs} (hf : ∀ v z, (f v z).1 = z.1) (h : GE c n s r) : GE c n s (pset c n lo hi f r) := by
  intro z
  obtain ⟨a1, a2, v, y, -, -, ey, -, a5⟩ := pset_0 z
  have := GE_num (lo := lo) (hi := hi) h a2
  have e : rT (pset c n lo hi f r) = rT (pnum c n lo hi r) := by
    show (pset c n lo hi f r).2.1 = (pnum c n lo hi r).2.1
    rw [a5, hf, ey]
  rw [e]; exact this
theorem GE_err {s off k : Nat} {r : Rs} (hk : 1 ≤ k) (h : GE c n s r) : GE c n s (perr off k r) := by
  intro z
  unfold perr at z ⊢
  by_cases h0 : r.1 = 0
  · rw [if_pos h0] at z; exact absurd z (by show ¬ 8 * off + k = 0; omega)
  · rw [if_neg h0] at z; exact absurd z h0
theorem GE_ord {s : Nat} {r : Rs} (h : GE c n s r) : ∀ k, GE c n s (pord c n r k).1
  | 0 => GE_num (GE_num (GE_num (GE_adv h)))
  | k + 1 => GE_num (GE_ord h k)
theorem GE_st4 {s : Nat} {r : Rs} (h : GE c n s r) : GE c n s (pst4 c n r) := by
  refine GE_num ?_
  unfold pst3
  split
  · exact GE_err (by decide) (GE_num (GE_num (GE_adv h)))
  · exact GE_num (GE_num (GE_adv h))
theorem GE_stm {s : Nat} {r : Rs} (h : GE c n s r) : GE c n s (pstm c n r) := by
  unfold pstm
  split
  · unfold pnodes
    refine GE_set (fun _ _ => rfl) (GE_one ?_)
    split
    · exact GE_err (by decide) h
    · exact h
  · split
    · exact GE_set (fun _ _ => rfl) (GE_one h)
    · split
      · exact GE_set (fun _ _ => rfl) (GE_one h)
      · split
        · exact GE_set (fun _ _ => rfl) (GE_set (fun _ _ => rfl) (GE_one h))
        · split
          · unfold pstreet
            split
            · exact GE_err (by decide) h
            · split
              · exact GE_st4 h
              · rename_i q2
                split
                · split
                  · rename_i q4
                    intro _
                    exact (GE_num (GE_num (GE_adv (GE_st4 h))) : GE c n s (pst6 c n r)) q4
                  · exact GE_num (GE_num (GE_adv (GE_st4 h)))
                · intro _
                  exact GE_st4 h (by omega)
          · split
            · unfold phouse
              have G := GE_ord h 7
              generalize pord c n r 7 = R at *
              split
              · exact GE_err (by decide) h
              · split
                · rename_i q2
                  intro _
                  exact G q2
                · exact G
            · exact GE_err (by decide) h
theorem GE_semi {s : Nat} {r : Rs} (h : GE c n s r) : GE c n (s + 1) (psemi c n r) := by
  intro z
  unfold psemi at z ⊢
  by_cases h0 : r.1 ≠ 0
  · rw [if_pos h0] at z; exact absurd z h0
  · rw [if_neg h0] at z ⊢
    by_cases h3 : (rT r).2.2 ≠ 3
    · rw [if_pos h3] at z
      have : 8 * (rT r).1 + 1 = 0 := z
      omega
    · rw [if_neg h3]
      obtain ⟨k1, k2⟩ := h (by omega)
      have hb := sane_b k1
      have hl := hb.2.2.2.1 (by omega)
      have hf := tok_f (c := c) hb.2.1
      refine ⟨sane_next k1, ?_⟩
      show s + 1 ≤ (tok c n (rT r).2.1).1
      omega
theorem psemi_ok {r : Rs} (ho : r.1 = 0 → POk (rP r) (rD r) ∧ rM r < 16) (hz : (psemi c n r).1 = 0) : POk (rP (psemi c n r)) (rD (psemi c n r)) ∧ rM (psemi c n r) < 16 := by
  unfold psemi at hz ⊢
  by_cases h0 : r.1 ≠ 0
  · rw [if_pos h0] at hz; exact absurd hz h0
  · rw [if_neg h0] at hz ⊢
    by_cases h3 : (rT r).2.2 ≠ 3
    · rw [if_pos h3] at hz
      have : 8 * (rT r).1 + 1 = 0 := hz
      omega
    · rw [if_neg h3]
      exact ho (by omega)
end
section
variable {n : Nat} {g : Nat → Int32}
theorem mloop {a : Int32} {Q : Int32 → MI → Prop} (hg : Gok n g) : ∀ (m i : Nat) (r : Rs) (J : MI), m + i = 900 → MS n g r J → (r.1 = 0 → POk (rP r) (rD r) ∧ rM r < 16) → GE (fun j => cc (g j)) n i r → (∀ K, MS n g (plp (fun j => cc (g j)) n m r) K → FM J K → LX12_parse_151 a K Q) → LX12_parse_104 a J Q := by
  have hn := hg.1
  intro m
  induction m with
  | zero =>
    intro i r J hm hJ ho hge H
    have fin := H J hJ FM.rf
    refine rX12_parse_104 ⟨fun _ => fin, fun q => ⟨fun _ => fin, fun q2 => ?_⟩⟩
    have h0 : r.1 = 0 := (PTM_z hJ.1).mp q
    obtain ⟨hT, hs, ht, h8, h21⟩ := PTM_0 h0 hJ.1
    obtain ⟨k1, k2⟩ := hge h0
    have hb := sane_b k1
    exfalso
    apply q2
    rw [ht.2.2.1, (tkI_2 hb.2.2.1).2.1]
    rcases Nat.eq_zero_or_pos (rT r).2.2 with y | y
    · exact y
    · have := hb.2.2.2.1 (by omega)
      omega
  | succ m ih =>
    intro i r J hm hJ ho hge H
    simp only [plp] at H
    refine rX12_parse_104 ?_
    rw [PTM_z hJ.1]
    refine ⟨fun h0 => H J (by rw [if_pos (Or.inl h0)]; exact hJ) FM.rf, fun h0 => ?_⟩
    obtain ⟨hT, hs, ht, h8, h21⟩ := PTM_0 h0 hJ.1
    have hb := sane_b hs
    rw [ht.2.2.1, (tkI_2 hb.2.2.1).2.1]
    refine ⟨fun hk => H J (by rw [if_pos (Or.inr hk)]; exact hJ) FM.rf, fun hk => ?_⟩
    rw [if_neg (by omega)] at H
    obtain ⟨o1, o2⟩ := ho h0
    refine mstm hg h0 hJ o1 o2 (fun K hK fK => ?_)
    have ho2 : (pstm (fun j => cc (g j)) n r).1 = 0 → POk (rP (pstm (fun j => cc (g j)) n r)) (rD (pstm (fun j => cc (g j)) n r)) ∧ rM (pstm (fun j => cc (g j)) n r) < 16 := fun z => pstm_ok h0 o1 o2 z
    have hge2 : GE (fun j => cc (g j)) n (i + 1) (psemi (fun j => cc (g j)) n (pstm (fun j => cc (g j)) n r)) := GE_semi (GE_stm hge)
    generalize pstm (fun j => cc (g j)) n r = r1 at *
    -- the semicolon
    have next : ∀ L, MS n g (psemi (fun j => cc (g j)) n r1) L → FM K L → LX12_parse_104 a L Q := fun L hL fL => ih (i + 1) _ L (by omega) hL (psemi_ok ho2) hge2 (fun M hM fM => H M hM (fK.tr (fL.tr fM)))
    by_cases z1 : r1.1 = 0
    · obtain ⟨hT1, hs1, ht1, h81, h211⟩ := PTM_0 z1 hK.1
      have hb1 := sane_b hs1
      rw [ht1.2.2.1, (tkI_2 hb1.2.2.1).2.2.1]
      refine ⟨fun h3 => rX12_parse_137 (mmust (k := 1) hg hK.1 (by decide) (fun z => absurd rfl z) (fun _ L tL sL => ⟨fun _ => next L ?_ (FM_o sL), fun z => absurd rfl z⟩)), fun h3 => rX12_parse_137 (mmust (k := 1) hg hK.1 (by decide) (fun _ => ?_) (fun z => absurd z (by decide)))⟩
      · have e : psemi (fun j => cc (g j)) n r1 = perr (rT r1).1 1 r1 := by unfold psemi perr; rw [if_neg (by omega), if_pos h3, if_pos z1]
        rw [e]
        refine ⟨tL, fun z => ?_⟩
        unfold perr at z; rw [if_pos z1] at z; exact absurd z (by show ¬ 8 * (rT r1).1 + 1 = 0; omega)
      · rw [decide_eq_true z1]
        have e : psemi (fun j => cc (g j)) n r1 = padv (fun j => cc (g j)) n r1 := by unfold psemi padv; rw [if_neg (by omega), if_neg (by omega), if_pos z1]
        refine ⟨fun z => absurd z (by decide), fun _ => mnext hg z1 hK.1 (fun L tL sL => next L ?_ (FM_o sL))⟩
        rw [e]
        refine ⟨tL, fun z => ?_⟩
        have := hK.2 z1
        have p2 : (padv (fun j => cc (g j)) n r1).2.2 = r1.2.2 := (padv_2 _ _ _).2
        show DMp (padv (fun j => cc (g j)) n r1).2.2.2.1 (padv (fun j => cc (g j)) n r1).2.2.2.2 L
        rw [p2]
        exact DMp_of this (fun c a1 a2 => SO_c sL c (by omega))
    · have e : psemi (fun j => cc (g j)) n r1 = r1 := by unfold psemi; rw [if_pos z1]
      rw [e] at next
      have all : ∀ t, LX12_parse_137 a t K Q := fun t => rX12_parse_137 (mmust (k := 1) hg hK.1 (by decide) (fun _ => by
        rw [decide_eq_false z1]
        exact ⟨fun _ => next K hK FM.rf, fun z => absurd rfl z⟩) (fun _ L tL sL => ⟨fun _ => next L (by
          unfold perr at tL
          rw [if_neg z1] at tL
          exact ⟨tL, fun z => absurd z z1⟩) (FM_o sL), fun z => absurd rfl z⟩))
      exact ⟨fun _ => all 0, fun _ => all 1⟩
end
