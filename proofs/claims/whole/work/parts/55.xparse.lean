/-! parsing in the class -/
def p00 : Pl := ((2, 0, 0, 60, 300), (5, 10), (fun _ => 0), (fun _ => 0), (fun _ => 0), (fun _ => 0), (fun _ => 0))
def d00 : Dl := ((fun _ => 0), (fun _ => 0), (fun _ => 0), (fun _ => 0))
def mkL (d : Dl) : Ld := ((0, 0, d.1, d.2.1, d.2.2.1, d.2.2.2), ((fun _ => 0), (fun _ => 0), (fun _ => 0), (fun _ => 0)), (fun _ => 0), (-2, 0, 0, (fun _ => 0), (fun _ => 0), (fun _ => 0)))
def r00 (c : Nat → Nat) (n : Nat) : Rs := (0, tok c n 0, 0, p00, d00)
theorem ok00 : POk p00 d00 := ⟨⟨by decide, by decide, by decide, by decide, by decide, by decide, by decide, fun k hk => absurd hk (Nat.not_lt_zero k), fun k hk => absurd hk (Nat.not_lt_zero k)⟩, fun k hk => absurd hk (Nat.not_lt_zero k), fun k hk => absurd hk (Nat.not_lt_zero k)⟩
/-- the text read through -/
def prd2 (g : Nat → Int32) (n : Nat) : Rs := plp (fun j => cc (g j)) n 900 (r00 (fun j => cc (g j)) n)
theorem LdOk_mk {p : Pl} {d : Dl} (h : POk p d) (b : Nat) : LdOk p b (mkL d) := ⟨Nat.zero_le _, by show 0 < 4096; decide, h.2.1, h.2.2, fun _ _ _ _ => Nat.zero_le _, Nat.zero_le _⟩
section
variable {n : Nat} {g : Nat → Int32} {I : MI}
theorem xread {cnt : Nat} {Q : MI → Prop} (hg : Gok n g) (hB : BX cnt g I) (hn : n ≤ cnt) (hc : cnt ≤ 900) (H : ∀ J, XS n g (prd2 g n) J → FrP I J → Q J) : Wv mX5_readRound [.ref 3, .int (nI n)] I Q := by
  refine rX5_readRound (rX6_clear (fun I1 e1 I2 e2 I3 e3 I4 e4 I5 e5 I6 e6 I7 e7 J1 f1 J2 f2 => rX9_begin (fun x1 g1 J3 f3 J4 f4 => ?_)))
  have o7 : ∀ c, c ≠ 4 → I7 c = I c := fun c h => by rw [e7, up2_cell _ _ _ h, e6, up2_cell _ _ _ h, e5, up2_cell _ _ _ h, e4, up2_cell _ _ _ h, e3, up2_cell _ _ _ h, e2, up2_cell _ _ _ h, e1, up2_cell _ _ _ h]
  have oJ2 : ∀ c, c ≠ 3 → J2 c = I7 c := fun c h => by rw [f2, up2_cell _ _ _ h, f1, up2_cell _ _ _ h]
  have oJ4 : ∀ c, c ≠ 1 → J4 c = J2 c := fun c h => by rw [f4, up2_cell _ _ _ h, f3, up2_cell _ _ _ h]
  have j11 : J2 1 1 = nI cnt := by rw [oJ2 1 (by decide), o7 1 (by decide)]; exact hB.1
  have hx1 : x1 = nI n := by
    rw [g1, j11, minI (by omega) (by omega), Nat.min_eq_left hn]
  have hT : TxX n g J4 := ⟨by rw [f4, up2_slot _ _ (by decide), f3, up2_same, hx1], fun j hj => by rw [oJ4 2 (by decide), oJ2 2 (by decide), o7 2 (by decide)]; exact hB.2 j (by omega)⟩
  have hS : ∃ s0 k0, J4 1 3 = s0 ∧ J4 1 5 = k0 := ⟨_, _, rfl, rfl⟩
  have j14 : J4 1 4 = nI 0 := by rw [f4, up2_same]; rfl
  have nat : ∀ y : Int32, ∃ k : Nat, y = nI k := fun y => ⟨y.toBitVec.toNat, by
    apply Int32.toBitVec_inj.1
    show y.toBitVec = BitVec.ofNat 32 y.toBitVec.toNat
    rw [BitVec.ofNat_toNat]; simp⟩
  obtain ⟨s0, hs0⟩ := nat (J4 1 3)
  obtain ⟨k0, hk0⟩ := nat (J4 1 5)
  refine sX_adv (q := 0) (s0 := s0) (k0 := k0) hg hT (Nat.zero_le _) ⟨hs0, j14, hk0⟩ (fun K tK sK => ?_)
  have fr : FrP I K := fun c hc => by rw [sK.1 c (by omega), oJ4 c (by omega), oJ2 c (by omega), o7 c (by omega)]
  have k4 : K 4 = I7 4 := by rw [sK.1 4 (by decide), oJ4 4 (by decide), oJ2 4 (by decide)]
  have k3 : K 3 = J2 3 := by rw [sK.1 3 (by decide), oJ4 3 (by decide)]
  have i7 : I7 4 0 = 2 ∧ I7 4 1 = 0 ∧ I7 4 2 = 0 ∧ I7 4 3 = 60 ∧ I7 4 4 = 300 ∧ I7 4 5 = 5 ∧ I7 4 6 = 10 := by
    subst e1; subst e2; subst e3; subst e4; subst e5; subst e6; subst e7
    refine ⟨?_, ?_, ?_, ?_, ?_, ?_, ?_⟩ <;> simp [up2_ap]
  refine xloop hg 900 0 (r00 (fun j => cc (g j)) n) K rfl ⟨⟨TxX_S1 hT sK, Or.inl ⟨rfl, ⟨0, Nat.zero_le _, rfl⟩, tK, ?_, ?_⟩⟩, fun _ => ⟨⟨⟨?_, ?_, ?_, ?_, ?_, ?_, ?_, fun k hk => absurd hk (Nat.not_lt_zero k), fun k hk => absurd hk (Nat.not_lt_zero k)⟩, fun k hk => absurd hk (Nat.not_lt_zero k), fun k hk => absurd hk (Nat.not_lt_zero k), fun k hk => absurd hk (Nat.not_lt_zero k)⟩, ok00⟩, 0, 0, by decide, by decide, ?_, ?_⟩ (fun L hL fL => H L hL (fr.tr fL))
  · rw [k3, f2, up2_same]
  · rw [k3, f2, up2_slot _ _ (by decide), f1, up2_same]; rfl
  · rw [k4, i7.1]; rfl
  · rw [k4, i7.2.1]; rfl
  · rw [k4, i7.2.2.1]; rfl
  · rw [k4, i7.2.2.2.1]; rfl
  · rw [k4, i7.2.2.2.2.1]; rfl
  · rw [k4, i7.2.2.2.2.2.1]; rfl
  · rw [k4, i7.2.2.2.2.2.2]; rfl
  · rw [k4, i7.2.1]; rfl
  · rw [k4, i7.2.2.1]; rfl
/-- Plan.copyFrom -/
theorem sX_pcopy {p : Pl} {Q : MI → Prop} (hp : PlOk p) (hP : PX 4 p I) (H : ∀ J, PX 24 p J → (∀ c, c < 24 ∨ 29 < c → J c = I c) → Q J) : Wv mX6_copyFrom [.ref 24, .ref 4] I Q := by
  have hsc := hp.2.2.1
  have hhc := hp.2.2.2.1
  refine rX6_copyFrom (fun I1 e1 I2 e2 I3 e3 I4 e4 I5 e5 I6 e6 I7 e7 I8 e8 I9 e9 I10 e10 I11 e11 I12 e12 => ?_)
  have o1 : ∀ c, c ≠ 24 → I1 c = I c := fun c h => by rw [e1, up2_cell _ _ _ h]
  have o2 : ∀ c, c ≠ 24 → I2 c = I1 c := fun c h => by rw [e2, up2_cell _ _ _ h]
  have o3 : ∀ c, c ≠ 24 → I3 c = I2 c := fun c h => by rw [e3, up2_cell _ _ _ h]
  have o4 : ∀ c, c ≠ 24 → I4 c = I3 c := fun c h => by rw [e4, up2_cell _ _ _ h]
  have o5 : ∀ c, c ≠ 24 → I5 c = I4 c := fun c h => by rw [e5, up2_cell _ _ _ h]
  have o6 : ∀ c, c ≠ 24 → I6 c = I5 c := fun c h => by rw [e6, up2_cell _ _ _ h]
  have o7 : ∀ c, c ≠ 24 → I7 c = I6 c := fun c h => by rw [e7, up2_cell _ _ _ h]
  have o8 : ∀ c, c ≠ 25 → I8 c = I7 c := fun c h => by rw [e8, upA_ne _ _ h]
  have o9 : ∀ c, c ≠ 26 → I9 c = I8 c := fun c h => by rw [e9, upA_ne _ _ h]
  have o10 : ∀ c, c ≠ 27 → I10 c = I9 c := fun c h => by rw [e10, upA_ne _ _ h]
  have o11 : ∀ c, c ≠ 28 → I11 c = I10 c := fun c h => by rw [e11, upA_ne _ _ h]
  have o12 : ∀ c, c ≠ 29 → I12 c = I11 c := fun c h => by rw [e12, upA_ne _ _ h]
  obtain ⟨a0, a1, a2, a3, a4, a5, a6, a7, a8⟩ := hP
  refine H I12 ⟨?_, ?_, ?_, ?_, ?_, ?_, ?_, fun k hk => ⟨?_, ?_, ?_⟩, fun k hk => ⟨?_, ?_⟩⟩ (fun c hc => ?_)
  · rw [o12 _ (by decide), o11 _ (by decide), o10 _ (by decide), o9 _ (by decide), o8 _ (by decide), e7, up2_slot _ _ (by decide), e6, up2_slot _ _ (by decide), e5, up2_slot _ _ (by decide), e4, up2_slot _ _ (by decide), e3, up2_slot _ _ (by decide), e2, up2_slot _ _ (by decide), e1, up2_same]; exact a0
  · rw [o12 _ (by decide), o11 _ (by decide), o10 _ (by decide), o9 _ (by decide), o8 _ (by decide), e7, up2_slot _ _ (by decide), e6, up2_slot _ _ (by decide), e5, up2_slot _ _ (by decide), e4, up2_slot _ _ (by decide), e3, up2_slot _ _ (by decide), e2, up2_same, o1 _ (by decide)]; exact a1
  · rw [o12 _ (by decide), o11 _ (by decide), o10 _ (by decide), o9 _ (by decide), o8 _ (by decide), e7, up2_slot _ _ (by decide), e6, up2_slot _ _ (by decide), e5, up2_slot _ _ (by decide), e4, up2_slot _ _ (by decide), e3, up2_same, o2 _ (by decide), o1 _ (by decide)]; exact a2
  · rw [o12 _ (by decide), o11 _ (by decide), o10 _ (by decide), o9 _ (by decide), o8 _ (by decide), e7, up2_slot _ _ (by decide), e6, up2_slot _ _ (by decide), e5, up2_slot _ _ (by decide), e4, up2_same, o3 _ (by decide), o2 _ (by decide), o1 _ (by decide)]; exact a3
  · rw [o12 _ (by decide), o11 _ (by decide), o10 _ (by decide), o9 _ (by decide), o8 _ (by decide), e7, up2_slot _ _ (by decide), e6, up2_slot _ _ (by decide), e5, up2_same, o4 _ (by decide), o3 _ (by decide), o2 _ (by decide), o1 _ (by decide)]; exact a4
  · rw [o12 _ (by decide), o11 _ (by decide), o10 _ (by decide), o9 _ (by decide), o8 _ (by decide), e7, up2_slot _ _ (by decide), e6, up2_same, o5 _ (by decide), o4 _ (by decide), o3 _ (by decide), o2 _ (by decide), o1 _ (by decide)]; exact a5
  · rw [o12 _ (by decide), o11 _ (by decide), o10 _ (by decide), o9 _ (by decide), o8 _ (by decide), e7, up2_same, o6 _ (by decide), o5 _ (by decide), o4 _ (by decide), o3 _ (by decide), o2 _ (by decide), o1 _ (by decide)]; exact a6
  · rw [o12 _ (by decide), o11 _ (by decide), o10 _ (by decide), o9 _ (by decide), e8, show upA I7 25 _ (24 + 1) = _ from if_pos rfl, sb_cpy0 (by omega), o7 _ (by decide), o6 _ (by decide), o5 _ (by decide), o4 _ (by decide), o3 _ (by decide), o2 _ (by decide), o1 _ (by decide)]; exact (a7 k hk).1
  · rw [o12 _ (by decide), o11 _ (by decide), o10 _ (by decide), e9, show upA I8 26 _ (24 + 2) = _ from if_pos rfl, sb_cpy0 (by omega), o8 _ (by decide), o7 _ (by decide), o6 _ (by decide), o5 _ (by decide), o4 _ (by decide), o3 _ (by decide), o2 _ (by decide), o1 _ (by decide)]; exact (a7 k hk).2.1
  · rw [o12 _ (by decide), o11 _ (by decide), e10, show upA I9 27 _ (24 + 3) = _ from if_pos rfl, sb_cpy0 (by omega), o9 _ (by decide), o8 _ (by decide), o7 _ (by decide), o6 _ (by decide), o5 _ (by decide), o4 _ (by decide), o3 _ (by decide), o2 _ (by decide), o1 _ (by decide)]; exact (a7 k hk).2.2
  · rw [o12 _ (by decide), e11, show upA I10 28 _ (24 + 4) = _ from if_pos rfl, sb_cpy0 (by omega), o10 _ (by decide), o9 _ (by decide), o8 _ (by decide), o7 _ (by decide), o6 _ (by decide), o5 _ (by decide), o4 _ (by decide), o3 _ (by decide), o2 _ (by decide), o1 _ (by decide)]; exact (a8 k hk).1
  · rw [e12, show upA I11 29 _ (24 + 5) = _ from if_pos rfl, sb_cpy0 (by omega), o11 _ (by decide), o10 _ (by decide), o9 _ (by decide), o8 _ (by decide), o7 _ (by decide), o6 _ (by decide), o5 _ (by decide), o4 _ (by decide), o3 _ (by decide), o2 _ (by decide), o1 _ (by decide)]; exact (a8 k hk).2
  · rw [o12 _ (by omega), o11 _ (by omega), o10 _ (by omega), o9 _ (by omega), o8 _ (by omega), o7 _ (by omega), o6 _ (by omega), o5 _ (by omega), o4 _ (by omega), o3 _ (by omega), o2 _ (by omega), o1 _ (by omega)]
theorem sX_empty {Q : MI → Prop} (H : ∀ J, J 260 0 = 0 → J 260 1 = 0 → (∀ c, c ≠ 260 → J c = I c) → Q J) : Wv mX11_emptySlots [.ref 0] I Q := by
  have vn : vp_nar .boolean 0 = (0 : Int32) := rfl
  refine rX11_emptySlots (rX11_emptySlots_2 ⟨fun q => absurd q (by decide), fun _ => ⟨vpn 0 (by decide) (by decide), fun J1 e1 => rX11_emptySlots_2 ⟨fun q => absurd q (by decide), fun _ => ⟨vpn 1 (by decide) (by decide), fun J2 e2 => rX11_emptySlots_2 ⟨fun _ => H J2 ?_ ?_ (fun c hc => ?_), fun q => absurd (by decide) q⟩⟩⟩⟩⟩)
  · rw [e2, up2_slot _ _ (by decide), e1, vn]; exact up2_same _ _ _ _
  · rw [e2, vn]; exact up2_same _ _ _ _
  · rw [e2, up2_cell _ _ _ hc, e1, up2_cell _ _ _ hc]
end
