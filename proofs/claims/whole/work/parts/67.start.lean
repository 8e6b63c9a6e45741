/-! the law's start -/
theorem st_K {s : State} {args : Array Value} (htb : ∀ w ∈ tbl, w.before args s = true) : ∃ D : va_G, ∀ (c : Nat) (q : vw_C), vwCl[c]? = some q → u_Kn s q.1 q.2.1 q.2.2 (D.1 c) (D.2 c) := by
  have one : ∀ {ci : Nat} {C : String} {T : u_T} {N n : Nat} {ty : Nat → FieldType}, okC ci C T N ty → Cond.instantiable C n ∈ tbl → ∃ d : ClassId × (Nat → Nat), ∀ q : vw_C, vwCl[ci]? = some q → u_Kn s q.1 q.2.1 q.2.2 d.1 d.2 := by
    intro ci C T N n ty ho hin
    obtain ⟨cC, iS, h⟩ := u_known htb ho.2.1 (htb _ hin)
    exact ⟨(cC, iS), fun q hq => by
      have e := Option.some.inj (ho.1.symm.trans hq)
      rw [← e]
      exact h⟩
  have h0 : ∀ c : Nat, ∃ d : ClassId × (Nat → Nat), ∀ q : vw_C, vwCl[c]? = some q → u_Kn s q.1 q.2.1 q.2.2 d.1 d.2 := by
    intro c
    by_cases hc : c < 13
    · rcases (by omega : c = 0 ∨ c = 1 ∨ c = 2 ∨ c = 3 ∨ c = 4 ∨ c = 5 ∨ c = 6 ∨ c = 7 ∨ c = 8 ∨ c = 9 ∨ c = 10 ∨ c = 11 ∨ c = 12) with rfl | rfl | rfl | rfl | rfl | rfl | rfl | rfl | rfl | rfl | rfl | rfl | rfl
      · exact one okC0 in_0
      · exact one okC1 in_1
      · exact one okC2 in_2
      · exact one okC3 in_3
      · exact one okC4 in_4
      · exact one okC5 in_5
      · exact one okC6 in_6
      · exact one okC7 in_7
      · exact one okC8 in_8
      · exact one okC9 in_9
      · exact one okC10 in_10
      · exact one okC11 in_11
      · exact one okC12 in_12
    · refine ⟨(0, fun _ => 0), fun q hq => ?_⟩
      have hl := (List.getElem?_eq_some_iff.mp hq).1
      exact absurd (show c < 13 from hl) hc
  obtain ⟨f, hf⟩ := Classical.axiomOfChoice h0
  exact ⟨(fun c => (f c).1, fun c => (f c).2), fun c q hq => hf c q hq⟩
theorem st_A {s : State} {args : Array Value} {ty : FieldType} (h : (Cond.arrayClass ty).before args s = true) : ∃ cA : ClassId, ArrOfT s cA ty ∧ s.vm.findClass ("[" ++ ty.toString) = some cA := by
  obtain ⟨cA, kA, comp, h1, h2, h3⟩ := Cond.arrayClass_spec h
  exact ⟨cA, fun n z => ⟨fun k h => (by cases h), kA, h2, comp, h3⟩, h1⟩
theorem st_Q {s : State} {C : String} (h : va_AO C s) : ∃ cA : ClassId, ArrOfT s cA (.object C) ∧ va_RA s cA (.object C) := by
  obtain ⟨comp, cA, kA, h1, -, h2, h3, h4⟩ := Cond.arrayOver_spec h
  exact ⟨cA, fun n z => ⟨fun k h => (by cases h), kA, h2, comp, h3⟩, kA, comp, h2, h3, h1, h4⟩
def tmS (i : Nat) : Term := .string "DeliveryRound$Parser" ([54, 63, 75, 79, 86, 91, 136].getD i 0)
theorem mS1 : ∀ i, i < 7 → Cond.exactly (tmS i) "java/lang/String" ∈ flatC (Jvm.Cond.and given_1 narrow_1) := by decide +kernel
theorem mS2 : ∀ i, i < 7 → Cond.eq (.field (tmS i) "java/lang/String" "coder" "B") (.int 0) ∈ flatC (Jvm.Cond.and given_1 narrow_1) := by decide +kernel
theorem mS3 : ∀ i, i < 7 → Cond.arrayOf (.field (tmS i) "java/lang/String" "value" "[B") .byte ∈ flatC (Jvm.Cond.and given_1 narrow_1) := by decide +kernel
theorem mS4 : ∀ i, i < 7 → Cond.eq (.length (.field (tmS i) "java/lang/String" "value" "[B")) (.int (Int32.ofNat (strLen.getD i 0))) ∈ flatC (Jvm.Cond.and given_1 narrow_1) := by decide +kernel
theorem mS5 : ∀ i, i < 7 → ∀ j, j < strLen.getD i 0 → Cond.eq (.elem (.field (tmS i) "java/lang/String" "value" "[B") (.int (Int32.ofNat j))) (.int ((strByt.getD i []).getD j 0)) ∈ flatC (Jvm.Cond.and given_1 narrow_1) := by decide +kernel
theorem mS6 : ∀ i, i < 7 → ∀ j, j < 7 → i ≠ j → Cond.not (Cond.eq (tmS i) (tmS j)) ∈ flatC (Jvm.Cond.and given_1 narrow_1) ∨ Cond.not (Cond.eq (tmS j) (tmS i)) ∈ flatC (Jvm.Cond.and given_1 narrow_1) := by decide +kernel
theorem mS7 : ∀ i, i < 7 → strLen.getD i 0 < 2 ^ 31 := by decide
theorem st_S {s : State} {args : Array Value} {A : Nat → Prop} (hts : ∀ w ∈ lw_tbl, w.before args s = true) (hgv : (Jvm.Cond.and given_1 narrow_1).before args s = true) (hA : ∀ a : Nat, a < s.heap.size → ¬ A a) : ∃ (f : Value) (adK adV : Nat → Nat), ∀ (d : va_G) (t : ClassId × ClassId × ClassId × ClassId), Sx (d, t, f, adK, adV) A s := by
  have hs := flat_of_before _ hgv
  obtain ⟨adK, adV, h1, h2⟩ := vk_Sof (tm := tmS) (len := strLen) (byt := strByt) mS7 (fun i hi => hs _ (mS1 i hi)) (fun i hi => hs _ (mS2 i hi)) (fun i hi => hs _ (mS3 i hi)) (fun i hi => hs _ (mS4 i hi)) (fun i hi j hj => hs _ (mS5 i hi j hj)) (fun i j hi hj hij => (mS6 i hi j hj hij).imp (fun q => hs _ q) (fun q => hs _ q)) hA
  have hz1 := va_Zof (hts _ (List.mem_of_getElem? (i := 563) (by decide +kernel))) (hts _ (List.mem_of_getElem? (i := 66) (by decide +kernel))) (va_eqi (hs _ (by decide +kernel : Cond.eq (.static "java/lang/String" "COMPACT_STRINGS" "Z") (.int 1) ∈ flatC (Jvm.Cond.and given_1 narrow_1)))) hA
  have hz2 := va_Zqof (C := "jdk/internal/util/Preconditions") (n := "SIOOBE_FORMATTER") (d := "Ljava/util/function/BiFunction;") (hts _ (List.mem_of_getElem? (i := 579) (by decide +kernel))) (hts _ (List.mem_of_getElem? (i := 68) (by decide +kernel))) (hs _ (by decide +kernel)) hA
  have hR : ∀ q ∈ strL, vk_R q.1 q.2.1 q.2.2.1 (adK q.2.2.2) s := by
    exact List.forall_mem_cons.mpr ⟨vk_R.of (hts _ (List.mem_of_getElem? (i := 549) (by decide +kernel))) (h2 0 (by decide)), List.forall_mem_cons.mpr ⟨vk_R.of (hts _ (List.mem_of_getElem? (i := 623) (by decide +kernel))) (h2 1 (by decide)), List.forall_mem_cons.mpr ⟨vk_R.of (hts _ (List.mem_of_getElem? (i := 624) (by decide +kernel))) (h2 2 (by decide)), List.forall_mem_cons.mpr ⟨vk_R.of (hts _ (List.mem_of_getElem? (i := 625) (by decide +kernel))) (h2 3 (by decide)), List.forall_mem_cons.mpr ⟨vk_R.of (hts _ (List.mem_of_getElem? (i := 626) (by decide +kernel))) (h2 4 (by decide)), List.forall_mem_cons.mpr ⟨vk_R.of (hts _ (List.mem_of_getElem? (i := 639) (by decide +kernel))) (h2 6 (by decide)), List.forall_mem_cons.mpr ⟨vk_R.of (hts _ (List.mem_of_getElem? (i := 640) (by decide +kernel))) (h2 5 (by decide)), List.forall_mem_cons.mpr ⟨vk_R.of (hts _ (List.mem_of_getElem? (i := 1226) (by decide +kernel))) (va_eqR (hs _ (by decide +kernel : Cond.eq (tmS 4) (.string "DeliveryRoundModel" 168) ∈ flatC (Jvm.Cond.and given_1 narrow_1))) (h2 4 (by decide))), List.forall_mem_cons.mpr ⟨vk_R.of (hts _ (List.mem_of_getElem? (i := 1249) (by decide +kernel))) (va_eqR (hs _ (by decide +kernel : Cond.eq (tmS 6) (.string "DeliveryRoundModel" 159) ∈ flatC (Jvm.Cond.and given_1 narrow_1))) (h2 6 (by decide))), List.forall_mem_cons.mpr ⟨vk_R.of (hts _ (List.mem_of_getElem? (i := 1250) (by decide +kernel))) (va_eqR (hs _ (by decide +kernel : Cond.eq (tmS 5) (.string "DeliveryRoundModel" 173) ∈ flatC (Jvm.Cond.and given_1 narrow_1))) (h2 5 (by decide))), List.forall_mem_cons.mpr ⟨vk_R.of (hts _ (List.mem_of_getElem? (i := 1255) (by decide +kernel))) (va_eqR (hs _ (by decide +kernel : Cond.eq (tmS 0) (.string "DeliveryRoundModel" 178) ∈ flatC (Jvm.Cond.and given_1 narrow_1))) (h2 0 (by decide))), List.forall_mem_cons.mpr ⟨vk_R.of (hts _ (List.mem_of_getElem? (i := 1260) (by decide +kernel))) (va_eqR (hs _ (by decide +kernel : Cond.eq (tmS 1) (.string "DeliveryRoundModel" 183) ∈ flatC (Jvm.Cond.and given_1 narrow_1))) (h2 1 (by decide))), List.forall_mem_cons.mpr ⟨vk_R.of (hts _ (List.mem_of_getElem? (i := 1261) (by decide +kernel))) (va_eqR (hs _ (by decide +kernel : Cond.eq (tmS 2) (.string "DeliveryRoundModel" 185) ∈ flatC (Jvm.Cond.and given_1 narrow_1))) (h2 2 (by decide))), List.forall_mem_cons.mpr ⟨vk_R.of (hts _ (List.mem_of_getElem? (i := 1262) (by decide +kernel))) (va_eqR (hs _ (by decide +kernel : Cond.eq (tmS 3) (.string "DeliveryRoundModel" 187) ∈ flatC (Jvm.Cond.and given_1 narrow_1))) (h2 3 (by decide))), fun _ h => absurd h List.not_mem_nil⟩⟩⟩⟩⟩⟩⟩⟩⟩⟩⟩⟩⟩⟩
  rcases hz2 with h | ⟨t, h⟩
  · exact ⟨.null, adK, adV, fun d t => ⟨h1, hR, hz1, h, Or.inl rfl⟩⟩
  · exact ⟨.ref t, adK, adV, fun d _ => ⟨h1, hR, hz1, h, Or.inr ⟨t, rfl⟩⟩⟩
theorem st_N {s : State} {args : Array Value} (hts : ∀ w ∈ lw_tbl, w.before args s = true) : Nx s := by
  refine ⟨va_AO.of (hts _ (List.mem_of_getElem? (i := 463) (by decide +kernel))), ?_⟩
  exact List.forall_mem_cons.mpr ⟨va_Nw.of rfl (hts _ (List.mem_of_getElem? (i := 82) (by decide +kernel))), List.forall_mem_cons.mpr ⟨va_Nw.of rfl (hts _ (List.mem_of_getElem? (i := 201) (by decide +kernel))), List.forall_mem_cons.mpr ⟨va_Nw.of rfl (hts _ (List.mem_of_getElem? (i := 323) (by decide +kernel))), List.forall_mem_cons.mpr ⟨va_Nw.of rfl (hts _ (List.mem_of_getElem? (i := 358) (by decide +kernel))), List.forall_mem_cons.mpr ⟨va_Nw.of rfl (hts _ (List.mem_of_getElem? (i := 378) (by decide +kernel))), List.forall_mem_cons.mpr ⟨va_Nw.of rfl (hts _ (List.mem_of_getElem? (i := 464) (by decide +kernel))), fun _ h => absurd h List.not_mem_nil⟩⟩⟩⟩⟩⟩
section
variable {G : gG} {ad0 : Nat → Nat} {A : Nat → Prop} {p : Program} {l : Launch} {e : Env} {s : State} {m : MethodId} {args : Array Value} {below : List Frame} {meth : Method} {c : Code} {Qf : State → Prop} {L : Nat} {xs : Nat → Int32}
theorem law_walk (sc : Scp ad0 A s L xs) (hL : L ≤ 3072) (hend : ∀ (cs ss : Nat), cs ≤ 600000 → ss ≤ 7302250 → ∀ (i : Nat) (I : MI), WB G ad0 0 A p l e room_1 s m args below meth c Qf mLaw cs ss 286 Rf0 1180 (lsL i) [] I) : WB G ad0 0 A p l e room_1 s m args below meth c Qf mLaw 0 0 0 (fun _ _ => none) 0 [some (.ref 999), none, none, none] [] (fun _ _ => 0) := by
  refine wb_new (N := 12) (n' := 1) dL_0 clL_7 in_11 ini_11 okC11 kd_0 (by decide) dv_11 (Nat.le_of_ble_eq_true rfl) (Nat.le_of_ble_eq_true rfl) rfl rfl rfl (fun hz hr => ?_)
  refine wb_dup dL_3 rfl ?_
  refine wb_ctor (As := []) (nE := 261) dL_4 (Or.inl mlL_9) okX11_init im_11 rfl rfl rfl (Nat.le_of_ble_eq_true rfl) ⟨(Nat.le_of_ble_eq_true rfl), (Nat.le_of_ble_eq_true rfl)⟩ ⟨(Nat.le_of_ble_eq_true rfl), (Nat.le_of_ble_eq_true rfl)⟩ (Nat.le_of_ble_eq_true rfl) rfl rfl (by decide) (fun _ => nX11 hz hr) (fun R1 I1 hi1 q1 => ?_)
  refine wb_astore_n (ls' := [some (.ref 999), some (.ref 0), none, none]) dL_7 rfl (by decide) rfl rfl ?_
  refine wb_new (N := 45) (n' := 262) dL_8 clL_10 in_12 ini_12 okC12 kd_261 (by decide) dv_12 (Nat.le_of_ble_eq_true rfl) (Nat.le_of_ble_eq_true rfl) rfl rfl rfl (fun hz2 hr2 => ?_)
  refine wb_dup dL_11 rfl ?_
  refine wb_ctor (As := []) (nE := 286) dL_12 (Or.inl mlL_12) okX12_init im_12 rfl rfl rfl (Nat.le_of_ble_eq_true rfl) ⟨(Nat.le_of_ble_eq_true rfl), (Nat.le_of_ble_eq_true rfl)⟩ ⟨(Nat.le_of_ble_eq_true rfl), (Nat.le_of_ble_eq_true rfl)⟩ (Nat.le_of_ble_eq_true rfl) rfl rfl (by decide) (fun _ => nX12 (fun c hc => q1.2 c (Nat.zero_le c) hc) hz2 hr2) (fun R2 I2 hi2 q2 => ?_)
  obtain ⟨q3, q4⟩ := q2
  subst q3
  refine wb_astore_n (ls' := [some (.ref 999), some (.ref 0), some (.ref 261), none]) dL_15 rfl (by decide) rfl rfl ?_
  refine wb_iconst (v := nI (6 * 0)) dL_16 rfl ?_
  refine wb_istore_n (ls' := lsL 0) dL_17 rfl (by decide) rfl rfl ?_
  exact law_loop sc hL ⟨(Nat.le_of_ble_eq_true rfl), (Nat.le_of_ble_eq_true rfl)⟩ (fun i I => hend _ _ (Nat.le_of_ble_eq_true rfl) (Nat.le_of_ble_eq_true rfl) i I) L 0 I2 (by omega) (by decide) q4
end
theorem wb_end {G : gG} {ad0 : Nat → Nat} {p : Program} {l : Launch} {e : Env} {s : State} {m : MethodId} {below : List Frame} {meth : Method} {c : Code} {b cs ss i : Nat} {I : MI} (hcs : cs ≤ 600000) (hss : ss ≤ 7302250) : WB G ad0 0 (fun q => s.heap.size ≤ q) p l e room_1 s m #[Value.ref b] below meth c (lw_Z below #[Value.ref b] s) mLaw cs ss 286 Rf0 1180 (lsL i) [] I := by
  refine wb_iconst (v := 1) dL_1180 rfl ?_
  intro C N hn hi ad H locs lsA ha hP hD hS hl
  refine va_forget hS.2.2 ?_
  refine W.widen hcs hss ?_
  exact lw_ret C.1 C.2.1 C.2.2.1 C.2.2.2.2.2.2.1 dL_1181
theorem whole_start {p : Program} {e : Env} {s : State} {m : MethodId} {below : List Frame} {meth : Method} {c : Code} (l : Launch) (hflags : l.flags = flags0) {b L : Nat} {xs : Nat → Int32} (hL : L ≤ 3072) (C0 : lw_At p s m meth c b L xs) : W p l e room_1 s m #[Value.ref b] below meth c s.heap [] 0 0 (lw_Z below #[Value.ref b] s) (entryFrame m ([Value.ref b] : List Value).toArray 4) := by
  obtain ⟨hx, hb, hr, hml, hown, hts, hX, hbl, hlk, hgv⟩ := C0
  have htb : ∀ w ∈ tbl, w.before #[Value.ref b] s = true := fun w hw => hts w (tb_lw hw)
  have hA : ∀ a : Nat, a < s.heap.size → ¬ (fun q => s.heap.size ≤ q) a := fun a h q => absurd h (Nat.not_lt.mpr q)
  have N := st_N hts
  obtain ⟨D, hD⟩ := st_K htb
  obtain ⟨cI, i1, i2⟩ := st_A (htb _ acI)
  obtain ⟨cB, b1, b2⟩ := st_A (htb _ acB)
  obtain ⟨cZ, z1, z2⟩ := st_A (htb _ acZ)
  obtain ⟨cQ, r1, r2⟩ := st_Q N.1
  obtain ⟨f, adK, adV, hSx⟩ := st_S (A := fun q => s.heap.size ≤ q) hts hgv hA
  have hK : va_K D vwCl [(cI, .int), (cB, .byte), (cZ, .boolean), (cQ, .object "DeliveryRound$State")] s := by
    refine ⟨hD, fun k q hq => ?_⟩
    rcases (by omega : k = 0 ∨ k = 1 ∨ k = 2 ∨ k = 3 ∨ 4 ≤ k) with h | h | h | h | h
    · subst h; cases hq; exact ⟨i1, i2⟩
    · subst h; cases hq; exact ⟨b1, b2⟩
    · subst h; cases hq; exact ⟨z1, z2⟩
    · subst h; cases hq; exact ⟨r1, r2⟩
    · rw [List.getElem?_eq_none (by exact h)] at hq; cases hq
  have C : Cb (D, (cI, cB, cZ, cQ), f, adK, adV) mLaw (fun q => s.heap.size ≤ q) p s m #[Value.ref b] meth c := ⟨hx, hb, hr, hml, hown, htb, hlk, hK, fun q h => h, hSx _ _⟩
  have main := law_walk (G := (D, (cI, cB, cZ, cQ), f, adK, adV)) (ad0 := fun c => if c = 999 then b else 0) (p := p) (l := l) (e := e) (m := m) (args := #[Value.ref b]) (below := below) (meth := meth) (c := c) (Qf := lw_Z below #[Value.ref b] s) (show Scp (fun c => if c = 999 then b else 0) (fun q => s.heap.size ≤ q) s L xs from ⟨hX, hbl, hA _ hbl⟩) hL (fun cs ss h1 h2 i I => wb_end h1 h2)
  have hl := lv_entry ([Value.ref b]) (n := 4) (Nat.le_of_ble_eq_true rfl)
  rw [lg_entry_eq]
  refine main C N (Nat.le_refl 0) ⟨fun c k r h => absurd h (Nat.not_lt_zero c), fun _ _ => rfl, fun _ _ _ => rfl⟩ _ s.heap [] _ (fun _ _ => rfl) (fun k q h => by cases h) ⟨fun i j p q h => (by cases h), fun k q h => (by cases h)⟩ va_S.rf ⟨hl.1, hl.2.1, fun k v hk => ?_⟩
  rcases (by omega : k = 0 ∨ k = 1 ∨ k = 2 ∨ k = 3 ∨ 4 ≤ k) with h | h | h | h | h
  · subst h; cases hk
    exact hl.2.2 (0, .ref b) List.mem_cons_self
  · subst h; cases hk
  · subst h; cases hk
  · subst h; cases hk
  · rw [List.getElem?_eq_none (by exact h)] at hk; cases hk
