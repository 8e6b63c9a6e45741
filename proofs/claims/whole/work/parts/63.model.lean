/-! the reference's constructor -/
theorem kd5 : ∀ i, i < 286 → (kd i).1 = 0 ∨ (kd i).1 = 1 ∨ (kd i).1 = 2 ∨ (kd i).1 = 3 ∨ (kd i).1 = 4 := by decide +kernel
theorem ce_rel {G : gG} {ad : Nat → Nat} {c : Nat} {r r' : Nat → Option Nat} {f : Nat → Int32} (hc : c < 286) (h : ∀ k, relv c k = true → r k = r' k) : ce G ad (kd c) r f = ce G ad (kd c) r' f := by
  obtain ⟨kk, N, hk⟩ : ∃ kk N, kd c = (kk, N) := ⟨_, _, rfl⟩
  have h5 := kd5 c hc
  rw [hk] at h5 ⊢
  rcases h5 with q | q | q | q | q
  · have q : kk = 0 := q
    subst q
    show Sum.inr (N, (List.range (nf N)).map (fv ad N r f)) = Sum.inr (N, (List.range (nf N)).map (fv ad N r' f))
    congr 2
    refine List.map_congr_left (fun k hm => ?_)
    unfold fv
    by_cases hf : fR N k = true
    · rw [if_pos hf, if_pos hf, h k (by rw [relv_o hk, hf, decide_eq_true (List.mem_range.mp hm)]; rfl)]
    · rw [if_neg hf, if_neg hf]
  · have q : kk = 1 := q
    subst q; rfl
  · have q : kk = 2 := q
    subst q; rfl
  · have q : kk = 3 := q
    subst q; rfl
  · have q : kk = 4 := q
    subst q
    have e : r = r' := funext fun k => h k (relv_q hk)
    rw [e]
theorem wl_rel {G : gG} {ad : Nat → Nat} {R : MR} {I : MI} (h : ∀ c, c < 286 → ∀ k, relv c k = true → R c k = Rf0 c k) : wl G ad 286 R I = wl G ad 286 Rf0 I := by
  refine List.map_congr_left (fun c hc => ?_)
  rw [ce_rel (List.mem_range.mp hc) (h c (List.mem_range.mp hc))]
theorem rf_lt : ∀ l, l ∈ RL0 → ∀ o, o ∈ l → o.all (fun r => decide (r < 286)) = true := by decide +kernel
theorem rl_len : RL0.length = 286 := by decide +kernel
theorem Inv_0 {I : MI} : Inv 286 Rf0 I := by
  refine ⟨fun c k r hc hk => ?_, fun c hc => ?_, fun c h1 h2 => by omega⟩
  · have hk2 : ((RL0.getD c []).getD k none) = some r := hk
    rw [List.getD_eq_getElem?_getD, List.getD_eq_getElem?_getD] at hk2
    cases h1 : RL0[c]? with
    | none => rw [h1] at hk2; simp at hk2
    | some l =>
      rw [h1] at hk2
      cases h2 : l[k]? with
      | none => simp [h2] at hk2
      | some o =>
        simp [h2] at hk2
        subst hk2
        have := rf_lt l (List.mem_of_getElem? h1) _ (List.mem_of_getElem? h2)
        exact of_decide_eq_true this
  · funext k
    show ((RL0.getD c []).getD k none) = none
    have h1 : RL0[c]? = none := List.getElem?_eq_none (by rw [rl_len]; exact hc)
    rw [List.getD_eq_getElem?_getD (l := RL0), h1]
    rfl
section
variable {G : gG} {ad0 : Nat → Nat} {n0 : Nat} {A : Nat → Prop} {p : Program} {l : Launch} {e : Env} {R : Room} {s : State} {m : MethodId} {args : Array Value} {below : List Frame} {meth : Method} {c : Code} {Qf : State → Prop} {μ : mD} {cs ss n : Nat} {Rf : MR} {pc : Nat} {ls : List (Option Value)} {st : List Value} {I : MI}
theorem wb_norm (h : ∀ i, i < 286 → ∀ k, relv i k = true → Rf i k = Rf0 i k) (K : WB G ad0 n0 A p l e R s m args below meth c Qf μ cs ss 286 Rf0 pc ls st I) : WB G ad0 n0 A p l e R s m args below meth c Qf μ cs ss 286 Rf pc ls st I := by
  intro C N hn hi ad H locs lsA ha hP hD hS hl
  rw [wl_rel h] at hP hD
  exact K C N hn Inv_0 ad H locs lsA ha hP hD hS hl
end
def Sm (n : Nat) (R0 : MR) (I0 : MI) (rt : Nat → Option Nat) (bv : Nat → Int32) (R : MR) (I : MI) : Prop :=
  (∀ c, c < 261 → R c = R0 c ∧ I c = I0 c) ∧ R 261 = rt ∧ I 261 = (fun _ => 0) ∧ (∀ c, 261 < c → c < n → c ≠ 263 → I c = fun _ => 0) ∧ (263 < n → I 263 = bv)
section
variable {n : Nat} {R0 : MR} {I0 : MI} {rt : Nat → Option Nat} {bv : Nat → Int32} {R : MR} {I : MI}
theorem Sm_0 (hz : I0 261 = fun _ => 0) (hr : R0 261 = fun _ => none) : Sm 262 R0 I0 (fun _ => none) (fun _ => 0) R0 I0 := ⟨fun _ _ => ⟨rfl, rfl⟩, hr, hz, fun c h1 h2 => by omega, fun h => absurd h (by decide)⟩
theorem Sm_arr {n' : Nat} (s : Sm n R0 I0 rt bv R I) (hz : I n = fun _ => 0) (h3 : n ≠ 263) (hn' : n + 1 = n') : Sm n' R0 I0 rt bv R I := by
  subst hn'
  refine ⟨s.1, s.2.1, s.2.2.1, fun c h1 h2 h4 => ?_, fun h => s.2.2.2.2 (by omega)⟩
  by_cases h : c = n
  · subst h; exact hz
  · exact s.2.2.2.1 c h1 (by omega) h4
theorem Sm_263 (s : Sm 263 R0 I0 rt bv R I) (hz : I 263 = fun _ => 0) : Sm 264 R0 I0 rt (fun _ => 0) R I :=
  ⟨s.1, s.2.1, s.2.2.1, fun c h1 h2 h4 => s.2.2.2.1 c h1 (by omega) h4, fun _ => hz⟩
theorem Sm_st {k : Nat} {x : Int32} (s : Sm n R0 I0 rt bv R I) (h : 263 < n) : Sm n R0 I0 rt (upd bv k x) R (up2 I 263 k x) :=
  ⟨fun c hc => ⟨(s.1 c hc).1, by rw [up2, upA_ne _ _ (by omega)]; exact (s.1 c hc).2⟩, s.2.1, by rw [up2, upA_ne _ _ (by decide)]; exact s.2.2.1, fun c h1 h2 h4 => by rw [up2, upA_ne _ _ h4]; exact s.2.2.2.1 c h1 h2 h4, fun _ => by rw [up2, upA_same, s.2.2.2.2 h]⟩
theorem Sm_put {k r : Nat} (s : Sm n R0 I0 rt bv R I) : Sm n R0 I0 (updR rt k r) bv (upR R 261 k r) I :=
  ⟨fun c hc => ⟨by rw [upR_c (by omega)]; exact (s.1 c hc).1, (s.1 c hc).2⟩, by rw [upR_upd, s.2.1], s.2.2.1, s.2.2.2.1, s.2.2.2.2⟩
end
theorem kd_hi : ∀ i, i < 286 → 261 < i → (kd i).1 = 1 ∨ (kd i).1 = 2 ∨ (kd i).1 = 3 := by decide +kernel
theorem relv_hi {c k : Nat} (h1 : c < 286) (h2 : 261 < c) : relv c k = false := relv_a (N := (kd c).2) rfl (kd_hi c h1 h2)

theorem dX12_init_0 : decode cX12_init 0 = .ok (.aload_n 0, 1) := by decide +kernel
theorem dX12_init_1 : decode cX12_init 1 = .ok (.invokespecial 1, 3) := by decide +kernel
theorem dX12_init_4 : decode cX12_init 4 = .ok (.aload_n 0, 1) := by decide +kernel
theorem dX12_init_5 : decode cX12_init 5 = .ok (.sipush 900, 3) := by decide +kernel
theorem dX12_init_8 : decode cX12_init 8 = .ok (.newarray .byte, 2) := by decide +kernel
theorem dX12_init_10 : decode cX12_init 10 = .ok (.putfield 7, 3) := by decide +kernel
theorem dX12_init_13 : decode cX12_init 13 = .ok (.aload_n 0, 1) := by decide +kernel
theorem dX12_init_14 : decode cX12_init 14 = .ok (.bipush 7, 2) := by decide +kernel
theorem dX12_init_16 : decode cX12_init 16 = .ok (.newarray .int, 2) := by decide +kernel
theorem dX12_init_18 : decode cX12_init 18 = .ok (.dup, 1) := by decide +kernel
theorem dX12_init_19 : decode cX12_init 19 = .ok (.iconst 0, 1) := by decide +kernel
theorem dX12_init_20 : decode cX12_init 20 = .ok (.iconst 2, 1) := by decide +kernel
theorem dX12_init_21 : decode cX12_init 21 = .ok (.iastore, 1) := by decide +kernel
theorem dX12_init_22 : decode cX12_init 22 = .ok (.dup, 1) := by decide +kernel
theorem dX12_init_23 : decode cX12_init 23 = .ok (.iconst 1, 1) := by decide +kernel
theorem dX12_init_24 : decode cX12_init 24 = .ok (.bipush 60, 2) := by decide +kernel
theorem dX12_init_26 : decode cX12_init 26 = .ok (.iastore, 1) := by decide +kernel
theorem dX12_init_27 : decode cX12_init 27 = .ok (.dup, 1) := by decide +kernel
theorem dX12_init_28 : decode cX12_init 28 = .ok (.iconst 2, 1) := by decide +kernel
theorem dX12_init_29 : decode cX12_init 29 = .ok (.sipush 300, 3) := by decide +kernel
theorem dX12_init_32 : decode cX12_init 32 = .ok (.iastore, 1) := by decide +kernel
theorem dX12_init_33 : decode cX12_init 33 = .ok (.dup, 1) := by decide +kernel
theorem dX12_init_34 : decode cX12_init 34 = .ok (.iconst 3, 1) := by decide +kernel
theorem dX12_init_35 : decode cX12_init 35 = .ok (.iconst 5, 1) := by decide +kernel
theorem dX12_init_36 : decode cX12_init 36 = .ok (.iastore, 1) := by decide +kernel
theorem dX12_init_37 : decode cX12_init 37 = .ok (.dup, 1) := by decide +kernel
theorem dX12_init_38 : decode cX12_init 38 = .ok (.iconst 4, 1) := by decide +kernel
theorem dX12_init_39 : decode cX12_init 39 = .ok (.bipush 10, 2) := by decide +kernel
theorem dX12_init_41 : decode cX12_init 41 = .ok (.iastore, 1) := by decide +kernel
theorem dX12_init_42 : decode cX12_init 42 = .ok (.dup, 1) := by decide +kernel
theorem dX12_init_43 : decode cX12_init 43 = .ok (.iconst 5, 1) := by decide +kernel
theorem dX12_init_44 : decode cX12_init 44 = .ok (.iconst 0, 1) := by decide +kernel
theorem dX12_init_45 : decode cX12_init 45 = .ok (.iastore, 1) := by decide +kernel
theorem dX12_init_46 : decode cX12_init 46 = .ok (.dup, 1) := by decide +kernel
theorem dX12_init_47 : decode cX12_init 47 = .ok (.bipush 6, 2) := by decide +kernel
theorem dX12_init_49 : decode cX12_init 49 = .ok (.iconst 0, 1) := by decide +kernel
theorem dX12_init_50 : decode cX12_init 50 = .ok (.iastore, 1) := by decide +kernel
theorem dX12_init_51 : decode cX12_init 51 = .ok (.putfield 13, 3) := by decide +kernel
theorem dX12_init_54 : decode cX12_init 54 = .ok (.aload_n 0, 1) := by decide +kernel
theorem dX12_init_55 : decode cX12_init 55 = .ok (.bipush 7, 2) := by decide +kernel
theorem dX12_init_57 : decode cX12_init 57 = .ok (.newarray .int, 2) := by decide +kernel
theorem dX12_init_59 : decode cX12_init 59 = .ok (.putfield 17, 3) := by decide +kernel
theorem dX12_init_62 : decode cX12_init 62 = .ok (.aload_n 0, 1) := by decide +kernel
theorem dX12_init_63 : decode cX12_init 63 = .ok (.bipush 36, 2) := by decide +kernel
theorem dX12_init_65 : decode cX12_init 65 = .ok (.newarray .int, 2) := by decide +kernel
theorem dX12_init_67 : decode cX12_init 67 = .ok (.putfield 20, 3) := by decide +kernel
theorem dX12_init_70 : decode cX12_init 70 = .ok (.aload_n 0, 1) := by decide +kernel
theorem dX12_init_71 : decode cX12_init 71 = .ok (.bipush 36, 2) := by decide +kernel
theorem dX12_init_73 : decode cX12_init 73 = .ok (.newarray .int, 2) := by decide +kernel
theorem dX12_init_75 : decode cX12_init 75 = .ok (.putfield 23, 3) := by decide +kernel
theorem dX12_init_78 : decode cX12_init 78 = .ok (.aload_n 0, 1) := by decide +kernel
theorem dX12_init_79 : decode cX12_init 79 = .ok (.bipush 36, 2) := by decide +kernel
theorem dX12_init_81 : decode cX12_init 81 = .ok (.newarray .int, 2) := by decide +kernel
theorem dX12_init_83 : decode cX12_init 83 = .ok (.putfield 26, 3) := by decide +kernel
theorem dX12_init_86 : decode cX12_init 86 = .ok (.aload_n 0, 1) := by decide +kernel
theorem dX12_init_87 : decode cX12_init 87 = .ok (.bipush 36, 2) := by decide +kernel
theorem dX12_init_89 : decode cX12_init 89 = .ok (.newarray .int, 2) := by decide +kernel
theorem dX12_init_91 : decode cX12_init 91 = .ok (.putfield 29, 3) := by decide +kernel
theorem dX12_init_94 : decode cX12_init 94 = .ok (.aload_n 0, 1) := by decide +kernel
theorem dX12_init_95 : decode cX12_init 95 = .ok (.bipush 36, 2) := by decide +kernel
theorem dX12_init_97 : decode cX12_init 97 = .ok (.newarray .int, 2) := by decide +kernel
theorem dX12_init_99 : decode cX12_init 99 = .ok (.putfield 32, 3) := by decide +kernel
theorem dX12_init_102 : decode cX12_init 102 = .ok (.aload_n 0, 1) := by decide +kernel
theorem dX12_init_103 : decode cX12_init 103 = .ok (.bipush 24, 2) := by decide +kernel
theorem dX12_init_105 : decode cX12_init 105 = .ok (.newarray .int, 2) := by decide +kernel
theorem dX12_init_107 : decode cX12_init 107 = .ok (.putfield 35, 3) := by decide +kernel
theorem dX12_init_110 : decode cX12_init 110 = .ok (.aload_n 0, 1) := by decide +kernel
theorem dX12_init_111 : decode cX12_init 111 = .ok (.bipush 24, 2) := by decide +kernel
theorem dX12_init_113 : decode cX12_init 113 = .ok (.newarray .int, 2) := by decide +kernel
theorem dX12_init_115 : decode cX12_init 115 = .ok (.putfield 38, 3) := by decide +kernel
theorem dX12_init_118 : decode cX12_init 118 = .ok (.aload_n 0, 1) := by decide +kernel
theorem dX12_init_119 : decode cX12_init 119 = .ok (.bipush 24, 2) := by decide +kernel
theorem dX12_init_121 : decode cX12_init 121 = .ok (.newarray .int, 2) := by decide +kernel
theorem dX12_init_123 : decode cX12_init 123 = .ok (.putfield 41, 3) := by decide +kernel
theorem dX12_init_126 : decode cX12_init 126 = .ok (.aload_n 0, 1) := by decide +kernel
theorem dX12_init_127 : decode cX12_init 127 = .ok (.sipush 168, 3) := by decide +kernel
theorem dX12_init_130 : decode cX12_init 130 = .ok (.newarray .int, 2) := by decide +kernel
theorem dX12_init_132 : decode cX12_init 132 = .ok (.putfield 44, 3) := by decide +kernel
theorem dX12_init_135 : decode cX12_init 135 = .ok (.aload_n 0, 1) := by decide +kernel
theorem dX12_init_136 : decode cX12_init 136 = .ok (.sipush 332, 3) := by decide +kernel
theorem dX12_init_139 : decode cX12_init 139 = .ok (.newarray .int, 2) := by decide +kernel
theorem dX12_init_141 : decode cX12_init 141 = .ok (.putfield 47, 3) := by decide +kernel
theorem dX12_init_144 : decode cX12_init 144 = .ok (.aload_n 0, 1) := by decide +kernel
theorem dX12_init_145 : decode cX12_init 145 = .ok (.sipush 3984, 3) := by decide +kernel
theorem dX12_init_148 : decode cX12_init 148 = .ok (.newarray .int, 2) := by decide +kernel
theorem dX12_init_150 : decode cX12_init 150 = .ok (.putfield 50, 3) := by decide +kernel
theorem dX12_init_153 : decode cX12_init 153 = .ok (.aload_n 0, 1) := by decide +kernel
theorem dX12_init_154 : decode cX12_init 154 = .ok (.sipush 664, 3) := by decide +kernel
theorem dX12_init_157 : decode cX12_init 157 = .ok (.newarray .int, 2) := by decide +kernel
theorem dX12_init_159 : decode cX12_init 159 = .ok (.putfield 53, 3) := by decide +kernel
theorem dX12_init_162 : decode cX12_init 162 = .ok (.aload_n 0, 1) := by decide +kernel
theorem dX12_init_163 : decode cX12_init 163 = .ok (.iconst 2, 1) := by decide +kernel
theorem dX12_init_164 : decode cX12_init 164 = .ok (.newarray .boolean, 2) := by decide +kernel
theorem dX12_init_166 : decode cX12_init 166 = .ok (.putfield 56, 3) := by decide +kernel
theorem dX12_init_169 : decode cX12_init 169 = .ok (.aload_n 0, 1) := by decide +kernel
theorem dX12_init_170 : decode cX12_init 170 = .ok (.bipush 10, 2) := by decide +kernel
theorem dX12_init_172 : decode cX12_init 172 = .ok (.newarray .int, 2) := by decide +kernel
theorem dX12_init_174 : decode cX12_init 174 = .ok (.putfield 60, 3) := by decide +kernel
theorem dX12_init_177 : decode cX12_init 177 = .ok (.aload_n 0, 1) := by decide +kernel
theorem dX12_init_178 : decode cX12_init 178 = .ok (.bipush 10, 2) := by decide +kernel
theorem dX12_init_180 : decode cX12_init 180 = .ok (.newarray .boolean, 2) := by decide +kernel
theorem dX12_init_182 : decode cX12_init 182 = .ok (.putfield 63, 3) := by decide +kernel
theorem dX12_init_185 : decode cX12_init 185 = .ok (.aload_n 0, 1) := by decide +kernel
theorem dX12_init_186 : decode cX12_init 186 = .ok (.bipush 10, 2) := by decide +kernel
theorem dX12_init_188 : decode cX12_init 188 = .ok (.newarray .int, 2) := by decide +kernel
theorem dX12_init_190 : decode cX12_init 190 = .ok (.putfield 66, 3) := by decide +kernel
theorem dX12_init_193 : decode cX12_init 193 = .ok (.aload_n 0, 1) := by decide +kernel
theorem dX12_init_194 : decode cX12_init 194 = .ok (.sipush 10240, 3) := by decide +kernel
theorem dX12_init_197 : decode cX12_init 197 = .ok (.newarray .int, 2) := by decide +kernel
theorem dX12_init_199 : decode cX12_init 199 = .ok (.putfield 69, 3) := by decide +kernel
theorem dX12_init_202 : decode cX12_init 202 = .ok (.aload_n 0, 1) := by decide +kernel
theorem dX12_init_203 : decode cX12_init 203 = .ok (.bipush 12, 2) := by decide +kernel
theorem dX12_init_205 : decode cX12_init 205 = .ok (.newarray .int, 2) := by decide +kernel
theorem dX12_init_207 : decode cX12_init 207 = .ok (.putfield 72, 3) := by decide +kernel
theorem dX12_init_210 : decode cX12_init 210 = .ok (.aload_n 0, 1) := by decide +kernel
theorem dX12_init_211 : decode cX12_init 211 = .ok (.bipush 12, 2) := by decide +kernel
theorem dX12_init_213 : decode cX12_init 213 = .ok (.newarray .int, 2) := by decide +kernel
theorem dX12_init_215 : decode cX12_init 215 = .ok (.putfield 75, 3) := by decide +kernel
theorem dX12_init_218 : decode cX12_init 218 = .ok (.aload_n 0, 1) := by decide +kernel
theorem dX12_init_219 : decode cX12_init 219 = .ok (.bipush 12, 2) := by decide +kernel
theorem dX12_init_221 : decode cX12_init 221 = .ok (.newarray .int, 2) := by decide +kernel
theorem dX12_init_223 : decode cX12_init 223 = .ok (.putfield 78, 3) := by decide +kernel
theorem dX12_init_226 : decode cX12_init 226 = .ok (.aload_n 0, 1) := by decide +kernel
theorem dX12_init_227 : decode cX12_init 227 = .ok (.bipush 12, 2) := by decide +kernel
theorem dX12_init_229 : decode cX12_init 229 = .ok (.newarray .int, 2) := by decide +kernel
theorem dX12_init_231 : decode cX12_init 231 = .ok (.putfield 81, 3) := by decide +kernel
theorem dX12_init_234 : decode cX12_init 234 = .ok (.aload_n 0, 1) := by decide +kernel
theorem dX12_init_235 : decode cX12_init 235 = .ok (.invokevirtual 84, 3) := by decide +kernel
theorem dX12_init_238 : decode cX12_init 238 = .ok (.return_, 1) := by decide +kernel
theorem sim0 {I J : MI} (hX : ∀ c, c < 261 → J c = Iv c) (h263 : J 263 0 = 2 ∧ J 263 1 = 60 ∧ J 263 2 = 300 ∧ J 263 3 = 5 ∧ J 263 4 = 10 ∧ J 263 5 = 0 ∧ J 263 6 = 0) (h261 : J 261 = fun _ => 0) (h277 : J 277 = fun _ => 0) (h274 : ∀ k, k < 332 → J 274 k = if k = 293 then -2 else 0) : Sim 0 J := by
  have e0 : ∀ c k, c < 261 → J c k = Iv c k := fun c k hc => by rw [hX c hc]
  refine ⟨(p00, mkL d00, [], fun _ => none, 0, fun _ => 0), ⟨ok00.1, LdOk_mk ok00 0, fun y hy => (by cases hy), fun j y _ hy => (by cases hy), Nat.zero_le _, fun j hj => absurd hj (Nat.not_lt_zero j)⟩, ⟨?_, ?_, ?_, ?_, ?_, ?_, ?_⟩, ⟨?_, ?_, ?_, ?_, ?_⟩⟩
  · refine ⟨?_, ?_, ?_, ?_, ?_, ?_, ?_, fun k hk => absurd hk (Nat.not_lt_zero k), fun k hk => absurd hk (Nat.not_lt_zero k)⟩ <;> (rw [e0 _ _ (by decide)]; rfl)
  · refine ⟨?_, ?_, fun k hk => absurd hk (Nat.not_lt_zero k), fun k hk => absurd hk (Nat.not_lt_zero k), fun k hk => absurd hk (Nat.not_lt_zero k), fun a b ha hb => ?_, ?_, ?_, ?_, fun k hk => absurd hk (Nat.not_lt_zero k)⟩
    · rw [e0 _ _ (by decide)]; rfl
    · rw [e0 _ _ (by decide)]; rfl
    · rw [e0 _ _ (by decide), Iv_a (c := 30 + 9) kd_39 (Or.inl rfl)]; rfl
    · rw [e0 _ _ (by decide)]; rfl
    · rw [e0 _ _ (by decide)]; rfl
    · rw [e0 _ _ (by decide)]; rfl
  · refine ⟨Nat.zero_le _, ?_, 0, by decide, ?_, fun i y hy => by have hy' : ([] : List Ld)[i]? = some y := hy; simp at hy'⟩
    · rw [e0 _ _ (by decide)]; rfl
    · rw [e0 _ _ (by decide)]; rfl
  · refine fun j hj => ⟨?_, fun y hy => by cases hy⟩
    rw [e0 _ _ (by decide), Iv_a kd_260 (by simp)]; rfl
  · exact Or.inl (by rw [e0 _ _ (by decide)]; rfl)
  · refine ⟨?_, ?_, fun h hh => ⟨?_, ?_, ?_, ?_⟩, fun j hj => ?_, ?_, ?_, ?_⟩
    · rw [e0 _ _ (by decide)]; rfl
    · rw [e0 _ _ (by decide)]; rfl
    · rw [e0 _ _ (by decide), Iv_a kd_15 (Or.inl rfl)]
    · rw [e0 _ _ (by decide), Iv_a kd_16 (Or.inl rfl)]
    · rw [e0 _ _ (by decide), Iv_a kd_17 (Or.inl rfl)]
    · rw [e0 _ _ (by decide), Iv_a kd_18 (Or.inl rfl)]
    · rw [e0 _ _ (by decide), Iv_a kd_19 (Or.inl rfl)]
    · rw [e0 _ _ (by decide)]; rfl
    · rw [e0 _ _ (by decide)]; rfl
    · rw [e0 _ _ (by decide)]; rfl
  · exact ⟨by rw [e0 _ _ (by decide)]; rfl, fun j hj => absurd hj (Nat.not_lt_zero j)⟩
  · exact ⟨h263.1, h263.2.1, h263.2.2.1, h263.2.2.2.1, h263.2.2.2.2.1, h263.2.2.2.2.2.1, h263.2.2.2.2.2.2, fun k hk => absurd hk (Nat.not_lt_zero k), fun k hk => absurd hk (Nat.not_lt_zero k)⟩
  · refine ⟨?_, fun k hk => absurd hk (Nat.not_lt_zero k), fun k hk => absurd hk (Nat.not_lt_zero k), fun k hk => absurd hk (Nat.not_lt_zero k), fun h _ hh => ?_, fun k hk => absurd hk (Nat.not_lt_zero k), fun a b ha hb => ?_, ?_, ?_, ?_, fun k hk => absurd hk (Nat.not_lt_zero k)⟩
    · rw [h274 _ (by decide)]; rfl
    · rw [h274 _ (by omega), if_neg (by omega)]
    · have ha' : a < 2 := ha
      have hb' : b < 2 := hb
      rw [h274 _ (by omega), if_neg (by omega)]; rfl
    · rw [h274 _ (by decide)]; rfl
    · rw [h274 _ (by decide)]; rfl
    · rw [h274 _ (by decide)]; rfl
  · exact ⟨Nat.zero_le _, by rw [h261]; rfl, fun i y hy => by have hy' : ([] : List Ld)[i]? = some y := hy; simp at hy'⟩
  · exact fun j hj => ⟨by rw [h277]; rfl, fun y hy => by cases hy⟩
  · exact ⟨by rw [h261]; rfl, fun j hj => absurd hj (Nat.not_lt_zero j)⟩
theorem nX12 {R0 : MR} {I0 : MI} (hd : ∀ c, c < 261 → dn R0 I0 c) (hz : I0 261 = fun _ => 0) (hr : R0 261 = fun _ => none) : WC mX12_init 24 16634 262 286 [.ref 261] R0 I0 (fun R I => R = Rf0 ∧ Sim 0 I) := by
  intro G ad0 A p l e s m args below meth c hm
  have s0 := Sm_0 hz hr
  show WB G ad0 _ A p l e _ s m args below meth c _ mX12_init 0 0 _ R0 0 [some (.ref 261)] [] I0
  refine wb_aload_n dX12_init_0 rfl rfl ?_
  refine wb_obj dX12_init_1 oi_12 oiI oiC (Nat.le_of_ble_eq_true rfl) (Nat.le_of_ble_eq_true rfl) ?_
  refine wb_aload_n dX12_init_4 rfl rfl ?_
  refine wb_sipush (v := 900) dX12_init_5 rfl ?_
  refine wb_newa (N := 900) (n' := 263) dX12_init_8 acB rfl kd_262 (Or.inr (Or.inl ⟨rfl, rfl⟩)) (by decide) rfl (by decide) (by decide) (Nat.le_of_ble_eq_true rfl) (Nat.le_of_ble_eq_true rfl) rfl rfl rfl (fun z1 _ => ?_)
  have s1 := Sm_arr (n' := 263) s0 z1 (by decide) rfl
  refine wb_putR hm dX12_init_10 fl_12_7 okC12 kd_261 (by decide) (by decide) rfl rfl (by decide) (fun _ => rfl) (fun _ => rfl) ?_
  have s2 := Sm_put (k := 1) (r := 262) s1
  refine wb_aload_n dX12_init_13 rfl rfl ?_
  refine wb_bipush (v := 7) dX12_init_14 rfl ?_
  refine wb_newa (N := 7) (n' := 264) dX12_init_16 acI rfl kd_263 (Or.inl ⟨rfl, rfl⟩) (by decide) rfl (by decide) (by decide) (Nat.le_of_ble_eq_true rfl) (Nat.le_of_ble_eq_true rfl) rfl rfl rfl (fun z3 _ => ?_)
  have s3 := Sm_263 s2 z3
  refine wb_dup dX12_init_18 rfl ?_
  refine wb_iconst (v := 0) dX12_init_19 rfl ?_
  refine wb_iconst (v := 2) dX12_init_20 rfl ?_
  refine wb_iast (j := 0) dX12_init_21 kd_263 (by decide) (ci (n := 0) (by decide) (by decide)) rfl ?_
  have s4 := Sm_st (k := 0) (x := 2) s3 (by decide)
  refine wb_dup dX12_init_22 rfl ?_
  refine wb_iconst (v := 1) dX12_init_23 rfl ?_
  refine wb_bipush (v := 60) dX12_init_24 rfl ?_
  refine wb_iast (j := 1) dX12_init_26 kd_263 (by decide) (ci (n := 1) (by decide) (by decide)) rfl ?_
  have s5 := Sm_st (k := 1) (x := 60) s4 (by decide)
  refine wb_dup dX12_init_27 rfl ?_
  refine wb_iconst (v := 2) dX12_init_28 rfl ?_
  refine wb_sipush (v := 300) dX12_init_29 rfl ?_
  refine wb_iast (j := 2) dX12_init_32 kd_263 (by decide) (ci (n := 2) (by decide) (by decide)) rfl ?_
  have s6 := Sm_st (k := 2) (x := 300) s5 (by decide)
  refine wb_dup dX12_init_33 rfl ?_
  refine wb_iconst (v := 3) dX12_init_34 rfl ?_
  refine wb_iconst (v := 5) dX12_init_35 rfl ?_
  refine wb_iast (j := 3) dX12_init_36 kd_263 (by decide) (ci (n := 3) (by decide) (by decide)) rfl ?_
  have s7 := Sm_st (k := 3) (x := 5) s6 (by decide)
  refine wb_dup dX12_init_37 rfl ?_
  refine wb_iconst (v := 4) dX12_init_38 rfl ?_
  refine wb_bipush (v := 10) dX12_init_39 rfl ?_
  refine wb_iast (j := 4) dX12_init_41 kd_263 (by decide) (ci (n := 4) (by decide) (by decide)) rfl ?_
  have s8 := Sm_st (k := 4) (x := 10) s7 (by decide)
  refine wb_dup dX12_init_42 rfl ?_
  refine wb_iconst (v := 5) dX12_init_43 rfl ?_
  refine wb_iconst (v := 0) dX12_init_44 rfl ?_
  refine wb_iast (j := 5) dX12_init_45 kd_263 (by decide) (ci (n := 5) (by decide) (by decide)) rfl ?_
  have s9 := Sm_st (k := 5) (x := 0) s8 (by decide)
  refine wb_dup dX12_init_46 rfl ?_
  refine wb_bipush (v := 6) dX12_init_47 rfl ?_
  refine wb_iconst (v := 0) dX12_init_49 rfl ?_
  refine wb_iast (j := 6) dX12_init_50 kd_263 (by decide) (ci (n := 6) (by decide) (by decide)) rfl ?_
  have s10 := Sm_st (k := 6) (x := 0) s9 (by decide)
  refine wb_putR hm dX12_init_51 fl_12_13 okC12 kd_261 (by decide) (by decide) rfl rfl (by decide) (fun _ => rfl) (fun _ => rfl) ?_
  have s11 := Sm_put (k := 10) (r := 263) s10
  refine wb_aload_n dX12_init_54 rfl rfl ?_
  refine wb_bipush (v := 7) dX12_init_55 rfl ?_
  refine wb_newa (N := 7) (n' := 265) dX12_init_57 acI rfl kd_264 (Or.inl ⟨rfl, rfl⟩) (by decide) rfl (by decide) (by decide) (Nat.le_of_ble_eq_true rfl) (Nat.le_of_ble_eq_true rfl) rfl rfl rfl (fun z12 _ => ?_)
  have s12 := Sm_arr (n' := 265) s11 z12 (by decide) rfl
  refine wb_putR hm dX12_init_59 fl_12_17 okC12 kd_261 (by decide) (by decide) rfl rfl (by decide) (fun _ => rfl) (fun _ => rfl) ?_
  have s13 := Sm_put (k := 11) (r := 264) s12
  refine wb_aload_n dX12_init_62 rfl rfl ?_
  refine wb_bipush (v := 36) dX12_init_63 rfl ?_
  refine wb_newa (N := 36) (n' := 266) dX12_init_65 acI rfl kd_265 (Or.inl ⟨rfl, rfl⟩) (by decide) rfl (by decide) (by decide) (Nat.le_of_ble_eq_true rfl) (Nat.le_of_ble_eq_true rfl) rfl rfl rfl (fun z14 _ => ?_)
  have s14 := Sm_arr (n' := 266) s13 z14 (by decide) rfl
  refine wb_putR hm dX12_init_67 fl_12_20 okC12 kd_261 (by decide) (by decide) rfl rfl (by decide) (fun _ => rfl) (fun _ => rfl) ?_
  have s15 := Sm_put (k := 12) (r := 265) s14
  refine wb_aload_n dX12_init_70 rfl rfl ?_
  refine wb_bipush (v := 36) dX12_init_71 rfl ?_
  refine wb_newa (N := 36) (n' := 267) dX12_init_73 acI rfl kd_266 (Or.inl ⟨rfl, rfl⟩) (by decide) rfl (by decide) (by decide) (Nat.le_of_ble_eq_true rfl) (Nat.le_of_ble_eq_true rfl) rfl rfl rfl (fun z16 _ => ?_)
  have s16 := Sm_arr (n' := 267) s15 z16 (by decide) rfl
  refine wb_putR hm dX12_init_75 fl_12_23 okC12 kd_261 (by decide) (by decide) rfl rfl (by decide) (fun _ => rfl) (fun _ => rfl) ?_
  have s17 := Sm_put (k := 13) (r := 266) s16
  refine wb_aload_n dX12_init_78 rfl rfl ?_
  refine wb_bipush (v := 36) dX12_init_79 rfl ?_
  refine wb_newa (N := 36) (n' := 268) dX12_init_81 acI rfl kd_267 (Or.inl ⟨rfl, rfl⟩) (by decide) rfl (by decide) (by decide) (Nat.le_of_ble_eq_true rfl) (Nat.le_of_ble_eq_true rfl) rfl rfl rfl (fun z18 _ => ?_)
  have s18 := Sm_arr (n' := 268) s17 z18 (by decide) rfl
  refine wb_putR hm dX12_init_83 fl_12_26 okC12 kd_261 (by decide) (by decide) rfl rfl (by decide) (fun _ => rfl) (fun _ => rfl) ?_
  have s19 := Sm_put (k := 14) (r := 267) s18
  refine wb_aload_n dX12_init_86 rfl rfl ?_
  refine wb_bipush (v := 36) dX12_init_87 rfl ?_
  refine wb_newa (N := 36) (n' := 269) dX12_init_89 acI rfl kd_268 (Or.inl ⟨rfl, rfl⟩) (by decide) rfl (by decide) (by decide) (Nat.le_of_ble_eq_true rfl) (Nat.le_of_ble_eq_true rfl) rfl rfl rfl (fun z20 _ => ?_)
  have s20 := Sm_arr (n' := 269) s19 z20 (by decide) rfl
  refine wb_putR hm dX12_init_91 fl_12_29 okC12 kd_261 (by decide) (by decide) rfl rfl (by decide) (fun _ => rfl) (fun _ => rfl) ?_
  have s21 := Sm_put (k := 15) (r := 268) s20
  refine wb_aload_n dX12_init_94 rfl rfl ?_
  refine wb_bipush (v := 36) dX12_init_95 rfl ?_
  refine wb_newa (N := 36) (n' := 270) dX12_init_97 acI rfl kd_269 (Or.inl ⟨rfl, rfl⟩) (by decide) rfl (by decide) (by decide) (Nat.le_of_ble_eq_true rfl) (Nat.le_of_ble_eq_true rfl) rfl rfl rfl (fun z22 _ => ?_)
  have s22 := Sm_arr (n' := 270) s21 z22 (by decide) rfl
  refine wb_putR hm dX12_init_99 fl_12_32 okC12 kd_261 (by decide) (by decide) rfl rfl (by decide) (fun _ => rfl) (fun _ => rfl) ?_
  have s23 := Sm_put (k := 16) (r := 269) s22
  refine wb_aload_n dX12_init_102 rfl rfl ?_
  refine wb_bipush (v := 24) dX12_init_103 rfl ?_
  refine wb_newa (N := 24) (n' := 271) dX12_init_105 acI rfl kd_270 (Or.inl ⟨rfl, rfl⟩) (by decide) rfl (by decide) (by decide) (Nat.le_of_ble_eq_true rfl) (Nat.le_of_ble_eq_true rfl) rfl rfl rfl (fun z24 _ => ?_)
  have s24 := Sm_arr (n' := 271) s23 z24 (by decide) rfl
  refine wb_putR hm dX12_init_107 fl_12_35 okC12 kd_261 (by decide) (by decide) rfl rfl (by decide) (fun _ => rfl) (fun _ => rfl) ?_
  have s25 := Sm_put (k := 17) (r := 270) s24
  refine wb_aload_n dX12_init_110 rfl rfl ?_
  refine wb_bipush (v := 24) dX12_init_111 rfl ?_
  refine wb_newa (N := 24) (n' := 272) dX12_init_113 acI rfl kd_271 (Or.inl ⟨rfl, rfl⟩) (by decide) rfl (by decide) (by decide) (Nat.le_of_ble_eq_true rfl) (Nat.le_of_ble_eq_true rfl) rfl rfl rfl (fun z26 _ => ?_)
  have s26 := Sm_arr (n' := 272) s25 z26 (by decide) rfl
  refine wb_putR hm dX12_init_115 fl_12_38 okC12 kd_261 (by decide) (by decide) rfl rfl (by decide) (fun _ => rfl) (fun _ => rfl) ?_
  have s27 := Sm_put (k := 18) (r := 271) s26
  refine wb_aload_n dX12_init_118 rfl rfl ?_
  refine wb_bipush (v := 24) dX12_init_119 rfl ?_
  refine wb_newa (N := 24) (n' := 273) dX12_init_121 acI rfl kd_272 (Or.inl ⟨rfl, rfl⟩) (by decide) rfl (by decide) (by decide) (Nat.le_of_ble_eq_true rfl) (Nat.le_of_ble_eq_true rfl) rfl rfl rfl (fun z28 _ => ?_)
  have s28 := Sm_arr (n' := 273) s27 z28 (by decide) rfl
  refine wb_putR hm dX12_init_123 fl_12_41 okC12 kd_261 (by decide) (by decide) rfl rfl (by decide) (fun _ => rfl) (fun _ => rfl) ?_
  have s29 := Sm_put (k := 19) (r := 272) s28
  refine wb_aload_n dX12_init_126 rfl rfl ?_
  refine wb_sipush (v := 168) dX12_init_127 rfl ?_
  refine wb_newa (N := 168) (n' := 274) dX12_init_130 acI rfl kd_273 (Or.inl ⟨rfl, rfl⟩) (by decide) rfl (by decide) (by decide) (Nat.le_of_ble_eq_true rfl) (Nat.le_of_ble_eq_true rfl) rfl rfl rfl (fun z30 _ => ?_)
  have s30 := Sm_arr (n' := 274) s29 z30 (by decide) rfl
  refine wb_putR hm dX12_init_132 fl_12_44 okC12 kd_261 (by decide) (by decide) rfl rfl (by decide) (fun _ => rfl) (fun _ => rfl) ?_
  have s31 := Sm_put (k := 20) (r := 273) s30
  refine wb_aload_n dX12_init_135 rfl rfl ?_
  refine wb_sipush (v := 332) dX12_init_136 rfl ?_
  refine wb_newa (N := 332) (n' := 275) dX12_init_139 acI rfl kd_274 (Or.inl ⟨rfl, rfl⟩) (by decide) rfl (by decide) (by decide) (Nat.le_of_ble_eq_true rfl) (Nat.le_of_ble_eq_true rfl) rfl rfl rfl (fun z32 _ => ?_)
  have s32 := Sm_arr (n' := 275) s31 z32 (by decide) rfl
  refine wb_putR hm dX12_init_141 fl_12_47 okC12 kd_261 (by decide) (by decide) rfl rfl (by decide) (fun _ => rfl) (fun _ => rfl) ?_
  have s33 := Sm_put (k := 22) (r := 274) s32
  refine wb_aload_n dX12_init_144 rfl rfl ?_
  refine wb_sipush (v := 3984) dX12_init_145 rfl ?_
  refine wb_newa (N := 3984) (n' := 276) dX12_init_148 acI rfl kd_275 (Or.inl ⟨rfl, rfl⟩) (by decide) rfl (by decide) (by decide) (Nat.le_of_ble_eq_true rfl) (Nat.le_of_ble_eq_true rfl) rfl rfl rfl (fun z34 _ => ?_)
  have s34 := Sm_arr (n' := 276) s33 z34 (by decide) rfl
  refine wb_putR hm dX12_init_150 fl_12_50 okC12 kd_261 (by decide) (by decide) rfl rfl (by decide) (fun _ => rfl) (fun _ => rfl) ?_
  have s35 := Sm_put (k := 23) (r := 275) s34
  refine wb_aload_n dX12_init_153 rfl rfl ?_
  refine wb_sipush (v := 664) dX12_init_154 rfl ?_
  refine wb_newa (N := 664) (n' := 277) dX12_init_157 acI rfl kd_276 (Or.inl ⟨rfl, rfl⟩) (by decide) rfl (by decide) (by decide) (Nat.le_of_ble_eq_true rfl) (Nat.le_of_ble_eq_true rfl) rfl rfl rfl (fun z36 _ => ?_)
  have s36 := Sm_arr (n' := 277) s35 z36 (by decide) rfl
  refine wb_putR hm dX12_init_159 fl_12_53 okC12 kd_261 (by decide) (by decide) rfl rfl (by decide) (fun _ => rfl) (fun _ => rfl) ?_
  have s37 := Sm_put (k := 25) (r := 276) s36
  refine wb_aload_n dX12_init_162 rfl rfl ?_
  refine wb_iconst (v := 2) dX12_init_163 rfl ?_
  refine wb_newa (N := 2) (n' := 278) dX12_init_164 acZ rfl kd_277 (Or.inr (Or.inr ⟨rfl, rfl⟩)) (by decide) rfl (by decide) (by decide) (Nat.le_of_ble_eq_true rfl) (Nat.le_of_ble_eq_true rfl) rfl rfl rfl (fun z38 _ => ?_)
  have s38 := Sm_arr (n' := 278) s37 z38 (by decide) rfl
  refine wb_putR hm dX12_init_166 fl_12_56 okC12 kd_261 (by decide) (by decide) rfl rfl (by decide) (fun _ => rfl) (fun _ => rfl) ?_
  have s39 := Sm_put (k := 26) (r := 277) s38
  refine wb_aload_n dX12_init_169 rfl rfl ?_
  refine wb_bipush (v := 10) dX12_init_170 rfl ?_
  refine wb_newa (N := 10) (n' := 279) dX12_init_172 acI rfl kd_278 (Or.inl ⟨rfl, rfl⟩) (by decide) rfl (by decide) (by decide) (Nat.le_of_ble_eq_true rfl) (Nat.le_of_ble_eq_true rfl) rfl rfl rfl (fun z40 _ => ?_)
  have s40 := Sm_arr (n' := 279) s39 z40 (by decide) rfl
  refine wb_putR hm dX12_init_174 fl_12_60 okC12 kd_261 (by decide) (by decide) rfl rfl (by decide) (fun _ => rfl) (fun _ => rfl) ?_
  have s41 := Sm_put (k := 27) (r := 278) s40
  refine wb_aload_n dX12_init_177 rfl rfl ?_
  refine wb_bipush (v := 10) dX12_init_178 rfl ?_
  refine wb_newa (N := 10) (n' := 280) dX12_init_180 acZ rfl kd_279 (Or.inr (Or.inr ⟨rfl, rfl⟩)) (by decide) rfl (by decide) (by decide) (Nat.le_of_ble_eq_true rfl) (Nat.le_of_ble_eq_true rfl) rfl rfl rfl (fun z42 _ => ?_)
  have s42 := Sm_arr (n' := 280) s41 z42 (by decide) rfl
  refine wb_putR hm dX12_init_182 fl_12_63 okC12 kd_261 (by decide) (by decide) rfl rfl (by decide) (fun _ => rfl) (fun _ => rfl) ?_
  have s43 := Sm_put (k := 28) (r := 279) s42
  refine wb_aload_n dX12_init_185 rfl rfl ?_
  refine wb_bipush (v := 10) dX12_init_186 rfl ?_
  refine wb_newa (N := 10) (n' := 281) dX12_init_188 acI rfl kd_280 (Or.inl ⟨rfl, rfl⟩) (by decide) rfl (by decide) (by decide) (Nat.le_of_ble_eq_true rfl) (Nat.le_of_ble_eq_true rfl) rfl rfl rfl (fun z44 _ => ?_)
  have s44 := Sm_arr (n' := 281) s43 z44 (by decide) rfl
  refine wb_putR hm dX12_init_190 fl_12_66 okC12 kd_261 (by decide) (by decide) rfl rfl (by decide) (fun _ => rfl) (fun _ => rfl) ?_
  have s45 := Sm_put (k := 29) (r := 280) s44
  refine wb_aload_n dX12_init_193 rfl rfl ?_
  refine wb_sipush (v := 10240) dX12_init_194 rfl ?_
  refine wb_newa (N := 10240) (n' := 282) dX12_init_197 acI rfl kd_281 (Or.inl ⟨rfl, rfl⟩) (by decide) rfl (by decide) (by decide) (Nat.le_of_ble_eq_true rfl) (Nat.le_of_ble_eq_true rfl) rfl rfl rfl (fun z46 _ => ?_)
  have s46 := Sm_arr (n' := 282) s45 z46 (by decide) rfl
  refine wb_putR hm dX12_init_199 fl_12_69 okC12 kd_261 (by decide) (by decide) rfl rfl (by decide) (fun _ => rfl) (fun _ => rfl) ?_
  have s47 := Sm_put (k := 31) (r := 281) s46
  refine wb_aload_n dX12_init_202 rfl rfl ?_
  refine wb_bipush (v := 12) dX12_init_203 rfl ?_
  refine wb_newa (N := 12) (n' := 283) dX12_init_205 acI rfl kd_282 (Or.inl ⟨rfl, rfl⟩) (by decide) rfl (by decide) (by decide) (Nat.le_of_ble_eq_true rfl) (Nat.le_of_ble_eq_true rfl) rfl rfl rfl (fun z48 _ => ?_)
  have s48 := Sm_arr (n' := 283) s47 z48 (by decide) rfl
  refine wb_putR hm dX12_init_207 fl_12_72 okC12 kd_261 (by decide) (by decide) rfl rfl (by decide) (fun _ => rfl) (fun _ => rfl) ?_
  have s49 := Sm_put (k := 41) (r := 282) s48
  refine wb_aload_n dX12_init_210 rfl rfl ?_
  refine wb_bipush (v := 12) dX12_init_211 rfl ?_
  refine wb_newa (N := 12) (n' := 284) dX12_init_213 acI rfl kd_283 (Or.inl ⟨rfl, rfl⟩) (by decide) rfl (by decide) (by decide) (Nat.le_of_ble_eq_true rfl) (Nat.le_of_ble_eq_true rfl) rfl rfl rfl (fun z50 _ => ?_)
  have s50 := Sm_arr (n' := 284) s49 z50 (by decide) rfl
  refine wb_putR hm dX12_init_215 fl_12_75 okC12 kd_261 (by decide) (by decide) rfl rfl (by decide) (fun _ => rfl) (fun _ => rfl) ?_
  have s51 := Sm_put (k := 42) (r := 283) s50
  refine wb_aload_n dX12_init_218 rfl rfl ?_
  refine wb_bipush (v := 12) dX12_init_219 rfl ?_
  refine wb_newa (N := 12) (n' := 285) dX12_init_221 acI rfl kd_284 (Or.inl ⟨rfl, rfl⟩) (by decide) rfl (by decide) (by decide) (Nat.le_of_ble_eq_true rfl) (Nat.le_of_ble_eq_true rfl) rfl rfl rfl (fun z52 _ => ?_)
  have s52 := Sm_arr (n' := 285) s51 z52 (by decide) rfl
  refine wb_putR hm dX12_init_223 fl_12_78 okC12 kd_261 (by decide) (by decide) rfl rfl (by decide) (fun _ => rfl) (fun _ => rfl) ?_
  have s53 := Sm_put (k := 43) (r := 284) s52
  refine wb_aload_n dX12_init_226 rfl rfl ?_
  refine wb_bipush (v := 12) dX12_init_227 rfl ?_
  refine wb_newa (N := 12) (n' := 286) dX12_init_229 acI rfl kd_285 (Or.inl ⟨rfl, rfl⟩) (by decide) rfl (by decide) (by decide) (Nat.le_of_ble_eq_true rfl) (Nat.le_of_ble_eq_true rfl) rfl rfl rfl (fun z54 _ => ?_)
  have s54 := Sm_arr (n' := 286) s53 z54 (by decide) rfl
  refine wb_putR hm dX12_init_231 fl_12_81 okC12 kd_261 (by decide) (by decide) rfl rfl (by decide) (fun _ => rfl) (fun _ => rfl) ?_
  have s55 := Sm_put (k := 44) (r := 285) s54
  refine wb_aload_n dX12_init_234 rfl rfl ?_
  refine wb_norm (fun i hi k hk => ?_) ?_
  · rcases Nat.lt_trichotomy i 261 with q | q | q
    · rw [(s55.1 i q).1]; exact (hd i q).1 k hk
    · subst q
      rw [relv_o kd_261] at hk
      rw [s55.2.1]
      rcases cls_12 k hk with rfl | rfl | rfl | rfl | rfl | rfl | rfl | rfl | rfl | rfl | rfl | rfl | rfl | rfl | rfl | rfl | rfl | rfl | rfl | rfl | rfl | rfl | rfl | rfl
      · rw [rf_261_1]; rfl
      · rw [rf_261_10]; rfl
      · rw [rf_261_11]; rfl
      · rw [rf_261_12]; rfl
      · rw [rf_261_13]; rfl
      · rw [rf_261_14]; rfl
      · rw [rf_261_15]; rfl
      · rw [rf_261_16]; rfl
      · rw [rf_261_17]; rfl
      · rw [rf_261_18]; rfl
      · rw [rf_261_19]; rfl
      · rw [rf_261_20]; rfl
      · rw [rf_261_22]; rfl
      · rw [rf_261_23]; rfl
      · rw [rf_261_25]; rfl
      · rw [rf_261_26]; rfl
      · rw [rf_261_27]; rfl
      · rw [rf_261_28]; rfl
      · rw [rf_261_29]; rfl
      · rw [rf_261_31]; rfl
      · rw [rf_261_41]; rfl
      · rw [rf_261_42]; rfl
      · rw [rf_261_43]; rfl
      · rw [rf_261_44]; rfl
    · rw [relv_hi hi q] at hk; cases hk
  refine wb_call (As := []) dX12_init_235 ml_12_84 okX12_clearLedger kd_261 (by decide) okC12.1 rfl rfl (Nat.le_of_ble_eq_true rfl) ⟨(Nat.le_of_ble_eq_true rfl), (Nat.le_of_ble_eq_true rfl)⟩ ⟨(Nat.le_of_ble_eq_true rfl), (Nat.le_of_ble_eq_true rfl)⟩ (Nat.le_of_ble_eq_true rfl) (fun hi => ?_)
  refine wk_v ?_
  refine sM_clear (Q := fun J => (∀ i, 286 ≤ i → i < 286 → J i = fun _ => 0) ∧ _) (fun J h1 h2 => ⟨fun i q1 q2 => by omega, ?_⟩)
  refine wb_vret dX12_init_238 rfl rfl rfl rfl ⟨rfl, ?_⟩
  have eJ : ∀ c, c ≠ 261 → c ≠ 274 → J c = _ := fun c q1 q2 => h2.1 c q1 (by simp [q2])
  have hb := s55.2.2.2.2 (by decide)
  have ha := s55.2.2.2.1
  refine sim0 (I := I0) (fun c hc => ?_) ?_ ?_ ?_ (fun k hk => ?_)
  · rw [eJ c (by omega) (by omega), (s55.1 c hc).2, (hd c hc).2]
  · rw [eJ 263 (by decide) (by decide), hb]
    exact ⟨rfl, rfl, rfl, rfl, rfl, rfl, rfl⟩
  · funext k
    rw [h2.2 k (by simp), s55.2.2.1]
  · rw [eJ 277 (by decide) (by decide), ha 277 (by decide) (by decide) (by decide)]
  · rw [h1 k hk]
    unfold clrF
    rw [ha 273 (by decide) (by decide) (by decide), ha 272 (by decide) (by decide) (by decide), ha 268 (by decide) (by decide) (by decide), ha 269 (by decide) (by decide) (by decide)]
    by_cases q : k = 293
    · subst q; rfl
    · rw [if_neg q]
      simp
