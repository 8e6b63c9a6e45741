/-! parsing in the reference -/
section
variable {n : Nat} {g : Nat → Int32} {I : MI}
theorem sM_adopt265 {Q : MI → Prop} (H : ∀ J, (∀ k, k < 18 → J 265 k = I 265 (18 + k)) → SamM [265] [] I J → Q J) : Wv mX12_adopt [.ref 265] I Q := by
  have eh : (36 : Int32) / 2 = nI 18 := by decide
  have go : ∀ (m k : Nat) (J : MI), m + k = 18 → (∀ i, i < k → J 265 i = I 265 (18 + i)) → (∀ i, k ≤ i → J 265 i = I 265 i) → SamM [265] [] I J → LX12_adopt_265_2 (nI k) J Q := by
    intro m
    induction m with
    | zero =>
      intro k J hm h1 h2 sJ
      have : k = 18 := by omega
      subst this
      exact rX12_adopt_265_2 ⟨fun _ => H J h1 sJ, fun q => absurd (by rw [eh, ile (by decide) (by decide)]; omega) q⟩
    | succ m ih =>
      intro k J hm h1 h2 sJ
      refine rX12_adopt_265_2 ?_
      rw [eh, ile (by decide) (by omega), nI_add, cl (by omega), cl (by omega)]
      refine ⟨fun q => by omega, fun _ => ⟨ci (by omega) (by decide), ci (by omega) (by decide), fun K eK => ?_⟩⟩
      rw [nI_s]
      refine ih (k + 1) K (by omega) (fun i hi => ?_) (fun i hi => ?_) (by rw [eK]; exact sJ.u2 (by simp) (by decide))
      · rw [eK]
        by_cases e : i = k
        · rw [up2_e _ _ e, h2 _ (by omega), e]
        · rw [up2_slot _ _ e]; exact h1 i (by omega)
      · rw [eK, up2_slot _ _ (by omega)]; exact h2 i (by omega)
  exact rX12_adopt_265 (go 18 0 I rfl (fun i hi => absurd hi (Nat.not_lt_zero i)) (fun _ _ => rfl) SamM.rf)
theorem sM_adopt266 {Q : MI → Prop} (H : ∀ J, (∀ k, k < 18 → J 266 k = I 266 (18 + k)) → SamM [266] [] I J → Q J) : Wv mX12_adopt [.ref 266] I Q := by
  have eh : (36 : Int32) / 2 = nI 18 := by decide
  have go : ∀ (m k : Nat) (J : MI), m + k = 18 → (∀ i, i < k → J 266 i = I 266 (18 + i)) → (∀ i, k ≤ i → J 266 i = I 266 i) → SamM [266] [] I J → LX12_adopt_266_2 (nI k) J Q := by
    intro m
    induction m with
    | zero =>
      intro k J hm h1 h2 sJ
      have : k = 18 := by omega
      subst this
      exact rX12_adopt_266_2 ⟨fun _ => H J h1 sJ, fun q => absurd (by rw [eh, ile (by decide) (by decide)]; omega) q⟩
    | succ m ih =>
      intro k J hm h1 h2 sJ
      refine rX12_adopt_266_2 ?_
      rw [eh, ile (by decide) (by omega), nI_add, cl (by omega), cl (by omega)]
      refine ⟨fun q => by omega, fun _ => ⟨ci (by omega) (by decide), ci (by omega) (by decide), fun K eK => ?_⟩⟩
      rw [nI_s]
      refine ih (k + 1) K (by omega) (fun i hi => ?_) (fun i hi => ?_) (by rw [eK]; exact sJ.u2 (by simp) (by decide))
      · rw [eK]
        by_cases e : i = k
        · rw [up2_e _ _ e, h2 _ (by omega), e]
        · rw [up2_slot _ _ e]; exact h1 i (by omega)
      · rw [eK, up2_slot _ _ (by omega)]; exact h2 i (by omega)
  exact rX12_adopt_266 (go 18 0 I rfl (fun i hi => absurd hi (Nat.not_lt_zero i)) (fun _ _ => rfl) SamM.rf)
theorem sM_adopt267 {Q : MI → Prop} (H : ∀ J, (∀ k, k < 18 → J 267 k = I 267 (18 + k)) → SamM [267] [] I J → Q J) : Wv mX12_adopt [.ref 267] I Q := by
  have eh : (36 : Int32) / 2 = nI 18 := by decide
  have go : ∀ (m k : Nat) (J : MI), m + k = 18 → (∀ i, i < k → J 267 i = I 267 (18 + i)) → (∀ i, k ≤ i → J 267 i = I 267 i) → SamM [267] [] I J → LX12_adopt_267_2 (nI k) J Q := by
    intro m
    induction m with
    | zero =>
      intro k J hm h1 h2 sJ
      have : k = 18 := by omega
      subst this
      exact rX12_adopt_267_2 ⟨fun _ => H J h1 sJ, fun q => absurd (by rw [eh, ile (by decide) (by decide)]; omega) q⟩
    | succ m ih =>
      intro k J hm h1 h2 sJ
      refine rX12_adopt_267_2 ?_
      rw [eh, ile (by decide) (by omega), nI_add, cl (by omega), cl (by omega)]
      refine ⟨fun q => by omega, fun _ => ⟨ci (by omega) (by decide), ci (by omega) (by decide), fun K eK => ?_⟩⟩
      rw [nI_s]
      refine ih (k + 1) K (by omega) (fun i hi => ?_) (fun i hi => ?_) (by rw [eK]; exact sJ.u2 (by simp) (by decide))
      · rw [eK]
        by_cases e : i = k
        · rw [up2_e _ _ e, h2 _ (by omega), e]
        · rw [up2_slot _ _ e]; exact h1 i (by omega)
      · rw [eK, up2_slot _ _ (by omega)]; exact h2 i (by omega)
  exact rX12_adopt_267 (go 18 0 I rfl (fun i hi => absurd hi (Nat.not_lt_zero i)) (fun _ _ => rfl) SamM.rf)
theorem sM_adopt268 {Q : MI → Prop} (H : ∀ J, (∀ k, k < 18 → J 268 k = I 268 (18 + k)) → SamM [268] [] I J → Q J) : Wv mX12_adopt [.ref 268] I Q := by
  have eh : (36 : Int32) / 2 = nI 18 := by decide
  have go : ∀ (m k : Nat) (J : MI), m + k = 18 → (∀ i, i < k → J 268 i = I 268 (18 + i)) → (∀ i, k ≤ i → J 268 i = I 268 i) → SamM [268] [] I J → LX12_adopt_268_2 (nI k) J Q := by
    intro m
    induction m with
    | zero =>
      intro k J hm h1 h2 sJ
      have : k = 18 := by omega
      subst this
      exact rX12_adopt_268_2 ⟨fun _ => H J h1 sJ, fun q => absurd (by rw [eh, ile (by decide) (by decide)]; omega) q⟩
    | succ m ih =>
      intro k J hm h1 h2 sJ
      refine rX12_adopt_268_2 ?_
      rw [eh, ile (by decide) (by omega), nI_add, cl (by omega), cl (by omega)]
      refine ⟨fun q => by omega, fun _ => ⟨ci (by omega) (by decide), ci (by omega) (by decide), fun K eK => ?_⟩⟩
      rw [nI_s]
      refine ih (k + 1) K (by omega) (fun i hi => ?_) (fun i hi => ?_) (by rw [eK]; exact sJ.u2 (by simp) (by decide))
      · rw [eK]
        by_cases e : i = k
        · rw [up2_e _ _ e, h2 _ (by omega), e]
        · rw [up2_slot _ _ e]; exact h1 i (by omega)
      · rw [eK, up2_slot _ _ (by omega)]; exact h2 i (by omega)
  exact rX12_adopt_268 (go 18 0 I rfl (fun i hi => absurd hi (Nat.not_lt_zero i)) (fun _ _ => rfl) SamM.rf)
theorem sM_adopt269 {Q : MI → Prop} (H : ∀ J, (∀ k, k < 18 → J 269 k = I 269 (18 + k)) → SamM [269] [] I J → Q J) : Wv mX12_adopt [.ref 269] I Q := by
  have eh : (36 : Int32) / 2 = nI 18 := by decide
  have go : ∀ (m k : Nat) (J : MI), m + k = 18 → (∀ i, i < k → J 269 i = I 269 (18 + i)) → (∀ i, k ≤ i → J 269 i = I 269 i) → SamM [269] [] I J → LX12_adopt_269_2 (nI k) J Q := by
    intro m
    induction m with
    | zero =>
      intro k J hm h1 h2 sJ
      have : k = 18 := by omega
      subst this
      exact rX12_adopt_269_2 ⟨fun _ => H J h1 sJ, fun q => absurd (by rw [eh, ile (by decide) (by decide)]; omega) q⟩
    | succ m ih =>
      intro k J hm h1 h2 sJ
      refine rX12_adopt_269_2 ?_
      rw [eh, ile (by decide) (by omega), nI_add, cl (by omega), cl (by omega)]
      refine ⟨fun q => by omega, fun _ => ⟨ci (by omega) (by decide), ci (by omega) (by decide), fun K eK => ?_⟩⟩
      rw [nI_s]
      refine ih (k + 1) K (by omega) (fun i hi => ?_) (fun i hi => ?_) (by rw [eK]; exact sJ.u2 (by simp) (by decide))
      · rw [eK]
        by_cases e : i = k
        · rw [up2_e _ _ e, h2 _ (by omega), e]
        · rw [up2_slot _ _ e]; exact h1 i (by omega)
      · rw [eK, up2_slot _ _ (by omega)]; exact h2 i (by omega)
  exact rX12_adopt_269 (go 18 0 I rfl (fun i hi => absurd hi (Nat.not_lt_zero i)) (fun _ _ => rfl) SamM.rf)
theorem sM_adopt270 {Q : MI → Prop} (H : ∀ J, (∀ k, k < 12 → J 270 k = I 270 (12 + k)) → SamM [270] [] I J → Q J) : Wv mX12_adopt [.ref 270] I Q := by
  have eh : (24 : Int32) / 2 = nI 12 := by decide
  have go : ∀ (m k : Nat) (J : MI), m + k = 12 → (∀ i, i < k → J 270 i = I 270 (12 + i)) → (∀ i, k ≤ i → J 270 i = I 270 i) → SamM [270] [] I J → LX12_adopt_270_2 (nI k) J Q := by
    intro m
    induction m with
    | zero =>
      intro k J hm h1 h2 sJ
      have : k = 12 := by omega
      subst this
      exact rX12_adopt_270_2 ⟨fun _ => H J h1 sJ, fun q => absurd (by rw [eh, ile (by decide) (by decide)]; omega) q⟩
    | succ m ih =>
      intro k J hm h1 h2 sJ
      refine rX12_adopt_270_2 ?_
      rw [eh, ile (by decide) (by omega), nI_add, cl (by omega), cl (by omega)]
      refine ⟨fun q => by omega, fun _ => ⟨ci (by omega) (by decide), ci (by omega) (by decide), fun K eK => ?_⟩⟩
      rw [nI_s]
      refine ih (k + 1) K (by omega) (fun i hi => ?_) (fun i hi => ?_) (by rw [eK]; exact sJ.u2 (by simp) (by decide))
      · rw [eK]
        by_cases e : i = k
        · rw [up2_e _ _ e, h2 _ (by omega), e]
        · rw [up2_slot _ _ e]; exact h1 i (by omega)
      · rw [eK, up2_slot _ _ (by omega)]; exact h2 i (by omega)
  exact rX12_adopt_270 (go 12 0 I rfl (fun i hi => absurd hi (Nat.not_lt_zero i)) (fun _ _ => rfl) SamM.rf)
theorem sM_adopt271 {Q : MI → Prop} (H : ∀ J, (∀ k, k < 12 → J 271 k = I 271 (12 + k)) → SamM [271] [] I J → Q J) : Wv mX12_adopt [.ref 271] I Q := by
  have eh : (24 : Int32) / 2 = nI 12 := by decide
  have go : ∀ (m k : Nat) (J : MI), m + k = 12 → (∀ i, i < k → J 271 i = I 271 (12 + i)) → (∀ i, k ≤ i → J 271 i = I 271 i) → SamM [271] [] I J → LX12_adopt_271_2 (nI k) J Q := by
    intro m
    induction m with
    | zero =>
      intro k J hm h1 h2 sJ
      have : k = 12 := by omega
      subst this
      exact rX12_adopt_271_2 ⟨fun _ => H J h1 sJ, fun q => absurd (by rw [eh, ile (by decide) (by decide)]; omega) q⟩
    | succ m ih =>
      intro k J hm h1 h2 sJ
      refine rX12_adopt_271_2 ?_
      rw [eh, ile (by decide) (by omega), nI_add, cl (by omega), cl (by omega)]
      refine ⟨fun q => by omega, fun _ => ⟨ci (by omega) (by decide), ci (by omega) (by decide), fun K eK => ?_⟩⟩
      rw [nI_s]
      refine ih (k + 1) K (by omega) (fun i hi => ?_) (fun i hi => ?_) (by rw [eK]; exact sJ.u2 (by simp) (by decide))
      · rw [eK]
        by_cases e : i = k
        · rw [up2_e _ _ e, h2 _ (by omega), e]
        · rw [up2_slot _ _ e]; exact h1 i (by omega)
      · rw [eK, up2_slot _ _ (by omega)]; exact h2 i (by omega)
  exact rX12_adopt_271 (go 12 0 I rfl (fun i hi => absurd hi (Nat.not_lt_zero i)) (fun _ _ => rfl) SamM.rf)
theorem sM_adopt272 {Q : MI → Prop} (H : ∀ J, (∀ k, k < 12 → J 272 k = I 272 (12 + k)) → SamM [272] [] I J → Q J) : Wv mX12_adopt [.ref 272] I Q := by
  have eh : (24 : Int32) / 2 = nI 12 := by decide
  have go : ∀ (m k : Nat) (J : MI), m + k = 12 → (∀ i, i < k → J 272 i = I 272 (12 + i)) → (∀ i, k ≤ i → J 272 i = I 272 i) → SamM [272] [] I J → LX12_adopt_272_2 (nI k) J Q := by
    intro m
    induction m with
    | zero =>
      intro k J hm h1 h2 sJ
      have : k = 12 := by omega
      subst this
      exact rX12_adopt_272_2 ⟨fun _ => H J h1 sJ, fun q => absurd (by rw [eh, ile (by decide) (by decide)]; omega) q⟩
    | succ m ih =>
      intro k J hm h1 h2 sJ
      refine rX12_adopt_272_2 ?_
      rw [eh, ile (by decide) (by omega), nI_add, cl (by omega), cl (by omega)]
      refine ⟨fun q => by omega, fun _ => ⟨ci (by omega) (by decide), ci (by omega) (by decide), fun K eK => ?_⟩⟩
      rw [nI_s]
      refine ih (k + 1) K (by omega) (fun i hi => ?_) (fun i hi => ?_) (by rw [eK]; exact sJ.u2 (by simp) (by decide))
      · rw [eK]
        by_cases e : i = k
        · rw [up2_e _ _ e, h2 _ (by omega), e]
        · rw [up2_slot _ _ e]; exact h1 i (by omega)
      · rw [eK, up2_slot _ _ (by omega)]; exact h2 i (by omega)
  exact rX12_adopt_272 (go 12 0 I rfl (fun i hi => absurd hi (Nat.not_lt_zero i)) (fun _ _ => rfl) SamM.rf)
theorem sM_adopt273 {Q : MI → Prop} (H : ∀ J, (∀ k, k < 84 → J 273 k = I 273 (84 + k)) → SamM [273] [] I J → Q J) : Wv mX12_adopt [.ref 273] I Q := by
  have eh : (168 : Int32) / 2 = nI 84 := by decide
  have go : ∀ (m k : Nat) (J : MI), m + k = 84 → (∀ i, i < k → J 273 i = I 273 (84 + i)) → (∀ i, k ≤ i → J 273 i = I 273 i) → SamM [273] [] I J → LX12_adopt_273_2 (nI k) J Q := by
    intro m
    induction m with
    | zero =>
      intro k J hm h1 h2 sJ
      have : k = 84 := by omega
      subst this
      exact rX12_adopt_273_2 ⟨fun _ => H J h1 sJ, fun q => absurd (by rw [eh, ile (by decide) (by decide)]; omega) q⟩
    | succ m ih =>
      intro k J hm h1 h2 sJ
      refine rX12_adopt_273_2 ?_
      rw [eh, ile (by decide) (by omega), nI_add, cl (by omega), cl (by omega)]
      refine ⟨fun q => by omega, fun _ => ⟨ci (by omega) (by decide), ci (by omega) (by decide), fun K eK => ?_⟩⟩
      rw [nI_s]
      refine ih (k + 1) K (by omega) (fun i hi => ?_) (fun i hi => ?_) (by rw [eK]; exact sJ.u2 (by simp) (by decide))
      · rw [eK]
        by_cases e : i = k
        · rw [up2_e _ _ e, h2 _ (by omega), e]
        · rw [up2_slot _ _ e]; exact h1 i (by omega)
      · rw [eK, up2_slot _ _ (by omega)]; exact h2 i (by omega)
  exact rX12_adopt_273 (go 84 0 I rfl (fun i hi => absurd hi (Nat.not_lt_zero i)) (fun _ _ => rfl) SamM.rf)
/-- a new ledger's row -/
def clrF (I : MI) (k : Nat) : Int32 := if 1 ≤ k ∧ k < 85 then I 273 (k - 1) else if 85 ≤ k ∧ k < 97 then I 272 (k - 85) else if 97 ≤ k ∧ k < 115 then I 268 (k - 97) else if 115 ≤ k ∧ k < 133 then I 269 (k - 115) else if k = 293 then -2 else 0
theorem sM_clear {Q : MI → Prop} (H : ∀ J, (∀ k, k < 332 → J 274 k = clrF I k) → SamM [274] [] I J → Q J) : Wv mX12_clearLedger [.ref 261] I Q := by
  have f81 : ∀ (m k : Nat) (J : MI), m + k = 18 → (∀ i, i < 332 → J 274 i = if 1 ≤ i ∧ i < 85 then I 273 (i - 1) else if 85 ≤ i ∧ i < 97 then I 272 (i - 85) else if 97 ≤ i ∧ i < 97 + k then I 268 (i - 97) else if 115 ≤ i ∧ i < 115 + k then I 269 (i - 115) else 0) → SamM [274] [] I J → LX12_clearLedger_81 (nI k) J Q := by
    intro m
    induction m with
    | zero =>
      intro k J hm hJ sJ
      have : k = 18 := by omega
      subst this
      refine rX12_clearLedger_81 ⟨fun _ => ⟨vpn 293 (by decide) (by decide), fun K eK => H K (fun i hi => ?_) (by rw [eK]; exact sJ.u2 (by simp) (by decide))⟩, fun q => absurd (by rw [show (18 : Int32) = nI 18 from rfl, ile (by decide) (by decide)]; omega) q⟩
      rw [show (293 : Int32).toNatClampNeg = 293 from rfl] at eK
      rw [eK, up2_ap, if_pos rfl, hJ i hi]
      unfold clrF
      by_cases e : i = 293
      · subst e; rw [if_pos rfl, if_neg (by decide), if_neg (by decide), if_neg (by decide), if_neg (by decide), if_pos rfl]
      · rw [if_neg e, if_neg e]
    | succ m ih =>
      intro k J hm hJ sJ
      refine rX12_clearLedger_81 ⟨fun q => ?_, fun _ => ?_⟩
      · rw [show (18 : Int32) = nI 18 from rfl, ile (by decide) (by omega)] at q; omega
      · rw [show (97 : Int32) = nI 97 from rfl, show (115 : Int32) = nI 115 from rfl, nI_add, nI_add, cl (show 97 + k < 2147483648 by omega), cl (show 115 + k < 2147483648 by omega), cl (show k < 2147483648 by omega), sJ.1 268 (by decide) (by simp)]
        refine ⟨ci (by omega) (by decide), ci (by omega) (by decide), fun K eK => ⟨ci (by omega) (by decide), ci (by omega) (by decide), fun L eL => ?_⟩⟩
        have k269 : K 269 k = I 269 k := by rw [eK, up2_cell _ _ _ (by decide), sJ.1 269 (by decide) (by simp)]
        rw [k269] at eL
        rw [nI_s]
        refine ih (k + 1) L (by omega) (fun i hi => ?_) (by rw [eL, eK]; exact (sJ.u2 (by simp) (by decide)).u2 (by simp) (by decide))
        rw [eL, up2_ap, if_pos rfl, eK, up2_ap, if_pos rfl, hJ i hi]
        by_cases e1 : i = 115 + k
        · rw [if_pos e1, if_neg (by omega), if_neg (by omega), if_neg (by omega), if_pos (by omega)]; congr 1; omega
        · rw [if_neg e1]
          by_cases e2 : i = 97 + k
          · rw [if_pos e2, if_neg (by omega), if_neg (by omega), if_pos (by omega)]; congr 1; omega
          · rw [if_neg e2]
            by_cases a1 : 1 ≤ i ∧ i < 85
            · rw [if_pos a1, if_pos a1]
            · rw [if_neg a1, if_neg a1]
              by_cases a2 : 85 ≤ i ∧ i < 97
              · rw [if_pos a2, if_pos a2]
              · rw [if_neg a2, if_neg a2]
                by_cases a3 : 97 ≤ i ∧ i < 97 + k
                · rw [if_pos a3, if_pos (by omega)]
                · rw [if_neg a3, if_neg (show ¬ (97 ≤ i ∧ i < 97 + (k + 1)) by omega)]
                  by_cases a4 : 115 ≤ i ∧ i < 115 + k
                  · rw [if_pos a4, if_pos (by omega)]
                  · rw [if_neg a4, if_neg (by omega)]
  have f52 : ∀ (m k : Nat) (J : MI), m + k = 12 → (∀ i, i < 332 → J 274 i = if 1 ≤ i ∧ i < 85 then I 273 (i - 1) else if 85 ≤ i ∧ i < 85 + k then I 272 (i - 85) else 0) → SamM [274] [] I J → LX12_clearLedger_52 (nI k) J Q := by
    intro m
    induction m with
    | zero =>
      intro k J hm hJ sJ
      have : k = 12 := by omega
      subst this
      refine rX12_clearLedger_52 ⟨fun _ => f81 18 0 J rfl (fun i hi => ?_) sJ, fun q => absurd (by rw [show (12 : Int32) = nI 12 from rfl, ile (by decide) (by decide)]; omega) q⟩
      rw [hJ i hi]
      by_cases a1 : 1 ≤ i ∧ i < 85
      · rw [if_pos a1, if_pos a1]
      · rw [if_neg a1, if_neg a1]
        by_cases a2 : 85 ≤ i ∧ i < 97
        · rw [if_pos (by omega), if_pos a2]
        · rw [if_neg (by omega), if_neg a2, if_neg (by omega), if_neg (by omega)]
    | succ m ih =>
      intro k J hm hJ sJ
      refine rX12_clearLedger_52 ⟨fun q => ?_, fun _ => ?_⟩
      · rw [show (12 : Int32) = nI 12 from rfl, ile (by decide) (by omega)] at q; omega
      · rw [show (85 : Int32) = nI 85 from rfl, nI_add, cl (show 85 + k < 2147483648 by omega), cl (show k < 2147483648 by omega), sJ.1 272 (by decide) (by simp)]
        refine ⟨ci (by omega) (by decide), ci (by omega) (by decide), fun K eK => ?_⟩
        rw [nI_s]
        refine ih (k + 1) K (by omega) (fun i hi => ?_) (by rw [eK]; exact sJ.u2 (by simp) (by decide))
        rw [eK, up2_ap, if_pos rfl, hJ i hi]
        by_cases e2 : i = 85 + k
        · rw [if_pos e2, if_neg (by omega), if_pos (by omega)]; congr 1; omega
        · rw [if_neg e2]
          by_cases a1 : 1 ≤ i ∧ i < 85
          · rw [if_pos a1, if_pos a1]
          · rw [if_neg a1, if_neg a1]
            by_cases a2 : 85 ≤ i ∧ i < 85 + k
            · rw [if_pos a2, if_pos (by omega)]
            · rw [if_neg a2, if_neg (by omega)]
  have f24 : ∀ (m k : Nat) (J : MI), m + k = 84 → (∀ i, i < 332 → J 274 i = if 1 ≤ i ∧ i < 1 + k then I 273 (i - 1) else 0) → SamM [274] [] I J → LX12_clearLedger_24 (nI k) J Q := by
    intro m
    induction m with
    | zero =>
      intro k J hm hJ sJ
      have : k = 84 := by omega
      subst this
      refine rX12_clearLedger_24 ⟨fun _ => f52 12 0 J rfl (fun i hi => ?_) sJ, fun q => absurd (by rw [show (84 : Int32) = nI 84 from rfl, ile (by decide) (by decide)]; omega) q⟩
      rw [hJ i hi]
      by_cases a1 : 1 ≤ i ∧ i < 85
      · rw [if_pos (by omega), if_pos a1]
      · rw [if_neg (by omega), if_neg a1, if_neg (by omega)]
    | succ m ih =>
      intro k J hm hJ sJ
      refine rX12_clearLedger_24 ⟨fun q => ?_, fun _ => ?_⟩
      · rw [show (84 : Int32) = nI 84 from rfl, ile (by decide) (by omega)] at q; omega
      · rw [show (1 : Int32) + nI k = nI (1 + k) from nI_add 1 k, cl (show 1 + k < 2147483648 by omega), cl (show k < 2147483648 by omega), sJ.1 273 (by decide) (by simp)]
        refine ⟨ci (by omega) (by decide), ci (by omega) (by decide), fun K eK => ?_⟩
        rw [nI_s]
        refine ih (k + 1) K (by omega) (fun i hi => ?_) (by rw [eK]; exact sJ.u2 (by simp) (by decide))
        rw [eK, up2_ap, if_pos rfl, hJ i hi]
        by_cases e2 : i = 1 + k
        · rw [if_pos e2, if_pos (by omega)]; congr 1; omega
        · rw [if_neg e2]
          by_cases a1 : 1 ≤ i ∧ i < 1 + k
          · rw [if_pos a1, if_pos (by omega)]
          · rw [if_neg a1, if_neg (by omega)]
  have f2 : ∀ (m k : Nat) (J : MI), m + k = 332 → (∀ i, i < k → J 274 i = 0) → SamM [274] [] I J → LX12_clearLedger_2 (nI k) J Q := by
    intro m
    induction m with
    | zero =>
      intro k J hm hJ sJ
      have : k = 332 := by omega
      subst this
      refine rX12_clearLedger_2 ⟨fun _ => f24 84 0 J rfl (fun i hi => ?_) sJ, fun q => absurd (by rw [e332, ile (by decide) (by decide)]; omega) q⟩
      rw [hJ i hi, if_neg (by omega)]
    | succ m ih =>
      intro k J hm hJ sJ
      refine rX12_clearLedger_2 ⟨fun q => ?_, fun _ => ⟨ci (by omega) (by decide), fun K eK => ?_⟩⟩
      · rw [e332, ile (by decide) (by omega)] at q; omega
      · rw [cl (by omega)] at eK
        rw [nI_s]
        refine ih (k + 1) K (by omega) (fun i hi => ?_) (by rw [eK]; exact sJ.u2 (by simp) (by decide))
        rw [eK, up2_ap, if_pos rfl]
        by_cases e : i = k
        · rw [if_pos e]
        · rw [if_neg e]; exact hJ i (by omega)
  exact rX12_clearLedger (f2 332 0 I rfl (fun i hi => absurd hi (Nat.not_lt_zero i)) SamM.rf)
/-- a new ledger -/
theorem LM_new {p : Pl} {d : Dl} {J : MI} (hp : PlOk p) (hJ : ∀ k, k < 332 → J 274 k = clrF I k) (ho : ∀ i, i < 7 * pHc p → I 273 i = nI (d.1 i)) (hk : ∀ h, h < pHc p → I 272 h = d.2.1 h) (hgt : ∀ k, k < pSc p → (d.2.2.2 k = 0 → I 268 k = -1) ∧ (d.2.2.2 k ≠ 0 → I 268 k = nI (d.2.2.1 k) ∧ I 269 k = nI (d.2.2.2 k))) : LM 274 0 p (mkL d) J := by
  have hhc := hp.2.2.2.1
  have hsc := hp.2.2.1
  have hnc := hp.2.1
  have z : ∀ k, 133 ≤ k → k < 332 → k ≠ 293 → J 274 k = 0 := fun k a1 a2 a3 => by
    rw [hJ k a2]; unfold clrF
    rw [if_neg (by omega), if_neg (by omega), if_neg (by omega), if_neg (by omega), if_neg a3]
  refine ⟨?_, fun h hh => ?_, fun i hi => ?_, fun h hh => ⟨?_, ?_, ?_, ?_, ?_⟩, fun h h1 h2 => ?_, fun k hk' => ?_, fun a b ha hb => ?_, ?_, ?_, ?_, fun v hv => absurd hv (Nat.not_lt_zero v)⟩
  · rw [hJ 0 (by decide)]; rfl
  · rw [z _ (by omega) (by omega) (by omega)]
    show (0 : Int32) = if (0 : Nat).testBit h = true then 1 else 0
    rw [Nat.zero_testBit]; rfl
  · rw [hJ _ (by omega)]; unfold clrF
    rw [if_pos (by omega), show 0 + 1 + i - 1 = i by omega]; exact ho i hi
  · rw [hJ _ (by omega)]; unfold clrF
    rw [if_neg (by omega), if_pos (by omega), show 0 + 85 + h - 85 = h by omega]; exact hk h hh
  · rw [z _ (by omega) (by omega) (by omega)]; rfl
  · rw [z _ (by omega) (by omega) (by omega)]; rfl
  · rw [z _ (by omega) (by omega) (by omega)]; rfl
  · rw [z _ (by omega) (by omega) (by omega)]; rfl
  · rw [z _ (by omega) (by omega) (by omega)]
  · have e1 : J 274 (0 + 97 + k) = I 268 k := by
      rw [hJ _ (by omega)]; unfold clrF
      rw [if_neg (by omega), if_neg (by omega), if_pos (by omega), show 0 + 97 + k - 97 = k by omega]
    have e2 : J 274 (0 + 115 + k) = I 269 k := by
      rw [hJ _ (by omega)]; unfold clrF
      rw [if_neg (by omega), if_neg (by omega), if_neg (by omega), if_pos (by omega), show 0 + 115 + k - 115 = k by omega]
    rw [e1, e2]; exact hgt k hk'
  · rw [z _ (by omega) (by omega) (by omega)]; rfl
  · rw [hJ 293 (by decide)]; rfl
  · rw [z 294 (by decide) (by decide) (by decide)]; rfl
  · rw [z 295 (by decide) (by decide) (by decide)]; rfl
/-- the end of a good text -/
theorem mgood {r : Rs} {a : Int32} {Q : Int32 → MI → Prop} (h0 : r.1 = 0) (h : MS n g r I) (ho : POk (rP r) (rD r)) (H : ∀ J, PM (rP r) J → LM 274 0 (rP r) (mkL (rD r)) J → J 261 24 = 0 → J 277 0 = 0 → J 277 1 = 0 → (∀ c, c < 261 ∨ c = 262 → J c = I c) → (∀ k, k ≠ 24 → J 261 k = I 261 k) → Q (nI (pHc (rP r))) J) : LX12_parse_151 a I Q := by
  have hsc := ho.1.2.2.1
  have hhc := ho.1.2.2.2.1
  have hD := h.2 h0
  have f176 : ∀ (J : MI), (∀ i, i < 7 → J 263 i = I 264 i) → SamM [263] [] I J → LX12_parse_176 a (nI 7) J Q := by
    intro J hJ sJ
    refine rX12_parse_176 ⟨fun _ => ?_, fun q => absurd (by rw [show (7 : Int32) = nI 7 from rfl, ile (by decide) (by decide)]; omega) q⟩
    refine sM_adopt265 (fun J1 h1 s1 => sM_adopt266 (fun J2 h2 s2 => sM_adopt267 (fun J3 h3 s3 => sM_adopt268 (fun J4 h4 s4 => sM_adopt269 (fun J5 h5 s5 => sM_adopt270 (fun J6 h6 s6 => sM_adopt271 (fun J7 h7 s7 => sM_adopt272 (fun J8 h8 s8 => sM_adopt273 (fun J9 h9 s9 => sM_clear (fun K hK sK K1 e1 => ⟨vpn 0 (by decide) (by decide), fun K2 e2 => ⟨vpn 1 (by decide) (by decide), fun K3 e3 => ⟨in67, ?_⟩⟩⟩))))))))))
    have vn : vp_nar .boolean 0 = (0 : Int32) := rfl
    rw [vn, show (0 : Int32).toNatClampNeg = 0 from rfl] at e2
    rw [vn, show (1 : Int32).toNatClampNeg = 1 from rfl] at e3
    have o : ∀ c, c ≠ 261 → c ≠ 277 → K3 c = K c := fun c a1 a2 => by rw [e3, up2_cell _ _ _ a2, e2, up2_cell _ _ _ a2, e1, up2_cell _ _ _ a1]
    -- a row that is adopted
    have c265 : ∀ k, k < 18 → K3 265 k = I 265 (18 + k) := fun k hk => by
      rw [o 265 (by decide) (by decide), sK.1 265 (by decide) (by simp), s9.1 265 (by decide) (by simp), s8.1 265 (by decide) (by simp), s7.1 265 (by decide) (by simp), s6.1 265 (by decide) (by simp), s5.1 265 (by decide) (by simp), s4.1 265 (by decide) (by simp), s3.1 265 (by decide) (by simp), s2.1 265 (by decide) (by simp), h1 k hk, sJ.1 265 (by decide) (by simp)]
    have c266 : ∀ k, k < 18 → K3 266 k = I 266 (18 + k) := fun k hk => by
      rw [o 266 (by decide) (by decide), sK.1 266 (by decide) (by simp), s9.1 266 (by decide) (by simp), s8.1 266 (by decide) (by simp), s7.1 266 (by decide) (by simp), s6.1 266 (by decide) (by simp), s5.1 266 (by decide) (by simp), s4.1 266 (by decide) (by simp), s3.1 266 (by decide) (by simp), h2 k hk, s1.1 266 (by decide) (by simp), sJ.1 266 (by decide) (by simp)]
    have c267 : ∀ k, k < 18 → K3 267 k = I 267 (18 + k) := fun k hk => by
      rw [o 267 (by decide) (by decide), sK.1 267 (by decide) (by simp), s9.1 267 (by decide) (by simp), s8.1 267 (by decide) (by simp), s7.1 267 (by decide) (by simp), s6.1 267 (by decide) (by simp), s5.1 267 (by decide) (by simp), s4.1 267 (by decide) (by simp), h3 k hk, s2.1 267 (by decide) (by simp), s1.1 267 (by decide) (by simp), sJ.1 267 (by decide) (by simp)]
    have c268 : ∀ k, k < 18 → J9 268 k = I 268 (18 + k) := fun k hk => by
      rw [s9.1 268 (by decide) (by simp), s8.1 268 (by decide) (by simp), s7.1 268 (by decide) (by simp), s6.1 268 (by decide) (by simp), s5.1 268 (by decide) (by simp), h4 k hk, s3.1 268 (by decide) (by simp), s2.1 268 (by decide) (by simp), s1.1 268 (by decide) (by simp), sJ.1 268 (by decide) (by simp)]
    have c269 : ∀ k, k < 18 → J9 269 k = I 269 (18 + k) := fun k hk => by
      rw [s9.1 269 (by decide) (by simp), s8.1 269 (by decide) (by simp), s7.1 269 (by decide) (by simp), s6.1 269 (by decide) (by simp), h5 k hk, s4.1 269 (by decide) (by simp), s3.1 269 (by decide) (by simp), s2.1 269 (by decide) (by simp), s1.1 269 (by decide) (by simp), sJ.1 269 (by decide) (by simp)]
    have c270 : ∀ k, k < 12 → K3 270 k = I 270 (12 + k) := fun k hk => by
      rw [o 270 (by decide) (by decide), sK.1 270 (by decide) (by simp), s9.1 270 (by decide) (by simp), s8.1 270 (by decide) (by simp), s7.1 270 (by decide) (by simp), h6 k hk, s5.1 270 (by decide) (by simp), s4.1 270 (by decide) (by simp), s3.1 270 (by decide) (by simp), s2.1 270 (by decide) (by simp), s1.1 270 (by decide) (by simp), sJ.1 270 (by decide) (by simp)]
    have c271 : ∀ k, k < 12 → K3 271 k = I 271 (12 + k) := fun k hk => by
      rw [o 271 (by decide) (by decide), sK.1 271 (by decide) (by simp), s9.1 271 (by decide) (by simp), s8.1 271 (by decide) (by simp), h7 k hk, s6.1 271 (by decide) (by simp), s5.1 271 (by decide) (by simp), s4.1 271 (by decide) (by simp), s3.1 271 (by decide) (by simp), s2.1 271 (by decide) (by simp), s1.1 271 (by decide) (by simp), sJ.1 271 (by decide) (by simp)]
    have c272 : ∀ k, k < 12 → J9 272 k = I 272 (12 + k) := fun k hk => by
      rw [s9.1 272 (by decide) (by simp), h8 k hk, s7.1 272 (by decide) (by simp), s6.1 272 (by decide) (by simp), s5.1 272 (by decide) (by simp), s4.1 272 (by decide) (by simp), s3.1 272 (by decide) (by simp), s2.1 272 (by decide) (by simp), s1.1 272 (by decide) (by simp), sJ.1 272 (by decide) (by simp)]
    have c273 : ∀ k, k < 84 → J9 273 k = I 273 (84 + k) := fun k hk => by
      rw [h9 k hk, s8.1 273 (by decide) (by simp), s7.1 273 (by decide) (by simp), s6.1 273 (by decide) (by simp), s5.1 273 (by decide) (by simp), s4.1 273 (by decide) (by simp), s3.1 273 (by decide) (by simp), s2.1 273 (by decide) (by simp), s1.1 273 (by decide) (by simp), sJ.1 273 (by decide) (by simp)]
    have c263 : ∀ k, k < 7 → K3 263 k = I 264 k := fun k hk => by
      rw [o 263 (by decide) (by decide), sK.1 263 (by decide) (by simp), s9.1 263 (by decide) (by simp), s8.1 263 (by decide) (by simp), s7.1 263 (by decide) (by simp), s6.1 263 (by decide) (by simp), s5.1 263 (by decide) (by simp), s4.1 263 (by decide) (by simp), s3.1 263 (by decide) (by simp), s2.1 263 (by decide) (by simp), s1.1 263 (by decide) (by simp)]; exact hJ k hk
    have far : ∀ c, c < 261 ∨ c = 262 → K3 c = I c := fun c hc => by
      rw [o c (by omega) (by omega), sK.1 c (by omega) (by simp; omega), s9.1 c (by omega) (by simp; omega), s8.1 c (by omega) (by simp; omega), s7.1 c (by omega) (by simp; omega), s6.1 c (by omega) (by simp; omega), s5.1 c (by omega) (by simp; omega), s4.1 c (by omega) (by simp; omega), s3.1 c (by omega) (by simp; omega), s2.1 c (by omega) (by simp; omega), s1.1 c (by omega) (by simp; omega), sJ.1 c (by omega) (by simp; omega)]
    have k261 : ∀ k, k ≠ 24 → K3 261 k = I 261 k := fun k hk => by
      rw [e3, up2_cell _ _ _ (by decide), e2, up2_cell _ _ _ (by decide), e1, up2_slot _ _ hk, sK.2 k (by simp), s9.2 k (by simp), s8.2 k (by simp), s7.2 k (by simp), s6.2 k (by simp), s5.2 k (by simp), s4.2 k (by simp), s3.2 k (by simp), s2.2 k (by simp), s1.2 k (by simp), sJ.2 k (by simp)]
    obtain ⟨b0, b1, b2, b3, b4, b5, b6, b7, b8, b9⟩ := hD
    have e6 : K3 263 (6 : Int32).toNatClampNeg = nI (pHc (rP r)) := by rw [cl6, c263 6 (by decide)]; exact b6
    rw [e6]
    have lm : LM 274 0 (rP r) (mkL (rD r)) K := by
      refine LM_new ho.1 hK (fun i hi => ?_) (fun k hk => ?_) (fun k hk => ?_)
      · rw [c273 i (by omega)]; exact b9 i hi
      · rw [c272 k (by omega)]; exact (b8 k hk).2.2
      · rw [c268 k (by omega), c269 k (by omega)]; exact (b7 k hk).2.2.2
    refine H K3 ⟨by rw [c263 0 (by decide)]; exact b0, by rw [c263 1 (by decide)]; exact b1, by rw [c263 2 (by decide)]; exact b2, by rw [c263 3 (by decide)]; exact b3, by rw [c263 4 (by decide)]; exact b4, by rw [c263 5 (by decide)]; exact b5, by rw [c263 6 (by decide)]; exact b6, fun k hk => ?_, fun k hk => ?_⟩ (LM_of lm (o 274 (by decide) (by decide))) ?_ ?_ ?_ far k261
    · rw [c265 k (by omega), c266 k (by omega), c267 k (by omega)]
      exact ⟨(b7 k hk).1, (b7 k hk).2.1, (b7 k hk).2.2.1⟩
    · rw [c270 k (by omega), c271 k (by omega)]
      exact ⟨(b8 k hk).1, (b8 k hk).2.1⟩
    · rw [e3, up2_cell _ _ _ (by decide), e2, up2_cell _ _ _ (by decide), e1, up2_same]
    · rw [e3, up2_slot _ _ (by decide), e2, up2_same]
    · rw [e3, up2_same]
  have go : ∀ (m k : Nat) (J : MI), m + k = 7 → (∀ i, i < k → J 263 i = I 264 i) → SamM [263] [] I J → LX12_parse_176 a (nI k) J Q := by
    intro m
    induction m with
    | zero =>
      intro k J hm hJ sJ
      have : k = 7 := by omega
      subst this
      exact f176 J hJ sJ
    | succ m ih =>
      intro k J hm hJ sJ
      refine rX12_parse_176 ⟨fun q => ?_, fun _ => ⟨ci (by omega) (by decide), ci (by omega) (by decide), fun K eK => ?_⟩⟩
      · rw [show (7 : Int32) = nI 7 from rfl, ile (by decide) (by omega)] at q; omega
      · rw [cl (by omega), sJ.1 264 (by decide) (by simp)] at eK
        rw [nI_s]
        refine ih (k + 1) K (by omega) (fun i hi => ?_) (by rw [eK]; exact sJ.u2 (by simp) (by decide))
        rw [eK, up2_ap, if_pos rfl]
        by_cases e : i = k
        · rw [if_pos e, e]
        · rw [if_neg e]; exact hJ i (by omega)
  refine rX12_parse_151 ?_
  rw [PTM_z h.1]
  exact ⟨fun _ => go 7 0 I rfl (fun i hi => absurd hi (Nat.not_lt_zero i)) SamM.rf, fun z => absurd h0 z⟩
end
