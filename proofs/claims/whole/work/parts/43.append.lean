/-! appending -/
def byt (a s : Int32) : Int32 := (a >>> (s &&& 31)).toInt8.toInt32
theorem byt_ok (a s : Int32) : (byt a s).toInt8.toInt32 = byt a s := by
  unfold byt
  rw [Int8.toInt8_toInt32]
def upd4 (f : Nat → Int32) (n : Nat) (a : Int32) : Nat → Int32 := upd (upd (upd (upd f n (byt a 24)) (n + 1) (byt a 16)) (n + 2) (byt a 8)) (n + 3) (byt a 0)
theorem upd_ap (f : Nat → Int32) (k : Nat) (x : Int32) (j : Nat) : upd f k x j = if j = k then x else f j := by
  by_cases h : j = k
  · rw [h, upd_same, if_pos rfl]
  · rw [upd_ne _ _ h, if_neg h]
theorem upd4_eq {f g : Nat → Int32} {n : Nat} {a : Int32} (h : ∀ j, j < n → f j = g j) : ∀ j, j < n + 4 → upd4 f n a j = upd4 g n a j := by
  intro j hj
  unfold upd4
  simp only [upd_ap]
  split
  · rfl
  · split
    · rfl
    · split
      · rfl
      · split
        · rfl
        · exact h j (by omega)
theorem upd4_ok {f : Nat → Int32} {n : Nat} {a : Int32} (h : ∀ j, j < n → (f j).toInt8.toInt32 = f j) : ∀ j, j < n + 4 → (upd4 f n a j).toInt8.toInt32 = upd4 f n a j := by
  intro j hj
  unfold upd4
  simp only [upd_ap]
  split
  · exact byt_ok _ _
  · split
    · exact byt_ok _ _
    · split
      · exact byt_ok _ _
      · split
        · exact byt_ok _ _
        · exact h j (by omega)
theorem e900 : (900 : Int32) = nI 900 := rfl
theorem sX_add4 {n : Nat} {a : Int32} {I : MI} {Q : MI → Prop} (h : I 1 1 = nI n) (hn : n + 4 ≤ 900) (H : ∀ J, J 1 1 = nI (n + 4) → J 2 = upd4 (I 2) n a → (∀ c, c ≠ 1 → c ≠ 2 → J c = I c) → Q J) : Wv mX9_addFour [.ref 1, .int a] I Q := by
  have step : ∀ (k : Nat) (s s2 : Int32) (J : MI), k < 900 → J 1 1 = nI k → ¬ s < 0 → s + (-8) = s2 → (∀ K, K 1 1 = nI (k + 1) → K 2 = upd (J 2) k (byt a s) → (∀ c, c ≠ 1 → c ≠ 2 → K c = J c) → LX9_addFour_3 a s2 K Q) → LX9_addFour_3 a s J Q := by
    intro k s s2 J hk hJ hs hs2 HK
    refine rX9_addFour_3 ⟨fun q => absurd q hs, fun _ => ⟨fun q => ?_, fun _ => ?_⟩⟩
    · rw [hJ, e900, ile (by decide) (by omega)] at q; omega
    · rw [hJ, cl (by omega), pk_vb, hs2]
      refine ⟨ci (by omega) (by decide), fun K1 e1 K2 e2 => HK K2 ?_ ?_ (fun c h1 h2 => ?_)⟩
      · rw [e2, up2_same, e1, up2_cell _ _ _ (by decide), hJ, nI_s]
      · rw [e2, up2_cell _ _ _ (by decide), e1]
        funext j
        rw [upd_ap, up2_ap, if_pos rfl]
        rfl
      · rw [e2, up2_cell _ _ _ h1, e1, up2_cell _ _ _ h2]
  refine rX9_addFour (step n 24 16 I (by omega) h (by decide) (by decide) (fun J1 a1 b1 c1 => step (n + 1) 16 8 J1 (by omega) a1 (by decide) (by decide) (fun J2 a2 b2 c2 => step (n + 2) 8 0 J2 (by omega) a2 (by decide) (by decide) (fun J3 a3 b3 c3 => step (n + 3) 0 (-8) J3 (by omega) a3 (by decide) (by decide) (fun J4 a4 b4 c4 => rX9_addFour_3 ⟨fun _ => H J4 a4 ?_ (fun c h1 h2 => ?_), fun q => absurd (by decide) q⟩)))))
  · rw [b4, b3, b2, b1]; rfl
  · rw [c4 c h1 h2, c3 c h1 h2, c2 c h1 h2, c1 c h1 h2]
theorem sM_add4 {n : Nat} {a : Int32} {I : MI} {Q : MI → Prop} (h : I 261 2 = nI n) (hn : n + 4 ≤ 900) (H : ∀ J, J 261 2 = nI (n + 4) → J 262 = upd4 (I 262) n a → SamM [262] [2] I J → Q J) : Wv mX12_appendInt [.ref 261, .int a] I Q := by
  have step : ∀ (k : Nat) (s s2 : Int32) (J : MI), k < 900 → J 261 2 = nI k → ¬ s < 0 → s + (-8) = s2 → (∀ K, K 261 2 = nI (k + 1) → K 262 = upd (J 262) k (byt a s) → SamM [262] [2] J K → LX12_appendInt_3 a s2 K Q) → LX12_appendInt_3 a s J Q := by
    intro k s s2 J hk hJ hs hs2 HK
    refine rX12_appendInt_3 ⟨fun q => absurd q hs, fun _ => ?_⟩
    rw [hJ, cl (by omega), pk_vb, hs2]
    refine ⟨ci (by omega) (by decide), fun K1 e1 K2 e2 => HK K2 ?_ ?_ ?_⟩
    · rw [e2, up2_same, e1, up2_cell _ _ _ (by decide), hJ, nI_s]
    · rw [e2, up2_cell _ _ _ (by decide), e1]
      funext j
      rw [upd_ap, up2_ap, if_pos rfl]
      rfl
    · rw [e2, e1]; exact (SamM.rf.u2 (by simp) (by decide)).fk (by simp)
  refine rX12_appendInt (step n 24 16 I (by omega) h (by decide) (by decide) (fun J1 a1 b1 c1 => step (n + 1) 16 8 J1 (by omega) a1 (by decide) (by decide) (fun J2 a2 b2 c2 => step (n + 2) 8 0 J2 (by omega) a2 (by decide) (by decide) (fun J3 a3 b3 c3 => step (n + 3) 0 (-8) J3 (by omega) a3 (by decide) (by decide) (fun J4 a4 b4 c4 => rX12_appendInt_3 ⟨fun _ => H J4 a4 ?_ ?_, fun q => absurd (by decide) q⟩)))))
  · rw [b4, b3, b2, b1]; rfl
  · exact ((c1.tr c2).tr c3).tr c4
theorem t_append {b : Nat} (a1 a2 a3 a4 a5 : Int32) : Spp b mX11_append mX12_append [.ref 0, .int a1, .int a2, .int a3, .int a4, .int a5] [.ref 261, .int a1, .int a2, .int a3, .int a4, .int a5] := stp_of (fun w ho => by
  have hn := ho.2.2.2.2.1
  have e20 : nI (wN w) + 20 = nI (wN w + 20) := nI_add _ 20
  by_cases hc : wN w + 20 ≤ 900
  · refine ⟨(wP w, wX w, wH w, wS w, wN w + 20, upd4 (upd4 (upd4 (upd4 (upd4 (wG w) (wN w) a1) (wN w + 4) a2) (wN w + 8) a3) (wN w + 12) a4) (wN w + 16) a5), nI (wN w + 20), ⟨ho.1, LdOk_up ho.2.1, fun y hy => LdOk_up (ho.2.2.1 y hy), fun j y hj hy => LdOk_up (ho.2.2.2.1 j y hj hy), hc, upd4_ok (upd4_ok (upd4_ok (upd4_ok (upd4_ok ho.2.2.2.2.2))))⟩, fun I Q hs H => ?_, fun I Q hs H => rX12_append (fun I1 e => ?_)⟩
    · obtain ⟨h1, h2, h3, h4, h5, h6, h7⟩ := hs
      refine rX11_append ⟨fun _ => ?_, fun q => absurd ?_ q⟩
      · refine sX_add4 h7.1 (by omega) (fun J1 p1 q1 r1 => sX_add4 p1 (by omega) (fun J2 p2 q2 r2 => sX_add4 p2 (by omega) (fun J3 p3 q3 r3 => sX_add4 p3 (by omega) (fun J4 p4 q4 r4 => sX_add4 p4 (by omega) (fun J5 p5 q5 r5 => ?_)))))
        have e : ∀ c, c ≠ 1 → c ≠ 2 → J5 c = I c := fun c k1 k2 => by rw [r5 c k1 k2, r4 c k1 k2, r3 c k1 k2, r2 c k1 k2, r1 c k1 k2]
        have p5' : J5 1 1 = nI (wN w + 20) := p5
        rw [p5']
        refine H J5 ⟨PX_of h1 (fun i _ _ => e i (by omega) (by omega)), LX_of h2 (fun i _ _ => e i (by omega) (by omega)), HX_of h3 (fun i _ _ => e i (by omega) (by omega)), SlX_of h4 (fun i _ _ => e i (by omega) (by omega)), CX_of h5 (fun i _ => e i (by omega) (by omega)), Scr_of h6 (fun i _ => e i (by omega) (by omega)), p5', ?_⟩ (fun c hc => e c (by omega) (by omega))
        rw [q5, q4, q3, q2, q1]
        exact upd4_eq (upd4_eq (upd4_eq (upd4_eq (upd4_eq h7.2))))
      · rw [h7.1, e20, e900, ile (by omega) (by decide)]; exact hc
    · obtain ⟨hs1, f1⟩ := SR_fl hs e
      obtain ⟨g1, g2, g3, g4, g5⟩ := hs1
      refine ⟨fun _ => ?_, fun q => absurd ?_ q⟩
      · refine sM_add4 g5.1 (by omega) (fun J1 p1 q1 r1 => sM_add4 p1 (by omega) (fun J2 p2 q2 r2 => sM_add4 p2 (by omega) (fun J3 p3 q3 r3 => sM_add4 p3 (by omega) (fun J4 p4 q4 r4 => sM_add4 p4 (by omega) (fun J5 p5 q5 r5 => ?_)))))
        have s : SamM [262] [2] I1 J5 := (((r1.tr r2).tr r3).tr r4).tr r5
        have p5' : J5 261 2 = nI (wN w + 20) := p5
        rw [p5']
        refine H J5 ⟨PM_sam g1 s (by simp), LM_sam g2 s (by decide) (by simp), HM_of g3 (s.2 24 (by simp)) (s.1 275 (by decide) (by simp)), SlM_of g4 (s.1 276 (by decide) (by simp)) (s.1 277 (by decide) (by simp)), p5', ?_⟩ (f1.tr (MF_sam s (by simp)))
        rw [q5, q4, q3, q2, q1]
        exact upd4_eq (upd4_eq (upd4_eq (upd4_eq (upd4_eq g5.2))))
      · rw [g5.1, e20, e900, ile (by omega) (by decide)]; exact hc
  · refine ⟨w, -1, WOk_up ho, fun I Q hs H => rX11_append ⟨fun q => absurd ?_ hc, fun _ => H I hs XF.rf⟩, fun I Q hs H => rX12_append (fun I1 e => ?_)⟩
    · rw [hs.2.2.2.2.2.2.1, e20, e900, ile (by omega) (by decide)] at q; exact q
    · obtain ⟨hs1, f1⟩ := SR_fl hs e
      refine ⟨fun q => absurd ?_ hc, fun _ => H I1 hs1 f1⟩
      rw [hs1.2.2.2.2.1, e20, e900, ile (by omega) (by decide)] at q; exact q)
