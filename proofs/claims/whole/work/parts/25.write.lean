/-! one write to a ledger -/
def updN (f : Nat → Nat) (n v : Nat) : Nat → Nat := fun i => if i = n then v else f i
theorem updN_e (f : Nat → Nat) (n v : Nat) : updN f n v n = v := if_pos rfl
theorem updN_n (f : Nat → Nat) {n i : Nat} (v : Nat) (h : i ≠ n) : updN f n v i = f i := if_neg h
theorem up2_e (I : MI) {c k j : Nat} (x : Int32) (h : j = k) : up2 I c k x c j = x := by rw [h]; exact up2_same I c k x
def sDay (x : Ld) (y : Nat) : Ld := ((y, x.1.2), x.2)
def sSk (x : Ld) (y : Nat) : Ld := ((lDay x, y, x.1.2.2), x.2)
def sOr (x : Ld) (y : Nat → Nat) : Ld := ((lDay x, lSk x, y, x.1.2.2.2), x.2)
def sKp (x : Ld) (y : Nat → Int32) : Ld := ((lDay x, lSk x, lOr x, y, x.1.2.2.2.2), x.2)
def sF (x : Ld) (y : Nat → Nat) : Ld := ((lDay x, lSk x, lOr x, lKp x, y, lT x), x.2)
def sT (x : Ld) (y : Nat → Nat) : Ld := ((lDay x, lSk x, lOr x, lKp x, lF x, y), x.2)
def sBo (x : Ld) (y : Nat → Int32) : Ld := (x.1, (y, x.2.1.2), x.2.2)
def sDl (x : Ld) (y : Nat → Int32) : Ld := (x.1, (lBo x, y, x.2.1.2.2), x.2.2)
def sRt (x : Ld) (y : Nat → Int32) : Ld := (x.1, (lBo x, lDl x, y, lBr x), x.2.2)
def sBr (x : Ld) (y : Nat → Int32) : Ld := (x.1, (lBo x, lDl x, lRt x, y), x.2.2)
def sHa (x : Ld) (y : Nat → Nat) : Ld := (x.1, x.2.1, y, x.2.2.2)
def sFi (x : Ld) (y : Int32) : Ld := (x.1, x.2.1, x.2.2.1, y, x.2.2.2.2)
def sVi (x : Ld) (y : Nat) : Ld := (x.1, x.2.1, x.2.2.1, lFi x, y, x.2.2.2.2.2)
def sRl (x : Ld) (y : Int32) : Ld := (x.1, x.2.1, x.2.2.1, lFi x, lVi x, y, x.2.2.2.2.2.2)
def sVh (x : Ld) (y : Nat → Int32) : Ld := (x.1, x.2.1, x.2.2.1, lFi x, lVi x, lRl x, y, x.2.2.2.2.2.2.2)
def sVm (x : Ld) (y : Nat → Int32) : Ld := (x.1, x.2.1, x.2.2.1, lFi x, lVi x, lRl x, lVh x, y, lVr x)
def sVr (x : Ld) (y : Nat → Int32) : Ld := (x.1, x.2.1, x.2.2.1, lFi x, lVi x, lRl x, lVh x, lVm x, y)
section LW
variable {p : Pl} {x : Ld} {b : Nat} {I : MI}
theorem LM_Kp {n : Nat} {y : Int32} {q : Nat} (hp : PlOk p) (hvi : lVi x ≤ 12) (hx : LM 274 0 p x I) (hn : n < pHc p) (hq : q = 85 + n) : LM 274 0 p (sKp x (upd (lKp x) n y)) (up2 I 274 q y) := by
  have hhc := hp.2.2.2.1
  have hsc := hp.2.2.1
  have hnc := hp.2.1
  obtain ⟨c1, c2, c3, c4, c5, c6, c7, c8, c9, c10, c11⟩ := hx
  refine ⟨?_, ?_, ?_, ?_, ?_, ?_, ?_, ?_, ?_, ?_, ?_⟩
  · rw [up2_slot _ _ (by omega)]; exact c1
  · intro h hh; rw [up2_slot _ _ (by omega)]; exact c2 h hh
  · intro i hi; rw [up2_slot _ _ (by omega)]; exact c3 i hi
  · intro h hh
    obtain ⟨d0, d1, d2, d3, d4⟩ := c4 h hh
    refine ⟨?_, ?_, ?_, ?_, ?_⟩
    · show _ = upd (lKp x) n y h
      by_cases e : h = n
      · rw [up2_e _ _ (by omega), e, upd_same]
      · rw [up2_slot _ _ (by omega), upd_ne _ _ e]; exact d0
    · rw [up2_slot _ _ (by omega)]; exact d1
    · rw [up2_slot _ _ (by omega)]; exact d2
    · rw [up2_slot _ _ (by omega)]; exact d3
    · rw [up2_slot _ _ (by omega)]; exact d4
  · intro h h1 h2; rw [up2_slot _ _ (by omega)]; exact c5 h h1 h2
  · intro k hk; rw [up2_slot _ _ (by omega), up2_slot _ _ (by omega)]; exact c6 k hk
  · intro c d h1 h2; rw [up2_slot _ _ (by omega)]; exact c7 c d h1 h2
  · rw [up2_slot _ _ (by omega)]; exact c8
  · rw [up2_slot _ _ (by omega)]; exact c9
  · rw [up2_slot _ _ (by omega)]; exact c10
  · intro v hv; rw [up2_slot _ _ (by omega), up2_slot _ _ (by omega), up2_slot _ _ (by omega)]; exact c11 v hv
theorem LM_Bo {n : Nat} {y : Int32} {q : Nat} (hp : PlOk p) (hvi : lVi x ≤ 12) (hx : LM 274 0 p x I) (hn : n < pHc p) (hq : q = 145 + n) : LM 274 0 p (sBo x (upd (lBo x) n y)) (up2 I 274 q y) := by
  have hhc := hp.2.2.2.1
  have hsc := hp.2.2.1
  have hnc := hp.2.1
  obtain ⟨c1, c2, c3, c4, c5, c6, c7, c8, c9, c10, c11⟩ := hx
  refine ⟨?_, ?_, ?_, ?_, ?_, ?_, ?_, ?_, ?_, ?_, ?_⟩
  · rw [up2_slot _ _ (by omega)]; exact c1
  · intro h hh; rw [up2_slot _ _ (by omega)]; exact c2 h hh
  · intro i hi; rw [up2_slot _ _ (by omega)]; exact c3 i hi
  · intro h hh
    obtain ⟨d0, d1, d2, d3, d4⟩ := c4 h hh
    refine ⟨?_, ?_, ?_, ?_, ?_⟩
    · rw [up2_slot _ _ (by omega)]; exact d0
    · show _ = upd (lBo x) n y h
      by_cases e : h = n
      · rw [up2_e _ _ (by omega), e, upd_same]
      · rw [up2_slot _ _ (by omega), upd_ne _ _ e]; exact d1
    · rw [up2_slot _ _ (by omega)]; exact d2
    · rw [up2_slot _ _ (by omega)]; exact d3
    · rw [up2_slot _ _ (by omega)]; exact d4
  · intro h h1 h2; rw [up2_slot _ _ (by omega)]; exact c5 h h1 h2
  · intro k hk; rw [up2_slot _ _ (by omega), up2_slot _ _ (by omega)]; exact c6 k hk
  · intro c d h1 h2; rw [up2_slot _ _ (by omega)]; exact c7 c d h1 h2
  · rw [up2_slot _ _ (by omega)]; exact c8
  · rw [up2_slot _ _ (by omega)]; exact c9
  · rw [up2_slot _ _ (by omega)]; exact c10
  · intro v hv; rw [up2_slot _ _ (by omega), up2_slot _ _ (by omega), up2_slot _ _ (by omega)]; exact c11 v hv
theorem LM_Dl {n : Nat} {y : Int32} {q : Nat} (hp : PlOk p) (hvi : lVi x ≤ 12) (hx : LM 274 0 p x I) (hn : n < pHc p) (hq : q = 157 + n) : LM 274 0 p (sDl x (upd (lDl x) n y)) (up2 I 274 q y) := by
  have hhc := hp.2.2.2.1
  have hsc := hp.2.2.1
  have hnc := hp.2.1
  obtain ⟨c1, c2, c3, c4, c5, c6, c7, c8, c9, c10, c11⟩ := hx
  refine ⟨?_, ?_, ?_, ?_, ?_, ?_, ?_, ?_, ?_, ?_, ?_⟩
  · rw [up2_slot _ _ (by omega)]; exact c1
  · intro h hh; rw [up2_slot _ _ (by omega)]; exact c2 h hh
  · intro i hi; rw [up2_slot _ _ (by omega)]; exact c3 i hi
  · intro h hh
    obtain ⟨d0, d1, d2, d3, d4⟩ := c4 h hh
    refine ⟨?_, ?_, ?_, ?_, ?_⟩
    · rw [up2_slot _ _ (by omega)]; exact d0
    · rw [up2_slot _ _ (by omega)]; exact d1
    · show _ = upd (lDl x) n y h
      by_cases e : h = n
      · rw [up2_e _ _ (by omega), e, upd_same]
      · rw [up2_slot _ _ (by omega), upd_ne _ _ e]; exact d2
    · rw [up2_slot _ _ (by omega)]; exact d3
    · rw [up2_slot _ _ (by omega)]; exact d4
  · intro h h1 h2; rw [up2_slot _ _ (by omega)]; exact c5 h h1 h2
  · intro k hk; rw [up2_slot _ _ (by omega), up2_slot _ _ (by omega)]; exact c6 k hk
  · intro c d h1 h2; rw [up2_slot _ _ (by omega)]; exact c7 c d h1 h2
  · rw [up2_slot _ _ (by omega)]; exact c8
  · rw [up2_slot _ _ (by omega)]; exact c9
  · rw [up2_slot _ _ (by omega)]; exact c10
  · intro v hv; rw [up2_slot _ _ (by omega), up2_slot _ _ (by omega), up2_slot _ _ (by omega)]; exact c11 v hv
theorem LM_Rt {n : Nat} {y : Int32} {q : Nat} (hp : PlOk p) (hvi : lVi x ≤ 12) (hx : LM 274 0 p x I) (hn : n < pHc p) (hq : q = 169 + n) : LM 274 0 p (sRt x (upd (lRt x) n y)) (up2 I 274 q y) := by
  have hhc := hp.2.2.2.1
  have hsc := hp.2.2.1
  have hnc := hp.2.1
  obtain ⟨c1, c2, c3, c4, c5, c6, c7, c8, c9, c10, c11⟩ := hx
  refine ⟨?_, ?_, ?_, ?_, ?_, ?_, ?_, ?_, ?_, ?_, ?_⟩
  · rw [up2_slot _ _ (by omega)]; exact c1
  · intro h hh; rw [up2_slot _ _ (by omega)]; exact c2 h hh
  · intro i hi; rw [up2_slot _ _ (by omega)]; exact c3 i hi
  · intro h hh
    obtain ⟨d0, d1, d2, d3, d4⟩ := c4 h hh
    refine ⟨?_, ?_, ?_, ?_, ?_⟩
    · rw [up2_slot _ _ (by omega)]; exact d0
    · rw [up2_slot _ _ (by omega)]; exact d1
    · rw [up2_slot _ _ (by omega)]; exact d2
    · show _ = upd (lRt x) n y h
      by_cases e : h = n
      · rw [up2_e _ _ (by omega), e, upd_same]
      · rw [up2_slot _ _ (by omega), upd_ne _ _ e]; exact d3
    · rw [up2_slot _ _ (by omega)]; exact d4
  · intro h h1 h2; rw [up2_slot _ _ (by omega)]; exact c5 h h1 h2
  · intro k hk; rw [up2_slot _ _ (by omega), up2_slot _ _ (by omega)]; exact c6 k hk
  · intro c d h1 h2; rw [up2_slot _ _ (by omega)]; exact c7 c d h1 h2
  · rw [up2_slot _ _ (by omega)]; exact c8
  · rw [up2_slot _ _ (by omega)]; exact c9
  · rw [up2_slot _ _ (by omega)]; exact c10
  · intro v hv; rw [up2_slot _ _ (by omega), up2_slot _ _ (by omega), up2_slot _ _ (by omega)]; exact c11 v hv
theorem LM_Br {n : Nat} {y : Int32} {q : Nat} (hp : PlOk p) (hvi : lVi x ≤ 12) (hx : LM 274 0 p x I) (hn : n < pHc p) (hq : q = 181 + n) : LM 274 0 p (sBr x (upd (lBr x) n y)) (up2 I 274 q y) := by
  have hhc := hp.2.2.2.1
  have hsc := hp.2.2.1
  have hnc := hp.2.1
  obtain ⟨c1, c2, c3, c4, c5, c6, c7, c8, c9, c10, c11⟩ := hx
  refine ⟨?_, ?_, ?_, ?_, ?_, ?_, ?_, ?_, ?_, ?_, ?_⟩
  · rw [up2_slot _ _ (by omega)]; exact c1
  · intro h hh; rw [up2_slot _ _ (by omega)]; exact c2 h hh
  · intro i hi; rw [up2_slot _ _ (by omega)]; exact c3 i hi
  · intro h hh
    obtain ⟨d0, d1, d2, d3, d4⟩ := c4 h hh
    refine ⟨?_, ?_, ?_, ?_, ?_⟩
    · rw [up2_slot _ _ (by omega)]; exact d0
    · rw [up2_slot _ _ (by omega)]; exact d1
    · rw [up2_slot _ _ (by omega)]; exact d2
    · rw [up2_slot _ _ (by omega)]; exact d3
    · show _ = upd (lBr x) n y h
      by_cases e : h = n
      · rw [up2_e _ _ (by omega), e, upd_same]
      · rw [up2_slot _ _ (by omega), upd_ne _ _ e]; exact d4
  · intro h h1 h2; rw [up2_slot _ _ (by omega)]; exact c5 h h1 h2
  · intro k hk; rw [up2_slot _ _ (by omega), up2_slot _ _ (by omega)]; exact c6 k hk
  · intro c d h1 h2; rw [up2_slot _ _ (by omega)]; exact c7 c d h1 h2
  · rw [up2_slot _ _ (by omega)]; exact c8
  · rw [up2_slot _ _ (by omega)]; exact c9
  · rw [up2_slot _ _ (by omega)]; exact c10
  · intro v hv; rw [up2_slot _ _ (by omega), up2_slot _ _ (by omega), up2_slot _ _ (by omega)]; exact c11 v hv
theorem LM_Or {n v : Nat} {q : Nat} (hp : PlOk p) (hvi : lVi x ≤ 12) (hx : LM 274 0 p x I) (hn : n < 7 * pHc p) (hq : q = 1 + n) : LM 274 0 p (sOr x (updN (lOr x) n v)) (up2 I 274 q (nI v)) := by
  have hhc := hp.2.2.2.1
  have hsc := hp.2.2.1
  have hnc := hp.2.1
  obtain ⟨c1, c2, c3, c4, c5, c6, c7, c8, c9, c10, c11⟩ := hx
  refine ⟨?_, ?_, ?_, ?_, ?_, ?_, ?_, ?_, ?_, ?_, ?_⟩
  · rw [up2_slot _ _ (by omega)]; exact c1
  · intro h hh; rw [up2_slot _ _ (by omega)]; exact c2 h hh
  · intro i hi
    show _ = nI (updN (lOr x) n v i)
    by_cases e : i = n
    · rw [up2_e _ _ (by omega), e, updN_e]
    · rw [up2_slot _ _ (by omega), updN_n _ _ e]; exact c3 i hi
  · intro h hh; rw [up2_slot _ _ (by omega), up2_slot _ _ (by omega), up2_slot _ _ (by omega), up2_slot _ _ (by omega), up2_slot _ _ (by omega)]; exact c4 h hh
  · intro h h1 h2; rw [up2_slot _ _ (by omega)]; exact c5 h h1 h2
  · intro k hk; rw [up2_slot _ _ (by omega), up2_slot _ _ (by omega)]; exact c6 k hk
  · intro c d h1 h2; rw [up2_slot _ _ (by omega)]; exact c7 c d h1 h2
  · rw [up2_slot _ _ (by omega)]; exact c8
  · rw [up2_slot _ _ (by omega)]; exact c9
  · rw [up2_slot _ _ (by omega)]; exact c10
  · intro v hv; rw [up2_slot _ _ (by omega), up2_slot _ _ (by omega), up2_slot _ _ (by omega)]; exact c11 v hv
theorem LM_Ha {m n v : Nat} {q : Nat} (hp : PlOk p) (hvi : lVi x ≤ 12) (hx : LM 274 0 p x I) (hm : m < pNc p) (hn : n < pNc p) (hq : q = 193 + (10 * m + n)) : LM 274 0 p (sHa x (updN (lHa x) (10 * m + n) v)) (up2 I 274 q (nI v)) := by
  have hhc := hp.2.2.2.1
  have hsc := hp.2.2.1
  have hnc := hp.2.1
  obtain ⟨c1, c2, c3, c4, c5, c6, c7, c8, c9, c10, c11⟩ := hx
  refine ⟨?_, ?_, ?_, ?_, ?_, ?_, ?_, ?_, ?_, ?_, ?_⟩
  · rw [up2_slot _ _ (by omega)]; exact c1
  · intro h hh; rw [up2_slot _ _ (by omega)]; exact c2 h hh
  · intro i hi; rw [up2_slot _ _ (by omega)]; exact c3 i hi
  · intro h hh; rw [up2_slot _ _ (by omega), up2_slot _ _ (by omega), up2_slot _ _ (by omega), up2_slot _ _ (by omega), up2_slot _ _ (by omega)]; exact c4 h hh
  · intro h h1 h2; rw [up2_slot _ _ (by omega)]; exact c5 h h1 h2
  · intro k hk; rw [up2_slot _ _ (by omega), up2_slot _ _ (by omega)]; exact c6 k hk
  · intro c d h1 h2
    show _ = nI (updN (lHa x) (10 * m + n) v (10 * c + d))
    by_cases e : 10 * c + d = 10 * m + n
    · rw [up2_e _ _ (by omega), e, updN_e]
    · rw [up2_slot _ _ (by omega), updN_n _ _ e]; exact c7 c d h1 h2
  · rw [up2_slot _ _ (by omega)]; exact c8
  · rw [up2_slot _ _ (by omega)]; exact c9
  · rw [up2_slot _ _ (by omega)]; exact c10
  · intro v hv; rw [up2_slot _ _ (by omega), up2_slot _ _ (by omega), up2_slot _ _ (by omega)]; exact c11 v hv
theorem LM_Fi {y : Int32} {q : Nat} (hp : PlOk p) (hvi : lVi x ≤ 12) (hx : LM 274 0 p x I) (hq : q = 293) : LM 274 0 p (sFi x y) (up2 I 274 q y) := by
  have hhc := hp.2.2.2.1
  have hsc := hp.2.2.1
  have hnc := hp.2.1
  obtain ⟨c1, c2, c3, c4, c5, c6, c7, c8, c9, c10, c11⟩ := hx
  refine ⟨?_, ?_, ?_, ?_, ?_, ?_, ?_, ?_, ?_, ?_, ?_⟩
  · rw [up2_slot _ _ (by omega)]; exact c1
  · intro h hh; rw [up2_slot _ _ (by omega)]; exact c2 h hh
  · intro i hi; rw [up2_slot _ _ (by omega)]; exact c3 i hi
  · intro h hh; rw [up2_slot _ _ (by omega), up2_slot _ _ (by omega), up2_slot _ _ (by omega), up2_slot _ _ (by omega), up2_slot _ _ (by omega)]; exact c4 h hh
  · intro h h1 h2; rw [up2_slot _ _ (by omega)]; exact c5 h h1 h2
  · intro k hk; rw [up2_slot _ _ (by omega), up2_slot _ _ (by omega)]; exact c6 k hk
  · intro c d h1 h2; rw [up2_slot _ _ (by omega)]; exact c7 c d h1 h2
  · rw [up2_e _ _ (by omega)]; rfl
  · rw [up2_slot _ _ (by omega)]; exact c9
  · rw [up2_slot _ _ (by omega)]; exact c10
  · intro v hv; rw [up2_slot _ _ (by omega), up2_slot _ _ (by omega), up2_slot _ _ (by omega)]; exact c11 v hv
theorem LM_Rl {y : Int32} {q : Nat} (hp : PlOk p) (hvi : lVi x ≤ 12) (hx : LM 274 0 p x I) (hq : q = 295) : LM 274 0 p (sRl x y) (up2 I 274 q y) := by
  have hhc := hp.2.2.2.1
  have hsc := hp.2.2.1
  have hnc := hp.2.1
  obtain ⟨c1, c2, c3, c4, c5, c6, c7, c8, c9, c10, c11⟩ := hx
  refine ⟨?_, ?_, ?_, ?_, ?_, ?_, ?_, ?_, ?_, ?_, ?_⟩
  · rw [up2_slot _ _ (by omega)]; exact c1
  · intro h hh; rw [up2_slot _ _ (by omega)]; exact c2 h hh
  · intro i hi; rw [up2_slot _ _ (by omega)]; exact c3 i hi
  · intro h hh; rw [up2_slot _ _ (by omega), up2_slot _ _ (by omega), up2_slot _ _ (by omega), up2_slot _ _ (by omega), up2_slot _ _ (by omega)]; exact c4 h hh
  · intro h h1 h2; rw [up2_slot _ _ (by omega)]; exact c5 h h1 h2
  · intro k hk; rw [up2_slot _ _ (by omega), up2_slot _ _ (by omega)]; exact c6 k hk
  · intro c d h1 h2; rw [up2_slot _ _ (by omega)]; exact c7 c d h1 h2
  · rw [up2_slot _ _ (by omega)]; exact c8
  · rw [up2_slot _ _ (by omega)]; exact c9
  · rw [up2_e _ _ (by omega)]; rfl
  · intro v hv; rw [up2_slot _ _ (by omega), up2_slot _ _ (by omega), up2_slot _ _ (by omega)]; exact c11 v hv
theorem LM_Day {y : Nat} {q : Nat} (hp : PlOk p) (hvi : lVi x ≤ 12) (hx : LM 274 0 p x I) (hq : q = 0) : LM 274 0 p (sDay x y) (up2 I 274 q (nI y)) := by
  have hhc := hp.2.2.2.1
  have hsc := hp.2.2.1
  have hnc := hp.2.1
  obtain ⟨c1, c2, c3, c4, c5, c6, c7, c8, c9, c10, c11⟩ := hx
  refine ⟨?_, ?_, ?_, ?_, ?_, ?_, ?_, ?_, ?_, ?_, ?_⟩
  · rw [up2_e _ _ (by omega)]; rfl
  · intro h hh; rw [up2_slot _ _ (by omega)]; exact c2 h hh
  · intro i hi; rw [up2_slot _ _ (by omega)]; exact c3 i hi
  · intro h hh; rw [up2_slot _ _ (by omega), up2_slot _ _ (by omega), up2_slot _ _ (by omega), up2_slot _ _ (by omega), up2_slot _ _ (by omega)]; exact c4 h hh
  · intro h h1 h2; rw [up2_slot _ _ (by omega)]; exact c5 h h1 h2
  · intro k hk; rw [up2_slot _ _ (by omega), up2_slot _ _ (by omega)]; exact c6 k hk
  · intro c d h1 h2; rw [up2_slot _ _ (by omega)]; exact c7 c d h1 h2
  · rw [up2_slot _ _ (by omega)]; exact c8
  · rw [up2_slot _ _ (by omega)]; exact c9
  · rw [up2_slot _ _ (by omega)]; exact c10
  · intro v hv; rw [up2_slot _ _ (by omega), up2_slot _ _ (by omega), up2_slot _ _ (by omega)]; exact c11 v hv
theorem LM_Vi {y : Nat} {q : Nat} (hp : PlOk p) (hvi : lVi x ≤ 12) (hx : LM 274 0 p x I) (hy : y ≤ 12) (hr : ∀ v, v < y → I 274 (296 + v) = lVh x v ∧ I 274 (308 + v) = lVm x v ∧ I 274 (320 + v) = lVr x v) (hq : q = 294) : LM 274 0 p (sVi x y) (up2 I 274 q (nI y)) := by
  have hhc := hp.2.2.2.1
  have hsc := hp.2.2.1
  have hnc := hp.2.1
  obtain ⟨c1, c2, c3, c4, c5, c6, c7, c8, c9, c10, c11⟩ := hx
  refine ⟨?_, ?_, ?_, ?_, ?_, ?_, ?_, ?_, ?_, ?_, ?_⟩
  · rw [up2_slot _ _ (by omega)]; exact c1
  · intro h hh; rw [up2_slot _ _ (by omega)]; exact c2 h hh
  · intro i hi; rw [up2_slot _ _ (by omega)]; exact c3 i hi
  · intro h hh; rw [up2_slot _ _ (by omega), up2_slot _ _ (by omega), up2_slot _ _ (by omega), up2_slot _ _ (by omega), up2_slot _ _ (by omega)]; exact c4 h hh
  · intro h h1 h2; rw [up2_slot _ _ (by omega)]; exact c5 h h1 h2
  · intro k hk; rw [up2_slot _ _ (by omega), up2_slot _ _ (by omega)]; exact c6 k hk
  · intro c d h1 h2; rw [up2_slot _ _ (by omega)]; exact c7 c d h1 h2
  · rw [up2_slot _ _ (by omega)]; exact c8
  · rw [up2_e _ _ (by omega)]; rfl
  · rw [up2_slot _ _ (by omega)]; exact c10
  · intro v hv
    have hv' : v < y := hv
    rw [up2_slot _ _ (by omega), up2_slot _ _ (by omega), up2_slot _ _ (by omega), Nat.zero_add, Nat.zero_add, Nat.zero_add]; exact hr v hv'
theorem LM_Vh {n : Nat} {y : Int32} {q : Nat} (hp : PlOk p) (hvi : lVi x ≤ 12) (hx : LM 274 0 p x I) (hn : n < 12) (hq : q = 296 + n) : LM 274 0 p (sVh x (upd (lVh x) n y)) (up2 I 274 q y) := by
  have hhc := hp.2.2.2.1
  have hsc := hp.2.2.1
  have hnc := hp.2.1
  obtain ⟨c1, c2, c3, c4, c5, c6, c7, c8, c9, c10, c11⟩ := hx
  refine ⟨?_, ?_, ?_, ?_, ?_, ?_, ?_, ?_, ?_, ?_, ?_⟩
  · rw [up2_slot _ _ (by omega)]; exact c1
  · intro h hh; rw [up2_slot _ _ (by omega)]; exact c2 h hh
  · intro i hi; rw [up2_slot _ _ (by omega)]; exact c3 i hi
  · intro h hh; rw [up2_slot _ _ (by omega), up2_slot _ _ (by omega), up2_slot _ _ (by omega), up2_slot _ _ (by omega), up2_slot _ _ (by omega)]; exact c4 h hh
  · intro h h1 h2; rw [up2_slot _ _ (by omega)]; exact c5 h h1 h2
  · intro k hk; rw [up2_slot _ _ (by omega), up2_slot _ _ (by omega)]; exact c6 k hk
  · intro c d h1 h2; rw [up2_slot _ _ (by omega)]; exact c7 c d h1 h2
  · rw [up2_slot _ _ (by omega)]; exact c8
  · rw [up2_slot _ _ (by omega)]; exact c9
  · rw [up2_slot _ _ (by omega)]; exact c10
  · intro v hv
    have hv' : v < lVi x := hv
    obtain ⟨d0, d1, d2⟩ := c11 v hv'
    refine ⟨?_, ?_, ?_⟩
    · show _ = upd (lVh x) n y v
      by_cases e : v = n
      · rw [up2_e _ _ (by omega), e, upd_same]
      · rw [up2_slot _ _ (by omega), upd_ne _ _ e]; exact d0
    · rw [up2_slot _ _ (by omega)]; exact d1
    · rw [up2_slot _ _ (by omega)]; exact d2
theorem LM_Vm {n : Nat} {y : Int32} {q : Nat} (hp : PlOk p) (hvi : lVi x ≤ 12) (hx : LM 274 0 p x I) (hn : n < 12) (hq : q = 308 + n) : LM 274 0 p (sVm x (upd (lVm x) n y)) (up2 I 274 q y) := by
  have hhc := hp.2.2.2.1
  have hsc := hp.2.2.1
  have hnc := hp.2.1
  obtain ⟨c1, c2, c3, c4, c5, c6, c7, c8, c9, c10, c11⟩ := hx
  refine ⟨?_, ?_, ?_, ?_, ?_, ?_, ?_, ?_, ?_, ?_, ?_⟩
  · rw [up2_slot _ _ (by omega)]; exact c1
  · intro h hh; rw [up2_slot _ _ (by omega)]; exact c2 h hh
  · intro i hi; rw [up2_slot _ _ (by omega)]; exact c3 i hi
  · intro h hh; rw [up2_slot _ _ (by omega), up2_slot _ _ (by omega), up2_slot _ _ (by omega), up2_slot _ _ (by omega), up2_slot _ _ (by omega)]; exact c4 h hh
  · intro h h1 h2; rw [up2_slot _ _ (by omega)]; exact c5 h h1 h2
  · intro k hk; rw [up2_slot _ _ (by omega), up2_slot _ _ (by omega)]; exact c6 k hk
  · intro c d h1 h2; rw [up2_slot _ _ (by omega)]; exact c7 c d h1 h2
  · rw [up2_slot _ _ (by omega)]; exact c8
  · rw [up2_slot _ _ (by omega)]; exact c9
  · rw [up2_slot _ _ (by omega)]; exact c10
  · intro v hv
    have hv' : v < lVi x := hv
    obtain ⟨d0, d1, d2⟩ := c11 v hv'
    refine ⟨?_, ?_, ?_⟩
    · rw [up2_slot _ _ (by omega)]; exact d0
    · show _ = upd (lVm x) n y v
      by_cases e : v = n
      · rw [up2_e _ _ (by omega), e, upd_same]
      · rw [up2_slot _ _ (by omega), upd_ne _ _ e]; exact d1
    · rw [up2_slot _ _ (by omega)]; exact d2
theorem LM_Vr {n : Nat} {y : Int32} {q : Nat} (hp : PlOk p) (hvi : lVi x ≤ 12) (hx : LM 274 0 p x I) (hn : n < 12) (hq : q = 320 + n) : LM 274 0 p (sVr x (upd (lVr x) n y)) (up2 I 274 q y) := by
  have hhc := hp.2.2.2.1
  have hsc := hp.2.2.1
  have hnc := hp.2.1
  obtain ⟨c1, c2, c3, c4, c5, c6, c7, c8, c9, c10, c11⟩ := hx
  refine ⟨?_, ?_, ?_, ?_, ?_, ?_, ?_, ?_, ?_, ?_, ?_⟩
  · rw [up2_slot _ _ (by omega)]; exact c1
  · intro h hh; rw [up2_slot _ _ (by omega)]; exact c2 h hh
  · intro i hi; rw [up2_slot _ _ (by omega)]; exact c3 i hi
  · intro h hh; rw [up2_slot _ _ (by omega), up2_slot _ _ (by omega), up2_slot _ _ (by omega), up2_slot _ _ (by omega), up2_slot _ _ (by omega)]; exact c4 h hh
  · intro h h1 h2; rw [up2_slot _ _ (by omega)]; exact c5 h h1 h2
  · intro k hk; rw [up2_slot _ _ (by omega), up2_slot _ _ (by omega)]; exact c6 k hk
  · intro c d h1 h2; rw [up2_slot _ _ (by omega)]; exact c7 c d h1 h2
  · rw [up2_slot _ _ (by omega)]; exact c8
  · rw [up2_slot _ _ (by omega)]; exact c9
  · rw [up2_slot _ _ (by omega)]; exact c10
  · intro v hv
    have hv' : v < lVi x := hv
    obtain ⟨d0, d1, d2⟩ := c11 v hv'
    refine ⟨?_, ?_, ?_⟩
    · rw [up2_slot _ _ (by omega)]; exact d0
    · rw [up2_slot _ _ (by omega)]; exact d1
    · show _ = upd (lVr x) n y v
      by_cases e : v = n
      · rw [up2_e _ _ (by omega), e, upd_same]
      · rw [up2_slot _ _ (by omega), upd_ne _ _ e]; exact d2
theorem LM_Sk {n s : Nat} {c : Bool} {q : Nat} (hp : PlOk p) (hvi : lVi x ≤ 12) (hx : LM 274 0 p x I) (hn : n < 12) (hs : ∀ i, i < pHc p → s.testBit i = if i = n then c else (lSk x).testBit i) (hq : q = 133 + n) : LM 274 0 p (sSk x s) (up2 I 274 q (if c then 1 else 0)) := by
  have hhc := hp.2.2.2.1
  have hsc := hp.2.2.1
  have hnc := hp.2.1
  obtain ⟨c1, c2, c3, c4, c5, c6, c7, c8, c9, c10, c11⟩ := hx
  refine ⟨?_, ?_, ?_, ?_, ?_, ?_, ?_, ?_, ?_, ?_, ?_⟩
  · rw [up2_slot _ _ (by omega)]; exact c1
  · intro h hh
    show _ = if s.testBit h = true then 1 else 0
    rw [hs h hh]
    by_cases e : h = n
    · rw [up2_e _ _ (by omega), if_pos e]
    · rw [up2_slot _ _ (by omega), if_neg e]; exact c2 h hh
  · intro i hi; rw [up2_slot _ _ (by omega)]; exact c3 i hi
  · intro h hh; rw [up2_slot _ _ (by omega), up2_slot _ _ (by omega), up2_slot _ _ (by omega), up2_slot _ _ (by omega), up2_slot _ _ (by omega)]; exact c4 h hh
  · intro h h1 h2; rw [up2_slot _ _ (by omega)]; exact c5 h h1 h2
  · intro k hk; rw [up2_slot _ _ (by omega), up2_slot _ _ (by omega)]; exact c6 k hk
  · intro c d h1 h2; rw [up2_slot _ _ (by omega)]; exact c7 c d h1 h2
  · rw [up2_slot _ _ (by omega)]; exact c8
  · rw [up2_slot _ _ (by omega)]; exact c9
  · rw [up2_slot _ _ (by omega)]; exact c10
  · intro v hv; rw [up2_slot _ _ (by omega), up2_slot _ _ (by omega), up2_slot _ _ (by omega)]; exact c11 v hv
theorem LM_gate {n f t q r : Nat} (hp : PlOk p) (hvi : lVi x ≤ 12) (hx : LM 274 0 p x I) (hn : n < pSc p) (ht : t ≠ 0) (hq : q = 97 + n) (hr : r = 115 + n) : LM 274 0 p (sT (sF x (updN (lF x) n f)) (updN (lT x) n t)) (up2 (up2 I 274 q (nI f)) 274 r (nI t)) := by
  have hhc := hp.2.2.2.1
  have hsc := hp.2.2.1
  have hnc := hp.2.1
  obtain ⟨c1, c2, c3, c4, c5, c6, c7, c8, c9, c10, c11⟩ := hx
  refine ⟨?_, ?_, ?_, ?_, ?_, ?_, ?_, ?_, ?_, ?_, ?_⟩
  · rw [up2_slot _ _ (by omega), up2_slot _ _ (by omega)]; exact c1
  · intro h hh; rw [up2_slot _ _ (by omega), up2_slot _ _ (by omega)]; exact c2 h hh
  · intro i hi; rw [up2_slot _ _ (by omega), up2_slot _ _ (by omega)]; exact c3 i hi
  · intro h hh; rw [up2_slot _ _ (by omega), up2_slot _ _ (by omega), up2_slot _ _ (by omega), up2_slot _ _ (by omega), up2_slot _ _ (by omega), up2_slot _ _ (by omega), up2_slot _ _ (by omega), up2_slot _ _ (by omega), up2_slot _ _ (by omega), up2_slot _ _ (by omega)]; exact c4 h hh
  · intro h h1 h2; rw [up2_slot _ _ (by omega), up2_slot _ _ (by omega)]; exact c5 h h1 h2
  · intro k hk
    obtain ⟨d1, d2⟩ := c6 k hk
    show (updN (lT x) n t k = 0 → _) ∧ (updN (lT x) n t k ≠ 0 → _ = nI (updN (lF x) n f k) ∧ _ = nI (updN (lT x) n t k))
    by_cases e : k = n
    · rw [e, updN_e, updN_e, up2_slot _ _ (by omega), up2_e _ _ (by omega), up2_e _ _ (by omega)]
      exact ⟨fun z => absurd z ht, fun _ => ⟨rfl, rfl⟩⟩
    · rw [updN_n _ _ e, updN_n _ _ e, up2_slot _ _ (by omega), up2_slot _ _ (by omega), up2_slot _ _ (by omega), up2_slot _ _ (by omega)]
      exact ⟨d1, d2⟩
  · intro c d h1 h2; rw [up2_slot _ _ (by omega), up2_slot _ _ (by omega)]; exact c7 c d h1 h2
  · rw [up2_slot _ _ (by omega), up2_slot _ _ (by omega)]; exact c8
  · rw [up2_slot _ _ (by omega), up2_slot _ _ (by omega)]; exact c9
  · rw [up2_slot _ _ (by omega), up2_slot _ _ (by omega)]; exact c10
  · intro v hv; rw [up2_slot _ _ (by omega), up2_slot _ _ (by omega), up2_slot _ _ (by omega), up2_slot _ _ (by omega), up2_slot _ _ (by omega), up2_slot _ _ (by omega)]; exact c11 v hv
theorem LX_Day {y : Nat} (hx : LX 30 p x I) : LX 30 p (sDay x y) (up2 I 30 0 (nI y)) := by
  obtain ⟨x1, x2, x3, x4, x5, x6, x7, x8, x9, x10⟩ := hx
  refine ⟨?_, ?_, ?_, ?_, ?_, ?_, ?_, ?_, ?_, ?_⟩
  · rw [up2_same]; rfl
  · rw [up2_slot _ _ (by decide)]; exact x2
  · intro i hi; rw [up2_cell _ _ _ (by decide)]; exact x3 i hi
  · intro h hh; rw [up2_cell _ _ _ (by decide), up2_cell _ _ _ (by decide), up2_cell _ _ _ (by decide), up2_cell _ _ _ (by decide), up2_cell _ _ _ (by decide)]; exact x4 h hh
  · intro k hk; rw [up2_cell _ _ _ (by decide), up2_cell _ _ _ (by decide)]; exact x5 k hk
  · intro c d h1 h2; rw [up2_cell _ _ _ (by decide)]; exact x6 c d h1 h2
  · rw [up2_cell _ _ _ (by decide)]; exact x7
  · rw [up2_cell _ _ _ (by decide)]; exact x8
  · rw [up2_cell _ _ _ (by decide)]; exact x9
  · intro v hv; rw [up2_cell _ _ _ (by decide), up2_cell _ _ _ (by decide), up2_cell _ _ _ (by decide)]; exact x10 v hv
theorem LX_Sk {y : Nat} (hx : LX 30 p x I) : LX 30 p (sSk x y) (up2 I 30 1 (nI y)) := by
  obtain ⟨x1, x2, x3, x4, x5, x6, x7, x8, x9, x10⟩ := hx
  refine ⟨?_, ?_, ?_, ?_, ?_, ?_, ?_, ?_, ?_, ?_⟩
  · rw [up2_slot _ _ (by decide)]; exact x1
  · rw [up2_same]; rfl
  · intro i hi; rw [up2_cell _ _ _ (by decide)]; exact x3 i hi
  · intro h hh; rw [up2_cell _ _ _ (by decide), up2_cell _ _ _ (by decide), up2_cell _ _ _ (by decide), up2_cell _ _ _ (by decide), up2_cell _ _ _ (by decide)]; exact x4 h hh
  · intro k hk; rw [up2_cell _ _ _ (by decide), up2_cell _ _ _ (by decide)]; exact x5 k hk
  · intro c d h1 h2; rw [up2_cell _ _ _ (by decide)]; exact x6 c d h1 h2
  · rw [up2_cell _ _ _ (by decide)]; exact x7
  · rw [up2_cell _ _ _ (by decide)]; exact x8
  · rw [up2_cell _ _ _ (by decide)]; exact x9
  · intro v hv; rw [up2_cell _ _ _ (by decide), up2_cell _ _ _ (by decide), up2_cell _ _ _ (by decide)]; exact x10 v hv
theorem LX_Or {n v : Nat} (hx : LX 30 p x I) : LX 30 p (sOr x (updN (lOr x) n v)) (up2 I 31 n (nI v)) := by
  obtain ⟨x1, x2, x3, x4, x5, x6, x7, x8, x9, x10⟩ := hx
  refine ⟨?_, ?_, ?_, ?_, ?_, ?_, ?_, ?_, ?_, ?_⟩
  · rw [up2_cell _ _ _ (by decide)]; exact x1
  · rw [up2_cell _ _ _ (by decide)]; exact x2
  · intro i hi
    show up2 I 31 n (nI v) 31 i = nI (updN (lOr x) n v i)
    by_cases e : i = n
    · rw [up2_e _ _ e, e, updN_e]
    · rw [up2_slot _ _ e, updN_n _ _ e]; exact x3 i hi
  · intro h hh; rw [up2_cell _ _ _ (by decide), up2_cell _ _ _ (by decide), up2_cell _ _ _ (by decide), up2_cell _ _ _ (by decide), up2_cell _ _ _ (by decide)]; exact x4 h hh
  · intro k hk; rw [up2_cell _ _ _ (by decide), up2_cell _ _ _ (by decide)]; exact x5 k hk
  · intro c d h1 h2; rw [up2_cell _ _ _ (by decide)]; exact x6 c d h1 h2
  · rw [up2_cell _ _ _ (by decide)]; exact x7
  · rw [up2_cell _ _ _ (by decide)]; exact x8
  · rw [up2_cell _ _ _ (by decide)]; exact x9
  · intro v hv; rw [up2_cell _ _ _ (by decide), up2_cell _ _ _ (by decide), up2_cell _ _ _ (by decide)]; exact x10 v hv
theorem LX_Ha {n v : Nat} (hx : LX 30 p x I) : LX 30 p (sHa x (updN (lHa x) n v)) (up2 I 39 n (nI v)) := by
  obtain ⟨x1, x2, x3, x4, x5, x6, x7, x8, x9, x10⟩ := hx
  refine ⟨?_, ?_, ?_, ?_, ?_, ?_, ?_, ?_, ?_, ?_⟩
  · rw [up2_cell _ _ _ (by decide)]; exact x1
  · rw [up2_cell _ _ _ (by decide)]; exact x2
  · intro i hi; rw [up2_cell _ _ _ (by decide)]; exact x3 i hi
  · intro h hh; rw [up2_cell _ _ _ (by decide), up2_cell _ _ _ (by decide), up2_cell _ _ _ (by decide), up2_cell _ _ _ (by decide), up2_cell _ _ _ (by decide)]; exact x4 h hh
  · intro k hk; rw [up2_cell _ _ _ (by decide), up2_cell _ _ _ (by decide)]; exact x5 k hk
  · intro c d h1 h2
    show up2 I 39 n (nI v) 39 (10 * c + d) = nI (updN (lHa x) n v (10 * c + d))
    by_cases e : 10 * c + d = n
    · rw [up2_e _ _ e, e, updN_e]
    · rw [up2_slot _ _ e, updN_n _ _ e]; exact x6 c d h1 h2
  · rw [up2_cell _ _ _ (by decide)]; exact x7
  · rw [up2_cell _ _ _ (by decide)]; exact x8
  · rw [up2_cell _ _ _ (by decide)]; exact x9
  · intro v hv; rw [up2_cell _ _ _ (by decide), up2_cell _ _ _ (by decide), up2_cell _ _ _ (by decide)]; exact x10 v hv
theorem LX_Kp {n : Nat} {y : Int32} (hx : LX 30 p x I) : LX 30 p (sKp x (upd (lKp x) n y)) (up2 I 32 n y) := by
  obtain ⟨x1, x2, x3, x4, x5, x6, x7, x8, x9, x10⟩ := hx
  refine ⟨?_, ?_, ?_, ?_, ?_, ?_, ?_, ?_, ?_, ?_⟩
  · rw [up2_cell _ _ _ (by decide)]; exact x1
  · rw [up2_cell _ _ _ (by decide)]; exact x2
  · intro i hi; rw [up2_cell _ _ _ (by decide)]; exact x3 i hi
  · intro h hh
    obtain ⟨d0, d1, d2, d3, d4⟩ := x4 h hh
    refine ⟨?_, ?_, ?_, ?_, ?_⟩
    · show up2 I 32 n y 32 h = upd (lKp x) n y h
      by_cases e : h = n
      · rw [up2_e _ _ e, e, upd_same]
      · rw [up2_slot _ _ e, upd_ne _ _ e]; exact d0
    · rw [up2_cell _ _ _ (by decide)]; exact d1
    · rw [up2_cell _ _ _ (by decide)]; exact d2
    · rw [up2_cell _ _ _ (by decide)]; exact d3
    · rw [up2_cell _ _ _ (by decide)]; exact d4
  · intro k hk; rw [up2_cell _ _ _ (by decide), up2_cell _ _ _ (by decide)]; exact x5 k hk
  · intro c d h1 h2; rw [up2_cell _ _ _ (by decide)]; exact x6 c d h1 h2
  · rw [up2_cell _ _ _ (by decide)]; exact x7
  · rw [up2_cell _ _ _ (by decide)]; exact x8
  · rw [up2_cell _ _ _ (by decide)]; exact x9
  · intro v hv; rw [up2_cell _ _ _ (by decide), up2_cell _ _ _ (by decide), up2_cell _ _ _ (by decide)]; exact x10 v hv
theorem LX_Bo {n : Nat} {y : Int32} (hx : LX 30 p x I) : LX 30 p (sBo x (upd (lBo x) n y)) (up2 I 35 n y) := by
  obtain ⟨x1, x2, x3, x4, x5, x6, x7, x8, x9, x10⟩ := hx
  refine ⟨?_, ?_, ?_, ?_, ?_, ?_, ?_, ?_, ?_, ?_⟩
  · rw [up2_cell _ _ _ (by decide)]; exact x1
  · rw [up2_cell _ _ _ (by decide)]; exact x2
  · intro i hi; rw [up2_cell _ _ _ (by decide)]; exact x3 i hi
  · intro h hh
    obtain ⟨d0, d1, d2, d3, d4⟩ := x4 h hh
    refine ⟨?_, ?_, ?_, ?_, ?_⟩
    · rw [up2_cell _ _ _ (by decide)]; exact d0
    · show up2 I 35 n y 35 h = upd (lBo x) n y h
      by_cases e : h = n
      · rw [up2_e _ _ e, e, upd_same]
      · rw [up2_slot _ _ e, upd_ne _ _ e]; exact d1
    · rw [up2_cell _ _ _ (by decide)]; exact d2
    · rw [up2_cell _ _ _ (by decide)]; exact d3
    · rw [up2_cell _ _ _ (by decide)]; exact d4
  · intro k hk; rw [up2_cell _ _ _ (by decide), up2_cell _ _ _ (by decide)]; exact x5 k hk
  · intro c d h1 h2; rw [up2_cell _ _ _ (by decide)]; exact x6 c d h1 h2
  · rw [up2_cell _ _ _ (by decide)]; exact x7
  · rw [up2_cell _ _ _ (by decide)]; exact x8
  · rw [up2_cell _ _ _ (by decide)]; exact x9
  · intro v hv; rw [up2_cell _ _ _ (by decide), up2_cell _ _ _ (by decide), up2_cell _ _ _ (by decide)]; exact x10 v hv
theorem LX_Dl {n : Nat} {y : Int32} (hx : LX 30 p x I) : LX 30 p (sDl x (upd (lDl x) n y)) (up2 I 36 n y) := by
  obtain ⟨x1, x2, x3, x4, x5, x6, x7, x8, x9, x10⟩ := hx
  refine ⟨?_, ?_, ?_, ?_, ?_, ?_, ?_, ?_, ?_, ?_⟩
  · rw [up2_cell _ _ _ (by decide)]; exact x1
  · rw [up2_cell _ _ _ (by decide)]; exact x2
  · intro i hi; rw [up2_cell _ _ _ (by decide)]; exact x3 i hi
  · intro h hh
    obtain ⟨d0, d1, d2, d3, d4⟩ := x4 h hh
    refine ⟨?_, ?_, ?_, ?_, ?_⟩
    · rw [up2_cell _ _ _ (by decide)]; exact d0
    · rw [up2_cell _ _ _ (by decide)]; exact d1
    · show up2 I 36 n y 36 h = upd (lDl x) n y h
      by_cases e : h = n
      · rw [up2_e _ _ e, e, upd_same]
      · rw [up2_slot _ _ e, upd_ne _ _ e]; exact d2
    · rw [up2_cell _ _ _ (by decide)]; exact d3
    · rw [up2_cell _ _ _ (by decide)]; exact d4
  · intro k hk; rw [up2_cell _ _ _ (by decide), up2_cell _ _ _ (by decide)]; exact x5 k hk
  · intro c d h1 h2; rw [up2_cell _ _ _ (by decide)]; exact x6 c d h1 h2
  · rw [up2_cell _ _ _ (by decide)]; exact x7
  · rw [up2_cell _ _ _ (by decide)]; exact x8
  · rw [up2_cell _ _ _ (by decide)]; exact x9
  · intro v hv; rw [up2_cell _ _ _ (by decide), up2_cell _ _ _ (by decide), up2_cell _ _ _ (by decide)]; exact x10 v hv
theorem LX_Rt {n : Nat} {y : Int32} (hx : LX 30 p x I) : LX 30 p (sRt x (upd (lRt x) n y)) (up2 I 37 n y) := by
  obtain ⟨x1, x2, x3, x4, x5, x6, x7, x8, x9, x10⟩ := hx
  refine ⟨?_, ?_, ?_, ?_, ?_, ?_, ?_, ?_, ?_, ?_⟩
  · rw [up2_cell _ _ _ (by decide)]; exact x1
  · rw [up2_cell _ _ _ (by decide)]; exact x2
  · intro i hi; rw [up2_cell _ _ _ (by decide)]; exact x3 i hi
  · intro h hh
    obtain ⟨d0, d1, d2, d3, d4⟩ := x4 h hh
    refine ⟨?_, ?_, ?_, ?_, ?_⟩
    · rw [up2_cell _ _ _ (by decide)]; exact d0
    · rw [up2_cell _ _ _ (by decide)]; exact d1
    · rw [up2_cell _ _ _ (by decide)]; exact d2
    · show up2 I 37 n y 37 h = upd (lRt x) n y h
      by_cases e : h = n
      · rw [up2_e _ _ e, e, upd_same]
      · rw [up2_slot _ _ e, upd_ne _ _ e]; exact d3
    · rw [up2_cell _ _ _ (by decide)]; exact d4
  · intro k hk; rw [up2_cell _ _ _ (by decide), up2_cell _ _ _ (by decide)]; exact x5 k hk
  · intro c d h1 h2; rw [up2_cell _ _ _ (by decide)]; exact x6 c d h1 h2
  · rw [up2_cell _ _ _ (by decide)]; exact x7
  · rw [up2_cell _ _ _ (by decide)]; exact x8
  · rw [up2_cell _ _ _ (by decide)]; exact x9
  · intro v hv; rw [up2_cell _ _ _ (by decide), up2_cell _ _ _ (by decide), up2_cell _ _ _ (by decide)]; exact x10 v hv
theorem LX_Br {n : Nat} {y : Int32} (hx : LX 30 p x I) : LX 30 p (sBr x (upd (lBr x) n y)) (up2 I 38 n y) := by
  obtain ⟨x1, x2, x3, x4, x5, x6, x7, x8, x9, x10⟩ := hx
  refine ⟨?_, ?_, ?_, ?_, ?_, ?_, ?_, ?_, ?_, ?_⟩
  · rw [up2_cell _ _ _ (by decide)]; exact x1
  · rw [up2_cell _ _ _ (by decide)]; exact x2
  · intro i hi; rw [up2_cell _ _ _ (by decide)]; exact x3 i hi
  · intro h hh
    obtain ⟨d0, d1, d2, d3, d4⟩ := x4 h hh
    refine ⟨?_, ?_, ?_, ?_, ?_⟩
    · rw [up2_cell _ _ _ (by decide)]; exact d0
    · rw [up2_cell _ _ _ (by decide)]; exact d1
    · rw [up2_cell _ _ _ (by decide)]; exact d2
    · rw [up2_cell _ _ _ (by decide)]; exact d3
    · show up2 I 38 n y 38 h = upd (lBr x) n y h
      by_cases e : h = n
      · rw [up2_e _ _ e, e, upd_same]
      · rw [up2_slot _ _ e, upd_ne _ _ e]; exact d4
  · intro k hk; rw [up2_cell _ _ _ (by decide), up2_cell _ _ _ (by decide)]; exact x5 k hk
  · intro c d h1 h2; rw [up2_cell _ _ _ (by decide)]; exact x6 c d h1 h2
  · rw [up2_cell _ _ _ (by decide)]; exact x7
  · rw [up2_cell _ _ _ (by decide)]; exact x8
  · rw [up2_cell _ _ _ (by decide)]; exact x9
  · intro v hv; rw [up2_cell _ _ _ (by decide), up2_cell _ _ _ (by decide), up2_cell _ _ _ (by decide)]; exact x10 v hv
theorem LX_gate {n f t : Nat} (hx : LX 30 p x I) : LX 30 p (sT (sF x (updN (lF x) n f)) (updN (lT x) n t)) (up2 (up2 I 33 n (nI f)) 34 n (nI t)) := by
  obtain ⟨x1, x2, x3, x4, x5, x6, x7, x8, x9, x10⟩ := hx
  refine ⟨?_, ?_, ?_, ?_, ?_, ?_, ?_, ?_, ?_, ?_⟩
  · rw [up2_cell _ _ _ (by decide), up2_cell _ _ _ (by decide)]; exact x1
  · rw [up2_cell _ _ _ (by decide), up2_cell _ _ _ (by decide)]; exact x2
  · intro i hi; rw [up2_cell _ _ _ (by decide), up2_cell _ _ _ (by decide)]; exact x3 i hi
  · intro h hh; rw [up2_cell _ _ _ (by decide), up2_cell _ _ _ (by decide), up2_cell _ _ _ (by decide), up2_cell _ _ _ (by decide), up2_cell _ _ _ (by decide), up2_cell _ _ _ (by decide), up2_cell _ _ _ (by decide), up2_cell _ _ _ (by decide), up2_cell _ _ _ (by decide), up2_cell _ _ _ (by decide)]; exact x4 h hh
  · intro k hk
    obtain ⟨d0, d1⟩ := x5 k hk
    show up2 (up2 I 33 n (nI f)) 34 n (nI t) 33 k = nI (updN (lF x) n f k) ∧ up2 (up2 I 33 n (nI f)) 34 n (nI t) 34 k = nI (updN (lT x) n t k)
    rw [up2_cell _ _ _ (show 33 ≠ 34 by decide)]
    by_cases e : k = n
    · rw [up2_e _ _ e, up2_e _ _ e, e, updN_e, updN_e]; exact ⟨rfl, rfl⟩
    · rw [up2_slot _ _ e, up2_slot _ _ e, updN_n _ _ e, updN_n _ _ e, up2_cell _ _ _ (show 34 ≠ 33 by decide)]; exact ⟨d0, d1⟩
  · intro c d h1 h2; rw [up2_cell _ _ _ (by decide), up2_cell _ _ _ (by decide)]; exact x6 c d h1 h2
  · rw [up2_cell _ _ _ (by decide), up2_cell _ _ _ (by decide)]; exact x7
  · rw [up2_cell _ _ _ (by decide), up2_cell _ _ _ (by decide)]; exact x8
  · rw [up2_cell _ _ _ (by decide), up2_cell _ _ _ (by decide)]; exact x9
  · intro v hv; rw [up2_cell _ _ _ (by decide), up2_cell _ _ _ (by decide), up2_cell _ _ _ (by decide), up2_cell _ _ _ (by decide), up2_cell _ _ _ (by decide), up2_cell _ _ _ (by decide)]; exact x10 v hv
end LW
