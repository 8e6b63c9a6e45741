/-! what a constructor leaves: cells as they stand at last -/
def relv (c k : Nat) : Bool := match kd c with
  | (0, ci) => fR ci k && decide (k < nf ci)
  | (4, _) => true
  | _ => false
def plV : Nat → Int32
  | 0 => 2
  | 3 => 60
  | 4 => 300
  | 5 => 5
  | 6 => 10
  | _ => 0
/-- the numbers with which the class's cells begin -/
def Iv (c k : Nat) : Int32 := match kd c with
  | (0, 3) => if k = 0 then -2 else 0
  | (0, 6) => plV k
  | (0, 1) => if k = 8 then 2147483647 else 0
  | _ => 0
def dn (R : MR) (I : MI) (c : Nat) : Prop := (∀ k, relv c k = true → R c k = Rf0 c k) ∧ I c = Iv c
theorem dn_eq {R R' : MR} {I I' : MI} {c : Nat} (h : dn R I c) (e1 : R' c = R c) (e2 : I' c = I c) : dn R' I' c := by
  unfold dn
  rw [e1, e2]
  exact h
theorem relv_o {c ci k : Nat} (h : kd c = (0, ci)) : relv c k = (fR ci k && decide (k < nf ci)) := by
  unfold relv
  rw [h]
  rfl
theorem relv_a {c kk N k : Nat} (h : kd c = (kk, N)) (h2 : kk = 1 ∨ kk = 2 ∨ kk = 3) : relv c k = false := by
  unfold relv
  rw [h]
  rcases h2 with q | q | q <;> subst q <;> rfl
theorem relv_q {c N k : Nat} (h : kd c = (4, N)) : relv c k = true := by
  unfold relv
  rw [h]
  rfl
theorem Iv_a {c kk N : Nat} (h : kd c = (kk, N)) (h2 : kk = 1 ∨ kk = 2 ∨ kk = 3 ∨ kk = 4) : Iv c = fun _ => 0 := by
  funext k
  unfold Iv
  rw [h]
  rcases h2 with q | q | q | q <;> subst q <;> rfl
theorem Iv_o {c ci : Nat} (h : kd c = (0, ci)) (h2 : ci ≠ 1 ∧ ci ≠ 3 ∧ ci ≠ 6) : Iv c = fun _ => 0 := by
  funext k
  unfold Iv
  rw [h]
  split
  · rename_i q; cases q; exact absurd rfl h2.2.1
  · rename_i q; cases q; exact absurd rfl h2.2.2
  · rename_i q; cases q; exact absurd rfl h2.1
  · rfl
theorem Iv_3 {c : Nat} (h : kd c = (0, 3)) : Iv c = fun k => if k = 0 then -2 else 0 := by
  funext k
  unfold Iv
  rw [h]
  rfl
theorem Iv_6 {c : Nat} (h : kd c = (0, 6)) : Iv c = plV := by
  funext k
  unfold Iv
  rw [h]
  rfl
theorem Iv_1 {c : Nat} (h : kd c = (0, 1)) : Iv c = fun k => if k = 8 then 2147483647 else 0 := by
  funext k
  unfold Iv
  rw [h]
  rfl
def updR (f : Nat → Option Nat) (k r : Nat) : Nat → Option Nat := fun j => if j = k then some r else f j
theorem upR_upd (R : MR) (c k r : Nat) : upR R c k r c = updR (R c) k r := by
  funext j
  unfold upR updR
  by_cases h : j = k
  · rw [if_pos ⟨rfl, h⟩, if_pos h]
  · rw [if_neg (fun q => h q.2), if_neg h]
/-- the cell t under way: what lies below is as it was; what lies above stands, but for the array ex with its first i places -/
def St (t ex i n : Nat) (R0 : MR) (I0 : MI) (rt : Nat → Option Nat) (it : Nat → Int32) (R : MR) (I : MI) : Prop :=
  (∀ c, c < t → R c = R0 c ∧ I c = I0 c) ∧ R t = rt ∧ I t = it ∧ (∀ c, t < c → c < n → c ≠ ex → dn R I c) ∧ (t < ex → ∀ j, R ex j = if j < i then Rf0 ex j else none) ∧ (t < ex → I ex = fun _ => 0)
/-- what a constructor of the cell t promises -/
def Qc (t nE : Nat) (R0 : MR) (I0 : MI) (R : MR) (I : MI) : Prop := (∀ c, c < t → R c = R0 c ∧ I c = I0 c) ∧ ∀ c, t ≤ c → c < nE → dn R I c
section
variable {t ex i n : Nat} {R0 : MR} {I0 : MI} {rt : Nat → Option Nat} {it : Nat → Int32} {R : MR} {I : MI}
theorem St_0 (hz : I0 t = fun _ => 0) (hr : R0 t = fun _ => none) : St t 0 0 (t + 1) R0 I0 (fun _ => none) (fun _ => 0) R0 I0 :=
  ⟨fun _ _ => ⟨rfl, rfl⟩, hr, hz, fun c h1 h2 => by omega, fun h => absurd h (Nat.not_lt_zero t), fun h => absurd h (Nat.not_lt_zero t)⟩
theorem St_arr {kk N n' : Nat} (s : St t ex i n R0 I0 rt it R I) (hk : kd n = (kk, N)) (h2 : kk = 1 ∨ kk = 2 ∨ kk = 3) (hz : I n = fun _ => 0) (hn' : n + 1 = n') : St t ex i n' R0 I0 rt it R I := by
  subst hn'
  refine ⟨s.1, s.2.1, s.2.2.1, fun c h1 h3 h4 => ?_, s.2.2.2.2⟩
  by_cases h : c = n
  · subst h
    refine ⟨fun k hr => ?_, ?_⟩
    · rw [relv_a hk h2] at hr; cases hr
    · rw [hz, Iv_a hk (by rcases h2 with q | q | q <;> simp [q])]
  · exact s.2.2.2.1 c h1 (by omega) h4
theorem St_q {N n' : Nat} (s : St t 0 0 n R0 I0 rt it R I) (ht : t < n) (hz : I n = fun _ => 0) (hr : R n = fun _ => none) (hn' : n + 1 = n') : St t n 0 n' R0 I0 rt it R I := by
  subst hn'
  exact ⟨s.1, s.2.1, s.2.2.1, fun c h1 h3 h4 => s.2.2.2.1 c h1 (by omega) (by omega), fun _ j => by rw [hr, if_neg (Nat.not_lt_zero j)], fun _ => hz⟩
theorem St_put {k r : Nat} (s : St t ex i n R0 I0 rt it R I) : St t ex i n R0 I0 (updR rt k r) it (upR R t k r) I := by
  refine ⟨fun c hc => ⟨by rw [upR_c (by omega)]; exact (s.1 c hc).1, (s.1 c hc).2⟩, by rw [upR_upd, s.2.1], s.2.2.1, fun c h1 h3 h4 => dn_eq (s.2.2.2.1 c h1 h3 h4) (upR_c (by omega)) rfl, fun h j => ?_, s.2.2.2.2.2⟩
  rw [upR_c (by omega)]
  exact s.2.2.2.2.1 h j
theorem St_putI {k : Nat} {x : Int32} (s : St t ex i n R0 I0 rt it R I) : St t ex i n R0 I0 rt (upd it k x) R (up2 I t k x) := by
  refine ⟨fun c hc => ⟨(s.1 c hc).1, by rw [up2, upA_ne _ _ (by omega)]; exact (s.1 c hc).2⟩, s.2.1, by rw [up2, upA_same, s.2.2.1], fun c h1 h3 h4 => dn_eq (s.2.2.2.1 c h1 h3 h4) rfl (by rw [up2, upA_ne _ _ (by omega)]), s.2.2.2.2.1, fun h => by rw [up2, upA_ne _ _ (by omega)]; exact s.2.2.2.2.2 h⟩
theorem St_call {nE : Nat} {R' : MR} {I' : MI} (s : St t ex i n R0 I0 rt it R I) (ht : t < n) (he : ex < n) (q : Qc n nE R I R' I') : St t ex i nE R0 I0 rt it R' I' := by
  refine ⟨fun c hc => ⟨(q.1 c (by omega)).1.trans (s.1 c hc).1, (q.1 c (by omega)).2.trans (s.1 c hc).2⟩, (q.1 t ht).1.trans s.2.1, (q.1 t ht).2.trans s.2.2.1, fun c h1 h3 h4 => ?_, fun h j => by rw [(q.1 ex he).1]; exact s.2.2.2.2.1 h j, fun h => (q.1 ex he).2.trans (s.2.2.2.2.2 h)⟩
  rcases Nat.lt_or_ge c n with h | h
  · exact dn_eq (s.2.2.2.1 c h1 h h4) (q.1 c h).1 (q.1 c h).2
  · exact q.2 c h h3
theorem St_el {r i' : Nat} (s : St t ex i n R0 I0 rt it R I) (ht : t < ex) (hr : Rf0 ex i = some r) (hi' : i + 1 = i') : St t ex i' n R0 I0 rt it (upR R ex i r) I := by
  subst hi'
  refine ⟨fun c hc => ⟨by rw [upR_c (by omega)]; exact (s.1 c hc).1, (s.1 c hc).2⟩, by rw [upR_c (by omega)]; exact s.2.1, s.2.2.1, fun c h1 h3 h4 => dn_eq (s.2.2.2.1 c h1 h3 h4) (upR_c h4) rfl, fun h0 j => ?_, s.2.2.2.2.2⟩
  by_cases h : j = i
  · subst h
    rw [upR_same, if_pos (Nat.lt_succ_self j), hr]
  · rw [upR_k h, s.2.2.2.2.1 h0 j]
    by_cases h2 : j < i
    · rw [if_pos h2, if_pos (by omega)]
    · rw [if_neg h2, if_neg (by omega)]
theorem St_close {N : Nat} (s : St t ex N n R0 I0 rt it R I) (hk : kd ex = (4, N)) (ht : t < ex) (hq : ∀ k, N ≤ k → Rf0 ex k = none) : St t 0 0 n R0 I0 rt it R I := by
  refine ⟨s.1, s.2.1, s.2.2.1, fun c h1 h3 h4 => ?_, fun h => absurd h (Nat.not_lt_zero t), fun h => absurd h (Nat.not_lt_zero t)⟩
  by_cases h : c = ex
  · subst h
    refine ⟨fun k _ => ?_, by rw [s.2.2.2.2.2 ht, Iv_a hk (by simp)]⟩
    rw [s.2.2.2.2.1 ht k]
    by_cases h2 : k < N
    · rw [if_pos h2]
    · rw [if_neg h2, hq k (by omega)]
  · exact s.2.2.2.1 c h1 h3 h
theorem St_fin {ci : Nat} (s : St t 0 0 n R0 I0 rt it R I) (hk : kd t = (0, ci)) (hr : ∀ k, (fR ci k && decide (k < nf ci)) = true → rt k = Rf0 t k) (hI : it = Iv t) : Qc t n R0 I0 R I := by
  refine ⟨s.1, fun c h1 h2 => ?_⟩
  by_cases h : c = t
  · subst h
    refine ⟨fun k h3 => ?_, s.2.2.1.trans hI⟩
    rw [relv_o hk] at h3
    rw [s.2.1]
    exact hr k h3
  · exact s.2.2.2.1 c (by omega) h2 (by omega)
end
theorem lvB1 {n t : Nat} (h : t < n) : lvB n [some (.ref t)] = true := by simp [lvB, bvB, h]
theorem stB0 {n : Nat} : ([] : List Value).all (bvB n) = true := rfl
theorem stB1 {n t : Nat} (h : t < n) : [Value.ref t].all (bvB n) = true := by simp [bvB, h]
theorem stB2 {n t u : Nat} (h : t < n) (h2 : u < n) : [Value.ref t, Value.ref u].all (bvB n) = true := by simp [bvB, h, h2]
theorem rq_62 : ∀ k, 12 ≤ k → Rf0 62 k = none := by
  intro k hk
  show ((RL0.getD 62 []).getD k none) = none
  rw [List.getD_eq_getElem?_getD, List.getElem?_eq_none (by show 12 ≤ k; exact hk)]
  rfl
theorem rq_231 : ∀ k, 2 ≤ k → Rf0 231 k = none := by
  intro k hk
  show ((RL0.getD 231 []).getD k none) = none
  rw [List.getD_eq_getElem?_getD, List.getElem?_eq_none (by show 2 ≤ k; exact hk)]
  rfl
