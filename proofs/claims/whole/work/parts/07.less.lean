def lsub : List (Option Value) → List (Option Value) → Prop
  | [], _ => True
  | none :: a, _ :: b => lsub a b
  | some v :: a, some w :: b => v = w ∧ lsub a b
  | _ :: _, _ => False
theorem lsub_at : ∀ (a b : List (Option Value)), lsub a b → ∀ (k : Nat) (v : Value), a[k]? = some (some v) → b[k]? = some (some v)
  | [], _, _, k, v, h => by simp at h
  | none :: a, [], h, _, _, _ => absurd h (by simp [lsub])
  | none :: a, x :: b, h, k, v, hk => by
    cases k with
    | zero => simp at hk
    | succ k => rw [List.getElem?_cons_succ] at hk ⊢; exact lsub_at a b (by cases x <;> simpa [lsub] using h) k v hk
  | some w :: a, [], h, _, _, _ => absurd h (by simp [lsub])
  | some w :: a, none :: b, h, _, _, _ => absurd h (by simp [lsub])
  | some w :: a, some x :: b, h, k, v, hk => by
    cases k with
    | zero => rw [List.getElem?_cons_zero] at hk ⊢; rw [← h.1]; exact hk
    | succ k => rw [List.getElem?_cons_succ] at hk ⊢; exact lsub_at a b h.2 k v hk
theorem w_less {μ : mD} {n : Nat} {Rf : MR} {pc : Nat} {ls ls' : List (Option Value)} {st : List Value} {I : MI} {Q : Option Value → MI → Prop} (h : lsub ls' ls) (K : WP μ n Rf pc ls' st I Q) : WP μ n Rf pc ls st I Q := by
  intro G ad A p l e s m args below meth c H locs lsA C hP hD hS hl
  exact K G ad A p l e s m args below meth c H locs lsA C hP hD hS ⟨hl.1, hl.2.1, fun k v hk => hl.2.2 k v (lsub_at _ _ h k v hk)⟩
