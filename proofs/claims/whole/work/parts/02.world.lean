/-- the cells, in the order in which they are made: (0, class), (1, length) int[], 2 byte[], 3 boolean[], 4 State[] -/
def K0 : List (Nat × Nat) := [(0, 11), (0, 9), (2, 900), (0, 5), (0, 6), (1, 18), (1, 18), (1, 18), (1, 12), (1, 12), (0, 8), (1, 84), (1, 12), (1, 18), (1, 18), (1, 12), (1, 12), (1, 12), (1, 12), (1, 100), (0, 3), (1, 12), (1, 12), (1, 12), (0, 6), (1, 18), (1, 18), (1, 18), (1, 12), (1, 12), (0, 8), (1, 84), (1, 12), (1, 18), (1, 18), (1, 12), (1, 12), (1, 12), (1, 12), (1, 100), (0, 3), (1, 12), (1, 12), (1, 12), (0, 10), (0, 4), (1, 10), (1, 10), (0, 7), (1, 10), (0, 1), (0, 7), (1, 10), (1, 10), (1, 5120), (1, 5120), (0, 0), (0, 3), (1, 12), (1, 12), (1, 12), (0, 2), (4, 12), (0, 8), (1, 84), (1, 12), (1, 18), (1, 18), (1, 12), (1, 12), (1, 12), (1, 12), (1, 100), (0, 3), (1, 12), (1, 12), (1, 12), (0, 8), (1, 84), (1, 12), (1, 18), (1, 18), (1, 12), (1, 12), (1, 12), (1, 12), (1, 100), (0, 3), (1, 12), (1, 12), (1, 12), (0, 8), (1, 84), (1, 12), (1, 18), (1, 18), (1, 12), (1, 12), (1, 12), (1, 12), (1, 100), (0, 3), (1, 12), (1, 12), (1, 12), (0, 8), (1, 84), (1, 12), (1, 18), (1, 18), (1, 12), (1, 12), (1, 12), (1, 12), (1, 100), (0, 3), (1, 12), (1, 12), (1, 12), (0, 8), (1, 84), (1, 12), (1, 18), (1, 18), (1, 12), (1, 12), (1, 12), (1, 12), (1, 100), (0, 3), (1, 12), (1, 12), (1, 12), (0, 8), (1, 84), (1, 12), (1, 18), (1, 18), (1, 12), (1, 12), (1, 12), (1, 12), (1, 100), (0, 3), (1, 12), (1, 12), (1, 12), (0, 8), (1, 84), (1, 12), (1, 18), (1, 18), (1, 12), (1, 12), (1, 12), (1, 12), (1, 100), (0, 3), (1, 12), (1, 12), (1, 12), (0, 8), (1, 84), (1, 12), (1, 18), (1, 18), (1, 12), (1, 12), (1, 12), (1, 12), (1, 100), (0, 3), (1, 12), (1, 12), (1, 12), (0, 8), (1, 84), (1, 12), (1, 18), (1, 18), (1, 12), (1, 12), (1, 12), (1, 12), (1, 100), (0, 3), (1, 12), (1, 12), (1, 12), (0, 8), (1, 84), (1, 12), (1, 18), (1, 18), (1, 12), (1, 12), (1, 12), (1, 12), (1, 100), (0, 3), (1, 12), (1, 12), (1, 12), (0, 8), (1, 84), (1, 12), (1, 18), (1, 18), (1, 12), (1, 12), (1, 12), (1, 12), (1, 100), (0, 3), (1, 12), (1, 12), (1, 12), (0, 8), (1, 84), (1, 12), (1, 18), (1, 18), (1, 12), (1, 12), (1, 12), (1, 12), (1, 100), (0, 3), (1, 12), (1, 12), (1, 12), (4, 2), (0, 8), (1, 84), (1, 12), (1, 18), (1, 18), (1, 12), (1, 12), (1, 12), (1, 12), (1, 100), (0, 3), (1, 12), (1, 12), (1, 12), (0, 8), (1, 84), (1, 12), (1, 18), (1, 18), (1, 12), (1, 12), (1, 12), (1, 12), (1, 100), (0, 3), (1, 12), (1, 12), (1, 12), (3, 2), (0, 12), (2, 900), (1, 7), (1, 7), (1, 36), (1, 36), (1, 36), (1, 36), (1, 36), (1, 24), (1, 24), (1, 24), (1, 168), (1, 332), (1, 3984), (1, 664), (3, 2), (1, 10), (3, 10), (1, 10), (1, 10240), (1, 12), (1, 12), (1, 12), (1, 12)]
def kd (c : Nat) : Nat × Nat := K0.getD c (9, 0)
def FRL : List (List Bool) := [[true, true, true, true, true, false, false, false, false, false, false], [true, true, true, true, true, true, true, false, false, false], [true, false, false], [false, false, false, true, true, true], [true, true, true, true], [true, true, true, false, false], [false, false, false, false, false, false, false, true, true, true, true, true], [true, false], [false, false, true, true, true, true, true, true, true, true, true, true], [true, false, false, false, false, false], [true, true], [true, true, true, true, true, true, true, true, true, true, true, true], [false, true, false, false, false, false, false, false, false, false, true, true, true, true, true, true, true, true, true, true, true, false, true, true, false, true, true, true, true, true, false, true, false, false, false, false, false, false, false, false, false, true, true, true, true]]
def fR (ci k : Nat) : Bool := (FRL.getD ci []).getD k false
def NFL : List Nat := [11, 10, 3, 6, 4, 5, 12, 2, 12, 6, 2, 12, 45]
def nf (ci : Nat) : Nat := NFL.getD ci 0
/-- the references between the cells, once all are made -/
def RL0 : List (List (Option Nat)) := [[some 1, some 3, some 24, some 30, some 44, some 45, some 48, some 50, some 56, some 61, some 231, some 260], [some 2], [], [some 1, some 4, some 10], [none, none, none, none, none, none, none, some 5, some 6, some 7, some 8, some 9], [], [], [], [], [], [none, none, some 11, some 12, some 13, some 14, some 15, some 16, some 17, some 18, some 19, some 20], [], [], [], [], [], [], [], [], [], [none, none, none, some 21, some 22, some 23], [], [], [], [none, none, none, none, none, none, none, some 25, some 26, some 27, some 28, some 29], [], [], [], [], [], [none, none, some 31, some 32, some 33, some 34, some 35, some 36, some 37, some 38, some 39, some 40], [], [], [], [], [], [], [], [], [], [none, none, none, some 41, some 42, some 43], [], [], [], [some 24, some 30], [some 24, some 30, some 46, some 47], [], [], [some 49], [], [some 24, some 44, some 45, some 51, some 53, some 54, some 55], [some 52], [], [], [], [], [some 24, some 30, some 44, some 45, some 57], [none, none, none, some 58, some 59, some 60], [], [], [], [some 62], [some 63, some 77, some 91, some 105, some 119, some 133, some 147, some 161, some 175, some 189, some 203, some 217], [none, none, some 64, some 65, some 66, some 67, some 68, some 69, some 70, some 71, some 72, some 73], [], [], [], [], [], [], [], [], [], [none, none, none, some 74, some 75, some 76], [], [], [], [none, none, some 78, some 79, some 80, some 81, some 82, some 83, some 84, some 85, some 86, some 87], [], [], [], [], [], [], [], [], [], [none, none, none, some 88, some 89, some 90], [], [], [], [none, none, some 92, some 93, some 94, some 95, some 96, some 97, some 98, some 99, some 100, some 101], [], [], [], [], [], [], [], [], [], [none, none, none, some 102, some 103, some 104], [], [], [], [none, none, some 106, some 107, some 108, some 109, some 110, some 111, some 112, some 113, some 114, some 115], [], [], [], [], [], [], [], [], [], [none, none, none, some 116, some 117, some 118], [], [], [], [none, none, some 120, some 121, some 122, some 123, some 124, some 125, some 126, some 127, some 128, some 129], [], [], [], [], [], [], [], [], [], [none, none, none, some 130, some 131, some 132], [], [], [], [none, none, some 134, some 135, some 136, some 137, some 138, some 139, some 140, some 141, some 142, some 143], [], [], [], [], [], [], [], [], [], [none, none, none, some 144, some 145, some 146], [], [], [], [none, none, some 148, some 149, some 150, some 151, some 152, some 153, some 154, some 155, some 156, some 157], [], [], [], [], [], [], [], [], [], [none, none, none, some 158, some 159, some 160], [], [], [], [none, none, some 162, some 163, some 164, some 165, some 166, some 167, some 168, some 169, some 170, some 171], [], [], [], [], [], [], [], [], [], [none, none, none, some 172, some 173, some 174], [], [], [], [none, none, some 176, some 177, some 178, some 179, some 180, some 181, some 182, some 183, some 184, some 185], [], [], [], [], [], [], [], [], [], [none, none, none, some 186, some 187, some 188], [], [], [], [none, none, some 190, some 191, some 192, some 193, some 194, some 195, some 196, some 197, some 198, some 199], [], [], [], [], [], [], [], [], [], [none, none, none, some 200, some 201, some 202], [], [], [], [none, none, some 204, some 205, some 206, some 207, some 208, some 209, some 210, some 211, some 212, some 213], [], [], [], [], [], [], [], [], [], [none, none, none, some 214, some 215, some 216], [], [], [], [none, none, some 218, some 219, some 220, some 221, some 222, some 223, some 224, some 225, some 226, some 227], [], [], [], [], [], [], [], [], [], [none, none, none, some 228, some 229, some 230], [], [], [], [some 232, some 246], [none, none, some 233, some 234, some 235, some 236, some 237, some 238, some 239, some 240, some 241, some 242], [], [], [], [], [], [], [], [], [], [none, none, none, some 243, some 244, some 245], [], [], [], [none, none, some 247, some 248, some 249, some 250, some 251, some 252, some 253, some 254, some 255, some 256], [], [], [], [], [], [], [], [], [], [none, none, none, some 257, some 258, some 259], [], [], [], [], [none, some 262, none, none, none, none, none, none, none, none, some 263, some 264, some 265, some 266, some 267, some 268, some 269, some 270, some 271, some 272, some 273, none, some 274, some 275, none, some 276, some 277, some 278, some 279, some 280, none, some 281, none, none, none, none, none, none, none, none, none, some 282, some 283, some 284, some 285], [], [], [], [], [], [], [], [], [], [], [], [], [], [], [], [], [], [], [], [], [], [], [], []]
def Rf0 : Nat → Nat → Option Nat := fun c k => (RL0.getD c []).getD k none
def strLen : List Nat := [5, 4, 5, 5, 6, 5, 4]
def strByt : List (List Int32) := [[110, 111, 100, 101, 115], [99, 97, 114, 116], [115, 116, 97, 114, 116], [112, 114, 105, 99, 101], [115, 116, 114, 101, 101, 116], [104, 111, 117, 115, 101], [103, 97, 116, 101]]
/-- where the class files name the seven words: (class, entry, word, its number) -/
def strL : List (String × Nat × String × Nat) := [("DeliveryRound$Parser", 54, "nodes", 0), ("DeliveryRound$Parser", 63, "cart", 1), ("DeliveryRound$Parser", 75, "start", 2), ("DeliveryRound$Parser", 79, "price", 3), ("DeliveryRound$Parser", 86, "street", 4), ("DeliveryRound$Parser", 136, "gate", 6), ("DeliveryRound$Parser", 91, "house", 5), ("DeliveryRoundModel", 168, "street", 4), ("DeliveryRoundModel", 159, "gate", 6), ("DeliveryRoundModel", 173, "house", 5), ("DeliveryRoundModel", 178, "nodes", 0), ("DeliveryRoundModel", 183, "cart", 1), ("DeliveryRoundModel", 185, "start", 2), ("DeliveryRoundModel", 187, "price", 3)]
abbrev MI : Type := Nat → Nat → Int32
abbrev MR : Type := Nat → Nat → Option Nat
/-- what is fixed of a launch: the classes' numbers and slots, the array classes, the formatter, the words' addresses and their bytes' -/
abbrev gG : Type := va_G × (ClassId × ClassId × ClassId × ClassId) × Value × (Nat → Nat) × (Nat → Nat)
def tysG (G : gG) : List (ClassId × FieldType) := [(G.2.1.1, .int), (G.2.1.2.1, .byte), (G.2.1.2.2.1, .boolean), (G.2.1.2.2.2, .object "DeliveryRound$State")]
def fv (ad : Nat → Nat) (ci : Nat) (r : Nat → Option Nat) (f : Nat → Int32) (k : Nat) : Value := if fR ci k = true then va_rf ((r k).map ad) else .int (f k)
/-- a cell's contents -/
def ce (G : gG) (ad : Nat → Nat) (t : Nat × Nat) (r : Nat → Option Nat) (f : Nat → Int32) : va_E := match t.1 with
  | 0 => .inr (t.2, (List.range (nf t.2)).map (fv ad t.2 r f))
  | 1 => .inl (G.2.1.1, t.2, .inl f)
  | 2 => .inl (G.2.1.2.1, t.2, .inl f)
  | 3 => .inl (G.2.1.2.2.1, t.2, .inl f)
  | _ => .inl (G.2.1.2.2.2, t.2, .inr (.inr (.inr (.inr (fun k => (r k).map ad)))))
/-- the world: the first n cells -/
def wl (G : gG) (ad : Nat → Nat) (n : Nat) (Rf : MR) (I : MI) : va_W := (List.range n).map (fun c => (ad c, ce G ad (kd c) (Rf c) (I c)))
theorem wl_at {G : gG} {ad : Nat → Nat} {n : Nat} {Rf : MR} {I : MI} {c : Nat} (h : c < n) : (wl G ad n Rf I)[c]? = some (ad c, ce G ad (kd c) (Rf c) (I c)) := by
  simp [wl, h]
theorem wl_of {G : gG} {ad : Nat → Nat} {n : Nat} {Rf : MR} {I : MI} {c : Nat} {t : Nat × Nat} (hk : kd c = t) (h : c < n) : (wl G ad n Rf I)[c]? = some (ad c, ce G ad t (Rf c) (I c)) := by
  rw [wl_at h, hk]
def upA (I : MI) (c : Nat) (f : Nat → Int32) : MI := fun i => if i = c then f else I i
def up2 (I : MI) (c k : Nat) (x : Int32) : MI := upA I c (upd (I c) k x)
theorem upA_same (I : MI) (c : Nat) (f : Nat → Int32) : upA I c f c = f := if_pos rfl
theorem upA_ne (I : MI) {c i : Nat} (f : Nat → Int32) (h : i ≠ c) : upA I c f i = I i := if_neg h
theorem wl_set {G : gG} {ad : Nat → Nat} {n : Nat} {Rf : MR} {I : MI} {c : Nat} {t : Nat × Nat} (hk : kd c = t) (f : Nat → Int32) : (wl G ad n Rf I).set c (ad c, ce G ad t (Rf c) f) = wl G ad n Rf (upA I c f) := by
  apply List.ext_getElem?
  intro i
  by_cases hi : i < n
  · by_cases h : i = c
    · subst h
      have hlen : i < (wl G ad n Rf I).length := by simp [wl, hi]
      rw [List.getElem?_set_self hlen, wl_at hi, upA_same, hk]
    · rw [List.getElem?_set_ne (fun q => h q.symm), wl_at hi, wl_at hi, upA_ne I f h]
  · have h1 : (wl G ad n Rf (upA I c f))[i]? = none := List.getElem?_eq_none (by simp [wl]; omega)
    have h2 : ((wl G ad n Rf I).set c (ad c, ce G ad t (Rf c) f))[i]? = none := List.getElem?_eq_none (by simp [wl]; omega)
    rw [h1, h2]
theorem fv_set {ad : Nat → Nat} {ci N k : Nat} {r : Nat → Option Nat} {f : Nat → Int32} {x : Int32} (hf : fR ci k = false) : ((List.range N).map (fv ad ci r f)).set k (.int x) = (List.range N).map (fv ad ci r (upd f k x)) := by
  apply List.ext_getElem?
  intro i
  by_cases hi : i < N
  · by_cases h : i = k
    · subst h
      rw [List.getElem?_set_self (by simp [hi])]
      simp [hi, fv, hf, upd]
    · rw [List.getElem?_set_ne (fun q => h q.symm)]
      simp [hi, fv, upd, h]
  · rw [List.getElem?_eq_none (by simp; omega), List.getElem?_eq_none (by simp; omega)]
/-- an abstract value as the machine's: a cell's number becomes its address; the words, their bytes and the formatter stand as return addresses -/
def cvt (G : gG) (ad : Nat → Nat) : Value → Value
  | .ref r => .ref (ad r)
  | .retAddr k => if k = 0 then G.2.2.1 else if k % 2 = 1 then .ref (G.2.2.2.1 (k / 2)) else .ref (G.2.2.2.2 (k / 2 - 1))
  | v => v
theorem cvt_cat {G : gG} {ad : Nat → Nat} (hf : G.2.2.1.category = 1) (v : Value) : (cvt G ad v).category = v.category := by
  cases v with
  | retAddr k =>
    show (if k = 0 then G.2.2.1 else if k % 2 = 1 then Value.ref (G.2.2.2.1 (k / 2)) else Value.ref (G.2.2.2.2 (k / 2 - 1))).category = 1
    by_cases h : k = 0
    · rw [if_pos h, hf]
    · rw [if_neg h]
      by_cases h2 : k % 2 = 1
      · rw [if_pos h2]; rfl
      · rw [if_neg h2]; rfl
  | _ => rfl
theorem cvt_sum {G : gG} {ad : Nat → Nat} (hf : G.2.2.1.category = 1) (st : List Value) : ((st.map (cvt G ad)).map fun v => v.category).sum = (st.map fun v => v.category).sum := by
  induction st with
  | nil => rfl
  | cons v st ih => simp only [List.map_cons, List.sum_cons, cvt_cat hf, ih]
/-- the locals -/
def lvs (G : gG) (ad : Nat → Nat) (lsA : Array Slot) (nL : Nat) (ls : List (Option Value)) : Prop := lsA.size = nL ∧ lv_wf lsA ∧ ∀ (k : Nat) (v : Value), ls[k]? = some (some v) → lsA[k]? = some (.val (cvt G ad v))
def asc (G : gG) (ad : Nat → Nat) (ls : List (Option Value)) : List (Nat × Value) := (List.range ls.length).filterMap (fun k => match ls[k]? with | some (some v) => some (k, cvt G ad v) | _ => none)
theorem asc_in {G : gG} {ad : Nat → Nat} {ls : List (Option Value)} {k : Nat} {v : Value} (h : ls[k]? = some (some v)) : (k, cvt G ad v) ∈ asc G ad ls := by
  refine List.mem_filterMap.mpr ⟨k, List.mem_range.mpr (List.getElem?_eq_some_iff.mp h).1, ?_⟩
  simp [h]
theorem lvs_has {G : gG} {ad : Nat → Nat} {lsA : Array Slot} {nL : Nat} {ls : List (Option Value)} (h : lvs G ad lsA nL ls) : lv_has lsA nL (asc G ad ls) := by
  refine ⟨h.1, h.2.1, fun q hq => ?_⟩
  obtain ⟨k, -, hk⟩ := List.mem_filterMap.mp hq
  split at hk
  · rename_i v hv
    cases hk
    exact h.2.2 k v hv
  · cases hk
def c1 (ls : List (Option Value)) : Bool := ls.all (fun o => match o with | some v => v.category == 1 | none => true)
theorem lvs_set {G : gG} {ad : Nat → Nat} {lsA : Array Slot} {nL i : Nat} {ls : List (Option Value)} {v : Value} (hf : G.2.2.1.category = 1) (hc : c1 ls = true)
    (h : lv_has lsA nL ((i, cvt G ad v) :: (asc G ad ls).filter (fun q => !(q.1 == i) && !(q.1 + 1 == i && q.2.category == 2)))) : lvs G ad lsA nL (ls.set i (some v)) := by
  refine ⟨h.1, h.2.1, fun k w hk => ?_⟩
  by_cases hi : k = i
  · subst hi
    have hl : k < (ls.set k (some v)).length := (List.getElem?_eq_some_iff.mp hk).1
    rw [List.getElem?_set_self (by simpa using hl)] at hk
    cases hk
    exact h.2.2 (k, cvt G ad v) List.mem_cons_self
  · rw [List.getElem?_set_ne (fun q => hi q.symm)] at hk
    refine h.2.2 (k, cvt G ad w) (List.mem_cons_of_mem _ (List.mem_filter.mpr ⟨asc_in hk, ?_⟩))
    have hw : w.category = 1 := by
      have := List.all_eq_true.mp hc (some w) (List.mem_of_getElem? hk)
      simpa using this
    simp [hi, cvt_cat hf, hw]
/-- a method: its name, code, locals, answer; the frames and words of locals that it needs below it -/
abbrev mD : Type := MethodName × ByteArray × Nat × Option FieldType × Nat × Nat
abbrev rmD (μ : mD) : Room := { frames := μ.2.2.2.2.1, cells := 0, slots := 0, locals := μ.2.2.2.2.2 }
def wsM (μ : mD) : List Cond := Cond.code μ.1 μ.2.1 μ.2.2.1 μ.2.2.2.1 :: tbl
/-- the words and the JDK's statics: no cell that changes -/
def Sx (G : gG) (A : Nat → Prop) (s : State) : Prop :=
  vk_S 7 strLen strByt G.2.2.2.1 G.2.2.2.2 A s s.heap ∧ (∀ q ∈ strL, vk_R q.1 q.2.1 q.2.2.1 (G.2.2.2.1 q.2.2.2) s) ∧ va_Z "java/lang/String" "COMPACT_STRINGS" "Z" (.int 1) A s s.heap ∧ va_Z "jdk/internal/util/Preconditions" "SIOOBE_FORMATTER" "Ljava/util/function/BiFunction;" G.2.2.1 A s s.heap ∧ (G.2.2.1 = .null ∨ ∃ t, G.2.2.1 = .ref t)
theorem Sx_fm {G : gG} {A : Nat → Prop} {s : State} (h : Sx G A s) : G.2.2.1.category = 1 := by
  rcases h.2.2.2.2 with h | ⟨t, h⟩ <;> rw [h] <;> rfl
theorem Sx_go {G : gG} {A B : Nat → Prop} {s U : State} {H : Heap} {locs : List Loc} (h : Sx G A s) (hS : va_S A s.heap H locs) (hU : U.heap = H) (hW : s.WarmedH U.vm) (hBA : ∀ q, B q → A q) : Sx G B U := by
  refine ⟨?_, fun q hq => (h.2.1 q hq).warm hW, ?_, ?_, h.2.2.2.2⟩
  · rw [hU]; exact ((h.1.kept hS.2.1).narrow hBA).moved hW.alike
  · rw [hU]; exact ((h.2.2.1.kept hS.2.1).narrow hBA).moved hW.alike
  · rw [hU]; exact ((h.2.2.2.1.kept hS.2.1).narrow hBA).moved hW.alike
theorem Sx_same {G : gG} {A : Nat → Prop} {s U : State} (h : Sx G A s) (hv : U.vm = s.vm) (hU : U.heap = s.heap) : Sx G A U := by
  have ha : s.vm.Alike U.vm := by rw [hv]; exact Vm.Alike.refl s.vm
  refine ⟨?_, fun q hq => (h.2.1 q hq).same hv, ?_, ?_, h.2.2.2.2⟩
  · rw [hU]; exact h.1.moved ha
  · rw [hU]; exact h.2.2.1.moved ha
  · rw [hU]; exact h.2.2.2.1.moved ha
/-- what holds in a method's body -/
def Cx (G : gG) (μ : mD) (A : Nat → Prop) (p : Program) (s : State) (m : MethodId) (args : Array Value) (meth : Method) (c : Code) : Prop :=
  p.tables.exec = Jvm.exec ∧ c.code = μ.2.1 ∧ meth.sig.returnType = μ.2.2.2.1 ∧ c.maxLocals = μ.2.2.1 ∧ s.vm.findClass μ.1.cls = some m.cls ∧ (∀ w ∈ wsM μ, w.before args s = true) ∧ meth.locks = false ∧ va_K G.1 vwCl (tysG G) s ∧ (∀ q, s.heap.size ≤ q → A q) ∧ Sx G A s
def Po (G : gG) (ad : Nat → Nat) (A : Nat → Prop) (n : Nat) (Rf : MR) (Q : Option Value → MI → Prop) : Array Value → State → Outcome → State → Prop := fun _ st o t =>
  (∃ (v : Option Value) (I : MI), o = .returned (v.map (cvt G ad)) ∧ Q v I ∧ va_P G.1 vwCl (wl G ad n Rf I) t.heap ∧ va_D A (wl G ad n Rf I)) ∧ va_F A st t
/-- from pc, with these locals, this stack and these numbers in the cells, the method comes to its end with Q -/
def WP (μ : mD) (n : Nat) (Rf : MR) (pc : Nat) (ls : List (Option Value)) (st : List Value) (I : MI) (Q : Option Value → MI → Prop) : Prop :=
  ∀ (G : gG) (ad : Nat → Nat) (A : Nat → Prop) (p : Program) (l : Launch) (e : Env) (s : State) (m : MethodId) (args : Array Value) (below : List Frame) (meth : Method) (c : Code) (H : Heap) (locs : List Loc) (lsA : Array Slot),
    Cx G μ A p s m args meth c → va_P G.1 vwCl (wl G ad n Rf I) H → va_D A (wl G ad n Rf I) → va_S A s.heap H locs → lvs G ad lsA μ.2.2.1 ls →
    W p l e (rmD μ) s m args below meth c H locs 0 0 (MQ below (Po G ad A n Rf Q) args s 0 0 A) (F0 m pc lsA (st.map (cvt G ad)))
def okC (ci : Nat) (C : String) (T : u_T) (N : Nat) (ty : Nat → FieldType) : Prop := vwCl[ci]? = some (C, T, N) ∧ (∀ w ∈ u_ws C T N, w ∈ tbl) ∧ nf ci = N ∧ (∀ k, k < N → parseFieldDescriptor (T k).2.2.1 = some (ty k)) ∧ (∀ a, a < N → ∀ b, b < N → a ≠ b → (T a).2.1 ≠ (T b).2.1)

theorem okC0 : okC 0 RX0 TX0 11 tyX0 := ⟨rfl, inX0, rfl, tyX0_ok, nmX0⟩
theorem okC1 : okC 1 RX1 TX1 10 tyX1 := ⟨rfl, inX1, rfl, tyX1_ok, nmX1⟩
theorem okC2 : okC 2 RX2 TX2 3 tyX2 := ⟨rfl, inX2, rfl, tyX2_ok, nmX2⟩
theorem okC3 : okC 3 RX3 TX3 6 tyX3 := ⟨rfl, inX3, rfl, tyX3_ok, nmX3⟩
theorem okC4 : okC 4 RX4 TX4 4 tyX4 := ⟨rfl, inX4, rfl, tyX4_ok, nmX4⟩
theorem okC5 : okC 5 RX5 TX5 5 tyX5 := ⟨rfl, inX5, rfl, tyX5_ok, nmX5⟩
theorem okC6 : okC 6 RX6 TX6 12 tyX6 := ⟨rfl, inX6, rfl, tyX6_ok, nmX6⟩
theorem okC7 : okC 7 RX7 TX7 2 tyX7 := ⟨rfl, inX7, rfl, tyX7_ok, nmX7⟩
theorem okC8 : okC 8 RX8 TX8 12 tyX8 := ⟨rfl, inX8, rfl, tyX8_ok, nmX8⟩
theorem okC9 : okC 9 RX9 TX9 6 tyX9 := ⟨rfl, inX9, rfl, tyX9_ok, nmX9⟩
theorem okC10 : okC 10 RX10 TX10 2 tyX10 := ⟨rfl, inX10, rfl, tyX10_ok, nmX10⟩
theorem okC11 : okC 11 RX11 TX11 12 tyX11 := ⟨rfl, inX11, rfl, tyX11_ok, nmX11⟩
theorem okC12 : okC 12 RX12 TX12 45 tyX12 := ⟨rfl, inX12, rfl, tyX12_ok, nmX12⟩
