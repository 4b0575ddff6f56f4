/-! memory of the mini machine: counters (objects, exceptions, slots), kinds, lengths, ints, longs, references -/
abbrev Mm : Type := (Nat × Nat × Nat) × (Nat → Nat) × (Nat → Nat) × (Nat → Nat → Int32) × (Nat → Nat → Int64) × (Nat → Nat → Option Nat)
def zN (M : Mm) : Nat := M.1.1
def zX (M : Mm) : Nat := M.1.2.1
def zS (M : Mm) : Nat := M.1.2.2
def sh (M : Mm) : Nat → Nat := M.2.1
def ln (M : Mm) : Nat → Nat := M.2.2.1
def mi (M : Mm) : Nat → Nat → Int32 := M.2.2.2.1
def ml (M : Mm) : Nat → Nat → Int64 := M.2.2.2.2.1
def mr (M : Mm) : Nat → Nat → Option Nat := M.2.2.2.2.2
def zC (M : Mm) : Nat := zN M + zX M
def u1 {α : Type} (f : Nat → α) (k : Nat) (v : α) : Nat → α := fun j => if j = k then v else f j
def u2 {α : Type} (f : Nat → Nat → α) (a k : Nat) (v : α) : Nat → Nat → α := u1 f a (u1 (f a) k v)
def sI (M : Mm) (a k : Nat) (v : Int32) : Mm := (M.1, M.2.1, M.2.2.1, u2 (mi M) a k v, ml M, mr M)
def sL (M : Mm) (a k : Nat) (v : Int64) : Mm := (M.1, M.2.1, M.2.2.1, mi M, u2 (ml M) a k v, mr M)
def sR (M : Mm) (a k : Nat) (v : Option Nat) : Mm := (M.1, M.2.1, M.2.2.1, mi M, ml M, u2 (mr M) a k v)
/-- a row of ints anew -/
def sA (M : Mm) (a : Nat) (f : Nat → Int32) : Mm := (M.1, M.2.1, M.2.2.1, u1 (mi M) a f, ml M, mr M)
/-- an exception is made -/
def sX (M : Mm) : Mm := ((zN M, zX M + 1, zS M + 6), M.2.1, M.2.2.1, mi M, ml M, mr M)
/-- a new thing of kind k, length n, of w slots -/
def sN (M : Mm) (k n w : Nat) : Mm := ((zN M + 1, zX M, zS M + w), u1 (sh M) (zN M) k, u1 (ln M) (zN M) n, u1 (mi M) (zN M) (fun _ => 0), u1 (ml M) (zN M) (fun _ => 0), u1 (mr M) (zN M) (fun _ => none))
/-- kinds of the fields of a class: 0 int, 1 long, 2 reference -/
def fkT : List (List Nat) := [[2,2,2,2,2,0],[2,2,2,0],[2,2,0],[2,2,2,0,0,0,0,0,0,0,0,0],[2,2,2,0],[2,2,2,0,0],[2,2,2,2,0,0,0],[2,0,0,0,0,0,0],[2,2,2,2,2,2,2,0,0,0,0,0,0,0,0,0],[2,2,2,2,2,2,2,2,2,2,2,2,0,0,0,0],[0,0,0,0,0,0,0,0,0,2,2,2,2,2,2,2,2,2,2,2,2,2,2,0,2,0,2,2,2,2,0,0,0,0,0,0,0,2,0,1,2,2,0]]
def fk (c : Nat) : List Nat := fkT.getD c []
def fv (ad : Nat → Nat) (M : Mm) (a : Nat) (k : Nat) (kd : Nat) : Value := match kd with
  | 0 => .int (mi M a k)
  | 1 => .long (ml M a k)
  | _ => va_rf ((mr M a k).map ad)
def fvs (ad : Nat → Nat) (M : Mm) (a : Nat) (c : Nat) : List Value := (fk c).mapIdx (fun k kd => fv ad M a k kd)
def ent (cy : Nat → ClassId) (ad : Nat → Nat) (M : Mm) (a : Nat) : va_E := match sh M a with
  | 11 => .inl (cy 11, ln M a, .inl (mi M a))
  | 12 => .inl (cy 12, ln M a, .inl (mi M a))
  | 13 => .inl (cy 13, ln M a, .inr (.inl (ml M a)))
  | 14 => .inl (cy 14, ln M a, .inr (.inr (.inr (.inr (fun i => (mr M a i).map ad)))))
  | c => .inr (c, fvs ad M a c)
def pool (cy : Nat → ClassId) (ad : Nat → Nat) (M : Mm) : va_W := (List.range (zN M)).map (fun a => (ad a, ent cy ad M a))
theorem u1_same {α : Type} (f : Nat → α) (k : Nat) (v : α) : u1 f k v k = v := if_pos rfl
theorem u1_ne {α : Type} {f : Nat → α} {k j : Nat} {v : α} (h : j ≠ k) : u1 f k v j = f j := if_neg h
theorem u2_same {α : Type} (f : Nat → Nat → α) (a k : Nat) (v : α) : u2 f a k v a = u1 (f a) k v := if_pos rfl
theorem u2_ne {α : Type} {f : Nat → Nat → α} {a k j : Nat} {v : α} (h : j ≠ a) : u2 f a k v j = f j := if_neg h
theorem pool_at {cy : Nat → ClassId} {ad : Nat → Nat} {M : Mm} {a : Nat} (h : a < zN M) : (pool cy ad M)[a]? = some (ad a, ent cy ad M a) := by
  simp [pool, h]
theorem pool_len {cy : Nat → ClassId} {ad : Nat → Nat} {M : Mm} : (pool cy ad M).length = zN M := by simp [pool]
theorem pool_set {cy : Nat → ClassId} {ad : Nat → Nat} {M M' : Mm} {a : Nat} {e : va_E} (hn : zN M' = zN M) (he : ent cy ad M' a = e) (ho : ∀ j, j ≠ a → ent cy ad M' j = ent cy ad M j) : (pool cy ad M).set a (ad a, e) = pool cy ad M' := by
  apply List.ext_getElem?
  intro i
  by_cases hi : i < zN M
  · rw [List.getElem?_set, pool_at (M := M') (by rw [hn]; exact hi)]
    by_cases h : a = i
    · subst h
      simp [pool_len, hi, he]
    · rw [if_neg h, pool_at hi, ho i (fun q => h q.symm)]
  · rw [List.getElem?_eq_none (by rw [List.length_set, pool_len]; omega), List.getElem?_eq_none (by rw [pool_len, hn]; omega)]
theorem sI_mi (M : Mm) (a k : Nat) (v : Int32) : mi (sI M a k v) = u2 (mi M) a k v := rfl
theorem fvs_at {ad : Nat → Nat} {M : Mm} {a c k kd : Nat} (h : (fk c)[k]? = some kd) : (fvs ad M a c)[k]? = some (fv ad M a k kd) := by
  simp [fvs, h]
theorem fvs_len {ad : Nat → Nat} {M : Mm} {a c : Nat} : (fvs ad M a c).length = (fk c).length := by simp [fvs]
/-- one field anew -/
theorem fvs_set {ad : Nat → Nat} {M M' : Mm} {a c k kd : Nat} {v : Value} (hk : (fk c)[k]? = some kd) (hv : fv ad M' a k kd = v) (ho : ∀ j kd', j ≠ k → fv ad M' a j kd' = fv ad M a j kd') : (fvs ad M a c).set k v = fvs ad M' a c := by
  apply List.ext_getElem?
  intro i
  have hl : k < (fk c).length := (List.getElem?_eq_some_iff.mp hk).1
  rw [List.getElem?_set, fvs_len]
  by_cases h : k = i
  · subst h
    rw [if_pos rfl, if_pos hl, fvs_at hk, hv]
  · rw [if_neg h]
    cases hq : (fk c)[i]? with
    | none =>
      have : (fk c).length ≤ i := by simpa using hq
      rw [List.getElem?_eq_none (by rw [fvs_len]; exact this), List.getElem?_eq_none (by rw [fvs_len]; exact this)]
    | some kd' => rw [fvs_at hq, fvs_at hq, ho i kd' (fun q => h q.symm)]
