/-! the mini machine's logic: what a frame, a world, a run, a call are -/
/-- a value as the machine has it: ids are addresses there -/
def gv (ad : Nat → Nat) : Value → Value
  | .ref q => .ref (ad q)
  | v => v
def tX (k : Nat) : u_T := fun _ => ("", "", "", false)
/-- the classes of the pool, and the three that are thrown -/
def clX : List vw_C := vwCl ++ [("java/lang/IllegalArgumentException", tX 0, 0), ("java/lang/IndexOutOfBoundsException", tX 0, 0), ("java/util/NoSuchElementException", tX 0, 0)]
abbrev tyA (cy : Nat → ClassId) : List (ClassId × FieldType) := [(cy 11, .byte), (cy 12, .int), (cy 13, .long), (cy 14, .array .int)]
/-- locals: by their places; .null says nothing of a place -/
def LR (ad : Nat → Nat) (ls : Array Slot) (lo : List Value) : Prop := ls.size = lo.length ∧ lv_wf ls ∧ ∀ (i : Nat) (v : Value), lo[i]? = some v → v ≠ .null → ls[i]? = some (.val (gv ad v))
abbrev MI : Type := MethodName × ByteArray × Nat × Option FieldType × List (Nat × Nat × Nat × Nat)
abbrev Rs : Type := Option Value ⊕ String
/-- the texts of the claim's constants -/
def strT : Nat → String × Nat × String := fun i => match i with
  | 0 => ("FieldStones$Ground", 96, "field stone soil lads sledge bar")
  | 1 => ("FieldStones$Law", 79, "size soil year many x y all if")
  | 2 => ("FieldStones$Plan", 49, "to lift bar wall heap round winter again")
  | 3 => ("FieldStones", 361, "outside what the document allows")
  | 4 => ("FieldStones", 368, "no such cell")
  | _ => ("FieldStones", 373, "no such stone")
def strL : List Nat := [32, 30, 40, 32, 12, 13]
def strB : List (List Int32) := [[102, 105, 101, 108, 100, 32, 115, 116, 111, 110, 101, 32, 115, 111, 105, 108, 32, 108, 97, 100, 115, 32, 115, 108, 101, 100, 103, 101, 32, 98, 97, 114], [115, 105, 122, 101, 32, 115, 111, 105, 108, 32, 121, 101, 97, 114, 32, 109, 97, 110, 121, 32, 120, 32, 121, 32, 97, 108, 108, 32, 105, 102], [116, 111, 32, 108, 105, 102, 116, 32, 98, 97, 114, 32, 119, 97, 108, 108, 32, 104, 101, 97, 112, 32, 114, 111, 117, 110, 100, 32, 119, 105, 110, 116, 101, 114, 32, 97, 103, 97, 105, 110], [111, 117, 116, 115, 105, 100, 101, 32, 119, 104, 97, 116, 32, 116, 104, 101, 32, 100, 111, 99, 117, 109, 101, 110, 116, 32, 97, 108, 108, 111, 119, 115], [110, 111, 32, 115, 117, 99, 104, 32, 99, 101, 108, 108], [110, 111, 32, 115, 117, 99, 104, 32, 115, 116, 111, 110, 101]]
/-- exceptions of which one is no other -/
def ncT : List Cond := [.not (.castable "java/lang/IllegalArgumentException" "java/lang/IndexOutOfBoundsException"), .not (.castable "java/lang/IllegalArgumentException" "java/util/NoSuchElementException"), .not (.castable "java/lang/IndexOutOfBoundsException" "java/lang/IllegalArgumentException"), .not (.castable "java/lang/IndexOutOfBoundsException" "java/util/NoSuchElementException"), .not (.castable "java/util/NoSuchElementException" "java/lang/IllegalArgumentException"), .not (.castable "java/util/NoSuchElementException" "java/lang/IndexOutOfBoundsException")]
section LVA
variable (l : Launch) (s0 : State) (b L : Nat) (xs : Nat → Int32) (D : va_G) (cy : Nat → ClassId) (ad : Nat → Nat)
/-- where the law's own cells begin -/
def AF : Nat → Prop := fun q => s0.heap.size ≤ q
/-- what holds of the start, the same for all frames -/
def GG : Prop :=
  l.stackTraces = false ∧ (∀ w ∈ lw_tbl, w.before #[.ref b] s0 = true) ∧ va_K D clX (tyA cy) s0 ∧ (∀ a : Nat, a < 100000 → ad a = s0.heap.size + a) ∧
  ad 100000 = b ∧ va_X b L xs s0 s0.heap ∧ b < s0.heap.size ∧ L ≤ 3584 ∧
  (∀ C n d : String, (C, n, d) = (Bundle.tN, "UNASSIGNED_STACK", Bundle.steD) ∨ (C, n, d) = (Bundle.tN, "SUPPRESSED_SENTINEL", Bundle.listD) → vx_Zq C n d (AF s0) s0 s0.heap) ∧
  (∀ i : Nat, i < 6 → vk_R (strT i).1 (strT i).2.1 (strT i).2.2 (ad (100001 + i)) s0) ∧
  vk_S 6 strL strB (fun i => ad (100001 + i)) (fun i => ad (100011 + i)) (AF s0) s0 s0.heap ∧
  va_Z "java/lang/String" "COMPACT_STRINGS" "Z" (.int 1) (AF s0) s0 s0.heap ∧
  (∃ fm : Value, (fm = .null ∨ fm = .ref 100020) ∧ va_Z "jdk/internal/util/Preconditions" "SIOOBE_FORMATTER" "Ljava/util/function/BiFunction;" (gv ad fm) (AF s0) s0 s0.heap) ∧
  (∀ E nm : String, Cond.not (.castable E nm) ∈ ncT → va_Nc E nm s0)
/-- the heap holds the memory M -/
def Wd (H : Heap) (M : Mm) : Prop := zN M ≤ 100000 ∧ va_P D clX (pool cy ad M) H
def Wc (U : State) (M : Mm) : Prop := s0.WarmedH U.vm ∧ (∀ q : Nat, q < s0.heap.size → U.heap[q]? = s0.heap[q]?) ∧ s0.heap.size ≤ U.heap.size ∧ (zX M = 0 → U.heap.size ≤ s0.heap.size + zC M) ∧ Wd D cy ad U.heap M
/-- a frame of the method I -/
def Fx (I : MI) (p : Program) (s : State) (m : MethodId) (meth : Method) (c : Code) : Prop :=
  p.tables.exec = Jvm.exec ∧ c.code = I.2.1 ∧ c.maxLocals = I.2.2.1 ∧ meth.sig.returnType = I.2.2.2.1 ∧ s.vm.findClass I.1.cls = some m.cls ∧ meth.locks = false ∧ c.exceptionTable.toList = tableOf I.2.2.2.2 ∧ s0.WarmedH s.vm ∧
  (∀ q : Nat, q < s0.heap.size → s.heap[q]? = s0.heap[q]?) ∧ s0.heap.size ≤ s.heap.size ∧ meth.name = I.1.name
/-- the return of a value -/
def rtI (v : Option Value) : Instr := match v with
  | none => .return_
  | some (.int _) => .ireturn
  | some (.long _) => .lreturn
  | some _ => .areturn
/-- no row of the table takes an E thrown at pc -/
def Nocov (hh : List (Nat × Nat × Nat × Nat)) (pc : Nat) : Prop := ∀ z ∈ tableOf hh, covers z pc = false
/-- from pc on, with locals lo, stack st and memory M, the method I comes to its end res with M' -/
def Run (d : Nat) (I : MI) (pc : Nat) (lo st : List Value) (M : Mm) (res : Rs) (M' : Mm) : Prop :=
  (zC M ≤ zC M' ∧ zS M ≤ zS M' ∧ (zX M' = 0 → zX M = 0)) ∧
  ∀ {p : Program} {e : Env} {R : Room} {s : State} {m : MethodId} {args : Array Value} {below : List Frame} {meth : Method} {c : Code} {H : Heap} {locs : List Loc} {ls : Array Slot} {k0 z0 : Nat} {Q : State → Prop},
    Fx s0 I p s m meth c → Wd D cy ad H M → LR ad ls lo → lo.length = I.2.2.1 → va_S (AF s0) s.heap H locs →
    (d ≤ R.frames ∧ 100 * d + 100 ≤ R.locals ∧ zC M' ≤ R.cells + k0 ∧ zS M' ≤ R.slots + z0) → (k0 ≤ zC M ∧ (zX M = 0 → s.heap.size ≤ s0.heap.size + k0)) → z0 ≤ zS M →
    (∀ (v : Option Value) (pc' : Nat) (ls' : Array Slot) (H' : Heap) (locs' : List Loc), res = .inl v → decode I.2.1 pc' = .ok (rtI v, 1) → Wd D cy ad H' M' → va_S (AF s0) s.heap H' locs' →
      W p l e R s m args below meth c H' locs' (zC M' - k0) (zS M' - z0) Q (F0 m pc' ls' ((v.map (gv ad)).toList))) →
    (∀ (E : String) (pc' : Nat) (ls' : Array Slot) (rest : List Value) (H' : Heap) (locs' : List Loc) (q : Addr) (ce : Cell), res = .inr E → Nocov I.2.2.2.2 pc' → Wd D cy ad H' M' → va_S (AF s0) s.heap H' locs' →
      H'[q]? = some ce → ce.vm = .none → s.vm.findClass E = some ce.cls →
      vx_W p l e R s m args below meth c H' locs' (zC M' - k0) (zS M' - z0) Q (F0 m pc' ls' rest) q) →
    W p l e R s m args below meth c H locs (zC M - k0) (zS M - z0) Q (F0 m pc ls (st.map (gv ad)))
def QC (res : Rs) (M' : Mm) : Array Value → State → Outcome → State → Prop := fun _ st o t => ∃ v : Option Value, res = .inl v ∧ o = .returned (v.map (gv ad)) ∧ Wd D cy ad t.heap M' ∧ va_F (AF s0) st t
def XC (res : Rs) (M' : Mm) : String → State → State → Prop := fun E st t => res = .inr E ∧ Wd D cy ad t.heap M' ∧ va_F (AF s0) st t
def wK (I : MI) : Cond := match I.2.2.2.2 with
  | [] => .code I.1 I.2.1 I.2.2.1 I.2.2.2.1
  | hh => .codeWith I.1 I.2.1 I.2.2.1 I.2.2.2.1 hh
def rmK (d mc ms : Nat) : Room := { frames := d, cells := mc, slots := ms, locals := 100 * d + 100 }
/-- a call of the method I -/
def Cal (d : Nat) (I : MI) (as : List Value) (M : Mm) (res : Rs) (M' : Mm) : Prop :=
  (zC M ≤ zC M' ∧ zS M ≤ zS M' ∧ (zX M' = 0 → zX M = 0)) ∧
  vx_Met l I.1 [wK I] (rmK d (zC M' - zC M) (zS M' - zS M)) (va_Pc (as.map (gv ad)) (fun U => Wc s0 D cy ad U M)) (QC s0 D cy ad res M') (XC s0 D cy ad res M') (zC M' - zC M) (zS M' - zS M) (AF s0)
end LVA
theorem gv_int {ad : Nat → Nat} {x : Int32} : gv ad (.int x) = .int x := rfl
theorem gv_cat {ad : Nat → Nat} (v : Value) : (gv ad v).category = v.category := by cases v <;> rfl
/-- a word of the tables, at any frame -/
theorem gw {l : Launch} {s0 s : State} {b L : Nat} {xs : Nat → Int32} {D : va_G} {cy : Nat → ClassId} {ad : Nat → Nat} (G : GG l s0 b L xs D cy ad) (hW : s0.WarmedH s.vm) {w : Cond} (i : Nat) (hi : lw_tbl[i]? = some w) (hg : goodWord w = true) (args : Array Value) : w.before args s = true :=
  word_at hW (good_of_word hg) (G.2.1 w (List.mem_of_getElem? hi))
theorem gK {l : Launch} {s0 s : State} {b L : Nat} {xs : Nat → Int32} {D : va_G} {cy : Nat → ClassId} {ad : Nat → Nat} (G : GG l s0 b L xs D cy ad) (hW : s0.WarmedH s.vm) : va_K D clX (tyA cy) s := va_K.moved hW.alike G.2.2.1
theorem gD {l : Launch} {s0 : State} {b L : Nat} {xs : Nat → Int32} {D : va_G} {cy : Nat → ClassId} {ad : Nat → Nat} (G : GG l s0 b L xs D cy ad) {M : Mm} (hn : zN M ≤ 100000) : va_D (AF s0) (pool cy ad M) := by
  have hz := G.2.2.2.1
  refine ⟨fun i j p q hi hj h => ?_, fun k q hk => ?_⟩
  · have h1 : i < zN M := by have := (List.getElem?_eq_some_iff.mp hi).1; rw [pool_len] at this; exact this
    have h2 : j < zN M := by have := (List.getElem?_eq_some_iff.mp hj).1; rw [pool_len] at this; exact this
    rw [pool_at h1] at hi
    rw [pool_at h2] at hj
    cases hi; cases hj
    have h : ad i = ad j := h
    rw [hz i (by omega), hz j (by omega)] at h
    omega
  · have h1 : k < zN M := by have := (List.getElem?_eq_some_iff.mp hk).1; rw [pool_len] at this; exact this
    rw [pool_at h1] at hk
    cases hk
    show s0.heap.size ≤ ad k
    rw [hz k (by omega)]
    omega
