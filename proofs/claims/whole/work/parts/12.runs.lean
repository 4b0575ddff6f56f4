/-! the layout behind the two constructors: kinds, lengths, final references; runs that keep it -/
def NN : Nat := 276
def SHt : List Nat := [9, 7, 11, 6, 12, 12, 12, 12, 5, 12, 12, 12, 0, 13, 12, 12, 13, 12, 2, 8, 12, 12, 12, 12, 12, 12, 12, 12, 3, 12, 4, 12, 12, 12, 4, 12, 12, 12, 3, 12, 4, 12, 12, 12, 4, 12, 12, 12, 8, 12, 12, 12, 12, 12, 12, 12, 8, 12, 12, 12, 12, 12, 12, 12, 1, 12, 12, 12, 1, 12, 12, 12, 4, 12, 12, 12, 10, 12, 12, 12, 12, 12, 12, 14, 12, 12, 12, 12, 12, 12, 12, 12, 12, 12, 12, 12, 12, 12, 12, 12, 12, 12, 12, 12, 12, 12, 12, 12, 12, 12, 12, 12, 12, 12, 12, 12, 12, 14, 12, 12, 14, 12, 12, 12, 12, 12, 12, 14, 12, 12, 12, 12, 12, 12, 12, 14, 12, 12, 12, 12, 12, 12, 12, 12, 12, 12, 12, 12, 12, 12, 12, 12, 12, 12, 12, 12, 12, 12, 12, 12, 12, 12, 12, 12, 12, 12, 12, 12, 12, 12, 12, 12, 12, 12, 12, 12, 12, 12, 12, 12, 12, 12, 12, 12, 12, 12, 12, 12, 12, 12, 12, 12, 12, 12, 12, 12, 12, 12, 14, 12, 12, 12, 12, 12, 12, 12, 12, 12, 12, 12, 12, 12, 12, 12, 12, 12, 12, 12, 12, 14, 12, 12, 12, 12, 14, 12, 12, 12, 12, 12, 12, 12, 12, 12, 12, 12, 12, 12, 12, 12, 12, 12, 12, 12, 12, 12, 12, 12, 12, 12, 12, 12, 12, 12, 12, 12, 12, 12, 12, 12, 12, 12, 12, 12, 12, 12, 12, 12, 12, 12, 12, 12, 12, 12, 12, 13]
def LNt : List Nat := [0, 0, 600, 0, 200, 200, 200, 200, 0, 7860, 24759, 3, 0, 3, 8, 1000, 1000, 2940, 0, 0, 60, 60, 60, 60, 48, 48, 48, 393, 0, 48, 0, 150, 150, 7, 0, 150, 150, 7, 0, 48, 0, 150, 150, 7, 0, 150, 150, 7, 0, 60, 60, 60, 60, 48, 48, 48, 0, 60, 60, 60, 60, 48, 48, 48, 0, 6, 6, 6, 0, 6, 6, 6, 0, 150, 150, 7, 0, 600, 3, 10, 10, 48, 48, 30, 3, 3, 3, 3, 3, 3, 3, 3, 3, 3, 3, 3, 3, 3, 3, 3, 3, 3, 3, 3, 3, 3, 3, 3, 3, 3, 3, 3, 3, 3, 2, 160, 7, 2, 320, 320, 6, 3, 3, 3, 3, 3, 3, 6, 3, 3, 3, 3, 3, 3, 320, 60, 3, 3, 3, 3, 3, 3, 3, 3, 3, 3, 3, 3, 3, 3, 3, 3, 3, 3, 3, 3, 3, 3, 3, 3, 3, 3, 3, 3, 3, 3, 3, 3, 3, 3, 3, 3, 3, 3, 3, 3, 3, 3, 3, 3, 3, 3, 3, 3, 3, 3, 3, 3, 3, 3, 3, 3, 3, 3, 3, 3, 415, 415, 20, 415, 415, 415, 415, 415, 415, 415, 415, 415, 415, 415, 415, 415, 415, 415, 415, 415, 415, 415, 415, 3, 8716, 8716, 8716, 48, 49, 1000, 1000, 1000, 1000, 1000, 1000, 1000, 1000, 1000, 1000, 1000, 1000, 1000, 1000, 1000, 1000, 1000, 1000, 1000, 1000, 1000, 1000, 1000, 1000, 1000, 1000, 1000, 1000, 1000, 1000, 1000, 1000, 1000, 1000, 1000, 1000, 1000, 1000, 1000, 1000, 1000, 1000, 1000, 1000, 1000, 1000, 1000, 1000, 1000, 6, 1]
def SH (a : Nat) : Nat := SHt.getD a 99
def LN (a : Nat) : Nat := LNt.getD a 0
/-- final references of objects -/
def FRt : List (Nat × Nat × Nat) := [(0, 0, 1), (0, 1, 3), (0, 2, 8), (0, 3, 12), (0, 4, 18), (1, 0, 2), (3, 0, 4), (3, 1, 5), (3, 2, 6), (3, 3, 7), (8, 0, 9), (8, 1, 10), (8, 2, 11), (12, 0, 13), (12, 1, 14), (12, 2, 15), (12, 3, 16), (12, 4, 17), (18, 0, 19), (18, 1, 27), (19, 0, 20), (19, 1, 21), (19, 2, 22), (19, 3, 23), (19, 4, 24), (19, 5, 25), (19, 6, 26), (28, 0, 29), (30, 0, 31), (30, 1, 32), (30, 2, 33), (34, 0, 35), (34, 1, 36), (34, 2, 37), (38, 0, 39), (40, 0, 41), (40, 1, 42), (40, 2, 43), (44, 0, 45), (44, 1, 46), (44, 2, 47), (48, 0, 49), (48, 1, 50), (48, 2, 51), (48, 3, 52), (48, 4, 53), (48, 5, 54), (48, 6, 55), (56, 0, 57), (56, 1, 58), (56, 2, 59), (56, 3, 60), (56, 4, 61), (56, 5, 62), (56, 6, 63), (64, 0, 65), (64, 1, 66), (64, 2, 67), (68, 0, 69), (68, 1, 70), (68, 2, 71), (72, 0, 73), (72, 1, 74), (72, 2, 75), (76, 9, 77), (76, 10, 78), (76, 11, 79), (76, 12, 80), (76, 13, 81), (76, 14, 82), (76, 15, 83), (76, 16, 114), (76, 17, 115), (76, 18, 116), (76, 19, 117), (76, 20, 120), (76, 21, 127), (76, 22, 134), (76, 24, 135), (76, 26, 196), (76, 27, 197), (76, 28, 198), (76, 29, 219), (76, 37, 223), (76, 40, 224), (76, 41, 274)]
def FR (a k : Nat) : Option Nat := if SH a = 14 then (if k < LN a then some (a + 1 + k) else none) else (FRt.find? (fun q => q.1 == a && q.2.1 == k)).map (fun q => q.2.2)
/-- references that change, by the kind of what they hold -/
def DRt : List (Nat × Nat × Nat) := [(0, 5, 3), (0, 6, 3), (0, 7, 8), (0, 8, 8), (0, 9, 1), (0, 10, 1), (0, 11, 4), (28, 1, 4), (28, 2, 4), (38, 1, 4), (38, 2, 4)]
def DR (a k : Nat) : Option Nat := (DRt.find? (fun q => q.1 == a && q.2.1 == k)).map (fun q => q.2.2)
def Lay (P : Nat → Prop) (M : Mm) : Prop := (∀ a, P a → a < zN M ∧ sh M a = SH a ∧ ln M a = LN a) ∧ (∀ a k q, P a → FR a k = some q → mr M a k = some q ∧ P q) ∧ (∀ a k t, P a → DR a k = some t → ∃ q, mr M a k = some q ∧ P q ∧ SH q = t)
def rd (M : Mm) (a k : Nat) : Nat := (mr M a k).getD 0
theorem Lay.sI {P : Nat → Prop} {M : Mm} {a k : Nat} {x : Int32} (h : Lay P M) : Lay P (sI M a k x) := h
theorem Lay.sL {P : Nat → Prop} {M : Mm} {a k : Nat} {x : Int64} (h : Lay P M) : Lay P (sL M a k x) := h
theorem Lay.sA {P : Nat → Prop} {M : Mm} {a : Nat} {f : Nat → Int32} (h : Lay P M) : Lay P (sA M a f) := h
theorem Lay.sX {P : Nat → Prop} {M : Mm} (h : Lay P M) : Lay P (sX M) := h
theorem Lay.sR {P : Nat → Prop} {M : Mm} {a k q t : Nat} (h : Lay P M) (hq : P q) (hs : SH q = t) (hd : DR a k = some t) (hf : FR a k = none) : Lay P (sR M a k (some q)) := by
  refine ⟨h.1, fun a' k' q' ha' hf' => ?_, fun a' k' t' ha' hd' => ?_⟩
  · have h9 := h.2.1 a' k' q' ha' hf'
    refine ⟨?_, h9.2⟩
    show u2 (mr M) a k (some q) a' k' = some q'
    by_cases e1 : a' = a
    · subst e1
      rw [u2_same]
      by_cases e2 : k' = k
      · subst e2; rw [hf] at hf'; cases hf'
      · rw [u1_ne e2]; exact h9.1
    · rw [u2_ne e1]; exact h9.1
  · show ∃ q', u2 (mr M) a k (some q) a' k' = some q' ∧ P q' ∧ SH q' = t'
    by_cases e1 : a' = a
    · subst e1
      rw [u2_same]
      by_cases e2 : k' = k
      · subst e2
        rw [hd] at hd'
        cases hd'
        exact ⟨q, u1_same _ _ _, hq, hs⟩
      · rw [u1_ne e2]; exact h.2.2 a' k' t' ha' hd'
    · rw [u2_ne e1]; exact h.2.2 a' k' t' ha' hd'
/-- reading and writing of arrays, none outside -/
def ai (M : Mm) (a n : Nat) (i : Int32) : Option Int32 := if i < 0 ∨ n ≤ i.toNatClampNeg then none else some (mi M a i.toNatClampNeg)
def al (M : Mm) (a n : Nat) (i : Int32) : Option Int64 := if i < 0 ∨ n ≤ i.toNatClampNeg then none else some (ml M a i.toNatClampNeg)
def ar (a n : Nat) (i : Int32) : Option Nat := if i < 0 ∨ n ≤ i.toNatClampNeg then none else some (a + 1 + i.toNatClampNeg)
def ax (xs : Nat → Int32) (n : Nat) (i : Int32) : Option Int32 := if i < 0 ∨ n ≤ i.toNatClampNeg then none else some (xs i.toNatClampNeg)
def wi (M : Mm) (a n : Nat) (i x : Int32) : Option Mm := if i < 0 ∨ n ≤ i.toNatClampNeg then none else some (sI M a i.toNatClampNeg x)
def wl (M : Mm) (a n : Nat) (i : Int32) (x : Int64) : Option Mm := if i < 0 ∨ n ≤ i.toNatClampNeg then none else some (sL M a i.toNatClampNeg x)
/-- a row copied into another -/
def cpy (M : Mm) (a0 n0 : Nat) (sp : Int32) (a n1 : Nat) (dp n : Int32) : Option Mm := if sp < 0 ∨ dp < 0 ∨ n < 0 ∨ n0 < sp.toNatClampNeg + n.toNatClampNeg ∨ n1 < dp.toNatClampNeg + n.toNatClampNeg then none else some (sA M a (va_cpy (mi M a0) (mi M a) sp.toNatClampNeg dp.toNatClampNeg n.toNatClampNeg))
/-- a boolean answer -/
def rB (x : Int32) : Option Int32 := if x = 0 ∨ x = 1 then some x else none
/-- a loop, n turns at most -/
def whl {σ ε : Type} : Nat → (σ → Option (σ ⊕ ε)) → σ → Option ε
  | 0, _, _ => none
  | n + 1, f, s => (f s).bind fun q => match q with | .inl s' => whl n f s' | .inr e => some e
def fu : Nat := 1000000
def mtc {σ ε : Type} (P : σ → Prop) (Q : ε → Prop) (r : σ ⊕ ε) : Prop := match r with | .inl s => P s | .inr e => Q e
theorem whl_run {σ ε : Type} {f : σ → Option (σ ⊕ ε)} {P : σ → Prop} {Q : ε → Prop} (h : ∀ s r, f s = some r → mtc P Q r → P s) : ∀ (n : Nat) (s : σ) {e : ε}, whl n f s = some e → Q e → P s := by
  intro n
  induction n with
  | zero => intro s e h9 _; cases h9
  | succ n ih =>
    intro s e h9 hq
    unfold whl at h9
    cases hf : f s with
    | none => rw [hf] at h9; cases h9
    | some r =>
      rw [hf] at h9
      cases r with
      | inl s' => exact h s _ hf (ih s' h9 hq)
      | inr e' =>
        have h9 : some e' = some e := h9
        cases h9
        exact h s _ hf hq
theorem bso {α β : Type} {a : Option α} {f : α → Option β} {r : β} (h : a.bind f = some r) : ∃ x, a = some x ∧ f x = some r := Option.bind_eq_some_iff.mp h
/-- the three exceptions by number -/
def X3 (e : Nat) : String := match e with | 0 => "java/lang/IndexOutOfBoundsException" | 1 => "java/util/NoSuchElementException" | _ => "java/lang/IllegalArgumentException"
section NR
variable {l : Launch} {s0 : State} {b L : Nat} {xs : Nat → Int32} {D : va_G} {cy : Nat → ClassId} {ad : Nat → Nat} {P : Nat → Prop} {d : Nat} {I : MI} {pc : Nat} {lo st : List Value} {M M' : Mm} {res : Rs}
def Rn (l : Launch) (s0 : State) (D : va_G) (cy : Nat → ClassId) (ad : Nat → Nat) (P : Nat → Prop) (d : Nat) (I : MI) (pc : Nat) (lo st : List Value) (M : Mm) (res : Rs) (M' : Mm) : Prop := Lay P M → Run l s0 D cy ad d I pc lo st M res M' ∧ Lay P M'
def Cl (l : Launch) (s0 : State) (D : va_G) (cy : Nat → ClassId) (ad : Nat → Nat) (P : Nat → Prop) (d : Nat) (I : MI) (as : List Value) (M : Mm) (res : Rs) (M' : Mm) : Prop := Lay P M → Cal l s0 D cy ad d I as M res M' ∧ Lay P M'
theorem n_keep (ks : List Nat) {lo2 : List Value} (hk : keep ks lo = lo2) (k : Rn l s0 D cy ad P d I pc lo2 st M res M') : Rn l s0 D cy ad P d I pc lo st M res M' := fun hL => ⟨r_keep ks hk (k hL).1, (k hL).2⟩
theorem n_msk (bs : List Bool) {lo2 : List Value} (hk : msk bs lo = lo2) (hb : lo2.length = lo.length) (k : Rn l s0 D cy ad P d I pc lo2 st M res M') : Rn l s0 D cy ad P d I pc lo st M res M' := fun hL => ⟨r_msk bs hk hb (k hL).1, (k hL).2⟩
theorem n_pc {pc' : Nat} (h : pc = pc') (k : Rn l s0 D cy ad P d I pc' lo st M res M') : Rn l s0 D cy ad P d I pc lo st M res M' := fun hL => ⟨r_pc h (k hL).1, (k hL).2⟩
theorem n_iadd {x y : Int32}  (hd : decode I.2.1 pc = .ok (.iadd, 1)) (k : Rn l s0 D cy ad P d I (pc + 1) lo (.int (x + y) :: st) M res M') : Rn l s0 D cy ad P d I pc lo (.int y :: .int x :: st) M res M' := fun hL => ⟨r_iadd hd (k hL).1, (k hL).2⟩
theorem n_isub {x y : Int32}  (hd : decode I.2.1 pc = .ok (.isub, 1)) (k : Rn l s0 D cy ad P d I (pc + 1) lo (.int (x - y) :: st) M res M') : Rn l s0 D cy ad P d I pc lo (.int y :: .int x :: st) M res M' := fun hL => ⟨r_isub hd (k hL).1, (k hL).2⟩
theorem n_imul {x y : Int32}  (hd : decode I.2.1 pc = .ok (.imul, 1)) (k : Rn l s0 D cy ad P d I (pc + 1) lo (.int (x * y) :: st) M res M') : Rn l s0 D cy ad P d I pc lo (.int y :: .int x :: st) M res M' := fun hL => ⟨r_imul hd (k hL).1, (k hL).2⟩
theorem n_iand {x y : Int32}  (hd : decode I.2.1 pc = .ok (.iand, 1)) (k : Rn l s0 D cy ad P d I (pc + 1) lo (.int (x &&& y) :: st) M res M') : Rn l s0 D cy ad P d I pc lo (.int y :: .int x :: st) M res M' := fun hL => ⟨r_iand hd (k hL).1, (k hL).2⟩
theorem n_ior {x y : Int32}  (hd : decode I.2.1 pc = .ok (.ior, 1)) (k : Rn l s0 D cy ad P d I (pc + 1) lo (.int (x ||| y) :: st) M res M') : Rn l s0 D cy ad P d I pc lo (.int y :: .int x :: st) M res M' := fun hL => ⟨r_ior hd (k hL).1, (k hL).2⟩
theorem n_ixor {x y : Int32}  (hd : decode I.2.1 pc = .ok (.ixor, 1)) (k : Rn l s0 D cy ad P d I (pc + 1) lo (.int (x ^^^ y) :: st) M res M') : Rn l s0 D cy ad P d I pc lo (.int y :: .int x :: st) M res M' := fun hL => ⟨r_ixor hd (k hL).1, (k hL).2⟩
theorem n_ishl {x y : Int32}  (hd : decode I.2.1 pc = .ok (.ishl, 1)) (k : Rn l s0 D cy ad P d I (pc + 1) lo (.int (x <<< (y &&& 31)) :: st) M res M') : Rn l s0 D cy ad P d I pc lo (.int y :: .int x :: st) M res M' := fun hL => ⟨r_ishl hd (k hL).1, (k hL).2⟩
theorem n_ishr {x y : Int32}  (hd : decode I.2.1 pc = .ok (.ishr, 1)) (k : Rn l s0 D cy ad P d I (pc + 1) lo (.int (x >>> (y &&& 31)) :: st) M res M') : Rn l s0 D cy ad P d I pc lo (.int y :: .int x :: st) M res M' := fun hL => ⟨r_ishr hd (k hL).1, (k hL).2⟩
theorem n_idiv {x y : Int32} (hne : ¬ y = 0) (hd : decode I.2.1 pc = .ok (.idiv, 1)) (k : Rn l s0 D cy ad P d I (pc + 1) lo (.int (x / y) :: st) M res M') : Rn l s0 D cy ad P d I pc lo (.int y :: .int x :: st) M res M' := fun hL => ⟨r_idiv hne hd (k hL).1, (k hL).2⟩
theorem n_irem {x y : Int32} (hne : ¬ y = 0) (hd : decode I.2.1 pc = .ok (.irem, 1)) (k : Rn l s0 D cy ad P d I (pc + 1) lo (.int (x - x / y * y) :: st) M res M') : Rn l s0 D cy ad P d I pc lo (.int y :: .int x :: st) M res M' := fun hL => ⟨r_irem hne hd (k hL).1, (k hL).2⟩
theorem n_ineg {x : Int32}  (hd : decode I.2.1 pc = .ok (.ineg, 1)) (k : Rn l s0 D cy ad P d I (pc + 1) lo (.int (-x) :: st) M res M') : Rn l s0 D cy ad P d I pc lo (.int x :: st) M res M' := fun hL => ⟨r_ineg hd (k hL).1, (k hL).2⟩
theorem n_iushr {x y : Int32}  (hd : decode I.2.1 pc = .ok (.iushr, 1)) (k : Rn l s0 D cy ad P d I (pc + 1) lo (.int (x.toUInt32 >>> (y.toUInt32 &&& Int32.toUInt32 31)).toInt32 :: st) M res M') : Rn l s0 D cy ad P d I pc lo (.int y :: .int x :: st) M res M' := fun hL => ⟨r_iushr hd (k hL).1, (k hL).2⟩
theorem n_ladd {x y : Int64}  (hd : decode I.2.1 pc = .ok (.ladd, 1)) (k : Rn l s0 D cy ad P d I (pc + 1) lo (.long (x + y) :: st) M res M') : Rn l s0 D cy ad P d I pc lo (.long y :: .long x :: st) M res M' := fun hL => ⟨r_ladd hd (k hL).1, (k hL).2⟩
theorem n_lsub {x y : Int64}  (hd : decode I.2.1 pc = .ok (.lsub, 1)) (k : Rn l s0 D cy ad P d I (pc + 1) lo (.long (x - y) :: st) M res M') : Rn l s0 D cy ad P d I pc lo (.long y :: .long x :: st) M res M' := fun hL => ⟨r_lsub hd (k hL).1, (k hL).2⟩
theorem n_lmul {x y : Int64}  (hd : decode I.2.1 pc = .ok (.lmul, 1)) (k : Rn l s0 D cy ad P d I (pc + 1) lo (.long (x * y) :: st) M res M') : Rn l s0 D cy ad P d I pc lo (.long y :: .long x :: st) M res M' := fun hL => ⟨r_lmul hd (k hL).1, (k hL).2⟩
theorem n_land {x y : Int64}  (hd : decode I.2.1 pc = .ok (.land, 1)) (k : Rn l s0 D cy ad P d I (pc + 1) lo (.long (x &&& y) :: st) M res M') : Rn l s0 D cy ad P d I pc lo (.long y :: .long x :: st) M res M' := fun hL => ⟨r_land hd (k hL).1, (k hL).2⟩
theorem n_lor {x y : Int64}  (hd : decode I.2.1 pc = .ok (.lor, 1)) (k : Rn l s0 D cy ad P d I (pc + 1) lo (.long (x ||| y) :: st) M res M') : Rn l s0 D cy ad P d I pc lo (.long y :: .long x :: st) M res M' := fun hL => ⟨r_lor hd (k hL).1, (k hL).2⟩
theorem n_lshl {x : Int64} {y : Int32}  (hd : decode I.2.1 pc = .ok (.lshl, 1)) (k : Rn l s0 D cy ad P d I (pc + 1) lo (.long (x <<< (y.toInt64 &&& 63)) :: st) M res M') : Rn l s0 D cy ad P d I pc lo (.int y :: .long x :: st) M res M' := fun hL => ⟨r_lshl hd (k hL).1, (k hL).2⟩
theorem n_lshr {x : Int64} {y : Int32}  (hd : decode I.2.1 pc = .ok (.lshr, 1)) (k : Rn l s0 D cy ad P d I (pc + 1) lo (.long (x >>> (y.toInt64 &&& 63)) :: st) M res M') : Rn l s0 D cy ad P d I pc lo (.int y :: .long x :: st) M res M' := fun hL => ⟨r_lshr hd (k hL).1, (k hL).2⟩
theorem n_lushr {x : Int64} {y : Int32}  (hd : decode I.2.1 pc = .ok (.lushr, 1)) (k : Rn l s0 D cy ad P d I (pc + 1) lo (.long (x.toUInt64 >>> (y.toInt64.toUInt64 &&& Int64.toUInt64 63)).toInt64 :: st) M res M') : Rn l s0 D cy ad P d I pc lo (.int y :: .long x :: st) M res M' := fun hL => ⟨r_lushr hd (k hL).1, (k hL).2⟩
theorem n_i2l {x : Int32}  (hd : decode I.2.1 pc = .ok (.i2l, 1)) (k : Rn l s0 D cy ad P d I (pc + 1) lo (.long x.toInt64 :: st) M res M') : Rn l s0 D cy ad P d I pc lo (.int x :: st) M res M' := fun hL => ⟨r_i2l hd (k hL).1, (k hL).2⟩
theorem n_l2i {x : Int64}  (hd : decode I.2.1 pc = .ok (.l2i, 1)) (k : Rn l s0 D cy ad P d I (pc + 1) lo (.int x.toInt32 :: st) M res M') : Rn l s0 D cy ad P d I pc lo (.long x :: st) M res M' := fun hL => ⟨r_l2i hd (k hL).1, (k hL).2⟩
theorem n_i2b {x : Int32}  (hd : decode I.2.1 pc = .ok (.i2b, 1)) (k : Rn l s0 D cy ad P d I (pc + 1) lo (.int x.toInt8.toInt32 :: st) M res M') : Rn l s0 D cy ad P d I pc lo (.int x :: st) M res M' := fun hL => ⟨r_i2b hd (k hL).1, (k hL).2⟩
theorem n_lcmp {x y : Int64}  (hd : decode I.2.1 pc = .ok (.lcmp, 1)) (k : Rn l s0 D cy ad P d I (pc + 1) lo (.int (lg_cmp x y) :: st) M res M') : Rn l s0 D cy ad P d I pc lo (.long y :: .long x :: st) M res M' := fun hL => ⟨r_lcmp hd (k hL).1, (k hL).2⟩
theorem n_iconst {n : Int} {v : Int32} (hv : Int32.ofInt n = v) (hd : decode I.2.1 pc = .ok (.iconst n, 1)) (k : Rn l s0 D cy ad P d I (pc + 1) lo (.int v :: st) M res M') : Rn l s0 D cy ad P d I pc lo (st) M res M' := fun hL => ⟨r_iconst hv hd (k hL).1, (k hL).2⟩
theorem n_bipush {n : Int} {v : Int32} (hv : (Int8.ofInt n).toInt32 = v) (hd : decode I.2.1 pc = .ok (.bipush n, 2)) (k : Rn l s0 D cy ad P d I (pc + 2) lo (.int v :: st) M res M') : Rn l s0 D cy ad P d I pc lo (st) M res M' := fun hL => ⟨r_bipush hv hd (k hL).1, (k hL).2⟩
theorem n_sipush {n : Int} {v : Int32} (hv : (Int16.ofInt n).toInt32 = v) (hd : decode I.2.1 pc = .ok (.sipush n, 3)) (k : Rn l s0 D cy ad P d I (pc + 3) lo (.int v :: st) M res M') : Rn l s0 D cy ad P d I pc lo (st) M res M' := fun hL => ⟨r_sipush hv hd (k hL).1, (k hL).2⟩
theorem n_lconst {n : Fin 2} {v : Int64} (hv : Int64.ofNat (n : Nat) = v) (hd : decode I.2.1 pc = .ok (.lconst n, 1)) (k : Rn l s0 D cy ad P d I (pc + 1) lo (.long v :: st) M res M') : Rn l s0 D cy ad P d I pc lo (st) M res M' := fun hL => ⟨r_lconst hv hd (k hL).1, (k hL).2⟩
theorem n_dup {v : Value} (hv : v.category = 1) (hd : decode I.2.1 pc = .ok (.dup, 1)) (k : Rn l s0 D cy ad P d I (pc + 1) lo (v :: v :: st) M res M') : Rn l s0 D cy ad P d I pc lo (v :: st) M res M' := fun hL => ⟨r_dup hv hd (k hL).1, (k hL).2⟩
theorem n_pop {v : Value} (hv : v.category = 1) (hd : decode I.2.1 pc = .ok (.pop, 1)) (k : Rn l s0 D cy ad P d I (pc + 1) lo st M res M') : Rn l s0 D cy ad P d I pc lo (v :: st) M res M' := fun hL => ⟨r_pop hv hd (k hL).1, (k hL).2⟩
theorem n_dup2 {v w : Value} (hv : v.category = 1) (hw : w.category = 1) (hd : decode I.2.1 pc = .ok (.dup2, 1)) (k : Rn l s0 D cy ad P d I (pc + 1) lo (v :: w :: v :: w :: st) M res M') : Rn l s0 D cy ad P d I pc lo (v :: w :: st) M res M' := fun hL => ⟨r_dup2 hv hw hd (k hL).1, (k hL).2⟩
theorem n_iload_n {n : Fin 4} {x : Int32} (hd : decode I.2.1 pc = .ok (.iload_n n, 1)) (hx : lo[(n : Nat)]? = some (.int x)) (k : Rn l s0 D cy ad P d I (pc + 1) lo (.int x :: st) M res M') : Rn l s0 D cy ad P d I pc lo st M res M' := fun hL => ⟨r_iload_n hd hx (k hL).1, (k hL).2⟩
theorem n_iload {n : Nat} {x : Int32} (hd : decode I.2.1 pc = .ok (.iload n, 2)) (hx : lo[n]? = some (.int x)) (k : Rn l s0 D cy ad P d I (pc + 2) lo (.int x :: st) M res M') : Rn l s0 D cy ad P d I pc lo st M res M' := fun hL => ⟨r_iload hd hx (k hL).1, (k hL).2⟩
theorem n_lload_n {n : Fin 4} {x : Int64} (hd : decode I.2.1 pc = .ok (.lload_n n, 1)) (hx : lo[(n : Nat)]? = some (.long x)) (k : Rn l s0 D cy ad P d I (pc + 1) lo (.long x :: st) M res M') : Rn l s0 D cy ad P d I pc lo st M res M' := fun hL => ⟨r_lload_n hd hx (k hL).1, (k hL).2⟩
theorem n_lload {n : Nat} {x : Int64} (hd : decode I.2.1 pc = .ok (.lload n, 2)) (hx : lo[n]? = some (.long x)) (k : Rn l s0 D cy ad P d I (pc + 2) lo (.long x :: st) M res M') : Rn l s0 D cy ad P d I pc lo st M res M' := fun hL => ⟨r_lload hd hx (k hL).1, (k hL).2⟩
theorem n_aload_n {n : Fin 4} {x : Nat} (hd : decode I.2.1 pc = .ok (.aload_n n, 1)) (hx : lo[(n : Nat)]? = some (.ref x)) (k : Rn l s0 D cy ad P d I (pc + 1) lo (.ref x :: st) M res M') : Rn l s0 D cy ad P d I pc lo st M res M' := fun hL => ⟨r_aload_n hd hx (k hL).1, (k hL).2⟩
theorem n_aload {n : Nat} {x : Nat} (hd : decode I.2.1 pc = .ok (.aload n, 2)) (hx : lo[n]? = some (.ref x)) (k : Rn l s0 D cy ad P d I (pc + 2) lo (.ref x :: st) M res M') : Rn l s0 D cy ad P d I pc lo st M res M' := fun hL => ⟨r_aload hd hx (k hL).1, (k hL).2⟩
theorem n_istore_n {n : Fin 4} {x : Int32} {lo2 : List Value} (hd : decode I.2.1 pc = .ok (.istore_n n, 1)) (hi : (n : Nat) < lo.length) (h2 : st1 lo n (.int x) = lo2) (k : Rn l s0 D cy ad P d I (pc + 1) lo2 st M res M') : Rn l s0 D cy ad P d I pc lo (.int x :: st) M res M' := fun hL => ⟨r_istore_n hd hi h2 (k hL).1, (k hL).2⟩
theorem n_istore {n : Nat} {x : Int32} {lo2 : List Value} (hd : decode I.2.1 pc = .ok (.istore n, 2)) (hi : n < lo.length) (h2 : st1 lo n (.int x) = lo2) (k : Rn l s0 D cy ad P d I (pc + 2) lo2 st M res M') : Rn l s0 D cy ad P d I pc lo (.int x :: st) M res M' := fun hL => ⟨r_istore hd hi h2 (k hL).1, (k hL).2⟩
theorem n_astore_n {n : Fin 4} {x : Nat} {lo2 : List Value} (hd : decode I.2.1 pc = .ok (.astore_n n, 1)) (hi : (n : Nat) < lo.length) (h2 : st1 lo n (.ref x) = lo2) (k : Rn l s0 D cy ad P d I (pc + 1) lo2 st M res M') : Rn l s0 D cy ad P d I pc lo (.ref x :: st) M res M' := fun hL => ⟨r_astore_n hd hi h2 (k hL).1, (k hL).2⟩
theorem n_astore {n : Nat} {x : Nat} {lo2 : List Value} (hd : decode I.2.1 pc = .ok (.astore n, 2)) (hi : n < lo.length) (h2 : st1 lo n (.ref x) = lo2) (k : Rn l s0 D cy ad P d I (pc + 2) lo2 st M res M') : Rn l s0 D cy ad P d I pc lo (.ref x :: st) M res M' := fun hL => ⟨r_astore hd hi h2 (k hL).1, (k hL).2⟩
theorem n_lstore_n {n : Fin 4} {x : Int64} {lo2 : List Value} (hd : decode I.2.1 pc = .ok (.lstore_n n, 1)) (hi : (n : Nat) + 1 < lo.length) (h2 : st2 lo n (.long x) = lo2) (k : Rn l s0 D cy ad P d I (pc + 1) lo2 st M res M') : Rn l s0 D cy ad P d I pc lo (.long x :: st) M res M' := fun hL => ⟨r_lstore_n hd hi h2 (k hL).1, (k hL).2⟩
theorem n_lstore {n : Nat} {x : Int64} {lo2 : List Value} (hd : decode I.2.1 pc = .ok (.lstore n, 2)) (hi : n + 1 < lo.length) (h2 : st2 lo n (.long x) = lo2) (k : Rn l s0 D cy ad P d I (pc + 2) lo2 st M res M') : Rn l s0 D cy ad P d I pc lo (.long x :: st) M res M' := fun hL => ⟨r_lstore hd hi h2 (k hL).1, (k hL).2⟩
theorem n_iinc {n : Nat} {j : Int} {x v : Int32} {lo2 : List Value} (hd : decode I.2.1 pc = .ok (.iinc n j, 3)) (hx : lo[n]? = some (.int x)) (hv : x + Int32.ofInt j = v) (h2 : st1 lo n (.int v) = lo2) (k : Rn l s0 D cy ad P d I (pc + 3) lo2 st M res M') : Rn l s0 D cy ad P d I pc lo st M res M' := fun hL => ⟨r_iinc hd hx hv h2 (k hL).1, (k hL).2⟩
theorem n_iincW {n : Nat} {j : Int} {x v : Int32} {lo2 : List Value} (hd : decode I.2.1 pc = .ok (.iinc n j, 6)) (hx : lo[n]? = some (.int x)) (hv : x + Int32.ofInt j = v) (h2 : st1 lo n (.int v) = lo2) (k : Rn l s0 D cy ad P d I (pc + 6) lo2 st M res M') : Rn l s0 D cy ad P d I pc lo st M res M' := fun hL => ⟨r_iincW hd hx hv h2 (k hL).1, (k hL).2⟩
theorem n_goto {off : Int} {tgt : Nat} (hd : decode I.2.1 pc = .ok (.goto off, 3)) (ht : (pc : Int) + off = (tgt : Int)) (k : Rn l s0 D cy ad P d I tgt lo st M res M') : Rn l s0 D cy ad P d I pc lo st M res M' := fun hL => ⟨r_goto hd ht (k hL).1, (k hL).2⟩
theorem n_icmp_eq {x y : Int32} {off : Int} {tgt : Nat} (hd : decode I.2.1 pc = .ok (.if_icmp .eq off, 3)) (ht : (pc : Int) + off = (tgt : Int)) (kt : (x = y) → Rn l s0 D cy ad P d I tgt lo st M res M') (kf : ¬ (x = y) → Rn l s0 D cy ad P d I (pc + 3) lo st M res M') : Rn l s0 D cy ad P d I pc lo (.int y :: .int x :: st) M res M' := by
  intro hL
  refine ⟨r_icmp_eq hd ht (fun h => (kt h hL).1) (fun h => (kf h hL).1), ?_⟩
  by_cases hc9 : (x = y)
  · exact (kt hc9 hL).2
  · exact (kf hc9 hL).2
theorem n_if_eq {x : Int32} {off : Int} {tgt : Nat} (hd : decode I.2.1 pc = .ok (.ifCond .eq off, 3)) (ht : (pc : Int) + off = (tgt : Int)) (kt : (x = 0) → Rn l s0 D cy ad P d I tgt lo st M res M') (kf : ¬ (x = 0) → Rn l s0 D cy ad P d I (pc + 3) lo st M res M') : Rn l s0 D cy ad P d I pc lo (.int x :: st) M res M' := by
  intro hL
  refine ⟨r_if_eq hd ht (fun h => (kt h hL).1) (fun h => (kf h hL).1), ?_⟩
  by_cases hc9 : (x = 0)
  · exact (kt hc9 hL).2
  · exact (kf hc9 hL).2
theorem n_icmp_ne {x y : Int32} {off : Int} {tgt : Nat} (hd : decode I.2.1 pc = .ok (.if_icmp .ne off, 3)) (ht : (pc : Int) + off = (tgt : Int)) (kt : ¬ x = y → Rn l s0 D cy ad P d I tgt lo st M res M') (kf : x = y → Rn l s0 D cy ad P d I (pc + 3) lo st M res M') : Rn l s0 D cy ad P d I pc lo (.int y :: .int x :: st) M res M' := by
  intro hL
  refine ⟨r_icmp_ne hd ht (fun h => (kt h hL).1) (fun h => (kf h hL).1), ?_⟩
  by_cases hc9 : x = y
  · exact (kf hc9 hL).2
  · exact (kt hc9 hL).2
theorem n_if_ne {x : Int32} {off : Int} {tgt : Nat} (hd : decode I.2.1 pc = .ok (.ifCond .ne off, 3)) (ht : (pc : Int) + off = (tgt : Int)) (kt : ¬ x = 0 → Rn l s0 D cy ad P d I tgt lo st M res M') (kf : x = 0 → Rn l s0 D cy ad P d I (pc + 3) lo st M res M') : Rn l s0 D cy ad P d I pc lo (.int x :: st) M res M' := by
  intro hL
  refine ⟨r_if_ne hd ht (fun h => (kt h hL).1) (fun h => (kf h hL).1), ?_⟩
  by_cases hc9 : x = 0
  · exact (kf hc9 hL).2
  · exact (kt hc9 hL).2
theorem n_icmp_lt {x y : Int32} {off : Int} {tgt : Nat} (hd : decode I.2.1 pc = .ok (.if_icmp .lt off, 3)) (ht : (pc : Int) + off = (tgt : Int)) (kt : (x < y) → Rn l s0 D cy ad P d I tgt lo st M res M') (kf : ¬ (x < y) → Rn l s0 D cy ad P d I (pc + 3) lo st M res M') : Rn l s0 D cy ad P d I pc lo (.int y :: .int x :: st) M res M' := by
  intro hL
  refine ⟨r_icmp_lt hd ht (fun h => (kt h hL).1) (fun h => (kf h hL).1), ?_⟩
  by_cases hc9 : (x < y)
  · exact (kt hc9 hL).2
  · exact (kf hc9 hL).2
theorem n_if_lt {x : Int32} {off : Int} {tgt : Nat} (hd : decode I.2.1 pc = .ok (.ifCond .lt off, 3)) (ht : (pc : Int) + off = (tgt : Int)) (kt : (x < 0) → Rn l s0 D cy ad P d I tgt lo st M res M') (kf : ¬ (x < 0) → Rn l s0 D cy ad P d I (pc + 3) lo st M res M') : Rn l s0 D cy ad P d I pc lo (.int x :: st) M res M' := by
  intro hL
  refine ⟨r_if_lt hd ht (fun h => (kt h hL).1) (fun h => (kf h hL).1), ?_⟩
  by_cases hc9 : (x < 0)
  · exact (kt hc9 hL).2
  · exact (kf hc9 hL).2
theorem n_icmp_ge {x y : Int32} {off : Int} {tgt : Nat} (hd : decode I.2.1 pc = .ok (.if_icmp .ge off, 3)) (ht : (pc : Int) + off = (tgt : Int)) (kt : (y ≤ x) → Rn l s0 D cy ad P d I tgt lo st M res M') (kf : ¬ (y ≤ x) → Rn l s0 D cy ad P d I (pc + 3) lo st M res M') : Rn l s0 D cy ad P d I pc lo (.int y :: .int x :: st) M res M' := by
  intro hL
  refine ⟨r_icmp_ge hd ht (fun h => (kt h hL).1) (fun h => (kf h hL).1), ?_⟩
  by_cases hc9 : (y ≤ x)
  · exact (kt hc9 hL).2
  · exact (kf hc9 hL).2
theorem n_if_ge {x : Int32} {off : Int} {tgt : Nat} (hd : decode I.2.1 pc = .ok (.ifCond .ge off, 3)) (ht : (pc : Int) + off = (tgt : Int)) (kt : (0 ≤ x) → Rn l s0 D cy ad P d I tgt lo st M res M') (kf : ¬ (0 ≤ x) → Rn l s0 D cy ad P d I (pc + 3) lo st M res M') : Rn l s0 D cy ad P d I pc lo (.int x :: st) M res M' := by
  intro hL
  refine ⟨r_if_ge hd ht (fun h => (kt h hL).1) (fun h => (kf h hL).1), ?_⟩
  by_cases hc9 : (0 ≤ x)
  · exact (kt hc9 hL).2
  · exact (kf hc9 hL).2
theorem n_icmp_gt {x y : Int32} {off : Int} {tgt : Nat} (hd : decode I.2.1 pc = .ok (.if_icmp .gt off, 3)) (ht : (pc : Int) + off = (tgt : Int)) (kt : (y < x) → Rn l s0 D cy ad P d I tgt lo st M res M') (kf : ¬ (y < x) → Rn l s0 D cy ad P d I (pc + 3) lo st M res M') : Rn l s0 D cy ad P d I pc lo (.int y :: .int x :: st) M res M' := by
  intro hL
  refine ⟨r_icmp_gt hd ht (fun h => (kt h hL).1) (fun h => (kf h hL).1), ?_⟩
  by_cases hc9 : (y < x)
  · exact (kt hc9 hL).2
  · exact (kf hc9 hL).2
theorem n_if_gt {x : Int32} {off : Int} {tgt : Nat} (hd : decode I.2.1 pc = .ok (.ifCond .gt off, 3)) (ht : (pc : Int) + off = (tgt : Int)) (kt : (0 < x) → Rn l s0 D cy ad P d I tgt lo st M res M') (kf : ¬ (0 < x) → Rn l s0 D cy ad P d I (pc + 3) lo st M res M') : Rn l s0 D cy ad P d I pc lo (.int x :: st) M res M' := by
  intro hL
  refine ⟨r_if_gt hd ht (fun h => (kt h hL).1) (fun h => (kf h hL).1), ?_⟩
  by_cases hc9 : (0 < x)
  · exact (kt hc9 hL).2
  · exact (kf hc9 hL).2
theorem n_icmp_le {x y : Int32} {off : Int} {tgt : Nat} (hd : decode I.2.1 pc = .ok (.if_icmp .le off, 3)) (ht : (pc : Int) + off = (tgt : Int)) (kt : (x ≤ y) → Rn l s0 D cy ad P d I tgt lo st M res M') (kf : ¬ (x ≤ y) → Rn l s0 D cy ad P d I (pc + 3) lo st M res M') : Rn l s0 D cy ad P d I pc lo (.int y :: .int x :: st) M res M' := by
  intro hL
  refine ⟨r_icmp_le hd ht (fun h => (kt h hL).1) (fun h => (kf h hL).1), ?_⟩
  by_cases hc9 : (x ≤ y)
  · exact (kt hc9 hL).2
  · exact (kf hc9 hL).2
theorem n_if_le {x : Int32} {off : Int} {tgt : Nat} (hd : decode I.2.1 pc = .ok (.ifCond .le off, 3)) (ht : (pc : Int) + off = (tgt : Int)) (kt : (x ≤ 0) → Rn l s0 D cy ad P d I tgt lo st M res M') (kf : ¬ (x ≤ 0) → Rn l s0 D cy ad P d I (pc + 3) lo st M res M') : Rn l s0 D cy ad P d I pc lo (.int x :: st) M res M' := by
  intro hL
  refine ⟨r_if_le hd ht (fun h => (kt h hL).1) (fun h => (kf h hL).1), ?_⟩
  by_cases hc9 : (x ≤ 0)
  · exact (kt hc9 hL).2
  · exact (kf hc9 hL).2
theorem n_tabIn {dflt lw hi : Int} {offs : Array Int} {len : Nat} {x : Int32} {off : Int} {tgt : Nat} (hd : decode I.2.1 pc = .ok (.tableswitch dflt lw hi offs, len)) (g1 : ¬ x.toInt < lw) (g2 : ¬ hi < x.toInt) (ho : offs[(x.toInt - lw).toNat]? = some off) (ht : (pc : Int) + off = (tgt : Int)) (k : Rn l s0 D cy ad P d I tgt lo st M res M') : Rn l s0 D cy ad P d I pc lo (.int x :: st) M res M' := fun hL => ⟨r_tabIn hd g1 g2 ho ht (k hL).1, (k hL).2⟩
theorem n_tabOut {dflt lw hi : Int} {offs : Array Int} {len : Nat} {x : Int32} {tgt : Nat} (hd : decode I.2.1 pc = .ok (.tableswitch dflt lw hi offs, len)) (g1 : x.toInt < lw ∨ hi < x.toInt) (ht : (pc : Int) + dflt = (tgt : Int)) (k : Rn l s0 D cy ad P d I tgt lo st M res M') : Rn l s0 D cy ad P d I pc lo (.int x :: st) M res M' := fun hL => ⟨r_tabOut hd g1 ht (k hL).1, (k hL).2⟩
theorem n_look {dflt : Int} {ps : Array (Int × Int)} {len : Nat} {x : Int32} {off : Int} {tgt : Nat} (hd : decode I.2.1 pc = .ok (.lookupswitch dflt ps, len)) (hp : (ps.toList.zip (ps.toList.drop 1)).all (fun (a, next) => a.1 < next.1) = true) (ho : Op.lookupswitch.offset ps.toList dflt x.toInt = off) (ht : (pc : Int) + off = (tgt : Int)) (k : Rn l s0 D cy ad P d I tgt lo st M res M') : Rn l s0 D cy ad P d I pc lo (.int x :: st) M res M' := fun hL => ⟨r_look hd hp ho ht (k hL).1, (k hL).2⟩
theorem n_return  (hd : decode I.2.1 pc = .ok (.return_, 1)) : Rn l s0 D cy ad P d I pc lo ([]) M (.inl (none)) M := fun hL => ⟨r_return hd, hL⟩
theorem n_ireturn {x : Int32} (hd : decode I.2.1 pc = .ok (.ireturn, 1)) : Rn l s0 D cy ad P d I pc lo ([.int x]) M (.inl (some (.int x))) M := fun hL => ⟨r_ireturn hd, hL⟩
theorem n_lreturn {x : Int64} (hd : decode I.2.1 pc = .ok (.lreturn, 1)) : Rn l s0 D cy ad P d I pc lo ([.long x]) M (.inl (some (.long x))) M := fun hL => ⟨r_lreturn hd, hL⟩
theorem n_areturn {x : Nat} (hd : decode I.2.1 pc = .ok (.areturn, 1)) : Rn l s0 D cy ad P d I pc lo ([.ref x]) M (.inl (some (.ref x))) M := fun hL => ⟨r_areturn hd, hL⟩
theorem n_getI (G : GG l s0 b L xs D cy ad) {idx a c k : Nat} {fin : Bool} (hl0 : fL I.1.cls idx c k 0 fin) (ha : P a) (hs : SH a = c) (hd : decode I.2.1 pc = .ok (.getfield idx, 3)) (k9 : Rn l s0 D cy ad P d I (pc + 3) lo (.int (mi M a k) :: st) M res M') : Rn l s0 D cy ad P d I pc lo (.ref a :: st) M res M' :=
  fun hL => ⟨r_getI G hl0 (hL.1 a ha).1 ((hL.1 a ha).2.1.trans hs) hd (k9 hL).1, (k9 hL).2⟩
theorem n_getL (G : GG l s0 b L xs D cy ad) {idx a c k : Nat} {fin : Bool} (hl0 : fL I.1.cls idx c k 1 fin) (ha : P a) (hs : SH a = c) (hd : decode I.2.1 pc = .ok (.getfield idx, 3)) (k9 : Rn l s0 D cy ad P d I (pc + 3) lo (.long (ml M a k) :: st) M res M') : Rn l s0 D cy ad P d I pc lo (.ref a :: st) M res M' :=
  fun hL => ⟨r_getL G hl0 (hL.1 a ha).1 ((hL.1 a ha).2.1.trans hs) hd (k9 hL).1, (k9 hL).2⟩
/-- a final reference -/
theorem n_getF (G : GG l s0 b L xs D cy ad) {idx a c k q : Nat} {fin : Bool} (hl0 : fL I.1.cls idx c k 2 fin) (ha : P a) (hs : SH a = c) (hq : FR a k = some q) (hd : decode I.2.1 pc = .ok (.getfield idx, 3)) (k9 : P q → Rn l s0 D cy ad P d I (pc + 3) lo (.ref q :: st) M res M') : Rn l s0 D cy ad P d I pc lo (.ref a :: st) M res M' :=
  fun hL => have h9 := hL.2.1 a k q ha hq; ⟨r_getR G hl0 (hL.1 a ha).1 ((hL.1 a ha).2.1.trans hs) h9.1 hd (k9 h9.2 hL).1, (k9 h9.2 hL).2⟩
/-- a reference that changes -/
theorem n_getD (G : GG l s0 b L xs D cy ad) {idx a c k t : Nat} {fin : Bool} (hl0 : fL I.1.cls idx c k 2 fin) (ha : P a) (hs : SH a = c) (ht : DR a k = some t) (hd : decode I.2.1 pc = .ok (.getfield idx, 3)) (k9 : P (rd M a k) → SH (rd M a k) = t → Rn l s0 D cy ad P d I (pc + 3) lo (.ref (rd M a k) :: st) M res M') : Rn l s0 D cy ad P d I pc lo (.ref a :: st) M res M' := by
  intro hL
  obtain ⟨q, h1, h2, h3⟩ := hL.2.2 a k t ha ht
  have e : rd M a k = q := by unfold rd; rw [h1]; rfl
  have h9 := k9 (by rw [e]; exact h2) (by rw [e]; exact h3) hL
  exact ⟨r_getR G hl0 (hL.1 a ha).1 ((hL.1 a ha).2.1.trans hs) (by rw [e]; exact h1) hd h9.1, h9.2⟩
theorem n_putI (G : GG l s0 b L xs D cy ad) {idx a c k : Nat} {x : Int32} (hl0 : fL I.1.cls idx c k 0 false) (ha : P a) (hs : SH a = c) (hd : decode I.2.1 pc = .ok (.putfield idx, 3)) (k9 : Rn l s0 D cy ad P d I (pc + 3) lo st (sI M a k x) res M') : Rn l s0 D cy ad P d I pc lo (.int x :: .ref a :: st) M res M' :=
  fun hL => ⟨r_putI G hl0 (hL.1 a ha).1 ((hL.1 a ha).2.1.trans hs) hd (k9 hL.sI).1, (k9 hL.sI).2⟩
theorem n_putL (G : GG l s0 b L xs D cy ad) {idx a c k : Nat} {x : Int64} (hl0 : fL I.1.cls idx c k 1 false) (ha : P a) (hs : SH a = c) (hd : decode I.2.1 pc = .ok (.putfield idx, 3)) (k9 : Rn l s0 D cy ad P d I (pc + 3) lo st (sL M a k x) res M') : Rn l s0 D cy ad P d I pc lo (.long x :: .ref a :: st) M res M' :=
  fun hL => ⟨r_putL G hl0 (hL.1 a ha).1 ((hL.1 a ha).2.1.trans hs) hd (k9 hL.sL).1, (k9 hL.sL).2⟩
theorem n_putD (G : GG l s0 b L xs D cy ad) {idx a c k q t : Nat} (hl0 : fL I.1.cls idx c k 2 false) (ha : P a) (hs : SH a = c) (hq : P q) (hqs : SH q = t) (hdr : DR a k = some t) (hfr : FR a k = none) (hd : decode I.2.1 pc = .ok (.putfield idx, 3)) (k9 : Rn l s0 D cy ad P d I (pc + 3) lo st (sR M a k (some q)) res M') : Rn l s0 D cy ad P d I pc lo (.ref q :: .ref a :: st) M res M' :=
  fun hL => have h9 := hL.sR hq hqs hdr hfr; ⟨r_putR G hl0 (fun h => by cases h) (hL.1 a ha).1 ((hL.1 a ha).2.1.trans hs) hd (k9 h9).1, (k9 h9).2⟩
theorem ai_in {a n : Nat} {i v : Int32} (h : ai M a n i = some v) : vp_in i n ∧ v = mi M a i.toNatClampNeg := by
  unfold ai at h
  split at h
  · cases h
  · rename_i h9; cases h; exact ⟨h9, rfl⟩
theorem al_in {a n : Nat} {i : Int32} {v : Int64} (h : al M a n i = some v) : vp_in i n ∧ v = ml M a i.toNatClampNeg := by
  unfold al at h
  split at h
  · cases h
  · rename_i h9; cases h; exact ⟨h9, rfl⟩
theorem ar_in {a n q : Nat} {i : Int32} (h : ar a n i = some q) : vp_in i n ∧ q = a + 1 + i.toNatClampNeg := by
  unfold ar at h
  split at h
  · cases h
  · rename_i h9; cases h; exact ⟨h9, rfl⟩
theorem ax_in {xs : Nat → Int32} {n : Nat} {i v : Int32} (h : ax xs n i = some v) : vp_in i n ∧ v = xs i.toNatClampNeg := by
  unfold ax at h
  split at h
  · cases h
  · rename_i h9; cases h; exact ⟨h9, rfl⟩
theorem wi_in {M1 : Mm} {a n : Nat} {i x : Int32} (h : wi M a n i x = some M1) : vp_in i n ∧ M1 = sI M a i.toNatClampNeg x := by
  unfold wi at h
  split at h
  · cases h
  · rename_i h9; cases h; exact ⟨h9, rfl⟩
theorem wl_in {M1 : Mm} {a n : Nat} {i : Int32} {x : Int64} (h : wl M a n i x = some M1) : vp_in i n ∧ M1 = sL M a i.toNatClampNeg x := by
  unfold wl at h
  split at h
  · cases h
  · rename_i h9; cases h; exact ⟨h9, rfl⟩
theorem rB_in {x v : Int32} (h : rB x = some v) : (x = 0 ∨ x = 1) ∧ v = x := by
  unfold rB at h
  split at h
  · rename_i h9; cases h; exact ⟨h9, rfl⟩
  · cases h
theorem n_iald (G : GG l s0 b L xs D cy ad) {a n : Nat} {i v : Int32} (h : ai M a n i = some v) (ha : P a) (hs : SH a = 12) (hn : LN a = n) (hd : decode I.2.1 pc = .ok (.iaload, 1)) (k9 : Rn l s0 D cy ad P d I (pc + 1) lo (.int v :: st) M res M') : Rn l s0 D cy ad P d I pc lo (.int i :: .ref a :: st) M res M' := by
  intro hL
  obtain ⟨h1, rfl⟩ := ai_in h
  exact ⟨r_iald G (hL.1 a ha).1 ((hL.1 a ha).2.1.trans hs) ((hL.1 a ha).2.2.trans hn) h1 hd (k9 hL).1, (k9 hL).2⟩
theorem n_bald (G : GG l s0 b L xs D cy ad) {a n : Nat} {i v : Int32} (h : ai M a n i = some v) (ha : P a) (hs : SH a = 11) (hn : LN a = n) (hd : decode I.2.1 pc = .ok (.baload, 1)) (k9 : Rn l s0 D cy ad P d I (pc + 1) lo (.int v :: st) M res M') : Rn l s0 D cy ad P d I pc lo (.int i :: .ref a :: st) M res M' := by
  intro hL
  obtain ⟨h1, rfl⟩ := ai_in h
  exact ⟨r_bald G (hL.1 a ha).1 ((hL.1 a ha).2.1.trans hs) ((hL.1 a ha).2.2.trans hn) h1 hd (k9 hL).1, (k9 hL).2⟩
theorem n_lald (G : GG l s0 b L xs D cy ad) {a n : Nat} {i : Int32} {v : Int64} (h : al M a n i = some v) (ha : P a) (hs : SH a = 13) (hn : LN a = n) (hd : decode I.2.1 pc = .ok (.laload, 1)) (k9 : Rn l s0 D cy ad P d I (pc + 1) lo (.long v :: st) M res M') : Rn l s0 D cy ad P d I pc lo (.int i :: .ref a :: st) M res M' := by
  intro hL
  obtain ⟨h1, rfl⟩ := al_in h
  exact ⟨r_lald G (hL.1 a ha).1 ((hL.1 a ha).2.1.trans hs) ((hL.1 a ha).2.2.trans hn) h1 hd (k9 hL).1, (k9 hL).2⟩
theorem FR_row {a k : Nat} (hs : SH a = 14) (hk : k < LN a) : FR a k = some (a + 1 + k) := by unfold FR; rw [if_pos hs, if_pos hk]
theorem n_aald (G : GG l s0 b L xs D cy ad) {a n q : Nat} {i : Int32} (h : ar a n i = some q) (ha : P a) (hs : SH a = 14) (hn : LN a = n) (hd : decode I.2.1 pc = .ok (.aaload, 1)) (k9 : P q → Rn l s0 D cy ad P d I (pc + 1) lo (.ref q :: st) M res M') : Rn l s0 D cy ad P d I pc lo (.int i :: .ref a :: st) M res M' := by
  intro hL
  obtain ⟨h1, rfl⟩ := ar_in h
  have h2 : i.toNatClampNeg < n := Nat.not_le.mp fun q => h1 (Or.inr q)
  have h3 := hL.2.1 a i.toNatClampNeg _ ha (FR_row hs (by rw [hn]; exact h2))
  exact ⟨r_aald G (hL.1 a ha).1 ((hL.1 a ha).2.1.trans hs) ((hL.1 a ha).2.2.trans hn) h1 h3.1 hd (k9 h3.2 hL).1, (k9 h3.2 hL).2⟩
theorem n_alen (G : GG l s0 b L xs D cy ad) {a n : Nat} {v : Int32} (ha : P a) (hs : SH a = 11 ∨ SH a = 12 ∨ SH a = 13 ∨ SH a = 14) (hn : LN a = n) (hv : Int32.ofNat n = v) (hd : decode I.2.1 pc = .ok (.arraylength, 1)) (k9 : Rn l s0 D cy ad P d I (pc + 1) lo (.int v :: st) M res M') : Rn l s0 D cy ad P d I pc lo (.ref a :: st) M res M' := by
  intro hL
  exact ⟨r_alen G (hL.1 a ha).1 (by rw [(hL.1 a ha).2.1]; exact hs) ((hL.1 a ha).2.2.trans hn) hv hd (k9 hL).1, (k9 hL).2⟩
theorem n_iast (G : GG l s0 b L xs D cy ad) {a n : Nat} {i x : Int32} {M1 : Mm} (h : wi M a n i x = some M1) (ha : P a) (hs : SH a = 12) (hn : LN a = n) (hd : decode I.2.1 pc = .ok (.iastore, 1)) (k9 : Rn l s0 D cy ad P d I (pc + 1) lo st M1 res M') : Rn l s0 D cy ad P d I pc lo (.int x :: .int i :: .ref a :: st) M res M' := by
  intro hL
  obtain ⟨h1, rfl⟩ := wi_in h
  exact ⟨r_iast G (hL.1 a ha).1 ((hL.1 a ha).2.1.trans hs) ((hL.1 a ha).2.2.trans hn) h1 hd (k9 hL.sI).1, (k9 hL.sI).2⟩
theorem n_bast (G : GG l s0 b L xs D cy ad) {a n : Nat} {i x : Int32} {M1 : Mm} (h : wi M a n i x.toInt8.toInt32 = some M1) (ha : P a) (hs : SH a = 11) (hn : LN a = n) (hd : decode I.2.1 pc = .ok (.bastore, 1)) (k9 : Rn l s0 D cy ad P d I (pc + 1) lo st M1 res M') : Rn l s0 D cy ad P d I pc lo (.int x :: .int i :: .ref a :: st) M res M' := by
  intro hL
  obtain ⟨h1, rfl⟩ := wi_in h
  exact ⟨r_bast G (hL.1 a ha).1 ((hL.1 a ha).2.1.trans hs) ((hL.1 a ha).2.2.trans hn) h1 hd (k9 hL.sI).1, (k9 hL.sI).2⟩
theorem n_last (G : GG l s0 b L xs D cy ad) {a n : Nat} {i : Int32} {x : Int64} {M1 : Mm} (h : wl M a n i x = some M1) (ha : P a) (hs : SH a = 13) (hn : LN a = n) (hd : decode I.2.1 pc = .ok (.lastore, 1)) (k9 : Rn l s0 D cy ad P d I (pc + 1) lo st M1 res M') : Rn l s0 D cy ad P d I pc lo (.long x :: .int i :: .ref a :: st) M res M' := by
  intro hL
  obtain ⟨h1, rfl⟩ := wl_in h
  exact ⟨r_last G (hL.1 a ha).1 ((hL.1 a ha).2.1.trans hs) ((hL.1 a ha).2.2.trans hn) h1 hd (k9 hL.sL).1, (k9 hL.sL).2⟩
theorem n_copy (G : GG l s0 b L xs D cy ad) {idx a a0 n0 n1 : Nat} {sp dp n : Int32} {M1 : Mm} (h : cpy M a0 n0 sp a n1 dp n = some M1) (hL : Cond.methodLink I.1.cls idx arraycopyName ∈ lw_tbl) (hnat : Cond.native arraycopyName ∈ lw_tbl) (hsta : Cond.static arraycopyName ∈ lw_tbl) (hini : Cond.initialized "java/lang/System" ∈ lw_tbl) (ha : P a) (hs : SH a = 12) (hn1 : LN a = n1) (ha0 : P a0) (hs0 : SH a0 = 12) (hn0 : LN a0 = n0)
    (hd1 : 1 ≤ d) (hw8 : (st.map (fun v => v.category)).sum ≤ 8) (hd : decode I.2.1 pc = .ok (.invokestatic idx, 3)) (k : Rn l s0 D cy ad P d I (pc + 3) lo st M1 res M') : Rn l s0 D cy ad P d I pc lo (.int n :: .int dp :: .ref a :: .int sp :: .ref a0 :: st) M res M' := by
  intro hY
  unfold cpy at h
  split at h
  · cases h
  · rename_i h9
    cases h
    have k1 := k hY.sA
    exact ⟨r_copy G hL hnat hsta hini (hY.1 a ha).1 ((hY.1 a ha).2.1.trans hs) ((hY.1 a ha).2.2.trans hn1) (hY.1 a0 ha0).1 ((hY.1 a0 ha0).2.1.trans hs0) ((hY.1 a0 ha0).2.2.trans hn0) (fun q => h9 (Or.inl q)) (fun q => h9 (Or.inr (Or.inl q))) (fun q => h9 (Or.inr (Or.inr (Or.inl q)))) (Nat.not_lt.mp fun q => h9 (Or.inr (Or.inr (Or.inr (Or.inl q))))) (Nat.not_lt.mp fun q => h9 (Or.inr (Or.inr (Or.inr (Or.inr q))))) hd1 hw8 hd k1.1, k1.2⟩
theorem n_sld (G : GG l s0 b L xs D cy ad) {i v : Int32} (h : ax xs L i = some v) (hd : decode I.2.1 pc = .ok (.iaload, 1)) (k : Rn l s0 D cy ad P d I (pc + 1) lo (.int v :: st) M res M') : Rn l s0 D cy ad P d I pc lo (.int i :: .ref 100000 :: st) M res M' := by
  intro hL
  obtain ⟨h1, rfl⟩ := ax_in h
  exact ⟨r_sld G h1 hd (k hL).1, (k hL).2⟩
theorem n_slen (G : GG l s0 b L xs D cy ad) {v : Int32} (hv : Int32.ofNat L = v) (hd : decode I.2.1 pc = .ok (.arraylength, 1)) (k : Rn l s0 D cy ad P d I (pc + 1) lo (.int v :: st) M res M') : Rn l s0 D cy ad P d I pc lo (.ref 100000 :: st) M res M' := fun hL => ⟨r_slen G hv hd (k hL).1, (k hL).2⟩
theorem n_ldc (G : GG l s0 b L xs D cy ad) {idx : Nat} {v : Int32} (hL : Cond.constant I.1.cls idx v ∈ lw_tbl) (hd : decode I.2.1 pc = .ok (.ldc idx, 2)) (k : Rn l s0 D cy ad P d I (pc + 2) lo (.int v :: st) M res M') : Rn l s0 D cy ad P d I pc lo st M res M' := fun hY => ⟨r_ldc G hL hd (k hY).1, (k hY).2⟩
theorem n_ldcw (G : GG l s0 b L xs D cy ad) {idx : Nat} {v : Int32} (hL : Cond.constant I.1.cls idx v ∈ lw_tbl) (hd : decode I.2.1 pc = .ok (.ldc_w idx, 3)) (k : Rn l s0 D cy ad P d I (pc + 3) lo (.int v :: st) M res M') : Rn l s0 D cy ad P d I pc lo st M res M' := fun hY => ⟨r_ldcw G hL hd (k hY).1, (k hY).2⟩
theorem n_ldc2 (G : GG l s0 b L xs D cy ad) {idx : Nat} {v : Int64} (hL : Cond.constantLong I.1.cls idx v ∈ lw_tbl) (hd : decode I.2.1 pc = .ok (.ldc2_w idx, 3)) (k : Rn l s0 D cy ad P d I (pc + 3) lo (.long v :: st) M res M') : Rn l s0 D cy ad P d I pc lo st M res M' := fun hY => ⟨r_ldc2 G hL hd (k hY).1, (k hY).2⟩
theorem n_ldcS (G : GG l s0 b L xs D cy ad) {idx i : Nat} (hs : strIn I.1.cls idx i) (hd : decode I.2.1 pc = .ok (.ldc idx, 2)) (k : Rn l s0 D cy ad P d I (pc + 2) lo (.ref (100001 + i) :: st) M res M') : Rn l s0 D cy ad P d I pc lo st M res M' := fun hY => ⟨r_ldcS G hs hd (k hY).1, (k hY).2⟩
theorem n_callSv (G : GG l s0 b L xs D cy ad) {y : MethodName} {cc : ByteArray} {maxL : Nat} {ret : Option FieldType} {d' n idx : Nat} (as : List Value) {stk : List Value} {M1 : Mm} (hc : Cl l s0 D cy ad P d' (y, cc, maxL, ret, []) as M (.inl (none)) M1) (hd' : d' < d) (hK : mS (y, cc, maxL, ret, []) n) (hl0 : mL I.1.cls idx (y, cc, maxL, ret, [])) (ha : as.length = n) (hstk : as.reverse ++ st = stk) (hw8 : (st.map (fun v => v.category)).sum ≤ 8) (hd : decode I.2.1 pc = .ok (.invokestatic idx, 3)) (k9 : Rn l s0 D cy ad P d I (pc + 3) lo (st) M1 res M') : Rn l s0 D cy ad P d I pc lo stk M res M' := by
  intro hL
  subst hstk
  have h1 := hc hL
  exact ⟨r_ret_of (v_S G h1.1 hd' hK hl0 ha hw8 hd) (k9 h1.2).1, (k9 h1.2).2⟩
theorem n_callSi (G : GG l s0 b L xs D cy ad) {y : MethodName} {cc : ByteArray} {maxL : Nat} {ret : Option FieldType} {d' n idx : Nat} {x : Int32} (as : List Value) {stk : List Value} {M1 : Mm} (hc : Cl l s0 D cy ad P d' (y, cc, maxL, ret, []) as M (.inl (some (.int x))) M1) (hd' : d' < d) (hK : mS (y, cc, maxL, ret, []) n) (hl0 : mL I.1.cls idx (y, cc, maxL, ret, [])) (ha : as.length = n) (hstk : as.reverse ++ st = stk) (hw8 : (st.map (fun v => v.category)).sum ≤ 8) (hd : decode I.2.1 pc = .ok (.invokestatic idx, 3)) (k9 : Rn l s0 D cy ad P d I (pc + 3) lo (.int x :: st) M1 res M') : Rn l s0 D cy ad P d I pc lo stk M res M' := by
  intro hL
  subst hstk
  have h1 := hc hL
  exact ⟨r_ret_of (v_S G h1.1 hd' hK hl0 ha hw8 hd) (k9 h1.2).1, (k9 h1.2).2⟩
theorem n_callSl (G : GG l s0 b L xs D cy ad) {y : MethodName} {cc : ByteArray} {maxL : Nat} {ret : Option FieldType} {d' n idx : Nat} {x : Int64} (as : List Value) {stk : List Value} {M1 : Mm} (hc : Cl l s0 D cy ad P d' (y, cc, maxL, ret, []) as M (.inl (some (.long x))) M1) (hd' : d' < d) (hK : mS (y, cc, maxL, ret, []) n) (hl0 : mL I.1.cls idx (y, cc, maxL, ret, [])) (ha : as.length = n) (hstk : as.reverse ++ st = stk) (hw8 : (st.map (fun v => v.category)).sum ≤ 8) (hd : decode I.2.1 pc = .ok (.invokestatic idx, 3)) (k9 : Rn l s0 D cy ad P d I (pc + 3) lo (.long x :: st) M1 res M') : Rn l s0 D cy ad P d I pc lo stk M res M' := by
  intro hL
  subst hstk
  have h1 := hc hL
  exact ⟨r_ret_of (v_S G h1.1 hd' hK hl0 ha hw8 hd) (k9 h1.2).1, (k9 h1.2).2⟩
theorem n_callSr (G : GG l s0 b L xs D cy ad) {y : MethodName} {cc : ByteArray} {maxL : Nat} {ret : Option FieldType} {d' n idx : Nat} {x : Nat} (as : List Value) {stk : List Value} {M1 : Mm} (hc : Cl l s0 D cy ad P d' (y, cc, maxL, ret, []) as M (.inl (some (.ref x))) M1) (hd' : d' < d) (hK : mS (y, cc, maxL, ret, []) n) (hl0 : mL I.1.cls idx (y, cc, maxL, ret, [])) (ha : as.length = n) (hstk : as.reverse ++ st = stk) (hw8 : (st.map (fun v => v.category)).sum ≤ 8) (hd : decode I.2.1 pc = .ok (.invokestatic idx, 3)) (k9 : Rn l s0 D cy ad P d I (pc + 3) lo (.ref x :: st) M1 res M') : Rn l s0 D cy ad P d I pc lo stk M res M' := by
  intro hL
  subst hstk
  have h1 := hc hL
  exact ⟨r_ret_of (v_S G h1.1 hd' hK hl0 ha hw8 hd) (k9 h1.2).1, (k9 h1.2).2⟩
theorem n_callSx (G : GG l s0 b L xs D cy ad) {y : MethodName} {cc : ByteArray} {maxL : Nat} {ret : Option FieldType} {d' n idx : Nat} {E : String} (as : List Value) {stk : List Value} {M1 : Mm} (hc : Cl l s0 D cy ad P d' (y, cc, maxL, ret, []) as M (.inr E) M1) (hd' : d' < d) (hK : mS (y, cc, maxL, ret, []) n) (hl0 : mL I.1.cls idx (y, cc, maxL, ret, [])) (ha : as.length = n) (hstk : as.reverse ++ st = stk) (hw8 : (st.map (fun v => v.category)).sum ≤ 8) (hd : decode I.2.1 pc = .ok (.invokestatic idx, 3)) (hno : Nocov I.2.2.2.2 pc) : Rn l s0 D cy ad P d I pc lo stk M (.inr E) M1 := by
  intro hL
  subst hstk
  have h1 := hc hL
  exact ⟨r_thr_of (v_S G h1.1 hd' hK hl0 ha hw8 hd) hno, h1.2⟩
theorem n_callVv (G : GG l s0 b L xs D cy ad) {y : MethodName} {cc : ByteArray} {maxL : Nat} {ret : Option FieldType} {d' n idx : Nat} {a c : Nat} (as : List Value) {stk : List Value} {M1 : Mm} (hc : Cl l s0 D cy ad P d' (y, cc, maxL, ret, []) (.ref a :: as) M (.inl (none)) M1) (hd' : d' < d) (hK : mV (y, cc, maxL, ret, []) n c) (hl0 : mL I.1.cls idx (y, cc, maxL, ret, [])) (hra : P a) (hrs : SH a = c) (ha : as.length = n) (hstk : as.reverse ++ .ref a :: st = stk) (hw8 : (st.map (fun v => v.category)).sum ≤ 8) (hd : decode I.2.1 pc = .ok (.invokevirtual idx, 3)) (k9 : Rn l s0 D cy ad P d I (pc + 3) lo (st) M1 res M') : Rn l s0 D cy ad P d I pc lo stk M res M' := by
  intro hL
  subst hstk
  have h1 := hc hL
  exact ⟨r_ret_of (v_V G h1.1 hd' hK hl0 (hL.1 a hra).1 ((hL.1 a hra).2.1.trans hrs) ha hw8 hd) (k9 h1.2).1, (k9 h1.2).2⟩
theorem n_callVi (G : GG l s0 b L xs D cy ad) {y : MethodName} {cc : ByteArray} {maxL : Nat} {ret : Option FieldType} {d' n idx : Nat} {a c : Nat} {x : Int32} (as : List Value) {stk : List Value} {M1 : Mm} (hc : Cl l s0 D cy ad P d' (y, cc, maxL, ret, []) (.ref a :: as) M (.inl (some (.int x))) M1) (hd' : d' < d) (hK : mV (y, cc, maxL, ret, []) n c) (hl0 : mL I.1.cls idx (y, cc, maxL, ret, [])) (hra : P a) (hrs : SH a = c) (ha : as.length = n) (hstk : as.reverse ++ .ref a :: st = stk) (hw8 : (st.map (fun v => v.category)).sum ≤ 8) (hd : decode I.2.1 pc = .ok (.invokevirtual idx, 3)) (k9 : Rn l s0 D cy ad P d I (pc + 3) lo (.int x :: st) M1 res M') : Rn l s0 D cy ad P d I pc lo stk M res M' := by
  intro hL
  subst hstk
  have h1 := hc hL
  exact ⟨r_ret_of (v_V G h1.1 hd' hK hl0 (hL.1 a hra).1 ((hL.1 a hra).2.1.trans hrs) ha hw8 hd) (k9 h1.2).1, (k9 h1.2).2⟩
theorem n_callVl (G : GG l s0 b L xs D cy ad) {y : MethodName} {cc : ByteArray} {maxL : Nat} {ret : Option FieldType} {d' n idx : Nat} {a c : Nat} {x : Int64} (as : List Value) {stk : List Value} {M1 : Mm} (hc : Cl l s0 D cy ad P d' (y, cc, maxL, ret, []) (.ref a :: as) M (.inl (some (.long x))) M1) (hd' : d' < d) (hK : mV (y, cc, maxL, ret, []) n c) (hl0 : mL I.1.cls idx (y, cc, maxL, ret, [])) (hra : P a) (hrs : SH a = c) (ha : as.length = n) (hstk : as.reverse ++ .ref a :: st = stk) (hw8 : (st.map (fun v => v.category)).sum ≤ 8) (hd : decode I.2.1 pc = .ok (.invokevirtual idx, 3)) (k9 : Rn l s0 D cy ad P d I (pc + 3) lo (.long x :: st) M1 res M') : Rn l s0 D cy ad P d I pc lo stk M res M' := by
  intro hL
  subst hstk
  have h1 := hc hL
  exact ⟨r_ret_of (v_V G h1.1 hd' hK hl0 (hL.1 a hra).1 ((hL.1 a hra).2.1.trans hrs) ha hw8 hd) (k9 h1.2).1, (k9 h1.2).2⟩
theorem n_callVr (G : GG l s0 b L xs D cy ad) {y : MethodName} {cc : ByteArray} {maxL : Nat} {ret : Option FieldType} {d' n idx : Nat} {a c : Nat} {x : Nat} (as : List Value) {stk : List Value} {M1 : Mm} (hc : Cl l s0 D cy ad P d' (y, cc, maxL, ret, []) (.ref a :: as) M (.inl (some (.ref x))) M1) (hd' : d' < d) (hK : mV (y, cc, maxL, ret, []) n c) (hl0 : mL I.1.cls idx (y, cc, maxL, ret, [])) (hra : P a) (hrs : SH a = c) (ha : as.length = n) (hstk : as.reverse ++ .ref a :: st = stk) (hw8 : (st.map (fun v => v.category)).sum ≤ 8) (hd : decode I.2.1 pc = .ok (.invokevirtual idx, 3)) (k9 : Rn l s0 D cy ad P d I (pc + 3) lo (.ref x :: st) M1 res M') : Rn l s0 D cy ad P d I pc lo stk M res M' := by
  intro hL
  subst hstk
  have h1 := hc hL
  exact ⟨r_ret_of (v_V G h1.1 hd' hK hl0 (hL.1 a hra).1 ((hL.1 a hra).2.1.trans hrs) ha hw8 hd) (k9 h1.2).1, (k9 h1.2).2⟩
theorem n_callVx (G : GG l s0 b L xs D cy ad) {y : MethodName} {cc : ByteArray} {maxL : Nat} {ret : Option FieldType} {d' n idx : Nat} {a c : Nat} {E : String} (as : List Value) {stk : List Value} {M1 : Mm} (hc : Cl l s0 D cy ad P d' (y, cc, maxL, ret, []) (.ref a :: as) M (.inr E) M1) (hd' : d' < d) (hK : mV (y, cc, maxL, ret, []) n c) (hl0 : mL I.1.cls idx (y, cc, maxL, ret, [])) (hra : P a) (hrs : SH a = c) (ha : as.length = n) (hstk : as.reverse ++ .ref a :: st = stk) (hw8 : (st.map (fun v => v.category)).sum ≤ 8) (hd : decode I.2.1 pc = .ok (.invokevirtual idx, 3)) (hno : Nocov I.2.2.2.2 pc) : Rn l s0 D cy ad P d I pc lo stk M (.inr E) M1 := by
  intro hL
  subst hstk
  have h1 := hc hL
  exact ⟨r_thr_of (v_V G h1.1 hd' hK hl0 (hL.1 a hra).1 ((hL.1 a hra).2.1.trans hrs) ha hw8 hd) hno, h1.2⟩
theorem n_callIv (G : GG l s0 b L xs D cy ad) {y : MethodName} {cc : ByteArray} {maxL : Nat} {d' n idx : Nat} {a : Nat} (as : List Value) {stk : List Value} {M1 : Mm} (hc : Cl l s0 D cy ad P d' (y, cc, maxL, none, []) (.ref a :: as) M (.inl (none)) M1) (hd' : d' < d) (hK : mC (y, cc, maxL, none, []) n) (hl0 : mL I.1.cls idx (y, cc, maxL, none, [])) (ha : as.length = n) (hstk : as.reverse ++ .ref a :: st = stk) (hw8 : (st.map (fun v => v.category)).sum ≤ 8) (hd : decode I.2.1 pc = .ok (.invokespecial idx, 3)) (k9 : Rn l s0 D cy ad P d I (pc + 3) lo (st) M1 res M') : Rn l s0 D cy ad P d I pc lo stk M res M' := by
  intro hL
  subst hstk
  have h1 := hc hL
  exact ⟨r_ret_of (v_I G h1.1 hd' hK hl0 ha hw8 hd) (k9 h1.2).1, (k9 h1.2).2⟩
theorem n_callSNv (G : GG l s0 b L xs D cy ad) {y : MethodName} {cc : ByteArray} {maxL : Nat} {ret : Option FieldType} {d' n idx : Nat} (as : List Value) {stk : List Value} {M1 : Mm} (hc : Cl l s0 D cy ad P d' (y, cc, maxL, ret, []) as M (.inl (none)) M1) (hd' : d' < d) (hK : mS (y, cc, maxL, ret, []) n) (hl0 : mN I.1.cls idx (y, cc, maxL, ret, [])) (ha : as.length = n) (hstk : as.reverse ++ st = stk) (hw8 : (st.map (fun v => v.category)).sum ≤ 8) (hd : decode I.2.1 pc = .ok (.invokestatic idx, 3)) (k9 : Rn l s0 D cy ad P d I (pc + 3) lo (st) M1 res M') : Rn l s0 D cy ad P d I pc lo stk M res M' := by
  intro hL
  subst hstk
  have h1 := hc hL
  exact ⟨r_ret_of (v_SN G h1.1 hd' hK hl0 ha hw8 hd) (k9 h1.2).1, (k9 h1.2).2⟩
theorem n_callSNi (G : GG l s0 b L xs D cy ad) {y : MethodName} {cc : ByteArray} {maxL : Nat} {ret : Option FieldType} {d' n idx : Nat} {x : Int32} (as : List Value) {stk : List Value} {M1 : Mm} (hc : Cl l s0 D cy ad P d' (y, cc, maxL, ret, []) as M (.inl (some (.int x))) M1) (hd' : d' < d) (hK : mS (y, cc, maxL, ret, []) n) (hl0 : mN I.1.cls idx (y, cc, maxL, ret, [])) (ha : as.length = n) (hstk : as.reverse ++ st = stk) (hw8 : (st.map (fun v => v.category)).sum ≤ 8) (hd : decode I.2.1 pc = .ok (.invokestatic idx, 3)) (k9 : Rn l s0 D cy ad P d I (pc + 3) lo (.int x :: st) M1 res M') : Rn l s0 D cy ad P d I pc lo stk M res M' := by
  intro hL
  subst hstk
  have h1 := hc hL
  exact ⟨r_ret_of (v_SN G h1.1 hd' hK hl0 ha hw8 hd) (k9 h1.2).1, (k9 h1.2).2⟩
theorem n_callSNl (G : GG l s0 b L xs D cy ad) {y : MethodName} {cc : ByteArray} {maxL : Nat} {ret : Option FieldType} {d' n idx : Nat} {x : Int64} (as : List Value) {stk : List Value} {M1 : Mm} (hc : Cl l s0 D cy ad P d' (y, cc, maxL, ret, []) as M (.inl (some (.long x))) M1) (hd' : d' < d) (hK : mS (y, cc, maxL, ret, []) n) (hl0 : mN I.1.cls idx (y, cc, maxL, ret, [])) (ha : as.length = n) (hstk : as.reverse ++ st = stk) (hw8 : (st.map (fun v => v.category)).sum ≤ 8) (hd : decode I.2.1 pc = .ok (.invokestatic idx, 3)) (k9 : Rn l s0 D cy ad P d I (pc + 3) lo (.long x :: st) M1 res M') : Rn l s0 D cy ad P d I pc lo stk M res M' := by
  intro hL
  subst hstk
  have h1 := hc hL
  exact ⟨r_ret_of (v_SN G h1.1 hd' hK hl0 ha hw8 hd) (k9 h1.2).1, (k9 h1.2).2⟩
theorem n_callSNr (G : GG l s0 b L xs D cy ad) {y : MethodName} {cc : ByteArray} {maxL : Nat} {ret : Option FieldType} {d' n idx : Nat} {x : Nat} (as : List Value) {stk : List Value} {M1 : Mm} (hc : Cl l s0 D cy ad P d' (y, cc, maxL, ret, []) as M (.inl (some (.ref x))) M1) (hd' : d' < d) (hK : mS (y, cc, maxL, ret, []) n) (hl0 : mN I.1.cls idx (y, cc, maxL, ret, [])) (ha : as.length = n) (hstk : as.reverse ++ st = stk) (hw8 : (st.map (fun v => v.category)).sum ≤ 8) (hd : decode I.2.1 pc = .ok (.invokestatic idx, 3)) (k9 : Rn l s0 D cy ad P d I (pc + 3) lo (.ref x :: st) M1 res M') : Rn l s0 D cy ad P d I pc lo stk M res M' := by
  intro hL
  subst hstk
  have h1 := hc hL
  exact ⟨r_ret_of (v_SN G h1.1 hd' hK hl0 ha hw8 hd) (k9 h1.2).1, (k9 h1.2).2⟩
theorem n_callINv (G : GG l s0 b L xs D cy ad) {y : MethodName} {cc : ByteArray} {maxL : Nat} {d' n idx : Nat} {a : Nat} (as : List Value) {stk : List Value} {M1 : Mm} (hc : Cl l s0 D cy ad P d' (y, cc, maxL, none, []) (.ref a :: as) M (.inl (none)) M1) (hd' : d' < d) (hK : mC (y, cc, maxL, none, []) n) (hl0 : mN I.1.cls idx (y, cc, maxL, none, [])) (ha : as.length = n) (hstk : as.reverse ++ .ref a :: st = stk) (hw8 : (st.map (fun v => v.category)).sum ≤ 8) (hd : decode I.2.1 pc = .ok (.invokespecial idx, 3)) (k9 : Rn l s0 D cy ad P d I (pc + 3) lo (st) M1 res M') : Rn l s0 D cy ad P d I pc lo stk M res M' := by
  intro hL
  subst hstk
  have h1 := hc hL
  exact ⟨r_ret_of (v_IN G h1.1 hd' hK hl0 ha hw8 hd) (k9 h1.2).1, (k9 h1.2).2⟩
theorem cl_of {as : List Value} {y : MethodName} {cc : ByteArray} {maxL : Nat} {ret : Option FieldType} (hpl : plainName y.cls = true) (hd : ∀ x ∈ as, ∀ z, x ≠ .double z) (hn : (entL as).length ≤ maxL) (hok : rOK ret res) {lo0 : List Value} (hlo : entLo as maxL = lo0) (hr : Rn l s0 D cy ad P d (y, cc, maxL, ret, []) 0 lo0 [] M res M') : Cl l s0 D cy ad P d (y, cc, maxL, ret, []) as M res M' := by
  intro hL
  subst hlo
  exact ⟨cal_of hpl hd hn hok (hr hL).1, (hr hL).2⟩
theorem okI {v : Int32} : rOK (some .int) (.inl (some (.int v))) := ⟨_, rfl, rfl⟩
theorem okB {v : Int32} (h : v = 0 ∨ v = 1) : rOK (some .boolean) (.inl (some (.int v))) := ⟨_, rfl, by rcases h with rfl | rfl <;> rfl⟩
theorem n_throw (G : GG l s0 b L xs D cy ad) {ik is ic ci si : Nat} {cls : String} {names : List String} (hcls : Bundle.fit cls = true) (hnames : ∀ n ∈ names, Bundle.fit n = true) (hk : Cond.classLink I.1.cls ik cls ∈ lw_tbl) (hini : Cond.initialized cls ∈ lw_tbl) (hsi : strIn I.1.cls is si)
    (hat : ∀ w ∈ vx_atS I.1.cls ic cls names, w ∈ lw_tbl ∧ (w.onTables && w.keepsFace) = true) (hci : clX[ci]? = some (cls, tX 0, 0)) (hnl : names.length = 2) (hd8 : 8 ≤ d) (hw8 : (st.map (fun v => v.category)).sum ≤ 8)
    (d0 : decode I.2.1 pc = .ok (.new ik, 3)) (d3 : decode I.2.1 (pc + 3) = .ok (.dup, 1)) (d4 : decode I.2.1 (pc + 4) = .ok (.ldc_w is, 3)) (d7 : decode I.2.1 (pc + 7) = .ok (.invokespecial ic, 3)) (d10 : decode I.2.1 (pc + 10) = .ok (.athrow, 1)) (hno : Nocov I.2.2.2.2 (pc + 10)) :
    Rn l s0 D cy ad P d I pc lo st M (.inr cls) (sX M) := fun hL => ⟨r_throw G hcls hnames hk hini hsi hat hci hnl hd8 hw8 d0 d3 d4 d7 d10 hno, hL.sX⟩
theorem n_iincK {n : Nat} {j : Int} {x w : Int32} {lo2 : List Value} (hd : decode I.2.1 pc = .ok (.iinc n j, 3)) (hx : lo[n]? = some (.int x)) (hw : Int32.ofInt j = w) (h2 : st1 lo n (.int (x + w)) = lo2) (k : Rn l s0 D cy ad P d I (pc + 3) lo2 st M res M') : Rn l s0 D cy ad P d I pc lo st M res M' := n_iinc hd hx (by rw [hw]) h2 k
theorem n_iincWK {n : Nat} {j : Int} {x w : Int32} {lo2 : List Value} (hd : decode I.2.1 pc = .ok (.iinc n j, 6)) (hx : lo[n]? = some (.int x)) (hw : Int32.ofInt j = w) (h2 : st1 lo n (.int (x + w)) = lo2) (k : Rn l s0 D cy ad P d I (pc + 6) lo2 st M res M') : Rn l s0 D cy ad P d I pc lo st M res M' := n_iincW hd hx (by rw [hw]) h2 k
def noD : List Value → Bool
  | [] => true
  | .double _ :: _ => false
  | _ :: t => noD t
theorem noD_in : ∀ (as : List Value), noD as = true → ∀ x ∈ as, ∀ z, x ≠ .double z := by
  intro as
  induction as with
  | nil => intro _ x hx; cases hx
  | cons v t ih =>
    intro h x hx z e
    subst e
    cases hx with
    | head => cases h
    | tail _ hx =>
      have : noD t = true := by cases v <;> first | exact h | cases h
      exact ih this _ hx z rfl
theorem cl_ofN {as : List Value} {y : MethodName} {cc : ByteArray} {maxL : Nat} {ret : Option FieldType} (hpl : plainName y.cls = true) (hd : noD as = true) (hn : Nat.ble (entL as).length maxL = true) (hok : rOK ret res) {lo0 : List Value} (hlo : entLo as maxL = lo0) (hr : Rn l s0 D cy ad P d (y, cc, maxL, ret, []) 0 lo0 [] M res M') : Cl l s0 D cy ad P d (y, cc, maxL, ret, []) as M res M' := cl_of hpl (noD_in as hd) (Nat.le_of_ble_eq_true hn) hok hlo hr
theorem ne_toInt {x k : Int32} {n : Int} (h : ¬ x = k) (hk : k.toInt = n) : x.toInt ≠ n := fun q => h (Int32.toInt_inj.mp (q.trans hk.symm))
def rsV (q : Nat ⊕ Unit) : Rs := match q with | .inl e => .inr (X3 e) | .inr _ => .inl none
def rsI (q : Nat ⊕ Int32) : Rs := match q with | .inl e => .inr (X3 e) | .inr v => .inl (some (.int v))
def rsL (q : Nat ⊕ Int64) : Rs := match q with | .inl e => .inr (X3 e) | .inr v => .inl (some (.long v))
theorem okRV {q : Nat ⊕ Unit} : rOK none (rsV q) := by cases q <;> first | exact trivial | rfl
theorem okRI {q : Nat ⊕ Int32} : rOK (some .int) (rsI q) := by cases q <;> first | exact trivial | exact ⟨_, rfl, rfl⟩
theorem okRL {q : Nat ⊕ Int64} : rOK (some .long) (rsL q) := by cases q <;> first | exact trivial | rfl
end NR
