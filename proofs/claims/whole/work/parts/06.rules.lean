/-! one rule an instruction: values, locals, jumps -/
theorem kp_spec {lo : List Value} {i j : Nat} {v : Value} (h : (match i with | 0 => lo | k + 1 => match lo[k]? with | some w => if w.category = 2 then lo.set k .null else lo | none => lo)[j]? = some v) (hv : v ≠ .null) : lo[j]? = some v ∧ ¬ (j + 1 = i ∧ v.category = 2) := by
  cases i with
  | zero => exact ⟨h, fun q => by omega⟩
  | succ k =>
    dsimp only at h
    cases hw : lo[k]? with
    | none =>
      rw [hw] at h
      refine ⟨h, fun q => ?_⟩
      have : j = k := by omega
      subst this
      rw [hw] at h
      cases h
    | some w =>
      rw [hw] at h
      dsimp only at h
      by_cases hc : w.category = 2
      · rw [if_pos hc, List.getElem?_set] at h
        by_cases hk : k = j
        · subst hk
          rw [if_pos rfl] at h
          split at h
          · cases h; exact absurd rfl hv
          · cases h
        · rw [if_neg hk] at h
          exact ⟨h, fun q => by omega⟩
      · rw [if_neg hc] at h
        refine ⟨h, fun q => ?_⟩
        have : j = k := by omega
        subst this
        rw [hw] at h
        cases h
        exact hc q.2
/-- a store, of one place or of two -/
def kp (lo : List Value) (i : Nat) : List Value := match i with | 0 => lo | k + 1 => match lo[k]? with | some w => if w.category = 2 then lo.set k .null else lo | none => lo
def st1 (lo : List Value) (i : Nat) (v : Value) : List Value := (kp lo i).set i v
def st2 (lo : List Value) (i : Nat) (v : Value) : List Value := ((kp lo i).set i v).set (i + 1) .null
theorem kp_len (lo : List Value) (i : Nat) : (kp lo i).length = lo.length := by
  unfold kp
  split
  · rfl
  · split
    · split
      · rw [List.length_set]
      · rfl
    · rfl
theorem st1_len (lo : List Value) (i : Nat) (v : Value) : (st1 lo i v).length = lo.length := by rw [st1, List.length_set, kp_len]
theorem st2_len (lo : List Value) (i : Nat) (v : Value) : (st2 lo i v).length = lo.length := by rw [st2, List.length_set, List.length_set, kp_len]
def prs (ad : Nat → Nat) (lo : List Value) : List (Nat × Value) := (List.range lo.length).filterMap (fun i => match (lo[i]? : Option Value) with | some Value.null => none | some v => some (i, gv ad v) | none => none)
theorem prs_mem {ad : Nat → Nat} {lo : List Value} {i : Nat} {v : Value} (h : lo[i]? = some v) (hv : v ≠ .null) : (i, gv ad v) ∈ prs ad lo := by
  refine List.mem_filterMap.mpr ⟨i, List.mem_range.mpr (List.getElem?_eq_some_iff.mp h).1, ?_⟩
  rw [h]
  cases v <;> first | rfl | exact absurd rfl hv
theorem LR.has {ad : Nat → Nat} {ls : Array Slot} {lo : List Value} (h : LR ad ls lo) : lv_has ls lo.length (prs ad lo) := by
  refine ⟨h.1, h.2.1, fun q hq => ?_⟩
  obtain ⟨i, -, hi⟩ := List.mem_filterMap.mp hq
  cases hl : lo[i]? with
  | none => rw [hl] at hi; cases hi
  | some v =>
    by_cases hv : v = .null
    · subst hv; rw [hl] at hi; cases hi
    · have := h.2.2 i v hl hv
      rw [hl] at hi
      cases v <;> first | (cases hi; exact this) | exact absurd rfl hv
theorem LR.st1 {ad : Nat → Nat} {ls' : Array Slot} {lo : List Value} {i : Nat} {v : Value} (hi : i < lo.length) (h : lv_has ls' lo.length ((i, gv ad v) :: (prs ad lo).filter (fun q => !(q.1 == i) && !(q.1 + 1 == i && q.2.category == 2)))) : LR ad ls' (st1 lo i v) := by
  refine ⟨by rw [st1_len]; exact h.1, h.2.1, fun j w hj hw => ?_⟩
  rw [_root_.Jvm.Pilot.@@N@@.st1, List.getElem?_set, kp_len] at hj
  by_cases e : i = j
  · subst e
    rw [if_pos rfl, if_pos hi] at hj
    cases hj
    exact h.2.2 _ List.mem_cons_self
  · rw [if_neg e] at hj
    obtain ⟨g1, g2⟩ := kp_spec hj hw
    refine h.2.2 (j, gv ad w) (List.mem_cons_of_mem _ (List.mem_filter.mpr ⟨prs_mem g1 hw, ?_⟩))
    have e' : ¬ j = i := fun q => e q.symm
    simp only [gv_cat, Bool.and_eq_true, Bool.not_eq_true', beq_eq_false_iff_ne, ne_eq, e', not_false_eq_true, true_and, Bool.and_eq_false_iff]
    by_cases e2 : j + 1 = i
    · exact Or.inr (fun q => g2 ⟨e2, q⟩)
    · exact Or.inl e2
theorem LR.st2 {ad : Nat → Nat} {ls' : Array Slot} {lo : List Value} {i : Nat} {v : Value} (hi : i + 1 < lo.length) (h : lv_has ls' lo.length ((i, gv ad v) :: (prs ad lo).filter (fun q => !(q.1 == i) && (!(q.1 == i + 1) && !(q.1 + 1 == i && q.2.category == 2))))) : LR ad ls' (st2 lo i v) := by
  refine ⟨by rw [st2_len]; exact h.1, h.2.1, fun j w hj hw => ?_⟩
  rw [_root_.Jvm.Pilot.@@N@@.st2, List.getElem?_set, List.length_set, kp_len] at hj
  by_cases e0 : i + 1 = j
  · subst e0
    rw [if_pos rfl, if_pos hi] at hj
    cases hj
    exact absurd rfl hw
  · rw [if_neg e0, List.getElem?_set, kp_len] at hj
    by_cases e : i = j
    · subst e
      rw [if_pos rfl, if_pos (by omega)] at hj
      cases hj
      exact h.2.2 _ List.mem_cons_self
    · rw [if_neg e] at hj
      obtain ⟨g1, g2⟩ := kp_spec hj hw
      refine h.2.2 (j, gv ad w) (List.mem_cons_of_mem _ (List.mem_filter.mpr ⟨prs_mem g1 hw, ?_⟩))
      have e' : ¬ j = i := fun q => e q.symm
      have e'' : ¬ j = i + 1 := fun q => e0 q.symm
      simp only [gv_cat, Bool.and_eq_true, Bool.not_eq_true', beq_eq_false_iff_ne, ne_eq, e', e'', not_false_eq_true, true_and, Bool.and_eq_false_iff]
      by_cases e2 : j + 1 = i
      · exact Or.inr (fun q => g2 ⟨e2, q⟩)
      · exact Or.inl e2
/-- less is said of the locals -/
def keep (ks : List Nat) (lo : List Value) : List Value := lo.mapIdx (fun i v => if ks.contains i then v else .null)
theorem LR.keep {ad : Nat → Nat} {ls : Array Slot} {lo : List Value} (ks : List Nat) (h : LR ad ls lo) : LR ad ls (keep ks lo) := by
  refine ⟨by simp [_root_.Jvm.Pilot.@@N@@.keep, h.1], h.2.1, fun i v hi hv => ?_⟩
  simp only [_root_.Jvm.Pilot.@@N@@.keep, List.getElem?_mapIdx, Option.map_eq_some_iff] at hi
  obtain ⟨w, h1, h2⟩ := hi
  by_cases hk : ks.contains i = true
  · rw [if_pos hk] at h2
    subst h2
    exact h.2.2 i w h1 hv
  · rw [if_neg hk] at h2
    exact absurd h2.symm hv
def msk : List Bool → List Value → List Value
  | true :: bs, v :: t => v :: msk bs t
  | false :: bs, _ :: t => .null :: msk bs t
  | _, _ => []
theorem msk_at : ∀ (bs : List Bool) (lo : List Value) (i : Nat) (v : Value), (msk bs lo)[i]? = some v → v ≠ .null → lo[i]? = some v := by
  intro bs
  induction bs with
  | nil => intro lo i v h _; cases lo <;> cases h
  | cons b bs ih =>
    intro lo i v h hv
    cases lo with
    | nil => cases b <;> cases h
    | cons w t =>
      cases b <;> cases i
      · cases h; exact absurd rfl hv
      · exact ih t _ v h hv
      · exact h
      · exact ih t _ v h hv
theorem LR.msk {ad : Nat → Nat} {ls : Array Slot} {lo : List Value} (bs : List Bool) (hb : (msk bs lo).length = lo.length) (h : LR ad ls lo) : LR ad ls (msk bs lo) :=
  ⟨by rw [hb]; exact h.1, h.2.1, fun i v hi hv => h.2.2 i v (msk_at bs lo i v hi hv) hv⟩
section RL
variable {l : Launch} {s0 : State} {D : va_G} {cy : Nat → ClassId} {ad : Nat → Nat} {d : Nat} {I : MI} {pc : Nat} {lo st : List Value} {M M' : Mm} {res : Rs}
theorem r_keep (ks : List Nat) {lo2 : List Value} (hk : keep ks lo = lo2) (k : Run l s0 D cy ad d I pc lo2 st M res M') : Run l s0 D cy ad d I pc lo st M res M' := by
  obtain ⟨hm, k⟩ := k
  refine ⟨hm, ?_⟩
  intro p e R s m args below meth c H locs ls k0 z0 Q F hW hl hn hS hR h1 h2 kr kx
  subst hk
  exact k F hW (hl.keep ks) (by simp [keep, hn]) hS hR h1 h2 kr kx
theorem r_msk (bs : List Bool) {lo2 : List Value} (hk : msk bs lo = lo2) (hb : lo2.length = lo.length) (k : Run l s0 D cy ad d I pc lo2 st M res M') : Run l s0 D cy ad d I pc lo st M res M' := by
  obtain ⟨hm, k⟩ := k
  refine ⟨hm, ?_⟩
  intro p e R s m args below meth c H locs ls k0 z0 Q F hW hl hn hS hR h1 h2 kr kx
  subst hk
  exact k F hW (hl.msk bs hb) (by rw [hb]; exact hn) hS hR h1 h2 kr kx
theorem r_pc {pc' : Nat} (h : pc = pc') (k : Run l s0 D cy ad d I pc' lo st M res M') : Run l s0 D cy ad d I pc lo st M res M' := by subst h; exact k
theorem r_iadd {x y : Int32}  (hd : decode I.2.1 pc = .ok (.iadd, 1)) (k : Run l s0 D cy ad d I (pc + 1) lo (.int (x + y) :: st) M res M') : Run l s0 D cy ad d I pc lo (.int y :: .int x :: st) M res M' := by
  obtain ⟨hm, k⟩ := k
  refine ⟨hm, ?_⟩
  intro p e R s m args below meth c H locs ls k0 z0 Q F hW hl hn hS hR h1 h2 kr kx
  exact lv_iadd F.1 F.2.1 hd  (k F hW hl hn hS hR h1 h2 kr kx)
theorem r_isub {x y : Int32}  (hd : decode I.2.1 pc = .ok (.isub, 1)) (k : Run l s0 D cy ad d I (pc + 1) lo (.int (x - y) :: st) M res M') : Run l s0 D cy ad d I pc lo (.int y :: .int x :: st) M res M' := by
  obtain ⟨hm, k⟩ := k
  refine ⟨hm, ?_⟩
  intro p e R s m args below meth c H locs ls k0 z0 Q F hW hl hn hS hR h1 h2 kr kx
  exact lv_isub F.1 F.2.1 hd  (k F hW hl hn hS hR h1 h2 kr kx)
theorem r_imul {x y : Int32}  (hd : decode I.2.1 pc = .ok (.imul, 1)) (k : Run l s0 D cy ad d I (pc + 1) lo (.int (x * y) :: st) M res M') : Run l s0 D cy ad d I pc lo (.int y :: .int x :: st) M res M' := by
  obtain ⟨hm, k⟩ := k
  refine ⟨hm, ?_⟩
  intro p e R s m args below meth c H locs ls k0 z0 Q F hW hl hn hS hR h1 h2 kr kx
  exact lv_imul F.1 F.2.1 hd  (k F hW hl hn hS hR h1 h2 kr kx)
theorem r_iand {x y : Int32}  (hd : decode I.2.1 pc = .ok (.iand, 1)) (k : Run l s0 D cy ad d I (pc + 1) lo (.int (x &&& y) :: st) M res M') : Run l s0 D cy ad d I pc lo (.int y :: .int x :: st) M res M' := by
  obtain ⟨hm, k⟩ := k
  refine ⟨hm, ?_⟩
  intro p e R s m args below meth c H locs ls k0 z0 Q F hW hl hn hS hR h1 h2 kr kx
  exact lv_iand F.1 F.2.1 hd  (k F hW hl hn hS hR h1 h2 kr kx)
theorem r_ior {x y : Int32}  (hd : decode I.2.1 pc = .ok (.ior, 1)) (k : Run l s0 D cy ad d I (pc + 1) lo (.int (x ||| y) :: st) M res M') : Run l s0 D cy ad d I pc lo (.int y :: .int x :: st) M res M' := by
  obtain ⟨hm, k⟩ := k
  refine ⟨hm, ?_⟩
  intro p e R s m args below meth c H locs ls k0 z0 Q F hW hl hn hS hR h1 h2 kr kx
  exact lv_ior F.1 F.2.1 hd  (k F hW hl hn hS hR h1 h2 kr kx)
theorem r_ixor {x y : Int32}  (hd : decode I.2.1 pc = .ok (.ixor, 1)) (k : Run l s0 D cy ad d I (pc + 1) lo (.int (x ^^^ y) :: st) M res M') : Run l s0 D cy ad d I pc lo (.int y :: .int x :: st) M res M' := by
  obtain ⟨hm, k⟩ := k
  refine ⟨hm, ?_⟩
  intro p e R s m args below meth c H locs ls k0 z0 Q F hW hl hn hS hR h1 h2 kr kx
  exact lv_ixor F.1 F.2.1 hd  (k F hW hl hn hS hR h1 h2 kr kx)
theorem r_ishl {x y : Int32}  (hd : decode I.2.1 pc = .ok (.ishl, 1)) (k : Run l s0 D cy ad d I (pc + 1) lo (.int (x <<< (y &&& 31)) :: st) M res M') : Run l s0 D cy ad d I pc lo (.int y :: .int x :: st) M res M' := by
  obtain ⟨hm, k⟩ := k
  refine ⟨hm, ?_⟩
  intro p e R s m args below meth c H locs ls k0 z0 Q F hW hl hn hS hR h1 h2 kr kx
  exact lv_ishl F.1 F.2.1 hd  (k F hW hl hn hS hR h1 h2 kr kx)
theorem r_ishr {x y : Int32}  (hd : decode I.2.1 pc = .ok (.ishr, 1)) (k : Run l s0 D cy ad d I (pc + 1) lo (.int (x >>> (y &&& 31)) :: st) M res M') : Run l s0 D cy ad d I pc lo (.int y :: .int x :: st) M res M' := by
  obtain ⟨hm, k⟩ := k
  refine ⟨hm, ?_⟩
  intro p e R s m args below meth c H locs ls k0 z0 Q F hW hl hn hS hR h1 h2 kr kx
  exact lv_ishr F.1 F.2.1 hd  (k F hW hl hn hS hR h1 h2 kr kx)
theorem r_idiv {x y : Int32} (hne : ¬ y = 0) (hd : decode I.2.1 pc = .ok (.idiv, 1)) (k : Run l s0 D cy ad d I (pc + 1) lo (.int (x / y) :: st) M res M') : Run l s0 D cy ad d I pc lo (.int y :: .int x :: st) M res M' := by
  obtain ⟨hm, k⟩ := k
  refine ⟨hm, ?_⟩
  intro p e R s m args below meth c H locs ls k0 z0 Q F hW hl hn hS hR h1 h2 kr kx
  exact lv_idiv F.1 F.2.1 hd hne (k F hW hl hn hS hR h1 h2 kr kx)
theorem r_irem {x y : Int32} (hne : ¬ y = 0) (hd : decode I.2.1 pc = .ok (.irem, 1)) (k : Run l s0 D cy ad d I (pc + 1) lo (.int (x - x / y * y) :: st) M res M') : Run l s0 D cy ad d I pc lo (.int y :: .int x :: st) M res M' := by
  obtain ⟨hm, k⟩ := k
  refine ⟨hm, ?_⟩
  intro p e R s m args below meth c H locs ls k0 z0 Q F hW hl hn hS hR h1 h2 kr kx
  exact lv_irem F.1 F.2.1 hd hne (k F hW hl hn hS hR h1 h2 kr kx)
theorem r_ineg {x : Int32}  (hd : decode I.2.1 pc = .ok (.ineg, 1)) (k : Run l s0 D cy ad d I (pc + 1) lo (.int (-x) :: st) M res M') : Run l s0 D cy ad d I pc lo (.int x :: st) M res M' := by
  obtain ⟨hm, k⟩ := k
  refine ⟨hm, ?_⟩
  intro p e R s m args below meth c H locs ls k0 z0 Q F hW hl hn hS hR h1 h2 kr kx
  exact lv_ineg F.1 F.2.1 hd  (k F hW hl hn hS hR h1 h2 kr kx)
theorem r_iushr {x y : Int32}  (hd : decode I.2.1 pc = .ok (.iushr, 1)) (k : Run l s0 D cy ad d I (pc + 1) lo (.int (x.toUInt32 >>> (y.toUInt32 &&& Int32.toUInt32 31)).toInt32 :: st) M res M') : Run l s0 D cy ad d I pc lo (.int y :: .int x :: st) M res M' := by
  obtain ⟨hm, k⟩ := k
  refine ⟨hm, ?_⟩
  intro p e R s m args below meth c H locs ls k0 z0 Q F hW hl hn hS hR h1 h2 kr kx
  exact lv_iushr F.1 F.2.1 hd rfl (k F hW hl hn hS hR h1 h2 kr kx)
theorem r_ladd {x y : Int64}  (hd : decode I.2.1 pc = .ok (.ladd, 1)) (k : Run l s0 D cy ad d I (pc + 1) lo (.long (x + y) :: st) M res M') : Run l s0 D cy ad d I pc lo (.long y :: .long x :: st) M res M' := by
  obtain ⟨hm, k⟩ := k
  refine ⟨hm, ?_⟩
  intro p e R s m args below meth c H locs ls k0 z0 Q F hW hl hn hS hR h1 h2 kr kx
  exact lv_ladd F.1 F.2.1 hd  (k F hW hl hn hS hR h1 h2 kr kx)
theorem r_lsub {x y : Int64}  (hd : decode I.2.1 pc = .ok (.lsub, 1)) (k : Run l s0 D cy ad d I (pc + 1) lo (.long (x - y) :: st) M res M') : Run l s0 D cy ad d I pc lo (.long y :: .long x :: st) M res M' := by
  obtain ⟨hm, k⟩ := k
  refine ⟨hm, ?_⟩
  intro p e R s m args below meth c H locs ls k0 z0 Q F hW hl hn hS hR h1 h2 kr kx
  exact lv_lsub F.1 F.2.1 hd  (k F hW hl hn hS hR h1 h2 kr kx)
theorem r_lmul {x y : Int64}  (hd : decode I.2.1 pc = .ok (.lmul, 1)) (k : Run l s0 D cy ad d I (pc + 1) lo (.long (x * y) :: st) M res M') : Run l s0 D cy ad d I pc lo (.long y :: .long x :: st) M res M' := by
  obtain ⟨hm, k⟩ := k
  refine ⟨hm, ?_⟩
  intro p e R s m args below meth c H locs ls k0 z0 Q F hW hl hn hS hR h1 h2 kr kx
  exact lv_lmul F.1 F.2.1 hd  (k F hW hl hn hS hR h1 h2 kr kx)
theorem r_land {x y : Int64}  (hd : decode I.2.1 pc = .ok (.land, 1)) (k : Run l s0 D cy ad d I (pc + 1) lo (.long (x &&& y) :: st) M res M') : Run l s0 D cy ad d I pc lo (.long y :: .long x :: st) M res M' := by
  obtain ⟨hm, k⟩ := k
  refine ⟨hm, ?_⟩
  intro p e R s m args below meth c H locs ls k0 z0 Q F hW hl hn hS hR h1 h2 kr kx
  exact lv_land F.1 F.2.1 hd  (k F hW hl hn hS hR h1 h2 kr kx)
theorem r_lor {x y : Int64}  (hd : decode I.2.1 pc = .ok (.lor, 1)) (k : Run l s0 D cy ad d I (pc + 1) lo (.long (x ||| y) :: st) M res M') : Run l s0 D cy ad d I pc lo (.long y :: .long x :: st) M res M' := by
  obtain ⟨hm, k⟩ := k
  refine ⟨hm, ?_⟩
  intro p e R s m args below meth c H locs ls k0 z0 Q F hW hl hn hS hR h1 h2 kr kx
  exact lv_lor F.1 F.2.1 hd  (k F hW hl hn hS hR h1 h2 kr kx)
theorem r_lshl {x : Int64} {y : Int32}  (hd : decode I.2.1 pc = .ok (.lshl, 1)) (k : Run l s0 D cy ad d I (pc + 1) lo (.long (x <<< (y.toInt64 &&& 63)) :: st) M res M') : Run l s0 D cy ad d I pc lo (.int y :: .long x :: st) M res M' := by
  obtain ⟨hm, k⟩ := k
  refine ⟨hm, ?_⟩
  intro p e R s m args below meth c H locs ls k0 z0 Q F hW hl hn hS hR h1 h2 kr kx
  exact lv_lshl F.1 F.2.1 hd rfl (k F hW hl hn hS hR h1 h2 kr kx)
theorem r_lshr {x : Int64} {y : Int32}  (hd : decode I.2.1 pc = .ok (.lshr, 1)) (k : Run l s0 D cy ad d I (pc + 1) lo (.long (x >>> (y.toInt64 &&& 63)) :: st) M res M') : Run l s0 D cy ad d I pc lo (.int y :: .long x :: st) M res M' := by
  obtain ⟨hm, k⟩ := k
  refine ⟨hm, ?_⟩
  intro p e R s m args below meth c H locs ls k0 z0 Q F hW hl hn hS hR h1 h2 kr kx
  exact lv_lshr F.1 F.2.1 hd rfl (k F hW hl hn hS hR h1 h2 kr kx)
theorem r_lushr {x : Int64} {y : Int32}  (hd : decode I.2.1 pc = .ok (.lushr, 1)) (k : Run l s0 D cy ad d I (pc + 1) lo (.long (x.toUInt64 >>> (y.toInt64.toUInt64 &&& Int64.toUInt64 63)).toInt64 :: st) M res M') : Run l s0 D cy ad d I pc lo (.int y :: .long x :: st) M res M' := by
  obtain ⟨hm, k⟩ := k
  refine ⟨hm, ?_⟩
  intro p e R s m args below meth c H locs ls k0 z0 Q F hW hl hn hS hR h1 h2 kr kx
  exact lv_lushr F.1 F.2.1 hd rfl (k F hW hl hn hS hR h1 h2 kr kx)
theorem r_i2l {x : Int32}  (hd : decode I.2.1 pc = .ok (.i2l, 1)) (k : Run l s0 D cy ad d I (pc + 1) lo (.long x.toInt64 :: st) M res M') : Run l s0 D cy ad d I pc lo (.int x :: st) M res M' := by
  obtain ⟨hm, k⟩ := k
  refine ⟨hm, ?_⟩
  intro p e R s m args below meth c H locs ls k0 z0 Q F hW hl hn hS hR h1 h2 kr kx
  exact lv_i2l F.1 F.2.1 hd rfl (k F hW hl hn hS hR h1 h2 kr kx)
theorem r_l2i {x : Int64}  (hd : decode I.2.1 pc = .ok (.l2i, 1)) (k : Run l s0 D cy ad d I (pc + 1) lo (.int x.toInt32 :: st) M res M') : Run l s0 D cy ad d I pc lo (.long x :: st) M res M' := by
  obtain ⟨hm, k⟩ := k
  refine ⟨hm, ?_⟩
  intro p e R s m args below meth c H locs ls k0 z0 Q F hW hl hn hS hR h1 h2 kr kx
  exact lv_l2i F.1 F.2.1 hd rfl (k F hW hl hn hS hR h1 h2 kr kx)
theorem r_i2b {x : Int32}  (hd : decode I.2.1 pc = .ok (.i2b, 1)) (k : Run l s0 D cy ad d I (pc + 1) lo (.int x.toInt8.toInt32 :: st) M res M') : Run l s0 D cy ad d I pc lo (.int x :: st) M res M' := by
  obtain ⟨hm, k⟩ := k
  refine ⟨hm, ?_⟩
  intro p e R s m args below meth c H locs ls k0 z0 Q F hW hl hn hS hR h1 h2 kr kx
  exact lv_i2b F.1 F.2.1 hd rfl (k F hW hl hn hS hR h1 h2 kr kx)
theorem r_lcmp {x y : Int64}  (hd : decode I.2.1 pc = .ok (.lcmp, 1)) (k : Run l s0 D cy ad d I (pc + 1) lo (.int (lg_cmp x y) :: st) M res M') : Run l s0 D cy ad d I pc lo (.long y :: .long x :: st) M res M' := by
  obtain ⟨hm, k⟩ := k
  refine ⟨hm, ?_⟩
  intro p e R s m args below meth c H locs ls k0 z0 Q F hW hl hn hS hR h1 h2 kr kx
  exact W.lcmp F.1 F.2.1 hd  (k F hW hl hn hS hR h1 h2 kr kx)
theorem r_iconst {n : Int} {v : Int32} (hv : Int32.ofInt n = v) (hd : decode I.2.1 pc = .ok (.iconst n, 1)) (k : Run l s0 D cy ad d I (pc + 1) lo (.int v :: st) M res M') : Run l s0 D cy ad d I pc lo (st) M res M' := by
  obtain ⟨hm, k⟩ := k
  refine ⟨hm, ?_⟩
  intro p e R s m args below meth c H locs ls k0 z0 Q F hW hl hn hS hR h1 h2 kr kx
  exact lv_iconst F.1 F.2.1 hd hv (k F hW hl hn hS hR h1 h2 kr kx)
theorem r_bipush {n : Int} {v : Int32} (hv : (Int8.ofInt n).toInt32 = v) (hd : decode I.2.1 pc = .ok (.bipush n, 2)) (k : Run l s0 D cy ad d I (pc + 2) lo (.int v :: st) M res M') : Run l s0 D cy ad d I pc lo (st) M res M' := by
  obtain ⟨hm, k⟩ := k
  refine ⟨hm, ?_⟩
  intro p e R s m args below meth c H locs ls k0 z0 Q F hW hl hn hS hR h1 h2 kr kx
  exact lv_bipush F.1 F.2.1 hd hv (k F hW hl hn hS hR h1 h2 kr kx)
theorem r_sipush {n : Int} {v : Int32} (hv : (Int16.ofInt n).toInt32 = v) (hd : decode I.2.1 pc = .ok (.sipush n, 3)) (k : Run l s0 D cy ad d I (pc + 3) lo (.int v :: st) M res M') : Run l s0 D cy ad d I pc lo (st) M res M' := by
  obtain ⟨hm, k⟩ := k
  refine ⟨hm, ?_⟩
  intro p e R s m args below meth c H locs ls k0 z0 Q F hW hl hn hS hR h1 h2 kr kx
  exact lv_sipush F.1 F.2.1 hd hv (k F hW hl hn hS hR h1 h2 kr kx)
theorem r_lconst {n : Fin 2} {v : Int64} (hv : Int64.ofNat (n : Nat) = v) (hd : decode I.2.1 pc = .ok (.lconst n, 1)) (k : Run l s0 D cy ad d I (pc + 1) lo (.long v :: st) M res M') : Run l s0 D cy ad d I pc lo (st) M res M' := by
  obtain ⟨hm, k⟩ := k
  refine ⟨hm, ?_⟩
  intro p e R s m args below meth c H locs ls k0 z0 Q F hW hl hn hS hR h1 h2 kr kx
  exact lv_lconst F.1 F.2.1 hd hv (k F hW hl hn hS hR h1 h2 kr kx)
theorem r_dup {v : Value} (hv : v.category = 1) (hd : decode I.2.1 pc = .ok (.dup, 1)) (k : Run l s0 D cy ad d I (pc + 1) lo (v :: v :: st) M res M') : Run l s0 D cy ad d I pc lo (v :: st) M res M' := by
  obtain ⟨hm, k⟩ := k
  refine ⟨hm, ?_⟩
  intro p e R s m args below meth c H locs ls k0 z0 Q F hW hl hn hS hR h1 h2 kr kx
  exact lv_dup F.1 F.2.1 hd (by rw [gv_cat]; exact hv) (k F hW hl hn hS hR h1 h2 kr kx)
theorem r_pop {v : Value} (hv : v.category = 1) (hd : decode I.2.1 pc = .ok (.pop, 1)) (k : Run l s0 D cy ad d I (pc + 1) lo st M res M') : Run l s0 D cy ad d I pc lo (v :: st) M res M' := by
  obtain ⟨hm, k⟩ := k
  refine ⟨hm, ?_⟩
  intro p e R s m args below meth c H locs ls k0 z0 Q F hW hl hn hS hR h1 h2 kr kx
  exact lv_pop F.1 F.2.1 hd (by rw [gv_cat]; exact hv) (k F hW hl hn hS hR h1 h2 kr kx)
theorem r_dup2 {v w : Value} (hv : v.category = 1) (hw : w.category = 1) (hd : decode I.2.1 pc = .ok (.dup2, 1)) (k : Run l s0 D cy ad d I (pc + 1) lo (v :: w :: v :: w :: st) M res M') : Run l s0 D cy ad d I pc lo (v :: w :: st) M res M' := by
  obtain ⟨hm, k⟩ := k
  refine ⟨hm, ?_⟩
  intro p e R s m args below meth c H locs ls k0 z0 Q F hW hl hn hS hR h1 h2 kr kx
  exact lv_dup2_11 F.1 F.2.1 hd (by rw [gv_cat]; exact hv) (by rw [gv_cat]; exact hw) (k F hW hl hn hS hR h1 h2 kr kx)
theorem r_iload_n {n : Fin 4} {x : Int32} (hd : decode I.2.1 pc = .ok (.iload_n n, 1)) (hx : lo[(n : Nat)]? = some (.int x)) (k : Run l s0 D cy ad d I (pc + 1) lo (.int x :: st) M res M') : Run l s0 D cy ad d I pc lo st M res M' := by
  obtain ⟨hm, k⟩ := k
  refine ⟨hm, ?_⟩
  intro p e R s m args below meth c H locs ls k0 z0 Q F hW hl hn hS hR h1 h2 kr kx
  exact lv_iload_n F.1 F.2.1 hd rfl (hl.2.2 _ _ hx (fun q => by cases q)) (k F hW hl hn hS hR h1 h2 kr kx)
theorem r_iload {n : Nat} {x : Int32} (hd : decode I.2.1 pc = .ok (.iload n, 2)) (hx : lo[n]? = some (.int x)) (k : Run l s0 D cy ad d I (pc + 2) lo (.int x :: st) M res M') : Run l s0 D cy ad d I pc lo st M res M' := by
  obtain ⟨hm, k⟩ := k
  refine ⟨hm, ?_⟩
  intro p e R s m args below meth c H locs ls k0 z0 Q F hW hl hn hS hR h1 h2 kr kx
  exact lv_iload F.1 F.2.1 hd (hl.2.2 _ _ hx (fun q => by cases q)) (k F hW hl hn hS hR h1 h2 kr kx)
theorem r_lload_n {n : Fin 4} {x : Int64} (hd : decode I.2.1 pc = .ok (.lload_n n, 1)) (hx : lo[(n : Nat)]? = some (.long x)) (k : Run l s0 D cy ad d I (pc + 1) lo (.long x :: st) M res M') : Run l s0 D cy ad d I pc lo st M res M' := by
  obtain ⟨hm, k⟩ := k
  refine ⟨hm, ?_⟩
  intro p e R s m args below meth c H locs ls k0 z0 Q F hW hl hn hS hR h1 h2 kr kx
  exact lv_lload_n F.1 F.2.1 hd rfl (hl.2.2 _ _ hx (fun q => by cases q)) (k F hW hl hn hS hR h1 h2 kr kx)
theorem r_lload {n : Nat} {x : Int64} (hd : decode I.2.1 pc = .ok (.lload n, 2)) (hx : lo[n]? = some (.long x)) (k : Run l s0 D cy ad d I (pc + 2) lo (.long x :: st) M res M') : Run l s0 D cy ad d I pc lo st M res M' := by
  obtain ⟨hm, k⟩ := k
  refine ⟨hm, ?_⟩
  intro p e R s m args below meth c H locs ls k0 z0 Q F hW hl hn hS hR h1 h2 kr kx
  exact lv_lload F.1 F.2.1 hd (hl.2.2 _ _ hx (fun q => by cases q)) (k F hW hl hn hS hR h1 h2 kr kx)
theorem r_aload_n {n : Fin 4} {x : Nat} (hd : decode I.2.1 pc = .ok (.aload_n n, 1)) (hx : lo[(n : Nat)]? = some (.ref x)) (k : Run l s0 D cy ad d I (pc + 1) lo (.ref x :: st) M res M') : Run l s0 D cy ad d I pc lo st M res M' := by
  obtain ⟨hm, k⟩ := k
  refine ⟨hm, ?_⟩
  intro p e R s m args below meth c H locs ls k0 z0 Q F hW hl hn hS hR h1 h2 kr kx
  exact lv_aload_n F.1 F.2.1 hd rfl (hl.2.2 _ _ hx (fun q => by cases q)) (k F hW hl hn hS hR h1 h2 kr kx)
theorem r_aload {n : Nat} {x : Nat} (hd : decode I.2.1 pc = .ok (.aload n, 2)) (hx : lo[n]? = some (.ref x)) (k : Run l s0 D cy ad d I (pc + 2) lo (.ref x :: st) M res M') : Run l s0 D cy ad d I pc lo st M res M' := by
  obtain ⟨hm, k⟩ := k
  refine ⟨hm, ?_⟩
  intro p e R s m args below meth c H locs ls k0 z0 Q F hW hl hn hS hR h1 h2 kr kx
  exact lv_aload F.1 F.2.1 hd (hl.2.2 _ _ hx (fun q => by cases q)) (k F hW hl hn hS hR h1 h2 kr kx)
theorem r_istore_n {n : Fin 4} {x : Int32} {lo2 : List Value} (hd : decode I.2.1 pc = .ok (.istore_n n, 1)) (hi : (n : Nat) < lo.length) (h2 : st1 lo n (.int x) = lo2) (k : Run l s0 D cy ad d I (pc + 1) lo2 st M res M') : Run l s0 D cy ad d I pc lo (.int x :: st) M res M' := by
  have hlen : lo2.length = lo.length := by rw [← h2, st1_len]
  obtain ⟨hm, k⟩ := k
  refine ⟨hm, ?_⟩
  intro p e R s m args below meth c H locs ls k0 z0 Q F hW hl hn hS hR h1 h9 kr kx
  refine lv_istore_n F.1 F.2.1 hd rfl hl.has hi rfl (fun ls' hl' => ?_)
  exact k F hW (by rw [← h2]; exact LR.st1 (v := .int x) hi hl') (by rw [hlen]; exact hn) hS hR h1 h9 kr kx
theorem r_istore {n : Nat} {x : Int32} {lo2 : List Value} (hd : decode I.2.1 pc = .ok (.istore n, 2)) (hi : n < lo.length) (h2 : st1 lo n (.int x) = lo2) (k : Run l s0 D cy ad d I (pc + 2) lo2 st M res M') : Run l s0 D cy ad d I pc lo (.int x :: st) M res M' := by
  have hlen : lo2.length = lo.length := by rw [← h2, st1_len]
  obtain ⟨hm, k⟩ := k
  refine ⟨hm, ?_⟩
  intro p e R s m args below meth c H locs ls k0 z0 Q F hW hl hn hS hR h1 h9 kr kx
  refine lv_istore F.1 F.2.1 hd hl.has hi rfl (fun ls' hl' => ?_)
  exact k F hW (by rw [← h2]; exact LR.st1 (v := .int x) hi hl') (by rw [hlen]; exact hn) hS hR h1 h9 kr kx
theorem r_astore_n {n : Fin 4} {x : Nat} {lo2 : List Value} (hd : decode I.2.1 pc = .ok (.astore_n n, 1)) (hi : (n : Nat) < lo.length) (h2 : st1 lo n (.ref x) = lo2) (k : Run l s0 D cy ad d I (pc + 1) lo2 st M res M') : Run l s0 D cy ad d I pc lo (.ref x :: st) M res M' := by
  have hlen : lo2.length = lo.length := by rw [← h2, st1_len]
  obtain ⟨hm, k⟩ := k
  refine ⟨hm, ?_⟩
  intro p e R s m args below meth c H locs ls k0 z0 Q F hW hl hn hS hR h1 h9 kr kx
  refine lv_astore_n F.1 F.2.1 hd rfl hl.has hi rfl (fun ls' hl' => ?_)
  exact k F hW (by rw [← h2]; exact LR.st1 (v := .ref x) hi hl') (by rw [hlen]; exact hn) hS hR h1 h9 kr kx
theorem r_astore {n : Nat} {x : Nat} {lo2 : List Value} (hd : decode I.2.1 pc = .ok (.astore n, 2)) (hi : n < lo.length) (h2 : st1 lo n (.ref x) = lo2) (k : Run l s0 D cy ad d I (pc + 2) lo2 st M res M') : Run l s0 D cy ad d I pc lo (.ref x :: st) M res M' := by
  have hlen : lo2.length = lo.length := by rw [← h2, st1_len]
  obtain ⟨hm, k⟩ := k
  refine ⟨hm, ?_⟩
  intro p e R s m args below meth c H locs ls k0 z0 Q F hW hl hn hS hR h1 h9 kr kx
  refine lv_astore F.1 F.2.1 hd hl.has hi rfl (fun ls' hl' => ?_)
  exact k F hW (by rw [← h2]; exact LR.st1 (v := .ref x) hi hl') (by rw [hlen]; exact hn) hS hR h1 h9 kr kx
theorem r_lstore_n {n : Fin 4} {x : Int64} {lo2 : List Value} (hd : decode I.2.1 pc = .ok (.lstore_n n, 1)) (hi : (n : Nat) + 1 < lo.length) (h2 : st2 lo n (.long x) = lo2) (k : Run l s0 D cy ad d I (pc + 1) lo2 st M res M') : Run l s0 D cy ad d I pc lo (.long x :: st) M res M' := by
  have hlen : lo2.length = lo.length := by rw [← h2, st2_len]
  obtain ⟨hm, k⟩ := k
  refine ⟨hm, ?_⟩
  intro p e R s m args below meth c H locs ls k0 z0 Q F hW hl hn hS hR h1 h9 kr kx
  refine lv_lstore_n F.1 F.2.1 hd rfl hl.has hi rfl (fun ls' hl' => ?_)
  exact k F hW (by rw [← h2]; exact LR.st2 (v := .long x) hi hl') (by rw [hlen]; exact hn) hS hR h1 h9 kr kx
theorem r_lstore {n : Nat} {x : Int64} {lo2 : List Value} (hd : decode I.2.1 pc = .ok (.lstore n, 2)) (hi : n + 1 < lo.length) (h2 : st2 lo n (.long x) = lo2) (k : Run l s0 D cy ad d I (pc + 2) lo2 st M res M') : Run l s0 D cy ad d I pc lo (.long x :: st) M res M' := by
  have hlen : lo2.length = lo.length := by rw [← h2, st2_len]
  obtain ⟨hm, k⟩ := k
  refine ⟨hm, ?_⟩
  intro p e R s m args below meth c H locs ls k0 z0 Q F hW hl hn hS hR h1 h9 kr kx
  refine lv_lstore F.1 F.2.1 hd hl.has hi rfl (fun ls' hl' => ?_)
  exact k F hW (by rw [← h2]; exact LR.st2 (v := .long x) hi hl') (by rw [hlen]; exact hn) hS hR h1 h9 kr kx
theorem r_iinc {n : Nat} {j : Int} {x v : Int32} {lo2 : List Value} (hd : decode I.2.1 pc = .ok (.iinc n j, 3)) (hx : lo[n]? = some (.int x)) (hv : x + Int32.ofInt j = v) (h2 : st1 lo n (.int v) = lo2) (k : Run l s0 D cy ad d I (pc + 3) lo2 st M res M') : Run l s0 D cy ad d I pc lo st M res M' := by
  have hlen : lo2.length = lo.length := by rw [← h2, st1_len]
  have hi : n < lo.length := (List.getElem?_eq_some_iff.mp hx).1
  obtain ⟨hm, k⟩ := k
  refine ⟨hm, ?_⟩
  intro p e R s m args below meth c H locs ls k0 z0 Q F hW hl hn hS hR h1 h9 kr kx
  obtain ⟨w, hw⟩ := List.getElem?_of_mem (prs_mem (ad := ad) hx (fun q => by cases q))
  refine lv_iinc F.1 F.2.1 hd hl.has hw hv hi rfl (fun ls' hl' => ?_)
  exact k F hW (by rw [← h2]; exact LR.st1 (v := .int v) hi hl') (by rw [hlen]; exact hn) hS hR h1 h9 kr kx
theorem r_iincW {n : Nat} {j : Int} {x v : Int32} {lo2 : List Value} (hd : decode I.2.1 pc = .ok (.iinc n j, 6)) (hx : lo[n]? = some (.int x)) (hv : x + Int32.ofInt j = v) (h2 : st1 lo n (.int v) = lo2) (k : Run l s0 D cy ad d I (pc + 6) lo2 st M res M') : Run l s0 D cy ad d I pc lo st M res M' := by
  have hlen : lo2.length = lo.length := by rw [← h2, st1_len]
  have hi : n < lo.length := (List.getElem?_eq_some_iff.mp hx).1
  obtain ⟨hm, k⟩ := k
  refine ⟨hm, ?_⟩
  intro p e R s m args below meth c H locs ls k0 z0 Q F hW hl hn hS hR h1 h9 kr kx
  obtain ⟨w, hw⟩ := List.getElem?_of_mem (prs_mem (ad := ad) hx (fun q => by cases q))
  refine lv_iincW F.1 F.2.1 hd hl.has hw hv hi rfl (fun ls' hl' => ?_)
  exact k F hW (by rw [← h2]; exact LR.st1 (v := .int v) hi hl') (by rw [hlen]; exact hn) hS hR h1 h9 kr kx
theorem r_goto {off : Int} {tgt : Nat} (hd : decode I.2.1 pc = .ok (.goto off, 3)) (ht : (pc : Int) + off = (tgt : Int)) (k : Run l s0 D cy ad d I tgt lo st M res M') : Run l s0 D cy ad d I pc lo st M res M' := by
  obtain ⟨hm, k⟩ := k
  refine ⟨hm, ?_⟩
  intro p e R s m args below meth c H locs ls k0 z0 Q F hW hl hn hS hR h1 h2 kr kx
  exact lv_goto F.1 F.2.1 hd ht (k F hW hl hn hS hR h1 h2 kr kx)
theorem r_icmp_eq {x y : Int32} {off : Int} {tgt : Nat} (hd : decode I.2.1 pc = .ok (.if_icmp .eq off, 3)) (ht : (pc : Int) + off = (tgt : Int)) (kt : (x = y) → Run l s0 D cy ad d I tgt lo st M res M') (kf : ¬ (x = y) → Run l s0 D cy ad d I (pc + 3) lo st M res M') : Run l s0 D cy ad d I pc lo (.int y :: .int x :: st) M res M' := by
  by_cases hc : (x = y)
  · have k := kt hc
    obtain ⟨hm, k⟩ := k
    refine ⟨hm, ?_⟩
    intro p e R s m args below meth c H locs ls k0 z0 Q F hW hl hn hS hR h1 h2 kr kx
    exact lv_icmp_eq F.1 F.2.1 hd ht (fun _ => (k F hW hl hn hS hR h1 h2 kr kx)) (fun q => absurd hc q)
  · have k := kf hc
    obtain ⟨hm, k⟩ := k
    refine ⟨hm, ?_⟩
    intro p e R s m args below meth c H locs ls k0 z0 Q F hW hl hn hS hR h1 h2 kr kx
    exact lv_icmp_eq F.1 F.2.1 hd ht (fun q => absurd q hc) (fun _ => (k F hW hl hn hS hR h1 h2 kr kx))
theorem r_if_eq {x : Int32} {off : Int} {tgt : Nat} (hd : decode I.2.1 pc = .ok (.ifCond .eq off, 3)) (ht : (pc : Int) + off = (tgt : Int)) (kt : (x = 0) → Run l s0 D cy ad d I tgt lo st M res M') (kf : ¬ (x = 0) → Run l s0 D cy ad d I (pc + 3) lo st M res M') : Run l s0 D cy ad d I pc lo (.int x :: st) M res M' := by
  by_cases hc : (x = 0)
  · have k := kt hc
    obtain ⟨hm, k⟩ := k
    refine ⟨hm, ?_⟩
    intro p e R s m args below meth c H locs ls k0 z0 Q F hW hl hn hS hR h1 h2 kr kx
    exact lv_if_eq F.1 F.2.1 hd ht (fun _ => (k F hW hl hn hS hR h1 h2 kr kx)) (fun q => absurd hc q)
  · have k := kf hc
    obtain ⟨hm, k⟩ := k
    refine ⟨hm, ?_⟩
    intro p e R s m args below meth c H locs ls k0 z0 Q F hW hl hn hS hR h1 h2 kr kx
    exact lv_if_eq F.1 F.2.1 hd ht (fun q => absurd q hc) (fun _ => (k F hW hl hn hS hR h1 h2 kr kx))
theorem r_icmp_ne {x y : Int32} {off : Int} {tgt : Nat} (hd : decode I.2.1 pc = .ok (.if_icmp .ne off, 3)) (ht : (pc : Int) + off = (tgt : Int)) (kt : ¬ x = y → Run l s0 D cy ad d I tgt lo st M res M') (kf : x = y → Run l s0 D cy ad d I (pc + 3) lo st M res M') : Run l s0 D cy ad d I pc lo (.int y :: .int x :: st) M res M' := by
  by_cases hc : x = y
  · have k := kf hc
    obtain ⟨hm, k⟩ := k
    refine ⟨hm, ?_⟩
    intro p e R s m args below meth c H locs ls k0 z0 Q F hW hl hn hS hR h1 h2 kr kx
    exact lv_icmp_ne F.1 F.2.1 hd ht (fun q => absurd hc q) (fun _ => (k F hW hl hn hS hR h1 h2 kr kx))
  · have k := kt hc
    obtain ⟨hm, k⟩ := k
    refine ⟨hm, ?_⟩
    intro p e R s m args below meth c H locs ls k0 z0 Q F hW hl hn hS hR h1 h2 kr kx
    exact lv_icmp_ne F.1 F.2.1 hd ht (fun _ => (k F hW hl hn hS hR h1 h2 kr kx)) (fun q => absurd q hc)
theorem r_if_ne {x : Int32} {off : Int} {tgt : Nat} (hd : decode I.2.1 pc = .ok (.ifCond .ne off, 3)) (ht : (pc : Int) + off = (tgt : Int)) (kt : ¬ x = 0 → Run l s0 D cy ad d I tgt lo st M res M') (kf : x = 0 → Run l s0 D cy ad d I (pc + 3) lo st M res M') : Run l s0 D cy ad d I pc lo (.int x :: st) M res M' := by
  by_cases hc : x = 0
  · have k := kf hc
    obtain ⟨hm, k⟩ := k
    refine ⟨hm, ?_⟩
    intro p e R s m args below meth c H locs ls k0 z0 Q F hW hl hn hS hR h1 h2 kr kx
    exact lv_if_ne F.1 F.2.1 hd ht (fun q => absurd hc q) (fun _ => (k F hW hl hn hS hR h1 h2 kr kx))
  · have k := kt hc
    obtain ⟨hm, k⟩ := k
    refine ⟨hm, ?_⟩
    intro p e R s m args below meth c H locs ls k0 z0 Q F hW hl hn hS hR h1 h2 kr kx
    exact lv_if_ne F.1 F.2.1 hd ht (fun _ => (k F hW hl hn hS hR h1 h2 kr kx)) (fun q => absurd q hc)
theorem r_icmp_lt {x y : Int32} {off : Int} {tgt : Nat} (hd : decode I.2.1 pc = .ok (.if_icmp .lt off, 3)) (ht : (pc : Int) + off = (tgt : Int)) (kt : (x < y) → Run l s0 D cy ad d I tgt lo st M res M') (kf : ¬ (x < y) → Run l s0 D cy ad d I (pc + 3) lo st M res M') : Run l s0 D cy ad d I pc lo (.int y :: .int x :: st) M res M' := by
  by_cases hc : (x < y)
  · have k := kt hc
    obtain ⟨hm, k⟩ := k
    refine ⟨hm, ?_⟩
    intro p e R s m args below meth c H locs ls k0 z0 Q F hW hl hn hS hR h1 h2 kr kx
    exact lv_icmp_lt F.1 F.2.1 hd ht (fun _ => (k F hW hl hn hS hR h1 h2 kr kx)) (fun q => absurd hc q)
  · have k := kf hc
    obtain ⟨hm, k⟩ := k
    refine ⟨hm, ?_⟩
    intro p e R s m args below meth c H locs ls k0 z0 Q F hW hl hn hS hR h1 h2 kr kx
    exact lv_icmp_lt F.1 F.2.1 hd ht (fun q => absurd q hc) (fun _ => (k F hW hl hn hS hR h1 h2 kr kx))
theorem r_if_lt {x : Int32} {off : Int} {tgt : Nat} (hd : decode I.2.1 pc = .ok (.ifCond .lt off, 3)) (ht : (pc : Int) + off = (tgt : Int)) (kt : (x < 0) → Run l s0 D cy ad d I tgt lo st M res M') (kf : ¬ (x < 0) → Run l s0 D cy ad d I (pc + 3) lo st M res M') : Run l s0 D cy ad d I pc lo (.int x :: st) M res M' := by
  by_cases hc : (x < 0)
  · have k := kt hc
    obtain ⟨hm, k⟩ := k
    refine ⟨hm, ?_⟩
    intro p e R s m args below meth c H locs ls k0 z0 Q F hW hl hn hS hR h1 h2 kr kx
    exact lv_if_lt F.1 F.2.1 hd ht (fun _ => (k F hW hl hn hS hR h1 h2 kr kx)) (fun q => absurd hc q)
  · have k := kf hc
    obtain ⟨hm, k⟩ := k
    refine ⟨hm, ?_⟩
    intro p e R s m args below meth c H locs ls k0 z0 Q F hW hl hn hS hR h1 h2 kr kx
    exact lv_if_lt F.1 F.2.1 hd ht (fun q => absurd q hc) (fun _ => (k F hW hl hn hS hR h1 h2 kr kx))
theorem r_icmp_ge {x y : Int32} {off : Int} {tgt : Nat} (hd : decode I.2.1 pc = .ok (.if_icmp .ge off, 3)) (ht : (pc : Int) + off = (tgt : Int)) (kt : (y ≤ x) → Run l s0 D cy ad d I tgt lo st M res M') (kf : ¬ (y ≤ x) → Run l s0 D cy ad d I (pc + 3) lo st M res M') : Run l s0 D cy ad d I pc lo (.int y :: .int x :: st) M res M' := by
  by_cases hc : (y ≤ x)
  · have k := kt hc
    obtain ⟨hm, k⟩ := k
    refine ⟨hm, ?_⟩
    intro p e R s m args below meth c H locs ls k0 z0 Q F hW hl hn hS hR h1 h2 kr kx
    exact lv_icmp_ge F.1 F.2.1 hd ht (fun _ => (k F hW hl hn hS hR h1 h2 kr kx)) (fun q => absurd hc q)
  · have k := kf hc
    obtain ⟨hm, k⟩ := k
    refine ⟨hm, ?_⟩
    intro p e R s m args below meth c H locs ls k0 z0 Q F hW hl hn hS hR h1 h2 kr kx
    exact lv_icmp_ge F.1 F.2.1 hd ht (fun q => absurd q hc) (fun _ => (k F hW hl hn hS hR h1 h2 kr kx))
theorem r_if_ge {x : Int32} {off : Int} {tgt : Nat} (hd : decode I.2.1 pc = .ok (.ifCond .ge off, 3)) (ht : (pc : Int) + off = (tgt : Int)) (kt : (0 ≤ x) → Run l s0 D cy ad d I tgt lo st M res M') (kf : ¬ (0 ≤ x) → Run l s0 D cy ad d I (pc + 3) lo st M res M') : Run l s0 D cy ad d I pc lo (.int x :: st) M res M' := by
  by_cases hc : (0 ≤ x)
  · have k := kt hc
    obtain ⟨hm, k⟩ := k
    refine ⟨hm, ?_⟩
    intro p e R s m args below meth c H locs ls k0 z0 Q F hW hl hn hS hR h1 h2 kr kx
    exact lv_if_ge F.1 F.2.1 hd ht (fun _ => (k F hW hl hn hS hR h1 h2 kr kx)) (fun q => absurd hc q)
  · have k := kf hc
    obtain ⟨hm, k⟩ := k
    refine ⟨hm, ?_⟩
    intro p e R s m args below meth c H locs ls k0 z0 Q F hW hl hn hS hR h1 h2 kr kx
    exact lv_if_ge F.1 F.2.1 hd ht (fun q => absurd q hc) (fun _ => (k F hW hl hn hS hR h1 h2 kr kx))
theorem r_icmp_gt {x y : Int32} {off : Int} {tgt : Nat} (hd : decode I.2.1 pc = .ok (.if_icmp .gt off, 3)) (ht : (pc : Int) + off = (tgt : Int)) (kt : (y < x) → Run l s0 D cy ad d I tgt lo st M res M') (kf : ¬ (y < x) → Run l s0 D cy ad d I (pc + 3) lo st M res M') : Run l s0 D cy ad d I pc lo (.int y :: .int x :: st) M res M' := by
  by_cases hc : (y < x)
  · have k := kt hc
    obtain ⟨hm, k⟩ := k
    refine ⟨hm, ?_⟩
    intro p e R s m args below meth c H locs ls k0 z0 Q F hW hl hn hS hR h1 h2 kr kx
    exact lv_icmp_gt F.1 F.2.1 hd ht (fun _ => (k F hW hl hn hS hR h1 h2 kr kx)) (fun q => absurd hc q)
  · have k := kf hc
    obtain ⟨hm, k⟩ := k
    refine ⟨hm, ?_⟩
    intro p e R s m args below meth c H locs ls k0 z0 Q F hW hl hn hS hR h1 h2 kr kx
    exact lv_icmp_gt F.1 F.2.1 hd ht (fun q => absurd q hc) (fun _ => (k F hW hl hn hS hR h1 h2 kr kx))
theorem r_if_gt {x : Int32} {off : Int} {tgt : Nat} (hd : decode I.2.1 pc = .ok (.ifCond .gt off, 3)) (ht : (pc : Int) + off = (tgt : Int)) (kt : (0 < x) → Run l s0 D cy ad d I tgt lo st M res M') (kf : ¬ (0 < x) → Run l s0 D cy ad d I (pc + 3) lo st M res M') : Run l s0 D cy ad d I pc lo (.int x :: st) M res M' := by
  by_cases hc : (0 < x)
  · have k := kt hc
    obtain ⟨hm, k⟩ := k
    refine ⟨hm, ?_⟩
    intro p e R s m args below meth c H locs ls k0 z0 Q F hW hl hn hS hR h1 h2 kr kx
    exact lv_if_gt F.1 F.2.1 hd ht (fun _ => (k F hW hl hn hS hR h1 h2 kr kx)) (fun q => absurd hc q)
  · have k := kf hc
    obtain ⟨hm, k⟩ := k
    refine ⟨hm, ?_⟩
    intro p e R s m args below meth c H locs ls k0 z0 Q F hW hl hn hS hR h1 h2 kr kx
    exact lv_if_gt F.1 F.2.1 hd ht (fun q => absurd q hc) (fun _ => (k F hW hl hn hS hR h1 h2 kr kx))
theorem r_icmp_le {x y : Int32} {off : Int} {tgt : Nat} (hd : decode I.2.1 pc = .ok (.if_icmp .le off, 3)) (ht : (pc : Int) + off = (tgt : Int)) (kt : (x ≤ y) → Run l s0 D cy ad d I tgt lo st M res M') (kf : ¬ (x ≤ y) → Run l s0 D cy ad d I (pc + 3) lo st M res M') : Run l s0 D cy ad d I pc lo (.int y :: .int x :: st) M res M' := by
  by_cases hc : (x ≤ y)
  · have k := kt hc
    obtain ⟨hm, k⟩ := k
    refine ⟨hm, ?_⟩
    intro p e R s m args below meth c H locs ls k0 z0 Q F hW hl hn hS hR h1 h2 kr kx
    exact lv_icmp_le F.1 F.2.1 hd ht (fun _ => (k F hW hl hn hS hR h1 h2 kr kx)) (fun q => absurd hc q)
  · have k := kf hc
    obtain ⟨hm, k⟩ := k
    refine ⟨hm, ?_⟩
    intro p e R s m args below meth c H locs ls k0 z0 Q F hW hl hn hS hR h1 h2 kr kx
    exact lv_icmp_le F.1 F.2.1 hd ht (fun q => absurd q hc) (fun _ => (k F hW hl hn hS hR h1 h2 kr kx))
theorem r_if_le {x : Int32} {off : Int} {tgt : Nat} (hd : decode I.2.1 pc = .ok (.ifCond .le off, 3)) (ht : (pc : Int) + off = (tgt : Int)) (kt : (x ≤ 0) → Run l s0 D cy ad d I tgt lo st M res M') (kf : ¬ (x ≤ 0) → Run l s0 D cy ad d I (pc + 3) lo st M res M') : Run l s0 D cy ad d I pc lo (.int x :: st) M res M' := by
  by_cases hc : (x ≤ 0)
  · have k := kt hc
    obtain ⟨hm, k⟩ := k
    refine ⟨hm, ?_⟩
    intro p e R s m args below meth c H locs ls k0 z0 Q F hW hl hn hS hR h1 h2 kr kx
    exact lv_if_le F.1 F.2.1 hd ht (fun _ => (k F hW hl hn hS hR h1 h2 kr kx)) (fun q => absurd hc q)
  · have k := kf hc
    obtain ⟨hm, k⟩ := k
    refine ⟨hm, ?_⟩
    intro p e R s m args below meth c H locs ls k0 z0 Q F hW hl hn hS hR h1 h2 kr kx
    exact lv_if_le F.1 F.2.1 hd ht (fun q => absurd q hc) (fun _ => (k F hW hl hn hS hR h1 h2 kr kx))
theorem r_tabIn {dflt lw hi : Int} {offs : Array Int} {len : Nat} {x : Int32} {off : Int} {tgt : Nat} (hd : decode I.2.1 pc = .ok (.tableswitch dflt lw hi offs, len)) (g1 : ¬ x.toInt < lw) (g2 : ¬ hi < x.toInt) (ho : offs[(x.toInt - lw).toNat]? = some off) (ht : (pc : Int) + off = (tgt : Int)) (k : Run l s0 D cy ad d I tgt lo st M res M') : Run l s0 D cy ad d I pc lo (.int x :: st) M res M' := by
  obtain ⟨hm, k⟩ := k
  refine ⟨hm, ?_⟩
  intro p e R s m args below meth c H locs ls k0 z0 Q F hW hl hn hS hR h1 h2 kr kx
  exact lv_tableIn F.1 F.2.1 hd g1 g2 ho ht (k F hW hl hn hS hR h1 h2 kr kx)
theorem r_tabOut {dflt lw hi : Int} {offs : Array Int} {len : Nat} {x : Int32} {tgt : Nat} (hd : decode I.2.1 pc = .ok (.tableswitch dflt lw hi offs, len)) (g1 : x.toInt < lw ∨ hi < x.toInt) (ht : (pc : Int) + dflt = (tgt : Int)) (k : Run l s0 D cy ad d I tgt lo st M res M') : Run l s0 D cy ad d I pc lo (.int x :: st) M res M' := by
  obtain ⟨hm, k⟩ := k
  refine ⟨hm, ?_⟩
  intro p e R s m args below meth c H locs ls k0 z0 Q F hW hl hn hS hR h1 h2 kr kx
  exact lv_tableOut F.1 F.2.1 hd g1 ht (k F hW hl hn hS hR h1 h2 kr kx)
theorem r_look {dflt : Int} {ps : Array (Int × Int)} {len : Nat} {x : Int32} {off : Int} {tgt : Nat} (hd : decode I.2.1 pc = .ok (.lookupswitch dflt ps, len)) (hp : (ps.toList.zip (ps.toList.drop 1)).all (fun (a, next) => a.1 < next.1) = true) (ho : Op.lookupswitch.offset ps.toList dflt x.toInt = off) (ht : (pc : Int) + off = (tgt : Int)) (k : Run l s0 D cy ad d I tgt lo st M res M') : Run l s0 D cy ad d I pc lo (.int x :: st) M res M' := by
  obtain ⟨hm, k⟩ := k
  refine ⟨hm, ?_⟩
  intro p e R s m args below meth c H locs ls k0 z0 Q F hW hl hn hS hR h1 h2 kr kx
  exact lv_lookup F.1 F.2.1 hd hp ho ht (k F hW hl hn hS hR h1 h2 kr kx)
theorem r_return  (hd : decode I.2.1 pc = .ok (.return_, 1)) : Run l s0 D cy ad d I pc lo ([]) M (.inl (none)) M := by
  refine ⟨⟨Nat.le_refl _, Nat.le_refl _, fun h => h⟩, ?_⟩
  intro p e R s m args below meth c H locs ls k0 z0 Q F hW hl hn hS hR h1 h2 kr kx
  exact kr _ pc ls H locs rfl hd hW hS
theorem r_ireturn {x : Int32} (hd : decode I.2.1 pc = .ok (.ireturn, 1)) : Run l s0 D cy ad d I pc lo ([.int x]) M (.inl (some (.int x))) M := by
  refine ⟨⟨Nat.le_refl _, Nat.le_refl _, fun h => h⟩, ?_⟩
  intro p e R s m args below meth c H locs ls k0 z0 Q F hW hl hn hS hR h1 h2 kr kx
  exact kr _ pc ls H locs rfl hd hW hS
theorem r_lreturn {x : Int64} (hd : decode I.2.1 pc = .ok (.lreturn, 1)) : Run l s0 D cy ad d I pc lo ([.long x]) M (.inl (some (.long x))) M := by
  refine ⟨⟨Nat.le_refl _, Nat.le_refl _, fun h => h⟩, ?_⟩
  intro p e R s m args below meth c H locs ls k0 z0 Q F hW hl hn hS hR h1 h2 kr kx
  exact kr _ pc ls H locs rfl hd hW hS
theorem r_areturn {x : Nat} (hd : decode I.2.1 pc = .ok (.areturn, 1)) : Run l s0 D cy ad d I pc lo ([.ref x]) M (.inl (some (.ref x))) M := by
  refine ⟨⟨Nat.le_refl _, Nat.le_refl _, fun h => h⟩, ?_⟩
  intro p e R s m args below meth c H locs ls k0 z0 Q F hW hl hn hS hR h1 h2 kr kx
  exact kr _ pc ls H locs rfl hd hW hS
end RL
