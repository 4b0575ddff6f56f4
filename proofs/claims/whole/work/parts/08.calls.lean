/-! calls: a method's run gives its call, a call's rule -/
def entL : List Value → List Value
  | [] => []
  | .long x :: t => .long x :: .null :: entL t
  | v :: t => v :: entL t
def entLo (as : List Value) (n : Nat) : List Value := entL as ++ List.replicate (n - (entL as).length) .null
theorem lv_args_mem {ad : Nat → Nat} : ∀ (as : List Value) (k i : Nat) (v : Value), (∀ x ∈ as, ∀ y, x ≠ .double y) → (entL as)[i]? = some v → v ≠ .null → (k + i, gv ad v) ∈ lv_args k (as.map (gv ad)) := by
  intro as
  induction as with
  | nil => intro k i v _ h _; cases h
  | cons w t ih =>
    intro k i v hd h hv
    have hd' : ∀ x ∈ t, ∀ y, x ≠ .double y := fun x hx => hd x (List.mem_cons_of_mem _ hx)
    show (k + i, gv ad v) ∈ (k, gv ad w) :: lv_args (if (gv ad w).category = 2 then k + 2 else k + 1) (t.map (gv ad))
    rw [gv_cat]
    have one : w.category ≠ 2 → entL (w :: t) = w :: entL t := by
      intro hc
      cases w <;> first | rfl | exact absurd rfl hc
    by_cases hc : w.category = 2
    · obtain ⟨x, rfl⟩ : ∃ x, w = .long x := by
        cases w with
        | long x => exact ⟨x, rfl⟩
        | double y => exact absurd rfl (hd _ List.mem_cons_self y)
        | _ => cases hc
      rw [if_pos hc]
      match i, h with
      | 0, h => cases h; exact List.mem_cons_self
      | 1, h => cases h; exact absurd rfl hv
      | i + 2, h =>
        have h : (entL t)[i]? = some v := h
        have := ih (k + 2) i v hd' h hv
        rw [show k + (i + 2) = k + 2 + i by omega]
        exact List.mem_cons_of_mem _ this
    · rw [if_neg hc]
      rw [one hc] at h
      match i, h with
      | 0, h => cases h; exact List.mem_cons_self
      | i + 1, h =>
        have h : (entL t)[i]? = some v := h
        have := ih (k + 1) i v hd' h hv
        rw [show k + (i + 1) = k + 1 + i by omega]
        exact List.mem_cons_of_mem _ this
theorem lg_sl_len {ad : Nat → Nat} : ∀ (as : List Value), (∀ x ∈ as, ∀ y, x ≠ .double y) → (lg_sl (as.map (gv ad))).length = (entL as).length := by
  intro as
  induction as with
  | nil => intro _; rfl
  | cons w t ih =>
    intro hd
    have := ih (fun x hx => hd x (List.mem_cons_of_mem _ hx))
    cases w with
    | double y => exact absurd rfl (hd _ List.mem_cons_self y)
    | _ => simp [lg_sl, entL, gv, Value.category] at this ⊢ <;> omega
theorem LR.entry {ad : Nat → Nat} {as : List Value} {n : Nat} (hd : ∀ x ∈ as, ∀ y, x ≠ .double y) (hn : (entL as).length ≤ n) : LR ad (((lg_sl (as.map (gv ad))) ++ List.replicate (n - (lg_sl (as.map (gv ad))).length) Slot.unset).toArray) (entLo as n) ∧ (entLo as n).length = n := by
  have hl : (lg_sl (as.map (gv ad))).length ≤ n := by rw [lg_sl_len as hd]; exact hn
  have h := lv_entry (as.map (gv ad)) hl
  have hlen : (entLo as n).length = n := by simp [entLo]; omega
  refine ⟨⟨by rw [hlen]; exact h.1, h.2.1, fun i v hi hv => ?_⟩, hlen⟩
  have hi' : (entL as)[i]? = some v := by
    unfold entLo at hi
    by_cases hlt : i < (entL as).length
    · rwa [List.getElem?_append_left hlt] at hi
    · rw [List.getElem?_append_right (by omega)] at hi
      have := List.getElem?_replicate (a := (Value.null)) (n := n - (entL as).length) (i := i - (entL as).length)
      rw [this] at hi
      split at hi
      · cases hi; exact absurd rfl hv
      · cases hi
  have := lv_args_mem (ad := ad) as 0 i v hd hi' hv
  rw [Nat.zero_add] at this
  exact h.2.2 _ this
def rOK (rt : Option FieldType) (res : Rs) : Prop := match res with
  | .inr _ => True
  | .inl none => rt = none
  | .inl (some (.int v)) => ∃ ty, rt = some ty ∧ narrow ty (.int v) = .int v
  | .inl (some (.long _)) => rt = some .long
  | .inl (some (.ref _)) => ∃ t, rt = some t ∧ ((∃ n, t = .object n) ∨ ∃ u, t = .array u)
  | _ => False
section RC
variable {l : Launch} {s0 : State} {b L : Nat} {xs : Nat → Int32} {D : va_G} {cy : Nat → ClassId} {ad : Nat → Nat} {d : Nat} {I : MI} {pc : Nat} {lo st : List Value} {M M' : Mm} {res : Rs}
/-- the body's end: what the contract asks -/
theorem fin_run {as : List Value} (hok : rOK I.2.2.2.1 res) (hr : Run l s0 D cy ad d I 0 lo [] M res M')
    {p : Program} {e : Env} {s : State} {m : MethodId} {args : Array Value} {below : List Frame} {meth : Method} {c : Code} {ls : Array Slot}
    (F : Fx s0 I p s m meth c) (hW : Wc s0 D cy ad s M) (hl : LR ad ls lo) (hn : lo.length = I.2.2.1) :
    W p l e (rmK d (zC M' - zC M) (zS M' - zS M)) s m args below meth c s.heap [] 0 0 (vx_MQ below (QC s0 D cy ad res M') (XC s0 D cy ad res M') args s (zC M' - zC M) (zS M' - zS M) (AF s0)) (F0 m 0 ls []) := by
  obtain ⟨hm, hr⟩ := hr
  have K := hr (p := p) (e := e) (R := rmK d (zC M' - zC M) (zS M' - zS M)) (s := s) (m := m) (args := args) (below := below) (meth := meth) (c := c) (H := s.heap) (locs := []) (ls := ls) (k0 := zC M) (z0 := zS M)
    (Q := vx_MQ below (QC s0 D cy ad res M') (XC s0 D cy ad res M') args s (zC M' - zC M) (zS M' - zS M) (AF s0)) F hW.2.2.2.2 hl hn va_S.rf
    ⟨Nat.le_refl _, Nat.le_refl _, by show zC M' ≤ (zC M' - zC M) + zC M; omega, by show zS M' ≤ (zS M' - zS M) + zS M; omega⟩ ⟨Nat.le_refl _, hW.2.2.2.1⟩ (Nat.le_refl _) ?_ ?_
  · rw [Nat.sub_self, Nat.sub_self] at K
    exact K
  · intro v pc' ls' H' locs' hv hd hW' hS'
    refine vx_ret ?_
    subst hv
    cases v with
    | none => exact W.vret F.1 F.2.1 (F.2.2.2.1.trans hok) (fun t ht _ => ⟨none, rfl, rfl, by rw [ht]; exact hW', hS'.F ht⟩) hS'.2.2 hd F.2.2.2.2.2.1
    | some v =>
      cases v with
      | int x =>
        obtain ⟨ty, h1, h2⟩ := hok
        exact W.zret F.1 F.2.1 (F.2.2.2.1.trans h1) h2 (fun t ht _ => ⟨_, rfl, rfl, by rw [ht]; exact hW', hS'.F ht⟩) hS'.2.2 hd F.2.2.2.2.2.1
      | long x => exact W.lret F.1 F.2.1 (F.2.2.2.1.trans hok) (fun t ht _ => ⟨_, rfl, rfl, by rw [ht]; exact hW', hS'.F ht⟩) hS'.2.2 hd F.2.2.2.2.2.1
      | ref q =>
        obtain ⟨ty, h1, h2⟩ := hok
        exact W.aret F.1 F.2.1 (F.2.2.2.1.trans h1) h2 (Or.inr ⟨_, rfl⟩) (fun t ht _ => ⟨_, rfl, rfl, by rw [ht]; exact hW', hS'.F ht⟩) hS'.2.2 hd F.2.2.2.2.2.1
      | _ => exact hok.elim
  · intro E pc' ls' rest H' locs' q ce hv hno hW' hS' h1 h2 h3
    exact vx_out (by rw [F.2.2.2.2.2.2.1]; exact hno) F.2.2.2.2.2.1 h1 h2 h3 (fun t ht _ => ⟨hv, by rw [ht]; exact hW', hS'.F ht⟩) hS'.2.2 (Nat.le_refl _) (Nat.le_refl _)
theorem cal_of {as : List Value} {y : MethodName} {cc : ByteArray} {maxL : Nat} {ret : Option FieldType} (hpl : plainName y.cls = true) (hd : ∀ x ∈ as, ∀ z, x ≠ .double z) (hn : (entL as).length ≤ maxL) (hok : rOK ret res) (hr : Run l s0 D cy ad d (y, cc, maxL, ret, []) 0 (entLo as maxL) [] M res M') : Cal l s0 D cy ad d (y, cc, maxL, ret, []) as M res M' := by
  refine ⟨hr.1, ?_⟩
  refine vx_ofW (ws' := []) hpl rfl ?_
  intro p e s m args below meth c s₁ B hml ht hP
  obtain ⟨rfl, hW⟩ := hP
  rw [lg_entry_eq]
  have hE := LR.entry (ad := ad) hd hn
  refine fin_run (as := as) hok hr ⟨B.exec, B.bytes, hml, B.returns, findClass_of_methodNamed B.named, B.notSynchronized, ?_, hW.1, hW.2.1, hW.2.2.1, (name_of_methodNamed B.named B.method).1⟩ hW hE.1 hE.2
  cases htab : c.exceptionTable.toList with
  | nil => rfl
  | cons x t => exact (ht x (by rw [htab]; exact List.mem_cons_self)).elim
theorem cal_ofW {as : List Value} {y : MethodName} {cc : ByteArray} {maxL : Nat} {ret : Option FieldType} {h9 : Nat × Nat × Nat × Nat} {hh : List (Nat × Nat × Nat × Nat)} (hpl : plainName y.cls = true) (hd : ∀ x ∈ as, ∀ z, x ≠ .double z) (hn : (entL as).length ≤ maxL) (hok : rOK ret res) (hr : Run l s0 D cy ad d (y, cc, maxL, ret, h9 :: hh) 0 (entLo as maxL) [] M res M') : Cal l s0 D cy ad d (y, cc, maxL, ret, h9 :: hh) as M res M' := by
  refine ⟨hr.1, ?_⟩
  refine vx_ofWH (ws' := []) (hh := h9 :: hh) hpl rfl ?_
  intro p e s m args below meth c s₁ B hml hP
  obtain ⟨rfl, hW⟩ := hP
  rw [lg_entry_eq]
  have hE := LR.entry (ad := ad) hd hn
  refine fin_run (as := as) hok hr ⟨B.exec, B.bytes, hml, B.returns, findClass_of_methodNamed B.named, B.notSynchronized, ?_, hW.1, hW.2.1, hW.2.2.1, (name_of_methodNamed B.named B.method).1⟩ hW hE.1 hE.2
  exact vx_table (x := y) B (atoms_spec (ws := [Cond.codeWith y cc maxL ret (h9 :: hh)]) B.pre _ List.mem_cons_self)
end RC
