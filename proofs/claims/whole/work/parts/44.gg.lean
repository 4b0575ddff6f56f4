/-! what holds at the start -/
def FLn : List Cond := flatC (Jvm.Cond.and given_1 narrow_1)
abbrev tmS (i : Nat) : Term := Term.string (strT i).1 (strT i).2.1
theorem fl_ex : ∀ i, i < 6 → Cond.exactly (tmS i) "java/lang/String" ∈ FLn := by decide +kernel
theorem fl_co : ∀ i, i < 6 → Cond.eq (.field (tmS i) "java/lang/String" "coder" "B") (.int 0) ∈ FLn := by decide +kernel
theorem fl_ar : ∀ i, i < 6 → Cond.arrayOf (.field (tmS i) "java/lang/String" "value" "[B") .byte ∈ FLn := by decide +kernel
theorem fl_le : ∀ i, i < 6 → Cond.eq (.length (.field (tmS i) "java/lang/String" "value" "[B")) (.int (Int32.ofNat (strL.getD i 0))) ∈ FLn := by decide +kernel
def flP : List Nat := [90, 127, 163, 54, 231, 210]
theorem fl_el0 : ∀ i, i < 6 → ∀ j, j < strL.getD i 0 → FLn[flP.getD i 0 + j]? = some (Cond.eq (.elem (.field (tmS i) "java/lang/String" "value" "[B") (.int (Int32.ofNat j))) (.int ((strB.getD i []).getD j 0))) := by decide +kernel
theorem fl_el (i : Nat) (hi : i < 6) (j : Nat) (hj : j < strL.getD i 0) : Cond.eq (.elem (.field (tmS i) "java/lang/String" "value" "[B") (.int (Int32.ofNat j))) (.int ((strB.getD i []).getD j 0)) ∈ FLn := List.mem_of_getElem? (fl_el0 i hi j hj)
theorem fl_ne : ∀ i, i < 6 → ∀ j, j < 6 → i ≠ j → Cond.not (Cond.eq (tmS i) (tmS j)) ∈ FLn ∨ Cond.not (Cond.eq (tmS j) (tmS i)) ∈ FLn := by decide +kernel
theorem fl_nc : ∀ w ∈ ncT, w ∈ FLn := by decide +kernel
theorem fl_un : Cond.isRef (.static Bundle.tN "UNASSIGNED_STACK" Bundle.steD) ∈ FLn := by decide +kernel
theorem fl_su : Cond.isRef (.static Bundle.tN "SUPPRESSED_SENTINEL" Bundle.listD) ∈ FLn := by decide +kernel
theorem fl_cs : Cond.eq (.static "java/lang/String" "COMPACT_STRINGS" "Z") (.int 1) ∈ FLn := by decide +kernel
theorem fl_si : Cond.isRef (.static "jdk/internal/util/Preconditions" "SIOOBE_FORMATTER" "Ljava/util/function/BiFunction;") ∈ FLn := by decide +kernel
def tyK : List FieldType := [.byte, .int, .long]
section GS
variable {l : Launch} {s : State} {b L : Nat} {xs : Nat → Int32}
theorem ty_of {args : Array Value} {ty : FieldType} (hno : ∀ C, ty ≠ .object C) (h : (Cond.arrayClass ty).before args s = true) : ∃ cA : ClassId, ArrOfT s cA ty ∧ va_RA s cA ty := by
  obtain ⟨c, k, comp, h1, h2, h3⟩ := Cond.arrayClass_spec h
  refine ⟨c, fun n z => ⟨(fun q hq => by cases hq), k, h2, comp, h3⟩, ?_⟩
  cases ty <;> first | exact h1 | exact absurd rfl (hno _)
theorem ty_of2 {args : Array Value} (h : (Cond.arrayOver (.array .int)).before args s = true) : ∃ cA : ClassId, ArrOfT s cA (.array .int) ∧ va_RA s cA (.array .int) := by
  obtain ⟨comp, c, k, h1, h2, h3, h4⟩ := Cond.arrayOver_specA h
  exact ⟨c, fun n z => ⟨(fun q hq => by cases hq), k, h2, comp, h3⟩, h4⟩
theorem gg_start (hflags : l.flags = flags0) (hL : L ≤ 3584) (hts : ∀ w ∈ lw_tbl, w.before #[Value.ref b] s = true) (hX : va_X b L xs s s.heap) (hbl : b < s.heap.size) (hgv : (Jvm.Cond.and given_1 narrow_1).before #[Value.ref b] s = true) : ∃ (D : va_G) (cy : Nat → ClassId) (ad : Nat → Nat), GG l s b L xs D cy ad := by
  have hs : ∀ w ∈ FLn, w.before #[Value.ref b] s = true := flat_of_before _ hgv
  have hA : ∀ a : Nat, a < s.heap.size → ¬ AF s a := fun a ha h => absurd h (Nat.not_le.mpr ha)
  obtain ⟨c0, i0, k0⟩ := u_known (C := RX0) (T := TX0) (N := 6) (n := 6) hts cf0.1 (hts _ (tin1 (List.mem_of_getElem? (i := 128) rfl)))
  obtain ⟨c1, i1, k1⟩ := u_known (C := RX1) (T := TX1) (N := 4) (n := 4) hts cf1.1 (hts _ (tin2 (List.mem_of_getElem? (i := 99) rfl)))
  obtain ⟨c2, i2, k2⟩ := u_known (C := RX2) (T := TX2) (N := 3) (n := 3) hts cf2.1 (hts _ (tin1 (List.mem_of_getElem? (i := 154) rfl)))
  obtain ⟨c3, i3, k3⟩ := u_known (C := RX3) (T := TX3) (N := 12) (n := 12) hts cf3.1 (hts _ (tin1 (List.mem_of_getElem? (i := 238) rfl)))
  obtain ⟨c4, i4, k4⟩ := u_known (C := RX4) (T := TX4) (N := 4) (n := 4) hts cf4.1 (hts _ (tin2 (List.mem_of_getElem? (i := 4) rfl)))
  obtain ⟨c5, i5, k5⟩ := u_known (C := RX5) (T := TX5) (N := 5) (n := 5) hts cf5.1 (hts _ (tin1 (List.mem_of_getElem? (i := 104) rfl)))
  obtain ⟨c6, i6, k6⟩ := u_known (C := RX6) (T := TX6) (N := 7) (n := 7) hts cf6.1 (hts _ (tin1 (List.mem_of_getElem? (i := 73) rfl)))
  obtain ⟨c7, i7, k7⟩ := u_known (C := RX7) (T := TX7) (N := 7) (n := 7) hts cf7.1 (hts _ (tin1 (List.mem_of_getElem? (i := 36) rfl)))
  obtain ⟨c8, i8, k8⟩ := u_known (C := RX8) (T := TX8) (N := 16) (n := 16) hts cf8.1 (hts _ (tin1 (List.mem_of_getElem? (i := 160) rfl)))
  obtain ⟨c9, i9, k9⟩ := u_known (C := RX9) (T := TX9) (N := 16) (n := 16) hts cf9.1 (hts _ (tin1 (List.mem_of_getElem? (i := 28) rfl)))
  obtain ⟨c10, i10, k10⟩ := u_known (C := RX10) (T := TX10) (N := 43) (n := 43) hts cf10.1 (hts _ (tin6 (List.mem_of_getElem? (i := 236) rfl)))
  obtain ⟨c11, i11, k11⟩ := u_known (C := "java/lang/IllegalArgumentException") (T := tX 0) (N := 0) (n := 6) hts (fun w hw => by simp [u_ws] at hw) (hts _ (tin3 (List.mem_of_getElem? (i := 92) rfl)))
  obtain ⟨c12, i12, k12⟩ := u_known (C := "java/lang/IndexOutOfBoundsException") (T := tX 0) (N := 0) (n := 6) hts (fun w hw => by simp [u_ws] at hw) (hts _ (tin5 (List.mem_of_getElem? (i := 136) rfl)))
  obtain ⟨c13, i13, k13⟩ := u_known (C := "java/util/NoSuchElementException") (T := tX 0) (N := 0) (n := 6) hts (fun w hw => by simp [u_ws] at hw) (hts _ (tin5 (List.mem_of_getElem? (i := 101) rfl)))
  obtain ⟨y1, y1a, y1b⟩ := ty_of (ty := .byte) (fun C h => nomatch h) (hts _ (tin1 (List.mem_of_getElem? (i := 71) rfl)))
  obtain ⟨y2, y2a, y2b⟩ := ty_of (ty := .int) (fun C h => nomatch h) (hts _ (tin1 (List.mem_of_getElem? (i := 102) rfl)))
  obtain ⟨y3, y3a, y3b⟩ := ty_of (ty := .long) (fun C h => nomatch h) (hts _ (tin1 (List.mem_of_getElem? (i := 152) rfl)))
  obtain ⟨y4, y4a, y4b⟩ := ty_of2 (hts _ (tin7 (List.mem_of_getElem? (i := 2) rfl)))
  obtain ⟨adK, adV, hS, hSe⟩ := vk_Sof (args := #[Value.ref b]) (s := s) (N := 6) (tm := tmS) (len := strL) (byt := strB) (A := AF s) (by decide +kernel) (fun i hi => hs _ (fl_ex i hi)) (fun i hi => hs _ (fl_co i hi)) (fun i hi => hs _ (fl_ar i hi)) (fun i hi => hs _ (fl_le i hi)) (fun i hi j hj => hs _ (fl_el i hi j hj)) (fun i j hi hj hne => (fl_ne i hi j hj hne).imp (hs _) (hs _)) hA
  have hfm : ∃ (q : Nat) (v : Value), (v = .null ∨ v = .ref q) ∧ va_Z "jdk/internal/util/Preconditions" "SIOOBE_FORMATTER" "Ljava/util/function/BiFunction;" v (AF s) s s.heap := by
    have h1 := hs _ fl_si
    cases hv : (Term.static "jdk/internal/util/Preconditions" "SIOOBE_FORMATTER" "Ljava/util/function/BiFunction;").eval #[Value.ref b] s none [] s with
    | none => simp [Cond.before, Cond.holds, Cond.value, hv] at h1
    | some v =>
      have hz := va_Zof (A := AF s) (hts _ (tin3 (List.mem_of_getElem? (i := 225) rfl))) (hts _ (tin1 (List.mem_of_getElem? (i := 20) rfl))) hv hA
      cases v with
      | null => exact ⟨0, .null, Or.inl rfl, hz⟩
      | ref q => exact ⟨q, .ref q, Or.inr rfl, hz⟩
      | _ => simp [Cond.before, Cond.holds, Cond.value, hv] at h1
  obtain ⟨q, v, hv, hq⟩ := hfm
  generalize had : (fun a : Nat => if a < 100000 then s.heap.size + a else if a = 100000 then b else if a < 100011 then adK (a - 100001) else if a < 100020 then adV (a - 100011) else q) = ad
  have e1 : ∀ a : Nat, a < 100000 → ad a = s.heap.size + a := fun a ha => by rw [← had]; exact if_pos ha
  have e2 : ad 100000 = b := by rw [← had]; rfl
  have e3 : ∀ i : Nat, i < 6 → ad (100001 + i) = adK i := fun i hi => by
    rw [← had]
    show (if 100001 + i < 100000 then _ else if 100001 + i = 100000 then _ else if 100001 + i < 100011 then adK (100001 + i - 100001) else _) = _
    rw [if_neg (by omega), if_neg (by omega), if_pos (by omega), show 100001 + i - 100001 = i by omega]
  have e4 : ∀ i : Nat, i < 6 → ad (100011 + i) = adV i := fun i hi => by
    rw [← had]
    show (if 100011 + i < 100000 then _ else if 100011 + i = 100000 then _ else if 100011 + i < 100011 then _ else if 100011 + i < 100020 then adV (100011 + i - 100011) else _) = _
    rw [if_neg (by omega), if_neg (by omega), if_neg (by omega), if_pos (by omega), show 100011 + i - 100011 = i by omega]
  have e5 : ad 100020 = q := by rw [← had]; rfl
  have hC : ∀ (k : Nat) (x : vw_C), clX[k]? = some x → u_Kn s x.1 x.2.1 x.2.2 (([(c0, i0), (c1, i1), (c2, i2), (c3, i3), (c4, i4), (c5, i5), (c6, i6), (c7, i7), (c8, i8), (c9, i9), (c10, i10), (c11, i11), (c12, i12), (c13, i13)] : List (ClassId × (Nat → Nat))).getD k (c0, i0)).1 (([(c0, i0), (c1, i1), (c2, i2), (c3, i3), (c4, i4), (c5, i5), (c6, i6), (c7, i7), (c8, i8), (c9, i9), (c10, i10), (c11, i11), (c12, i12), (c13, i13)] : List (ClassId × (Nat → Nat))).getD k (c0, i0)).2 := by
    intro k x hx
    have h14 : clX.length = 14 := by decide +kernel
    have hk : k < 14 := by
      have := (List.getElem?_eq_some_iff.mp hx).1
      omega
    have h9 : k = 0 ∨ k = 1 ∨ k = 2 ∨ k = 3 ∨ k = 4 ∨ k = 5 ∨ k = 6 ∨ k = 7 ∨ k = 8 ∨ k = 9 ∨ k = 10 ∨ k = 11 ∨ k = 12 ∨ k = 13 := by omega
    rcases h9 with rfl | rfl | rfl | rfl | rfl | rfl | rfl | rfl | rfl | rfl | rfl | rfl | rfl | rfl
    · cases hx; exact k0
    · cases hx; exact k1
    · cases hx; exact k2
    · cases hx; exact k3
    · cases hx; exact k4
    · cases hx; exact k5
    · cases hx; exact k6
    · cases hx; exact k7
    · cases hx; exact k8
    · cases hx; exact k9
    · cases hx; exact k10
    · cases hx; exact k11
    · cases hx; exact k12
    · cases hx; exact k13
  refine ⟨(fun k => (([(c0, i0), (c1, i1), (c2, i2), (c3, i3), (c4, i4), (c5, i5), (c6, i6), (c7, i7), (c8, i8), (c9, i9), (c10, i10), (c11, i11), (c12, i12), (c13, i13)] : List (ClassId × (Nat → Nat))).getD k (c0, i0)).1, fun k => (([(c0, i0), (c1, i1), (c2, i2), (c3, i3), (c4, i4), (c5, i5), (c6, i6), (c7, i7), (c8, i8), (c9, i9), (c10, i10), (c11, i11), (c12, i12), (c13, i13)] : List (ClassId × (Nat → Nat))).getD k (c0, i0)).2), fun k => if k = 11 then y1 else if k = 12 then y2 else if k = 13 then y3 else y4, ad, ?_⟩
  refine ⟨?_, hts, ⟨hC, ?_⟩, e1, e2, hX, hbl, hL, ?_, ?_, ?_, ?_, ?_, ?_⟩
  · unfold Launch.stackTraces
    rw [hflags]
    decide +kernel
  · intro k x hx
    have h4 : k < 4 := (List.getElem?_eq_some_iff.mp hx).1
    have h9 : k = 0 ∨ k = 1 ∨ k = 2 ∨ k = 3 := by omega
    rcases h9 with rfl | rfl | rfl | rfl
    · cases hx; exact ⟨y1a, y1b⟩
    · cases hx; exact ⟨y2a, y2b⟩
    · cases hx; exact ⟨y3a, y3b⟩
    · cases hx; exact ⟨y4a, y4b⟩
  · intro C n d h
    rcases h with h | h
    · cases h
      exact vx_Zqof (hts _ (tin3 (List.mem_of_getElem? (i := 118) rfl))) (hts _ (tin1 (List.mem_of_getElem? (i := 13) rfl))) (hs _ fl_un) hA
    · cases h
      exact vx_Zqof (hts _ (tin3 (List.mem_of_getElem? (i := 120) rfl))) (hts _ (tin1 (List.mem_of_getElem? (i := 13) rfl))) (hs _ fl_su) hA
  · intro i hi
    have hsr : (Cond.stringRef (strT i).1 (strT i).2.1 (strT i).2.2).before #[Value.ref b] s = true := by
      have h9 : i = 0 ∨ i = 1 ∨ i = 2 ∨ i = 3 ∨ i = 4 ∨ i = 5 := by omega
      rcases h9 with rfl | rfl | rfl | rfl | rfl | rfl
      · exact hts _ (tin3 (List.mem_of_getElem? (i := 190) rfl))
      · exact hts _ (tin4 (List.mem_of_getElem? (i := 98) rfl))
      · exact hts _ (tin4 (List.mem_of_getElem? (i := 141) rfl))
      · exact hts _ (tin3 (List.mem_of_getElem? (i := 132) rfl))
      · exact hts _ (tin5 (List.mem_of_getElem? (i := 144) rfl))
      · exact hts _ (tin5 (List.mem_of_getElem? (i := 109) rfl))
    rw [e3 i hi]
    exact vk_R.of hsr (hSe i hi)
  · exact ⟨fun i hi => by
      have h := hS.1 i hi
      show va_O "java/lang/String" (ad (100001 + i)) (AF s) s s.heap ∧ va_OF "java/lang/String" "coder" "B" (.int 0) (ad (100001 + i)) (AF s) s s.heap ∧ va_OF "java/lang/String" "value" "[B" (.ref (ad (100011 + i))) (ad (100001 + i)) (AF s) s s.heap ∧ va_T .byte (ad (100011 + i)) (strL.getD i 0) (fun j => .int ((strB.getD i []).getD j 0)) (AF s) s s.heap
      rw [e3 i hi, e4 i hi]
      exact h, fun i j hi hj h => by
      have h : ad (100001 + i) = ad (100001 + j) := h
      rw [e3 i hi, e3 j hj] at h
      exact hS.2 i j hi hj h⟩
  · exact va_Zof (hts _ (tin3 (List.mem_of_getElem? (i := 209) rfl))) (hts _ (tin1 (List.mem_of_getElem? (i := 18) rfl))) (va_eqt (hs _ fl_cs)) hA
  · rcases hv with rfl | rfl
    · exact ⟨.null, Or.inl rfl, hq⟩
    · exact ⟨.ref 100020, Or.inr rfl, by show va_Z _ _ _ (.ref (ad 100020)) _ _ _; rw [e5]; exact hq⟩
  · intro E nm h
    exact va_Nc.of (hs _ (fl_nc _ h))
end GS
