/-! printed: the law's wrappers -/
def catE (a b c : Option Int32) (e : Nat) (M : Mm) : Option (Int32 × Mm) := match e with | 0 => a.map (fun v => (v, M)) | 1 => b.map (fun v => (v, M)) | _ => c.map (fun v => (v, M))
theorem ck_13 : Cond.classLink "FieldStonesLaw" 13 "java/lang/IllegalArgumentException" ∈ lw_tbl := (tin3 (List.mem_of_getElem? (i := 78) rfl))
theorem ck_31 : Cond.classLink "FieldStonesLaw" 31 "java/util/NoSuchElementException" ∈ lw_tbl := (tin5 (List.mem_of_getElem? (i := 91) rfl))
theorem ck_37 : Cond.classLink "FieldStonesLaw" 37 "java/lang/IndexOutOfBoundsException" ∈ lw_tbl := (tin5 (List.mem_of_getElem? (i := 126) rfl))
theorem ca_0 : Cond.castable "java/lang/IndexOutOfBoundsException" "java/lang/IndexOutOfBoundsException" ∈ lw_tbl := (tin5 (List.mem_of_getElem? (i := 137) rfl))
theorem ca_1 : Cond.castable "java/util/NoSuchElementException" "java/util/NoSuchElementException" ∈ lw_tbl := (tin5 (List.mem_of_getElem? (i := 102) rfl))
theorem ca_2 : Cond.castable "java/lang/IllegalArgumentException" "java/lang/IllegalArgumentException" ∈ lw_tbl := (tin3 (List.mem_of_getElem? (i := 93) rfl))
theorem mL_field : mW KL_field 3 := ⟨⟨(tin3 (List.mem_of_getElem? (i := 77) rfl)), (tin1 (List.mem_of_getElem? (i := 0) rfl)), ⟨by decide +kernel, by decide +kernel⟩, by decide +kernel, by decide +kernel⟩, (tin3 (List.mem_of_getElem? (i := 76) rfl))⟩
theorem mL_law : mW KL_law 4 := ⟨⟨(tin4 (List.mem_of_getElem? (i := 55) rfl)), (tin1 (List.mem_of_getElem? (i := 0) rfl)), ⟨by decide +kernel, by decide +kernel⟩, by decide +kernel, by decide +kernel⟩, (tin4 (List.mem_of_getElem? (i := 54) rfl))⟩
theorem mL_work : mW KL_work 3 := ⟨⟨(tin4 (List.mem_of_getElem? (i := 118) rfl)), (tin1 (List.mem_of_getElem? (i := 0) rfl)), ⟨by decide +kernel, by decide +kernel⟩, by decide +kernel, by decide +kernel⟩, (tin4 (List.mem_of_getElem? (i := 117) rfl))⟩
theorem mL_book : mW KL_book 3 := ⟨⟨(tin5 (List.mem_of_getElem? (i := 54) rfl)), (tin1 (List.mem_of_getElem? (i := 0) rfl)), ⟨by decide +kernel, by decide +kernel⟩, by decide +kernel, by decide +kernel⟩, (tin5 (List.mem_of_getElem? (i := 53) rfl))⟩
theorem mL_told : mW KL_told 3 := ⟨⟨(tin5 (List.mem_of_getElem? (i := 79) rfl)), (tin1 (List.mem_of_getElem? (i := 0) rfl)), ⟨by decide +kernel, by decide +kernel⟩, by decide +kernel, by decide +kernel⟩, (tin5 (List.mem_of_getElem? (i := 78) rfl))⟩
theorem mL_stone : mW KL_stone 4 := ⟨⟨(tin5 (List.mem_of_getElem? (i := 90) rfl)), (tin1 (List.mem_of_getElem? (i := 0) rfl)), ⟨by decide +kernel, by decide +kernel⟩, by decide +kernel, by decide +kernel⟩, (tin5 (List.mem_of_getElem? (i := 89) rfl))⟩
theorem mL_cell : mW KL_cell 5 := ⟨⟨(tin5 (List.mem_of_getElem? (i := 125) rfl)), (tin1 (List.mem_of_getElem? (i := 0) rfl)), ⟨by decide +kernel, by decide +kernel⟩, by decide +kernel, by decide +kernel⟩, (tin5 (List.mem_of_getElem? (i := 124) rfl))⟩
theorem mL_sledge : mW KL_sledge 3 := ⟨⟨(tin5 (List.mem_of_getElem? (i := 159) rfl)), (tin1 (List.mem_of_getElem? (i := 0) rfl)), ⟨by decide +kernel, by decide +kernel⟩, by decide +kernel, by decide +kernel⟩, (tin5 (List.mem_of_getElem? (i := 158) rfl))⟩
theorem mL_sums : mW KL_sums 3 := ⟨⟨(tin5 (List.mem_of_getElem? (i := 166) rfl)), (tin1 (List.mem_of_getElem? (i := 0) rfl)), ⟨by decide +kernel, by decide +kernel⟩, by decide +kernel, by decide +kernel⟩, (tin5 (List.mem_of_getElem? (i := 165) rfl))⟩
theorem mL_damage : mW KL_damage 5 := ⟨⟨(tin5 (List.mem_of_getElem? (i := 173) rfl)), (tin1 (List.mem_of_getElem? (i := 0) rfl)), ⟨by decide +kernel, by decide +kernel⟩, by decide +kernel, by decide +kernel⟩, (tin5 (List.mem_of_getElem? (i := 172) rfl))⟩
theorem mL_rises : mW KL_rises 4 := ⟨⟨(tin5 (List.mem_of_getElem? (i := 181) rfl)), (tin1 (List.mem_of_getElem? (i := 0) rfl)), ⟨by decide +kernel, by decide +kernel⟩, by decide +kernel, by decide +kernel⟩, (tin5 (List.mem_of_getElem? (i := 180) rfl))⟩
theorem mL_clear : mW KL_clear 3 := ⟨⟨(tin5 (List.mem_of_getElem? (i := 189) rfl)), (tin1 (List.mem_of_getElem? (i := 0) rfl)), ⟨by decide +kernel, by decide +kernel⟩, by decide +kernel, by decide +kernel⟩, (tin5 (List.mem_of_getElem? (i := 188) rfl))⟩
theorem mL_stops : mW KL_stops 4 := ⟨⟨(tin5 (List.mem_of_getElem? (i := 200) rfl)), (tin1 (List.mem_of_getElem? (i := 0) rfl)), ⟨by decide +kernel, by decide +kernel⟩, by decide +kernel, by decide +kernel⟩, (tin5 (List.mem_of_getElem? (i := 199) rfl))⟩
theorem mL_way : mW KL_way 3 := ⟨⟨(tin6 (List.mem_of_getElem? (i := 4) rfl)), (tin1 (List.mem_of_getElem? (i := 0) rfl)), ⟨by decide +kernel, by decide +kernel⟩, by decide +kernel, by decide +kernel⟩, (tin6 (List.mem_of_getElem? (i := 3) rfl))⟩
theorem mL_heaps : mW KL_heaps 4 := ⟨⟨(tin6 (List.mem_of_getElem? (i := 19) rfl)), (tin1 (List.mem_of_getElem? (i := 0) rfl)), ⟨by decide +kernel, by decide +kernel⟩, by decide +kernel, by decide +kernel⟩, (tin6 (List.mem_of_getElem? (i := 18) rfl))⟩
theorem mL_line : mW KL_line 4 := ⟨⟨(tin6 (List.mem_of_getElem? (i := 57) rfl)), (tin1 (List.mem_of_getElem? (i := 0) rfl)), ⟨by decide +kernel, by decide +kernel⟩, by decide +kernel, by decide +kernel⟩, (tin6 (List.mem_of_getElem? (i := 56) rfl))⟩
theorem mL_first : mW KL_first 4 := ⟨⟨(tin6 (List.mem_of_getElem? (i := 75) rfl)), (tin1 (List.mem_of_getElem? (i := 0) rfl)), ⟨by decide +kernel, by decide +kernel⟩, by decide +kernel, by decide +kernel⟩, (tin6 (List.mem_of_getElem? (i := 74) rfl))⟩
theorem mL_mix : mW KL_mix 6 := ⟨⟨(tin6 (List.mem_of_getElem? (i := 95) rfl)), (tin1 (List.mem_of_getElem? (i := 0) rfl)), ⟨by decide +kernel, by decide +kernel⟩, by decide +kernel, by decide +kernel⟩, (tin6 (List.mem_of_getElem? (i := 94) rfl))⟩
theorem mL_enough : mW KL_enough 4 := ⟨⟨(tin6 (List.mem_of_getElem? (i := 108) rfl)), (tin1 (List.mem_of_getElem? (i := 0) rfl)), ⟨by decide +kernel, by decide +kernel⟩, by decide +kernel, by decide +kernel⟩, (tin6 (List.mem_of_getElem? (i := 107) rfl))⟩
theorem mL_left : mW KL_left 4 := ⟨⟨(tin6 (List.mem_of_getElem? (i := 145) rfl)), (tin1 (List.mem_of_getElem? (i := 0) rfl)), ⟨by decide +kernel, by decide +kernel⟩, by decide +kernel, by decide +kernel⟩, (tin6 (List.mem_of_getElem? (i := 144) rfl))⟩
theorem mL_frost : mW KL_frost 6 := ⟨⟨(tin6 (List.mem_of_getElem? (i := 156) rfl)), (tin1 (List.mem_of_getElem? (i := 0) rfl)), ⟨by decide +kernel, by decide +kernel⟩, by decide +kernel, by decide +kernel⟩, (tin6 (List.mem_of_getElem? (i := 155) rfl))⟩
theorem mL_span : mW KL_span 8 := ⟨⟨(tin6 (List.mem_of_getElem? (i := 199) rfl)), (tin1 (List.mem_of_getElem? (i := 0) rfl)), ⟨by decide +kernel, by decide +kernel⟩, by decide +kernel, by decide +kernel⟩, (tin6 (List.mem_of_getElem? (i := 198) rfl))⟩
theorem mL_chosen : mW KL_chosen 3 := ⟨⟨(tin6 (List.mem_of_getElem? (i := 206) rfl)), (tin1 (List.mem_of_getElem? (i := 0) rfl)), ⟨by decide +kernel, by decide +kernel⟩, by decide +kernel, by decide +kernel⟩, (tin6 (List.mem_of_getElem? (i := 205) rfl))⟩
theorem mL_lifts : mW KL_lifts 4 := ⟨⟨(tin6 (List.mem_of_getElem? (i := 221) rfl)), (tin1 (List.mem_of_getElem? (i := 0) rfl)), ⟨by decide +kernel, by decide +kernel⟩, by decide +kernel, by decide +kernel⟩, (tin6 (List.mem_of_getElem? (i := 220) rfl))⟩
theorem mL_loads : mW KL_loads 4 := ⟨⟨(tin6 (List.mem_of_getElem? (i := 230) rfl)), (tin1 (List.mem_of_getElem? (i := 0) rfl)), ⟨by decide +kernel, by decide +kernel⟩, by decide +kernel, by decide +kernel⟩, (tin6 (List.mem_of_getElem? (i := 229) rfl))⟩
def f_L_field (x1 : Int32) (M : Mm) : Option (Int32 × Mm) := (f_X9_field x1 M).bind fun q1 => match q1 with | (.inl e1, M1) => catE (none) (none) (some 1) e1 M1 | (.inr v1, M1) => (wl M1 275 1 (0 : Int32) v1.toInt64).bind fun M2 => some ((0 : Int32), M2)
def f_L_law (x1 : Int32) (x2 : Int32) (M : Mm) : Option (Int32 × Mm) := (f_X9_law x1 x2 M).bind fun q1 => match q1 with | (.inl e1, M1) => catE (none) (none) (some 1) e1 M1 | (.inr v1, M1) => (wl M1 275 1 (0 : Int32) v1.toInt64).bind fun M2 => some ((0 : Int32), M2)
def f_L_work (x1 : Int32) (M : Mm) : Option (Int32 × Mm) := (f_X9_work x1 M).bind fun q1 => match q1 with | (.inl e1, M1) => catE (none) (none) (some 1) e1 M1 | (.inr v1, M1) => (wl M1 275 1 (0 : Int32) v1.toInt64).bind fun M2 => some ((0 : Int32), M2)
def f_L_book (x1 : Int32) (M : Mm) : Option (Int32 × Mm) := (f_X9_book x1 M).bind fun q1 => match q1 with | (.inl e1, M1) => catE (none) (none) (some 1) e1 M1 | (.inr v1, M1) => (wl M1 275 1 (0 : Int32) v1.toInt64).bind fun M2 => some ((0 : Int32), M2)
def f_L_told (x1 : Int32) (M : Mm) : Option (Int32 × Mm) := (f_X9_told x1 M).bind fun q1 => match q1 with | (.inl e1, M1) => catE (none) (none) (some 1) e1 M1 | (.inr v1, M1) => (wl M1 275 1 (0 : Int32) v1.toInt64).bind fun M2 => some ((0 : Int32), M2)
def f_L_stone (x1 : Int32) (x2 : Int32) (M : Mm) : Option (Int32 × Mm) := (f_X9_stone x1 x2 M).bind fun q1 => match q1 with | (.inl e1, M1) => catE (none) (some 1) (some 2) e1 M1 | (.inr v1, M1) => (wl M1 275 1 (0 : Int32) v1.toInt64).bind fun M2 => some ((0 : Int32), M2)
def f_L_cell (x1 : Int32) (x2 : Int32) (x3 : Int32) (M : Mm) : Option (Int32 × Mm) := (f_X9_cell x1 x2 x3 M).bind fun q1 => match q1 with | (.inl e1, M1) => catE (some 1) (none) (some 2) e1 M1 | (.inr v1, M1) => (wl M1 275 1 (0 : Int32) v1.toInt64).bind fun M2 => some ((0 : Int32), M2)
def f_L_sledge (x1 : Int32) (M : Mm) : Option (Int32 × Mm) := (f_X9_sledge x1 M).bind fun q1 => match q1 with | (.inl e1, M1) => catE (none) (none) (some 1) e1 M1 | (.inr v1, M1) => (wl M1 275 1 (0 : Int32) v1.toInt64).bind fun M2 => some ((0 : Int32), M2)
def f_L_sums (x1 : Int32) (M : Mm) : Option (Int32 × Mm) := (f_X9_sums x1 M).bind fun q1 => match q1 with | (.inl e1, M1) => catE (none) (none) (some 1) e1 M1 | (.inr v1, M1) => (wl M1 275 1 (0 : Int32) v1.toInt64).bind fun M2 => some ((0 : Int32), M2)
def f_L_damage (x1 : Int32) (x2 : Int32) (x3 : Int32) (M : Mm) : Option (Int32 × Mm) := (f_X9_damage x1 x2 x3 M).bind fun q1 => match q1 with | (.inl e1, M1) => catE (some 1) (none) (some 2) e1 M1 | (.inr v1, M1) => (wl M1 275 1 (0 : Int32) v1.toInt64).bind fun M2 => some ((0 : Int32), M2)
def f_L_rises (x1 : Int32) (x2 : Int32) (M : Mm) : Option (Int32 × Mm) := (f_X9_rises x1 x2 M).bind fun q1 => match q1 with | (.inl e1, M1) => catE (some 1) (none) (none) e1 M1 | (.inr v1, M1) => (wl M1 275 1 (0 : Int32) v1.toInt64).bind fun M2 => some ((0 : Int32), M2)
def f_L_clear (x1 : Int32) (M : Mm) : Option (Int32 × Mm) := (f_X9_clear x1 M).bind fun q1 => match q1 with | (.inl e1, M1) => catE (none) (some 1) (none) e1 M1 | (.inr v1, M1) => (wl M1 275 1 (0 : Int32) v1.toInt64).bind fun M2 => some ((0 : Int32), M2)
def f_L_stops (x1 : Int32) (x2 : Int32) (M : Mm) : Option (Int32 × Mm) := (f_X9_stops x1 x2 M).bind fun q1 => match q1 with | (.inl e1, M1) => catE (none) (none) (some 1) e1 M1 | (.inr v1, M1) => (wl M1 275 1 (0 : Int32) v1.toInt64).bind fun M2 => some ((0 : Int32), M2)
def f_L_way (x1 : Int32) (M : Mm) : Option (Int32 × Mm) := (f_X9_way x1 M).bind fun q1 => match q1 with | (.inl e1, M1) => catE (none) (none) (some 1) e1 M1 | (.inr v1, M1) => (wl M1 275 1 (0 : Int32) v1).bind fun M2 => some ((0 : Int32), M2)
def f_L_heaps (x1 : Int32) (x2 : Int32) (M : Mm) : Option (Int32 × Mm) := (f_X9_heaps x1 x2 M).bind fun q1 => match q1 with | (.inl e1, M1) => catE (none) (none) (some 1) e1 M1 | (.inr v1, M1) => (wl M1 275 1 (0 : Int32) v1.toInt64).bind fun M2 => some ((0 : Int32), M2)
def f_L_line (x1 : Int32) (x2 : Int32) (M : Mm) : Option (Int32 × Mm) := (f_X9_line x1 x2 M).bind fun q1 => match q1 with | (.inl e1, M1) => catE (none) (none) (some 1) e1 M1 | (.inr v1, M1) => (wl M1 275 1 (0 : Int32) v1.toInt64).bind fun M2 => some ((0 : Int32), M2)
def f_L_first (x1 : Int32) (x2 : Int32) (M : Mm) : Option (Int32 × Mm) := (f_X9_first x1 x2 M).bind fun q1 => match q1 with | (.inl e1, M1) => catE (none) (none) (some 1) e1 M1 | (.inr v1, M1) => (wl M1 275 1 (0 : Int32) v1).bind fun M2 => some ((0 : Int32), M2)
def f_L_mix (x1 : Int32) (x2 : Int32) (x3 : Int32) (x4 : Int32) (M : Mm) : Option (Int32 × Mm) := (f_X9_mix x1 x2 x3 x4 M).bind fun q1 => match q1 with | (.inl e1, M1) => catE (none) (none) (some 1) e1 M1 | (.inr v1, M1) => (wl M1 275 1 (0 : Int32) v1.toInt64).bind fun M2 => some ((0 : Int32), M2)
def f_L_enough (x1 : Int32) (x2 : Int32) (M : Mm) : Option (Int32 × Mm) := (f_X9_enough x1 x2 M).bind fun q1 => match q1 with | (.inl e1, M1) => catE (none) (none) (some 1) e1 M1 | (.inr v1, M1) => (wl M1 275 1 (0 : Int32) v1.toInt64).bind fun M2 => some ((0 : Int32), M2)
def f_L_left (x1 : Int32) (x2 : Int32) (M : Mm) : Option (Int32 × Mm) := (f_X9_left x1 x2 M).bind fun q1 => match q1 with | (.inl e1, M1) => catE (none) (none) (some 1) e1 M1 | (.inr v1, M1) => (wl M1 275 1 (0 : Int32) v1.toInt64).bind fun M2 => some ((0 : Int32), M2)
def f_L_frost (x1 : Int32) (x2 : Int32) (x3 : Int32) (x4 : Int32) (M : Mm) : Option (Int32 × Mm) := (f_X9_frost x1 x2 x3 x4 M).bind fun q1 => match q1 with | (.inl e1, M1) => catE (none) (none) (some 1) e1 M1 | (.inr v1, M1) => (wl M1 275 1 (0 : Int32) v1.toInt64).bind fun M2 => some ((0 : Int32), M2)
def f_L_span (x1 : Int32) (x2 : Int32) (x3 : Int32) (x4 : Int32) (x5 : Int32) (x6 : Int32) (M : Mm) : Option (Int32 × Mm) := (f_X9_span x1 x2 x3 x4 x5 x6 M).bind fun q1 => match q1 with | (.inl e1, M1) => catE (none) (none) (some 1) e1 M1 | (.inr v1, M1) => (wl M1 275 1 (0 : Int32) v1.toInt64).bind fun M2 => some ((0 : Int32), M2)
def f_L_chosen (x1 : Int32) (M : Mm) : Option (Int32 × Mm) := (f_X9_chosen x1 M).bind fun q1 => match q1 with | (.inl e1, M1) => catE (none) (none) (some 1) e1 M1 | (.inr v1, M1) => (wl M1 275 1 (0 : Int32) v1.toInt64).bind fun M2 => some ((0 : Int32), M2)
def f_L_lifts (x1 : Int32) (x2 : Int32) (M : Mm) : Option (Int32 × Mm) := (f_X9_lifts x1 x2 M).bind fun q1 => match q1 with | (.inl e1, M1) => catE (some 1) (none) (none) e1 M1 | (.inr v1, M1) => (wl M1 275 1 (0 : Int32) v1.toInt64).bind fun M2 => some ((0 : Int32), M2)
def f_L_loads (x1 : Int32) (x2 : Int32) (M : Mm) : Option (Int32 × Mm) := (f_X9_loads x1 x2 M).bind fun q1 => match q1 with | (.inl e1, M1) => catE (some 1) (none) (none) e1 M1 | (.inr v1, M1) => (wl M1 275 1 (0 : Int32) v1).bind fun M2 => some ((0 : Int32), M2)
section NB
variable {l : Launch} {s0 : State} {b L : Nat} {xs : Nat → Int32} {D : va_G} {cy : Nat → ClassId} {ad : Nat → Nat} {P : Nat → Prop}
set_option maxRecDepth 100000 in
theorem B_L_field (G : GG l s0 b L xs D cy ad)  {x1 : Int32} {M : Mm} {r : (Int32 × Mm)} (hp0 : P 0) (hp2 : P 275) (hr : f_L_field x1 M = some r) : Cl l s0 D cy ad P 17 KL_field [.ref 0, .int x1, .ref 275] M (.inl (some (.int r.1))) (r.2) := by
  refine cl_ofW (by decide +kernel) rfl rfl okI (lo0 := [_, _, _, .null]) rfl ?_
  unfold f_L_field at hr
  refine n_aload_n (n := 2) (by decide +kernel) rfl ?_
  refine n_iconst (n := 0) (v := 0) (by decide +kernel) rfl ?_
  refine n_aload_n (n := 0) (by decide +kernel) rfl ?_
  refine n_iload_n (n := 1) (by decide +kernel) rfl ?_
  obtain ⟨⟨e1 | v1, M1⟩, h1, hr⟩ := bso hr
  · (try dsimp only at hr)
    rcases e1 with _ | _ | e1
    · change (none : Option (Int32 × Mm)) = some r at hr; cases hr
    · change (none : Option (Int32 × Mm)) = some r at hr; cases hr
    · change some ((1 : Int32), M1) = some r at hr; cases hr
      refine n_callVc1 (n := 3) (lo2 := [_, _, _, _]) G [_] (E := "java/lang/IllegalArgumentException") (nm := "java/lang/IllegalArgumentException") (M1 := M1) (B_X9_field G hp0 h1) (by decide) mX9_field ml_RL_7 hp0 (by decide +kernel) rfl rfl (Nat.le_of_ble_eq_true rfl) (by decide +kernel) [] ⟨0, 9, 12, 13⟩ [] rfl (List.forall_mem_nil _) (by decide) (by decide) ck_13 ca_2 (by decide +kernel) (Nat.le_of_ble_eq_true rfl) rfl ?_
      refine n_iconst (n := 1) (v := 1) (by decide +kernel) rfl ?_
      exact n_ireturn (by decide +kernel)
  try dsimp only at hr
  refine n_callVi G [_] (x := v1) (M1 := M1) (B_X9_field G hp0 h1) (by decide) mX9_field ml_RL_7 hp0 (by decide +kernel) rfl rfl (Nat.le_of_ble_eq_true rfl) (by decide +kernel) ?_
  refine n_i2l (by decide +kernel) ?_
  obtain ⟨M2, h2, hr⟩ := bso hr
  refine n_last G h2 hp2 (by decide +kernel) (by decide +kernel) (by decide +kernel) ?_
  refine n_goto (off := 6) (tgt := 15) (by decide +kernel) (by decide) ?_
  refine n_iconst (n := 0) (v := 0) (by decide +kernel) rfl ?_
  cases hr
  exact n_ireturn (by decide +kernel)
set_option maxRecDepth 100000 in
theorem B_L_law (G : GG l s0 b L xs D cy ad)  {x1 : Int32} {x2 : Int32} {M : Mm} {r : (Int32 × Mm)} (hp0 : P 0) (hp3 : P 275) (hr : f_L_law x1 x2 M = some r) : Cl l s0 D cy ad P 75 KL_law [.ref 0, .int x1, .int x2, .ref 275] M (.inl (some (.int r.1))) (r.2) := by
  refine cl_ofW (by decide +kernel) rfl rfl okI (lo0 := [_, _, _, _, .null]) rfl ?_
  unfold f_L_law at hr
  refine n_aload_n (n := 3) (by decide +kernel) rfl ?_
  refine n_iconst (n := 0) (v := 0) (by decide +kernel) rfl ?_
  refine n_aload_n (n := 0) (by decide +kernel) rfl ?_
  refine n_iload_n (n := 1) (by decide +kernel) rfl ?_
  refine n_iload_n (n := 2) (by decide +kernel) rfl ?_
  obtain ⟨⟨e1 | v1, M1⟩, h1, hr⟩ := bso hr
  · (try dsimp only at hr)
    rcases e1 with _ | _ | e1
    · change (none : Option (Int32 × Mm)) = some r at hr; cases hr
    · change (none : Option (Int32 × Mm)) = some r at hr; cases hr
    · change some ((1 : Int32), M1) = some r at hr; cases hr
      refine n_callVc2 (n := 4) (lo2 := [_, _, _, _, _]) G [_, _] (E := "java/lang/IllegalArgumentException") (nm := "java/lang/IllegalArgumentException") (M1 := M1) (B_X9_law G hp0 h1) (by decide) mX9_law ml_RL_15 hp0 (by decide +kernel) rfl rfl (Nat.le_of_ble_eq_true rfl) (by decide +kernel) [] ⟨0, 10, 13, 13⟩ [] rfl (List.forall_mem_nil _) (by decide) (by decide) ck_13 ca_2 (by decide +kernel) (Nat.le_of_ble_eq_true rfl) rfl ?_
      refine n_iconst (n := 1) (v := 1) (by decide +kernel) rfl ?_
      exact n_ireturn (by decide +kernel)
  try dsimp only at hr
  refine n_callVi G [_, _] (x := v1) (M1 := M1) (B_X9_law G hp0 h1) (by decide) mX9_law ml_RL_15 hp0 (by decide +kernel) rfl rfl (Nat.le_of_ble_eq_true rfl) (by decide +kernel) ?_
  refine n_i2l (by decide +kernel) ?_
  obtain ⟨M2, h2, hr⟩ := bso hr
  refine n_last G h2 hp3 (by decide +kernel) (by decide +kernel) (by decide +kernel) ?_
  refine n_goto (off := 7) (tgt := 17) (by decide +kernel) (by decide) ?_
  refine n_iconst (n := 0) (v := 0) (by decide +kernel) rfl ?_
  cases hr
  exact n_ireturn (by decide +kernel)
set_option maxRecDepth 100000 in
theorem B_L_work (G : GG l s0 b L xs D cy ad)  {x1 : Int32} {M : Mm} {r : (Int32 × Mm)} (hp0 : P 0) (hp2 : P 275) (hr : f_L_work x1 M = some r) : Cl l s0 D cy ad P 75 KL_work [.ref 0, .int x1, .ref 275] M (.inl (some (.int r.1))) (r.2) := by
  refine cl_ofW (by decide +kernel) rfl rfl okI (lo0 := [_, _, _, .null]) rfl ?_
  unfold f_L_work at hr
  refine n_aload_n (n := 2) (by decide +kernel) rfl ?_
  refine n_iconst (n := 0) (v := 0) (by decide +kernel) rfl ?_
  refine n_aload_n (n := 0) (by decide +kernel) rfl ?_
  refine n_iload_n (n := 1) (by decide +kernel) rfl ?_
  obtain ⟨⟨e1 | v1, M1⟩, h1, hr⟩ := bso hr
  · (try dsimp only at hr)
    rcases e1 with _ | _ | e1
    · change (none : Option (Int32 × Mm)) = some r at hr; cases hr
    · change (none : Option (Int32 × Mm)) = some r at hr; cases hr
    · change some ((1 : Int32), M1) = some r at hr; cases hr
      refine n_callVc1 (n := 3) (lo2 := [_, _, _, _]) G [_] (E := "java/lang/IllegalArgumentException") (nm := "java/lang/IllegalArgumentException") (M1 := M1) (B_X9_work G hp0 h1) (by decide) mX9_work ml_RL_19 hp0 (by decide +kernel) rfl rfl (Nat.le_of_ble_eq_true rfl) (by decide +kernel) [] ⟨0, 9, 12, 13⟩ [] rfl (List.forall_mem_nil _) (by decide) (by decide) ck_13 ca_2 (by decide +kernel) (Nat.le_of_ble_eq_true rfl) rfl ?_
      refine n_iconst (n := 1) (v := 1) (by decide +kernel) rfl ?_
      exact n_ireturn (by decide +kernel)
  try dsimp only at hr
  refine n_callVi G [_] (x := v1) (M1 := M1) (B_X9_work G hp0 h1) (by decide) mX9_work ml_RL_19 hp0 (by decide +kernel) rfl rfl (Nat.le_of_ble_eq_true rfl) (by decide +kernel) ?_
  refine n_i2l (by decide +kernel) ?_
  obtain ⟨M2, h2, hr⟩ := bso hr
  refine n_last G h2 hp2 (by decide +kernel) (by decide +kernel) (by decide +kernel) ?_
  refine n_goto (off := 6) (tgt := 15) (by decide +kernel) (by decide) ?_
  refine n_iconst (n := 0) (v := 0) (by decide +kernel) rfl ?_
  cases hr
  exact n_ireturn (by decide +kernel)
set_option maxRecDepth 100000 in
theorem B_L_book (G : GG l s0 b L xs D cy ad)  {x1 : Int32} {M : Mm} {r : (Int32 × Mm)} (hp0 : P 0) (hp2 : P 275) (hr : f_L_book x1 M = some r) : Cl l s0 D cy ad P 15 KL_book [.ref 0, .int x1, .ref 275] M (.inl (some (.int r.1))) (r.2) := by
  refine cl_ofW (by decide +kernel) rfl rfl okI (lo0 := [_, _, _, .null]) rfl ?_
  unfold f_L_book at hr
  refine n_aload_n (n := 2) (by decide +kernel) rfl ?_
  refine n_iconst (n := 0) (v := 0) (by decide +kernel) rfl ?_
  refine n_aload_n (n := 0) (by decide +kernel) rfl ?_
  refine n_iload_n (n := 1) (by decide +kernel) rfl ?_
  obtain ⟨⟨e1 | v1, M1⟩, h1, hr⟩ := bso hr
  · (try dsimp only at hr)
    rcases e1 with _ | _ | e1
    · change (none : Option (Int32 × Mm)) = some r at hr; cases hr
    · change (none : Option (Int32 × Mm)) = some r at hr; cases hr
    · change some ((1 : Int32), M1) = some r at hr; cases hr
      refine n_callVc1 (n := 3) (lo2 := [_, _, _, _]) G [_] (E := "java/lang/IllegalArgumentException") (nm := "java/lang/IllegalArgumentException") (M1 := M1) (B_X9_book G hp0 h1) (by decide) mX9_book ml_RL_22 hp0 (by decide +kernel) rfl rfl (Nat.le_of_ble_eq_true rfl) (by decide +kernel) [] ⟨0, 9, 12, 13⟩ [] rfl (List.forall_mem_nil _) (by decide) (by decide) ck_13 ca_2 (by decide +kernel) (Nat.le_of_ble_eq_true rfl) rfl ?_
      refine n_iconst (n := 1) (v := 1) (by decide +kernel) rfl ?_
      exact n_ireturn (by decide +kernel)
  try dsimp only at hr
  refine n_callVi G [_] (x := v1) (M1 := M1) (B_X9_book G hp0 h1) (by decide) mX9_book ml_RL_22 hp0 (by decide +kernel) rfl rfl (Nat.le_of_ble_eq_true rfl) (by decide +kernel) ?_
  refine n_i2l (by decide +kernel) ?_
  obtain ⟨M2, h2, hr⟩ := bso hr
  refine n_last G h2 hp2 (by decide +kernel) (by decide +kernel) (by decide +kernel) ?_
  refine n_goto (off := 6) (tgt := 15) (by decide +kernel) (by decide) ?_
  refine n_iconst (n := 0) (v := 0) (by decide +kernel) rfl ?_
  cases hr
  exact n_ireturn (by decide +kernel)
set_option maxRecDepth 100000 in
theorem B_L_told (G : GG l s0 b L xs D cy ad)  {x1 : Int32} {M : Mm} {r : (Int32 × Mm)} (hp0 : P 0) (hp2 : P 275) (hr : f_L_told x1 M = some r) : Cl l s0 D cy ad P 13 KL_told [.ref 0, .int x1, .ref 275] M (.inl (some (.int r.1))) (r.2) := by
  refine cl_ofW (by decide +kernel) rfl rfl okI (lo0 := [_, _, _, .null]) rfl ?_
  unfold f_L_told at hr
  refine n_aload_n (n := 2) (by decide +kernel) rfl ?_
  refine n_iconst (n := 0) (v := 0) (by decide +kernel) rfl ?_
  refine n_aload_n (n := 0) (by decide +kernel) rfl ?_
  refine n_iload_n (n := 1) (by decide +kernel) rfl ?_
  obtain ⟨⟨e1 | v1, M1⟩, h1, hr⟩ := bso hr
  · (try dsimp only at hr)
    rcases e1 with _ | _ | e1
    · change (none : Option (Int32 × Mm)) = some r at hr; cases hr
    · change (none : Option (Int32 × Mm)) = some r at hr; cases hr
    · change some ((1 : Int32), M1) = some r at hr; cases hr
      refine n_callVc1 (n := 3) (lo2 := [_, _, _, _]) G [_] (E := "java/lang/IllegalArgumentException") (nm := "java/lang/IllegalArgumentException") (M1 := M1) (B_X9_told G hp0 h1) (by decide) mX9_told ml_RL_25 hp0 (by decide +kernel) rfl rfl (Nat.le_of_ble_eq_true rfl) (by decide +kernel) [] ⟨0, 9, 12, 13⟩ [] rfl (List.forall_mem_nil _) (by decide) (by decide) ck_13 ca_2 (by decide +kernel) (Nat.le_of_ble_eq_true rfl) rfl ?_
      refine n_iconst (n := 1) (v := 1) (by decide +kernel) rfl ?_
      exact n_ireturn (by decide +kernel)
  try dsimp only at hr
  refine n_callVi G [_] (x := v1) (M1 := M1) (B_X9_told G hp0 h1) (by decide) mX9_told ml_RL_25 hp0 (by decide +kernel) rfl rfl (Nat.le_of_ble_eq_true rfl) (by decide +kernel) ?_
  refine n_i2l (by decide +kernel) ?_
  obtain ⟨M2, h2, hr⟩ := bso hr
  refine n_last G h2 hp2 (by decide +kernel) (by decide +kernel) (by decide +kernel) ?_
  refine n_goto (off := 6) (tgt := 15) (by decide +kernel) (by decide) ?_
  refine n_iconst (n := 0) (v := 0) (by decide +kernel) rfl ?_
  cases hr
  exact n_ireturn (by decide +kernel)
set_option maxRecDepth 100000 in
theorem B_L_stone (G : GG l s0 b L xs D cy ad)  {x1 : Int32} {x2 : Int32} {M : Mm} {r : (Int32 × Mm)} (hp0 : P 0) (hp3 : P 275) (hr : f_L_stone x1 x2 M = some r) : Cl l s0 D cy ad P 12 KL_stone [.ref 0, .int x1, .int x2, .ref 275] M (.inl (some (.int r.1))) (r.2) := by
  refine cl_ofW (by decide +kernel) rfl rfl okI (lo0 := [_, _, _, _, .null]) rfl ?_
  unfold f_L_stone at hr
  refine n_aload_n (n := 3) (by decide +kernel) rfl ?_
  refine n_iconst (n := 0) (v := 0) (by decide +kernel) rfl ?_
  refine n_aload_n (n := 0) (by decide +kernel) rfl ?_
  refine n_iload_n (n := 1) (by decide +kernel) rfl ?_
  refine n_iload_n (n := 2) (by decide +kernel) rfl ?_
  obtain ⟨⟨e1 | v1, M1⟩, h1, hr⟩ := bso hr
  · (try dsimp only at hr)
    rcases e1 with _ | _ | e1
    · change (none : Option (Int32 × Mm)) = some r at hr; cases hr
    · change some ((1 : Int32), M1) = some r at hr; cases hr
      refine n_callVc2 (n := 4) (lo2 := [_, _, _, _, _]) G [_, _] (E := "java/util/NoSuchElementException") (nm := "java/util/NoSuchElementException") (M1 := M1) (B_X9_stone G hp0 h1) (by decide) mX9_stone ml_RL_28 hp0 (by decide +kernel) rfl rfl (Nat.le_of_ble_eq_true rfl) (by decide +kernel) [] ⟨0, 10, 13, 31⟩ [⟨0, 10, 17, 13⟩] rfl (List.forall_mem_nil _) (by decide) (by decide) ck_31 ca_1 (by decide +kernel) (Nat.le_of_ble_eq_true rfl) rfl ?_
      refine n_iconst (n := 1) (v := 1) (by decide +kernel) rfl ?_
      exact n_ireturn (by decide +kernel)
    · change some ((2 : Int32), M1) = some r at hr; cases hr
      refine n_callVc2 (n := 4) (lo2 := [_, _, _, _, _]) G [_, _] (E := "java/lang/IllegalArgumentException") (nm := "java/lang/IllegalArgumentException") (M1 := M1) (B_X9_stone G hp0 h1) (by decide) mX9_stone ml_RL_28 hp0 (by decide +kernel) rfl rfl (Nat.le_of_ble_eq_true rfl) (by decide +kernel) [⟨0, 10, 13, 31⟩] ⟨0, 10, 17, 13⟩ [] rfl (List.forall_mem_cons.mpr ⟨⟨by decide, "java/util/NoSuchElementException", ck_31, List.mem_of_getElem? (i := 1) rfl⟩, List.forall_mem_nil _⟩) (by decide) (by decide) ck_13 ca_2 (by decide +kernel) (Nat.le_of_ble_eq_true rfl) rfl ?_
      refine n_iconst (n := 2) (v := 2) (by decide +kernel) rfl ?_
      exact n_ireturn (by decide +kernel)
  try dsimp only at hr
  refine n_callVi G [_, _] (x := v1) (M1 := M1) (B_X9_stone G hp0 h1) (by decide) mX9_stone ml_RL_28 hp0 (by decide +kernel) rfl rfl (Nat.le_of_ble_eq_true rfl) (by decide +kernel) ?_
  refine n_i2l (by decide +kernel) ?_
  obtain ⟨M2, h2, hr⟩ := bso hr
  refine n_last G h2 hp3 (by decide +kernel) (by decide +kernel) (by decide +kernel) ?_
  refine n_goto (off := 11) (tgt := 21) (by decide +kernel) (by decide) ?_
  refine n_iconst (n := 0) (v := 0) (by decide +kernel) rfl ?_
  cases hr
  exact n_ireturn (by decide +kernel)
set_option maxRecDepth 100000 in
theorem B_L_cell (G : GG l s0 b L xs D cy ad)  {x1 : Int32} {x2 : Int32} {x3 : Int32} {M : Mm} {r : (Int32 × Mm)} (hp0 : P 0) (hp4 : P 275) (hr : f_L_cell x1 x2 x3 M = some r) : Cl l s0 D cy ad P 14 KL_cell [.ref 0, .int x1, .int x2, .int x3, .ref 275] M (.inl (some (.int r.1))) (r.2) := by
  refine cl_ofW (by decide +kernel) rfl rfl okI (lo0 := [_, _, _, _, _, .null]) rfl ?_
  unfold f_L_cell at hr
  refine n_aload (n := 4) (by decide +kernel) rfl ?_
  refine n_iconst (n := 0) (v := 0) (by decide +kernel) rfl ?_
  refine n_aload_n (n := 0) (by decide +kernel) rfl ?_
  refine n_iload_n (n := 1) (by decide +kernel) rfl ?_
  refine n_iload_n (n := 2) (by decide +kernel) rfl ?_
  refine n_iload_n (n := 3) (by decide +kernel) rfl ?_
  obtain ⟨⟨e1 | v1, M1⟩, h1, hr⟩ := bso hr
  · (try dsimp only at hr)
    rcases e1 with _ | _ | e1
    · change some ((1 : Int32), M1) = some r at hr; cases hr
      refine n_callVc2 (n := 5) (lo2 := [_, _, _, _, _, _]) G [_, _, _] (E := "java/lang/IndexOutOfBoundsException") (nm := "java/lang/IndexOutOfBoundsException") (M1 := M1) (B_X9_cell G hp0 h1) (by decide) mX9_cell ml_RL_33 hp0 (by decide +kernel) rfl rfl (Nat.le_of_ble_eq_true rfl) (by decide +kernel) [] ⟨0, 12, 15, 37⟩ [⟨0, 12, 19, 13⟩] rfl (List.forall_mem_nil _) (by decide) (by decide) ck_37 ca_0 (by decide +kernel) (Nat.le_of_ble_eq_true rfl) rfl ?_
      refine n_iconst (n := 1) (v := 1) (by decide +kernel) rfl ?_
      exact n_ireturn (by decide +kernel)
    · change (none : Option (Int32 × Mm)) = some r at hr; cases hr
    · change some ((2 : Int32), M1) = some r at hr; cases hr
      refine n_callVc2 (n := 5) (lo2 := [_, _, _, _, _, _]) G [_, _, _] (E := "java/lang/IllegalArgumentException") (nm := "java/lang/IllegalArgumentException") (M1 := M1) (B_X9_cell G hp0 h1) (by decide) mX9_cell ml_RL_33 hp0 (by decide +kernel) rfl rfl (Nat.le_of_ble_eq_true rfl) (by decide +kernel) [⟨0, 12, 15, 37⟩] ⟨0, 12, 19, 13⟩ [] rfl (List.forall_mem_cons.mpr ⟨⟨by decide, "java/lang/IndexOutOfBoundsException", ck_37, List.mem_of_getElem? (i := 0) rfl⟩, List.forall_mem_nil _⟩) (by decide) (by decide) ck_13 ca_2 (by decide +kernel) (Nat.le_of_ble_eq_true rfl) rfl ?_
      refine n_iconst (n := 2) (v := 2) (by decide +kernel) rfl ?_
      exact n_ireturn (by decide +kernel)
  try dsimp only at hr
  refine n_callVi G [_, _, _] (x := v1) (M1 := M1) (B_X9_cell G hp0 h1) (by decide) mX9_cell ml_RL_33 hp0 (by decide +kernel) rfl rfl (Nat.le_of_ble_eq_true rfl) (by decide +kernel) ?_
  refine n_i2l (by decide +kernel) ?_
  obtain ⟨M2, h2, hr⟩ := bso hr
  refine n_last G h2 hp4 (by decide +kernel) (by decide +kernel) (by decide +kernel) ?_
  refine n_goto (off := 11) (tgt := 23) (by decide +kernel) (by decide) ?_
  refine n_iconst (n := 0) (v := 0) (by decide +kernel) rfl ?_
  cases hr
  exact n_ireturn (by decide +kernel)
set_option maxRecDepth 100000 in
theorem B_L_sledge (G : GG l s0 b L xs D cy ad)  {x1 : Int32} {M : Mm} {r : (Int32 × Mm)} (hp0 : P 0) (hp2 : P 275) (hr : f_L_sledge x1 M = some r) : Cl l s0 D cy ad P 11 KL_sledge [.ref 0, .int x1, .ref 275] M (.inl (some (.int r.1))) (r.2) := by
  refine cl_ofW (by decide +kernel) rfl rfl okI (lo0 := [_, _, _, .null]) rfl ?_
  unfold f_L_sledge at hr
  refine n_aload_n (n := 2) (by decide +kernel) rfl ?_
  refine n_iconst (n := 0) (v := 0) (by decide +kernel) rfl ?_
  refine n_aload_n (n := 0) (by decide +kernel) rfl ?_
  refine n_iload_n (n := 1) (by decide +kernel) rfl ?_
  obtain ⟨⟨e1 | v1, M1⟩, h1, hr⟩ := bso hr
  · (try dsimp only at hr)
    rcases e1 with _ | _ | e1
    · change (none : Option (Int32 × Mm)) = some r at hr; cases hr
    · change (none : Option (Int32 × Mm)) = some r at hr; cases hr
    · change some ((1 : Int32), M1) = some r at hr; cases hr
      refine n_callVc1 (n := 3) (lo2 := [_, _, _, _]) G [_] (E := "java/lang/IllegalArgumentException") (nm := "java/lang/IllegalArgumentException") (M1 := M1) (B_X9_sledge G hp0 h1) (by decide) mX9_sledge ml_RL_39 hp0 (by decide +kernel) rfl rfl (Nat.le_of_ble_eq_true rfl) (by decide +kernel) [] ⟨0, 9, 12, 13⟩ [] rfl (List.forall_mem_nil _) (by decide) (by decide) ck_13 ca_2 (by decide +kernel) (Nat.le_of_ble_eq_true rfl) rfl ?_
      refine n_iconst (n := 1) (v := 1) (by decide +kernel) rfl ?_
      exact n_ireturn (by decide +kernel)
  try dsimp only at hr
  refine n_callVi G [_] (x := v1) (M1 := M1) (B_X9_sledge G hp0 h1) (by decide) mX9_sledge ml_RL_39 hp0 (by decide +kernel) rfl rfl (Nat.le_of_ble_eq_true rfl) (by decide +kernel) ?_
  refine n_i2l (by decide +kernel) ?_
  obtain ⟨M2, h2, hr⟩ := bso hr
  refine n_last G h2 hp2 (by decide +kernel) (by decide +kernel) (by decide +kernel) ?_
  refine n_goto (off := 6) (tgt := 15) (by decide +kernel) (by decide) ?_
  refine n_iconst (n := 0) (v := 0) (by decide +kernel) rfl ?_
  cases hr
  exact n_ireturn (by decide +kernel)
set_option maxRecDepth 100000 in
theorem B_L_sums (G : GG l s0 b L xs D cy ad)  {x1 : Int32} {M : Mm} {r : (Int32 × Mm)} (hp0 : P 0) (hp2 : P 275) (hr : f_L_sums x1 M = some r) : Cl l s0 D cy ad P 11 KL_sums [.ref 0, .int x1, .ref 275] M (.inl (some (.int r.1))) (r.2) := by
  refine cl_ofW (by decide +kernel) rfl rfl okI (lo0 := [_, _, _, .null]) rfl ?_
  unfold f_L_sums at hr
  refine n_aload_n (n := 2) (by decide +kernel) rfl ?_
  refine n_iconst (n := 0) (v := 0) (by decide +kernel) rfl ?_
  refine n_aload_n (n := 0) (by decide +kernel) rfl ?_
  refine n_iload_n (n := 1) (by decide +kernel) rfl ?_
  obtain ⟨⟨e1 | v1, M1⟩, h1, hr⟩ := bso hr
  · (try dsimp only at hr)
    rcases e1 with _ | _ | e1
    · change (none : Option (Int32 × Mm)) = some r at hr; cases hr
    · change (none : Option (Int32 × Mm)) = some r at hr; cases hr
    · change some ((1 : Int32), M1) = some r at hr; cases hr
      refine n_callVc1 (n := 3) (lo2 := [_, _, _, _]) G [_] (E := "java/lang/IllegalArgumentException") (nm := "java/lang/IllegalArgumentException") (M1 := M1) (B_X9_sums G hp0 h1) (by decide) mX9_sums ml_RL_42 hp0 (by decide +kernel) rfl rfl (Nat.le_of_ble_eq_true rfl) (by decide +kernel) [] ⟨0, 9, 12, 13⟩ [] rfl (List.forall_mem_nil _) (by decide) (by decide) ck_13 ca_2 (by decide +kernel) (Nat.le_of_ble_eq_true rfl) rfl ?_
      refine n_iconst (n := 1) (v := 1) (by decide +kernel) rfl ?_
      exact n_ireturn (by decide +kernel)
  try dsimp only at hr
  refine n_callVi G [_] (x := v1) (M1 := M1) (B_X9_sums G hp0 h1) (by decide) mX9_sums ml_RL_42 hp0 (by decide +kernel) rfl rfl (Nat.le_of_ble_eq_true rfl) (by decide +kernel) ?_
  refine n_i2l (by decide +kernel) ?_
  obtain ⟨M2, h2, hr⟩ := bso hr
  refine n_last G h2 hp2 (by decide +kernel) (by decide +kernel) (by decide +kernel) ?_
  refine n_goto (off := 6) (tgt := 15) (by decide +kernel) (by decide) ?_
  refine n_iconst (n := 0) (v := 0) (by decide +kernel) rfl ?_
  cases hr
  exact n_ireturn (by decide +kernel)
set_option maxRecDepth 100000 in
theorem B_L_damage (G : GG l s0 b L xs D cy ad)  {x1 : Int32} {x2 : Int32} {x3 : Int32} {M : Mm} {r : (Int32 × Mm)} (hp0 : P 0) (hp4 : P 275) (hr : f_L_damage x1 x2 x3 M = some r) : Cl l s0 D cy ad P 13 KL_damage [.ref 0, .int x1, .int x2, .int x3, .ref 275] M (.inl (some (.int r.1))) (r.2) := by
  refine cl_ofW (by decide +kernel) rfl rfl okI (lo0 := [_, _, _, _, _, .null]) rfl ?_
  unfold f_L_damage at hr
  refine n_aload (n := 4) (by decide +kernel) rfl ?_
  refine n_iconst (n := 0) (v := 0) (by decide +kernel) rfl ?_
  refine n_aload_n (n := 0) (by decide +kernel) rfl ?_
  refine n_iload_n (n := 1) (by decide +kernel) rfl ?_
  refine n_iload_n (n := 2) (by decide +kernel) rfl ?_
  refine n_iload_n (n := 3) (by decide +kernel) rfl ?_
  obtain ⟨⟨e1 | v1, M1⟩, h1, hr⟩ := bso hr
  · (try dsimp only at hr)
    rcases e1 with _ | _ | e1
    · change some ((1 : Int32), M1) = some r at hr; cases hr
      refine n_callVc2 (n := 5) (lo2 := [_, _, _, _, _, _]) G [_, _, _] (E := "java/lang/IndexOutOfBoundsException") (nm := "java/lang/IndexOutOfBoundsException") (M1 := M1) (B_X9_damage G hp0 h1) (by decide) mX9_damage ml_RL_45 hp0 (by decide +kernel) rfl rfl (Nat.le_of_ble_eq_true rfl) (by decide +kernel) [] ⟨0, 12, 15, 37⟩ [⟨0, 12, 19, 13⟩] rfl (List.forall_mem_nil _) (by decide) (by decide) ck_37 ca_0 (by decide +kernel) (Nat.le_of_ble_eq_true rfl) rfl ?_
      refine n_iconst (n := 1) (v := 1) (by decide +kernel) rfl ?_
      exact n_ireturn (by decide +kernel)
    · change (none : Option (Int32 × Mm)) = some r at hr; cases hr
    · change some ((2 : Int32), M1) = some r at hr; cases hr
      refine n_callVc2 (n := 5) (lo2 := [_, _, _, _, _, _]) G [_, _, _] (E := "java/lang/IllegalArgumentException") (nm := "java/lang/IllegalArgumentException") (M1 := M1) (B_X9_damage G hp0 h1) (by decide) mX9_damage ml_RL_45 hp0 (by decide +kernel) rfl rfl (Nat.le_of_ble_eq_true rfl) (by decide +kernel) [⟨0, 12, 15, 37⟩] ⟨0, 12, 19, 13⟩ [] rfl (List.forall_mem_cons.mpr ⟨⟨by decide, "java/lang/IndexOutOfBoundsException", ck_37, List.mem_of_getElem? (i := 0) rfl⟩, List.forall_mem_nil _⟩) (by decide) (by decide) ck_13 ca_2 (by decide +kernel) (Nat.le_of_ble_eq_true rfl) rfl ?_
      refine n_iconst (n := 2) (v := 2) (by decide +kernel) rfl ?_
      exact n_ireturn (by decide +kernel)
  try dsimp only at hr
  refine n_callVi G [_, _, _] (x := v1) (M1 := M1) (B_X9_damage G hp0 h1) (by decide) mX9_damage ml_RL_45 hp0 (by decide +kernel) rfl rfl (Nat.le_of_ble_eq_true rfl) (by decide +kernel) ?_
  refine n_i2l (by decide +kernel) ?_
  obtain ⟨M2, h2, hr⟩ := bso hr
  refine n_last G h2 hp4 (by decide +kernel) (by decide +kernel) (by decide +kernel) ?_
  refine n_goto (off := 11) (tgt := 23) (by decide +kernel) (by decide) ?_
  refine n_iconst (n := 0) (v := 0) (by decide +kernel) rfl ?_
  cases hr
  exact n_ireturn (by decide +kernel)
set_option maxRecDepth 100000 in
theorem B_L_rises (G : GG l s0 b L xs D cy ad)  {x1 : Int32} {x2 : Int32} {M : Mm} {r : (Int32 × Mm)} (hp0 : P 0) (hp3 : P 275) (hr : f_L_rises x1 x2 M = some r) : Cl l s0 D cy ad P 13 KL_rises [.ref 0, .int x1, .int x2, .ref 275] M (.inl (some (.int r.1))) (r.2) := by
  refine cl_ofW (by decide +kernel) rfl rfl okI (lo0 := [_, _, _, _, .null]) rfl ?_
  unfold f_L_rises at hr
  refine n_aload_n (n := 3) (by decide +kernel) rfl ?_
  refine n_iconst (n := 0) (v := 0) (by decide +kernel) rfl ?_
  refine n_aload_n (n := 0) (by decide +kernel) rfl ?_
  refine n_iload_n (n := 1) (by decide +kernel) rfl ?_
  refine n_iload_n (n := 2) (by decide +kernel) rfl ?_
  obtain ⟨⟨e1 | v1, M1⟩, h1, hr⟩ := bso hr
  · (try dsimp only at hr)
    rcases e1 with _ | _ | e1
    · change some ((1 : Int32), M1) = some r at hr; cases hr
      refine n_callVc2 (n := 4) (lo2 := [_, _, _, _, _]) G [_, _] (E := "java/lang/IndexOutOfBoundsException") (nm := "java/lang/IndexOutOfBoundsException") (M1 := M1) (B_X9_rises G hp0 h1) (by decide) mX9_rises ml_RL_48 hp0 (by decide +kernel) rfl rfl (Nat.le_of_ble_eq_true rfl) (by decide +kernel) [] ⟨0, 10, 13, 37⟩ [] rfl (List.forall_mem_nil _) (by decide) (by decide) ck_37 ca_0 (by decide +kernel) (Nat.le_of_ble_eq_true rfl) rfl ?_
      refine n_iconst (n := 1) (v := 1) (by decide +kernel) rfl ?_
      exact n_ireturn (by decide +kernel)
    · change (none : Option (Int32 × Mm)) = some r at hr; cases hr
    · change (none : Option (Int32 × Mm)) = some r at hr; cases hr
  try dsimp only at hr
  refine n_callVi G [_, _] (x := v1) (M1 := M1) (B_X9_rises G hp0 h1) (by decide) mX9_rises ml_RL_48 hp0 (by decide +kernel) rfl rfl (Nat.le_of_ble_eq_true rfl) (by decide +kernel) ?_
  refine n_i2l (by decide +kernel) ?_
  obtain ⟨M2, h2, hr⟩ := bso hr
  refine n_last G h2 hp3 (by decide +kernel) (by decide +kernel) (by decide +kernel) ?_
  refine n_goto (off := 7) (tgt := 17) (by decide +kernel) (by decide) ?_
  refine n_iconst (n := 0) (v := 0) (by decide +kernel) rfl ?_
  cases hr
  exact n_ireturn (by decide +kernel)
set_option maxRecDepth 100000 in
theorem B_L_clear (G : GG l s0 b L xs D cy ad)  {x1 : Int32} {M : Mm} {r : (Int32 × Mm)} (hp0 : P 0) (hp2 : P 275) (hr : f_L_clear x1 M = some r) : Cl l s0 D cy ad P 13 KL_clear [.ref 0, .int x1, .ref 275] M (.inl (some (.int r.1))) (r.2) := by
  refine cl_ofW (by decide +kernel) rfl rfl okI (lo0 := [_, _, _, .null]) rfl ?_
  unfold f_L_clear at hr
  refine n_aload_n (n := 2) (by decide +kernel) rfl ?_
  refine n_iconst (n := 0) (v := 0) (by decide +kernel) rfl ?_
  refine n_aload_n (n := 0) (by decide +kernel) rfl ?_
  refine n_iload_n (n := 1) (by decide +kernel) rfl ?_
  obtain ⟨⟨e1 | v1, M1⟩, h1, hr⟩ := bso hr
  · (try dsimp only at hr)
    rcases e1 with _ | _ | e1
    · change (none : Option (Int32 × Mm)) = some r at hr; cases hr
    · change some ((1 : Int32), M1) = some r at hr; cases hr
      refine n_callVc1 (n := 3) (lo2 := [_, _, _, _]) G [_] (E := "java/util/NoSuchElementException") (nm := "java/util/NoSuchElementException") (M1 := M1) (B_X9_clear G hp0 h1) (by decide) mX9_clear ml_RL_51 hp0 (by decide +kernel) rfl rfl (Nat.le_of_ble_eq_true rfl) (by decide +kernel) [] ⟨0, 9, 12, 31⟩ [] rfl (List.forall_mem_nil _) (by decide) (by decide) ck_31 ca_1 (by decide +kernel) (Nat.le_of_ble_eq_true rfl) rfl ?_
      refine n_iconst (n := 1) (v := 1) (by decide +kernel) rfl ?_
      exact n_ireturn (by decide +kernel)
    · change (none : Option (Int32 × Mm)) = some r at hr; cases hr
  try dsimp only at hr
  refine n_callVi G [_] (x := v1) (M1 := M1) (B_X9_clear G hp0 h1) (by decide) mX9_clear ml_RL_51 hp0 (by decide +kernel) rfl rfl (Nat.le_of_ble_eq_true rfl) (by decide +kernel) ?_
  refine n_i2l (by decide +kernel) ?_
  obtain ⟨M2, h2, hr⟩ := bso hr
  refine n_last G h2 hp2 (by decide +kernel) (by decide +kernel) (by decide +kernel) ?_
  refine n_goto (off := 6) (tgt := 15) (by decide +kernel) (by decide) ?_
  refine n_iconst (n := 0) (v := 0) (by decide +kernel) rfl ?_
  cases hr
  exact n_ireturn (by decide +kernel)
set_option maxRecDepth 100000 in
theorem B_L_stops (G : GG l s0 b L xs D cy ad)  {x1 : Int32} {x2 : Int32} {M : Mm} {r : (Int32 × Mm)} (hp0 : P 0) (hp3 : P 275) (hr : f_L_stops x1 x2 M = some r) : Cl l s0 D cy ad P 15 KL_stops [.ref 0, .int x1, .int x2, .ref 275] M (.inl (some (.int r.1))) (r.2) := by
  refine cl_ofW (by decide +kernel) rfl rfl okI (lo0 := [_, _, _, _, .null]) rfl ?_
  unfold f_L_stops at hr
  refine n_aload_n (n := 3) (by decide +kernel) rfl ?_
  refine n_iconst (n := 0) (v := 0) (by decide +kernel) rfl ?_
  refine n_aload_n (n := 0) (by decide +kernel) rfl ?_
  refine n_iload_n (n := 1) (by decide +kernel) rfl ?_
  refine n_iload_n (n := 2) (by decide +kernel) rfl ?_
  obtain ⟨⟨e1 | v1, M1⟩, h1, hr⟩ := bso hr
  · (try dsimp only at hr)
    rcases e1 with _ | _ | e1
    · change (none : Option (Int32 × Mm)) = some r at hr; cases hr
    · change (none : Option (Int32 × Mm)) = some r at hr; cases hr
    · change some ((1 : Int32), M1) = some r at hr; cases hr
      refine n_callVc2 (n := 4) (lo2 := [_, _, _, _, _]) G [_, _] (E := "java/lang/IllegalArgumentException") (nm := "java/lang/IllegalArgumentException") (M1 := M1) (B_X9_stops G hp0 h1) (by decide) mX9_stops ml_RL_54 hp0 (by decide +kernel) rfl rfl (Nat.le_of_ble_eq_true rfl) (by decide +kernel) [] ⟨0, 10, 13, 13⟩ [] rfl (List.forall_mem_nil _) (by decide) (by decide) ck_13 ca_2 (by decide +kernel) (Nat.le_of_ble_eq_true rfl) rfl ?_
      refine n_iconst (n := 1) (v := 1) (by decide +kernel) rfl ?_
      exact n_ireturn (by decide +kernel)
  try dsimp only at hr
  refine n_callVi G [_, _] (x := v1) (M1 := M1) (B_X9_stops G hp0 h1) (by decide) mX9_stops ml_RL_54 hp0 (by decide +kernel) rfl rfl (Nat.le_of_ble_eq_true rfl) (by decide +kernel) ?_
  refine n_i2l (by decide +kernel) ?_
  obtain ⟨M2, h2, hr⟩ := bso hr
  refine n_last G h2 hp3 (by decide +kernel) (by decide +kernel) (by decide +kernel) ?_
  refine n_goto (off := 7) (tgt := 17) (by decide +kernel) (by decide) ?_
  refine n_iconst (n := 0) (v := 0) (by decide +kernel) rfl ?_
  cases hr
  exact n_ireturn (by decide +kernel)
set_option maxRecDepth 100000 in
theorem B_L_way (G : GG l s0 b L xs D cy ad)  {x1 : Int32} {M : Mm} {r : (Int32 × Mm)} (hp0 : P 0) (hp2 : P 275) (hr : f_L_way x1 M = some r) : Cl l s0 D cy ad P 15 KL_way [.ref 0, .int x1, .ref 275] M (.inl (some (.int r.1))) (r.2) := by
  refine cl_ofW (by decide +kernel) rfl rfl okI (lo0 := [_, _, _, .null]) rfl ?_
  unfold f_L_way at hr
  refine n_aload_n (n := 2) (by decide +kernel) rfl ?_
  refine n_iconst (n := 0) (v := 0) (by decide +kernel) rfl ?_
  refine n_aload_n (n := 0) (by decide +kernel) rfl ?_
  refine n_iload_n (n := 1) (by decide +kernel) rfl ?_
  obtain ⟨⟨e1 | v1, M1⟩, h1, hr⟩ := bso hr
  · (try dsimp only at hr)
    rcases e1 with _ | _ | e1
    · change (none : Option (Int32 × Mm)) = some r at hr; cases hr
    · change (none : Option (Int32 × Mm)) = some r at hr; cases hr
    · change some ((1 : Int32), M1) = some r at hr; cases hr
      refine n_callVc1 (n := 3) (lo2 := [_, _, _, _]) G [_] (E := "java/lang/IllegalArgumentException") (nm := "java/lang/IllegalArgumentException") (M1 := M1) (B_X9_way G hp0 h1) (by decide) mX9_way ml_RL_57 hp0 (by decide +kernel) rfl rfl (Nat.le_of_ble_eq_true rfl) (by decide +kernel) [] ⟨0, 8, 11, 13⟩ [] rfl (List.forall_mem_nil _) (by decide) (by decide) ck_13 ca_2 (by decide +kernel) (Nat.le_of_ble_eq_true rfl) rfl ?_
      refine n_iconst (n := 1) (v := 1) (by decide +kernel) rfl ?_
      exact n_ireturn (by decide +kernel)
  try dsimp only at hr
  refine n_callVl G [_] (x := v1) (M1 := M1) (B_X9_way G hp0 h1) (by decide) mX9_way ml_RL_57 hp0 (by decide +kernel) rfl rfl (Nat.le_of_ble_eq_true rfl) (by decide +kernel) ?_
  obtain ⟨M2, h2, hr⟩ := bso hr
  refine n_last G h2 hp2 (by decide +kernel) (by decide +kernel) (by decide +kernel) ?_
  refine n_goto (off := 6) (tgt := 14) (by decide +kernel) (by decide) ?_
  refine n_iconst (n := 0) (v := 0) (by decide +kernel) rfl ?_
  cases hr
  exact n_ireturn (by decide +kernel)
set_option maxRecDepth 100000 in
theorem B_L_heaps (G : GG l s0 b L xs D cy ad)  {x1 : Int32} {x2 : Int32} {M : Mm} {r : (Int32 × Mm)} (hp0 : P 0) (hp3 : P 275) (hr : f_L_heaps x1 x2 M = some r) : Cl l s0 D cy ad P 15 KL_heaps [.ref 0, .int x1, .int x2, .ref 275] M (.inl (some (.int r.1))) (r.2) := by
  refine cl_ofW (by decide +kernel) rfl rfl okI (lo0 := [_, _, _, _, .null]) rfl ?_
  unfold f_L_heaps at hr
  refine n_aload_n (n := 3) (by decide +kernel) rfl ?_
  refine n_iconst (n := 0) (v := 0) (by decide +kernel) rfl ?_
  refine n_aload_n (n := 0) (by decide +kernel) rfl ?_
  refine n_iload_n (n := 1) (by decide +kernel) rfl ?_
  refine n_iload_n (n := 2) (by decide +kernel) rfl ?_
  obtain ⟨⟨e1 | v1, M1⟩, h1, hr⟩ := bso hr
  · (try dsimp only at hr)
    rcases e1 with _ | _ | e1
    · change (none : Option (Int32 × Mm)) = some r at hr; cases hr
    · change (none : Option (Int32 × Mm)) = some r at hr; cases hr
    · change some ((1 : Int32), M1) = some r at hr; cases hr
      refine n_callVc2 (n := 4) (lo2 := [_, _, _, _, _]) G [_, _] (E := "java/lang/IllegalArgumentException") (nm := "java/lang/IllegalArgumentException") (M1 := M1) (B_X9_heaps G hp0 h1) (by decide) mX9_heaps ml_RL_61 hp0 (by decide +kernel) rfl rfl (Nat.le_of_ble_eq_true rfl) (by decide +kernel) [] ⟨0, 10, 13, 13⟩ [] rfl (List.forall_mem_nil _) (by decide) (by decide) ck_13 ca_2 (by decide +kernel) (Nat.le_of_ble_eq_true rfl) rfl ?_
      refine n_iconst (n := 1) (v := 1) (by decide +kernel) rfl ?_
      exact n_ireturn (by decide +kernel)
  try dsimp only at hr
  refine n_callVi G [_, _] (x := v1) (M1 := M1) (B_X9_heaps G hp0 h1) (by decide) mX9_heaps ml_RL_61 hp0 (by decide +kernel) rfl rfl (Nat.le_of_ble_eq_true rfl) (by decide +kernel) ?_
  refine n_i2l (by decide +kernel) ?_
  obtain ⟨M2, h2, hr⟩ := bso hr
  refine n_last G h2 hp3 (by decide +kernel) (by decide +kernel) (by decide +kernel) ?_
  refine n_goto (off := 7) (tgt := 17) (by decide +kernel) (by decide) ?_
  refine n_iconst (n := 0) (v := 0) (by decide +kernel) rfl ?_
  cases hr
  exact n_ireturn (by decide +kernel)
set_option maxRecDepth 100000 in
theorem B_L_line (G : GG l s0 b L xs D cy ad)  {x1 : Int32} {x2 : Int32} {M : Mm} {r : (Int32 × Mm)} (hp0 : P 0) (hp3 : P 275) (hr : f_L_line x1 x2 M = some r) : Cl l s0 D cy ad P 15 KL_line [.ref 0, .int x1, .int x2, .ref 275] M (.inl (some (.int r.1))) (r.2) := by
  refine cl_ofW (by decide +kernel) rfl rfl okI (lo0 := [_, _, _, _, .null]) rfl ?_
  unfold f_L_line at hr
  refine n_aload_n (n := 3) (by decide +kernel) rfl ?_
  refine n_iconst (n := 0) (v := 0) (by decide +kernel) rfl ?_
  refine n_aload_n (n := 0) (by decide +kernel) rfl ?_
  refine n_iload_n (n := 1) (by decide +kernel) rfl ?_
  refine n_iload_n (n := 2) (by decide +kernel) rfl ?_
  obtain ⟨⟨e1 | v1, M1⟩, h1, hr⟩ := bso hr
  · (try dsimp only at hr)
    rcases e1 with _ | _ | e1
    · change (none : Option (Int32 × Mm)) = some r at hr; cases hr
    · change (none : Option (Int32 × Mm)) = some r at hr; cases hr
    · change some ((1 : Int32), M1) = some r at hr; cases hr
      refine n_callVc2 (n := 4) (lo2 := [_, _, _, _, _]) G [_, _] (E := "java/lang/IllegalArgumentException") (nm := "java/lang/IllegalArgumentException") (M1 := M1) (B_X9_line G hp0 h1) (by decide) mX9_line ml_RL_64 hp0 (by decide +kernel) rfl rfl (Nat.le_of_ble_eq_true rfl) (by decide +kernel) [] ⟨0, 10, 13, 13⟩ [] rfl (List.forall_mem_nil _) (by decide) (by decide) ck_13 ca_2 (by decide +kernel) (Nat.le_of_ble_eq_true rfl) rfl ?_
      refine n_iconst (n := 1) (v := 1) (by decide +kernel) rfl ?_
      exact n_ireturn (by decide +kernel)
  try dsimp only at hr
  refine n_callVi G [_, _] (x := v1) (M1 := M1) (B_X9_line G hp0 h1) (by decide) mX9_line ml_RL_64 hp0 (by decide +kernel) rfl rfl (Nat.le_of_ble_eq_true rfl) (by decide +kernel) ?_
  refine n_i2l (by decide +kernel) ?_
  obtain ⟨M2, h2, hr⟩ := bso hr
  refine n_last G h2 hp3 (by decide +kernel) (by decide +kernel) (by decide +kernel) ?_
  refine n_goto (off := 7) (tgt := 17) (by decide +kernel) (by decide) ?_
  refine n_iconst (n := 0) (v := 0) (by decide +kernel) rfl ?_
  cases hr
  exact n_ireturn (by decide +kernel)
set_option maxRecDepth 100000 in
theorem B_L_first (G : GG l s0 b L xs D cy ad)  {x1 : Int32} {x2 : Int32} {M : Mm} {r : (Int32 × Mm)} (hp0 : P 0) (hp3 : P 275) (hr : f_L_first x1 x2 M = some r) : Cl l s0 D cy ad P 15 KL_first [.ref 0, .int x1, .int x2, .ref 275] M (.inl (some (.int r.1))) (r.2) := by
  refine cl_ofW (by decide +kernel) rfl rfl okI (lo0 := [_, _, _, _, .null]) rfl ?_
  unfold f_L_first at hr
  refine n_aload_n (n := 3) (by decide +kernel) rfl ?_
  refine n_iconst (n := 0) (v := 0) (by decide +kernel) rfl ?_
  refine n_aload_n (n := 0) (by decide +kernel) rfl ?_
  refine n_iload_n (n := 1) (by decide +kernel) rfl ?_
  refine n_iload_n (n := 2) (by decide +kernel) rfl ?_
  obtain ⟨⟨e1 | v1, M1⟩, h1, hr⟩ := bso hr
  · (try dsimp only at hr)
    rcases e1 with _ | _ | e1
    · change (none : Option (Int32 × Mm)) = some r at hr; cases hr
    · change (none : Option (Int32 × Mm)) = some r at hr; cases hr
    · change some ((1 : Int32), M1) = some r at hr; cases hr
      refine n_callVc2 (n := 4) (lo2 := [_, _, _, _, _]) G [_, _] (E := "java/lang/IllegalArgumentException") (nm := "java/lang/IllegalArgumentException") (M1 := M1) (B_X9_first G hp0 h1) (by decide) mX9_first ml_RL_67 hp0 (by decide +kernel) rfl rfl (Nat.le_of_ble_eq_true rfl) (by decide +kernel) [] ⟨0, 9, 12, 13⟩ [] rfl (List.forall_mem_nil _) (by decide) (by decide) ck_13 ca_2 (by decide +kernel) (Nat.le_of_ble_eq_true rfl) rfl ?_
      refine n_iconst (n := 1) (v := 1) (by decide +kernel) rfl ?_
      exact n_ireturn (by decide +kernel)
  try dsimp only at hr
  refine n_callVl G [_, _] (x := v1) (M1 := M1) (B_X9_first G hp0 h1) (by decide) mX9_first ml_RL_67 hp0 (by decide +kernel) rfl rfl (Nat.le_of_ble_eq_true rfl) (by decide +kernel) ?_
  obtain ⟨M2, h2, hr⟩ := bso hr
  refine n_last G h2 hp3 (by decide +kernel) (by decide +kernel) (by decide +kernel) ?_
  refine n_goto (off := 7) (tgt := 16) (by decide +kernel) (by decide) ?_
  refine n_iconst (n := 0) (v := 0) (by decide +kernel) rfl ?_
  cases hr
  exact n_ireturn (by decide +kernel)
set_option maxRecDepth 100000 in
theorem B_L_mix (G : GG l s0 b L xs D cy ad)  {x1 : Int32} {x2 : Int32} {x3 : Int32} {x4 : Int32} {M : Mm} {r : (Int32 × Mm)} (hp0 : P 0) (hp5 : P 275) (hr : f_L_mix x1 x2 x3 x4 M = some r) : Cl l s0 D cy ad P 14 KL_mix [.ref 0, .int x1, .int x2, .int x3, .int x4, .ref 275] M (.inl (some (.int r.1))) (r.2) := by
  refine cl_ofW (by decide +kernel) rfl rfl okI (lo0 := [_, _, _, _, _, _, .null]) rfl ?_
  unfold f_L_mix at hr
  refine n_aload (n := 5) (by decide +kernel) rfl ?_
  refine n_iconst (n := 0) (v := 0) (by decide +kernel) rfl ?_
  refine n_aload_n (n := 0) (by decide +kernel) rfl ?_
  refine n_iload_n (n := 1) (by decide +kernel) rfl ?_
  refine n_iload_n (n := 2) (by decide +kernel) rfl ?_
  refine n_iload_n (n := 3) (by decide +kernel) rfl ?_
  refine n_iload (n := 4) (by decide +kernel) rfl ?_
  obtain ⟨⟨e1 | v1, M1⟩, h1, hr⟩ := bso hr
  · (try dsimp only at hr)
    rcases e1 with _ | _ | e1
    · change (none : Option (Int32 × Mm)) = some r at hr; cases hr
    · change (none : Option (Int32 × Mm)) = some r at hr; cases hr
    · change some ((1 : Int32), M1) = some r at hr; cases hr
      refine n_callVc2 (n := 6) (lo2 := [_, _, _, _, _, _, _]) G [_, _, _, _] (E := "java/lang/IllegalArgumentException") (nm := "java/lang/IllegalArgumentException") (M1 := M1) (B_X9_mix G hp0 h1) (by decide) mX9_mix ml_RL_71 hp0 (by decide +kernel) rfl rfl (Nat.le_of_ble_eq_true rfl) (by decide +kernel) [] ⟨0, 14, 17, 13⟩ [] rfl (List.forall_mem_nil _) (by decide) (by decide) ck_13 ca_2 (by decide +kernel) (Nat.le_of_ble_eq_true rfl) rfl ?_
      refine n_iconst (n := 1) (v := 1) (by decide +kernel) rfl ?_
      exact n_ireturn (by decide +kernel)
  try dsimp only at hr
  refine n_callVi G [_, _, _, _] (x := v1) (M1 := M1) (B_X9_mix G hp0 h1) (by decide) mX9_mix ml_RL_71 hp0 (by decide +kernel) rfl rfl (Nat.le_of_ble_eq_true rfl) (by decide +kernel) ?_
  refine n_i2l (by decide +kernel) ?_
  obtain ⟨M2, h2, hr⟩ := bso hr
  refine n_last G h2 hp5 (by decide +kernel) (by decide +kernel) (by decide +kernel) ?_
  refine n_goto (off := 7) (tgt := 21) (by decide +kernel) (by decide) ?_
  refine n_iconst (n := 0) (v := 0) (by decide +kernel) rfl ?_
  cases hr
  exact n_ireturn (by decide +kernel)
set_option maxRecDepth 100000 in
theorem B_L_enough (G : GG l s0 b L xs D cy ad)  {x1 : Int32} {x2 : Int32} {M : Mm} {r : (Int32 × Mm)} (hp0 : P 0) (hp3 : P 275) (hr : f_L_enough x1 x2 M = some r) : Cl l s0 D cy ad P 16 KL_enough [.ref 0, .int x1, .int x2, .ref 275] M (.inl (some (.int r.1))) (r.2) := by
  refine cl_ofW (by decide +kernel) rfl rfl okI (lo0 := [_, _, _, _, .null]) rfl ?_
  unfold f_L_enough at hr
  refine n_aload_n (n := 3) (by decide +kernel) rfl ?_
  refine n_iconst (n := 0) (v := 0) (by decide +kernel) rfl ?_
  refine n_aload_n (n := 0) (by decide +kernel) rfl ?_
  refine n_iload_n (n := 1) (by decide +kernel) rfl ?_
  refine n_iload_n (n := 2) (by decide +kernel) rfl ?_
  obtain ⟨⟨e1 | v1, M1⟩, h1, hr⟩ := bso hr
  · (try dsimp only at hr)
    rcases e1 with _ | _ | e1
    · change (none : Option (Int32 × Mm)) = some r at hr; cases hr
    · change (none : Option (Int32 × Mm)) = some r at hr; cases hr
    · change some ((1 : Int32), M1) = some r at hr; cases hr
      refine n_callVc2 (n := 4) (lo2 := [_, _, _, _, _]) G [_, _] (E := "java/lang/IllegalArgumentException") (nm := "java/lang/IllegalArgumentException") (M1 := M1) (B_X9_enough G hp0 h1) (by decide) mX9_enough ml_RL_75 hp0 (by decide +kernel) rfl rfl (Nat.le_of_ble_eq_true rfl) (by decide +kernel) [] ⟨0, 10, 13, 13⟩ [] rfl (List.forall_mem_nil _) (by decide) (by decide) ck_13 ca_2 (by decide +kernel) (Nat.le_of_ble_eq_true rfl) rfl ?_
      refine n_iconst (n := 1) (v := 1) (by decide +kernel) rfl ?_
      exact n_ireturn (by decide +kernel)
  try dsimp only at hr
  refine n_callVi G [_, _] (x := v1) (M1 := M1) (B_X9_enough G hp0 h1) (by decide) mX9_enough ml_RL_75 hp0 (by decide +kernel) rfl rfl (Nat.le_of_ble_eq_true rfl) (by decide +kernel) ?_
  refine n_i2l (by decide +kernel) ?_
  obtain ⟨M2, h2, hr⟩ := bso hr
  refine n_last G h2 hp3 (by decide +kernel) (by decide +kernel) (by decide +kernel) ?_
  refine n_goto (off := 7) (tgt := 17) (by decide +kernel) (by decide) ?_
  refine n_iconst (n := 0) (v := 0) (by decide +kernel) rfl ?_
  cases hr
  exact n_ireturn (by decide +kernel)
set_option maxRecDepth 100000 in
theorem B_L_left (G : GG l s0 b L xs D cy ad)  {x1 : Int32} {x2 : Int32} {M : Mm} {r : (Int32 × Mm)} (hp0 : P 0) (hp3 : P 275) (hr : f_L_left x1 x2 M = some r) : Cl l s0 D cy ad P 16 KL_left [.ref 0, .int x1, .int x2, .ref 275] M (.inl (some (.int r.1))) (r.2) := by
  refine cl_ofW (by decide +kernel) rfl rfl okI (lo0 := [_, _, _, _, .null]) rfl ?_
  unfold f_L_left at hr
  refine n_aload_n (n := 3) (by decide +kernel) rfl ?_
  refine n_iconst (n := 0) (v := 0) (by decide +kernel) rfl ?_
  refine n_aload_n (n := 0) (by decide +kernel) rfl ?_
  refine n_iload_n (n := 1) (by decide +kernel) rfl ?_
  refine n_iload_n (n := 2) (by decide +kernel) rfl ?_
  obtain ⟨⟨e1 | v1, M1⟩, h1, hr⟩ := bso hr
  · (try dsimp only at hr)
    rcases e1 with _ | _ | e1
    · change (none : Option (Int32 × Mm)) = some r at hr; cases hr
    · change (none : Option (Int32 × Mm)) = some r at hr; cases hr
    · change some ((1 : Int32), M1) = some r at hr; cases hr
      refine n_callVc2 (n := 4) (lo2 := [_, _, _, _, _]) G [_, _] (E := "java/lang/IllegalArgumentException") (nm := "java/lang/IllegalArgumentException") (M1 := M1) (B_X9_left G hp0 h1) (by decide) mX9_left ml_RL_78 hp0 (by decide +kernel) rfl rfl (Nat.le_of_ble_eq_true rfl) (by decide +kernel) [] ⟨0, 10, 13, 13⟩ [] rfl (List.forall_mem_nil _) (by decide) (by decide) ck_13 ca_2 (by decide +kernel) (Nat.le_of_ble_eq_true rfl) rfl ?_
      refine n_iconst (n := 1) (v := 1) (by decide +kernel) rfl ?_
      exact n_ireturn (by decide +kernel)
  try dsimp only at hr
  refine n_callVi G [_, _] (x := v1) (M1 := M1) (B_X9_left G hp0 h1) (by decide) mX9_left ml_RL_78 hp0 (by decide +kernel) rfl rfl (Nat.le_of_ble_eq_true rfl) (by decide +kernel) ?_
  refine n_i2l (by decide +kernel) ?_
  obtain ⟨M2, h2, hr⟩ := bso hr
  refine n_last G h2 hp3 (by decide +kernel) (by decide +kernel) (by decide +kernel) ?_
  refine n_goto (off := 7) (tgt := 17) (by decide +kernel) (by decide) ?_
  refine n_iconst (n := 0) (v := 0) (by decide +kernel) rfl ?_
  cases hr
  exact n_ireturn (by decide +kernel)
set_option maxRecDepth 100000 in
theorem B_L_frost (G : GG l s0 b L xs D cy ad)  {x1 : Int32} {x2 : Int32} {x3 : Int32} {x4 : Int32} {M : Mm} {r : (Int32 × Mm)} (hp0 : P 0) (hp5 : P 275) (hr : f_L_frost x1 x2 x3 x4 M = some r) : Cl l s0 D cy ad P 16 KL_frost [.ref 0, .int x1, .int x2, .int x3, .int x4, .ref 275] M (.inl (some (.int r.1))) (r.2) := by
  refine cl_ofW (by decide +kernel) rfl rfl okI (lo0 := [_, _, _, _, _, _, .null]) rfl ?_
  unfold f_L_frost at hr
  refine n_aload (n := 5) (by decide +kernel) rfl ?_
  refine n_iconst (n := 0) (v := 0) (by decide +kernel) rfl ?_
  refine n_aload_n (n := 0) (by decide +kernel) rfl ?_
  refine n_iload_n (n := 1) (by decide +kernel) rfl ?_
  refine n_iload_n (n := 2) (by decide +kernel) rfl ?_
  refine n_iload_n (n := 3) (by decide +kernel) rfl ?_
  refine n_iload (n := 4) (by decide +kernel) rfl ?_
  obtain ⟨⟨e1 | v1, M1⟩, h1, hr⟩ := bso hr
  · (try dsimp only at hr)
    rcases e1 with _ | _ | e1
    · change (none : Option (Int32 × Mm)) = some r at hr; cases hr
    · change (none : Option (Int32 × Mm)) = some r at hr; cases hr
    · change some ((1 : Int32), M1) = some r at hr; cases hr
      refine n_callVc2 (n := 6) (lo2 := [_, _, _, _, _, _, _]) G [_, _, _, _] (E := "java/lang/IllegalArgumentException") (nm := "java/lang/IllegalArgumentException") (M1 := M1) (B_X9_frost G hp0 h1) (by decide) mX9_frost ml_RL_81 hp0 (by decide +kernel) rfl rfl (Nat.le_of_ble_eq_true rfl) (by decide +kernel) [] ⟨0, 14, 17, 13⟩ [] rfl (List.forall_mem_nil _) (by decide) (by decide) ck_13 ca_2 (by decide +kernel) (Nat.le_of_ble_eq_true rfl) rfl ?_
      refine n_iconst (n := 1) (v := 1) (by decide +kernel) rfl ?_
      exact n_ireturn (by decide +kernel)
  try dsimp only at hr
  refine n_callVi G [_, _, _, _] (x := v1) (M1 := M1) (B_X9_frost G hp0 h1) (by decide) mX9_frost ml_RL_81 hp0 (by decide +kernel) rfl rfl (Nat.le_of_ble_eq_true rfl) (by decide +kernel) ?_
  refine n_i2l (by decide +kernel) ?_
  obtain ⟨M2, h2, hr⟩ := bso hr
  refine n_last G h2 hp5 (by decide +kernel) (by decide +kernel) (by decide +kernel) ?_
  refine n_goto (off := 7) (tgt := 21) (by decide +kernel) (by decide) ?_
  refine n_iconst (n := 0) (v := 0) (by decide +kernel) rfl ?_
  cases hr
  exact n_ireturn (by decide +kernel)
set_option maxRecDepth 100000 in
theorem B_L_span (G : GG l s0 b L xs D cy ad)  {x1 : Int32} {x2 : Int32} {x3 : Int32} {x4 : Int32} {x5 : Int32} {x6 : Int32} {M : Mm} {r : (Int32 × Mm)} (hp0 : P 0) (hp7 : P 275) (hr : f_L_span x1 x2 x3 x4 x5 x6 M = some r) : Cl l s0 D cy ad P 16 KL_span [.ref 0, .int x1, .int x2, .int x3, .int x4, .int x5, .int x6, .ref 275] M (.inl (some (.int r.1))) (r.2) := by
  refine cl_ofW (by decide +kernel) rfl rfl okI (lo0 := [_, _, _, _, _, _, _, _, .null]) rfl ?_
  unfold f_L_span at hr
  refine n_aload (n := 7) (by decide +kernel) rfl ?_
  refine n_iconst (n := 0) (v := 0) (by decide +kernel) rfl ?_
  refine n_aload_n (n := 0) (by decide +kernel) rfl ?_
  refine n_iload_n (n := 1) (by decide +kernel) rfl ?_
  refine n_iload_n (n := 2) (by decide +kernel) rfl ?_
  refine n_iload_n (n := 3) (by decide +kernel) rfl ?_
  refine n_iload (n := 4) (by decide +kernel) rfl ?_
  refine n_iload (n := 5) (by decide +kernel) rfl ?_
  refine n_iload (n := 6) (by decide +kernel) rfl ?_
  obtain ⟨⟨e1 | v1, M1⟩, h1, hr⟩ := bso hr
  · (try dsimp only at hr)
    rcases e1 with _ | _ | e1
    · change (none : Option (Int32 × Mm)) = some r at hr; cases hr
    · change (none : Option (Int32 × Mm)) = some r at hr; cases hr
    · change some ((1 : Int32), M1) = some r at hr; cases hr
      refine n_callVc2 (n := 8) (lo2 := [_, _, _, _, _, _, _, _, _]) G [_, _, _, _, _, _] (E := "java/lang/IllegalArgumentException") (nm := "java/lang/IllegalArgumentException") (M1 := M1) (B_X9_span G hp0 h1) (by decide) mX9_span ml_RL_84 hp0 (by decide +kernel) rfl rfl (Nat.le_of_ble_eq_true rfl) (by decide +kernel) [] ⟨0, 18, 21, 13⟩ [] rfl (List.forall_mem_nil _) (by decide) (by decide) ck_13 ca_2 (by decide +kernel) (Nat.le_of_ble_eq_true rfl) rfl ?_
      refine n_iconst (n := 1) (v := 1) (by decide +kernel) rfl ?_
      exact n_ireturn (by decide +kernel)
  try dsimp only at hr
  refine n_callVi G [_, _, _, _, _, _] (x := v1) (M1 := M1) (B_X9_span G hp0 h1) (by decide) mX9_span ml_RL_84 hp0 (by decide +kernel) rfl rfl (Nat.le_of_ble_eq_true rfl) (by decide +kernel) ?_
  refine n_i2l (by decide +kernel) ?_
  obtain ⟨M2, h2, hr⟩ := bso hr
  refine n_last G h2 hp7 (by decide +kernel) (by decide +kernel) (by decide +kernel) ?_
  refine n_goto (off := 7) (tgt := 25) (by decide +kernel) (by decide) ?_
  refine n_iconst (n := 0) (v := 0) (by decide +kernel) rfl ?_
  cases hr
  exact n_ireturn (by decide +kernel)
set_option maxRecDepth 100000 in
theorem B_L_chosen (G : GG l s0 b L xs D cy ad)  {x1 : Int32} {M : Mm} {r : (Int32 × Mm)} (hp0 : P 0) (hp2 : P 275) (hr : f_L_chosen x1 M = some r) : Cl l s0 D cy ad P 13 KL_chosen [.ref 0, .int x1, .ref 275] M (.inl (some (.int r.1))) (r.2) := by
  refine cl_ofW (by decide +kernel) rfl rfl okI (lo0 := [_, _, _, .null]) rfl ?_
  unfold f_L_chosen at hr
  refine n_aload_n (n := 2) (by decide +kernel) rfl ?_
  refine n_iconst (n := 0) (v := 0) (by decide +kernel) rfl ?_
  refine n_aload_n (n := 0) (by decide +kernel) rfl ?_
  refine n_iload_n (n := 1) (by decide +kernel) rfl ?_
  obtain ⟨⟨e1 | v1, M1⟩, h1, hr⟩ := bso hr
  · (try dsimp only at hr)
    rcases e1 with _ | _ | e1
    · change (none : Option (Int32 × Mm)) = some r at hr; cases hr
    · change (none : Option (Int32 × Mm)) = some r at hr; cases hr
    · change some ((1 : Int32), M1) = some r at hr; cases hr
      refine n_callVc1 (n := 3) (lo2 := [_, _, _, _]) G [_] (E := "java/lang/IllegalArgumentException") (nm := "java/lang/IllegalArgumentException") (M1 := M1) (B_X9_chosen G hp0 h1) (by decide) mX9_chosen ml_RL_88 hp0 (by decide +kernel) rfl rfl (Nat.le_of_ble_eq_true rfl) (by decide +kernel) [] ⟨0, 9, 12, 13⟩ [] rfl (List.forall_mem_nil _) (by decide) (by decide) ck_13 ca_2 (by decide +kernel) (Nat.le_of_ble_eq_true rfl) rfl ?_
      refine n_iconst (n := 1) (v := 1) (by decide +kernel) rfl ?_
      exact n_ireturn (by decide +kernel)
  try dsimp only at hr
  refine n_callVi G [_] (x := v1) (M1 := M1) (B_X9_chosen G hp0 h1) (by decide) mX9_chosen ml_RL_88 hp0 (by decide +kernel) rfl rfl (Nat.le_of_ble_eq_true rfl) (by decide +kernel) ?_
  refine n_i2l (by decide +kernel) ?_
  obtain ⟨M2, h2, hr⟩ := bso hr
  refine n_last G h2 hp2 (by decide +kernel) (by decide +kernel) (by decide +kernel) ?_
  refine n_goto (off := 6) (tgt := 15) (by decide +kernel) (by decide) ?_
  refine n_iconst (n := 0) (v := 0) (by decide +kernel) rfl ?_
  cases hr
  exact n_ireturn (by decide +kernel)
set_option maxRecDepth 100000 in
theorem B_L_lifts (G : GG l s0 b L xs D cy ad)  {x1 : Int32} {x2 : Int32} {M : Mm} {r : (Int32 × Mm)} (hp0 : P 0) (hp3 : P 275) (hr : f_L_lifts x1 x2 M = some r) : Cl l s0 D cy ad P 14 KL_lifts [.ref 0, .int x1, .int x2, .ref 275] M (.inl (some (.int r.1))) (r.2) := by
  refine cl_ofW (by decide +kernel) rfl rfl okI (lo0 := [_, _, _, _, .null]) rfl ?_
  unfold f_L_lifts at hr
  refine n_aload_n (n := 3) (by decide +kernel) rfl ?_
  refine n_iconst (n := 0) (v := 0) (by decide +kernel) rfl ?_
  refine n_aload_n (n := 0) (by decide +kernel) rfl ?_
  refine n_iload_n (n := 1) (by decide +kernel) rfl ?_
  refine n_iload_n (n := 2) (by decide +kernel) rfl ?_
  obtain ⟨⟨e1 | v1, M1⟩, h1, hr⟩ := bso hr
  · (try dsimp only at hr)
    rcases e1 with _ | _ | e1
    · change some ((1 : Int32), M1) = some r at hr; cases hr
      refine n_callVc2 (n := 4) (lo2 := [_, _, _, _, _]) G [_, _] (E := "java/lang/IndexOutOfBoundsException") (nm := "java/lang/IndexOutOfBoundsException") (M1 := M1) (B_X9_lifts G hp0 h1) (by decide) mX9_lifts ml_RL_91 hp0 (by decide +kernel) rfl rfl (Nat.le_of_ble_eq_true rfl) (by decide +kernel) [] ⟨0, 10, 13, 37⟩ [] rfl (List.forall_mem_nil _) (by decide) (by decide) ck_37 ca_0 (by decide +kernel) (Nat.le_of_ble_eq_true rfl) rfl ?_
      refine n_iconst (n := 1) (v := 1) (by decide +kernel) rfl ?_
      exact n_ireturn (by decide +kernel)
    · change (none : Option (Int32 × Mm)) = some r at hr; cases hr
    · change (none : Option (Int32 × Mm)) = some r at hr; cases hr
  try dsimp only at hr
  refine n_callVi G [_, _] (x := v1) (M1 := M1) (B_X9_lifts G hp0 h1) (by decide) mX9_lifts ml_RL_91 hp0 (by decide +kernel) rfl rfl (Nat.le_of_ble_eq_true rfl) (by decide +kernel) ?_
  refine n_i2l (by decide +kernel) ?_
  obtain ⟨M2, h2, hr⟩ := bso hr
  refine n_last G h2 hp3 (by decide +kernel) (by decide +kernel) (by decide +kernel) ?_
  refine n_goto (off := 7) (tgt := 17) (by decide +kernel) (by decide) ?_
  refine n_iconst (n := 0) (v := 0) (by decide +kernel) rfl ?_
  cases hr
  exact n_ireturn (by decide +kernel)
set_option maxRecDepth 100000 in
theorem B_L_loads (G : GG l s0 b L xs D cy ad)  {x1 : Int32} {x2 : Int32} {M : Mm} {r : (Int32 × Mm)} (hp0 : P 0) (hp3 : P 275) (hr : f_L_loads x1 x2 M = some r) : Cl l s0 D cy ad P 14 KL_loads [.ref 0, .int x1, .int x2, .ref 275] M (.inl (some (.int r.1))) (r.2) := by
  refine cl_ofW (by decide +kernel) rfl rfl okI (lo0 := [_, _, _, _, .null]) rfl ?_
  unfold f_L_loads at hr
  refine n_aload_n (n := 3) (by decide +kernel) rfl ?_
  refine n_iconst (n := 0) (v := 0) (by decide +kernel) rfl ?_
  refine n_aload_n (n := 0) (by decide +kernel) rfl ?_
  refine n_iload_n (n := 1) (by decide +kernel) rfl ?_
  refine n_iload_n (n := 2) (by decide +kernel) rfl ?_
  obtain ⟨⟨e1 | v1, M1⟩, h1, hr⟩ := bso hr
  · (try dsimp only at hr)
    rcases e1 with _ | _ | e1
    · change some ((1 : Int32), M1) = some r at hr; cases hr
      refine n_callVc2 (n := 4) (lo2 := [_, _, _, _, _]) G [_, _] (E := "java/lang/IndexOutOfBoundsException") (nm := "java/lang/IndexOutOfBoundsException") (M1 := M1) (B_X9_loads G hp0 h1) (by decide) mX9_loads ml_RL_94 hp0 (by decide +kernel) rfl rfl (Nat.le_of_ble_eq_true rfl) (by decide +kernel) [] ⟨0, 9, 12, 37⟩ [] rfl (List.forall_mem_nil _) (by decide) (by decide) ck_37 ca_0 (by decide +kernel) (Nat.le_of_ble_eq_true rfl) rfl ?_
      refine n_iconst (n := 1) (v := 1) (by decide +kernel) rfl ?_
      exact n_ireturn (by decide +kernel)
    · change (none : Option (Int32 × Mm)) = some r at hr; cases hr
    · change (none : Option (Int32 × Mm)) = some r at hr; cases hr
  try dsimp only at hr
  refine n_callVl G [_, _] (x := v1) (M1 := M1) (B_X9_loads G hp0 h1) (by decide) mX9_loads ml_RL_94 hp0 (by decide +kernel) rfl rfl (Nat.le_of_ble_eq_true rfl) (by decide +kernel) ?_
  obtain ⟨M2, h2, hr⟩ := bso hr
  refine n_last G h2 hp3 (by decide +kernel) (by decide +kernel) (by decide +kernel) ?_
  refine n_goto (off := 7) (tgt := 16) (by decide +kernel) (by decide) ?_
  refine n_iconst (n := 0) (v := 0) (by decide +kernel) rfl ?_
  cases hr
  exact n_ireturn (by decide +kernel)
end NB
