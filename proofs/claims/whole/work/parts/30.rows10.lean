/-! printed rows: a method is its function -/
section NB
variable {l : Launch} {s0 : State} {b L : Nat} {xs : Nat → Int32} {D : va_G} {cy : Nat → ClassId} {ad : Nat → Nat} {P : Nat → Prop}
set_option maxRecDepth 100000 in
theorem B_X10_heapsBy_b40 (G : GG l s0 b L xs D cy ad) {x1 : Int32} {x2 : Int32} {M : Mm} {res : Rs} {M' : Mm} (hp0 : P 76) : ∀ (s : (Int32 × Int32)) (r : (Int32 × Int32) ⊕ Int32), f_X10_heapsBy_b40 x1 x2 M s = some r → mtc (P_X10_heapsBy_b40 l s0 D cy ad P x1 x2 M res M') (Q_X10_heapsBy_b40 l s0 D cy ad P x1 x2 M res M') r → P_X10_heapsBy_b40 l s0 D cy ad P x1 x2 M res M' s := by
  intro s r hr hk
  obtain ⟨x4, x5⟩ := s
  unfold f_X10_heapsBy_b40 at hr
  try dsimp only at hr
  dsimp only [P_X10_heapsBy_b40]
  refine n_iload (n := 5) (by decide +kernel) rfl ?_
  refine n_aload_n (n := 0) (by decide +kernel) rfl ?_
  refine n_getF (q := 196) G fl_RX10_61 hp0 (by decide +kernel) (by decide +kernel) (by decide +kernel) (fun hp7q => ?_)
  refine n_sipush (n := 360) (v := 360) (by decide +kernel) (by decide +kernel) ?_
  obtain ⟨v8, h8, hr⟩ := bso hr
  refine n_iald G h8 hp7q (by decide +kernel) (by decide +kernel) (by decide +kernel) ?_
  refine n_icmp_ge (off := 133) (tgt := 183) (by decide +kernel) (by decide) (fun hc9 => ?_) (fun hc9 => ?_)
  · rw [if_pos hc9] at hr
    cases hr
    refine n_msk [false, false, false, false, true, false, false, false, false] (lo2 := [.null, .null, .null, .null, _, .null, .null, .null, .null]) rfl rfl ?_
    exact hk
  · rw [if_neg hc9] at hr
    refine n_aload_n (n := 0) (by decide +kernel) rfl ?_
    refine n_getF (q := 196) G fl_RX10_61 hp0 (by decide +kernel) (by decide +kernel) (by decide +kernel) (fun hp10q => ?_)
    refine n_iload (n := 5) (by decide +kernel) rfl ?_
    obtain ⟨v11, h11, hr⟩ := bso hr
    refine n_callSi G [_, _] (x := v11) (B_X10_isThere G hp10q (by decide +kernel) h11) (by decide) mX10_isThere ml_RX10_337 rfl rfl (Nat.le_of_ble_eq_true rfl) (by decide +kernel) ?_
    refine n_if_ne (off := 6) (tgt := 68) (by decide +kernel) (by decide) (fun hc12 => ?_) (fun hc12 => ?_)
    · rw [if_neg hc12] at hr
      refine n_aload_n (n := 0) (by decide +kernel) rfl ?_
      refine n_getF (q := 196) G fl_RX10_61 hp0 (by decide +kernel) (by decide +kernel) (by decide +kernel) (fun hp13q => ?_)
      refine n_iload (n := 5) (by decide +kernel) rfl ?_
      refine n_iconst (n := 0) (v := 0) (by decide +kernel) rfl ?_
      obtain ⟨v14, h14, hr⟩ := bso hr
      refine n_callSi G [_, _, _] (x := v14) (B_X10_of G hp13q (by decide +kernel) h14) (by decide) mX10_of ml_RX10_222 rfl rfl (Nat.le_of_ble_eq_true rfl) (by decide +kernel) ?_
      refine n_istore (n := 6) (lo2 := [_, _, _, _, _, _, _, _, _]) (by decide +kernel) (Nat.le_of_ble_eq_true rfl) rfl ?_
      refine n_aload_n (n := 0) (by decide +kernel) rfl ?_
      refine n_getF (q := 196) G fl_RX10_61 hp0 (by decide +kernel) (by decide +kernel) (by decide +kernel) (fun hp15q => ?_)
      refine n_iload (n := 5) (by decide +kernel) rfl ?_
      refine n_iconst (n := 1) (v := 1) (by decide +kernel) rfl ?_
      obtain ⟨v16, h16, hr⟩ := bso hr
      refine n_callSi G [_, _, _] (x := v16) (B_X10_of G hp15q (by decide +kernel) h16) (by decide) mX10_of ml_RX10_222 rfl rfl (Nat.le_of_ble_eq_true rfl) (by decide +kernel) ?_
      refine n_istore (n := 7) (lo2 := [_, _, _, _, _, _, _, _, _]) (by decide +kernel) (Nat.le_of_ble_eq_true rfl) rfl ?_
      refine n_iload (n := 6) (by decide +kernel) rfl ?_
      refine n_iconst (n := 1) (v := 1) (by decide +kernel) rfl ?_
      refine n_iadd (by decide +kernel) ?_
      refine n_istore (n := 8) (lo2 := [_, _, _, _, _, _, _, _, _]) (by decide +kernel) (Nat.le_of_ble_eq_true rfl) rfl ?_
      refine n_iload_n (n := 1) (by decide +kernel) rfl ?_
      refine n_iconst (n := -1) (v := -1) (by decide +kernel) rfl ?_
      refine n_icmp_ne (off := 8) (tgt := 108) (by decide +kernel) (by decide) (fun hc17 => ?_) (fun hc17 => ?_)
      · rw [if_neg hc17] at hr
        refine n_iload (n := 8) (by decide +kernel) rfl ?_
        refine n_iload (n := 6) (by decide +kernel) rfl ?_
        refine n_iload (n := 7) (by decide +kernel) rfl ?_
        refine n_iload_n (n := 1) (by decide +kernel) rfl ?_
        refine n_bipush (n := 8) (v := 8) (by decide +kernel) rfl ?_
        refine n_irem (by decide) (by decide +kernel) ?_
        refine n_iload_n (n := 1) (by decide +kernel) rfl ?_
        refine n_bipush (n := 8) (v := 8) (by decide +kernel) rfl ?_
        refine n_idiv (by decide) (by decide +kernel) ?_
        obtain ⟨v18, h18, hr⟩ := bso hr
        refine n_callSi G [_, _, _, _] (x := v18) (B_X10_farOf G  h18) (by decide) mX10_farOf ml_RX10_266 rfl rfl (Nat.le_of_ble_eq_true rfl) (by decide +kernel) ?_
        obtain ⟨v19, h19, hr⟩ := bso hr
        refine n_callSi G [_, _] (x := v19) (B_X10_less G  h19) (by decide) mX10_less ml_RX10_248 rfl rfl (Nat.le_of_ble_eq_true rfl) (by decide +kernel) ?_
        refine n_msk [true, true, true, false, true, true, true, true, false] (lo2 := [_, _, _, .null, _, _, _, _, .null]) rfl rfl ?_
        exact B_X10_heapsBy_j128 G hp0 hr hk
      · rw [if_pos hc17] at hr
        refine n_iload (n := 8) (by decide +kernel) rfl ?_
        refine n_goto (off := 23) (tgt := 128) (by decide +kernel) (by decide) ?_
        refine n_msk [true, true, true, false, true, true, true, true, false] (lo2 := [_, _, _, .null, _, _, _, _, .null]) rfl rfl ?_
        exact B_X10_heapsBy_j128 G hp0 hr hk
    · rw [if_pos hc12] at hr
      refine n_goto (off := 112) (tgt := 177) (by decide +kernel) (by decide) ?_
      refine n_iincK (n := 5) (j := 1) (w := 1) (lo2 := [_, _, _, _, _, _, _, _, _]) (by decide +kernel) rfl rfl rfl ?_
      refine n_goto (off := -140) (tgt := 40) (by decide +kernel) (by decide) ?_
      cases hr
      exact hk
set_option maxRecDepth 100000 in
theorem W_X10_heapsBy_b40 (G : GG l s0 b L xs D cy ad) {x1 : Int32} {x2 : Int32} {M : Mm} (hp0 : P 76) {s : (Int32 × Int32)} {e : Int32} (h : whl fu (f_X10_heapsBy_b40 x1 x2 M) s = some e) (res : Rs) (M' : Mm) : Q_X10_heapsBy_b40 l s0 D cy ad P x1 x2 M res M' e → P_X10_heapsBy_b40 l s0 D cy ad P x1 x2 M res M' s := whl_run (P := fun s => P_X10_heapsBy_b40 l s0 D cy ad P x1 x2 M res M' s) (Q := fun e => Q_X10_heapsBy_b40 l s0 D cy ad P x1 x2 M res M' e) (B_X10_heapsBy_b40 G (res := res) (M' := M') (x1 := x1) (x2 := x2) (M := M) hp0) fu s h
set_option maxRecDepth 100000 in
theorem B_X10_heapsBy_j34 (G : GG l s0 b L xs D cy ad) {x1 : Int32} {x2 : Int32} {xs0 : Int32} {xs1 : Int32} {M : Mm} {r : Int32} (hp0 : P 76) (hr : f_X10_heapsBy_j34 x1 x2 xs0 xs1 M = some r) : Rn l s0 D cy ad P 12 KX10_heapsBy 34 [.ref 76, .int x1, .int x2, .null, .null, .null, .null, .null, .null] [.int xs1, .int xs0] M (.inl (some (.int r))) (M) := by
  unfold f_X10_heapsBy_j34 at hr
  refine n_iadd (by decide +kernel) ?_
  refine n_istore (n := 4) (lo2 := [_, _, _, _, _, _, _, _, _]) (by decide +kernel) (Nat.le_of_ble_eq_true rfl) rfl ?_
  refine n_iconst (n := 0) (v := 0) (by decide +kernel) rfl ?_
  refine n_istore (n := 5) (lo2 := [_, _, _, _, _, _, _, _, _]) (by decide +kernel) (Nat.le_of_ble_eq_true rfl) rfl ?_
  obtain ⟨z4_25, h25, hr⟩ := bso hr
  refine (W_X10_heapsBy_b40 G hp0 h25 _ _) ?_
  dsimp only [Q_X10_heapsBy_b40]
  refine n_iload (n := 4) (by decide +kernel) rfl ?_
  cases hr
  exact n_ireturn (by decide +kernel)
set_option maxRecDepth 100000 in
theorem B_X10_heapsBy_j17 (G : GG l s0 b L xs D cy ad) {x1 : Int32} {x2 : Int32} {x3 : Int32} {xs0 : Int32} {M : Mm} {r : Int32} (hp0 : P 76) (hr : f_X10_heapsBy_j17 x1 x2 x3 xs0 M = some r) : Rn l s0 D cy ad P 12 KX10_heapsBy 17 [.ref 76, .int x1, .int x2, .int x3, .null, .null, .null, .null, .null] [.int xs0] M (.inl (some (.int r))) (M) := by
  unfold f_X10_heapsBy_j17 at hr
  refine n_iload_n (n := 2) (by decide +kernel) rfl ?_
  refine n_iconst (n := -1) (v := -1) (by decide +kernel) rfl ?_
  refine n_icmp_ne (off := 7) (tgt := 26) (by decide +kernel) (by decide) (fun hc4 => ?_) (fun hc4 => ?_)
  · rw [if_neg hc4] at hr
    refine n_aload_n (n := 0) (by decide +kernel) rfl ?_
    refine n_getF (q := 82) G fl_RX10_29 hp0 (by decide +kernel) (by decide +kernel) (by decide +kernel) (fun hp5q => ?_)
    refine n_iload_n (n := 2) (by decide +kernel) rfl ?_
    obtain ⟨v6, h6, hr⟩ := bso hr
    refine n_iald G h6 hp5q (by decide +kernel) (by decide +kernel) (by decide +kernel) ?_
    refine n_iload_n (n := 3) (by decide +kernel) rfl ?_
    refine n_imul (by decide +kernel) ?_
    refine n_msk [true, true, true, false, false, false, false, false, false] (lo2 := [_, _, _, .null, .null, .null, .null, .null, .null]) rfl rfl ?_
    exact B_X10_heapsBy_j34 G hp0 hr
  · rw [if_pos hc4] at hr
    refine n_iconst (n := 0) (v := 0) (by decide +kernel) rfl ?_
    refine n_goto (off := 11) (tgt := 34) (by decide +kernel) (by decide) ?_
    refine n_msk [true, true, true, false, false, false, false, false, false] (lo2 := [_, _, _, .null, .null, .null, .null, .null, .null]) rfl rfl ?_
    exact B_X10_heapsBy_j34 G hp0 hr
set_option maxRecDepth 100000 in
theorem B_X10_heapsBy (G : GG l s0 b L xs D cy ad)  {x1 : Int32} {x2 : Int32} {x3 : Int32} {M : Mm} {r : Int32} (hp0 : P 76) (hr : f_X10_heapsBy x1 x2 x3 M = some r) : Cl l s0 D cy ad P 12 KX10_heapsBy [.ref 76, .int x1, .int x2, .int x3] M (.inl (some (.int r))) (M) := by
  refine cl_ofN (by decide +kernel) rfl rfl okI (lo0 := [_, _, _, _, .null, .null, .null, .null, .null]) rfl ?_
  unfold f_X10_heapsBy at hr
  refine n_iload_n (n := 1) (by decide +kernel) rfl ?_
  refine n_iconst (n := -1) (v := -1) (by decide +kernel) rfl ?_
  refine n_icmp_ne (off := 7) (tgt := 9) (by decide +kernel) (by decide) (fun hc1 => ?_) (fun hc1 => ?_)
  · rw [if_neg hc1] at hr
    refine n_aload_n (n := 0) (by decide +kernel) rfl ?_
    refine n_getF (q := 82) G fl_RX10_29 hp0 (by decide +kernel) (by decide +kernel) (by decide +kernel) (fun hp2q => ?_)
    refine n_iload_n (n := 1) (by decide +kernel) rfl ?_
    obtain ⟨v3, h3, hr⟩ := bso hr
    refine n_iald G h3 hp2q (by decide +kernel) (by decide +kernel) (by decide +kernel) ?_
    refine n_iload_n (n := 3) (by decide +kernel) rfl ?_
    refine n_imul (by decide +kernel) ?_
    exact B_X10_heapsBy_j17 G hp0 hr
  · rw [if_pos hc1] at hr
    refine n_iconst (n := 0) (v := 0) (by decide +kernel) rfl ?_
    refine n_goto (off := 11) (tgt := 17) (by decide +kernel) (by decide) ?_
    exact B_X10_heapsBy_j17 G hp0 hr
abbrev P_X10_heaps_b54 (l : Launch) (s0 : State) (D : va_G) (cy : Nat → ClassId) (ad : Nat → Nat) (P : Nat → Prop) (x1 : Int32) (x2 : Int32) (M : Mm) (res : Rs) (M' : Mm) (s : (Int32 × Int32 × Int32)) : Prop := Rn l s0 D cy ad P 13 KX10_heaps 54 [.ref 76, .int x1, .int x2, .int (s.1), .int (s.2.1), .int (s.2.2), .null, .null, .null] [] M res M'
abbrev Q_X10_heaps_b54 (l : Launch) (s0 : State) (D : va_G) (cy : Nat → ClassId) (ad : Nat → Nat) (P : Nat → Prop) (x1 : Int32) (x2 : Int32) (M : Mm) (res : Rs) (M' : Mm) (e : (Int32 × Int32)) : Prop := Rn l s0 D cy ad P 13 KX10_heaps 207 [.null, .null, .int x2, .int (e.1), .int (e.2), .null, .null, .null, .null] [] M res M'
abbrev P_X10_heaps_b63 (l : Launch) (s0 : State) (D : va_G) (cy : Nat → ClassId) (ad : Nat → Nat) (P : Nat → Prop) (x1 : Int32) (x2 : Int32) (x5 : Int32) (M : Mm) (res : Rs) (M' : Mm) (s : (Int32 × Int32 × Int32)) : Prop := Rn l s0 D cy ad P 13 KX10_heaps 63 [.ref 76, .int x1, .int x2, .int (s.1), .int (s.2.1), .int x5, .int (s.2.2), .null, .null] [] M res M'
abbrev Q_X10_heaps_b63 (l : Launch) (s0 : State) (D : va_G) (cy : Nat → ClassId) (ad : Nat → Nat) (P : Nat → Prop) (x1 : Int32) (x2 : Int32) (x5 : Int32) (M : Mm) (res : Rs) (M' : Mm) (e : (Int32 × Int32)) : Prop := Rn l s0 D cy ad P 13 KX10_heaps 201 [.ref 76, .int x1, .int x2, .int (e.1), .int (e.2), .int x5, .null, .null, .null] [] M res M'
abbrev P_X10_heaps_b87 (l : Launch) (s0 : State) (D : va_G) (cy : Nat → ClassId) (ad : Nat → Nat) (P : Nat → Prop) (x1 : Int32) (x2 : Int32) (x5 : Int32) (x6 : Int32) (M : Mm) (res : Rs) (M' : Mm) (s : (Int32 × Int32 × Int32)) : Prop := Rn l s0 D cy ad P 13 KX10_heaps 87 [.ref 76, .int x1, .int x2, .int (s.1), .int (s.2.1), .int x5, .int x6, .int (s.2.2), .null] [] M res M'
abbrev Q_X10_heaps_b87 (l : Launch) (s0 : State) (D : va_G) (cy : Nat → ClassId) (ad : Nat → Nat) (P : Nat → Prop) (x1 : Int32) (x2 : Int32) (x5 : Int32) (x6 : Int32) (M : Mm) (res : Rs) (M' : Mm) (e : (Int32 × Int32)) : Prop := Rn l s0 D cy ad P 13 KX10_heaps 195 [.ref 76, .int x1, .int x2, .int (e.1), .int (e.2), .int x5, .int x6, .null, .null] [] M res M'
set_option maxRecDepth 100000 in
theorem B_X10_heaps_j129 (G : GG l s0 b L xs D cy ad) {x1 : Int32} {x2 : Int32} {x3 : Int32} {x4 : Int32} {x5 : Int32} {x6 : Int32} {x7 : Int32} {M : Mm}  {res : Rs} {M' : Mm} {r : ((Int32 × Int32 × Int32) ⊕ (Int32 × Int32))} (hp0 : P 76) (hr : f_X10_heaps_j129 x1 x2 x3 x4 x5 x6 x7 M = some r) (hk : mtc (P_X10_heaps_b87 l s0 D cy ad P x1 x2 x5 x6 M res M') (Q_X10_heaps_b87 l s0 D cy ad P x1 x2 x5 x6 M res M') r) : Rn l s0 D cy ad P 13 KX10_heaps 129 [.ref 76, .int x1, .int x2, .int x3, .int x4, .int x5, .int x6, .int x7, .null] [] M res M' := by
  unfold f_X10_heaps_j129 at hr
  refine n_aload_n (n := 0) (by decide +kernel) rfl ?_
  refine n_iload (n := 6) (by decide +kernel) rfl ?_
  refine n_iload (n := 5) (by decide +kernel) rfl ?_
  refine n_iconst (n := 1) (v := 1) (by decide +kernel) rfl ?_
  refine n_dia2 (J := 144) (c := x5 = (1 : Int32)) (a := (-1 : Int32)) (b := x7) (fun hJ => ?_) ?_
  · refine n_icmp_ne (off := 7) (tgt := 142) (by decide +kernel) (by decide) (fun hc14 => ?_) (fun hc14 => ?_)
    · refine n_iload (n := 7) (by decide +kernel) rfl ?_
      exact hJ _ (if_neg hc14).symm
    · refine n_iconst (n := -1) (v := -1) (by decide +kernel) rfl ?_
      refine n_goto (off := 5) (tgt := 144) (by decide +kernel) (by decide) ?_
      exact hJ _ (if_pos hc14).symm
  refine n_iload_n (n := 1) (by decide +kernel) rfl ?_
  obtain ⟨v15, h15, hr⟩ := bso hr
  refine n_callVi G [_, _, _] (x := v15) (B_X10_heapsBy G hp0 h15) (by decide) mX10_heapsBy ml_RX10_356 hp0 (by decide +kernel) rfl rfl (Nat.le_of_ble_eq_true rfl) (by decide +kernel) ?_
  refine n_istore (n := 8) (lo2 := [_, _, _, _, _, _, _, _, _]) (by decide +kernel) (Nat.le_of_ble_eq_true rfl) rfl ?_
  refine n_iload (n := 8) (by decide +kernel) rfl ?_
  refine n_iload_n (n := 3) (by decide +kernel) rfl ?_
  refine n_icmp_lt (off := 6) (tgt := 159) (by decide +kernel) (by decide) (fun hc16 => ?_) (fun hc16 => ?_)
  · rw [if_pos hc16] at hr
    refine n_iload (n := 8) (by decide +kernel) rfl ?_
    refine n_istore_n (n := 3) (lo2 := [_, _, _, _, _, _, _, _, _]) (by decide +kernel) (Nat.le_of_ble_eq_true rfl) rfl ?_
    refine n_iload (n := 5) (by decide +kernel) rfl ?_
    refine n_iconst (n := 1) (v := 1) (by decide +kernel) rfl ?_
    refine n_dia2 (J := 187) (c := x5 = (1 : Int32)) (a := (x6 + (1 : Int32))) (b := ((((64 : Int32) * (x6 + (1 : Int32))) + x7) + (1 : Int32))) (fun hJ => ?_) ?_
    · refine n_icmp_ne (off := 10) (tgt := 175) (by decide +kernel) (by decide) (fun hc17 => ?_) (fun hc17 => ?_)
      · refine n_bipush (n := 64) (v := 64) (by decide +kernel) rfl ?_
        refine n_iload (n := 6) (by decide +kernel) rfl ?_
        refine n_iconst (n := 1) (v := 1) (by decide +kernel) rfl ?_
        refine n_iadd (by decide +kernel) ?_
        refine n_imul (by decide +kernel) ?_
        refine n_iload (n := 7) (by decide +kernel) rfl ?_
        refine n_iadd (by decide +kernel) ?_
        refine n_iconst (n := 1) (v := 1) (by decide +kernel) rfl ?_
        refine n_iadd (by decide +kernel) ?_
        exact hJ _ (if_neg hc17).symm
      · refine n_iload (n := 6) (by decide +kernel) rfl ?_
        refine n_iconst (n := 1) (v := 1) (by decide +kernel) rfl ?_
        refine n_iadd (by decide +kernel) ?_
        refine n_goto (off := 15) (tgt := 187) (by decide +kernel) (by decide) ?_
        exact hJ _ (if_pos hc17).symm
    refine n_istore (n := 4) (lo2 := [_, _, _, _, _, _, _, _, _]) (by decide +kernel) (Nat.le_of_ble_eq_true rfl) rfl ?_
    refine n_iincK (n := 7) (j := 1) (w := 1) (lo2 := [_, _, _, _, _, _, _, _, _]) (by decide +kernel) rfl rfl rfl ?_
    refine n_goto (off := -105) (tgt := 87) (by decide +kernel) (by decide) ?_
    cases hr
    refine n_msk [true, true, true, true, true, true, true, true, false] (lo2 := [_, _, _, _, _, _, _, _, .null]) rfl rfl ?_
    exact hk
  · rw [if_neg hc16] at hr
    refine n_goto (off := 33) (tgt := 189) (by decide +kernel) (by decide) ?_
    refine n_iincK (n := 7) (j := 1) (w := 1) (lo2 := [_, _, _, _, _, _, _, _, _]) (by decide +kernel) rfl rfl rfl ?_
    refine n_goto (off := -105) (tgt := 87) (by decide +kernel) (by decide) ?_
    cases hr
    refine n_msk [true, true, true, true, true, true, true, true, false] (lo2 := [_, _, _, _, _, _, _, _, .null]) rfl rfl ?_
    exact hk
set_option maxRecDepth 100000 in
theorem B_X10_heaps_b87 (G : GG l s0 b L xs D cy ad) {x1 : Int32} {x2 : Int32} {x5 : Int32} {x6 : Int32} {M : Mm} {res : Rs} {M' : Mm} (hp0 : P 76) : ∀ (s : (Int32 × Int32 × Int32)) (r : (Int32 × Int32 × Int32) ⊕ (Int32 × Int32)), f_X10_heaps_b87 x1 x2 x5 x6 M s = some r → mtc (P_X10_heaps_b87 l s0 D cy ad P x1 x2 x5 x6 M res M') (Q_X10_heaps_b87 l s0 D cy ad P x1 x2 x5 x6 M res M') r → P_X10_heaps_b87 l s0 D cy ad P x1 x2 x5 x6 M res M' s := by
  intro s r hr hk
  obtain ⟨x3, x4, x7⟩ := s
  unfold f_X10_heaps_b87 at hr
  try dsimp only at hr
  dsimp only [P_X10_heaps_b87]
  refine n_iload (n := 7) (by decide +kernel) rfl ?_
  refine n_bipush (n := 48) (v := 48) (by decide +kernel) rfl ?_
  refine n_icmp_ge (off := 104) (tgt := 195) (by decide +kernel) (by decide) (fun hc9 => ?_) (fun hc9 => ?_)
  · rw [if_pos hc9] at hr
    cases hr
    refine n_msk [true, true, true, true, true, true, true, false, false] (lo2 := [_, _, _, _, _, _, _, .null, .null]) rfl rfl ?_
    exact hk
  · rw [if_neg hc9] at hr
    refine n_aload_n (n := 0) (by decide +kernel) rfl ?_
    refine n_aload_n (n := 0) (by decide +kernel) rfl ?_
    refine n_getF (q := 196) G fl_RX10_61 hp0 (by decide +kernel) (by decide +kernel) (by decide +kernel) (fun hp10q => ?_)
    refine n_iload (n := 6) (by decide +kernel) rfl ?_
    obtain ⟨v11, h11, hr⟩ := bso hr
    refine n_callVi G [_, _] (x := v11) (B_X10_isKept G hp0 hp10q (by decide +kernel) h11) (by decide) mX10_isKept ml_RX10_299 hp0 (by decide +kernel) rfl rfl (Nat.le_of_ble_eq_true rfl) (by decide +kernel) ?_
    refine n_if_eq (off := 85) (tgt := 189) (by decide +kernel) (by decide) (fun hc12 => ?_) (fun hc12 => ?_)
    · rw [if_pos hc12] at hr
      refine n_iincK (n := 7) (j := 1) (w := 1) (lo2 := [_, _, _, _, _, _, _, _, _]) (by decide +kernel) rfl rfl rfl ?_
      refine n_goto (off := -105) (tgt := 87) (by decide +kernel) (by decide) ?_
      cases hr
      exact hk
    · rw [if_neg hc12] at hr
      refine n_iload (n := 5) (by decide +kernel) rfl ?_
      refine n_iconst (n := 2) (v := 2) (by decide +kernel) rfl ?_
      refine n_icmp_ne (off := 19) (tgt := 129) (by decide +kernel) (by decide) (fun hc13 => ?_) (fun hc13 => ?_)
      · rw [if_neg hc13] at hr
        exact B_X10_heaps_j129 G hp0 hr hk
      · rw [if_pos hc13] at hr
        refine n_aload_n (n := 0) (by decide +kernel) rfl ?_
        refine n_aload_n (n := 0) (by decide +kernel) rfl ?_
        refine n_getF (q := 196) G fl_RX10_61 hp0 (by decide +kernel) (by decide +kernel) (by decide +kernel) (fun hp18q => ?_)
        refine n_iload (n := 7) (by decide +kernel) rfl ?_
        obtain ⟨v19, h19, hr⟩ := bso hr
        refine n_callVi G [_, _] (x := v19) (B_X10_isKept G hp0 hp18q (by decide +kernel) h19) (by decide) mX10_isKept ml_RX10_299 hp0 (by decide +kernel) rfl rfl (Nat.le_of_ble_eq_true rfl) (by decide +kernel) ?_
        refine n_if_ne (off := 6) (tgt := 129) (by decide +kernel) (by decide) (fun hc20 => ?_) (fun hc20 => ?_)
        · rw [if_neg hc20] at hr
          exact B_X10_heaps_j129 G hp0 hr hk
        · rw [if_pos hc20] at hr
          refine n_goto (off := 63) (tgt := 189) (by decide +kernel) (by decide) ?_
          refine n_iincK (n := 7) (j := 1) (w := 1) (lo2 := [_, _, _, _, _, _, _, _, _]) (by decide +kernel) rfl rfl rfl ?_
          refine n_goto (off := -105) (tgt := 87) (by decide +kernel) (by decide) ?_
          cases hr
          exact hk
set_option maxRecDepth 100000 in
theorem W_X10_heaps_b87 (G : GG l s0 b L xs D cy ad) {x1 : Int32} {x2 : Int32} {x5 : Int32} {x6 : Int32} {M : Mm} (hp0 : P 76) {s : (Int32 × Int32 × Int32)} {e : (Int32 × Int32)} (h : whl fu (f_X10_heaps_b87 x1 x2 x5 x6 M) s = some e) (res : Rs) (M' : Mm) : Q_X10_heaps_b87 l s0 D cy ad P x1 x2 x5 x6 M res M' e → P_X10_heaps_b87 l s0 D cy ad P x1 x2 x5 x6 M res M' s := whl_run (P := fun s => P_X10_heaps_b87 l s0 D cy ad P x1 x2 x5 x6 M res M' s) (Q := fun e => Q_X10_heaps_b87 l s0 D cy ad P x1 x2 x5 x6 M res M' e) (B_X10_heaps_b87 G (res := res) (M' := M') (x1 := x1) (x2 := x2) (x5 := x5) (x6 := x6) (M := M) hp0) fu s h
set_option maxRecDepth 100000 in
theorem B_X10_heaps_b63 (G : GG l s0 b L xs D cy ad) {x1 : Int32} {x2 : Int32} {x5 : Int32} {M : Mm} {res : Rs} {M' : Mm} (hp0 : P 76) : ∀ (s : (Int32 × Int32 × Int32)) (r : (Int32 × Int32 × Int32) ⊕ (Int32 × Int32)), f_X10_heaps_b63 x1 x2 x5 M s = some r → mtc (P_X10_heaps_b63 l s0 D cy ad P x1 x2 x5 M res M') (Q_X10_heaps_b63 l s0 D cy ad P x1 x2 x5 M res M') r → P_X10_heaps_b63 l s0 D cy ad P x1 x2 x5 M res M' s := by
  intro s r hr hk
  obtain ⟨x3, x4, x6⟩ := s
  unfold f_X10_heaps_b63 at hr
  try dsimp only at hr
  dsimp only [P_X10_heaps_b63]
  refine n_iload (n := 6) (by decide +kernel) rfl ?_
  refine n_bipush (n := 48) (v := 48) (by decide +kernel) rfl ?_
  refine n_icmp_ge (off := 134) (tgt := 201) (by decide +kernel) (by decide) (fun hc7 => ?_) (fun hc7 => ?_)
  · rw [if_pos hc7] at hr
    cases hr
    refine n_msk [true, true, true, true, true, true, false, false, false] (lo2 := [_, _, _, _, _, _, .null, .null, .null]) rfl rfl ?_
    exact hk
  · rw [if_neg hc7] at hr
    refine n_iload (n := 5) (by decide +kernel) rfl ?_
    refine n_iconst (n := 1) (v := 1) (by decide +kernel) rfl ?_
    refine n_dia2 (J := 85) (c := x5 = (1 : Int32)) (a := (47 : Int32)) (b := (x6 + (1 : Int32))) (fun hJ => ?_) ?_
    · refine n_icmp_ne (off := 8) (tgt := 81) (by decide +kernel) (by decide) (fun hc8 => ?_) (fun hc8 => ?_)
      · refine n_iload (n := 6) (by decide +kernel) rfl ?_
        refine n_iconst (n := 1) (v := 1) (by decide +kernel) rfl ?_
        refine n_iadd (by decide +kernel) ?_
        exact hJ _ (if_neg hc8).symm
      · refine n_bipush (n := 47) (v := 47) (by decide +kernel) rfl ?_
        refine n_goto (off := 7) (tgt := 85) (by decide +kernel) (by decide) ?_
        exact hJ _ (if_pos hc8).symm
    refine n_istore (n := 7) (lo2 := [_, _, _, _, _, _, _, _, _]) (by decide +kernel) (Nat.le_of_ble_eq_true rfl) rfl ?_
    obtain ⟨e21, h21, hr⟩ := bso hr
    refine (W_X10_heaps_b87 G hp0 h21 _ _) ?_
    obtain ⟨z3_21, z4_21⟩ := e21
    try dsimp only at hr
    dsimp only [Q_X10_heaps_b87]
    refine n_iincK (n := 6) (j := 1) (w := 1) (lo2 := [_, _, _, _, _, _, _, _, _]) (by decide +kernel) rfl rfl rfl ?_
    refine n_goto (off := -135) (tgt := 63) (by decide +kernel) (by decide) ?_
    cases hr
    exact hk
set_option maxRecDepth 100000 in
theorem W_X10_heaps_b63 (G : GG l s0 b L xs D cy ad) {x1 : Int32} {x2 : Int32} {x5 : Int32} {M : Mm} (hp0 : P 76) {s : (Int32 × Int32 × Int32)} {e : (Int32 × Int32)} (h : whl fu (f_X10_heaps_b63 x1 x2 x5 M) s = some e) (res : Rs) (M' : Mm) : Q_X10_heaps_b63 l s0 D cy ad P x1 x2 x5 M res M' e → P_X10_heaps_b63 l s0 D cy ad P x1 x2 x5 M res M' s := whl_run (P := fun s => P_X10_heaps_b63 l s0 D cy ad P x1 x2 x5 M res M' s) (Q := fun e => Q_X10_heaps_b63 l s0 D cy ad P x1 x2 x5 M res M' e) (B_X10_heaps_b63 G (res := res) (M' := M') (x1 := x1) (x2 := x2) (x5 := x5) (M := M) hp0) fu s h
set_option maxRecDepth 100000 in
theorem B_X10_heaps_b54 (G : GG l s0 b L xs D cy ad) {x1 : Int32} {x2 : Int32} {M : Mm} {res : Rs} {M' : Mm} (hp0 : P 76) : ∀ (s : (Int32 × Int32 × Int32)) (r : (Int32 × Int32 × Int32) ⊕ (Int32 × Int32)), f_X10_heaps_b54 x1 x2 M s = some r → mtc (P_X10_heaps_b54 l s0 D cy ad P x1 x2 M res M') (Q_X10_heaps_b54 l s0 D cy ad P x1 x2 M res M') r → P_X10_heaps_b54 l s0 D cy ad P x1 x2 M res M' s := by
  intro s r hr hk
  obtain ⟨x3, x4, x5⟩ := s
  unfold f_X10_heaps_b54 at hr
  try dsimp only at hr
  dsimp only [P_X10_heaps_b54]
  refine n_iload (n := 5) (by decide +kernel) rfl ?_
  refine n_iconst (n := 3) (v := 3) (by decide +kernel) rfl ?_
  refine n_icmp_ge (off := 150) (tgt := 207) (by decide +kernel) (by decide) (fun hc6 => ?_) (fun hc6 => ?_)
  · rw [if_pos hc6] at hr
    cases hr
    refine n_msk [false, false, true, true, true, false, false, false, false] (lo2 := [.null, .null, _, _, _, .null, .null, .null, .null]) rfl rfl ?_
    exact hk
  · rw [if_neg hc6] at hr
    refine n_iconst (n := 0) (v := 0) (by decide +kernel) rfl ?_
    refine n_istore (n := 6) (lo2 := [_, _, _, _, _, _, _, _, _]) (by decide +kernel) (Nat.le_of_ble_eq_true rfl) rfl ?_
    obtain ⟨e22, h22, hr⟩ := bso hr
    refine (W_X10_heaps_b63 G hp0 h22 _ _) ?_
    obtain ⟨z3_22, z4_22⟩ := e22
    try dsimp only at hr
    dsimp only [Q_X10_heaps_b63]
    refine n_iincK (n := 5) (j := 1) (w := 1) (lo2 := [_, _, _, _, _, _, _, _, _]) (by decide +kernel) rfl rfl rfl ?_
    refine n_goto (off := -150) (tgt := 54) (by decide +kernel) (by decide) ?_
    cases hr
    exact hk
set_option maxRecDepth 100000 in
theorem W_X10_heaps_b54 (G : GG l s0 b L xs D cy ad) {x1 : Int32} {x2 : Int32} {M : Mm} (hp0 : P 76) {s : (Int32 × Int32 × Int32)} {e : (Int32 × Int32)} (h : whl fu (f_X10_heaps_b54 x1 x2 M) s = some e) (res : Rs) (M' : Mm) : Q_X10_heaps_b54 l s0 D cy ad P x1 x2 M res M' e → P_X10_heaps_b54 l s0 D cy ad P x1 x2 M res M' s := whl_run (P := fun s => P_X10_heaps_b54 l s0 D cy ad P x1 x2 M res M' s) (Q := fun e => Q_X10_heaps_b54 l s0 D cy ad P x1 x2 M res M' e) (B_X10_heaps_b54 G (res := res) (M' := M') (x1 := x1) (x2 := x2) (M := M) hp0) fu s h
set_option maxRecDepth 100000 in
theorem B_X10_heaps_j30 (G : GG l s0 b L xs D cy ad) {x1 : Int32} {x2 : Int32} {xs1 : Int32} {M : Mm} {r : (Int32 × Mm)} (hp0 : P 76) (hp90 : P 76) (hr : f_X10_heaps_j30 x1 x2 xs1 M = some r) : Rn l s0 D cy ad P 13 KX10_heaps 30 [.ref 76, .int x1, .int x2, .null, .null, .null, .null, .null, .null] [.int xs1, .ref 76] M (.inl (some (.int r.1))) (r.2) := by
  unfold f_X10_heaps_j30 at hr
  refine n_iconst (n := 1) (v := 1) (by decide +kernel) rfl ?_
  refine n_iconst (n := 2) (v := 2) (by decide +kernel) rfl ?_
  obtain ⟨⟨v3, M3⟩, h3, hr⟩ := bso hr
  try dsimp only at hr
  refine n_callVi G [_, _, _] (x := v3) (M1 := M3) (B_X10_bad G hp90 h3) (by decide) mX10_bad ml_RX10_161 hp90 (by decide +kernel) rfl rfl (Nat.le_of_ble_eq_true rfl) (by decide +kernel) ?_
  refine n_if_eq (off := 5) (tgt := 40) (by decide +kernel) (by decide) (fun hc4 => ?_) (fun hc4 => ?_)
  · rw [if_pos hc4] at hr
    refine n_aload_n (n := 0) (by decide +kernel) rfl ?_
    refine n_iconst (n := -1) (v := -1) (by decide +kernel) rfl ?_
    refine n_iconst (n := -1) (v := -1) (by decide +kernel) rfl ?_
    refine n_iload_n (n := 1) (by decide +kernel) rfl ?_
    obtain ⟨v5, h5, hr⟩ := bso hr
    refine n_callVi G [_, _, _] (x := v5) (B_X10_heapsBy G hp0 h5) (by decide) mX10_heapsBy ml_RX10_356 hp0 (by decide +kernel) rfl rfl (Nat.le_of_ble_eq_true rfl) (by decide +kernel) ?_
    refine n_istore_n (n := 3) (lo2 := [_, _, _, _, _, _, _, _, _]) (by decide +kernel) (Nat.le_of_ble_eq_true rfl) rfl ?_
    refine n_iconst (n := 0) (v := 0) (by decide +kernel) rfl ?_
    refine n_istore (n := 4) (lo2 := [_, _, _, _, _, _, _, _, _]) (by decide +kernel) (Nat.le_of_ble_eq_true rfl) rfl ?_
    refine n_iconst (n := 1) (v := 1) (by decide +kernel) rfl ?_
    refine n_istore (n := 5) (lo2 := [_, _, _, _, _, _, _, _, _]) (by decide +kernel) (Nat.le_of_ble_eq_true rfl) rfl ?_
    obtain ⟨e23, h23, hr⟩ := bso hr
    refine (W_X10_heaps_b54 G hp0 h23 _ _) ?_
    obtain ⟨z3_23, z4_23⟩ := e23
    try dsimp only at hr
    dsimp only [Q_X10_heaps_b54]
    refine n_iload_n (n := 2) (by decide +kernel) rfl ?_
    refine n_dia1 (J := 217) (c := x2 = 0) (a := z3_23) (b := z4_23) (fun hJ => ?_) ?_
    · refine n_if_ne (off := 7) (tgt := 215) (by decide +kernel) (by decide) (fun hc24 => ?_) (fun hc24 => ?_)
      · refine n_iload (n := 4) (by decide +kernel) rfl ?_
        exact hJ _ (if_neg hc24).symm
      · refine n_iload_n (n := 3) (by decide +kernel) rfl ?_
        refine n_goto (off := 5) (tgt := 217) (by decide +kernel) (by decide) ?_
        exact hJ _ (if_pos hc24).symm
    cases hr
    exact n_ireturn (by decide +kernel)
  · rw [if_neg hc4] at hr
    refine n_iconst (n := 0) (v := 0) (by decide +kernel) rfl ?_
    cases hr
    exact n_ireturn (by decide +kernel)
set_option maxRecDepth 100000 in
theorem B_X10_heaps_j25 (G : GG l s0 b L xs D cy ad) {x1 : Int32} {x2 : Int32} {M : Mm} {r : (Int32 × Mm)} (hp0 : P 76) (hp90 : P 76) (hr : f_X10_heaps_j25 x1 x2 M = some r) : Rn l s0 D cy ad P 13 KX10_heaps 25 [.ref 76, .int x1, .int x2, .null, .null, .null, .null, .null, .null] [.ref 76] M (.inl (some (.int r.1))) (r.2) := by
  unfold f_X10_heaps_j25 at hr
  refine n_iconst (n := 1) (v := 1) (by decide +kernel) rfl ?_
  refine n_goto (off := 4) (tgt := 30) (by decide +kernel) (by decide) ?_
  exact B_X10_heaps_j30 G hp0 hp90 hr
set_option maxRecDepth 100000 in
theorem B_X10_heaps (G : GG l s0 b L xs D cy ad)  {x1 : Int32} {x2 : Int32} {M : Mm} {r : (Int32 × Mm)} (hp0 : P 76) (hr : f_X10_heaps x1 x2 M = some r) : Cl l s0 D cy ad P 13 KX10_heaps [.ref 76, .int x1, .int x2] M (.inl (some (.int r.1))) (r.2) := by
  refine cl_ofN (by decide +kernel) rfl rfl okI (lo0 := [_, _, _, .null, .null, .null, .null, .null, .null]) rfl ?_
  unfold f_X10_heaps at hr
  refine n_aload_n (n := 0) (by decide +kernel) rfl ?_
  refine n_iconst (n := 0) (v := 0) (by decide +kernel) rfl ?_
  refine n_putI G fl_RX10_88 hp0 (by decide +kernel) (by decide +kernel) ?_
  refine n_aload_n (n := 0) (by decide +kernel) rfl ?_
  refine n_iload_n (n := 1) (by decide +kernel) rfl ?_
  refine n_iconst (n := 0) (v := 0) (by decide +kernel) rfl ?_
  refine n_bipush (n := 60) (v := 60) (by decide +kernel) rfl ?_
  obtain ⟨v1, h1, hr⟩ := bso hr
  refine n_callSi G [_, _, _] (x := v1) (B_X10_in G  h1) (by decide) mX10_in ml_RX10_122 rfl rfl (Nat.le_of_ble_eq_true rfl) (by decide +kernel) ?_
  refine n_if_eq (off := 12) (tgt := 25) (by decide +kernel) (by decide) (fun hc2 => ?_) (fun hc2 => ?_)
  · rw [if_pos hc2] at hr
    exact B_X10_heaps_j25 G hp0 hp0 hr
  · rw [if_neg hc2] at hr
    refine n_iload_n (n := 2) (by decide +kernel) rfl ?_
    refine n_iconst (n := 0) (v := 0) (by decide +kernel) rfl ?_
    refine n_iconst (n := 1) (v := 1) (by decide +kernel) rfl ?_
    obtain ⟨v25, h25, hr⟩ := bso hr
    refine n_callSi G [_, _, _] (x := v25) (B_X10_in G  h25) (by decide) mX10_in ml_RX10_122 rfl rfl (Nat.le_of_ble_eq_true rfl) (by decide +kernel) ?_
    refine n_if_ne (off := 7) (tgt := 29) (by decide +kernel) (by decide) (fun hc26 => ?_) (fun hc26 => ?_)
    · rw [if_neg hc26] at hr
      refine n_iconst (n := 0) (v := 0) (by decide +kernel) rfl ?_
      exact B_X10_heaps_j30 G hp0 hp0 hr
    · rw [if_pos hc26] at hr
      exact B_X10_heaps_j25 G hp0 hp0 hr
abbrev P_X10_lineBy_b5 (l : Launch) (s0 : State) (D : va_G) (cy : Nat → ClassId) (ad : Nat → Nat) (P : Nat → Prop) (x1 : Int32) (x2 : Int32)  (res : Rs) (M' : Mm) (s : (Int32 × Int32 × Mm)) : Prop := Rn l s0 D cy ad P 14 KX10_lineBy 5 [.ref 76, .int x1, .int x2, .int (s.1), .int (s.2.1)] [] (s.2.2) res M'
abbrev Q_X10_lineBy_b5 (l : Launch) (s0 : State) (D : va_G) (cy : Nat → ClassId) (ad : Nat → Nat) (P : Nat → Prop) (x1 : Int32) (x2 : Int32)  (res : Rs) (M' : Mm) (e : (Int32 × Mm)) : Prop := Rn l s0 D cy ad P 14 KX10_lineBy 95 [.null, .null, .null, .int (e.1), .null] [] (e.2) res M'
set_option maxRecDepth 100000 in
theorem B_X10_lineBy_j87 (G : GG l s0 b L xs D cy ad) {x1 : Int32} {x2 : Int32} {x4 : Int32} {xs0 : Int32} {xs1 : Int32} {M : Mm}  {res : Rs} {M' : Mm} {r : ((Int32 × Int32 × Mm) ⊕ (Int32 × Mm))} (hp0 : P 76) (hr : f_X10_lineBy_j87 x1 x2 x4 xs0 xs1 M = some r) (hk : mtc (P_X10_lineBy_b5 l s0 D cy ad P x1 x2 res M') (Q_X10_lineBy_b5 l s0 D cy ad P x1 x2 res M') r) : Rn l s0 D cy ad P 14 KX10_lineBy 87 [.ref 76, .int x1, .int x2, .null, .int x4] [.int xs1, .int xs0] M res M' := by
  unfold f_X10_lineBy_j87 at hr
  refine n_iadd (by decide +kernel) ?_
  refine n_istore_n (n := 3) (lo2 := [_, _, _, _, _]) (by decide +kernel) (Nat.le_of_ble_eq_true rfl) rfl ?_
  refine n_iincK (n := 4) (j := 1) (w := 1) (lo2 := [_, _, _, _, _]) (by decide +kernel) rfl rfl rfl ?_
  refine n_goto (off := -87) (tgt := 5) (by decide +kernel) (by decide) ?_
  cases hr
  exact hk
set_option maxRecDepth 100000 in
theorem B_X10_lineBy_b5 (G : GG l s0 b L xs D cy ad) {x1 : Int32} {x2 : Int32}  {res : Rs} {M' : Mm} (hp0 : P 76) : ∀ (s : (Int32 × Int32 × Mm)) (r : (Int32 × Int32 × Mm) ⊕ (Int32 × Mm)), f_X10_lineBy_b5 x1 x2 s = some r → mtc (P_X10_lineBy_b5 l s0 D cy ad P x1 x2 res M') (Q_X10_lineBy_b5 l s0 D cy ad P x1 x2 res M') r → P_X10_lineBy_b5 l s0 D cy ad P x1 x2 res M' s := by
  intro s r hr hk
  obtain ⟨x3, x4, M⟩ := s
  unfold f_X10_lineBy_b5 at hr
  try dsimp only at hr
  dsimp only [P_X10_lineBy_b5]
  refine n_iload (n := 4) (by decide +kernel) rfl ?_
  refine n_aload_n (n := 0) (by decide +kernel) rfl ?_
  refine n_getF (q := 196) G fl_RX10_61 hp0 (by decide +kernel) (by decide +kernel) (by decide +kernel) (fun hp1q => ?_)
  refine n_sipush (n := 360) (v := 360) (by decide +kernel) (by decide +kernel) ?_
  obtain ⟨v2, h2, hr⟩ := bso hr
  refine n_iald G h2 hp1q (by decide +kernel) (by decide +kernel) (by decide +kernel) ?_
  refine n_icmp_ge (off := 80) (tgt := 95) (by decide +kernel) (by decide) (fun hc3 => ?_) (fun hc3 => ?_)
  · rw [if_pos hc3] at hr
    cases hr
    refine n_msk [false, false, false, true, false] (lo2 := [.null, .null, .null, _, .null]) rfl rfl ?_
    exact hk
  · rw [if_neg hc3] at hr
    refine n_aload_n (n := 0) (by decide +kernel) rfl ?_
    refine n_getF (q := 196) G fl_RX10_61 hp0 (by decide +kernel) (by decide +kernel) (by decide +kernel) (fun hp4q => ?_)
    refine n_iload (n := 4) (by decide +kernel) rfl ?_
    obtain ⟨v5, h5, hr⟩ := bso hr
    refine n_callSi G [_, _] (x := v5) (B_X10_isThere G hp4q (by decide +kernel) h5) (by decide) mX10_isThere ml_RX10_337 rfl rfl (Nat.le_of_ble_eq_true rfl) (by decide +kernel) ?_
    refine n_if_eq (off := 62) (tgt := 89) (by decide +kernel) (by decide) (fun hc6 => ?_) (fun hc6 => ?_)
    · rw [if_pos hc6] at hr
      refine n_iincK (n := 4) (j := 1) (w := 1) (lo2 := [_, _, _, _, _]) (by decide +kernel) rfl rfl rfl ?_
      refine n_goto (off := -87) (tgt := 5) (by decide +kernel) (by decide) ?_
      cases hr
      exact hk
    · rw [if_neg hc6] at hr
      refine n_iload_n (n := 3) (by decide +kernel) rfl ?_
      refine n_aload_n (n := 0) (by decide +kernel) rfl ?_
      refine n_getF (q := 196) G fl_RX10_61 hp0 (by decide +kernel) (by decide +kernel) (by decide +kernel) (fun hp7q => ?_)
      refine n_iload (n := 4) (by decide +kernel) rfl ?_
      refine n_iconst (n := 2) (v := 2) (by decide +kernel) rfl ?_
      obtain ⟨v8, h8, hr⟩ := bso hr
      refine n_callSi G [_, _, _] (x := v8) (B_X10_of G hp7q (by decide +kernel) h8) (by decide) mX10_of ml_RX10_222 rfl rfl (Nat.le_of_ble_eq_true rfl) (by decide +kernel) ?_
      refine n_iload_n (n := 1) (by decide +kernel) rfl ?_
      refine n_icmp_lt (off := 16) (tgt := 58) (by decide +kernel) (by decide) (fun hc9 => ?_) (fun hc9 => ?_)
      · rw [if_pos hc9] at hr
        refine n_iload_n (n := 2) (by decide +kernel) rfl ?_
        refine n_aload_n (n := 0) (by decide +kernel) rfl ?_
        refine n_aload_n (n := 0) (by decide +kernel) rfl ?_
        refine n_getF (q := 196) G fl_RX10_61 hp0 (by decide +kernel) (by decide +kernel) (by decide +kernel) (fun hp10q => ?_)
        refine n_aload_n (n := 0) (by decide +kernel) rfl ?_
        refine n_getF (q := 196) G fl_RX10_61 hp0 (by decide +kernel) (by decide +kernel) (by decide +kernel) (fun hp11q => ?_)
        refine n_iload (n := 4) (by decide +kernel) rfl ?_
        obtain ⟨v12, h12, hr⟩ := bso hr
        refine n_callSi G [_, _] (x := v12) (B_X10_cellOf G hp11q (by decide +kernel) h12) (by decide) mX10_cellOf ml_RX10_230 rfl rfl (Nat.le_of_ble_eq_true rfl) (by decide +kernel) ?_
        refine n_aload_n (n := 0) (by decide +kernel) rfl ?_
        refine n_getF (q := 196) G fl_RX10_61 hp0 (by decide +kernel) (by decide +kernel) (by decide +kernel) (fun hp13q => ?_)
        refine n_iload (n := 4) (by decide +kernel) rfl ?_
        refine n_iconst (n := 2) (v := 2) (by decide +kernel) rfl ?_
        obtain ⟨v14, h14, hr⟩ := bso hr
        refine n_callSi G [_, _, _] (x := v14) (B_X10_of G hp13q (by decide +kernel) h14) (by decide) mX10_of ml_RX10_222 rfl rfl (Nat.le_of_ble_eq_true rfl) (by decide +kernel) ?_
        obtain ⟨⟨v15, M15⟩, h15, hr⟩ := bso hr
        try dsimp only at hr
        refine n_callVi G [_, _, _] (x := v15) (M1 := M15) (B_X10_damageOf G hp0 hp10q (by decide +kernel) h15) (by decide) mX10_damageOf ml_RX10_296 hp0 (by decide +kernel) rfl rfl (Nat.le_of_ble_eq_true rfl) (by decide +kernel) ?_
        refine n_imul (by decide +kernel) ?_
        refine n_msk [true, true, true, false, true] (lo2 := [_, _, _, .null, _]) rfl rfl ?_
        exact B_X10_lineBy_j87 G hp0 hr hk
      · rw [if_neg hc9] at hr
        refine n_aload_n (n := 0) (by decide +kernel) rfl ?_
        refine n_aload_n (n := 0) (by decide +kernel) rfl ?_
        refine n_getF (q := 196) G fl_RX10_61 hp0 (by decide +kernel) (by decide +kernel) (by decide +kernel) (fun hp16q => ?_)
        refine n_iload (n := 4) (by decide +kernel) rfl ?_
        obtain ⟨v17, h17, hr⟩ := bso hr
        refine n_callVi G [_, _] (x := v17) (B_X10_clearOf G hp0 hp16q (by decide +kernel) h17) (by decide) mX10_clearOf ml_RX10_331 hp0 (by decide +kernel) rfl rfl (Nat.le_of_ble_eq_true rfl) (by decide +kernel) ?_
        refine n_goto (off := 32) (tgt := 87) (by decide +kernel) (by decide) ?_
        refine n_msk [true, true, true, false, true] (lo2 := [_, _, _, .null, _]) rfl rfl ?_
        exact B_X10_lineBy_j87 G hp0 hr hk
set_option maxRecDepth 100000 in
theorem W_X10_lineBy_b5 (G : GG l s0 b L xs D cy ad) {x1 : Int32} {x2 : Int32}  (hp0 : P 76) {s : (Int32 × Int32 × Mm)} {e : (Int32 × Mm)} (h : whl fu (f_X10_lineBy_b5 x1 x2) s = some e) (res : Rs) (M' : Mm) : Q_X10_lineBy_b5 l s0 D cy ad P x1 x2 res M' e → P_X10_lineBy_b5 l s0 D cy ad P x1 x2 res M' s := whl_run (P := fun s => P_X10_lineBy_b5 l s0 D cy ad P x1 x2 res M' s) (Q := fun e => Q_X10_lineBy_b5 l s0 D cy ad P x1 x2 res M' e) (B_X10_lineBy_b5 G (res := res) (M' := M') (x1 := x1) (x2 := x2) hp0) fu s h
set_option maxRecDepth 100000 in
theorem B_X10_lineBy (G : GG l s0 b L xs D cy ad)  {x1 : Int32} {x2 : Int32} {M : Mm} {r : (Int32 × Mm)} (hp0 : P 76) (hr : f_X10_lineBy x1 x2 M = some r) : Cl l s0 D cy ad P 14 KX10_lineBy [.ref 76, .int x1, .int x2] M (.inl (some (.int r.1))) (r.2) := by
  refine cl_ofN (by decide +kernel) rfl rfl okI (lo0 := [_, _, _, .null, .null]) rfl ?_
  unfold f_X10_lineBy at hr
  refine n_iconst (n := 0) (v := 0) (by decide +kernel) rfl ?_
  refine n_istore_n (n := 3) (lo2 := [_, _, _, _, _]) (by decide +kernel) (Nat.le_of_ble_eq_true rfl) rfl ?_
  refine n_iconst (n := 0) (v := 0) (by decide +kernel) rfl ?_
  refine n_istore (n := 4) (lo2 := [_, _, _, _, _]) (by decide +kernel) (Nat.le_of_ble_eq_true rfl) rfl ?_
  obtain ⟨e18, h18, hr⟩ := bso hr
  refine (W_X10_lineBy_b5 G hp0 h18 _ _) ?_
  obtain ⟨z3_18, M18⟩ := e18
  try dsimp only at hr
  dsimp only [Q_X10_lineBy_b5]
  refine n_iload_n (n := 3) (by decide +kernel) rfl ?_
  cases hr
  exact n_ireturn (by decide +kernel)
abbrev P_X10_line_b45 (l : Launch) (s0 : State) (D : va_G) (cy : Nat → ClassId) (ad : Nat → Nat) (P : Nat → Prop) (x1 : Int32) (x2 : Int32)  (res : Rs) (M' : Mm) (s : (Int32 × Int32 × Mm)) : Prop := Rn l s0 D cy ad P 15 KX10_line 45 [.ref 76, .int x1, .int x2, .int (s.1), .int (s.2.1)] [] (s.2.2) res M'
abbrev Q_X10_line_b45 (l : Launch) (s0 : State) (D : va_G) (cy : Nat → ClassId) (ad : Nat → Nat) (P : Nat → Prop) (x1 : Int32) (x2 : Int32)  (res : Rs) (M' : Mm) (e : (Int32 × Mm)) : Prop := Rn l s0 D cy ad P 15 KX10_line 81 [.ref 76, .int x1, .int x2, .int (e.1), .null] [] (e.2) res M'
set_option maxRecDepth 100000 in
theorem B_X10_line_b45 (G : GG l s0 b L xs D cy ad) {x1 : Int32} {x2 : Int32}  {res : Rs} {M' : Mm} (hp0 : P 76) : ∀ (s : (Int32 × Int32 × Mm)) (r : (Int32 × Int32 × Mm) ⊕ (Int32 × Mm)), f_X10_line_b45 x1 x2 s = some r → mtc (P_X10_line_b45 l s0 D cy ad P x1 x2 res M') (Q_X10_line_b45 l s0 D cy ad P x1 x2 res M') r → P_X10_line_b45 l s0 D cy ad P x1 x2 res M' s := by
  intro s r hr hk
  obtain ⟨x3, x4, M⟩ := s
  unfold f_X10_line_b45 at hr
  try dsimp only at hr
  dsimp only [P_X10_line_b45]
  refine n_iload (n := 4) (by decide +kernel) rfl ?_
  refine n_bipush (n := 11) (v := 11) (by decide +kernel) rfl ?_
  refine n_icmp_ge (off := 32) (tgt := 81) (by decide +kernel) (by decide) (fun hc5 => ?_) (fun hc5 => ?_)
  · rw [if_pos hc5] at hr
    cases hr
    refine n_msk [true, true, true, true, false] (lo2 := [_, _, _, _, .null]) rfl rfl ?_
    exact hk
  · rw [if_neg hc5] at hr
    refine n_aload_n (n := 0) (by decide +kernel) rfl ?_
    refine n_iload (n := 4) (by decide +kernel) rfl ?_
    refine n_iload_n (n := 1) (by decide +kernel) rfl ?_
    obtain ⟨⟨v6, M6⟩, h6, hr⟩ := bso hr
    try dsimp only at hr
    refine n_callVi G [_, _] (x := v6) (M1 := M6) (B_X10_lineBy G hp0 h6) (by decide) mX10_lineBy ml_RX10_359 hp0 (by decide +kernel) rfl rfl (Nat.le_of_ble_eq_true rfl) (by decide +kernel) ?_
    refine n_aload_n (n := 0) (by decide +kernel) rfl ?_
    refine n_iload_n (n := 3) (by decide +kernel) rfl ?_
    refine n_iload_n (n := 1) (by decide +kernel) rfl ?_
    obtain ⟨⟨v7, M7⟩, h7, hr⟩ := bso hr
    try dsimp only at hr
    refine n_callVi G [_, _] (x := v7) (M1 := M7) (B_X10_lineBy G hp0 h7) (by decide) mX10_lineBy ml_RX10_359 hp0 (by decide +kernel) rfl rfl (Nat.le_of_ble_eq_true rfl) (by decide +kernel) ?_
    refine n_dia2 (J := 74) (c := v7 ≤ v6) (a := x3) (b := x4) (fun hJ => ?_) ?_
    · refine n_icmp_ge (off := 8) (tgt := 73) (by decide +kernel) (by decide) (fun hc8 => ?_) (fun hc8 => ?_)
      · refine n_iload_n (n := 3) (by decide +kernel) rfl ?_
        exact hJ _ (if_pos hc8).symm
      · refine n_iload (n := 4) (by decide +kernel) rfl ?_
        refine n_goto (off := 4) (tgt := 74) (by decide +kernel) (by decide) ?_
        exact hJ _ (if_neg hc8).symm
    refine n_istore_n (n := 3) (lo2 := [_, _, _, _, _]) (by decide +kernel) (Nat.le_of_ble_eq_true rfl) rfl ?_
    refine n_iincK (n := 4) (j := 1) (w := 1) (lo2 := [_, _, _, _, _]) (by decide +kernel) rfl rfl rfl ?_
    refine n_goto (off := -33) (tgt := 45) (by decide +kernel) (by decide) ?_
    cases hr
    exact hk
set_option maxRecDepth 100000 in
theorem W_X10_line_b45 (G : GG l s0 b L xs D cy ad) {x1 : Int32} {x2 : Int32}  (hp0 : P 76) {s : (Int32 × Int32 × Mm)} {e : (Int32 × Mm)} (h : whl fu (f_X10_line_b45 x1 x2) s = some e) (res : Rs) (M' : Mm) : Q_X10_line_b45 l s0 D cy ad P x1 x2 res M' e → P_X10_line_b45 l s0 D cy ad P x1 x2 res M' s := whl_run (P := fun s => P_X10_line_b45 l s0 D cy ad P x1 x2 res M' s) (Q := fun e => Q_X10_line_b45 l s0 D cy ad P x1 x2 res M' e) (B_X10_line_b45 G (res := res) (M' := M') (x1 := x1) (x2 := x2) hp0) fu s h
set_option maxRecDepth 100000 in
theorem B_X10_line_j30 (G : GG l s0 b L xs D cy ad) {x1 : Int32} {x2 : Int32} {xs1 : Int32} {M : Mm} {r : (Int32 × Mm)} (hp0 : P 76) (hp90 : P 76) (hr : f_X10_line_j30 x1 x2 xs1 M = some r) : Rn l s0 D cy ad P 15 KX10_line 30 [.ref 76, .int x1, .int x2, .null, .null] [.int xs1, .ref 76] M (.inl (some (.int r.1))) (r.2) := by
  unfold f_X10_line_j30 at hr
  refine n_iconst (n := 1) (v := 1) (by decide +kernel) rfl ?_
  refine n_iconst (n := 2) (v := 2) (by decide +kernel) rfl ?_
  obtain ⟨⟨v3, M3⟩, h3, hr⟩ := bso hr
  try dsimp only at hr
  refine n_callVi G [_, _, _] (x := v3) (M1 := M3) (B_X10_bad G hp90 h3) (by decide) mX10_bad ml_RX10_161 hp90 (by decide +kernel) rfl rfl (Nat.le_of_ble_eq_true rfl) (by decide +kernel) ?_
  refine n_if_eq (off := 5) (tgt := 40) (by decide +kernel) (by decide) (fun hc4 => ?_) (fun hc4 => ?_)
  · rw [if_pos hc4] at hr
    refine n_iconst (n := 1) (v := 1) (by decide +kernel) rfl ?_
    refine n_istore_n (n := 3) (lo2 := [_, _, _, _, _]) (by decide +kernel) (Nat.le_of_ble_eq_true rfl) rfl ?_
    refine n_iconst (n := 2) (v := 2) (by decide +kernel) rfl ?_
    refine n_istore (n := 4) (lo2 := [_, _, _, _, _]) (by decide +kernel) (Nat.le_of_ble_eq_true rfl) rfl ?_
    obtain ⟨e9, h9, hr⟩ := bso hr
    refine (W_X10_line_b45 G hp0 h9 _ _) ?_
    obtain ⟨z3_9, M9⟩ := e9
    try dsimp only at hr
    dsimp only [Q_X10_line_b45]
    refine n_iload_n (n := 2) (by decide +kernel) rfl ?_
    refine n_if_ne (off := 7) (tgt := 89) (by decide +kernel) (by decide) (fun hc10 => ?_) (fun hc10 => ?_)
    · rw [if_neg hc10] at hr
      refine n_aload_n (n := 0) (by decide +kernel) rfl ?_
      refine n_iload_n (n := 3) (by decide +kernel) rfl ?_
      refine n_iload_n (n := 1) (by decide +kernel) rfl ?_
      obtain ⟨⟨v11, M11⟩, h11, hr⟩ := bso hr
      try dsimp only at hr
      refine n_callVi G [_, _] (x := v11) (M1 := M11) (B_X10_lineBy G hp0 h11) (by decide) mX10_lineBy ml_RX10_359 hp0 (by decide +kernel) rfl rfl (Nat.le_of_ble_eq_true rfl) (by decide +kernel) ?_
      cases hr
      exact n_ireturn (by decide +kernel)
    · rw [if_pos hc10] at hr
      refine n_iload_n (n := 3) (by decide +kernel) rfl ?_
      refine n_goto (off := 9) (tgt := 95) (by decide +kernel) (by decide) ?_
      cases hr
      exact n_ireturn (by decide +kernel)
  · rw [if_neg hc4] at hr
    refine n_iconst (n := 0) (v := 0) (by decide +kernel) rfl ?_
    cases hr
    exact n_ireturn (by decide +kernel)
set_option maxRecDepth 100000 in
theorem B_X10_line_j25 (G : GG l s0 b L xs D cy ad) {x1 : Int32} {x2 : Int32} {M : Mm} {r : (Int32 × Mm)} (hp0 : P 76) (hp90 : P 76) (hr : f_X10_line_j25 x1 x2 M = some r) : Rn l s0 D cy ad P 15 KX10_line 25 [.ref 76, .int x1, .int x2, .null, .null] [.ref 76] M (.inl (some (.int r.1))) (r.2) := by
  unfold f_X10_line_j25 at hr
  refine n_iconst (n := 1) (v := 1) (by decide +kernel) rfl ?_
  refine n_goto (off := 4) (tgt := 30) (by decide +kernel) (by decide) ?_
  exact B_X10_line_j30 G hp0 hp90 hr
set_option maxRecDepth 100000 in
theorem B_X10_line (G : GG l s0 b L xs D cy ad)  {x1 : Int32} {x2 : Int32} {M : Mm} {r : (Int32 × Mm)} (hp0 : P 76) (hr : f_X10_line x1 x2 M = some r) : Cl l s0 D cy ad P 15 KX10_line [.ref 76, .int x1, .int x2] M (.inl (some (.int r.1))) (r.2) := by
  refine cl_ofN (by decide +kernel) rfl rfl okI (lo0 := [_, _, _, .null, .null]) rfl ?_
  unfold f_X10_line at hr
  refine n_aload_n (n := 0) (by decide +kernel) rfl ?_
  refine n_iconst (n := 0) (v := 0) (by decide +kernel) rfl ?_
  refine n_putI G fl_RX10_88 hp0 (by decide +kernel) (by decide +kernel) ?_
  refine n_aload_n (n := 0) (by decide +kernel) rfl ?_
  refine n_iload_n (n := 1) (by decide +kernel) rfl ?_
  refine n_iconst (n := 0) (v := 0) (by decide +kernel) rfl ?_
  refine n_bipush (n := 60) (v := 60) (by decide +kernel) rfl ?_
  obtain ⟨v1, h1, hr⟩ := bso hr
  refine n_callSi G [_, _, _] (x := v1) (B_X10_in G  h1) (by decide) mX10_in ml_RX10_122 rfl rfl (Nat.le_of_ble_eq_true rfl) (by decide +kernel) ?_
  refine n_if_eq (off := 12) (tgt := 25) (by decide +kernel) (by decide) (fun hc2 => ?_) (fun hc2 => ?_)
  · rw [if_pos hc2] at hr
    exact B_X10_line_j25 G hp0 hp0 hr
  · rw [if_neg hc2] at hr
    refine n_iload_n (n := 2) (by decide +kernel) rfl ?_
    refine n_iconst (n := 0) (v := 0) (by decide +kernel) rfl ?_
    refine n_iconst (n := 1) (v := 1) (by decide +kernel) rfl ?_
    obtain ⟨v12, h12, hr⟩ := bso hr
    refine n_callSi G [_, _, _] (x := v12) (B_X10_in G  h12) (by decide) mX10_in ml_RX10_122 rfl rfl (Nat.le_of_ble_eq_true rfl) (by decide +kernel) ?_
    refine n_if_ne (off := 7) (tgt := 29) (by decide +kernel) (by decide) (fun hc13 => ?_) (fun hc13 => ?_)
    · rw [if_neg hc13] at hr
      refine n_iconst (n := 0) (v := 0) (by decide +kernel) rfl ?_
      exact B_X10_line_j30 G hp0 hp0 hr
    · rw [if_pos hc13] at hr
      exact B_X10_line_j25 G hp0 hp0 hr
abbrev P_X10_clearsIn_b4 (l : Launch) (s0 : State) (D : va_G) (cy : Nat → ClassId) (ad : Nat → Nat) (P : Nat → Prop) (x1 : Int32) (M : Mm) (res : Rs) (M' : Mm) (s : (Int32 × Int32)) : Prop := Rn l s0 D cy ad P 12 KX10_clearsIn 4 [.ref 76, .int x1, .int (s.1), .int (s.2)] [] M res M'
abbrev Q_X10_clearsIn_b4 (l : Launch) (s0 : State) (D : va_G) (cy : Nat → ClassId) (ad : Nat → Nat) (P : Nat → Prop) (x1 : Int32) (M : Mm) (res : Rs) (M' : Mm) (e : Int32) : Prop := Rn l s0 D cy ad P 12 KX10_clearsIn 61 [.null, .null, .int (e), .null] [] M res M'
set_option maxRecDepth 100000 in
theorem B_X10_clearsIn_j52 (G : GG l s0 b L xs D cy ad) {x1 : Int32} {x3 : Int32} {xs0 : Int32} {M : Mm}  {res : Rs} {M' : Mm} {r : ((Int32 × Int32) ⊕ Int32)} (hp0 : P 76) (hr : f_X10_clearsIn_j52 x1 x3 xs0 M = some r) (hk : mtc (P_X10_clearsIn_b4 l s0 D cy ad P x1 M res M') (Q_X10_clearsIn_b4 l s0 D cy ad P x1 M res M') r) : Rn l s0 D cy ad P 12 KX10_clearsIn 52 [.ref 76, .int x1, .null, .int x3] [.int xs0] M res M' := by
  unfold f_X10_clearsIn_j52 at hr
  refine n_iconst (n := 0) (v := 0) (by decide +kernel) rfl ?_
  refine n_iadd (by decide +kernel) ?_
  refine n_istore_n (n := 2) (lo2 := [_, _, _, _]) (by decide +kernel) (Nat.le_of_ble_eq_true rfl) rfl ?_
  refine n_iincK (n := 3) (j := 1) (w := 1) (lo2 := [_, _, _, _]) (by decide +kernel) rfl rfl rfl ?_
  refine n_goto (off := -54) (tgt := 4) (by decide +kernel) (by decide) ?_
  cases hr
  exact hk
set_option maxRecDepth 100000 in
theorem B_X10_clearsIn_b4 (G : GG l s0 b L xs D cy ad) {x1 : Int32} {M : Mm} {res : Rs} {M' : Mm} (hp0 : P 76) : ∀ (s : (Int32 × Int32)) (r : (Int32 × Int32) ⊕ Int32), f_X10_clearsIn_b4 x1 M s = some r → mtc (P_X10_clearsIn_b4 l s0 D cy ad P x1 M res M') (Q_X10_clearsIn_b4 l s0 D cy ad P x1 M res M') r → P_X10_clearsIn_b4 l s0 D cy ad P x1 M res M' s := by
  intro s r hr hk
  obtain ⟨x2, x3⟩ := s
  unfold f_X10_clearsIn_b4 at hr
  try dsimp only at hr
  dsimp only [P_X10_clearsIn_b4]
  refine n_iload_n (n := 3) (by decide +kernel) rfl ?_
  refine n_aload_n (n := 0) (by decide +kernel) rfl ?_
  refine n_getF (q := 196) G fl_RX10_61 hp0 (by decide +kernel) (by decide +kernel) (by decide +kernel) (fun hp1q => ?_)
  refine n_sipush (n := 360) (v := 360) (by decide +kernel) (by decide +kernel) ?_
  obtain ⟨v2, h2, hr⟩ := bso hr
  refine n_iald G h2 hp1q (by decide +kernel) (by decide +kernel) (by decide +kernel) ?_
  refine n_icmp_ge (off := 48) (tgt := 61) (by decide +kernel) (by decide) (fun hc3 => ?_) (fun hc3 => ?_)
  · rw [if_pos hc3] at hr
    cases hr
    refine n_msk [false, false, true, false] (lo2 := [.null, .null, _, .null]) rfl rfl ?_
    exact hk
  · rw [if_neg hc3] at hr
    refine n_iload_n (n := 2) (by decide +kernel) rfl ?_
    refine n_aload_n (n := 0) (by decide +kernel) rfl ?_
    refine n_getF (q := 196) G fl_RX10_61 hp0 (by decide +kernel) (by decide +kernel) (by decide +kernel) (fun hp4q => ?_)
    refine n_iload_n (n := 3) (by decide +kernel) rfl ?_
    obtain ⟨v5, h5, hr⟩ := bso hr
    refine n_callSi G [_, _] (x := v5) (B_X10_isThere G hp4q (by decide +kernel) h5) (by decide) mX10_isThere ml_RX10_337 rfl rfl (Nat.le_of_ble_eq_true rfl) (by decide +kernel) ?_
    refine n_if_eq (off := 27) (tgt := 52) (by decide +kernel) (by decide) (fun hc6 => ?_) (fun hc6 => ?_)
    · rw [if_pos hc6] at hr
      refine n_msk [true, true, false, true] (lo2 := [_, _, .null, _]) rfl rfl ?_
      exact B_X10_clearsIn_j52 G hp0 hr hk
    · rw [if_neg hc6] at hr
      refine n_aload_n (n := 0) (by decide +kernel) rfl ?_
      refine n_getF (q := 196) G fl_RX10_61 hp0 (by decide +kernel) (by decide +kernel) (by decide +kernel) (fun hp7q => ?_)
      refine n_iload_n (n := 3) (by decide +kernel) rfl ?_
      obtain ⟨v8, h8, hr⟩ := bso hr
      refine n_callSi G [_, _] (x := v8) (B_X10_cellOf G hp7q (by decide +kernel) h8) (by decide) mX10_cellOf ml_RX10_230 rfl rfl (Nat.le_of_ble_eq_true rfl) (by decide +kernel) ?_
      refine n_iload_n (n := 1) (by decide +kernel) rfl ?_
      refine n_icmp_ne (off := 15) (tgt := 52) (by decide +kernel) (by decide) (fun hc9 => ?_) (fun hc9 => ?_)
      · rw [if_neg hc9] at hr
        refine n_msk [true, true, false, true] (lo2 := [_, _, .null, _]) rfl rfl ?_
        exact B_X10_clearsIn_j52 G hp0 hr hk
      · rw [if_pos hc9] at hr
        refine n_aload_n (n := 0) (by decide +kernel) rfl ?_
        refine n_aload_n (n := 0) (by decide +kernel) rfl ?_
        refine n_getF (q := 196) G fl_RX10_61 hp0 (by decide +kernel) (by decide +kernel) (by decide +kernel) (fun hp10q => ?_)
        refine n_iload_n (n := 3) (by decide +kernel) rfl ?_
        obtain ⟨v11, h11, hr⟩ := bso hr
        refine n_callVi G [_, _] (x := v11) (B_X10_clearOf G hp0 hp10q (by decide +kernel) h11) (by decide) mX10_clearOf ml_RX10_331 hp0 (by decide +kernel) rfl rfl (Nat.le_of_ble_eq_true rfl) (by decide +kernel) ?_
        refine n_goto (off := 4) (tgt := 53) (by decide +kernel) (by decide) ?_
        refine n_iadd (by decide +kernel) ?_
        refine n_istore_n (n := 2) (lo2 := [_, _, _, _]) (by decide +kernel) (Nat.le_of_ble_eq_true rfl) rfl ?_
        refine n_iincK (n := 3) (j := 1) (w := 1) (lo2 := [_, _, _, _]) (by decide +kernel) rfl rfl rfl ?_
        refine n_goto (off := -54) (tgt := 4) (by decide +kernel) (by decide) ?_
        cases hr
        exact hk
set_option maxRecDepth 100000 in
theorem W_X10_clearsIn_b4 (G : GG l s0 b L xs D cy ad) {x1 : Int32} {M : Mm} (hp0 : P 76) {s : (Int32 × Int32)} {e : Int32} (h : whl fu (f_X10_clearsIn_b4 x1 M) s = some e) (res : Rs) (M' : Mm) : Q_X10_clearsIn_b4 l s0 D cy ad P x1 M res M' e → P_X10_clearsIn_b4 l s0 D cy ad P x1 M res M' s := whl_run (P := fun s => P_X10_clearsIn_b4 l s0 D cy ad P x1 M res M' s) (Q := fun e => Q_X10_clearsIn_b4 l s0 D cy ad P x1 M res M' e) (B_X10_clearsIn_b4 G (res := res) (M' := M') (x1 := x1) (M := M) hp0) fu s h
set_option maxRecDepth 100000 in
theorem B_X10_clearsIn (G : GG l s0 b L xs D cy ad)  {x1 : Int32} {M : Mm} {r : Int32} (hp0 : P 76) (hr : f_X10_clearsIn x1 M = some r) : Cl l s0 D cy ad P 12 KX10_clearsIn [.ref 76, .int x1] M (.inl (some (.int r))) (M) := by
  refine cl_ofN (by decide +kernel) rfl rfl okI (lo0 := [_, _, .null, .null]) rfl ?_
  unfold f_X10_clearsIn at hr
  refine n_iconst (n := 0) (v := 0) (by decide +kernel) rfl ?_
  refine n_istore_n (n := 2) (lo2 := [_, _, _, _]) (by decide +kernel) (Nat.le_of_ble_eq_true rfl) rfl ?_
  refine n_iconst (n := 0) (v := 0) (by decide +kernel) rfl ?_
  refine n_istore_n (n := 3) (lo2 := [_, _, _, _]) (by decide +kernel) (Nat.le_of_ble_eq_true rfl) rfl ?_
  obtain ⟨z2_12, h12, hr⟩ := bso hr
  refine (W_X10_clearsIn_b4 G hp0 h12 _ _) ?_
  dsimp only [Q_X10_clearsIn_b4]
  refine n_iload_n (n := 2) (by decide +kernel) rfl ?_
  cases hr
  exact n_ireturn (by decide +kernel)
abbrev P_X10_first_b43 (l : Launch) (s0 : State) (D : va_G) (cy : Nat → ClassId) (ad : Nat → Nat) (P : Nat → Prop) (x1 : Int32) (x2 : Int32)  (res : Rs) (M' : Mm) (s : (Int32 × Mm)) : Prop := Rn l s0 D cy ad P 13 KX10_first 43 [.ref 76, .int x1, .int x2, .int (s.1), .null, .null, .null, .null] [] (s.2) res M'
abbrev Q_X10_first_b43 (l : Launch) (s0 : State) (D : va_G) (cy : Nat → ClassId) (ad : Nat → Nat) (P : Nat → Prop) (x1 : Int32) (x2 : Int32)  (res : Rs) (M' : Mm) (e : Mm) : Prop := Rn l s0 D cy ad P 13 KX10_first 71 [.ref 76, .int x1, .int x2, .null, .null, .null, .null, .null] [] (e) res M'
set_option maxRecDepth 100000 in
theorem B_X10_first_b43 (G : GG l s0 b L xs D cy ad) {x1 : Int32} {x2 : Int32}  {res : Rs} {M' : Mm} (hp0 : P 76) : ∀ (s : (Int32 × Mm)) (r : (Int32 × Mm) ⊕ Mm), f_X10_first_b43 x1 x2 s = some r → mtc (P_X10_first_b43 l s0 D cy ad P x1 x2 res M') (Q_X10_first_b43 l s0 D cy ad P x1 x2 res M') r → P_X10_first_b43 l s0 D cy ad P x1 x2 res M' s := by
  intro s r hr hk
  obtain ⟨x3, M⟩ := s
  unfold f_X10_first_b43 at hr
  try dsimp only at hr
  dsimp only [P_X10_first_b43]
  refine n_iload_n (n := 3) (by decide +kernel) rfl ?_
  refine n_iload_n (n := 1) (by decide +kernel) rfl ?_
  refine n_icmp_gt (off := 26) (tgt := 71) (by decide +kernel) (by decide) (fun hc5 => ?_) (fun hc5 => ?_)
  · rw [if_pos hc5] at hr
    cases hr
    refine n_msk [true, true, true, false, false, false, false, false] (lo2 := [_, _, _, .null, .null, .null, .null, .null]) rfl rfl ?_
    exact hk
  · rw [if_neg hc5] at hr
    refine n_aload_n (n := 0) (by decide +kernel) rfl ?_
    refine n_getF (q := 224) G fl_RX10_76 hp0 (by decide +kernel) (by decide +kernel) (by decide +kernel) (fun hp6q => ?_)
    refine n_iconst (n := 0) (v := 0) (by decide +kernel) rfl ?_
    obtain ⟨q7, h7, hr⟩ := bso hr
    refine n_aald G h7 hp6q (by decide +kernel) (by decide +kernel) (by decide +kernel) (fun hp7q => ?_)
    refine n_iload_n (n := 3) (by decide +kernel) rfl ?_
    refine n_iload_n (n := 3) (by decide +kernel) rfl ?_
    refine n_dia1 (J := 64) (c := x3 = 0) (a := (0 : Int32)) (b := (-1 : Int32)) (fun hJ => ?_) ?_
    · refine n_if_ne (off := 7) (tgt := 63) (by decide +kernel) (by decide) (fun hc8 => ?_) (fun hc8 => ?_)
      · refine n_iconst (n := -1) (v := -1) (by decide +kernel) rfl ?_
        exact hJ _ (if_neg hc8).symm
      · refine n_iconst (n := 0) (v := 0) (by decide +kernel) rfl ?_
        refine n_goto (off := 4) (tgt := 64) (by decide +kernel) (by decide) ?_
        exact hJ _ (if_pos hc8).symm
    obtain ⟨M9, h9, hr⟩ := bso hr
    refine n_iast G h9 hp7q (row_224 h7).1 (row_224 h7).2 (by decide +kernel) ?_
    refine n_iincK (n := 3) (j := 1) (w := 1) (lo2 := [_, _, _, _, _, _, _, _]) (by decide +kernel) rfl rfl rfl ?_
    refine n_goto (off := -25) (tgt := 43) (by decide +kernel) (by decide) ?_
    cases hr
    exact hk
set_option maxRecDepth 100000 in
theorem W_X10_first_b43 (G : GG l s0 b L xs D cy ad) {x1 : Int32} {x2 : Int32}  (hp0 : P 76) {s : (Int32 × Mm)} {e : Mm} (h : whl fu (f_X10_first_b43 x1 x2) s = some e) (res : Rs) (M' : Mm) : Q_X10_first_b43 l s0 D cy ad P x1 x2 res M' e → P_X10_first_b43 l s0 D cy ad P x1 x2 res M' s := whl_run (P := fun s => P_X10_first_b43 l s0 D cy ad P x1 x2 res M' s) (Q := fun e => Q_X10_first_b43 l s0 D cy ad P x1 x2 res M' e) (B_X10_first_b43 G (res := res) (M' := M') (x1 := x1) (x2 := x2) hp0) fu s h
abbrev P_X10_first_b73 (l : Launch) (s0 : State) (D : va_G) (cy : Nat → ClassId) (ad : Nat → Nat) (P : Nat → Prop) (x1 : Int32) (x2 : Int32)  (res : Rs) (M' : Mm) (s : (Int32 × Mm)) : Prop := Rn l s0 D cy ad P 13 KX10_first 73 [.ref 76, .int x1, .int x2, .int (s.1), .null, .null, .null, .null] [] (s.2) res M'
abbrev Q_X10_first_b73 (l : Launch) (s0 : State) (D : va_G) (cy : Nat → ClassId) (ad : Nat → Nat) (P : Nat → Prop) (x1 : Int32) (x2 : Int32)  (res : Rs) (M' : Mm) (e : Mm) : Prop := Rn l s0 D cy ad P 13 KX10_first 185 [.ref 76, .int x1, .int x2, .null, .null, .null, .null, .null] [] (e) res M'
abbrev P_X10_first_b89 (l : Launch) (s0 : State) (D : va_G) (cy : Nat → ClassId) (ad : Nat → Nat) (P : Nat → Prop) (x1 : Int32) (x2 : Int32) (x3 : Int32) (x4 : Int32)  (res : Rs) (M' : Mm) (s : (Int32 × Mm)) : Prop := Rn l s0 D cy ad P 13 KX10_first 89 [.ref 76, .int x1, .int x2, .int x3, .int x4, .int (s.1), .null, .null] [] (s.2) res M'
abbrev Q_X10_first_b89 (l : Launch) (s0 : State) (D : va_G) (cy : Nat → ClassId) (ad : Nat → Nat) (P : Nat → Prop) (x1 : Int32) (x2 : Int32) (x3 : Int32) (x4 : Int32)  (res : Rs) (M' : Mm) (e : Mm) : Prop := Rn l s0 D cy ad P 13 KX10_first 179 [.ref 76, .int x1, .int x2, .int x3, .null, .null, .null, .null] [] (e) res M'
set_option maxRecDepth 100000 in
theorem B_X10_first_j146 (G : GG l s0 b L xs D cy ad) {x1 : Int32} {x2 : Int32} {x3 : Int32} {x4 : Int32} {x5 : Int32} {xs0 : Int32} {M : Mm}  {res : Rs} {M' : Mm} {r : ((Int32 × Mm) ⊕ Mm)} (hp0 : P 76) (hr : f_X10_first_j146 x1 x2 x3 x4 x5 xs0 M = some r) (hk : mtc (P_X10_first_b89 l s0 D cy ad P x1 x2 x3 x4 res M') (Q_X10_first_b89 l s0 D cy ad P x1 x2 x3 x4 res M') r) : Rn l s0 D cy ad P 13 KX10_first 146 [.ref 76, .int x1, .int x2, .int x3, .int x4, .int x5, .null, .null] [.int xs0] M res M' := by
  unfold f_X10_first_j146 at hr
  refine n_istore (n := 6) (lo2 := [_, _, _, _, _, _, _, _]) (by decide +kernel) (Nat.le_of_ble_eq_true rfl) rfl ?_
  refine n_aload_n (n := 0) (by decide +kernel) rfl ?_
  refine n_getF (q := 224) G fl_RX10_76 hp0 (by decide +kernel) (by decide +kernel) (by decide +kernel) (fun hp15q => ?_)
  refine n_iload_n (n := 3) (by decide +kernel) rfl ?_
  refine n_iconst (n := 1) (v := 1) (by decide +kernel) rfl ?_
  refine n_iadd (by decide +kernel) ?_
  obtain ⟨q16, h16, hr⟩ := bso hr
  refine n_aald G h16 hp15q (by decide +kernel) (by decide +kernel) (by decide +kernel) (fun hp16q => ?_)
  refine n_iload (n := 5) (by decide +kernel) rfl ?_
  refine n_aload_n (n := 0) (by decide +kernel) rfl ?_
  refine n_getF (q := 224) G fl_RX10_76 hp0 (by decide +kernel) (by decide +kernel) (by decide +kernel) (fun hp17q => ?_)
  refine n_iload_n (n := 3) (by decide +kernel) rfl ?_
  obtain ⟨q18, h18, hr⟩ := bso hr
  refine n_aald G h18 hp17q (by decide +kernel) (by decide +kernel) (by decide +kernel) (fun hp18q => ?_)
  refine n_iload (n := 5) (by decide +kernel) rfl ?_
  obtain ⟨v19, h19, hr⟩ := bso hr
  refine n_iald G h19 hp18q (row_224 h18).1 (row_224 h18).2 (by decide +kernel) ?_
  refine n_iload (n := 6) (by decide +kernel) rfl ?_
  obtain ⟨v20, h20, hr⟩ := bso hr
  refine n_callSi G [_, _] (x := v20) (B_X10_more G  h20) (by decide) mX10_more ml_RX10_251 rfl rfl (Nat.le_of_ble_eq_true rfl) (by decide +kernel) ?_
  obtain ⟨M21, h21, hr⟩ := bso hr
  refine n_iast G h21 hp16q (row_224 h16).1 (row_224 h16).2 (by decide +kernel) ?_
  refine n_iincK (n := 5) (j := 1) (w := 1) (lo2 := [_, _, _, _, _, _, _, _]) (by decide +kernel) rfl rfl rfl ?_
  refine n_goto (off := -87) (tgt := 89) (by decide +kernel) (by decide) ?_
  cases hr
  refine n_msk [true, true, true, true, true, true, false, false] (lo2 := [_, _, _, _, _, _, .null, .null]) rfl rfl ?_
  exact hk
set_option maxRecDepth 100000 in
theorem B_X10_first_j123 (G : GG l s0 b L xs D cy ad) {x1 : Int32} {x2 : Int32} {x3 : Int32} {x4 : Int32} {x5 : Int32} {M : Mm}  {res : Rs} {M' : Mm} {r : ((Int32 × Mm) ⊕ Mm)} (hp0 : P 76) (hr : f_X10_first_j123 x1 x2 x3 x4 x5 M = some r) (hk : mtc (P_X10_first_b89 l s0 D cy ad P x1 x2 x3 x4 res M') (Q_X10_first_b89 l s0 D cy ad P x1 x2 x3 x4 res M') r) : Rn l s0 D cy ad P 13 KX10_first 123 [.ref 76, .int x1, .int x2, .int x3, .int x4, .int x5, .null, .null] [] M res M' := by
  unfold f_X10_first_j123 at hr
  refine n_iconst (n := -1) (v := -1) (by decide +kernel) rfl ?_
  refine n_goto (off := 22) (tgt := 146) (by decide +kernel) (by decide) ?_
  exact B_X10_first_j146 G hp0 hr hk
set_option maxRecDepth 100000 in
theorem B_X10_first_b89 (G : GG l s0 b L xs D cy ad) {x1 : Int32} {x2 : Int32} {x3 : Int32} {x4 : Int32}  {res : Rs} {M' : Mm} (hp0 : P 76) : ∀ (s : (Int32 × Mm)) (r : (Int32 × Mm) ⊕ Mm), f_X10_first_b89 x1 x2 x3 x4 s = some r → mtc (P_X10_first_b89 l s0 D cy ad P x1 x2 x3 x4 res M') (Q_X10_first_b89 l s0 D cy ad P x1 x2 x3 x4 res M') r → P_X10_first_b89 l s0 D cy ad P x1 x2 x3 x4 res M' s := by
  intro s r hr hk
  obtain ⟨x5, M⟩ := s
  unfold f_X10_first_b89 at hr
  try dsimp only at hr
  dsimp only [P_X10_first_b89]
  refine n_iload (n := 5) (by decide +kernel) rfl ?_
  refine n_iload_n (n := 1) (by decide +kernel) rfl ?_
  refine n_icmp_gt (off := 87) (tgt := 179) (by decide +kernel) (by decide) (fun hc13 => ?_) (fun hc13 => ?_)
  · rw [if_pos hc13] at hr
    cases hr
    refine n_msk [true, true, true, true, false, false, false, false] (lo2 := [_, _, _, _, .null, .null, .null, .null]) rfl rfl ?_
    exact hk
  · rw [if_neg hc13] at hr
    refine n_iload (n := 4) (by decide +kernel) rfl ?_
    refine n_if_eq (off := 26) (tgt := 123) (by decide +kernel) (by decide) (fun hc14 => ?_) (fun hc14 => ?_)
    · rw [if_pos hc14] at hr
      exact B_X10_first_j123 G hp0 hr hk
    · rw [if_neg hc14] at hr
      refine n_iload (n := 5) (by decide +kernel) rfl ?_
      refine n_iload (n := 4) (by decide +kernel) rfl ?_
      refine n_icmp_lt (off := 19) (tgt := 123) (by decide +kernel) (by decide) (fun hc22 => ?_) (fun hc22 => ?_)
      · rw [if_pos hc22] at hr
        exact B_X10_first_j123 G hp0 hr hk
      · rw [if_neg hc22] at hr
        refine n_aload_n (n := 0) (by decide +kernel) rfl ?_
        refine n_getF (q := 224) G fl_RX10_76 hp0 (by decide +kernel) (by decide +kernel) (by decide +kernel) (fun hp23q => ?_)
        refine n_iload_n (n := 3) (by decide +kernel) rfl ?_
        obtain ⟨q24, h24, hr⟩ := bso hr
        refine n_aald G h24 hp23q (by decide +kernel) (by decide +kernel) (by decide +kernel) (fun hp24q => ?_)
        refine n_iload (n := 5) (by decide +kernel) rfl ?_
        refine n_iload (n := 4) (by decide +kernel) rfl ?_
        refine n_isub (by decide +kernel) ?_
        obtain ⟨v25, h25, hr⟩ := bso hr
        refine n_iald G h25 hp24q (row_224 h24).1 (row_224 h24).2 (by decide +kernel) ?_
        refine n_iconst (n := -1) (v := -1) (by decide +kernel) rfl ?_
        refine n_icmp_ne (off := 7) (tgt := 127) (by decide +kernel) (by decide) (fun hc26 => ?_) (fun hc26 => ?_)
        · rw [if_neg hc26] at hr
          refine n_aload_n (n := 0) (by decide +kernel) rfl ?_
          refine n_getF (q := 224) G fl_RX10_76 hp0 (by decide +kernel) (by decide +kernel) (by decide +kernel) (fun hp27q => ?_)
          refine n_iload_n (n := 3) (by decide +kernel) rfl ?_
          obtain ⟨q28, h28, hr⟩ := bso hr
          refine n_aald G h28 hp27q (by decide +kernel) (by decide +kernel) (by decide +kernel) (fun hp28q => ?_)
          refine n_iload (n := 5) (by decide +kernel) rfl ?_
          refine n_iload (n := 4) (by decide +kernel) rfl ?_
          refine n_isub (by decide +kernel) ?_
          obtain ⟨v29, h29, hr⟩ := bso hr
          refine n_iald G h29 hp28q (row_224 h28).1 (row_224 h28).2 (by decide +kernel) ?_
          refine n_aload_n (n := 0) (by decide +kernel) rfl ?_
          refine n_getF (q := 82) G fl_RX10_29 hp0 (by decide +kernel) (by decide +kernel) (by decide +kernel) (fun hp30q => ?_)
          refine n_iload_n (n := 3) (by decide +kernel) rfl ?_
          obtain ⟨v31, h31, hr⟩ := bso hr
          refine n_iald G h31 hp30q (by decide +kernel) (by decide +kernel) (by decide +kernel) ?_
          refine n_iadd (by decide +kernel) ?_
          exact B_X10_first_j146 G hp0 hr hk
        · rw [if_pos hc26] at hr
          exact B_X10_first_j123 G hp0 hr hk
set_option maxRecDepth 100000 in
theorem W_X10_first_b89 (G : GG l s0 b L xs D cy ad) {x1 : Int32} {x2 : Int32} {x3 : Int32} {x4 : Int32}  (hp0 : P 76) {s : (Int32 × Mm)} {e : Mm} (h : whl fu (f_X10_first_b89 x1 x2 x3 x4) s = some e) (res : Rs) (M' : Mm) : Q_X10_first_b89 l s0 D cy ad P x1 x2 x3 x4 res M' e → P_X10_first_b89 l s0 D cy ad P x1 x2 x3 x4 res M' s := whl_run (P := fun s => P_X10_first_b89 l s0 D cy ad P x1 x2 x3 x4 res M' s) (Q := fun e => Q_X10_first_b89 l s0 D cy ad P x1 x2 x3 x4 res M' e) (B_X10_first_b89 G (res := res) (M' := M') (x1 := x1) (x2 := x2) (x3 := x3) (x4 := x4) hp0) fu s h
set_option maxRecDepth 100000 in
theorem B_X10_first_b73 (G : GG l s0 b L xs D cy ad) {x1 : Int32} {x2 : Int32}  {res : Rs} {M' : Mm} (hp0 : P 76) : ∀ (s : (Int32 × Mm)) (r : (Int32 × Mm) ⊕ Mm), f_X10_first_b73 x1 x2 s = some r → mtc (P_X10_first_b73 l s0 D cy ad P x1 x2 res M') (Q_X10_first_b73 l s0 D cy ad P x1 x2 res M') r → P_X10_first_b73 l s0 D cy ad P x1 x2 res M' s := by
  intro s r hr hk
  obtain ⟨x3, M⟩ := s
  unfold f_X10_first_b73 at hr
  try dsimp only at hr
  dsimp only [P_X10_first_b73]
  refine n_iload_n (n := 3) (by decide +kernel) rfl ?_
  refine n_bipush (n := 48) (v := 48) (by decide +kernel) rfl ?_
  refine n_icmp_ge (off := 109) (tgt := 185) (by decide +kernel) (by decide) (fun hc11 => ?_) (fun hc11 => ?_)
  · rw [if_pos hc11] at hr
    cases hr
    refine n_msk [true, true, true, false, false, false, false, false] (lo2 := [_, _, _, .null, .null, .null, .null, .null]) rfl rfl ?_
    exact hk
  · rw [if_neg hc11] at hr
    refine n_aload_n (n := 0) (by decide +kernel) rfl ?_
    refine n_iload_n (n := 3) (by decide +kernel) rfl ?_
    obtain ⟨v12, h12, hr⟩ := bso hr
    refine n_callVi G [_] (x := v12) (B_X10_clearsIn G hp0 h12) (by decide) mX10_clearsIn ml_RX10_362 hp0 (by decide +kernel) rfl rfl (Nat.le_of_ble_eq_true rfl) (by decide +kernel) ?_
    refine n_istore (n := 4) (lo2 := [_, _, _, _, _, _, _, _]) (by decide +kernel) (Nat.le_of_ble_eq_true rfl) rfl ?_
    refine n_iconst (n := 0) (v := 0) (by decide +kernel) rfl ?_
    refine n_istore (n := 5) (lo2 := [_, _, _, _, _, _, _, _]) (by decide +kernel) (Nat.le_of_ble_eq_true rfl) rfl ?_
    obtain ⟨M32, h32, hr⟩ := bso hr
    refine (W_X10_first_b89 G hp0 h32 _ _) ?_
    dsimp only [Q_X10_first_b89]
    refine n_iincK (n := 3) (j := 1) (w := 1) (lo2 := [_, _, _, _, _, _, _, _]) (by decide +kernel) rfl rfl rfl ?_
    refine n_goto (off := -109) (tgt := 73) (by decide +kernel) (by decide) ?_
    cases hr
    exact hk
set_option maxRecDepth 100000 in
theorem W_X10_first_b73 (G : GG l s0 b L xs D cy ad) {x1 : Int32} {x2 : Int32}  (hp0 : P 76) {s : (Int32 × Mm)} {e : Mm} (h : whl fu (f_X10_first_b73 x1 x2) s = some e) (res : Rs) (M' : Mm) : Q_X10_first_b73 l s0 D cy ad P x1 x2 res M' e → P_X10_first_b73 l s0 D cy ad P x1 x2 res M' s := whl_run (P := fun s => P_X10_first_b73 l s0 D cy ad P x1 x2 res M' s) (Q := fun e => Q_X10_first_b73 l s0 D cy ad P x1 x2 res M' e) (B_X10_first_b73 G (res := res) (M' := M') (x1 := x1) (x2 := x2) hp0) fu s h
abbrev P_X10_first_b190 (l : Launch) (s0 : State) (D : va_G) (cy : Nat → ClassId) (ad : Nat → Nat) (P : Nat → Prop) (x1 : Int32) (x2 : Int32) (M : Mm) (res : Rs) (M' : Mm) (s : (Int32 × Int32)) : Prop := Rn l s0 D cy ad P 13 KX10_first 190 [.ref 76, .int x1, .int x2, .int (s.1), .int (s.2), .null, .null, .null] [] M res M'
abbrev Q_X10_first_b190 (l : Launch) (s0 : State) (D : va_G) (cy : Nat → ClassId) (ad : Nat → Nat) (P : Nat → Prop) (x1 : Int32) (x2 : Int32) (M : Mm) (res : Rs) (M' : Mm) (e : Int32) : Prop := Rn l s0 D cy ad P 13 KX10_first 231 [.ref 76, .null, .int x2, .int (e), .null, .null, .null, .null] [] M res M'
set_option maxRecDepth 100000 in
theorem B_X10_first_b190 (G : GG l s0 b L xs D cy ad) {x1 : Int32} {x2 : Int32} {M : Mm} {res : Rs} {M' : Mm} (hp0 : P 76) : ∀ (s : (Int32 × Int32)) (r : (Int32 × Int32) ⊕ Int32), f_X10_first_b190 x1 x2 M s = some r → mtc (P_X10_first_b190 l s0 D cy ad P x1 x2 M res M') (Q_X10_first_b190 l s0 D cy ad P x1 x2 M res M') r → P_X10_first_b190 l s0 D cy ad P x1 x2 M res M' s := by
  intro s r hr hk
  obtain ⟨x3, x4⟩ := s
  unfold f_X10_first_b190 at hr
  try dsimp only at hr
  dsimp only [P_X10_first_b190]
  refine n_iload (n := 4) (by decide +kernel) rfl ?_
  refine n_iload_n (n := 1) (by decide +kernel) rfl ?_
  refine n_icmp_gt (off := 38) (tgt := 231) (by decide +kernel) (by decide) (fun hc34 => ?_) (fun hc34 => ?_)
  · rw [if_pos hc34] at hr
    cases hr
    refine n_msk [true, false, true, true, false, false, false, false] (lo2 := [_, .null, _, _, .null, .null, .null, .null]) rfl rfl ?_
    exact hk
  · rw [if_neg hc34] at hr
    refine n_aload_n (n := 0) (by decide +kernel) rfl ?_
    refine n_getF (q := 224) G fl_RX10_76 hp0 (by decide +kernel) (by decide +kernel) (by decide +kernel) (fun hp35q => ?_)
    refine n_bipush (n := 48) (v := 48) (by decide +kernel) rfl ?_
    obtain ⟨q36, h36, hr⟩ := bso hr
    refine n_aald G h36 hp35q (by decide +kernel) (by decide +kernel) (by decide +kernel) (fun hp36q => ?_)
    refine n_iload (n := 4) (by decide +kernel) rfl ?_
    obtain ⟨v37, h37, hr⟩ := bso hr
    refine n_iald G h37 hp36q (row_224 h36).1 (row_224 h36).2 (by decide +kernel) ?_
    refine n_aload_n (n := 0) (by decide +kernel) rfl ?_
    refine n_getF (q := 224) G fl_RX10_76 hp0 (by decide +kernel) (by decide +kernel) (by decide +kernel) (fun hp38q => ?_)
    refine n_bipush (n := 48) (v := 48) (by decide +kernel) rfl ?_
    obtain ⟨q39, h39, hr⟩ := bso hr
    refine n_aald G h39 hp38q (by decide +kernel) (by decide +kernel) (by decide +kernel) (fun hp39q => ?_)
    refine n_iload_n (n := 3) (by decide +kernel) rfl ?_
    obtain ⟨v40, h40, hr⟩ := bso hr
    refine n_iald G h40 hp39q (row_224 h39).1 (row_224 h39).2 (by decide +kernel) ?_
    refine n_dia2 (J := 224) (c := v37 ≤ v40) (a := x3) (b := x4) (fun hJ => ?_) ?_
    · refine n_icmp_le (off := 8) (tgt := 223) (by decide +kernel) (by decide) (fun hc41 => ?_) (fun hc41 => ?_)
      · refine n_iload_n (n := 3) (by decide +kernel) rfl ?_
        exact hJ _ (if_pos hc41).symm
      · refine n_iload (n := 4) (by decide +kernel) rfl ?_
        refine n_goto (off := 4) (tgt := 224) (by decide +kernel) (by decide) ?_
        exact hJ _ (if_neg hc41).symm
    refine n_istore_n (n := 3) (lo2 := [_, _, _, _, _, _, _, _]) (by decide +kernel) (Nat.le_of_ble_eq_true rfl) rfl ?_
    refine n_iincK (n := 4) (j := 1) (w := 1) (lo2 := [_, _, _, _, _, _, _, _]) (by decide +kernel) rfl rfl rfl ?_
    refine n_goto (off := -38) (tgt := 190) (by decide +kernel) (by decide) ?_
    cases hr
    exact hk
set_option maxRecDepth 100000 in
theorem W_X10_first_b190 (G : GG l s0 b L xs D cy ad) {x1 : Int32} {x2 : Int32} {M : Mm} (hp0 : P 76) {s : (Int32 × Int32)} {e : Int32} (h : whl fu (f_X10_first_b190 x1 x2 M) s = some e) (res : Rs) (M' : Mm) : Q_X10_first_b190 l s0 D cy ad P x1 x2 M res M' e → P_X10_first_b190 l s0 D cy ad P x1 x2 M res M' s := whl_run (P := fun s => P_X10_first_b190 l s0 D cy ad P x1 x2 M res M' s) (Q := fun e => Q_X10_first_b190 l s0 D cy ad P x1 x2 M res M' e) (B_X10_first_b190 G (res := res) (M' := M') (x1 := x1) (x2 := x2) (M := M) hp0) fu s h
abbrev P_X10_first_b266 (l : Launch) (s0 : State) (D : va_G) (cy : Nat → ClassId) (ad : Nat → Nat) (P : Nat → Prop)  (M : Mm) (res : Rs) (M' : Mm) (s : (Int64 × Int32 × Int32)) : Prop := Rn l s0 D cy ad P 13 KX10_first 266 [.ref 76, .null, .null, .null, .long (s.1), .null, .int (s.2.1), .int (s.2.2)] [] M res M'
abbrev Q_X10_first_b266 (l : Launch) (s0 : State) (D : va_G) (cy : Nat → ClassId) (ad : Nat → Nat) (P : Nat → Prop)  (M : Mm) (res : Rs) (M' : Mm) (e : Int64) : Prop := Rn l s0 D cy ad P 13 KX10_first 325 [.null, .null, .null, .null, .long (e), .null, .null, .null] [] M res M'
set_option maxRecDepth 100000 in
theorem B_X10_first_b266 (G : GG l s0 b L xs D cy ad)  {M : Mm} {res : Rs} {M' : Mm} (hp0 : P 76) : ∀ (s : (Int64 × Int32 × Int32)) (r : (Int64 × Int32 × Int32) ⊕ Int64), f_X10_first_b266  M s = some r → mtc (P_X10_first_b266 l s0 D cy ad P  M res M') (Q_X10_first_b266 l s0 D cy ad P  M res M') r → P_X10_first_b266 l s0 D cy ad P  M res M' s := by
  intro s r hr hk
  obtain ⟨y4, x6, x7⟩ := s
  unfold f_X10_first_b266 at hr
  try dsimp only at hr
  dsimp only [P_X10_first_b266]
  refine n_iload (n := 7) (by decide +kernel) rfl ?_
  refine n_if_lt (off := 57) (tgt := 325) (by decide +kernel) (by decide) (fun hc44 => ?_) (fun hc44 => ?_)
  · rw [if_pos hc44] at hr
    cases hr
    refine n_msk [false, false, false, false, true, false, false, false] (lo2 := [.null, .null, .null, .null, _, .null, .null, .null]) rfl rfl ?_
    exact hk
  · rw [if_neg hc44] at hr
    refine n_aload_n (n := 0) (by decide +kernel) rfl ?_
    refine n_getF (q := 224) G fl_RX10_76 hp0 (by decide +kernel) (by decide +kernel) (by decide +kernel) (fun hp45q => ?_)
    refine n_iload (n := 7) (by decide +kernel) rfl ?_
    obtain ⟨q46, h46, hr⟩ := bso hr
    refine n_aald G h46 hp45q (by decide +kernel) (by decide +kernel) (by decide +kernel) (fun hp46q => ?_)
    refine n_iload (n := 6) (by decide +kernel) rfl ?_
    obtain ⟨v47, h47, hr⟩ := bso hr
    refine n_iald G h47 hp46q (row_224 h46).1 (row_224 h46).2 (by decide +kernel) ?_
    refine n_aload_n (n := 0) (by decide +kernel) rfl ?_
    refine n_getF (q := 224) G fl_RX10_76 hp0 (by decide +kernel) (by decide +kernel) (by decide +kernel) (fun hp48q => ?_)
    refine n_iload (n := 7) (by decide +kernel) rfl ?_
    refine n_iconst (n := 1) (v := 1) (by decide +kernel) rfl ?_
    refine n_iadd (by decide +kernel) ?_
    obtain ⟨q49, h49, hr⟩ := bso hr
    refine n_aald G h49 hp48q (by decide +kernel) (by decide +kernel) (by decide +kernel) (fun hp49q => ?_)
    refine n_iload (n := 6) (by decide +kernel) rfl ?_
    obtain ⟨v50, h50, hr⟩ := bso hr
    refine n_iald G h50 hp49q (row_224 h49).1 (row_224 h49).2 (by decide +kernel) ?_
    refine n_icmp_ne (off := 6) (tgt := 299) (by decide +kernel) (by decide) (fun hc51 => ?_) (fun hc51 => ?_)
    · rw [if_neg hc51] at hr
      refine n_lload (n := 4) (by decide +kernel) rfl ?_
      refine n_lconst (n := 1) (v := 1) (by decide +kernel) rfl ?_
      refine n_iload (n := 7) (by decide +kernel) rfl ?_
      refine n_lshl (by decide +kernel) ?_
      refine n_lor (by decide +kernel) ?_
      refine n_lstore (n := 4) (lo2 := [_, _, _, _, _, _, _, _]) (by decide +kernel) (Nat.le_of_ble_eq_true rfl) rfl ?_
      refine n_iload (n := 6) (by decide +kernel) rfl ?_
      refine n_aload_n (n := 0) (by decide +kernel) rfl ?_
      refine n_iload (n := 7) (by decide +kernel) rfl ?_
      obtain ⟨v52, h52, hr⟩ := bso hr
      refine n_callVi G [_] (x := v52) (B_X10_clearsIn G hp0 h52) (by decide) mX10_clearsIn ml_RX10_362 hp0 (by decide +kernel) rfl rfl (Nat.le_of_ble_eq_true rfl) (by decide +kernel) ?_
      refine n_isub (by decide +kernel) ?_
      refine n_istore (n := 6) (lo2 := [_, _, _, _, _, _, _, _]) (by decide +kernel) (Nat.le_of_ble_eq_true rfl) rfl ?_
      refine n_iincK (n := 7) (j := -1) (w := -1) (lo2 := [_, _, _, _, _, _, _, _]) (by decide +kernel) rfl rfl rfl ?_
      refine n_goto (off := -56) (tgt := 266) (by decide +kernel) (by decide) ?_
      cases hr
      exact hk
    · rw [if_pos hc51] at hr
      refine n_goto (off := 23) (tgt := 319) (by decide +kernel) (by decide) ?_
      refine n_iincK (n := 7) (j := -1) (w := -1) (lo2 := [_, _, _, _, _, _, _, _]) (by decide +kernel) rfl rfl rfl ?_
      refine n_goto (off := -56) (tgt := 266) (by decide +kernel) (by decide) ?_
      cases hr
      exact hk
set_option maxRecDepth 100000 in
theorem W_X10_first_b266 (G : GG l s0 b L xs D cy ad)  {M : Mm} (hp0 : P 76) {s : (Int64 × Int32 × Int32)} {e : Int64} (h : whl fu (f_X10_first_b266  M) s = some e) (res : Rs) (M' : Mm) : Q_X10_first_b266 l s0 D cy ad P  M res M' e → P_X10_first_b266 l s0 D cy ad P  M res M' s := whl_run (P := fun s => P_X10_first_b266 l s0 D cy ad P  M res M' s) (Q := fun e => Q_X10_first_b266 l s0 D cy ad P  M res M' e) (B_X10_first_b266 G (res := res) (M' := M') (M := M) hp0) fu s h
set_option maxRecDepth 100000 in
theorem B_X10_first_j31 (G : GG l s0 b L xs D cy ad) {x1 : Int32} {x2 : Int32} {xs1 : Int32} {M : Mm} {r : (Int64 × Mm)} (hp0 : P 76) (hp90 : P 76) (hr : f_X10_first_j31 x1 x2 xs1 M = some r) : Rn l s0 D cy ad P 13 KX10_first 31 [.ref 76, .int x1, .int x2, .null, .null, .null, .null, .null] [.int xs1, .ref 76] M (.inl (some (.long r.1))) (r.2) := by
  unfold f_X10_first_j31 at hr
  refine n_iconst (n := 1) (v := 1) (by decide +kernel) rfl ?_
  refine n_iconst (n := 2) (v := 2) (by decide +kernel) rfl ?_
  obtain ⟨⟨v3, M3⟩, h3, hr⟩ := bso hr
  try dsimp only at hr
  refine n_callVi G [_, _, _] (x := v3) (M1 := M3) (B_X10_bad G hp90 h3) (by decide) mX10_bad ml_RX10_161 hp90 (by decide +kernel) rfl rfl (Nat.le_of_ble_eq_true rfl) (by decide +kernel) ?_
  refine n_if_eq (off := 5) (tgt := 41) (by decide +kernel) (by decide) (fun hc4 => ?_) (fun hc4 => ?_)
  · rw [if_pos hc4] at hr
    refine n_iconst (n := 0) (v := 0) (by decide +kernel) rfl ?_
    refine n_istore_n (n := 3) (lo2 := [_, _, _, _, _, _, _, _]) (by decide +kernel) (Nat.le_of_ble_eq_true rfl) rfl ?_
    obtain ⟨M10, h10, hr⟩ := bso hr
    refine (W_X10_first_b43 G hp0 h10 _ _) ?_
    dsimp only [Q_X10_first_b43]
    refine n_iconst (n := 0) (v := 0) (by decide +kernel) rfl ?_
    refine n_istore_n (n := 3) (lo2 := [_, _, _, _, _, _, _, _]) (by decide +kernel) (Nat.le_of_ble_eq_true rfl) rfl ?_
    obtain ⟨M33, h33, hr⟩ := bso hr
    refine (W_X10_first_b73 G hp0 h33 _ _) ?_
    dsimp only [Q_X10_first_b73]
    refine n_iconst (n := 0) (v := 0) (by decide +kernel) rfl ?_
    refine n_istore_n (n := 3) (lo2 := [_, _, _, _, _, _, _, _]) (by decide +kernel) (Nat.le_of_ble_eq_true rfl) rfl ?_
    refine n_iconst (n := 1) (v := 1) (by decide +kernel) rfl ?_
    refine n_istore (n := 4) (lo2 := [_, _, _, _, _, _, _, _]) (by decide +kernel) (Nat.le_of_ble_eq_true rfl) rfl ?_
    obtain ⟨z3_42, h42, hr⟩ := bso hr
    refine (W_X10_first_b190 G hp0 h42 _ _) ?_
    dsimp only [Q_X10_first_b190]
    refine n_iload_n (n := 2) (by decide +kernel) rfl ?_
    refine n_iconst (n := 2) (v := 2) (by decide +kernel) rfl ?_
    refine n_icmp_ge (off := 23) (tgt := 256) (by decide +kernel) (by decide) (fun hc43 => ?_) (fun hc43 => ?_)
    · rw [if_pos hc43] at hr
      refine n_lconst (n := 0) (v := 0) (by decide +kernel) rfl ?_
      refine n_lstore (n := 4) (lo2 := [_, _, _, _, _, _, _, _]) (by decide +kernel) (Nat.le_of_ble_eq_true rfl) rfl ?_
      refine n_iload_n (n := 3) (by decide +kernel) rfl ?_
      refine n_istore (n := 6) (lo2 := [_, _, _, _, _, _, _, _]) (by decide +kernel) (Nat.le_of_ble_eq_true rfl) rfl ?_
      refine n_bipush (n := 47) (v := 47) (by decide +kernel) rfl ?_
      refine n_istore (n := 7) (lo2 := [_, _, _, _, _, _, _, _]) (by decide +kernel) (Nat.le_of_ble_eq_true rfl) rfl ?_
      obtain ⟨w4_53, h53, hr⟩ := bso hr
      refine n_msk [true, false, false, false, true, false, true, true] (lo2 := [_, .null, .null, .null, _, .null, _, _]) rfl rfl ?_
      refine (W_X10_first_b266 G hp0 h53 _ _) ?_
      dsimp only [Q_X10_first_b266]
      refine n_lload (n := 4) (by decide +kernel) rfl ?_
      cases hr
      exact n_lreturn (by decide +kernel)
    · rw [if_neg hc43] at hr
      refine n_iload_n (n := 2) (by decide +kernel) rfl ?_
      refine n_if_ne (off := 16) (tgt := 253) (by decide +kernel) (by decide) (fun hc54 => ?_) (fun hc54 => ?_)
      · rw [if_neg hc54] at hr
        refine n_iload_n (n := 3) (by decide +kernel) rfl ?_
        refine n_i2l (by decide +kernel) ?_
        cases hr
        exact n_lreturn (by decide +kernel)
      · rw [if_pos hc54] at hr
        refine n_aload_n (n := 0) (by decide +kernel) rfl ?_
        refine n_getF (q := 224) G fl_RX10_76 hp0 (by decide +kernel) (by decide +kernel) (by decide +kernel) (fun hp55q => ?_)
        refine n_bipush (n := 48) (v := 48) (by decide +kernel) rfl ?_
        obtain ⟨q56, h56, hr⟩ := bso hr
        refine n_aald G h56 hp55q (by decide +kernel) (by decide +kernel) (by decide +kernel) (fun hp56q => ?_)
        refine n_iload_n (n := 3) (by decide +kernel) rfl ?_
        obtain ⟨v57, h57, hr⟩ := bso hr
        refine n_iald G h57 hp56q (row_224 h56).1 (row_224 h56).2 (by decide +kernel) ?_
        refine n_i2l (by decide +kernel) ?_
        refine n_goto (off := 5) (tgt := 255) (by decide +kernel) (by decide) ?_
        cases hr
        exact n_lreturn (by decide +kernel)
  · rw [if_neg hc4] at hr
    refine n_lconst (n := 0) (v := 0) (by decide +kernel) rfl ?_
    cases hr
    exact n_lreturn (by decide +kernel)
set_option maxRecDepth 100000 in
theorem B_X10_first_j26 (G : GG l s0 b L xs D cy ad) {x1 : Int32} {x2 : Int32} {M : Mm} {r : (Int64 × Mm)} (hp0 : P 76) (hp90 : P 76) (hr : f_X10_first_j26 x1 x2 M = some r) : Rn l s0 D cy ad P 13 KX10_first 26 [.ref 76, .int x1, .int x2, .null, .null, .null, .null, .null] [.ref 76] M (.inl (some (.long r.1))) (r.2) := by
  unfold f_X10_first_j26 at hr
  refine n_iconst (n := 1) (v := 1) (by decide +kernel) rfl ?_
  refine n_goto (off := 4) (tgt := 31) (by decide +kernel) (by decide) ?_
  exact B_X10_first_j31 G hp0 hp90 hr
set_option maxRecDepth 100000 in
theorem B_X10_first (G : GG l s0 b L xs D cy ad)  {x1 : Int32} {x2 : Int32} {M : Mm} {r : (Int64 × Mm)} (hp0 : P 76) (hr : f_X10_first x1 x2 M = some r) : Cl l s0 D cy ad P 13 KX10_first [.ref 76, .int x1, .int x2] M (.inl (some (.long r.1))) (r.2) := by
  refine cl_ofN (by decide +kernel) rfl rfl rfl (lo0 := [_, _, _, .null, .null, .null, .null, .null]) rfl ?_
  unfold f_X10_first at hr
  refine n_aload_n (n := 0) (by decide +kernel) rfl ?_
  refine n_iconst (n := 0) (v := 0) (by decide +kernel) rfl ?_
  refine n_putI G fl_RX10_88 hp0 (by decide +kernel) (by decide +kernel) ?_
  refine n_aload_n (n := 0) (by decide +kernel) rfl ?_
  refine n_iload_n (n := 1) (by decide +kernel) rfl ?_
  refine n_iconst (n := 0) (v := 0) (by decide +kernel) rfl ?_
  refine n_sipush (n := 999) (v := 999) (by decide +kernel) (by decide +kernel) ?_
  obtain ⟨v1, h1, hr⟩ := bso hr
  refine n_callSi G [_, _, _] (x := v1) (B_X10_in G  h1) (by decide) mX10_in ml_RX10_122 rfl rfl (Nat.le_of_ble_eq_true rfl) (by decide +kernel) ?_
  refine n_if_eq (off := 12) (tgt := 26) (by decide +kernel) (by decide) (fun hc2 => ?_) (fun hc2 => ?_)
  · rw [if_pos hc2] at hr
    exact B_X10_first_j26 G hp0 hp0 hr
  · rw [if_neg hc2] at hr
    refine n_iload_n (n := 2) (by decide +kernel) rfl ?_
    refine n_iconst (n := 0) (v := 0) (by decide +kernel) rfl ?_
    refine n_iconst (n := 2) (v := 2) (by decide +kernel) rfl ?_
    obtain ⟨v58, h58, hr⟩ := bso hr
    refine n_callSi G [_, _, _] (x := v58) (B_X10_in G  h58) (by decide) mX10_in ml_RX10_122 rfl rfl (Nat.le_of_ble_eq_true rfl) (by decide +kernel) ?_
    refine n_if_ne (off := 7) (tgt := 30) (by decide +kernel) (by decide) (fun hc59 => ?_) (fun hc59 => ?_)
    · rw [if_neg hc59] at hr
      refine n_iconst (n := 0) (v := 0) (by decide +kernel) rfl ?_
      exact B_X10_first_j31 G hp0 hp0 hr
    · rw [if_pos hc59] at hr
      exact B_X10_first_j26 G hp0 hp0 hr
abbrev P_X10_clearsAll_b4 (l : Launch) (s0 : State) (D : va_G) (cy : Nat → ClassId) (ad : Nat → Nat) (P : Nat → Prop)  (M : Mm) (res : Rs) (M' : Mm) (s : (Int32 × Int32)) : Prop := Rn l s0 D cy ad P 12 KX10_clearsAll 4 [.ref 76, .int (s.1), .int (s.2)] [] M res M'
abbrev Q_X10_clearsAll_b4 (l : Launch) (s0 : State) (D : va_G) (cy : Nat → ClassId) (ad : Nat → Nat) (P : Nat → Prop)  (M : Mm) (res : Rs) (M' : Mm) (e : Int32) : Prop := Rn l s0 D cy ad P 12 KX10_clearsAll 49 [.null, .int (e), .null] [] M res M'
set_option maxRecDepth 100000 in
theorem B_X10_clearsAll_b4 (G : GG l s0 b L xs D cy ad)  {M : Mm} {res : Rs} {M' : Mm} (hp0 : P 76) : ∀ (s : (Int32 × Int32)) (r : (Int32 × Int32) ⊕ Int32), f_X10_clearsAll_b4  M s = some r → mtc (P_X10_clearsAll_b4 l s0 D cy ad P  M res M') (Q_X10_clearsAll_b4 l s0 D cy ad P  M res M') r → P_X10_clearsAll_b4 l s0 D cy ad P  M res M' s := by
  intro s r hr hk
  obtain ⟨x1, x2⟩ := s
  unfold f_X10_clearsAll_b4 at hr
  try dsimp only at hr
  dsimp only [P_X10_clearsAll_b4]
  refine n_iload_n (n := 2) (by decide +kernel) rfl ?_
  refine n_aload_n (n := 0) (by decide +kernel) rfl ?_
  refine n_getF (q := 196) G fl_RX10_61 hp0 (by decide +kernel) (by decide +kernel) (by decide +kernel) (fun hp1q => ?_)
  refine n_sipush (n := 360) (v := 360) (by decide +kernel) (by decide +kernel) ?_
  obtain ⟨v2, h2, hr⟩ := bso hr
  refine n_iald G h2 hp1q (by decide +kernel) (by decide +kernel) (by decide +kernel) ?_
  refine n_icmp_ge (off := 36) (tgt := 49) (by decide +kernel) (by decide) (fun hc3 => ?_) (fun hc3 => ?_)
  · rw [if_pos hc3] at hr
    cases hr
    refine n_msk [false, true, false] (lo2 := [.null, _, .null]) rfl rfl ?_
    exact hk
  · rw [if_neg hc3] at hr
    refine n_iload_n (n := 1) (by decide +kernel) rfl ?_
    refine n_aload_n (n := 0) (by decide +kernel) rfl ?_
    refine n_getF (q := 196) G fl_RX10_61 hp0 (by decide +kernel) (by decide +kernel) (by decide +kernel) (fun hp4q => ?_)
    refine n_iload_n (n := 2) (by decide +kernel) rfl ?_
    obtain ⟨v5, h5, hr⟩ := bso hr
    refine n_callSi G [_, _] (x := v5) (B_X10_isThere G hp4q (by decide +kernel) h5) (by decide) mX10_isThere ml_RX10_337 rfl rfl (Nat.le_of_ble_eq_true rfl) (by decide +kernel) ?_
    refine n_if_eq (off := 15) (tgt := 40) (by decide +kernel) (by decide) (fun hc6 => ?_) (fun hc6 => ?_)
    · rw [if_pos hc6] at hr
      refine n_iconst (n := 0) (v := 0) (by decide +kernel) rfl ?_
      refine n_iadd (by decide +kernel) ?_
      refine n_istore_n (n := 1) (lo2 := [_, _, _]) (by decide +kernel) (Nat.le_of_ble_eq_true rfl) rfl ?_
      refine n_iincK (n := 2) (j := 1) (w := 1) (lo2 := [_, _, _]) (by decide +kernel) rfl rfl rfl ?_
      refine n_goto (off := -42) (tgt := 4) (by decide +kernel) (by decide) ?_
      cases hr
      exact hk
    · rw [if_neg hc6] at hr
      refine n_aload_n (n := 0) (by decide +kernel) rfl ?_
      refine n_aload_n (n := 0) (by decide +kernel) rfl ?_
      refine n_getF (q := 196) G fl_RX10_61 hp0 (by decide +kernel) (by decide +kernel) (by decide +kernel) (fun hp7q => ?_)
      refine n_iload_n (n := 2) (by decide +kernel) rfl ?_
      obtain ⟨v8, h8, hr⟩ := bso hr
      refine n_callVi G [_, _] (x := v8) (B_X10_clearOf G hp0 hp7q (by decide +kernel) h8) (by decide) mX10_clearOf ml_RX10_331 hp0 (by decide +kernel) rfl rfl (Nat.le_of_ble_eq_true rfl) (by decide +kernel) ?_
      refine n_goto (off := 4) (tgt := 41) (by decide +kernel) (by decide) ?_
      refine n_iadd (by decide +kernel) ?_
      refine n_istore_n (n := 1) (lo2 := [_, _, _]) (by decide +kernel) (Nat.le_of_ble_eq_true rfl) rfl ?_
      refine n_iincK (n := 2) (j := 1) (w := 1) (lo2 := [_, _, _]) (by decide +kernel) rfl rfl rfl ?_
      refine n_goto (off := -42) (tgt := 4) (by decide +kernel) (by decide) ?_
      cases hr
      exact hk
set_option maxRecDepth 100000 in
theorem W_X10_clearsAll_b4 (G : GG l s0 b L xs D cy ad)  {M : Mm} (hp0 : P 76) {s : (Int32 × Int32)} {e : Int32} (h : whl fu (f_X10_clearsAll_b4  M) s = some e) (res : Rs) (M' : Mm) : Q_X10_clearsAll_b4 l s0 D cy ad P  M res M' e → P_X10_clearsAll_b4 l s0 D cy ad P  M res M' s := whl_run (P := fun s => P_X10_clearsAll_b4 l s0 D cy ad P  M res M' s) (Q := fun e => Q_X10_clearsAll_b4 l s0 D cy ad P  M res M' e) (B_X10_clearsAll_b4 G (res := res) (M' := M') (M := M) hp0) fu s h
set_option maxRecDepth 100000 in
theorem B_X10_clearsAll (G : GG l s0 b L xs D cy ad)   {M : Mm} {r : Int32} (hp0 : P 76) (hr : f_X10_clearsAll  M = some r) : Cl l s0 D cy ad P 12 KX10_clearsAll [.ref 76] M (.inl (some (.int r))) (M) := by
  refine cl_ofN (by decide +kernel) rfl rfl okI (lo0 := [_, .null, .null]) rfl ?_
  unfold f_X10_clearsAll at hr
  refine n_iconst (n := 0) (v := 0) (by decide +kernel) rfl ?_
  refine n_istore_n (n := 1) (lo2 := [_, _, _]) (by decide +kernel) (Nat.le_of_ble_eq_true rfl) rfl ?_
  refine n_iconst (n := 0) (v := 0) (by decide +kernel) rfl ?_
  refine n_istore_n (n := 2) (lo2 := [_, _, _]) (by decide +kernel) (Nat.le_of_ble_eq_true rfl) rfl ?_
  obtain ⟨z1_9, h9, hr⟩ := bso hr
  refine (W_X10_clearsAll_b4 G hp0 h9 _ _) ?_
  dsimp only [Q_X10_clearsAll_b4]
  refine n_iload_n (n := 1) (by decide +kernel) rfl ?_
  cases hr
  exact n_ireturn (by decide +kernel)
abbrev P_X10_mix_b80 (l : Launch) (s0 : State) (D : va_G) (cy : Nat → ClassId) (ad : Nat → Nat) (P : Nat → Prop) (x1 : Int32) (x2 : Int32) (x3 : Int32) (x4 : Int32) (x8 : Int32) (M : Mm) (res : Rs) (M' : Mm) (s : (Int32 × Int32 × Int32 × Int32)) : Prop := Rn l s0 D cy ad P 13 KX10_mix 80 [.null, .int x1, .int x2, .int x3, .int x4, .int (s.1), .int (s.2.1), .int (s.2.2.1), .int x8, .int (s.2.2.2), .null, .null, .null, .null] [] M res M'
abbrev Q_X10_mix_b80 (l : Launch) (s0 : State) (D : va_G) (cy : Nat → ClassId) (ad : Nat → Nat) (P : Nat → Prop) (x1 : Int32) (x2 : Int32) (x3 : Int32) (x4 : Int32) (x8 : Int32) (M : Mm) (res : Rs) (M' : Mm) (e : (Int32 × Int32 × Int32)) : Prop := Rn l s0 D cy ad P 13 KX10_mix 196 [.null, .null, .null, .null, .int x4, .int (e.1), .int (e.2.1), .int (e.2.2), .null, .null, .null, .null, .null, .null] [] M res M'
abbrev P_X10_mix_b90 (l : Launch) (s0 : State) (D : va_G) (cy : Nat → ClassId) (ad : Nat → Nat) (P : Nat → Prop) (x1 : Int32) (x2 : Int32) (x3 : Int32) (x4 : Int32) (x8 : Int32) (x9 : Int32) (M : Mm) (res : Rs) (M' : Mm) (s : (Int32 × Int32 × Int32 × Int32)) : Prop := Rn l s0 D cy ad P 13 KX10_mix 90 [.null, .int x1, .int x2, .int x3, .int x4, .int (s.1), .int (s.2.1), .int (s.2.2.1), .int x8, .int x9, .int (s.2.2.2), .null, .null, .null] [] M res M'
abbrev Q_X10_mix_b90 (l : Launch) (s0 : State) (D : va_G) (cy : Nat → ClassId) (ad : Nat → Nat) (P : Nat → Prop) (x1 : Int32) (x2 : Int32) (x3 : Int32) (x4 : Int32) (x8 : Int32) (x9 : Int32) (M : Mm) (res : Rs) (M' : Mm) (e : (Int32 × Int32 × Int32)) : Prop := Rn l s0 D cy ad P 13 KX10_mix 190 [.null, .int x1, .int x2, .int x3, .int x4, .int (e.1), .int (e.2.1), .int (e.2.2), .int x8, .int x9, .null, .null, .null, .null] [] M res M'
set_option maxRecDepth 100000 in
theorem B_X10_mix_j172 (G : GG l s0 b L xs D cy ad) {x1 : Int32} {x2 : Int32} {x3 : Int32} {x4 : Int32} {x8 : Int32} {x9 : Int32} {x10 : Int32} {x13 : Int32} {M : Mm}  {res : Rs} {M' : Mm} {r : ((Int32 × Int32 × Int32 × Int32) ⊕ (Int32 × Int32 × Int32))}  (hr : f_X10_mix_j172 x1 x2 x3 x4 x8 x9 x10 x13 M = some r) (hk : mtc (P_X10_mix_b90 l s0 D cy ad P x1 x2 x3 x4 x8 x9 M res M') (Q_X10_mix_b90 l s0 D cy ad P x1 x2 x3 x4 x8 x9 M res M') r) : Rn l s0 D cy ad P 13 KX10_mix 172 [.null, .int x1, .int x2, .int x3, .int x4, .null, .null, .null, .int x8, .int x9, .int x10, .null, .null, .int x13] [] M res M' := by
  unfold f_X10_mix_j172 at hr
  refine n_iload (n := 13) (by decide +kernel) rfl ?_
  refine n_istore (n := 5) (lo2 := [_, _, _, _, _, _, _, _, _, _, _, _, _, _]) (by decide +kernel) (Nat.le_of_ble_eq_true rfl) rfl ?_
  refine n_iload (n := 9) (by decide +kernel) rfl ?_
  refine n_istore (n := 6) (lo2 := [_, _, _, _, _, _, _, _, _, _, _, _, _, _]) (by decide +kernel) (Nat.le_of_ble_eq_true rfl) rfl ?_
  refine n_iload (n := 10) (by decide +kernel) rfl ?_
  refine n_istore (n := 7) (lo2 := [_, _, _, _, _, _, _, _, _, _, _, _, _, _]) (by decide +kernel) (Nat.le_of_ble_eq_true rfl) rfl ?_
  refine n_iincK (n := 10) (j := 1) (w := 1) (lo2 := [_, _, _, _, _, _, _, _, _, _, _, _, _, _]) (by decide +kernel) rfl rfl rfl ?_
  refine n_goto (off := -97) (tgt := 90) (by decide +kernel) (by decide) ?_
  cases hr
  refine n_msk [false, true, true, true, true, true, true, true, true, true, true, false, false, false] (lo2 := [.null, _, _, _, _, _, _, _, _, _, _, .null, .null, .null]) rfl rfl ?_
  exact hk
set_option maxRecDepth 100000 in
theorem B_X10_mix_j150 (G : GG l s0 b L xs D cy ad) {x1 : Int32} {x2 : Int32} {x3 : Int32} {x4 : Int32} {x5 : Int32} {x6 : Int32} {x7 : Int32} {x8 : Int32} {x9 : Int32} {x10 : Int32} {x12 : Int32} {x13 : Int32} {M : Mm}  {res : Rs} {M' : Mm} {r : ((Int32 × Int32 × Int32 × Int32) ⊕ (Int32 × Int32 × Int32))}  (hr : f_X10_mix_j150 x1 x2 x3 x4 x5 x6 x7 x8 x9 x10 x12 x13 M = some r) (hk : mtc (P_X10_mix_b90 l s0 D cy ad P x1 x2 x3 x4 x8 x9 M res M') (Q_X10_mix_b90 l s0 D cy ad P x1 x2 x3 x4 x8 x9 M res M') r) : Rn l s0 D cy ad P 13 KX10_mix 150 [.null, .int x1, .int x2, .int x3, .int x4, .int x5, .int x6, .int x7, .int x8, .int x9, .int x10, .null, .int x12, .int x13] [] M res M' := by
  unfold f_X10_mix_j150 at hr
  refine n_iload (n := 12) (by decide +kernel) rfl ?_
  refine n_iload_n (n := 1) (by decide +kernel) rfl ?_
  refine n_icmp_gt (off := 31) (tgt := 184) (by decide +kernel) (by decide) (fun hc11 => ?_) (fun hc11 => ?_)
  · rw [if_pos hc11] at hr
    refine n_iincK (n := 10) (j := 1) (w := 1) (lo2 := [_, _, _, _, _, _, _, _, _, _, _, _, _, _]) (by decide +kernel) rfl rfl rfl ?_
    refine n_goto (off := -97) (tgt := 90) (by decide +kernel) (by decide) ?_
    cases hr
    refine n_msk [false, true, true, true, true, true, true, true, true, true, true, false, false, false] (lo2 := [.null, _, _, _, _, _, _, _, _, _, _, .null, .null, .null]) rfl rfl ?_
    exact hk
  · rw [if_neg hc11] at hr
    refine n_iload (n := 5) (by decide +kernel) rfl ?_
    refine n_iconst (n := -1) (v := -1) (by decide +kernel) rfl ?_
    refine n_icmp_eq (off := 13) (tgt := 172) (by decide +kernel) (by decide) (fun hc12 => ?_) (fun hc12 => ?_)
    · rw [if_pos hc12] at hr
      refine n_msk [false, true, true, true, true, false, false, false, true, true, true, false, false, true] (lo2 := [.null, _, _, _, _, .null, .null, .null, _, _, _, .null, .null, _]) rfl rfl ?_
      exact B_X10_mix_j172 G  hr hk
    · rw [if_neg hc12] at hr
      refine n_iload (n := 13) (by decide +kernel) rfl ?_
      refine n_iload (n := 5) (by decide +kernel) rfl ?_
      refine n_icmp_lt (off := 6) (tgt := 172) (by decide +kernel) (by decide) (fun hc13 => ?_) (fun hc13 => ?_)
      · rw [if_pos hc13] at hr
        refine n_msk [false, true, true, true, true, false, false, false, true, true, true, false, false, true] (lo2 := [.null, _, _, _, _, .null, .null, .null, _, _, _, .null, .null, _]) rfl rfl ?_
        exact B_X10_mix_j172 G  hr hk
      · rw [if_neg hc13] at hr
        refine n_goto (off := 15) (tgt := 184) (by decide +kernel) (by decide) ?_
        refine n_iincK (n := 10) (j := 1) (w := 1) (lo2 := [_, _, _, _, _, _, _, _, _, _, _, _, _, _]) (by decide +kernel) rfl rfl rfl ?_
        refine n_goto (off := -97) (tgt := 90) (by decide +kernel) (by decide) ?_
        cases hr
        refine n_msk [false, true, true, true, true, true, true, true, true, true, true, false, false, false] (lo2 := [.null, _, _, _, _, _, _, _, _, _, _, .null, .null, .null]) rfl rfl ?_
        exact hk
set_option maxRecDepth 100000 in
theorem B_X10_mix_j124 (G : GG l s0 b L xs D cy ad) {x1 : Int32} {x2 : Int32} {x3 : Int32} {x4 : Int32} {x5 : Int32} {x6 : Int32} {x7 : Int32} {x8 : Int32} {x9 : Int32} {x10 : Int32} {x11 : Int32} {xs0 : Int32} {M : Mm}  {res : Rs} {M' : Mm} {r : ((Int32 × Int32 × Int32 × Int32) ⊕ (Int32 × Int32 × Int32))}  (hr : f_X10_mix_j124 x1 x2 x3 x4 x5 x6 x7 x8 x9 x10 x11 xs0 M = some r) (hk : mtc (P_X10_mix_b90 l s0 D cy ad P x1 x2 x3 x4 x8 x9 M res M') (Q_X10_mix_b90 l s0 D cy ad P x1 x2 x3 x4 x8 x9 M res M') r) : Rn l s0 D cy ad P 13 KX10_mix 124 [.null, .int x1, .int x2, .int x3, .int x4, .int x5, .int x6, .int x7, .int x8, .int x9, .int x10, .int x11, .null, .null] [.int xs0] M res M' := by
  unfold f_X10_mix_j124 at hr
  refine n_istore (n := 12) (lo2 := [_, _, _, _, _, _, _, _, _, _, _, _, _, _]) (by decide +kernel) (Nat.le_of_ble_eq_true rfl) rfl ?_
  refine n_iload (n := 12) (by decide +kernel) rfl ?_
  refine n_iload (n := 9) (by decide +kernel) rfl ?_
  refine n_iload_n (n := 2) (by decide +kernel) rfl ?_
  refine n_imul (by decide +kernel) ?_
  refine n_iload (n := 10) (by decide +kernel) rfl ?_
  refine n_iload_n (n := 3) (by decide +kernel) rfl ?_
  refine n_imul (by decide +kernel) ?_
  refine n_iadd (by decide +kernel) ?_
  refine n_imul (by decide +kernel) ?_
  refine n_istore (n := 13) (lo2 := [_, _, _, _, _, _, _, _, _, _, _, _, _, _]) (by decide +kernel) (Nat.le_of_ble_eq_true rfl) rfl ?_
  refine n_iload (n := 11) (by decide +kernel) rfl ?_
  refine n_if_ne (off := 8) (tgt := 150) (by decide +kernel) (by decide) (fun hc10 => ?_) (fun hc10 => ?_)
  · rw [if_neg hc10] at hr
    refine n_msk [false, true, true, true, true, true, true, true, true, true, true, false, true, true] (lo2 := [.null, _, _, _, _, _, _, _, _, _, _, .null, _, _]) rfl rfl ?_
    exact B_X10_mix_j150 G  hr hk
  · rw [if_pos hc10] at hr
    refine n_iload (n := 8) (by decide +kernel) rfl ?_
    refine n_if_gt (off := 37) (tgt := 184) (by decide +kernel) (by decide) (fun hc14 => ?_) (fun hc14 => ?_)
    · rw [if_pos hc14] at hr
      refine n_iincK (n := 10) (j := 1) (w := 1) (lo2 := [_, _, _, _, _, _, _, _, _, _, _, _, _, _]) (by decide +kernel) rfl rfl rfl ?_
      refine n_goto (off := -97) (tgt := 90) (by decide +kernel) (by decide) ?_
      cases hr
      refine n_msk [false, true, true, true, true, true, true, true, true, true, true, false, false, false] (lo2 := [.null, _, _, _, _, _, _, _, _, _, _, .null, .null, .null]) rfl rfl ?_
      exact hk
    · rw [if_neg hc14] at hr
      refine n_msk [false, true, true, true, true, true, true, true, true, true, true, false, true, true] (lo2 := [.null, _, _, _, _, _, _, _, _, _, _, .null, _, _]) rfl rfl ?_
      exact B_X10_mix_j150 G  hr hk
set_option maxRecDepth 100000 in
theorem B_X10_mix_b90 (G : GG l s0 b L xs D cy ad) {x1 : Int32} {x2 : Int32} {x3 : Int32} {x4 : Int32} {x8 : Int32} {x9 : Int32} {M : Mm} {res : Rs} {M' : Mm}  : ∀ (s : (Int32 × Int32 × Int32 × Int32)) (r : (Int32 × Int32 × Int32 × Int32) ⊕ (Int32 × Int32 × Int32)), f_X10_mix_b90 x1 x2 x3 x4 x8 x9 M s = some r → mtc (P_X10_mix_b90 l s0 D cy ad P x1 x2 x3 x4 x8 x9 M res M') (Q_X10_mix_b90 l s0 D cy ad P x1 x2 x3 x4 x8 x9 M res M') r → P_X10_mix_b90 l s0 D cy ad P x1 x2 x3 x4 x8 x9 M res M' s := by
  intro s r hr hk
  obtain ⟨x5, x6, x7, x10⟩ := s
  unfold f_X10_mix_b90 at hr
  try dsimp only at hr
  dsimp only [P_X10_mix_b90]
  refine n_iload (n := 10) (by decide +kernel) rfl ?_
  refine n_iconst (n := 4) (v := 4) (by decide +kernel) rfl ?_
  refine n_icmp_ge (off := 97) (tgt := 190) (by decide +kernel) (by decide) (fun hc7 => ?_) (fun hc7 => ?_)
  · rw [if_pos hc7] at hr
    cases hr
    refine n_msk [false, true, true, true, true, true, true, true, true, true, false, false, false, false] (lo2 := [.null, _, _, _, _, _, _, _, _, _, .null, .null, .null, .null]) rfl rfl ?_
    exact hk
  · rw [if_neg hc7] at hr
    refine n_iload (n := 9) (by decide +kernel) rfl ?_
    refine n_iconst (n := 3) (v := 3) (by decide +kernel) rfl ?_
    refine n_iload (n := 10) (by decide +kernel) rfl ?_
    refine n_imul (by decide +kernel) ?_
    refine n_iadd (by decide +kernel) ?_
    refine n_istore (n := 11) (lo2 := [_, _, _, _, _, _, _, _, _, _, _, _, _, _]) (by decide +kernel) (Nat.le_of_ble_eq_true rfl) rfl ?_
    refine n_iload (n := 11) (by decide +kernel) rfl ?_
    refine n_if_ne (off := 7) (tgt := 114) (by decide +kernel) (by decide) (fun hc8 => ?_) (fun hc8 => ?_)
    · rw [if_neg hc8] at hr
      refine n_iload (n := 8) (by decide +kernel) rfl ?_
      refine n_iload (n := 11) (by decide +kernel) rfl ?_
      refine n_iadd (by decide +kernel) ?_
      refine n_iconst (n := 1) (v := 1) (by decide +kernel) rfl ?_
      refine n_isub (by decide +kernel) ?_
      refine n_iload (n := 11) (by decide +kernel) rfl ?_
      by_cases hz9 : (x9 + ((3 : Int32) * x10)) = 0
      · rw [if_pos hz9] at hr; cases hr
      rw [if_neg hz9] at hr
      refine n_idiv hz9 (by decide +kernel) ?_
      exact B_X10_mix_j124 G  hr hk
    · rw [if_pos hc8] at hr
      refine n_iconst (n := 0) (v := 0) (by decide +kernel) rfl ?_
      refine n_goto (off := 13) (tgt := 124) (by decide +kernel) (by decide) ?_
      exact B_X10_mix_j124 G  hr hk
set_option maxRecDepth 100000 in
theorem W_X10_mix_b90 (G : GG l s0 b L xs D cy ad) {x1 : Int32} {x2 : Int32} {x3 : Int32} {x4 : Int32} {x8 : Int32} {x9 : Int32} {M : Mm}  {s : (Int32 × Int32 × Int32 × Int32)} {e : (Int32 × Int32 × Int32)} (h : whl fu (f_X10_mix_b90 x1 x2 x3 x4 x8 x9 M) s = some e) (res : Rs) (M' : Mm) : Q_X10_mix_b90 l s0 D cy ad P x1 x2 x3 x4 x8 x9 M res M' e → P_X10_mix_b90 l s0 D cy ad P x1 x2 x3 x4 x8 x9 M res M' s := whl_run (P := fun s => P_X10_mix_b90 l s0 D cy ad P x1 x2 x3 x4 x8 x9 M res M' s) (Q := fun e => Q_X10_mix_b90 l s0 D cy ad P x1 x2 x3 x4 x8 x9 M res M' e) (B_X10_mix_b90 G (res := res) (M' := M') (x1 := x1) (x2 := x2) (x3 := x3) (x4 := x4) (x8 := x8) (x9 := x9) (M := M) ) fu s h
set_option maxRecDepth 100000 in
theorem B_X10_mix_b80 (G : GG l s0 b L xs D cy ad) {x1 : Int32} {x2 : Int32} {x3 : Int32} {x4 : Int32} {x8 : Int32} {M : Mm} {res : Rs} {M' : Mm}  : ∀ (s : (Int32 × Int32 × Int32 × Int32)) (r : (Int32 × Int32 × Int32 × Int32) ⊕ (Int32 × Int32 × Int32)), f_X10_mix_b80 x1 x2 x3 x4 x8 M s = some r → mtc (P_X10_mix_b80 l s0 D cy ad P x1 x2 x3 x4 x8 M res M') (Q_X10_mix_b80 l s0 D cy ad P x1 x2 x3 x4 x8 M res M') r → P_X10_mix_b80 l s0 D cy ad P x1 x2 x3 x4 x8 M res M' s := by
  intro s r hr hk
  obtain ⟨x5, x6, x7, x9⟩ := s
  unfold f_X10_mix_b80 at hr
  try dsimp only at hr
  dsimp only [P_X10_mix_b80]
  refine n_iload (n := 9) (by decide +kernel) rfl ?_
  refine n_bipush (n := 7) (v := 7) (by decide +kernel) rfl ?_
  refine n_icmp_ge (off := 112) (tgt := 196) (by decide +kernel) (by decide) (fun hc6 => ?_) (fun hc6 => ?_)
  · rw [if_pos hc6] at hr
    cases hr
    refine n_msk [false, false, false, false, true, true, true, true, false, false, false, false, false, false] (lo2 := [.null, .null, .null, .null, _, _, _, _, .null, .null, .null, .null, .null, .null]) rfl rfl ?_
    exact hk
  · rw [if_neg hc6] at hr
    refine n_iconst (n := 0) (v := 0) (by decide +kernel) rfl ?_
    refine n_istore (n := 10) (lo2 := [_, _, _, _, _, _, _, _, _, _, _, _, _, _]) (by decide +kernel) (Nat.le_of_ble_eq_true rfl) rfl ?_
    obtain ⟨e15, h15, hr⟩ := bso hr
    refine (W_X10_mix_b90 G  h15 _ _) ?_
    obtain ⟨z5_15, z6_15, z7_15⟩ := e15
    try dsimp only at hr
    dsimp only [Q_X10_mix_b90]
    refine n_iincK (n := 9) (j := 1) (w := 1) (lo2 := [_, _, _, _, _, _, _, _, _, _, _, _, _, _]) (by decide +kernel) rfl rfl rfl ?_
    refine n_goto (off := -113) (tgt := 80) (by decide +kernel) (by decide) ?_
    cases hr
    exact hk
set_option maxRecDepth 100000 in
theorem W_X10_mix_b80 (G : GG l s0 b L xs D cy ad) {x1 : Int32} {x2 : Int32} {x3 : Int32} {x4 : Int32} {x8 : Int32} {M : Mm}  {s : (Int32 × Int32 × Int32 × Int32)} {e : (Int32 × Int32 × Int32)} (h : whl fu (f_X10_mix_b80 x1 x2 x3 x4 x8 M) s = some e) (res : Rs) (M' : Mm) : Q_X10_mix_b80 l s0 D cy ad P x1 x2 x3 x4 x8 M res M' e → P_X10_mix_b80 l s0 D cy ad P x1 x2 x3 x4 x8 M res M' s := whl_run (P := fun s => P_X10_mix_b80 l s0 D cy ad P x1 x2 x3 x4 x8 M res M' s) (Q := fun e => Q_X10_mix_b80 l s0 D cy ad P x1 x2 x3 x4 x8 M res M' e) (B_X10_mix_b80 G (res := res) (M' := M') (x1 := x1) (x2 := x2) (x3 := x3) (x4 := x4) (x8 := x8) (M := M) ) fu s h
set_option maxRecDepth 100000 in
theorem B_X10_mix_j52 (G : GG l s0 b L xs D cy ad) {x1 : Int32} {x2 : Int32} {x3 : Int32} {x4 : Int32} {xs1 : Int32} {M : Mm} {r : (Int32 × Mm)} (hp0 : P 76) (hp90 : P 76) (hr : f_X10_mix_j52 x1 x2 x3 x4 xs1 M = some r) : Rn l s0 D cy ad P 13 KX10_mix 52 [.ref 76, .int x1, .int x2, .int x3, .int x4, .null, .null, .null, .null, .null, .null, .null, .null, .null] [.int xs1, .ref 76] M (.inl (some (.int r.1))) (r.2) := by
  unfold f_X10_mix_j52 at hr
  refine n_iconst (n := 1) (v := 1) (by decide +kernel) rfl ?_
  refine n_iconst (n := 2) (v := 2) (by decide +kernel) rfl ?_
  obtain ⟨⟨v3, M3⟩, h3, hr⟩ := bso hr
  try dsimp only at hr
  refine n_callVi G [_, _, _] (x := v3) (M1 := M3) (B_X10_bad G hp90 h3) (by decide) mX10_bad ml_RX10_161 hp90 (by decide +kernel) rfl rfl (Nat.le_of_ble_eq_true rfl) (by decide +kernel) ?_
  refine n_if_eq (off := 5) (tgt := 62) (by decide +kernel) (by decide) (fun hc4 => ?_) (fun hc4 => ?_)
  · rw [if_pos hc4] at hr
    refine n_iconst (n := -1) (v := -1) (by decide +kernel) rfl ?_
    refine n_istore (n := 5) (lo2 := [_, _, _, _, _, _, _, _, _, _, _, _, _, _]) (by decide +kernel) (Nat.le_of_ble_eq_true rfl) rfl ?_
    refine n_iconst (n := 0) (v := 0) (by decide +kernel) rfl ?_
    refine n_istore (n := 6) (lo2 := [_, _, _, _, _, _, _, _, _, _, _, _, _, _]) (by decide +kernel) (Nat.le_of_ble_eq_true rfl) rfl ?_
    refine n_iconst (n := 0) (v := 0) (by decide +kernel) rfl ?_
    refine n_istore (n := 7) (lo2 := [_, _, _, _, _, _, _, _, _, _, _, _, _, _]) (by decide +kernel) (Nat.le_of_ble_eq_true rfl) rfl ?_
    refine n_aload_n (n := 0) (by decide +kernel) rfl ?_
    obtain ⟨v5, h5, hr⟩ := bso hr
    refine n_callVi G [] (x := v5) (B_X10_clearsAll G hp0 h5) (by decide) mX10_clearsAll ml_RX10_365 hp0 (by decide +kernel) rfl rfl (Nat.le_of_ble_eq_true rfl) (by decide +kernel) ?_
    refine n_istore (n := 8) (lo2 := [_, _, _, _, _, _, _, _, _, _, _, _, _, _]) (by decide +kernel) (Nat.le_of_ble_eq_true rfl) rfl ?_
    refine n_iconst (n := 0) (v := 0) (by decide +kernel) rfl ?_
    refine n_istore (n := 9) (lo2 := [_, _, _, _, _, _, _, _, _, _, _, _, _, _]) (by decide +kernel) (Nat.le_of_ble_eq_true rfl) rfl ?_
    obtain ⟨e16, h16, hr⟩ := bso hr
    refine n_msk [false, true, true, true, true, true, true, true, true, true, false, false, false, false] (lo2 := [.null, _, _, _, _, _, _, _, _, _, .null, .null, .null, .null]) rfl rfl ?_
    refine (W_X10_mix_b80 G  h16 _ _) ?_
    obtain ⟨z5_16, z6_16, z7_16⟩ := e16
    try dsimp only at hr
    dsimp only [Q_X10_mix_b80]
    refine n_iload (n := 4) (by decide +kernel) rfl ?_
    refine n_if_eq (off := 9) (tgt := 207) (by decide +kernel) (by decide) (fun hc17 => ?_) (fun hc17 => ?_)
    · rw [if_pos hc17] at hr
      refine n_iload (n := 5) (by decide +kernel) rfl ?_
      refine n_goto (off := 16) (tgt := 225) (by decide +kernel) (by decide) ?_
      cases hr
      exact n_ireturn (by decide +kernel)
    · rw [if_neg hc17] at hr
      refine n_iload (n := 5) (by decide +kernel) rfl ?_
      refine n_iconst (n := -1) (v := -1) (by decide +kernel) rfl ?_
      refine n_icmp_ne (off := 8) (tgt := 212) (by decide +kernel) (by decide) (fun hc18 => ?_) (fun hc18 => ?_)
      · rw [if_neg hc18] at hr
        refine n_iload (n := 4) (by decide +kernel) rfl ?_
        refine n_iconst (n := 1) (v := 1) (by decide +kernel) rfl ?_
        refine n_icmp_ne (off := 8) (tgt := 223) (by decide +kernel) (by decide) (fun hc19 => ?_) (fun hc19 => ?_)
        · rw [if_neg hc19] at hr
          refine n_iload (n := 7) (by decide +kernel) rfl ?_
          cases hr
          exact n_ireturn (by decide +kernel)
        · rw [if_pos hc19] at hr
          refine n_iload (n := 6) (by decide +kernel) rfl ?_
          refine n_goto (off := 5) (tgt := 225) (by decide +kernel) (by decide) ?_
          cases hr
          exact n_ireturn (by decide +kernel)
      · rw [if_pos hc18] at hr
        refine n_iload (n := 5) (by decide +kernel) rfl ?_
        refine n_goto (off := 16) (tgt := 225) (by decide +kernel) (by decide) ?_
        cases hr
        exact n_ireturn (by decide +kernel)
  · rw [if_neg hc4] at hr
    refine n_iconst (n := 0) (v := 0) (by decide +kernel) rfl ?_
    cases hr
    exact n_ireturn (by decide +kernel)
set_option maxRecDepth 100000 in
theorem B_X10_mix_j47 (G : GG l s0 b L xs D cy ad) {x1 : Int32} {x2 : Int32} {x3 : Int32} {x4 : Int32} {M : Mm} {r : (Int32 × Mm)} (hp0 : P 76) (hp90 : P 76) (hr : f_X10_mix_j47 x1 x2 x3 x4 M = some r) : Rn l s0 D cy ad P 13 KX10_mix 47 [.ref 76, .int x1, .int x2, .int x3, .int x4, .null, .null, .null, .null, .null, .null, .null, .null, .null] [.ref 76] M (.inl (some (.int r.1))) (r.2) := by
  unfold f_X10_mix_j47 at hr
  refine n_iconst (n := 1) (v := 1) (by decide +kernel) rfl ?_
  refine n_goto (off := 4) (tgt := 52) (by decide +kernel) (by decide) ?_
  exact B_X10_mix_j52 G hp0 hp90 hr
set_option maxRecDepth 100000 in
theorem B_X10_mix (G : GG l s0 b L xs D cy ad)  {x1 : Int32} {x2 : Int32} {x3 : Int32} {x4 : Int32} {M : Mm} {r : (Int32 × Mm)} (hp0 : P 76) (hr : f_X10_mix x1 x2 x3 x4 M = some r) : Cl l s0 D cy ad P 13 KX10_mix [.ref 76, .int x1, .int x2, .int x3, .int x4] M (.inl (some (.int r.1))) (r.2) := by
  refine cl_ofN (by decide +kernel) rfl rfl okI (lo0 := [_, _, _, _, _, .null, .null, .null, .null, .null, .null, .null, .null, .null]) rfl ?_
  unfold f_X10_mix at hr
  refine n_aload_n (n := 0) (by decide +kernel) rfl ?_
  refine n_iconst (n := 0) (v := 0) (by decide +kernel) rfl ?_
  refine n_putI G fl_RX10_88 hp0 (by decide +kernel) (by decide +kernel) ?_
  refine n_aload_n (n := 0) (by decide +kernel) rfl ?_
  refine n_iload_n (n := 1) (by decide +kernel) rfl ?_
  refine n_iconst (n := 1) (v := 1) (by decide +kernel) rfl ?_
  refine n_sipush (n := 9999) (v := 9999) (by decide +kernel) (by decide +kernel) ?_
  obtain ⟨v1, h1, hr⟩ := bso hr
  refine n_callSi G [_, _, _] (x := v1) (B_X10_in G  h1) (by decide) mX10_in ml_RX10_122 rfl rfl (Nat.le_of_ble_eq_true rfl) (by decide +kernel) ?_
  refine n_if_eq (off := 33) (tgt := 47) (by decide +kernel) (by decide) (fun hc2 => ?_) (fun hc2 => ?_)
  · rw [if_pos hc2] at hr
    exact B_X10_mix_j47 G hp0 hp0 hr
  · rw [if_neg hc2] at hr
    refine n_iload_n (n := 2) (by decide +kernel) rfl ?_
    refine n_iconst (n := 0) (v := 0) (by decide +kernel) rfl ?_
    refine n_bipush (n := 99) (v := 99) (by decide +kernel) rfl ?_
    obtain ⟨v20, h20, hr⟩ := bso hr
    refine n_callSi G [_, _, _] (x := v20) (B_X10_in G  h20) (by decide) mX10_in ml_RX10_122 rfl rfl (Nat.le_of_ble_eq_true rfl) (by decide +kernel) ?_
    refine n_if_eq (off := 23) (tgt := 47) (by decide +kernel) (by decide) (fun hc21 => ?_) (fun hc21 => ?_)
    · rw [if_pos hc21] at hr
      exact B_X10_mix_j47 G hp0 hp0 hr
    · rw [if_neg hc21] at hr
      refine n_iload_n (n := 3) (by decide +kernel) rfl ?_
      refine n_iconst (n := 0) (v := 0) (by decide +kernel) rfl ?_
      refine n_bipush (n := 99) (v := 99) (by decide +kernel) rfl ?_
      obtain ⟨v22, h22, hr⟩ := bso hr
      refine n_callSi G [_, _, _] (x := v22) (B_X10_in G  h22) (by decide) mX10_in ml_RX10_122 rfl rfl (Nat.le_of_ble_eq_true rfl) (by decide +kernel) ?_
      refine n_if_eq (off := 13) (tgt := 47) (by decide +kernel) (by decide) (fun hc23 => ?_) (fun hc23 => ?_)
      · rw [if_pos hc23] at hr
        exact B_X10_mix_j47 G hp0 hp0 hr
      · rw [if_neg hc23] at hr
        refine n_iload (n := 4) (by decide +kernel) rfl ?_
        refine n_iconst (n := 0) (v := 0) (by decide +kernel) rfl ?_
        refine n_iconst (n := 2) (v := 2) (by decide +kernel) rfl ?_
        obtain ⟨v24, h24, hr⟩ := bso hr
        refine n_callSi G [_, _, _] (x := v24) (B_X10_in G  h24) (by decide) mX10_in ml_RX10_122 rfl rfl (Nat.le_of_ble_eq_true rfl) (by decide +kernel) ?_
        refine n_if_ne (off := 7) (tgt := 51) (by decide +kernel) (by decide) (fun hc25 => ?_) (fun hc25 => ?_)
        · rw [if_neg hc25] at hr
          refine n_iconst (n := 0) (v := 0) (by decide +kernel) rfl ?_
          exact B_X10_mix_j52 G hp0 hp0 hr
        · rw [if_pos hc25] at hr
          exact B_X10_mix_j47 G hp0 hp0 hr
abbrev P_X10_thereMany_b4 (l : Launch) (s0 : State) (D : va_G) (cy : Nat → ClassId) (ad : Nat → Nat) (P : Nat → Prop) (a0 : Nat) (x1 : Int32) (M : Mm) (res : Rs) (M' : Mm) (s : (Int32 × Int32)) : Prop := Rn l s0 D cy ad P 12 KX10_thereMany 4 [.ref a0, .int x1, .int (s.1), .int (s.2)] [] M res M'
abbrev Q_X10_thereMany_b4 (l : Launch) (s0 : State) (D : va_G) (cy : Nat → ClassId) (ad : Nat → Nat) (P : Nat → Prop) (a0 : Nat) (x1 : Int32) (M : Mm) (res : Rs) (M' : Mm) (e : Int32) : Prop := Rn l s0 D cy ad P 12 KX10_thereMany 48 [.null, .null, .int (e), .null] [] M res M'
set_option maxRecDepth 100000 in
theorem B_X10_thereMany_b4 (G : GG l s0 b L xs D cy ad) {a0 : Nat} {x1 : Int32} {M : Mm} {res : Rs} {M' : Mm} (hp0 : P a0) (hs0 : SH a0 = 12) : ∀ (s : (Int32 × Int32)) (r : (Int32 × Int32) ⊕ Int32), f_X10_thereMany_b4 a0 x1 M s = some r → mtc (P_X10_thereMany_b4 l s0 D cy ad P a0 x1 M res M') (Q_X10_thereMany_b4 l s0 D cy ad P a0 x1 M res M') r → P_X10_thereMany_b4 l s0 D cy ad P a0 x1 M res M' s := by
  intro s r hr hk
  obtain ⟨x2, x3⟩ := s
  unfold f_X10_thereMany_b4 at hr
  try dsimp only at hr
  dsimp only [P_X10_thereMany_b4]
  refine n_iload_n (n := 3) (by decide +kernel) rfl ?_
  refine n_aload_n (n := 0) (by decide +kernel) rfl ?_
  refine n_sipush (n := 360) (v := 360) (by decide +kernel) (by decide +kernel) ?_
  obtain ⟨v1, h1, hr⟩ := bso hr
  refine n_iald G h1 hp0 hs0 rfl (by decide +kernel) ?_
  refine n_icmp_ge (off := 38) (tgt := 48) (by decide +kernel) (by decide) (fun hc2 => ?_) (fun hc2 => ?_)
  · rw [if_pos hc2] at hr
    cases hr
    refine n_msk [false, false, true, false] (lo2 := [.null, .null, _, .null]) rfl rfl ?_
    exact hk
  · rw [if_neg hc2] at hr
    refine n_iload_n (n := 2) (by decide +kernel) rfl ?_
    refine n_aload_n (n := 0) (by decide +kernel) rfl ?_
    refine n_iload_n (n := 3) (by decide +kernel) rfl ?_
    obtain ⟨v3, h3, hr⟩ := bso hr
    refine n_callSi G [_, _] (x := v3) (B_X10_isThere G hp0 hs0 h3) (by decide) mX10_isThere ml_RX10_337 rfl rfl (Nat.le_of_ble_eq_true rfl) (by decide +kernel) ?_
    refine n_if_eq (off := 20) (tgt := 39) (by decide +kernel) (by decide) (fun hc4 => ?_) (fun hc4 => ?_)
    · rw [if_pos hc4] at hr
      refine n_iconst (n := 0) (v := 0) (by decide +kernel) rfl ?_
      refine n_iadd (by decide +kernel) ?_
      refine n_istore_n (n := 2) (lo2 := [_, _, _, _]) (by decide +kernel) (Nat.le_of_ble_eq_true rfl) rfl ?_
      refine n_iincK (n := 3) (j := 1) (w := 1) (lo2 := [_, _, _, _]) (by decide +kernel) rfl rfl rfl ?_
      refine n_goto (off := -41) (tgt := 4) (by decide +kernel) (by decide) ?_
      cases hr
      exact hk
    · rw [if_neg hc4] at hr
      refine n_iload_n (n := 1) (by decide +kernel) rfl ?_
      refine n_if_eq (off := 12) (tgt := 35) (by decide +kernel) (by decide) (fun hc5 => ?_) (fun hc5 => ?_)
      · rw [if_pos hc5] at hr
        refine n_iconst (n := 1) (v := 1) (by decide +kernel) rfl ?_
        refine n_goto (off := 4) (tgt := 40) (by decide +kernel) (by decide) ?_
        refine n_iadd (by decide +kernel) ?_
        refine n_istore_n (n := 2) (lo2 := [_, _, _, _]) (by decide +kernel) (Nat.le_of_ble_eq_true rfl) rfl ?_
        refine n_iincK (n := 3) (j := 1) (w := 1) (lo2 := [_, _, _, _]) (by decide +kernel) rfl rfl rfl ?_
        refine n_goto (off := -41) (tgt := 4) (by decide +kernel) (by decide) ?_
        cases hr
        exact hk
      · rw [if_neg hc5] at hr
        refine n_aload_n (n := 0) (by decide +kernel) rfl ?_
        refine n_iload_n (n := 3) (by decide +kernel) rfl ?_
        refine n_iconst (n := 2) (v := 2) (by decide +kernel) rfl ?_
        obtain ⟨v6, h6, hr⟩ := bso hr
        refine n_callSi G [_, _, _] (x := v6) (B_X10_of G hp0 hs0 h6) (by decide) mX10_of ml_RX10_222 rfl rfl (Nat.le_of_ble_eq_true rfl) (by decide +kernel) ?_
        refine n_goto (off := 8) (tgt := 40) (by decide +kernel) (by decide) ?_
        refine n_iadd (by decide +kernel) ?_
        refine n_istore_n (n := 2) (lo2 := [_, _, _, _]) (by decide +kernel) (Nat.le_of_ble_eq_true rfl) rfl ?_
        refine n_iincK (n := 3) (j := 1) (w := 1) (lo2 := [_, _, _, _]) (by decide +kernel) rfl rfl rfl ?_
        refine n_goto (off := -41) (tgt := 4) (by decide +kernel) (by decide) ?_
        cases hr
        exact hk
set_option maxRecDepth 100000 in
theorem W_X10_thereMany_b4 (G : GG l s0 b L xs D cy ad) {a0 : Nat} {x1 : Int32} {M : Mm} (hp0 : P a0) (hs0 : SH a0 = 12) {s : (Int32 × Int32)} {e : Int32} (h : whl fu (f_X10_thereMany_b4 a0 x1 M) s = some e) (res : Rs) (M' : Mm) : Q_X10_thereMany_b4 l s0 D cy ad P a0 x1 M res M' e → P_X10_thereMany_b4 l s0 D cy ad P a0 x1 M res M' s := whl_run (P := fun s => P_X10_thereMany_b4 l s0 D cy ad P a0 x1 M res M' s) (Q := fun e => Q_X10_thereMany_b4 l s0 D cy ad P a0 x1 M res M' e) (B_X10_thereMany_b4 G (res := res) (M' := M') (a0 := a0) (x1 := x1) (M := M) hp0 hs0) fu s h
set_option maxRecDepth 100000 in
theorem B_X10_thereMany (G : GG l s0 b L xs D cy ad)  {a0 : Nat} {x1 : Int32} {M : Mm} {r : Int32} (hp0 : P a0) (hs0 : SH a0 = 12) (hr : f_X10_thereMany a0 x1 M = some r) : Cl l s0 D cy ad P 12 KX10_thereMany [.ref a0, .int x1] M (.inl (some (.int r))) (M) := by
  refine cl_ofN (by decide +kernel) rfl rfl okI (lo0 := [_, _, .null, .null]) rfl ?_
  unfold f_X10_thereMany at hr
  refine n_iconst (n := 0) (v := 0) (by decide +kernel) rfl ?_
  refine n_istore_n (n := 2) (lo2 := [_, _, _, _]) (by decide +kernel) (Nat.le_of_ble_eq_true rfl) rfl ?_
  refine n_iconst (n := 0) (v := 0) (by decide +kernel) rfl ?_
  refine n_istore_n (n := 3) (lo2 := [_, _, _, _]) (by decide +kernel) (Nat.le_of_ble_eq_true rfl) rfl ?_
  obtain ⟨z2_7, h7, hr⟩ := bso hr
  refine (W_X10_thereMany_b4 G hp0 hs0 h7 _ _) ?_
  dsimp only [Q_X10_thereMany_b4]
  refine n_iload_n (n := 2) (by decide +kernel) rfl ?_
  cases hr
  exact n_ireturn (by decide +kernel)
abbrev P_X10_clears_b6 (l : Launch) (s0 : State) (D : va_G) (cy : Nat → ClassId) (ad : Nat → Nat) (P : Nat → Prop) (a1 : Nat)  (res : Rs) (M' : Mm) (s : (Int32 × Int32 × Mm)) : Prop := Rn l s0 D cy ad P 12 KX10_clears 6 [.ref 76, .ref a1, .null, .int (s.1), .int (s.2.1), .null] [] (s.2.2) res M'
abbrev Q_X10_clears_b6 (l : Launch) (s0 : State) (D : va_G) (cy : Nat → ClassId) (ad : Nat → Nat) (P : Nat → Prop) (a1 : Nat)  (res : Rs) (M' : Mm) (e : Mm) : Prop := Rn l s0 D cy ad P 12 KX10_clears 91 [.null, .null, .null, .null, .null, .null] [] (e) res M'
abbrev P_X10_clears_b14 (l : Launch) (s0 : State) (D : va_G) (cy : Nat → ClassId) (ad : Nat → Nat) (P : Nat → Prop) (a1 : Nat) (x4 : Int32)  (res : Rs) (M' : Mm) (s : (Int32 × Int32 × Mm)) : Prop := Rn l s0 D cy ad P 12 KX10_clears 14 [.ref 76, .ref a1, .null, .int (s.1), .int x4, .int (s.2.1)] [] (s.2.2) res M'
abbrev Q_X10_clears_b14 (l : Launch) (s0 : State) (D : va_G) (cy : Nat → ClassId) (ad : Nat → Nat) (P : Nat → Prop) (a1 : Nat) (x4 : Int32)  (res : Rs) (M' : Mm) (e : (Int32 × Mm)) : Prop := Rn l s0 D cy ad P 12 KX10_clears 85 [.ref 76, .ref a1, .null, .int (e.1), .int x4, .null] [] (e.2) res M'
set_option maxRecDepth 100000 in
theorem B_X10_clears_b14 (G : GG l s0 b L xs D cy ad) {a1 : Nat} {x4 : Int32}  {res : Rs} {M' : Mm} (hp0 : P 76) (hp1 : P a1) (hs1 : SH a1 = 12) : ∀ (s : (Int32 × Int32 × Mm)) (r : (Int32 × Int32 × Mm) ⊕ (Int32 × Mm)), f_X10_clears_b14 a1 x4 s = some r → mtc (P_X10_clears_b14 l s0 D cy ad P a1 x4 res M') (Q_X10_clears_b14 l s0 D cy ad P a1 x4 res M') r → P_X10_clears_b14 l s0 D cy ad P a1 x4 res M' s := by
  intro s r hr hk
  obtain ⟨x3, x5, M⟩ := s
  unfold f_X10_clears_b14 at hr
  try dsimp only at hr
  dsimp only [P_X10_clears_b14]
  refine n_iload (n := 5) (by decide +kernel) rfl ?_
  refine n_aload_n (n := 1) (by decide +kernel) rfl ?_
  refine n_sipush (n := 360) (v := 360) (by decide +kernel) (by decide +kernel) ?_
  obtain ⟨v2, h2, hr⟩ := bso hr
  refine n_iald G h2 hp1 hs1 rfl (by decide +kernel) ?_
  refine n_icmp_ge (off := 64) (tgt := 85) (by decide +kernel) (by decide) (fun hc3 => ?_) (fun hc3 => ?_)
  · rw [if_pos hc3] at hr
    cases hr
    refine n_msk [true, true, false, true, true, false] (lo2 := [_, _, .null, _, _, .null]) rfl rfl ?_
    exact hk
  · rw [if_neg hc3] at hr
    refine n_aload_n (n := 1) (by decide +kernel) rfl ?_
    refine n_iload (n := 5) (by decide +kernel) rfl ?_
    obtain ⟨v4, h4, hr⟩ := bso hr
    refine n_callSi G [_, _] (x := v4) (B_X10_isThere G hp1 hs1 h4) (by decide) mX10_isThere ml_RX10_337 rfl rfl (Nat.le_of_ble_eq_true rfl) (by decide +kernel) ?_
    refine n_if_eq (off := 49) (tgt := 79) (by decide +kernel) (by decide) (fun hc5 => ?_) (fun hc5 => ?_)
    · rw [if_pos hc5] at hr
      refine n_iincK (n := 5) (j := 1) (w := 1) (lo2 := [_, _, _, _, _, _]) (by decide +kernel) rfl rfl rfl ?_
      refine n_goto (off := -68) (tgt := 14) (by decide +kernel) (by decide) ?_
      cases hr
      exact hk
    · rw [if_neg hc5] at hr
      refine n_aload_n (n := 1) (by decide +kernel) rfl ?_
      refine n_iload (n := 5) (by decide +kernel) rfl ?_
      refine n_iconst (n := 2) (v := 2) (by decide +kernel) rfl ?_
      obtain ⟨v6, h6, hr⟩ := bso hr
      refine n_callSi G [_, _, _] (x := v6) (B_X10_of G hp1 hs1 h6) (by decide) mX10_of ml_RX10_222 rfl rfl (Nat.le_of_ble_eq_true rfl) (by decide +kernel) ?_
      refine n_iload (n := 4) (by decide +kernel) rfl ?_
      refine n_icmp_ne (off := 37) (tgt := 79) (by decide +kernel) (by decide) (fun hc7 => ?_) (fun hc7 => ?_)
      · rw [if_neg hc7] at hr
        refine n_iincK (n := 5) (j := 1) (w := 1) (lo2 := [_, _, _, _, _, _]) (by decide +kernel) rfl rfl rfl ?_
        refine n_goto (off := -68) (tgt := 14) (by decide +kernel) (by decide) ?_
        cases hr
        exact hk
      · rw [if_pos hc7] at hr
        refine n_aload_n (n := 0) (by decide +kernel) rfl ?_
        refine n_aload_n (n := 1) (by decide +kernel) rfl ?_
        refine n_iload (n := 5) (by decide +kernel) rfl ?_
        obtain ⟨v8, h8, hr⟩ := bso hr
        refine n_callVi G [_, _] (x := v8) (B_X10_clearOf G hp0 hp1 hs1 h8) (by decide) mX10_clearOf ml_RX10_331 hp0 (by decide +kernel) rfl rfl (Nat.le_of_ble_eq_true rfl) (by decide +kernel) ?_
        refine n_iload_n (n := 3) (by decide +kernel) rfl ?_
        refine n_icmp_le (off := 6) (tgt := 59) (by decide +kernel) (by decide) (fun hc9 => ?_) (fun hc9 => ?_)
        · rw [if_pos hc9] at hr
          refine n_iload_n (n := 3) (by decide +kernel) rfl ?_
          refine n_aload_n (n := 0) (by decide +kernel) rfl ?_
          refine n_aload_n (n := 1) (by decide +kernel) rfl ?_
          refine n_iload (n := 5) (by decide +kernel) rfl ?_
          obtain ⟨v10, h10, hr⟩ := bso hr
          refine n_callVi G [_, _] (x := v10) (B_X10_clearOf G hp0 hp1 hs1 h10) (by decide) mX10_clearOf ml_RX10_331 hp0 (by decide +kernel) rfl rfl (Nat.le_of_ble_eq_true rfl) (by decide +kernel) ?_
          refine n_isub (by decide +kernel) ?_
          refine n_istore_n (n := 3) (lo2 := [_, _, _, _, _, _]) (by decide +kernel) (Nat.le_of_ble_eq_true rfl) rfl ?_
          refine n_aload_n (n := 1) (by decide +kernel) rfl ?_
          refine n_bipush (n := 6) (v := 6) (by decide +kernel) rfl ?_
          refine n_iload (n := 5) (by decide +kernel) rfl ?_
          refine n_imul (by decide +kernel) ?_
          refine n_iconst (n := 4) (v := 4) (by decide +kernel) rfl ?_
          refine n_iadd (by decide +kernel) ?_
          refine n_iconst (n := 2) (v := 2) (by decide +kernel) rfl ?_
          obtain ⟨M11, h11, hr⟩ := bso hr
          refine n_iast G h11 hp1 hs1 rfl (by decide +kernel) ?_
          refine n_iincK (n := 5) (j := 1) (w := 1) (lo2 := [_, _, _, _, _, _]) (by decide +kernel) rfl rfl rfl ?_
          refine n_goto (off := -68) (tgt := 14) (by decide +kernel) (by decide) ?_
          cases hr
          exact hk
        · rw [if_neg hc9] at hr
          refine n_goto (off := 23) (tgt := 79) (by decide +kernel) (by decide) ?_
          refine n_iincK (n := 5) (j := 1) (w := 1) (lo2 := [_, _, _, _, _, _]) (by decide +kernel) rfl rfl rfl ?_
          refine n_goto (off := -68) (tgt := 14) (by decide +kernel) (by decide) ?_
          cases hr
          exact hk
set_option maxRecDepth 100000 in
theorem W_X10_clears_b14 (G : GG l s0 b L xs D cy ad) {a1 : Nat} {x4 : Int32}  (hp0 : P 76) (hp1 : P a1) (hs1 : SH a1 = 12) {s : (Int32 × Int32 × Mm)} {e : (Int32 × Mm)} (h : whl fu (f_X10_clears_b14 a1 x4) s = some e) (res : Rs) (M' : Mm) : Q_X10_clears_b14 l s0 D cy ad P a1 x4 res M' e → P_X10_clears_b14 l s0 D cy ad P a1 x4 res M' s := whl_run (P := fun s => P_X10_clears_b14 l s0 D cy ad P a1 x4 res M' s) (Q := fun e => Q_X10_clears_b14 l s0 D cy ad P a1 x4 res M' e) (B_X10_clears_b14 G (res := res) (M' := M') (a1 := a1) (x4 := x4) hp0 hp1 hs1) fu s h
set_option maxRecDepth 100000 in
theorem B_X10_clears_b6 (G : GG l s0 b L xs D cy ad) {a1 : Nat}  {res : Rs} {M' : Mm} (hp0 : P 76) (hp1 : P a1) (hs1 : SH a1 = 12) : ∀ (s : (Int32 × Int32 × Mm)) (r : (Int32 × Int32 × Mm) ⊕ Mm), f_X10_clears_b6 a1 s = some r → mtc (P_X10_clears_b6 l s0 D cy ad P a1 res M') (Q_X10_clears_b6 l s0 D cy ad P a1 res M') r → P_X10_clears_b6 l s0 D cy ad P a1 res M' s := by
  intro s r hr hk
  obtain ⟨x3, x4, M⟩ := s
  unfold f_X10_clears_b6 at hr
  try dsimp only at hr
  dsimp only [P_X10_clears_b6]
  refine n_iload (n := 4) (by decide +kernel) rfl ?_
  refine n_if_le (off := 83) (tgt := 91) (by decide +kernel) (by decide) (fun hc1 => ?_) (fun hc1 => ?_)
  · rw [if_pos hc1] at hr
    cases hr
    refine n_msk [false, false, false, false, false, false] (lo2 := [.null, .null, .null, .null, .null, .null]) rfl rfl ?_
    exact hk
  · rw [if_neg hc1] at hr
    refine n_iconst (n := 0) (v := 0) (by decide +kernel) rfl ?_
    refine n_istore (n := 5) (lo2 := [_, _, _, _, _, _]) (by decide +kernel) (Nat.le_of_ble_eq_true rfl) rfl ?_
    obtain ⟨e12, h12, hr⟩ := bso hr
    refine (W_X10_clears_b14 G hp0 hp1 hs1 h12 _ _) ?_
    obtain ⟨z3_12, M12⟩ := e12
    try dsimp only at hr
    dsimp only [Q_X10_clears_b14]
    refine n_iincK (n := 4) (j := -1) (w := -1) (lo2 := [_, _, _, _, _, _]) (by decide +kernel) rfl rfl rfl ?_
    refine n_goto (off := -82) (tgt := 6) (by decide +kernel) (by decide) ?_
    cases hr
    exact hk
set_option maxRecDepth 100000 in
theorem W_X10_clears_b6 (G : GG l s0 b L xs D cy ad) {a1 : Nat}  (hp0 : P 76) (hp1 : P a1) (hs1 : SH a1 = 12) {s : (Int32 × Int32 × Mm)} {e : Mm} (h : whl fu (f_X10_clears_b6 a1) s = some e) (res : Rs) (M' : Mm) : Q_X10_clears_b6 l s0 D cy ad P a1 res M' e → P_X10_clears_b6 l s0 D cy ad P a1 res M' s := whl_run (P := fun s => P_X10_clears_b6 l s0 D cy ad P a1 res M' s) (Q := fun e => Q_X10_clears_b6 l s0 D cy ad P a1 res M' e) (B_X10_clears_b6 G (res := res) (M' := M') (a1 := a1) hp0 hp1 hs1) fu s h
set_option maxRecDepth 100000 in
theorem B_X10_clears (G : GG l s0 b L xs D cy ad)  {a1 : Nat} {x2 : Int32} {M : Mm} {r : Mm} (hp0 : P 76) (hp1 : P a1) (hs1 : SH a1 = 12) (hr : f_X10_clears a1 x2 M = some r) : Cl l s0 D cy ad P 12 KX10_clears [.ref 76, .ref a1, .int x2] M (.inl none) (r) := by
  refine cl_ofN (by decide +kernel) rfl rfl rfl (lo0 := [_, _, _, .null, .null, .null]) rfl ?_
  unfold f_X10_clears at hr
  refine n_iload_n (n := 2) (by decide +kernel) rfl ?_
  refine n_istore_n (n := 3) (lo2 := [_, _, _, _, _, _]) (by decide +kernel) (Nat.le_of_ble_eq_true rfl) rfl ?_
  refine n_bipush (n := 9) (v := 9) (by decide +kernel) rfl ?_
  refine n_istore (n := 4) (lo2 := [_, _, _, _, _, _]) (by decide +kernel) (Nat.le_of_ble_eq_true rfl) rfl ?_
  obtain ⟨M13, h13, hr⟩ := bso hr
  refine n_msk [true, true, false, true, true, false] (lo2 := [_, _, .null, _, _, .null]) rfl rfl ?_
  refine (W_X10_clears_b6 G hp0 hp1 hs1 h13 _ _) ?_
  dsimp only [Q_X10_clears_b6]
  cases hr
  exact n_return (by decide +kernel)
abbrev P_X10_enough_b55 (l : Launch) (s0 : State) (D : va_G) (cy : Nat → ClassId) (ad : Nat → Nat) (P : Nat → Prop) (x1 : Int32) (x2 : Int32)  (res : Rs) (M' : Mm) (s : (Int32 × Mm)) : Prop := Rn l s0 D cy ad P 15 KX10_enough 55 [.ref 76, .int x1, .int x2, .int (s.1)] [] (s.2) res M'
abbrev Q_X10_enough_b55 (l : Launch) (s0 : State) (D : va_G) (cy : Nat → ClassId) (ad : Nat → Nat) (P : Nat → Prop) (x1 : Int32) (x2 : Int32)  (res : Rs) (M' : Mm) (e : ((Int32 × Mm) ⊕ Mm)) : Prop := (match e with | .inl e => Rn l s0 D cy ad P 15 KX10_enough 82 [.null, .null, .null, .int (e.1)] [] (e.2) res M' | .inr e => Rn l s0 D cy ad P 15 KX10_enough 98 [.null, .null, .null, .null] [] (e) res M')
set_option maxRecDepth 100000 in
theorem B_X10_enough_b55 (G : GG l s0 b L xs D cy ad) {x1 : Int32} {x2 : Int32}  {res : Rs} {M' : Mm} (hp0 : P 76) : ∀ (s : (Int32 × Mm)) (r : (Int32 × Mm) ⊕ ((Int32 × Mm) ⊕ Mm)), f_X10_enough_b55 x1 x2 s = some r → mtc (P_X10_enough_b55 l s0 D cy ad P x1 x2 res M') (Q_X10_enough_b55 l s0 D cy ad P x1 x2 res M') r → P_X10_enough_b55 l s0 D cy ad P x1 x2 res M' s := by
  intro s r hr hk
  obtain ⟨x3, M⟩ := s
  unfold f_X10_enough_b55 at hr
  try dsimp only at hr
  dsimp only [P_X10_enough_b55]
  refine n_iload_n (n := 3) (by decide +kernel) rfl ?_
  refine n_bipush (n := 30) (v := 30) (by decide +kernel) rfl ?_
  refine n_icmp_gt (off := 40) (tgt := 98) (by decide +kernel) (by decide) (fun hc8 => ?_) (fun hc8 => ?_)
  · rw [if_pos hc8] at hr
    cases hr
    refine n_msk [false, false, false, false] (lo2 := [.null, .null, .null, .null]) rfl rfl ?_
    exact hk
  · rw [if_neg hc8] at hr
    refine n_aload_n (n := 0) (by decide +kernel) rfl ?_
    refine n_aload_n (n := 0) (by decide +kernel) rfl ?_
    refine n_getF (q := 197) G fl_RX10_64 hp0 (by decide +kernel) (by decide +kernel) (by decide +kernel) (fun hp9q => ?_)
    refine n_iload_n (n := 1) (by decide +kernel) rfl ?_
    obtain ⟨M10, h10, hr⟩ := bso hr
    refine n_callVv G [_, _] (M1 := M10) (B_X10_clears G hp0 hp9q (by decide +kernel) h10) (by decide) mX10_clears ml_RX10_368 hp0 (by decide +kernel) rfl rfl (Nat.le_of_ble_eq_true rfl) (by decide +kernel) ?_
    refine n_aload_n (n := 0) (by decide +kernel) rfl ?_
    refine n_getF (q := 197) G fl_RX10_64 hp0 (by decide +kernel) (by decide +kernel) (by decide +kernel) (fun hp11q => ?_)
    refine n_iconst (n := 0) (v := 0) (by decide +kernel) rfl ?_
    obtain ⟨v12, h12, hr⟩ := bso hr
    refine n_callSi G [_, _] (x := v12) (B_X10_thereMany G hp11q (by decide +kernel) h12) (by decide) mX10_thereMany ml_RX10_372 rfl rfl (Nat.le_of_ble_eq_true rfl) (by decide +kernel) ?_
    refine n_iload_n (n := 2) (by decide +kernel) rfl ?_
    refine n_icmp_gt (off := 5) (tgt := 84) (by decide +kernel) (by decide) (fun hc13 => ?_) (fun hc13 => ?_)
    · rw [if_pos hc13] at hr
      refine n_aload_n (n := 0) (by decide +kernel) rfl ?_
      refine n_aload_n (n := 0) (by decide +kernel) rfl ?_
      refine n_getF (q := 197) G fl_RX10_64 hp0 (by decide +kernel) (by decide +kernel) (by decide +kernel) (fun hp14q => ?_)
      obtain ⟨M15, h15, hr⟩ := bso hr
      refine n_callVv G [_] (M1 := M15) (B_X10_winters G hp0 hp14q (by decide +kernel) h15) (by decide) mX10_winters ml_RX10_288 hp0 (by decide +kernel) rfl rfl (Nat.le_of_ble_eq_true rfl) (by decide +kernel) ?_
      refine n_iincK (n := 3) (j := 1) (w := 1) (lo2 := [_, _, _, _]) (by decide +kernel) rfl rfl rfl ?_
      refine n_goto (off := -40) (tgt := 55) (by decide +kernel) (by decide) ?_
      cases hr
      exact hk
    · rw [if_neg hc13] at hr
      cases hr
      refine n_msk [false, false, false, true] (lo2 := [.null, .null, .null, _]) rfl rfl ?_
      exact hk
set_option maxRecDepth 100000 in
theorem W_X10_enough_b55 (G : GG l s0 b L xs D cy ad) {x1 : Int32} {x2 : Int32}  (hp0 : P 76) {s : (Int32 × Mm)} {e : ((Int32 × Mm) ⊕ Mm)} (h : whl fu (f_X10_enough_b55 x1 x2) s = some e) (res : Rs) (M' : Mm) : Q_X10_enough_b55 l s0 D cy ad P x1 x2 res M' e → P_X10_enough_b55 l s0 D cy ad P x1 x2 res M' s := whl_run (P := fun s => P_X10_enough_b55 l s0 D cy ad P x1 x2 res M' s) (Q := fun e => Q_X10_enough_b55 l s0 D cy ad P x1 x2 res M' e) (B_X10_enough_b55 G (res := res) (M' := M') (x1 := x1) (x2 := x2) hp0) fu s h
set_option maxRecDepth 100000 in
theorem B_X10_enough_j32 (G : GG l s0 b L xs D cy ad) {x1 : Int32} {x2 : Int32} {xs1 : Int32} {M : Mm} {r : (Int32 × Mm)} (hp0 : P 76) (hp90 : P 76) (hr : f_X10_enough_j32 x1 x2 xs1 M = some r) : Rn l s0 D cy ad P 15 KX10_enough 32 [.ref 76, .int x1, .int x2, .null] [.int xs1, .ref 76] M (.inl (some (.int r.1))) (r.2) := by
  unfold f_X10_enough_j32 at hr
  refine n_iconst (n := 1) (v := 1) (by decide +kernel) rfl ?_
  refine n_iconst (n := 2) (v := 2) (by decide +kernel) rfl ?_
  obtain ⟨⟨v3, M3⟩, h3, hr⟩ := bso hr
  try dsimp only at hr
  refine n_callVi G [_, _, _] (x := v3) (M1 := M3) (B_X10_bad G hp90 h3) (by decide) mX10_bad ml_RX10_161 hp90 (by decide +kernel) rfl rfl (Nat.le_of_ble_eq_true rfl) (by decide +kernel) ?_
  refine n_if_eq (off := 5) (tgt := 42) (by decide +kernel) (by decide) (fun hc4 => ?_) (fun hc4 => ?_)
  · rw [if_pos hc4] at hr
    refine n_aload_n (n := 0) (by decide +kernel) rfl ?_
    refine n_getF (q := 196) G fl_RX10_61 hp0 (by decide +kernel) (by decide +kernel) (by decide +kernel) (fun hp5q => ?_)
    refine n_aload_n (n := 0) (by decide +kernel) rfl ?_
    refine n_getF (q := 197) G fl_RX10_64 hp0 (by decide +kernel) (by decide +kernel) (by decide +kernel) (fun hp6q => ?_)
    obtain ⟨M7, h7, hr⟩ := bso hr
    refine n_callSv G [_, _] (M1 := M7) (B_X10_copies G hp5q (by decide +kernel) hp6q (by decide +kernel) h7) (by decide) mX10_copies ml_RX10_318 rfl rfl (Nat.le_of_ble_eq_true rfl) (by decide +kernel) ?_
    refine n_iconst (n := 1) (v := 1) (by decide +kernel) rfl ?_
    refine n_istore_n (n := 3) (lo2 := [_, _, _, _]) (by decide +kernel) (Nat.le_of_ble_eq_true rfl) rfl ?_
    obtain ⟨e16, h16, hr⟩ := bso hr
    refine (W_X10_enough_b55 G hp0 h16 _ _) ?_
    rcases e16 with ⟨z3_16, M16⟩ | M16
    · try dsimp only at hr
      dsimp only [Q_X10_enough_b55]
      refine n_iload_n (n := 3) (by decide +kernel) rfl ?_
      cases hr
      exact n_ireturn (by decide +kernel)
    · try dsimp only at hr
      dsimp only [Q_X10_enough_b55]
      refine n_iconst (n := -1) (v := -1) (by decide +kernel) rfl ?_
      cases hr
      exact n_ireturn (by decide +kernel)
  · rw [if_neg hc4] at hr
    refine n_iconst (n := 0) (v := 0) (by decide +kernel) rfl ?_
    cases hr
    exact n_ireturn (by decide +kernel)
set_option maxRecDepth 100000 in
theorem B_X10_enough_j27 (G : GG l s0 b L xs D cy ad) {x1 : Int32} {x2 : Int32} {M : Mm} {r : (Int32 × Mm)} (hp0 : P 76) (hp90 : P 76) (hr : f_X10_enough_j27 x1 x2 M = some r) : Rn l s0 D cy ad P 15 KX10_enough 27 [.ref 76, .int x1, .int x2, .null] [.ref 76] M (.inl (some (.int r.1))) (r.2) := by
  unfold f_X10_enough_j27 at hr
  refine n_iconst (n := 1) (v := 1) (by decide +kernel) rfl ?_
  refine n_goto (off := 4) (tgt := 32) (by decide +kernel) (by decide) ?_
  exact B_X10_enough_j32 G hp0 hp90 hr
set_option maxRecDepth 100000 in
theorem B_X10_enough (G : GG l s0 b L xs D cy ad)  {x1 : Int32} {x2 : Int32} {M : Mm} {r : (Int32 × Mm)} (hp0 : P 76) (hr : f_X10_enough x1 x2 M = some r) : Cl l s0 D cy ad P 15 KX10_enough [.ref 76, .int x1, .int x2] M (.inl (some (.int r.1))) (r.2) := by
  refine cl_ofN (by decide +kernel) rfl rfl okI (lo0 := [_, _, _, .null]) rfl ?_
  unfold f_X10_enough at hr
  refine n_aload_n (n := 0) (by decide +kernel) rfl ?_
  refine n_iconst (n := 0) (v := 0) (by decide +kernel) rfl ?_
  refine n_putI G fl_RX10_88 hp0 (by decide +kernel) (by decide +kernel) ?_
  refine n_aload_n (n := 0) (by decide +kernel) rfl ?_
  refine n_iload_n (n := 1) (by decide +kernel) rfl ?_
  refine n_iconst (n := 0) (v := 0) (by decide +kernel) rfl ?_
  refine n_sipush (n := 9999) (v := 9999) (by decide +kernel) (by decide +kernel) ?_
  obtain ⟨v1, h1, hr⟩ := bso hr
  refine n_callSi G [_, _, _] (x := v1) (B_X10_in G  h1) (by decide) mX10_in ml_RX10_122 rfl rfl (Nat.le_of_ble_eq_true rfl) (by decide +kernel) ?_
  refine n_if_eq (off := 13) (tgt := 27) (by decide +kernel) (by decide) (fun hc2 => ?_) (fun hc2 => ?_)
  · rw [if_pos hc2] at hr
    exact B_X10_enough_j27 G hp0 hp0 hr
  · rw [if_neg hc2] at hr
    refine n_iload_n (n := 2) (by decide +kernel) rfl ?_
    refine n_iconst (n := 0) (v := 0) (by decide +kernel) rfl ?_
    refine n_bipush (n := 60) (v := 60) (by decide +kernel) rfl ?_
    obtain ⟨v17, h17, hr⟩ := bso hr
    refine n_callSi G [_, _, _] (x := v17) (B_X10_in G  h17) (by decide) mX10_in ml_RX10_122 rfl rfl (Nat.le_of_ble_eq_true rfl) (by decide +kernel) ?_
    refine n_if_ne (off := 7) (tgt := 31) (by decide +kernel) (by decide) (fun hc18 => ?_) (fun hc18 => ?_)
    · rw [if_neg hc18] at hr
      refine n_iconst (n := 0) (v := 0) (by decide +kernel) rfl ?_
      exact B_X10_enough_j32 G hp0 hp0 hr
    · rw [if_pos hc18] at hr
      exact B_X10_enough_j27 G hp0 hp0 hr
abbrev P_X10_left_b55 (l : Launch) (s0 : State) (D : va_G) (cy : Nat → ClassId) (ad : Nat → Nat) (P : Nat → Prop) (x1 : Int32) (x2 : Int32)  (res : Rs) (M' : Mm) (s : (Int32 × Mm)) : Prop := Rn l s0 D cy ad P 15 KX10_left 55 [.ref 76, .int x1, .int x2, .int (s.1)] [] (s.2) res M'
abbrev Q_X10_left_b55 (l : Launch) (s0 : State) (D : va_G) (cy : Nat → ClassId) (ad : Nat → Nat) (P : Nat → Prop) (x1 : Int32) (x2 : Int32)  (res : Rs) (M' : Mm) (e : Mm) : Prop := Rn l s0 D cy ad P 15 KX10_left 88 [.ref 76, .null, .null, .null] [] (e) res M'
set_option maxRecDepth 100000 in
theorem B_X10_left_b55 (G : GG l s0 b L xs D cy ad) {x1 : Int32} {x2 : Int32}  {res : Rs} {M' : Mm} (hp0 : P 76) : ∀ (s : (Int32 × Mm)) (r : (Int32 × Mm) ⊕ Mm), f_X10_left_b55 x1 x2 s = some r → mtc (P_X10_left_b55 l s0 D cy ad P x1 x2 res M') (Q_X10_left_b55 l s0 D cy ad P x1 x2 res M') r → P_X10_left_b55 l s0 D cy ad P x1 x2 res M' s := by
  intro s r hr hk
  obtain ⟨x3, M⟩ := s
  unfold f_X10_left_b55 at hr
  try dsimp only at hr
  dsimp only [P_X10_left_b55]
  refine n_iload_n (n := 3) (by decide +kernel) rfl ?_
  refine n_iload_n (n := 2) (by decide +kernel) rfl ?_
  refine n_icmp_gt (off := 31) (tgt := 88) (by decide +kernel) (by decide) (fun hc8 => ?_) (fun hc8 => ?_)
  · rw [if_pos hc8] at hr
    cases hr
    refine n_msk [true, false, false, false] (lo2 := [_, .null, .null, .null]) rfl rfl ?_
    exact hk
  · rw [if_neg hc8] at hr
    refine n_iload_n (n := 3) (by decide +kernel) rfl ?_
    refine n_iconst (n := 1) (v := 1) (by decide +kernel) rfl ?_
    refine n_icmp_le (off := 11) (tgt := 73) (by decide +kernel) (by decide) (fun hc9 => ?_) (fun hc9 => ?_)
    · rw [if_pos hc9] at hr
      refine n_aload_n (n := 0) (by decide +kernel) rfl ?_
      refine n_aload_n (n := 0) (by decide +kernel) rfl ?_
      refine n_getF (q := 197) G fl_RX10_64 hp0 (by decide +kernel) (by decide +kernel) (by decide +kernel) (fun hp10q => ?_)
      refine n_iload_n (n := 1) (by decide +kernel) rfl ?_
      obtain ⟨M11, h11, hr⟩ := bso hr
      refine n_callVv G [_, _] (M1 := M11) (B_X10_clears G hp0 hp10q (by decide +kernel) h11) (by decide) mX10_clears ml_RX10_368 hp0 (by decide +kernel) rfl rfl (Nat.le_of_ble_eq_true rfl) (by decide +kernel) ?_
      refine n_iincK (n := 3) (j := 1) (w := 1) (lo2 := [_, _, _, _]) (by decide +kernel) rfl rfl rfl ?_
      refine n_goto (off := -30) (tgt := 55) (by decide +kernel) (by decide) ?_
      cases hr
      exact hk
    · rw [if_neg hc9] at hr
      refine n_aload_n (n := 0) (by decide +kernel) rfl ?_
      refine n_aload_n (n := 0) (by decide +kernel) rfl ?_
      refine n_getF (q := 197) G fl_RX10_64 hp0 (by decide +kernel) (by decide +kernel) (by decide +kernel) (fun hp12q => ?_)
      obtain ⟨M13, h13, hr⟩ := bso hr
      refine n_callVv G [_] (M1 := M13) (B_X10_winters G hp0 hp12q (by decide +kernel) h13) (by decide) mX10_winters ml_RX10_288 hp0 (by decide +kernel) rfl rfl (Nat.le_of_ble_eq_true rfl) (by decide +kernel) ?_
      refine n_aload_n (n := 0) (by decide +kernel) rfl ?_
      refine n_aload_n (n := 0) (by decide +kernel) rfl ?_
      refine n_getF (q := 197) G fl_RX10_64 hp0 (by decide +kernel) (by decide +kernel) (by decide +kernel) (fun hp14q => ?_)
      refine n_iload_n (n := 1) (by decide +kernel) rfl ?_
      obtain ⟨M15, h15, hr⟩ := bso hr
      refine n_callVv G [_, _] (M1 := M15) (B_X10_clears G hp0 hp14q (by decide +kernel) h15) (by decide) mX10_clears ml_RX10_368 hp0 (by decide +kernel) rfl rfl (Nat.le_of_ble_eq_true rfl) (by decide +kernel) ?_
      refine n_iincK (n := 3) (j := 1) (w := 1) (lo2 := [_, _, _, _]) (by decide +kernel) rfl rfl rfl ?_
      refine n_goto (off := -30) (tgt := 55) (by decide +kernel) (by decide) ?_
      cases hr
      exact hk
set_option maxRecDepth 100000 in
theorem W_X10_left_b55 (G : GG l s0 b L xs D cy ad) {x1 : Int32} {x2 : Int32}  (hp0 : P 76) {s : (Int32 × Mm)} {e : Mm} (h : whl fu (f_X10_left_b55 x1 x2) s = some e) (res : Rs) (M' : Mm) : Q_X10_left_b55 l s0 D cy ad P x1 x2 res M' e → P_X10_left_b55 l s0 D cy ad P x1 x2 res M' s := whl_run (P := fun s => P_X10_left_b55 l s0 D cy ad P x1 x2 res M' s) (Q := fun e => Q_X10_left_b55 l s0 D cy ad P x1 x2 res M' e) (B_X10_left_b55 G (res := res) (M' := M') (x1 := x1) (x2 := x2) hp0) fu s h
set_option maxRecDepth 100000 in
theorem B_X10_left_j32 (G : GG l s0 b L xs D cy ad) {x1 : Int32} {x2 : Int32} {xs1 : Int32} {M : Mm} {r : (Int32 × Mm)} (hp0 : P 76) (hp90 : P 76) (hr : f_X10_left_j32 x1 x2 xs1 M = some r) : Rn l s0 D cy ad P 15 KX10_left 32 [.ref 76, .int x1, .int x2, .null] [.int xs1, .ref 76] M (.inl (some (.int r.1))) (r.2) := by
  unfold f_X10_left_j32 at hr
  refine n_iconst (n := 1) (v := 1) (by decide +kernel) rfl ?_
  refine n_iconst (n := 2) (v := 2) (by decide +kernel) rfl ?_
  obtain ⟨⟨v3, M3⟩, h3, hr⟩ := bso hr
  try dsimp only at hr
  refine n_callVi G [_, _, _] (x := v3) (M1 := M3) (B_X10_bad G hp90 h3) (by decide) mX10_bad ml_RX10_161 hp90 (by decide +kernel) rfl rfl (Nat.le_of_ble_eq_true rfl) (by decide +kernel) ?_
  refine n_if_eq (off := 5) (tgt := 42) (by decide +kernel) (by decide) (fun hc4 => ?_) (fun hc4 => ?_)
  · rw [if_pos hc4] at hr
    refine n_aload_n (n := 0) (by decide +kernel) rfl ?_
    refine n_getF (q := 196) G fl_RX10_61 hp0 (by decide +kernel) (by decide +kernel) (by decide +kernel) (fun hp5q => ?_)
    refine n_aload_n (n := 0) (by decide +kernel) rfl ?_
    refine n_getF (q := 197) G fl_RX10_64 hp0 (by decide +kernel) (by decide +kernel) (by decide +kernel) (fun hp6q => ?_)
    obtain ⟨M7, h7, hr⟩ := bso hr
    refine n_callSv G [_, _] (M1 := M7) (B_X10_copies G hp5q (by decide +kernel) hp6q (by decide +kernel) h7) (by decide) mX10_copies ml_RX10_318 rfl rfl (Nat.le_of_ble_eq_true rfl) (by decide +kernel) ?_
    refine n_iconst (n := 1) (v := 1) (by decide +kernel) rfl ?_
    refine n_istore_n (n := 3) (lo2 := [_, _, _, _]) (by decide +kernel) (Nat.le_of_ble_eq_true rfl) rfl ?_
    obtain ⟨M16, h16, hr⟩ := bso hr
    refine (W_X10_left_b55 G hp0 h16 _ _) ?_
    dsimp only [Q_X10_left_b55]
    refine n_aload_n (n := 0) (by decide +kernel) rfl ?_
    refine n_getF (q := 197) G fl_RX10_64 hp0 (by decide +kernel) (by decide +kernel) (by decide +kernel) (fun hp17q => ?_)
    refine n_iconst (n := 0) (v := 0) (by decide +kernel) rfl ?_
    obtain ⟨v18, h18, hr⟩ := bso hr
    refine n_callSi G [_, _] (x := v18) (B_X10_thereMany G hp17q (by decide +kernel) h18) (by decide) mX10_thereMany ml_RX10_372 rfl rfl (Nat.le_of_ble_eq_true rfl) (by decide +kernel) ?_
    cases hr
    exact n_ireturn (by decide +kernel)
  · rw [if_neg hc4] at hr
    refine n_iconst (n := 0) (v := 0) (by decide +kernel) rfl ?_
    cases hr
    exact n_ireturn (by decide +kernel)
set_option maxRecDepth 100000 in
theorem B_X10_left_j27 (G : GG l s0 b L xs D cy ad) {x1 : Int32} {x2 : Int32} {M : Mm} {r : (Int32 × Mm)} (hp0 : P 76) (hp90 : P 76) (hr : f_X10_left_j27 x1 x2 M = some r) : Rn l s0 D cy ad P 15 KX10_left 27 [.ref 76, .int x1, .int x2, .null] [.ref 76] M (.inl (some (.int r.1))) (r.2) := by
  unfold f_X10_left_j27 at hr
  refine n_iconst (n := 1) (v := 1) (by decide +kernel) rfl ?_
  refine n_goto (off := 4) (tgt := 32) (by decide +kernel) (by decide) ?_
  exact B_X10_left_j32 G hp0 hp90 hr
set_option maxRecDepth 100000 in
theorem B_X10_left (G : GG l s0 b L xs D cy ad)  {x1 : Int32} {x2 : Int32} {M : Mm} {r : (Int32 × Mm)} (hp0 : P 76) (hr : f_X10_left x1 x2 M = some r) : Cl l s0 D cy ad P 15 KX10_left [.ref 76, .int x1, .int x2] M (.inl (some (.int r.1))) (r.2) := by
  refine cl_ofN (by decide +kernel) rfl rfl okI (lo0 := [_, _, _, .null]) rfl ?_
  unfold f_X10_left at hr
  refine n_aload_n (n := 0) (by decide +kernel) rfl ?_
  refine n_iconst (n := 0) (v := 0) (by decide +kernel) rfl ?_
  refine n_putI G fl_RX10_88 hp0 (by decide +kernel) (by decide +kernel) ?_
  refine n_aload_n (n := 0) (by decide +kernel) rfl ?_
  refine n_iload_n (n := 1) (by decide +kernel) rfl ?_
  refine n_iconst (n := 0) (v := 0) (by decide +kernel) rfl ?_
  refine n_sipush (n := 9999) (v := 9999) (by decide +kernel) (by decide +kernel) ?_
  obtain ⟨v1, h1, hr⟩ := bso hr
  refine n_callSi G [_, _, _] (x := v1) (B_X10_in G  h1) (by decide) mX10_in ml_RX10_122 rfl rfl (Nat.le_of_ble_eq_true rfl) (by decide +kernel) ?_
  refine n_if_eq (off := 13) (tgt := 27) (by decide +kernel) (by decide) (fun hc2 => ?_) (fun hc2 => ?_)
  · rw [if_pos hc2] at hr
    exact B_X10_left_j27 G hp0 hp0 hr
  · rw [if_neg hc2] at hr
    refine n_iload_n (n := 2) (by decide +kernel) rfl ?_
    refine n_iconst (n := 1) (v := 1) (by decide +kernel) rfl ?_
    refine n_bipush (n := 30) (v := 30) (by decide +kernel) rfl ?_
    obtain ⟨v19, h19, hr⟩ := bso hr
    refine n_callSi G [_, _, _] (x := v19) (B_X10_in G  h19) (by decide) mX10_in ml_RX10_122 rfl rfl (Nat.le_of_ble_eq_true rfl) (by decide +kernel) ?_
    refine n_if_ne (off := 7) (tgt := 31) (by decide +kernel) (by decide) (fun hc20 => ?_) (fun hc20 => ?_)
    · rw [if_neg hc20] at hr
      refine n_iconst (n := 0) (v := 0) (by decide +kernel) rfl ?_
      exact B_X10_left_j32 G hp0 hp0 hr
    · rw [if_pos hc20] at hr
      exact B_X10_left_j27 G hp0 hp0 hr
abbrev P_X10_fits_b9 (l : Launch) (s0 : State) (D : va_G) (cy : Nat → ClassId) (ad : Nat → Nat) (P : Nat → Prop)   (res : Rs) (M' : Mm) (s : (Int32 × Int32 × Mm)) : Prop := Rn l s0 D cy ad P 12 KX10_fits 9 [.ref 76, .int (s.1), .int (s.2.1), .null, .null, .null] [] (s.2.2) res M'
abbrev Q_X10_fits_b9 (l : Launch) (s0 : State) (D : va_G) (cy : Nat → ClassId) (ad : Nat → Nat) (P : Nat → Prop)   (res : Rs) (M' : Mm) (e : (Int32 × Mm)) : Prop := Rn l s0 D cy ad P 12 KX10_fits 285 [.null, .int (e.1), .null, .null, .null, .null] [] (e.2) res M'
abbrev P_X10_fits_b17 (l : Launch) (s0 : State) (D : va_G) (cy : Nat → ClassId) (ad : Nat → Nat) (P : Nat → Prop) (x1 : Int32) (x2 : Int32)  (res : Rs) (M' : Mm) (s : (Int32 × Mm)) : Prop := Rn l s0 D cy ad P 12 KX10_fits 17 [.ref 76, .int x1, .int x2, .int (s.1), .null, .null] [] (s.2) res M'
abbrev Q_X10_fits_b17 (l : Launch) (s0 : State) (D : va_G) (cy : Nat → ClassId) (ad : Nat → Nat) (P : Nat → Prop) (x1 : Int32) (x2 : Int32)  (res : Rs) (M' : Mm) (e : Mm) : Prop := Rn l s0 D cy ad P 12 KX10_fits 38 [.ref 76, .int x1, .int x2, .null, .null, .null] [] (e) res M'
set_option maxRecDepth 100000 in
theorem B_X10_fits_b17 (G : GG l s0 b L xs D cy ad) {x1 : Int32} {x2 : Int32}  {res : Rs} {M' : Mm} (hp0 : P 76) : ∀ (s : (Int32 × Mm)) (r : (Int32 × Mm) ⊕ Mm), f_X10_fits_b17 x1 x2 s = some r → mtc (P_X10_fits_b17 l s0 D cy ad P x1 x2 res M') (Q_X10_fits_b17 l s0 D cy ad P x1 x2 res M') r → P_X10_fits_b17 l s0 D cy ad P x1 x2 res M' s := by
  intro s r hr hk
  obtain ⟨x3, M⟩ := s
  unfold f_X10_fits_b17 at hr
  try dsimp only at hr
  dsimp only [P_X10_fits_b17]
  refine n_iload_n (n := 3) (by decide +kernel) rfl ?_
  refine n_aload_n (n := 0) (by decide +kernel) rfl ?_
  refine n_getI G fl_RX10_178 hp0 (by decide +kernel) (by decide +kernel) ?_
  refine n_icmp_ge (off := 16) (tgt := 38) (by decide +kernel) (by decide) (fun hc2 => ?_) (fun hc2 => ?_)
  · rw [if_pos hc2] at hr
    cases hr
    refine n_msk [true, true, true, false, false, false] (lo2 := [_, _, _, .null, .null, .null]) rfl rfl ?_
    exact hk
  · rw [if_neg hc2] at hr
    refine n_aload_n (n := 0) (by decide +kernel) rfl ?_
    refine n_getF (q := 274) G fl_RX10_79 hp0 (by decide +kernel) (by decide +kernel) (by decide +kernel) (fun hp3q => ?_)
    refine n_iload_n (n := 3) (by decide +kernel) rfl ?_
    refine n_iconst (n := 0) (v := 0) (by decide +kernel) rfl ?_
    obtain ⟨M4, h4, hr⟩ := bso hr
    refine n_iast G h4 hp3q (by decide +kernel) (by decide +kernel) (by decide +kernel) ?_
    refine n_iincK (n := 3) (j := 1) (w := 1) (lo2 := [_, _, _, _, _, _]) (by decide +kernel) rfl rfl rfl ?_
    refine n_goto (off := -18) (tgt := 17) (by decide +kernel) (by decide) ?_
    cases hr
    exact hk
end NB
