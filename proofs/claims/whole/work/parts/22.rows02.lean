/-! printed rows: a method is its function -/
section NB
variable {l : Launch} {s0 : State} {b L : Nat} {xs : Nat → Int32} {D : va_G} {cy : Nat → ClassId} {ad : Nat → Nat} {P : Nat → Prop}
set_option maxRecDepth 100000 in
theorem B_X8_harmOfAll_b5 (G : GG l s0 b L xs D cy ad) {a0 : Nat} {a1 : Nat} {x2 : Int32}  {res : Rs} {M' : Mm} (hp0 : P a0) (hs0 : SH a0 = 8) (hp1 : P a1) (hs1 : SH a1 = 3) : ∀ (s : (Int32 × Int32 × Mm)) (r : (Int32 × Int32 × Mm) ⊕ (Int32 × Mm)), f_X8_harmOfAll_b5 a0 a1 x2 s = some r → mtc (P_X8_harmOfAll_b5 l s0 D cy ad P a0 a1 x2 res M') (Q_X8_harmOfAll_b5 l s0 D cy ad P a0 a1 x2 res M') r → P_X8_harmOfAll_b5 l s0 D cy ad P a0 a1 x2 res M' s := by
  intro s r hr hk
  obtain ⟨x3, x4, M⟩ := s
  unfold f_X8_harmOfAll_b5 at hr
  try dsimp only at hr
  dsimp only [P_X8_harmOfAll_b5]
  refine n_iload (n := 4) (by decide +kernel) rfl ?_
  refine n_aload_n (n := 0) (by decide +kernel) rfl ?_
  refine n_getI G fl_RX8_43 hp0 hs0 (by decide +kernel) ?_
  refine n_icmp_ge (off := 48) (tgt := 59) (by decide +kernel) (by decide) (fun hc1 => ?_) (fun hc1 => ?_)
  · rw [if_pos hc1] at hr
    cases hr
    refine n_msk [false, false, false, true, false] (lo2 := [.null, .null, .null, _, .null]) rfl rfl ?_
    exact hk
  · rw [if_neg hc1] at hr
    refine n_aload_n (n := 0) (by decide +kernel) rfl ?_
    refine n_iload (n := 4) (by decide +kernel) rfl ?_
    obtain ⟨v2, h2, hr⟩ := bso hr
    refine n_callVi G [_] (x := v2) (B_X8_isAsked G hp0 hs0 h2) (by decide) mX8_isAsked ml_RX8_90 hp0 hs0 rfl rfl (Nat.le_of_ble_eq_true rfl) (by decide +kernel) ?_
    refine n_if_eq (off := 33) (tgt := 53) (by decide +kernel) (by decide) (fun hc3 => ?_) (fun hc3 => ?_)
    · rw [if_pos hc3] at hr
      refine n_iincK (n := 4) (j := 1) (w := 1) (lo2 := [_, _, _, _, _]) (by decide +kernel) rfl rfl rfl ?_
      refine n_goto (off := -51) (tgt := 5) (by decide +kernel) (by decide) ?_
      cases hr
      exact hk
    · rw [if_neg hc3] at hr
      refine n_aload_n (n := 0) (by decide +kernel) rfl ?_
      refine n_iload (n := 4) (by decide +kernel) rfl ?_
      obtain ⟨v4, h4, hr⟩ := bso hr
      refine n_callVi G [_] (x := v4) (B_X8_sizeOf G hp0 hs0 h4) (by decide) mX8_sizeOf ml_RX8_93 hp0 hs0 rfl rfl (Nat.le_of_ble_eq_true rfl) (by decide +kernel) ?_
      refine n_iload_n (n := 2) (by decide +kernel) rfl ?_
      refine n_icmp_ge (off := 23) (tgt := 53) (by decide +kernel) (by decide) (fun hc5 => ?_) (fun hc5 => ?_)
      · rw [if_pos hc5] at hr
        refine n_iincK (n := 4) (j := 1) (w := 1) (lo2 := [_, _, _, _, _]) (by decide +kernel) rfl rfl rfl ?_
        refine n_goto (off := -51) (tgt := 5) (by decide +kernel) (by decide) ?_
        cases hr
        exact hk
      · rw [if_neg hc5] at hr
        refine n_iload_n (n := 3) (by decide +kernel) rfl ?_
        refine n_aload_n (n := 0) (by decide +kernel) rfl ?_
        refine n_aload_n (n := 1) (by decide +kernel) rfl ?_
        refine n_aload_n (n := 0) (by decide +kernel) rfl ?_
        refine n_iload (n := 4) (by decide +kernel) rfl ?_
        obtain ⟨v6, h6, hr⟩ := bso hr
        refine n_callVi G [_] (x := v6) (B_X8_cellOf G hp0 hs0 h6) (by decide) mX8_cellOf ml_RX8_84 hp0 hs0 rfl rfl (Nat.le_of_ble_eq_true rfl) (by decide +kernel) ?_
        refine n_aload_n (n := 0) (by decide +kernel) rfl ?_
        refine n_iload (n := 4) (by decide +kernel) rfl ?_
        obtain ⟨v7, h7, hr⟩ := bso hr
        refine n_callVi G [_] (x := v7) (B_X8_sizeOf G hp0 hs0 h7) (by decide) mX8_sizeOf ml_RX8_93 hp0 hs0 rfl rfl (Nat.le_of_ble_eq_true rfl) (by decide +kernel) ?_
        obtain ⟨⟨v8, M8⟩, h8, hr⟩ := bso hr
        try dsimp only at hr
        refine n_callVi G [_, _, _] (x := v8) (M1 := M8) (B_X8_harmOf G hp0 hs0 hp1 hs1 h8) (by decide) mX8_harmOf ml_RX8_212 hp0 hs0 rfl rfl (Nat.le_of_ble_eq_true rfl) (by decide +kernel) ?_
        refine n_iadd (by decide +kernel) ?_
        refine n_istore_n (n := 3) (lo2 := [_, _, _, _, _]) (by decide +kernel) (Nat.le_of_ble_eq_true rfl) rfl ?_
        refine n_iincK (n := 4) (j := 1) (w := 1) (lo2 := [_, _, _, _, _]) (by decide +kernel) rfl rfl rfl ?_
        refine n_goto (off := -51) (tgt := 5) (by decide +kernel) (by decide) ?_
        cases hr
        exact hk
set_option maxRecDepth 100000 in
theorem W_X8_harmOfAll_b5 (G : GG l s0 b L xs D cy ad) {a0 : Nat} {a1 : Nat} {x2 : Int32}  (hp0 : P a0) (hs0 : SH a0 = 8) (hp1 : P a1) (hs1 : SH a1 = 3) {s : (Int32 × Int32 × Mm)} {e : (Int32 × Mm)} (h : whl fu (f_X8_harmOfAll_b5 a0 a1 x2) s = some e) (res : Rs) (M' : Mm) : Q_X8_harmOfAll_b5 l s0 D cy ad P a0 a1 x2 res M' e → P_X8_harmOfAll_b5 l s0 D cy ad P a0 a1 x2 res M' s := whl_run (P := fun s => P_X8_harmOfAll_b5 l s0 D cy ad P a0 a1 x2 res M' s) (Q := fun e => Q_X8_harmOfAll_b5 l s0 D cy ad P a0 a1 x2 res M' e) (B_X8_harmOfAll_b5 G (res := res) (M' := M') (a0 := a0) (a1 := a1) (x2 := x2) hp0 hs0 hp1 hs1) fu s h
set_option maxRecDepth 100000 in
theorem B_X8_harmOfAll (G : GG l s0 b L xs D cy ad)  {a0 : Nat} {a1 : Nat} {x2 : Int32} {M : Mm} {r : (Int32 × Mm)} (hp0 : P a0) (hs0 : SH a0 = 8) (hp1 : P a1) (hs1 : SH a1 = 3) (hr : f_X8_harmOfAll a0 a1 x2 M = some r) : Cl l s0 D cy ad P 12 KX8_harmOfAll [.ref a0, .ref a1, .int x2] M (.inl (some (.int r.1))) (r.2) := by
  refine cl_ofN (by decide +kernel) rfl rfl okI (lo0 := [_, _, _, .null, .null]) rfl ?_
  unfold f_X8_harmOfAll at hr
  refine n_iconst (n := 0) (v := 0) (by decide +kernel) rfl ?_
  refine n_istore_n (n := 3) (lo2 := [_, _, _, _, _]) (by decide +kernel) (Nat.le_of_ble_eq_true rfl) rfl ?_
  refine n_iconst (n := 0) (v := 0) (by decide +kernel) rfl ?_
  refine n_istore (n := 4) (lo2 := [_, _, _, _, _]) (by decide +kernel) (Nat.le_of_ble_eq_true rfl) rfl ?_
  obtain ⟨e9, h9, hr⟩ := bso hr
  refine (W_X8_harmOfAll_b5 G hp0 hs0 hp1 hs1 h9 _ _) ?_
  obtain ⟨z3_9, M9⟩ := e9
  try dsimp only at hr
  dsimp only [Q_X8_harmOfAll_b5]
  refine n_iload_n (n := 3) (by decide +kernel) rfl ?_
  cases hr
  exact n_ireturn (by decide +kernel)
abbrev P_X0_planLine_b12 (l : Launch) (s0 : State) (D : va_G) (cy : Nat → ClassId) (ad : Nat → Nat) (P : Nat → Prop) (a1 : Nat) (a2 : Nat) (x3 : Int32)  (res : Rs) (M' : Mm) (s : (Int32 × Mm)) : Prop := Rn l s0 D cy ad P 13 KX0_planLine 12 [.ref 12, .ref a1, .ref a2, .int x3, .int (s.1), .null] [] (s.2) res M'
abbrev Q_X0_planLine_b12 (l : Launch) (s0 : State) (D : va_G) (cy : Nat → ClassId) (ad : Nat → Nat) (P : Nat → Prop) (a1 : Nat) (a2 : Nat) (x3 : Int32)  (res : Rs) (M' : Mm) (e : Mm) : Prop := Rn l s0 D cy ad P 13 KX0_planLine 81 [.null, .null, .null, .null, .null, .null] [] (e) res M'
set_option maxRecDepth 100000 in
theorem B_X0_planLine_j64 (G : GG l s0 b L xs D cy ad) {a1 : Nat} {a2 : Nat} {x3 : Int32} {x4 : Int32} {x5 : Int32} {M : Mm}  {res : Rs} {M' : Mm} {r : ((Int32 × Mm) ⊕ Mm)} (hp0 : P 12) (hp1 : P a1) (hs1 : SH a1 = 3) (hp2 : P a2) (hs2 : SH a2 = 8) (hr : f_X0_planLine_j64 a1 a2 x3 x4 x5 M = some r) (hk : mtc (P_X0_planLine_b12 l s0 D cy ad P a1 a2 x3 res M') (Q_X0_planLine_b12 l s0 D cy ad P a1 a2 x3 res M') r) : Rn l s0 D cy ad P 13 KX0_planLine 64 [.ref 12, .ref a1, .ref a2, .int x3, .int x4, .int x5] [] M res M' := by
  unfold f_X0_planLine_j64 at hr
  refine n_aload_n (n := 0) (by decide +kernel) rfl ?_
  refine n_iload (n := 4) (by decide +kernel) rfl ?_
  refine n_i2l (by decide +kernel) ?_
  refine n_iload (n := 5) (by decide +kernel) rfl ?_
  refine n_i2l (by decide +kernel) ?_
  refine n_lconst (n := 0) (v := 0) (by decide +kernel) rfl ?_
  obtain ⟨M8, h8, hr⟩ := bso hr
  refine n_callVv G [_, _, _] (M1 := M8) (B_X0_settle G hp0 h8) (by decide) mX0_settle ml_RX0_28 hp0 (by decide +kernel) rfl rfl (Nat.le_of_ble_eq_true rfl) (by decide +kernel) ?_
  refine n_iincK (n := 4) (j := 1) (w := 1) (lo2 := [_, _, _, _, _, _]) (by decide +kernel) rfl rfl rfl ?_
  refine n_goto (off := -66) (tgt := 12) (by decide +kernel) (by decide) ?_
  cases hr
  refine n_msk [true, true, true, true, true, false] (lo2 := [_, _, _, _, _, .null]) rfl rfl ?_
  exact hk
set_option maxRecDepth 100000 in
theorem B_X0_planLine_b12 (G : GG l s0 b L xs D cy ad) {a1 : Nat} {a2 : Nat} {x3 : Int32}  {res : Rs} {M' : Mm} (hp0 : P 12) (hp1 : P a1) (hs1 : SH a1 = 3) (hp2 : P a2) (hs2 : SH a2 = 8) : ∀ (s : (Int32 × Mm)) (r : (Int32 × Mm) ⊕ Mm), f_X0_planLine_b12 a1 a2 x3 s = some r → mtc (P_X0_planLine_b12 l s0 D cy ad P a1 a2 x3 res M') (Q_X0_planLine_b12 l s0 D cy ad P a1 a2 x3 res M') r → P_X0_planLine_b12 l s0 D cy ad P a1 a2 x3 res M' s := by
  intro s r hr hk
  obtain ⟨x4, M⟩ := s
  unfold f_X0_planLine_b12 at hr
  try dsimp only at hr
  dsimp only [P_X0_planLine_b12]
  refine n_iload (n := 4) (by decide +kernel) rfl ?_
  refine n_bipush (n := 10) (v := 10) (by decide +kernel) rfl ?_
  refine n_icmp_gt (off := 65) (tgt := 81) (by decide +kernel) (by decide) (fun hc2 => ?_) (fun hc2 => ?_)
  · rw [if_pos hc2] at hr
    cases hr
    refine n_msk [false, false, false, false, false, false] (lo2 := [.null, .null, .null, .null, .null, .null]) rfl rfl ?_
    exact hk
  · rw [if_neg hc2] at hr
    refine n_aload_n (n := 2) (by decide +kernel) rfl ?_
    refine n_aload_n (n := 1) (by decide +kernel) rfl ?_
    refine n_iload (n := 4) (by decide +kernel) rfl ?_
    obtain ⟨v3, h3, hr⟩ := bso hr
    refine n_callVi G [_, _] (x := v3) (B_X8_clearingOfAll G hp2 hs2 hp1 hs1 h3) (by decide) mX8_clearingOfAll ml_RX0_147 hp2 hs2 rfl rfl (Nat.le_of_ble_eq_true rfl) (by decide +kernel) ?_
    refine n_iload_n (n := 3) (by decide +kernel) rfl ?_
    refine n_aload_n (n := 2) (by decide +kernel) rfl ?_
    refine n_aload_n (n := 1) (by decide +kernel) rfl ?_
    refine n_iload (n := 4) (by decide +kernel) rfl ?_
    obtain ⟨⟨v4, M4⟩, h4, hr⟩ := bso hr
    try dsimp only at hr
    refine n_callVi G [_, _] (x := v4) (M1 := M4) (B_X8_harmOfAll G hp2 hs2 hp1 hs1 h4) (by decide) mX8_harmOfAll ml_RX0_151 hp2 hs2 rfl rfl (Nat.le_of_ble_eq_true rfl) (by decide +kernel) ?_
    refine n_imul (by decide +kernel) ?_
    refine n_iadd (by decide +kernel) ?_
    refine n_istore (n := 5) (lo2 := [_, _, _, _, _, _]) (by decide +kernel) (Nat.le_of_ble_eq_true rfl) rfl ?_
    refine n_aload_n (n := 0) (by decide +kernel) rfl ?_
    refine n_getF (q := 13) G fl_RX0_9 hp0 (by decide +kernel) (by decide +kernel) (by decide +kernel) (fun hp5q => ?_)
    refine n_iconst (n := 0) (v := 0) (by decide +kernel) rfl ?_
    obtain ⟨v6, h6, hr⟩ := bso hr
    refine n_lald G h6 hp5q (by decide +kernel) (by decide +kernel) (by decide +kernel) ?_
    refine n_ldc2 G ct_RX0_145 (by decide +kernel) ?_
    refine n_lcmp (by decide +kernel) ?_
    refine n_if_eq (off := 16) (tgt := 64) (by decide +kernel) (by decide) (fun hc7 => ?_) (fun hc7 => ?_)
    · rw [if_pos hc7] at hr
      exact B_X0_planLine_j64 G hp0 hp1 hs1 hp2 hs2 hr hk
    · rw [if_neg hc7] at hr
      refine n_iload (n := 5) (by decide +kernel) rfl ?_
      refine n_i2l (by decide +kernel) ?_
      refine n_aload_n (n := 0) (by decide +kernel) rfl ?_
      refine n_getF (q := 13) G fl_RX0_9 hp0 (by decide +kernel) (by decide +kernel) (by decide +kernel) (fun hp9q => ?_)
      refine n_iconst (n := 1) (v := 1) (by decide +kernel) rfl ?_
      obtain ⟨v10, h10, hr⟩ := bso hr
      refine n_lald G h10 hp9q (by decide +kernel) (by decide +kernel) (by decide +kernel) ?_
      refine n_lcmp (by decide +kernel) ?_
      refine n_if_ge (off := 14) (tgt := 75) (by decide +kernel) (by decide) (fun hc11 => ?_) (fun hc11 => ?_)
      · rw [if_pos hc11] at hr
        refine n_iincK (n := 4) (j := 1) (w := 1) (lo2 := [_, _, _, _, _, _]) (by decide +kernel) rfl rfl rfl ?_
        refine n_goto (off := -66) (tgt := 12) (by decide +kernel) (by decide) ?_
        cases hr
        refine n_msk [true, true, true, true, true, false] (lo2 := [_, _, _, _, _, .null]) rfl rfl ?_
        exact hk
      · rw [if_neg hc11] at hr
        exact B_X0_planLine_j64 G hp0 hp1 hs1 hp2 hs2 hr hk
set_option maxRecDepth 100000 in
theorem W_X0_planLine_b12 (G : GG l s0 b L xs D cy ad) {a1 : Nat} {a2 : Nat} {x3 : Int32}  (hp0 : P 12) (hp1 : P a1) (hs1 : SH a1 = 3) (hp2 : P a2) (hs2 : SH a2 = 8) {s : (Int32 × Mm)} {e : Mm} (h : whl fu (f_X0_planLine_b12 a1 a2 x3) s = some e) (res : Rs) (M' : Mm) : Q_X0_planLine_b12 l s0 D cy ad P a1 a2 x3 res M' e → P_X0_planLine_b12 l s0 D cy ad P a1 a2 x3 res M' s := whl_run (P := fun s => P_X0_planLine_b12 l s0 D cy ad P a1 a2 x3 res M' s) (Q := fun e => Q_X0_planLine_b12 l s0 D cy ad P a1 a2 x3 res M' e) (B_X0_planLine_b12 G (res := res) (M' := M') (a1 := a1) (a2 := a2) (x3 := x3) hp0 hp1 hs1 hp2 hs2) fu s h
set_option maxRecDepth 100000 in
theorem B_X0_planLine (G : GG l s0 b L xs D cy ad)  {a1 : Nat} {a2 : Nat} {x3 : Int32} {M : Mm} {r : Mm} (hp0 : P 12) (hp1 : P a1) (hs1 : SH a1 = 3) (hp2 : P a2) (hs2 : SH a2 = 8) (hr : f_X0_planLine a1 a2 x3 M = some r) : Cl l s0 D cy ad P 13 KX0_planLine [.ref 12, .ref a1, .ref a2, .int x3] M (.inl none) (r) := by
  refine cl_ofN (by decide +kernel) rfl rfl rfl (lo0 := [_, _, _, _, .null, .null]) rfl ?_
  unfold f_X0_planLine at hr
  refine n_aload_n (n := 0) (by decide +kernel) rfl ?_
  refine n_ldc2 G ct_RX0_145 (by decide +kernel) ?_
  refine n_lconst (n := 0) (v := 0) (by decide +kernel) rfl ?_
  refine n_lconst (n := 0) (v := 0) (by decide +kernel) rfl ?_
  obtain ⟨M1, h1, hr⟩ := bso hr
  refine n_callVv G [_, _, _] (M1 := M1) (B_X0_settle G hp0 h1) (by decide) mX0_settle ml_RX0_28 hp0 (by decide +kernel) rfl rfl (Nat.le_of_ble_eq_true rfl) (by decide +kernel) ?_
  refine n_iconst (n := 1) (v := 1) (by decide +kernel) rfl ?_
  refine n_istore (n := 4) (lo2 := [_, _, _, _, _, _]) (by decide +kernel) (Nat.le_of_ble_eq_true rfl) rfl ?_
  obtain ⟨M12, h12, hr⟩ := bso hr
  refine (W_X0_planLine_b12 G hp0 hp1 hs1 hp2 hs2 h12 _ _) ?_
  dsimp only [Q_X0_planLine_b12]
  cases hr
  exact n_return (by decide +kernel)
set_option maxRecDepth 100000 in
theorem B_X8_liesIn (G : GG l s0 b L xs D cy ad)  {a0 : Nat} {x1 : Int32} {x2 : Int32} {M : Mm} {r : Int32} (hp0 : P a0) (hs0 : SH a0 = 8) (hr : f_X8_liesIn a0 x1 x2 M = some r) : Cl l s0 D cy ad P 11 KX8_liesIn [.ref a0, .int x1, .int x2] M (.inl (some (.int r))) (M) := by
  unfold f_X8_liesIn at hr
  obtain ⟨v0, h0, h1⟩ := bso hr
  clear hr
  obtain ⟨hb, rfl⟩ := rB_in h1
  have hr := h0
  clear h0
  refine cl_ofN (by decide +kernel) rfl rfl (okB hb) (lo0 := [_, _, _]) rfl ?_
  unfold g_X8_liesIn at hr
  refine n_aload_n (n := 0) (by decide +kernel) rfl ?_
  refine n_iload_n (n := 1) (by decide +kernel) rfl ?_
  obtain ⟨v1, h1, hr⟩ := bso hr
  refine n_callVi G [_] (x := v1) (B_X8_placeOf G hp0 hs0 h1) (by decide) mX8_placeOf ml_RX8_80 hp0 hs0 rfl rfl (Nat.le_of_ble_eq_true rfl) (by decide +kernel) ?_
  refine n_if_ne (off := 16) (tgt := 21) (by decide +kernel) (by decide) (fun hc2 => ?_) (fun hc2 => ?_)
  · rw [if_neg hc2] at hr
    refine n_iconst (n := 0) (v := 0) (by decide +kernel) rfl ?_
    cases hr
    exact n_ireturn (by decide +kernel)
  · rw [if_pos hc2] at hr
    refine n_aload_n (n := 0) (by decide +kernel) rfl ?_
    refine n_iload_n (n := 1) (by decide +kernel) rfl ?_
    obtain ⟨v3, h3, hr⟩ := bso hr
    refine n_callVi G [_] (x := v3) (B_X8_cellOf G hp0 hs0 h3) (by decide) mX8_cellOf ml_RX8_84 hp0 hs0 rfl rfl (Nat.le_of_ble_eq_true rfl) (by decide +kernel) ?_
    refine n_iload_n (n := 2) (by decide +kernel) rfl ?_
    refine n_icmp_ne (off := 7) (tgt := 21) (by decide +kernel) (by decide) (fun hc4 => ?_) (fun hc4 => ?_)
    · rw [if_neg hc4] at hr
      refine n_iconst (n := 0) (v := 0) (by decide +kernel) rfl ?_
      cases hr
      exact n_ireturn (by decide +kernel)
    · rw [if_pos hc4] at hr
      refine n_iconst (n := 1) (v := 1) (by decide +kernel) rfl ?_
      refine n_goto (off := 4) (tgt := 22) (by decide +kernel) (by decide) ?_
      cases hr
      exact n_ireturn (by decide +kernel)
abbrev P_X8_clearingOfCell_b5 (l : Launch) (s0 : State) (D : va_G) (cy : Nat → ClassId) (ad : Nat → Nat) (P : Nat → Prop) (a0 : Nat) (a1 : Nat) (x2 : Int32) (M : Mm) (res : Rs) (M' : Mm) (s : (Int32 × Int32)) : Prop := Rn l s0 D cy ad P 12 KX8_clearingOfCell 5 [.ref a0, .ref a1, .int x2, .int (s.1), .int (s.2)] [] M res M'
abbrev Q_X8_clearingOfCell_b5 (l : Launch) (s0 : State) (D : va_G) (cy : Nat → ClassId) (ad : Nat → Nat) (P : Nat → Prop) (a0 : Nat) (a1 : Nat) (x2 : Int32) (M : Mm) (res : Rs) (M' : Mm) (e : Int32) : Prop := Rn l s0 D cy ad P 12 KX8_clearingOfCell 44 [.null, .null, .null, .int (e), .null] [] M res M'
set_option maxRecDepth 100000 in
theorem B_X8_clearingOfCell_b5 (G : GG l s0 b L xs D cy ad) {a0 : Nat} {a1 : Nat} {x2 : Int32} {M : Mm} {res : Rs} {M' : Mm} (hp0 : P a0) (hs0 : SH a0 = 8) (hp1 : P a1) (hs1 : SH a1 = 3) : ∀ (s : (Int32 × Int32)) (r : (Int32 × Int32) ⊕ Int32), f_X8_clearingOfCell_b5 a0 a1 x2 M s = some r → mtc (P_X8_clearingOfCell_b5 l s0 D cy ad P a0 a1 x2 M res M') (Q_X8_clearingOfCell_b5 l s0 D cy ad P a0 a1 x2 M res M') r → P_X8_clearingOfCell_b5 l s0 D cy ad P a0 a1 x2 M res M' s := by
  intro s r hr hk
  obtain ⟨x3, x4⟩ := s
  unfold f_X8_clearingOfCell_b5 at hr
  try dsimp only at hr
  dsimp only [P_X8_clearingOfCell_b5]
  refine n_iload (n := 4) (by decide +kernel) rfl ?_
  refine n_aload_n (n := 0) (by decide +kernel) rfl ?_
  refine n_getI G fl_RX8_43 hp0 hs0 (by decide +kernel) ?_
  refine n_icmp_ge (off := 33) (tgt := 44) (by decide +kernel) (by decide) (fun hc1 => ?_) (fun hc1 => ?_)
  · rw [if_pos hc1] at hr
    cases hr
    refine n_msk [false, false, false, true, false] (lo2 := [.null, .null, .null, _, .null]) rfl rfl ?_
    exact hk
  · rw [if_neg hc1] at hr
    refine n_iload_n (n := 3) (by decide +kernel) rfl ?_
    refine n_aload_n (n := 0) (by decide +kernel) rfl ?_
    refine n_iload (n := 4) (by decide +kernel) rfl ?_
    refine n_iload_n (n := 2) (by decide +kernel) rfl ?_
    obtain ⟨v2, h2, hr⟩ := bso hr
    refine n_callVi G [_, _] (x := v2) (B_X8_liesIn G hp0 hs0 h2) (by decide) mX8_liesIn ml_RX8_96 hp0 hs0 rfl rfl (Nat.le_of_ble_eq_true rfl) (by decide +kernel) ?_
    refine n_if_eq (off := 13) (tgt := 35) (by decide +kernel) (by decide) (fun hc3 => ?_) (fun hc3 => ?_)
    · rw [if_pos hc3] at hr
      refine n_iconst (n := 0) (v := 0) (by decide +kernel) rfl ?_
      refine n_iadd (by decide +kernel) ?_
      refine n_istore_n (n := 3) (lo2 := [_, _, _, _, _]) (by decide +kernel) (Nat.le_of_ble_eq_true rfl) rfl ?_
      refine n_iincK (n := 4) (j := 1) (w := 1) (lo2 := [_, _, _, _, _]) (by decide +kernel) rfl rfl rfl ?_
      refine n_goto (off := -36) (tgt := 5) (by decide +kernel) (by decide) ?_
      cases hr
      exact hk
    · rw [if_neg hc3] at hr
      refine n_aload_n (n := 0) (by decide +kernel) rfl ?_
      refine n_aload_n (n := 1) (by decide +kernel) rfl ?_
      refine n_iload (n := 4) (by decide +kernel) rfl ?_
      obtain ⟨v4, h4, hr⟩ := bso hr
      refine n_callVi G [_, _] (x := v4) (B_X8_clearingOf G hp0 hs0 hp1 hs1 h4) (by decide) mX8_clearingOf ml_RX8_216 hp0 hs0 rfl rfl (Nat.le_of_ble_eq_true rfl) (by decide +kernel) ?_
      refine n_goto (off := 4) (tgt := 36) (by decide +kernel) (by decide) ?_
      refine n_iadd (by decide +kernel) ?_
      refine n_istore_n (n := 3) (lo2 := [_, _, _, _, _]) (by decide +kernel) (Nat.le_of_ble_eq_true rfl) rfl ?_
      refine n_iincK (n := 4) (j := 1) (w := 1) (lo2 := [_, _, _, _, _]) (by decide +kernel) rfl rfl rfl ?_
      refine n_goto (off := -36) (tgt := 5) (by decide +kernel) (by decide) ?_
      cases hr
      exact hk
set_option maxRecDepth 100000 in
theorem W_X8_clearingOfCell_b5 (G : GG l s0 b L xs D cy ad) {a0 : Nat} {a1 : Nat} {x2 : Int32} {M : Mm} (hp0 : P a0) (hs0 : SH a0 = 8) (hp1 : P a1) (hs1 : SH a1 = 3) {s : (Int32 × Int32)} {e : Int32} (h : whl fu (f_X8_clearingOfCell_b5 a0 a1 x2 M) s = some e) (res : Rs) (M' : Mm) : Q_X8_clearingOfCell_b5 l s0 D cy ad P a0 a1 x2 M res M' e → P_X8_clearingOfCell_b5 l s0 D cy ad P a0 a1 x2 M res M' s := whl_run (P := fun s => P_X8_clearingOfCell_b5 l s0 D cy ad P a0 a1 x2 M res M' s) (Q := fun e => Q_X8_clearingOfCell_b5 l s0 D cy ad P a0 a1 x2 M res M' e) (B_X8_clearingOfCell_b5 G (res := res) (M' := M') (a0 := a0) (a1 := a1) (x2 := x2) (M := M) hp0 hs0 hp1 hs1) fu s h
set_option maxRecDepth 100000 in
theorem B_X8_clearingOfCell (G : GG l s0 b L xs D cy ad)  {a0 : Nat} {a1 : Nat} {x2 : Int32} {M : Mm} {r : Int32} (hp0 : P a0) (hs0 : SH a0 = 8) (hp1 : P a1) (hs1 : SH a1 = 3) (hr : f_X8_clearingOfCell a0 a1 x2 M = some r) : Cl l s0 D cy ad P 12 KX8_clearingOfCell [.ref a0, .ref a1, .int x2] M (.inl (some (.int r))) (M) := by
  refine cl_ofN (by decide +kernel) rfl rfl okI (lo0 := [_, _, _, .null, .null]) rfl ?_
  unfold f_X8_clearingOfCell at hr
  refine n_iconst (n := 0) (v := 0) (by decide +kernel) rfl ?_
  refine n_istore_n (n := 3) (lo2 := [_, _, _, _, _]) (by decide +kernel) (Nat.le_of_ble_eq_true rfl) rfl ?_
  refine n_iconst (n := 0) (v := 0) (by decide +kernel) rfl ?_
  refine n_istore (n := 4) (lo2 := [_, _, _, _, _]) (by decide +kernel) (Nat.le_of_ble_eq_true rfl) rfl ?_
  obtain ⟨z3_5, h5, hr⟩ := bso hr
  refine (W_X8_clearingOfCell_b5 G hp0 hs0 hp1 hs1 h5 _ _) ?_
  dsimp only [Q_X8_clearingOfCell_b5]
  refine n_iload_n (n := 3) (by decide +kernel) rfl ?_
  cases hr
  exact n_ireturn (by decide +kernel)
abbrev P_X0_spendOn_b10 (l : Launch) (s0 : State) (D : va_G) (cy : Nat → ClassId) (ad : Nat → Nat) (P : Nat → Prop) (x1 : Int32) (x2 : Int32) (x3 : Int32)  (res : Rs) (M' : Mm) (s : (Int32 × Mm)) : Prop := Rn l s0 D cy ad P 9 KX0_spendOn 10 [.ref 12, .int x1, .int x2, .int x3, .null, .int (s.1), .null] [] (s.2) res M'
abbrev Q_X0_spendOn_b10 (l : Launch) (s0 : State) (D : va_G) (cy : Nat → ClassId) (ad : Nat → Nat) (P : Nat → Prop) (x1 : Int32) (x2 : Int32) (x3 : Int32)  (res : Rs) (M' : Mm) (e : Mm) : Prop := Rn l s0 D cy ad P 9 KX0_spendOn 96 [.null, .null, .null, .null, .null, .null, .null] [] (e) res M'
set_option maxRecDepth 100000 in
theorem B_X0_spendOn_b10 (G : GG l s0 b L xs D cy ad) {x1 : Int32} {x2 : Int32} {x3 : Int32}  {res : Rs} {M' : Mm} (hp0 : P 12) : ∀ (s : (Int32 × Mm)) (r : (Int32 × Mm) ⊕ Mm), f_X0_spendOn_b10 x1 x2 x3 s = some r → mtc (P_X0_spendOn_b10 l s0 D cy ad P x1 x2 x3 res M') (Q_X0_spendOn_b10 l s0 D cy ad P x1 x2 x3 res M') r → P_X0_spendOn_b10 l s0 D cy ad P x1 x2 x3 res M' s := by
  intro s r hr hk
  obtain ⟨x5, M⟩ := s
  unfold f_X0_spendOn_b10 at hr
  try dsimp only at hr
  dsimp only [P_X0_spendOn_b10]
  refine n_iload (n := 5) (by decide +kernel) rfl ?_
  refine n_iload_n (n := 2) (by decide +kernel) rfl ?_
  refine n_icmp_lt (off := 83) (tgt := 96) (by decide +kernel) (by decide) (fun hc1 => ?_) (fun hc1 => ?_)
  · rw [if_pos hc1] at hr
    cases hr
    refine n_msk [false, false, false, false, false, false, false] (lo2 := [.null, .null, .null, .null, .null, .null, .null]) rfl rfl ?_
    exact hk
  · rw [if_neg hc1] at hr
    refine n_iload_n (n := 2) (by decide +kernel) rfl ?_
    refine n_if_le (off := 79) (tgt := 96) (by decide +kernel) (by decide) (fun hc2 => ?_) (fun hc2 => ?_)
    · rw [if_pos hc2] at hr
      cases hr
      refine n_msk [false, false, false, false, false, false, false] (lo2 := [.null, .null, .null, .null, .null, .null, .null]) rfl rfl ?_
      exact hk
    · rw [if_neg hc2] at hr
      refine n_iload (n := 5) (by decide +kernel) rfl ?_
      refine n_iload_n (n := 2) (by decide +kernel) rfl ?_
      refine n_isub (by decide +kernel) ?_
      refine n_istore (n := 6) (lo2 := [_, _, _, _, _, _, _]) (by decide +kernel) (Nat.le_of_ble_eq_true rfl) rfl ?_
      refine n_aload_n (n := 0) (by decide +kernel) rfl ?_
      refine n_getF (q := 15) G fl_RX0_19 hp0 (by decide +kernel) (by decide +kernel) (by decide +kernel) (fun hp3q => ?_)
      refine n_iload (n := 6) (by decide +kernel) rfl ?_
      obtain ⟨v4, h4, hr⟩ := bso hr
      refine n_iald G h4 hp3q (by decide +kernel) (by decide +kernel) (by decide +kernel) ?_
      refine n_iconst (n := -1) (v := -1) (by decide +kernel) rfl ?_
      refine n_icmp_eq (off := 56) (tgt := 90) (by decide +kernel) (by decide) (fun hc5 => ?_) (fun hc5 => ?_)
      · rw [if_pos hc5] at hr
        refine n_iincK (n := 5) (j := -1) (w := -1) (lo2 := [_, _, _, _, _, _, _]) (by decide +kernel) rfl rfl rfl ?_
        refine n_goto (off := -83) (tgt := 10) (by decide +kernel) (by decide) ?_
        cases hr
        refine n_msk [true, true, true, true, false, true, false] (lo2 := [_, _, _, _, .null, _, .null]) rfl rfl ?_
        exact hk
      · rw [if_neg hc5] at hr
        refine n_aload_n (n := 0) (by decide +kernel) rfl ?_
        refine n_getF (q := 15) G fl_RX0_19 hp0 (by decide +kernel) (by decide +kernel) (by decide +kernel) (fun hp6q => ?_)
        refine n_iload (n := 6) (by decide +kernel) rfl ?_
        obtain ⟨v7, h7, hr⟩ := bso hr
        refine n_iald G h7 hp6q (by decide +kernel) (by decide +kernel) (by decide +kernel) ?_
        refine n_iload_n (n := 3) (by decide +kernel) rfl ?_
        refine n_iadd (by decide +kernel) ?_
        refine n_aload_n (n := 0) (by decide +kernel) rfl ?_
        refine n_getF (q := 15) G fl_RX0_19 hp0 (by decide +kernel) (by decide +kernel) (by decide +kernel) (fun hp8q => ?_)
        refine n_iload (n := 5) (by decide +kernel) rfl ?_
        obtain ⟨v9, h9, hr⟩ := bso hr
        refine n_iald G h9 hp8q (by decide +kernel) (by decide +kernel) (by decide +kernel) ?_
        refine n_icmp_le (off := 37) (tgt := 90) (by decide +kernel) (by decide) (fun hc10 => ?_) (fun hc10 => ?_)
        · rw [if_pos hc10] at hr
          refine n_iincK (n := 5) (j := -1) (w := -1) (lo2 := [_, _, _, _, _, _, _]) (by decide +kernel) rfl rfl rfl ?_
          refine n_goto (off := -83) (tgt := 10) (by decide +kernel) (by decide) ?_
          cases hr
          refine n_msk [true, true, true, true, false, true, false] (lo2 := [_, _, _, _, .null, _, .null]) rfl rfl ?_
          exact hk
        · rw [if_neg hc10] at hr
          refine n_aload_n (n := 0) (by decide +kernel) rfl ?_
          refine n_getF (q := 15) G fl_RX0_19 hp0 (by decide +kernel) (by decide +kernel) (by decide +kernel) (fun hp11q => ?_)
          refine n_iload (n := 5) (by decide +kernel) rfl ?_
          refine n_aload_n (n := 0) (by decide +kernel) rfl ?_
          refine n_getF (q := 15) G fl_RX0_19 hp0 (by decide +kernel) (by decide +kernel) (by decide +kernel) (fun hp12q => ?_)
          refine n_iload (n := 6) (by decide +kernel) rfl ?_
          obtain ⟨v13, h13, hr⟩ := bso hr
          refine n_iald G h13 hp12q (by decide +kernel) (by decide +kernel) (by decide +kernel) ?_
          refine n_iload_n (n := 3) (by decide +kernel) rfl ?_
          refine n_iadd (by decide +kernel) ?_
          obtain ⟨M14, h14, hr⟩ := bso hr
          refine n_iast G h14 hp11q (by decide +kernel) (by decide +kernel) (by decide +kernel) ?_
          refine n_aload_n (n := 0) (by decide +kernel) rfl ?_
          refine n_getF (q := 16) G fl_RX0_22 hp0 (by decide +kernel) (by decide +kernel) (by decide +kernel) (fun hp15q => ?_)
          refine n_iload (n := 5) (by decide +kernel) rfl ?_
          refine n_aload_n (n := 0) (by decide +kernel) rfl ?_
          refine n_getF (q := 16) G fl_RX0_22 hp0 (by decide +kernel) (by decide +kernel) (by decide +kernel) (fun hp16q => ?_)
          refine n_iload (n := 6) (by decide +kernel) rfl ?_
          obtain ⟨v17, h17, hr⟩ := bso hr
          refine n_lald G h17 hp16q (by decide +kernel) (by decide +kernel) (by decide +kernel) ?_
          refine n_lconst (n := 1) (v := 1) (by decide +kernel) rfl ?_
          refine n_iload_n (n := 1) (by decide +kernel) rfl ?_
          refine n_lshl (by decide +kernel) ?_
          refine n_lor (by decide +kernel) ?_
          obtain ⟨M18, h18, hr⟩ := bso hr
          refine n_last G h18 hp15q (by decide +kernel) (by decide +kernel) (by decide +kernel) ?_
          refine n_iincK (n := 5) (j := -1) (w := -1) (lo2 := [_, _, _, _, _, _, _]) (by decide +kernel) rfl rfl rfl ?_
          refine n_goto (off := -83) (tgt := 10) (by decide +kernel) (by decide) ?_
          cases hr
          refine n_msk [true, true, true, true, false, true, false] (lo2 := [_, _, _, _, .null, _, .null]) rfl rfl ?_
          exact hk
set_option maxRecDepth 100000 in
theorem W_X0_spendOn_b10 (G : GG l s0 b L xs D cy ad) {x1 : Int32} {x2 : Int32} {x3 : Int32}  (hp0 : P 12) {s : (Int32 × Mm)} {e : Mm} (h : whl fu (f_X0_spendOn_b10 x1 x2 x3) s = some e) (res : Rs) (M' : Mm) : Q_X0_spendOn_b10 l s0 D cy ad P x1 x2 x3 res M' e → P_X0_spendOn_b10 l s0 D cy ad P x1 x2 x3 res M' s := whl_run (P := fun s => P_X0_spendOn_b10 l s0 D cy ad P x1 x2 x3 res M' s) (Q := fun e => Q_X0_spendOn_b10 l s0 D cy ad P x1 x2 x3 res M' e) (B_X0_spendOn_b10 G (res := res) (M' := M') (x1 := x1) (x2 := x2) (x3 := x3) hp0) fu s h
set_option maxRecDepth 100000 in
theorem B_X0_spendOn (G : GG l s0 b L xs D cy ad)  {x1 : Int32} {x2 : Int32} {x3 : Int32} {x4 : Int32} {M : Mm} {r : Mm} (hp0 : P 12) (hr : f_X0_spendOn x1 x2 x3 x4 M = some r) : Cl l s0 D cy ad P 9 KX0_spendOn [.ref 12, .int x1, .int x2, .int x3, .int x4] M (.inl none) (r) := by
  refine cl_ofN (by decide +kernel) rfl rfl rfl (lo0 := [_, _, _, _, _, .null, .null]) rfl ?_
  unfold f_X0_spendOn at hr
  refine n_iload (n := 4) (by decide +kernel) rfl ?_
  refine n_sipush (n := 999) (v := 999) (by decide +kernel) (by decide +kernel) ?_
  refine n_mmin G ml_RX0_96 (by decide) (Nat.le_of_ble_eq_true rfl) (by decide +kernel) ?_
  refine n_istore (n := 5) (lo2 := [_, _, _, _, _, _, _]) (by decide +kernel) (Nat.le_of_ble_eq_true rfl) rfl ?_
  obtain ⟨M19, h19, hr⟩ := bso hr
  refine n_msk [true, true, true, true, false, true, false] (lo2 := [_, _, _, _, .null, _, .null]) rfl rfl ?_
  refine (W_X0_spendOn_b10 G hp0 h19 _ _) ?_
  dsimp only [Q_X0_spendOn_b10]
  cases hr
  exact n_return (by decide +kernel)
abbrev P_X0_planFirst_b25 (l : Launch) (s0 : State) (D : va_G) (cy : Nat → ClassId) (ad : Nat → Nat) (P : Nat → Prop) (a1 : Nat) (a2 : Nat) (x3 : Int32)  (res : Rs) (M' : Mm) (s : (Int32 × Mm)) : Prop := Rn l s0 D cy ad P 13 KX0_planFirst 25 [.ref 12, .ref a1, .ref a2, .int x3, .int (s.1)] [] (s.2) res M'
abbrev Q_X0_planFirst_b25 (l : Launch) (s0 : State) (D : va_G) (cy : Nat → ClassId) (ad : Nat → Nat) (P : Nat → Prop) (a1 : Nat) (a2 : Nat) (x3 : Int32)  (res : Rs) (M' : Mm) (e : Mm) : Prop := Rn l s0 D cy ad P 13 KX0_planFirst 76 [.ref 12, .null, .null, .int x3, .null] [] (e) res M'
set_option maxRecDepth 100000 in
theorem B_X0_planFirst_b25 (G : GG l s0 b L xs D cy ad) {a1 : Nat} {a2 : Nat} {x3 : Int32}  {res : Rs} {M' : Mm} (hp0 : P 12) (hp1 : P a1) (hs1 : SH a1 = 3) (hp2 : P a2) (hs2 : SH a2 = 8) : ∀ (s : (Int32 × Mm)) (r : (Int32 × Mm) ⊕ Mm), f_X0_planFirst_b25 a1 a2 x3 s = some r → mtc (P_X0_planFirst_b25 l s0 D cy ad P a1 a2 x3 res M') (Q_X0_planFirst_b25 l s0 D cy ad P a1 a2 x3 res M') r → P_X0_planFirst_b25 l s0 D cy ad P a1 a2 x3 res M' s := by
  intro s r hr hk
  obtain ⟨x4, M⟩ := s
  unfold f_X0_planFirst_b25 at hr
  try dsimp only at hr
  dsimp only [P_X0_planFirst_b25]
  refine n_iload (n := 4) (by decide +kernel) rfl ?_
  refine n_bipush (n := 48) (v := 48) (by decide +kernel) rfl ?_
  refine n_icmp_ge (off := 47) (tgt := 76) (by decide +kernel) (by decide) (fun hc7 => ?_) (fun hc7 => ?_)
  · rw [if_pos hc7] at hr
    cases hr
    refine n_msk [true, false, false, true, false] (lo2 := [_, .null, .null, _, .null]) rfl rfl ?_
    exact hk
  · rw [if_neg hc7] at hr
    refine n_aload_n (n := 2) (by decide +kernel) rfl ?_
    refine n_iload (n := 4) (by decide +kernel) rfl ?_
    obtain ⟨v8, h8, hr⟩ := bso hr
    refine n_callVi G [_] (x := v8) (B_X8_lyingIn G hp2 hs2 h8) (by decide) mX8_lyingIn ml_RX0_154 hp2 hs2 rfl rfl (Nat.le_of_ble_eq_true rfl) (by decide +kernel) ?_
    refine n_if_le (off := 32) (tgt := 70) (by decide +kernel) (by decide) (fun hc9 => ?_) (fun hc9 => ?_)
    · rw [if_pos hc9] at hr
      refine n_iincK (n := 4) (j := 1) (w := 1) (lo2 := [_, _, _, _, _]) (by decide +kernel) rfl rfl rfl ?_
      refine n_goto (off := -48) (tgt := 25) (by decide +kernel) (by decide) ?_
      cases hr
      exact hk
    · rw [if_neg hc9] at hr
      refine n_aload_n (n := 2) (by decide +kernel) rfl ?_
      refine n_iload (n := 4) (by decide +kernel) rfl ?_
      obtain ⟨v10, h10, hr⟩ := bso hr
      refine n_callVi G [_] (x := v10) (B_X8_isLost G hp2 hs2 h10) (by decide) mX8_isLost ml_RX0_132 hp2 hs2 rfl rfl (Nat.le_of_ble_eq_true rfl) (by decide +kernel) ?_
      refine n_if_ne (off := 23) (tgt := 70) (by decide +kernel) (by decide) (fun hc11 => ?_) (fun hc11 => ?_)
      · rw [if_neg hc11] at hr
        refine n_iincK (n := 4) (j := 1) (w := 1) (lo2 := [_, _, _, _, _]) (by decide +kernel) rfl rfl rfl ?_
        refine n_goto (off := -48) (tgt := 25) (by decide +kernel) (by decide) ?_
        cases hr
        exact hk
      · rw [if_pos hc11] at hr
        refine n_aload_n (n := 0) (by decide +kernel) rfl ?_
        refine n_iload (n := 4) (by decide +kernel) rfl ?_
        refine n_aload_n (n := 2) (by decide +kernel) rfl ?_
        refine n_aload_n (n := 1) (by decide +kernel) rfl ?_
        refine n_iload (n := 4) (by decide +kernel) rfl ?_
        obtain ⟨v12, h12, hr⟩ := bso hr
        refine n_callVi G [_, _] (x := v12) (B_X8_clearingOfCell G hp2 hs2 hp1 hs1 h12) (by decide) mX8_clearingOfCell ml_RX0_157 hp2 hs2 rfl rfl (Nat.le_of_ble_eq_true rfl) (by decide +kernel) ?_
        refine n_aload_n (n := 1) (by decide +kernel) rfl ?_
        refine n_iload (n := 4) (by decide +kernel) rfl ?_
        obtain ⟨v13, h13, hr⟩ := bso hr
        refine n_callVi G [_] (x := v13) (B_X3_soilOf G hp1 hs1 h13) (by decide) mX3_soilOf ml_RX0_118 hp1 hs1 rfl rfl (Nat.le_of_ble_eq_true rfl) (by decide +kernel) ?_
        refine n_iload_n (n := 3) (by decide +kernel) rfl ?_
        obtain ⟨M14, h14, hr⟩ := bso hr
        refine n_callVv G [_, _, _, _] (M1 := M14) (B_X0_spendOn G hp0 h14) (by decide) mX0_spendOn ml_RX0_160 hp0 (by decide +kernel) rfl rfl (Nat.le_of_ble_eq_true rfl) (by decide +kernel) ?_
        refine n_iincK (n := 4) (j := 1) (w := 1) (lo2 := [_, _, _, _, _]) (by decide +kernel) rfl rfl rfl ?_
        refine n_goto (off := -48) (tgt := 25) (by decide +kernel) (by decide) ?_
        cases hr
        exact hk
set_option maxRecDepth 100000 in
theorem W_X0_planFirst_b25 (G : GG l s0 b L xs D cy ad) {a1 : Nat} {a2 : Nat} {x3 : Int32}  (hp0 : P 12) (hp1 : P a1) (hs1 : SH a1 = 3) (hp2 : P a2) (hs2 : SH a2 = 8) {s : (Int32 × Mm)} {e : Mm} (h : whl fu (f_X0_planFirst_b25 a1 a2 x3) s = some e) (res : Rs) (M' : Mm) : Q_X0_planFirst_b25 l s0 D cy ad P a1 a2 x3 res M' e → P_X0_planFirst_b25 l s0 D cy ad P a1 a2 x3 res M' s := whl_run (P := fun s => P_X0_planFirst_b25 l s0 D cy ad P a1 a2 x3 res M' s) (Q := fun e => Q_X0_planFirst_b25 l s0 D cy ad P a1 a2 x3 res M' e) (B_X0_planFirst_b25 G (res := res) (M' := M') (a1 := a1) (a2 := a2) (x3 := x3) hp0 hp1 hs1 hp2 hs2) fu s h
abbrev P_X0_planFirst_b86 (l : Launch) (s0 : State) (D : va_G) (cy : Nat → ClassId) (ad : Nat → Nat) (P : Nat → Prop) (x3 : Int32)  (res : Rs) (M' : Mm) (s : (Int32 × Mm)) : Prop := Rn l s0 D cy ad P 13 KX0_planFirst 86 [.ref 12, .null, .null, .int x3, .int (s.1)] [] (s.2) res M'
abbrev Q_X0_planFirst_b86 (l : Launch) (s0 : State) (D : va_G) (cy : Nat → ClassId) (ad : Nat → Nat) (P : Nat → Prop) (x3 : Int32)  (res : Rs) (M' : Mm) (e : Mm) : Prop := Rn l s0 D cy ad P 13 KX0_planFirst 146 [.null, .null, .null, .null, .null] [] (e) res M'
set_option maxRecDepth 100000 in
theorem B_X0_planFirst_b86 (G : GG l s0 b L xs D cy ad) {x3 : Int32}  {res : Rs} {M' : Mm} (hp0 : P 12) : ∀ (s : (Int32 × Mm)) (r : (Int32 × Mm) ⊕ Mm), f_X0_planFirst_b86 x3 s = some r → mtc (P_X0_planFirst_b86 l s0 D cy ad P x3 res M') (Q_X0_planFirst_b86 l s0 D cy ad P x3 res M') r → P_X0_planFirst_b86 l s0 D cy ad P x3 res M' s := by
  intro s r hr hk
  obtain ⟨x4, M⟩ := s
  unfold f_X0_planFirst_b86 at hr
  try dsimp only at hr
  dsimp only [P_X0_planFirst_b86]
  refine n_iload (n := 4) (by decide +kernel) rfl ?_
  refine n_iload_n (n := 3) (by decide +kernel) rfl ?_
  refine n_icmp_gt (off := 57) (tgt := 146) (by decide +kernel) (by decide) (fun hc17 => ?_) (fun hc17 => ?_)
  · rw [if_pos hc17] at hr
    cases hr
    refine n_msk [false, false, false, false, false] (lo2 := [.null, .null, .null, .null, .null]) rfl rfl ?_
    exact hk
  · rw [if_neg hc17] at hr
    refine n_iload (n := 4) (by decide +kernel) rfl ?_
    refine n_sipush (n := 999) (v := 999) (by decide +kernel) (by decide +kernel) ?_
    refine n_icmp_gt (off := 49) (tgt := 146) (by decide +kernel) (by decide) (fun hc18 => ?_) (fun hc18 => ?_)
    · rw [if_pos hc18] at hr
      cases hr
      refine n_msk [false, false, false, false, false] (lo2 := [.null, .null, .null, .null, .null]) rfl rfl ?_
      exact hk
    · rw [if_neg hc18] at hr
      refine n_aload_n (n := 0) (by decide +kernel) rfl ?_
      refine n_getF (q := 15) G fl_RX0_19 hp0 (by decide +kernel) (by decide +kernel) (by decide +kernel) (fun hp19q => ?_)
      refine n_iload (n := 4) (by decide +kernel) rfl ?_
      obtain ⟨v20, h20, hr⟩ := bso hr
      refine n_iald G h20 hp19q (by decide +kernel) (by decide +kernel) (by decide +kernel) ?_
      refine n_i2l (by decide +kernel) ?_
      refine n_aload_n (n := 0) (by decide +kernel) rfl ?_
      refine n_getF (q := 13) G fl_RX0_9 hp0 (by decide +kernel) (by decide +kernel) (by decide +kernel) (fun hp21q => ?_)
      refine n_iconst (n := 0) (v := 0) (by decide +kernel) rfl ?_
      obtain ⟨v22, h22, hr⟩ := bso hr
      refine n_lald G h22 hp21q (by decide +kernel) (by decide +kernel) (by decide +kernel) ?_
      refine n_lcmp (by decide +kernel) ?_
      refine n_if_le (off := 25) (tgt := 140) (by decide +kernel) (by decide) (fun hc23 => ?_) (fun hc23 => ?_)
      · rw [if_pos hc23] at hr
        refine n_iincK (n := 4) (j := 1) (w := 1) (lo2 := [_, _, _, _, _]) (by decide +kernel) rfl rfl rfl ?_
        refine n_goto (off := -57) (tgt := 86) (by decide +kernel) (by decide) ?_
        cases hr
        exact hk
      · rw [if_neg hc23] at hr
        refine n_aload_n (n := 0) (by decide +kernel) rfl ?_
        refine n_aload_n (n := 0) (by decide +kernel) rfl ?_
        refine n_getF (q := 15) G fl_RX0_19 hp0 (by decide +kernel) (by decide +kernel) (by decide +kernel) (fun hp24q => ?_)
        refine n_iload (n := 4) (by decide +kernel) rfl ?_
        obtain ⟨v25, h25, hr⟩ := bso hr
        refine n_iald G h25 hp24q (by decide +kernel) (by decide +kernel) (by decide +kernel) ?_
        refine n_i2l (by decide +kernel) ?_
        refine n_iload (n := 4) (by decide +kernel) rfl ?_
        refine n_i2l (by decide +kernel) ?_
        refine n_aload_n (n := 0) (by decide +kernel) rfl ?_
        refine n_getF (q := 16) G fl_RX0_22 hp0 (by decide +kernel) (by decide +kernel) (by decide +kernel) (fun hp26q => ?_)
        refine n_iload (n := 4) (by decide +kernel) rfl ?_
        obtain ⟨v27, h27, hr⟩ := bso hr
        refine n_lald G h27 hp26q (by decide +kernel) (by decide +kernel) (by decide +kernel) ?_
        obtain ⟨M28, h28, hr⟩ := bso hr
        refine n_callVv G [_, _, _] (M1 := M28) (B_X0_settle G hp0 h28) (by decide) mX0_settle ml_RX0_28 hp0 (by decide +kernel) rfl rfl (Nat.le_of_ble_eq_true rfl) (by decide +kernel) ?_
        refine n_iincK (n := 4) (j := 1) (w := 1) (lo2 := [_, _, _, _, _]) (by decide +kernel) rfl rfl rfl ?_
        refine n_goto (off := -57) (tgt := 86) (by decide +kernel) (by decide) ?_
        cases hr
        exact hk
set_option maxRecDepth 100000 in
theorem W_X0_planFirst_b86 (G : GG l s0 b L xs D cy ad) {x3 : Int32}  (hp0 : P 12) {s : (Int32 × Mm)} {e : Mm} (h : whl fu (f_X0_planFirst_b86 x3) s = some e) (res : Rs) (M' : Mm) : Q_X0_planFirst_b86 l s0 D cy ad P x3 res M' e → P_X0_planFirst_b86 l s0 D cy ad P x3 res M' s := whl_run (P := fun s => P_X0_planFirst_b86 l s0 D cy ad P x3 res M' s) (Q := fun e => Q_X0_planFirst_b86 l s0 D cy ad P x3 res M' e) (B_X0_planFirst_b86 G (res := res) (M' := M') (x3 := x3) hp0) fu s h
set_option maxRecDepth 100000 in
theorem B_X0_planFirst (G : GG l s0 b L xs D cy ad)  {a1 : Nat} {a2 : Nat} {x3 : Int32} {M : Mm} {r : Mm} (hp0 : P 12) (hp1 : P a1) (hs1 : SH a1 = 3) (hp2 : P a2) (hs2 : SH a2 = 8) (hr : f_X0_planFirst a1 a2 x3 M = some r) : Cl l s0 D cy ad P 13 KX0_planFirst [.ref 12, .ref a1, .ref a2, .int x3] M (.inl none) (r) := by
  refine cl_ofN (by decide +kernel) rfl rfl rfl (lo0 := [_, _, _, _, .null]) rfl ?_
  unfold f_X0_planFirst at hr
  refine n_aload_n (n := 0) (by decide +kernel) rfl ?_
  refine n_getF (q := 15) G fl_RX0_19 hp0 (by decide +kernel) (by decide +kernel) (by decide +kernel) (fun hp1q => ?_)
  refine n_iconst (n := -1) (v := -1) (by decide +kernel) rfl ?_
  obtain ⟨M2, h2, hr⟩ := bso hr
  refine n_callSv G [_, _] (M1 := M2) (B_J7_fill_53178 G hp1q (by decide +kernel) h2) (by decide) mJ7_fill_53178 ml_RX0_57 rfl rfl (Nat.le_of_ble_eq_true rfl) (by decide +kernel) ?_
  refine n_aload_n (n := 0) (by decide +kernel) rfl ?_
  refine n_getF (q := 15) G fl_RX0_19 hp0 (by decide +kernel) (by decide +kernel) (by decide +kernel) (fun hp3q => ?_)
  refine n_iconst (n := 0) (v := 0) (by decide +kernel) rfl ?_
  refine n_iconst (n := 0) (v := 0) (by decide +kernel) rfl ?_
  obtain ⟨M4, h4, hr⟩ := bso hr
  refine n_iast G h4 hp3q (by decide +kernel) (by decide +kernel) (by decide +kernel) ?_
  refine n_aload_n (n := 0) (by decide +kernel) rfl ?_
  refine n_getF (q := 16) G fl_RX0_22 hp0 (by decide +kernel) (by decide +kernel) (by decide +kernel) (fun hp5q => ?_)
  refine n_iconst (n := 0) (v := 0) (by decide +kernel) rfl ?_
  refine n_lconst (n := 0) (v := 0) (by decide +kernel) rfl ?_
  obtain ⟨M6, h6, hr⟩ := bso hr
  refine n_last G h6 hp5q (by decide +kernel) (by decide +kernel) (by decide +kernel) ?_
  refine n_iconst (n := 0) (v := 0) (by decide +kernel) rfl ?_
  refine n_istore (n := 4) (lo2 := [_, _, _, _, _]) (by decide +kernel) (Nat.le_of_ble_eq_true rfl) rfl ?_
  obtain ⟨M15, h15, hr⟩ := bso hr
  refine (W_X0_planFirst_b25 G hp0 hp1 hs1 hp2 hs2 h15 _ _) ?_
  dsimp only [Q_X0_planFirst_b25]
  refine n_aload_n (n := 0) (by decide +kernel) rfl ?_
  refine n_lconst (n := 0) (v := 0) (by decide +kernel) rfl ?_
  refine n_lconst (n := 0) (v := 0) (by decide +kernel) rfl ?_
  refine n_lconst (n := 0) (v := 0) (by decide +kernel) rfl ?_
  obtain ⟨M16, h16, hr⟩ := bso hr
  refine n_callVv G [_, _, _] (M1 := M16) (B_X0_settle G hp0 h16) (by decide) mX0_settle ml_RX0_28 hp0 (by decide +kernel) rfl rfl (Nat.le_of_ble_eq_true rfl) (by decide +kernel) ?_
  refine n_iconst (n := 1) (v := 1) (by decide +kernel) rfl ?_
  refine n_istore (n := 4) (lo2 := [_, _, _, _, _]) (by decide +kernel) (Nat.le_of_ble_eq_true rfl) rfl ?_
  obtain ⟨M29, h29, hr⟩ := bso hr
  refine (W_X0_planFirst_b86 G hp0 h29 _ _) ?_
  dsimp only [Q_X0_planFirst_b86]
  cases hr
  exact n_return (by decide +kernel)
set_option maxRecDepth 100000 in
theorem B_X9_dividedUpward (G : GG l s0 b L xs D cy ad)  {x0 : Int32} {x1 : Int32} {M : Mm} {r : Int32}  (hr : f_X9_dividedUpward x0 x1 M = some r) : Cl l s0 D cy ad P 9 KX9_dividedUpward [.int x0, .int x1] M (.inl (some (.int r))) (M) := by
  refine cl_ofN (by decide +kernel) rfl rfl okI (lo0 := [_, _]) rfl ?_
  unfold f_X9_dividedUpward at hr
  refine n_iload_n (n := 1) (by decide +kernel) rfl ?_
  refine n_iconst (n := 1) (v := 1) (by decide +kernel) rfl ?_
  refine n_icmp_ge (off := 7) (tgt := 9) (by decide +kernel) (by decide) (fun hc1 => ?_) (fun hc1 => ?_)
  · rw [if_pos hc1] at hr
    refine n_iload_n (n := 0) (by decide +kernel) rfl ?_
    refine n_iload_n (n := 1) (by decide +kernel) rfl ?_
    refine n_iadd (by decide +kernel) ?_
    refine n_iconst (n := 1) (v := 1) (by decide +kernel) rfl ?_
    refine n_isub (by decide +kernel) ?_
    refine n_iload_n (n := 1) (by decide +kernel) rfl ?_
    by_cases hz2 : x1 = 0
    · rw [if_pos hz2] at hr; cases hr
    rw [if_neg hz2] at hr
    refine n_idiv hz2 (by decide +kernel) ?_
    cases hr
    exact n_ireturn (by decide +kernel)
  · rw [if_neg hc1] at hr
    refine n_iconst (n := 0) (v := 0) (by decide +kernel) rfl ?_
    refine n_goto (off := 10) (tgt := 16) (by decide +kernel) (by decide) ?_
    cases hr
    exact n_ireturn (by decide +kernel)
abbrev P_X0_planMix_b28 (l : Launch) (s0 : State) (D : va_G) (cy : Nat → ClassId) (ad : Nat → Nat) (P : Nat → Prop) (x1 : Int32) (x2 : Int32) (x3 : Int32) (x4 : Int32)  (res : Rs) (M' : Mm) (s : (Int32 × Mm)) : Prop := Rn l s0 D cy ad P 10 KX0_planMix 28 [.ref 12, .int x1, .int x2, .int x3, .int x4, .int (s.1), .null, .null, .null, .null] [] (s.2) res M'
abbrev Q_X0_planMix_b28 (l : Launch) (s0 : State) (D : va_G) (cy : Nat → ClassId) (ad : Nat → Nat) (P : Nat → Prop) (x1 : Int32) (x2 : Int32) (x3 : Int32) (x4 : Int32)  (res : Rs) (M' : Mm) (e : Mm) : Prop := Rn l s0 D cy ad P 10 KX0_planMix 138 [.null, .null, .null, .null, .null, .null, .null, .null, .null, .null] [] (e) res M'
abbrev P_X0_planMix_b38 (l : Launch) (s0 : State) (D : va_G) (cy : Nat → ClassId) (ad : Nat → Nat) (P : Nat → Prop) (x1 : Int32) (x2 : Int32) (x3 : Int32) (x4 : Int32) (x5 : Int32)  (res : Rs) (M' : Mm) (s : (Int32 × Mm)) : Prop := Rn l s0 D cy ad P 10 KX0_planMix 38 [.ref 12, .int x1, .int x2, .int x3, .int x4, .int x5, .int (s.1), .null, .null, .null] [] (s.2) res M'
abbrev Q_X0_planMix_b38 (l : Launch) (s0 : State) (D : va_G) (cy : Nat → ClassId) (ad : Nat → Nat) (P : Nat → Prop) (x1 : Int32) (x2 : Int32) (x3 : Int32) (x4 : Int32) (x5 : Int32)  (res : Rs) (M' : Mm) (e : Mm) : Prop := Rn l s0 D cy ad P 10 KX0_planMix 132 [.ref 12, .int x1, .int x2, .int x3, .int x4, .int x5, .null, .null, .null, .null] [] (e) res M'
set_option maxRecDepth 100000 in
theorem B_X0_planMix_j113 (G : GG l s0 b L xs D cy ad) {x1 : Int32} {x2 : Int32} {x3 : Int32} {x4 : Int32} {x5 : Int32} {x6 : Int32} {x9 : Int32} {M : Mm}  {res : Rs} {M' : Mm} {r : ((Int32 × Mm) ⊕ Mm)} (hp0 : P 12) (hr : f_X0_planMix_j113 x1 x2 x3 x4 x5 x6 x9 M = some r) (hk : mtc (P_X0_planMix_b38 l s0 D cy ad P x1 x2 x3 x4 x5 res M') (Q_X0_planMix_b38 l s0 D cy ad P x1 x2 x3 x4 x5 res M') r) : Rn l s0 D cy ad P 10 KX0_planMix 113 [.ref 12, .int x1, .int x2, .int x3, .int x4, .int x5, .int x6, .null, .null, .int x9] [] M res M' := by
  unfold f_X0_planMix_j113 at hr
  refine n_aload_n (n := 0) (by decide +kernel) rfl ?_
  refine n_iload (n := 9) (by decide +kernel) rfl ?_
  refine n_i2l (by decide +kernel) ?_
  refine n_iload (n := 5) (by decide +kernel) rfl ?_
  refine n_i2l (by decide +kernel) ?_
  refine n_iload (n := 6) (by decide +kernel) rfl ?_
  refine n_i2l (by decide +kernel) ?_
  obtain ⟨M11, h11, hr⟩ := bso hr
  refine n_callVv G [_, _, _] (M1 := M11) (B_X0_settle G hp0 h11) (by decide) mX0_settle ml_RX0_28 hp0 (by decide +kernel) rfl rfl (Nat.le_of_ble_eq_true rfl) (by decide +kernel) ?_
  refine n_iincK (n := 6) (j := 1) (w := 1) (lo2 := [_, _, _, _, _, _, _, _, _, _]) (by decide +kernel) rfl rfl rfl ?_
  refine n_goto (off := -91) (tgt := 38) (by decide +kernel) (by decide) ?_
  cases hr
  refine n_msk [true, true, true, true, true, true, true, false, false, false] (lo2 := [_, _, _, _, _, _, _, .null, .null, .null]) rfl rfl ?_
  exact hk
set_option maxRecDepth 100000 in
theorem B_X0_planMix_b38 (G : GG l s0 b L xs D cy ad) {x1 : Int32} {x2 : Int32} {x3 : Int32} {x4 : Int32} {x5 : Int32}  {res : Rs} {M' : Mm} (hp0 : P 12) : ∀ (s : (Int32 × Mm)) (r : (Int32 × Mm) ⊕ Mm), f_X0_planMix_b38 x1 x2 x3 x4 x5 s = some r → mtc (P_X0_planMix_b38 l s0 D cy ad P x1 x2 x3 x4 x5 res M') (Q_X0_planMix_b38 l s0 D cy ad P x1 x2 x3 x4 x5 res M') r → P_X0_planMix_b38 l s0 D cy ad P x1 x2 x3 x4 x5 res M' s := by
  intro s r hr hk
  obtain ⟨x6, M⟩ := s
  unfold f_X0_planMix_b38 at hr
  try dsimp only at hr
  dsimp only [P_X0_planMix_b38]
  refine n_iload (n := 6) (by decide +kernel) rfl ?_
  refine n_iconst (n := 3) (v := 3) (by decide +kernel) rfl ?_
  refine n_icmp_gt (off := 91) (tgt := 132) (by decide +kernel) (by decide) (fun hc4 => ?_) (fun hc4 => ?_)
  · rw [if_pos hc4] at hr
    cases hr
    refine n_msk [true, true, true, true, true, true, false, false, false, false] (lo2 := [_, _, _, _, _, _, .null, .null, .null, .null]) rfl rfl ?_
    exact hk
  · rw [if_neg hc4] at hr
    refine n_iload (n := 5) (by decide +kernel) rfl ?_
    refine n_iconst (n := 3) (v := 3) (by decide +kernel) rfl ?_
    refine n_iload (n := 6) (by decide +kernel) rfl ?_
    refine n_imul (by decide +kernel) ?_
    refine n_iadd (by decide +kernel) ?_
    refine n_istore (n := 7) (lo2 := [_, _, _, _, _, _, _, _, _, _]) (by decide +kernel) (Nat.le_of_ble_eq_true rfl) rfl ?_
    refine n_iload_n (n := 1) (by decide +kernel) rfl ?_
    refine n_iload (n := 7) (by decide +kernel) rfl ?_
    obtain ⟨v5, h5, hr⟩ := bso hr
    refine n_callSNi G [_, _] (x := v5) (B_X9_dividedUpward G  h5) (by decide) mX9_dividedUpward ml_RX0_164 rfl rfl (Nat.le_of_ble_eq_true rfl) (by decide +kernel) ?_
    refine n_istore (n := 8) (lo2 := [_, _, _, _, _, _, _, _, _, _]) (by decide +kernel) (Nat.le_of_ble_eq_true rfl) rfl ?_
    refine n_iload (n := 8) (by decide +kernel) rfl ?_
    refine n_iload (n := 5) (by decide +kernel) rfl ?_
    refine n_iload_n (n := 3) (by decide +kernel) rfl ?_
    refine n_imul (by decide +kernel) ?_
    refine n_iload (n := 6) (by decide +kernel) rfl ?_
    refine n_iload (n := 4) (by decide +kernel) rfl ?_
    refine n_imul (by decide +kernel) ?_
    refine n_iadd (by decide +kernel) ?_
    refine n_imul (by decide +kernel) ?_
    refine n_istore (n := 9) (lo2 := [_, _, _, _, _, _, _, _, _, _]) (by decide +kernel) (Nat.le_of_ble_eq_true rfl) rfl ?_
    refine n_iload (n := 7) (by decide +kernel) rfl ?_
    refine n_if_le (off := 48) (tgt := 126) (by decide +kernel) (by decide) (fun hc6 => ?_) (fun hc6 => ?_)
    · rw [if_pos hc6] at hr
      refine n_iincK (n := 6) (j := 1) (w := 1) (lo2 := [_, _, _, _, _, _, _, _, _, _]) (by decide +kernel) rfl rfl rfl ?_
      refine n_goto (off := -91) (tgt := 38) (by decide +kernel) (by decide) ?_
      cases hr
      refine n_msk [true, true, true, true, true, true, true, false, false, false] (lo2 := [_, _, _, _, _, _, _, .null, .null, .null]) rfl rfl ?_
      exact hk
    · rw [if_neg hc6] at hr
      refine n_iload (n := 8) (by decide +kernel) rfl ?_
      refine n_iload_n (n := 2) (by decide +kernel) rfl ?_
      refine n_icmp_gt (off := 42) (tgt := 126) (by decide +kernel) (by decide) (fun hc7 => ?_) (fun hc7 => ?_)
      · rw [if_pos hc7] at hr
        refine n_iincK (n := 6) (j := 1) (w := 1) (lo2 := [_, _, _, _, _, _, _, _, _, _]) (by decide +kernel) rfl rfl rfl ?_
        refine n_goto (off := -91) (tgt := 38) (by decide +kernel) (by decide) ?_
        cases hr
        refine n_msk [true, true, true, true, true, true, true, false, false, false] (lo2 := [_, _, _, _, _, _, _, .null, .null, .null]) rfl rfl ?_
        exact hk
      · rw [if_neg hc7] at hr
        refine n_aload_n (n := 0) (by decide +kernel) rfl ?_
        refine n_getF (q := 13) G fl_RX0_9 hp0 (by decide +kernel) (by decide +kernel) (by decide +kernel) (fun hp8q => ?_)
        refine n_iconst (n := 0) (v := 0) (by decide +kernel) rfl ?_
        obtain ⟨v9, h9, hr⟩ := bso hr
        refine n_lald G h9 hp8q (by decide +kernel) (by decide +kernel) (by decide +kernel) ?_
        refine n_ldc2 G ct_RX0_145 (by decide +kernel) ?_
        refine n_lcmp (by decide +kernel) ?_
        refine n_if_eq (off := 16) (tgt := 113) (by decide +kernel) (by decide) (fun hc10 => ?_) (fun hc10 => ?_)
        · rw [if_pos hc10] at hr
          refine n_msk [true, true, true, true, true, true, true, false, false, true] (lo2 := [_, _, _, _, _, _, _, .null, .null, _]) rfl rfl ?_
          exact B_X0_planMix_j113 G hp0 hr hk
        · rw [if_neg hc10] at hr
          refine n_iload (n := 9) (by decide +kernel) rfl ?_
          refine n_i2l (by decide +kernel) ?_
          refine n_aload_n (n := 0) (by decide +kernel) rfl ?_
          refine n_getF (q := 13) G fl_RX0_9 hp0 (by decide +kernel) (by decide +kernel) (by decide +kernel) (fun hp12q => ?_)
          refine n_iconst (n := 0) (v := 0) (by decide +kernel) rfl ?_
          obtain ⟨v13, h13, hr⟩ := bso hr
          refine n_lald G h13 hp12q (by decide +kernel) (by decide +kernel) (by decide +kernel) ?_
          refine n_lcmp (by decide +kernel) ?_
          refine n_if_ge (off := 16) (tgt := 126) (by decide +kernel) (by decide) (fun hc14 => ?_) (fun hc14 => ?_)
          · rw [if_pos hc14] at hr
            refine n_iincK (n := 6) (j := 1) (w := 1) (lo2 := [_, _, _, _, _, _, _, _, _, _]) (by decide +kernel) rfl rfl rfl ?_
            refine n_goto (off := -91) (tgt := 38) (by decide +kernel) (by decide) ?_
            cases hr
            refine n_msk [true, true, true, true, true, true, true, false, false, false] (lo2 := [_, _, _, _, _, _, _, .null, .null, .null]) rfl rfl ?_
            exact hk
          · rw [if_neg hc14] at hr
            refine n_msk [true, true, true, true, true, true, true, false, false, true] (lo2 := [_, _, _, _, _, _, _, .null, .null, _]) rfl rfl ?_
            exact B_X0_planMix_j113 G hp0 hr hk
set_option maxRecDepth 100000 in
theorem W_X0_planMix_b38 (G : GG l s0 b L xs D cy ad) {x1 : Int32} {x2 : Int32} {x3 : Int32} {x4 : Int32} {x5 : Int32}  (hp0 : P 12) {s : (Int32 × Mm)} {e : Mm} (h : whl fu (f_X0_planMix_b38 x1 x2 x3 x4 x5) s = some e) (res : Rs) (M' : Mm) : Q_X0_planMix_b38 l s0 D cy ad P x1 x2 x3 x4 x5 res M' e → P_X0_planMix_b38 l s0 D cy ad P x1 x2 x3 x4 x5 res M' s := whl_run (P := fun s => P_X0_planMix_b38 l s0 D cy ad P x1 x2 x3 x4 x5 res M' s) (Q := fun e => Q_X0_planMix_b38 l s0 D cy ad P x1 x2 x3 x4 x5 res M' e) (B_X0_planMix_b38 G (res := res) (M' := M') (x1 := x1) (x2 := x2) (x3 := x3) (x4 := x4) (x5 := x5) hp0) fu s h
set_option maxRecDepth 100000 in
theorem B_X0_planMix_b28 (G : GG l s0 b L xs D cy ad) {x1 : Int32} {x2 : Int32} {x3 : Int32} {x4 : Int32}  {res : Rs} {M' : Mm} (hp0 : P 12) : ∀ (s : (Int32 × Mm)) (r : (Int32 × Mm) ⊕ Mm), f_X0_planMix_b28 x1 x2 x3 x4 s = some r → mtc (P_X0_planMix_b28 l s0 D cy ad P x1 x2 x3 x4 res M') (Q_X0_planMix_b28 l s0 D cy ad P x1 x2 x3 x4 res M') r → P_X0_planMix_b28 l s0 D cy ad P x1 x2 x3 x4 res M' s := by
  intro s r hr hk
  obtain ⟨x5, M⟩ := s
  unfold f_X0_planMix_b28 at hr
  try dsimp only at hr
  dsimp only [P_X0_planMix_b28]
  refine n_iload (n := 5) (by decide +kernel) rfl ?_
  refine n_bipush (n := 6) (v := 6) (by decide +kernel) rfl ?_
  refine n_icmp_gt (off := 106) (tgt := 138) (by decide +kernel) (by decide) (fun hc3 => ?_) (fun hc3 => ?_)
  · rw [if_pos hc3] at hr
    cases hr
    refine n_msk [false, false, false, false, false, false, false, false, false, false] (lo2 := [.null, .null, .null, .null, .null, .null, .null, .null, .null, .null]) rfl rfl ?_
    exact hk
  · rw [if_neg hc3] at hr
    refine n_iconst (n := 0) (v := 0) (by decide +kernel) rfl ?_
    refine n_istore (n := 6) (lo2 := [_, _, _, _, _, _, _, _, _, _]) (by decide +kernel) (Nat.le_of_ble_eq_true rfl) rfl ?_
    obtain ⟨M15, h15, hr⟩ := bso hr
    refine (W_X0_planMix_b38 G hp0 h15 _ _) ?_
    dsimp only [Q_X0_planMix_b38]
    refine n_iincK (n := 5) (j := 1) (w := 1) (lo2 := [_, _, _, _, _, _, _, _, _, _]) (by decide +kernel) rfl rfl rfl ?_
    refine n_goto (off := -107) (tgt := 28) (by decide +kernel) (by decide) ?_
    cases hr
    exact hk
set_option maxRecDepth 100000 in
theorem W_X0_planMix_b28 (G : GG l s0 b L xs D cy ad) {x1 : Int32} {x2 : Int32} {x3 : Int32} {x4 : Int32}  (hp0 : P 12) {s : (Int32 × Mm)} {e : Mm} (h : whl fu (f_X0_planMix_b28 x1 x2 x3 x4) s = some e) (res : Rs) (M' : Mm) : Q_X0_planMix_b28 l s0 D cy ad P x1 x2 x3 x4 res M' e → P_X0_planMix_b28 l s0 D cy ad P x1 x2 x3 x4 res M' s := whl_run (P := fun s => P_X0_planMix_b28 l s0 D cy ad P x1 x2 x3 x4 res M' s) (Q := fun e => Q_X0_planMix_b28 l s0 D cy ad P x1 x2 x3 x4 res M' e) (B_X0_planMix_b28 G (res := res) (M' := M') (x1 := x1) (x2 := x2) (x3 := x3) (x4 := x4) hp0) fu s h
set_option maxRecDepth 100000 in
theorem B_X0_planMix (G : GG l s0 b L xs D cy ad)  {x1 : Int32} {x2 : Int32} {x3 : Int32} {x4 : Int32} {M : Mm} {r : Mm} (hp0 : P 12) (hr : f_X0_planMix x1 x2 x3 x4 M = some r) : Cl l s0 D cy ad P 10 KX0_planMix [.ref 12, .int x1, .int x2, .int x3, .int x4] M (.inl none) (r) := by
  refine cl_ofN (by decide +kernel) rfl rfl rfl (lo0 := [_, _, _, _, _, .null, .null, .null, .null, .null]) rfl ?_
  unfold f_X0_planMix at hr
  refine n_iload_n (n := 1) (by decide +kernel) rfl ?_
  refine n_if_ne (off := 11) (tgt := 12) (by decide +kernel) (by decide) (fun hc1 => ?_) (fun hc1 => ?_)
  · rw [if_neg hc1] at hr
    refine n_aload_n (n := 0) (by decide +kernel) rfl ?_
    refine n_ldc2 G ct_RX0_145 (by decide +kernel) ?_
    refine n_ldc2 G ct_RX0_145 (by decide +kernel) ?_
    refine n_ldc2 G ct_RX0_145 (by decide +kernel) ?_
    obtain ⟨M2, h2, hr⟩ := bso hr
    refine n_callVv G [_, _, _] (M1 := M2) (B_X0_settle G hp0 h2) (by decide) mX0_settle ml_RX0_28 hp0 (by decide +kernel) rfl rfl (Nat.le_of_ble_eq_true rfl) (by decide +kernel) ?_
    refine n_iconst (n := 0) (v := 0) (by decide +kernel) rfl ?_
    refine n_istore (n := 5) (lo2 := [_, _, _, _, _, _, _, _, _, _]) (by decide +kernel) (Nat.le_of_ble_eq_true rfl) rfl ?_
    obtain ⟨M16, h16, hr⟩ := bso hr
    refine (W_X0_planMix_b28 G hp0 h16 _ _) ?_
    dsimp only [Q_X0_planMix_b28]
    cases hr
    exact n_return (by decide +kernel)
  · rw [if_pos hc1] at hr
    refine n_aload_n (n := 0) (by decide +kernel) rfl ?_
    refine n_lconst (n := 0) (v := 0) (by decide +kernel) rfl ?_
    refine n_lconst (n := 0) (v := 0) (by decide +kernel) rfl ?_
    refine n_lconst (n := 0) (v := 0) (by decide +kernel) rfl ?_
    obtain ⟨M17, h17, hr⟩ := bso hr
    refine n_callVv G [_, _, _] (M1 := M17) (B_X0_settle G hp0 h17) (by decide) mX0_settle ml_RX0_28 hp0 (by decide +kernel) rfl rfl (Nat.le_of_ble_eq_true rfl) (by decide +kernel) ?_
    cases hr
    exact n_return (by decide +kernel)
set_option maxRecDepth 100000 in
theorem B_X1_forget (G : GG l s0 b L xs D cy ad)  {a0 : Nat} {M : Mm} {r : Mm} (hp0 : P a0) (hs0 : SH a0 = 1) (hr : f_X1_forget a0 M = some r) : Cl l s0 D cy ad P 9 KX1_forget [.ref a0] M (.inl none) (r) := by
  refine cl_ofN (by decide +kernel) rfl rfl rfl (lo0 := [_]) rfl ?_
  unfold f_X1_forget at hr
  refine n_aload_n (n := 0) (by decide +kernel) rfl ?_
  refine n_iconst (n := 0) (v := 0) (by decide +kernel) rfl ?_
  refine n_putI G fl_RX1_21 hp0 hs0 (by decide +kernel) ?_
  cases hr
  exact n_return (by decide +kernel)
set_option maxRecDepth 100000 in
theorem B_X7_isFine (G : GG l s0 b L xs D cy ad)   {M : Mm} {r : Int32} (hp0 : P 1) (hr : f_X7_isFine  M = some r) : Cl l s0 D cy ad P 9 KX7_isFine [.ref 1] M (.inl (some (.int r))) (M) := by
  unfold f_X7_isFine at hr
  obtain ⟨v0, h0, h1⟩ := bso hr
  clear hr
  obtain ⟨hb, rfl⟩ := rB_in h1
  have hr := h0
  clear h0
  refine cl_ofN (by decide +kernel) rfl rfl (okB hb) (lo0 := [_]) rfl ?_
  unfold g_X7_isFine at hr
  refine n_aload_n (n := 0) (by decide +kernel) rfl ?_
  refine n_getI G fl_RX7_38 hp0 (by decide +kernel) (by decide +kernel) ?_
  refine n_dia1 (J := 12) (c := (mi M 1 5) = 0) (a := (1 : Int32)) (b := (0 : Int32)) (fun hJ => ?_) ?_
  · refine n_if_ne (off := 7) (tgt := 11) (by decide +kernel) (by decide) (fun hc1 => ?_) (fun hc1 => ?_)
    · refine n_iconst (n := 0) (v := 0) (by decide +kernel) rfl ?_
      exact hJ _ (if_neg hc1).symm
    · refine n_iconst (n := 1) (v := 1) (by decide +kernel) rfl ?_
      refine n_goto (off := 4) (tgt := 12) (by decide +kernel) (by decide) ?_
      exact hJ _ (if_pos hc1).symm
  cases hr
  exact n_ireturn (by decide +kernel)
set_option maxRecDepth 100000 in
theorem B_X7_byteAt (G : GG l s0 b L xs D cy ad)  {x1 : Int32} {M : Mm} {r : Int32} (hp0 : P 1) (hr : f_X7_byteAt x1 M = some r) : Cl l s0 D cy ad P 9 KX7_byteAt [.ref 1, .int x1] M (.inl (some (.int r))) (M) := by
  refine cl_ofN (by decide +kernel) rfl rfl okI (lo0 := [_, _]) rfl ?_
  unfold f_X7_byteAt at hr
  refine n_iload_n (n := 1) (by decide +kernel) rfl ?_
  refine n_if_lt (off := 23) (tgt := 24) (by decide +kernel) (by decide) (fun hc1 => ?_) (fun hc1 => ?_)
  · rw [if_pos hc1] at hr
    refine n_iconst (n := -1) (v := -1) (by decide +kernel) rfl ?_
    cases hr
    exact n_ireturn (by decide +kernel)
  · rw [if_neg hc1] at hr
    refine n_iload_n (n := 1) (by decide +kernel) rfl ?_
    refine n_sipush (n := 600) (v := 600) (by decide +kernel) (by decide +kernel) ?_
    refine n_icmp_ge (off := 16) (tgt := 24) (by decide +kernel) (by decide) (fun hc2 => ?_) (fun hc2 => ?_)
    · rw [if_pos hc2] at hr
      refine n_iconst (n := -1) (v := -1) (by decide +kernel) rfl ?_
      cases hr
      exact n_ireturn (by decide +kernel)
    · rw [if_neg hc2] at hr
      refine n_aload_n (n := 0) (by decide +kernel) rfl ?_
      refine n_getF (q := 2) G fl_RX7_11 hp0 (by decide +kernel) (by decide +kernel) (by decide +kernel) (fun hp3q => ?_)
      refine n_iload_n (n := 1) (by decide +kernel) rfl ?_
      obtain ⟨v4, h4, hr⟩ := bso hr
      refine n_bald G h4 hp3q (by decide +kernel) (by decide +kernel) (by decide +kernel) ?_
      refine n_sipush (n := 255) (v := 255) (by decide +kernel) (by decide +kernel) ?_
      refine n_iand (by decide +kernel) ?_
      refine n_goto (off := 4) (tgt := 25) (by decide +kernel) (by decide) ?_
      cases hr
      exact n_ireturn (by decide +kernel)
abbrev P_X7_next_b0 (l : Launch) (s0 : State) (D : va_G) (cy : Nat → ClassId) (ad : Nat → Nat) (P : Nat → Prop)   (res : Rs) (M' : Mm) (s : Mm) : Prop := Rn l s0 D cy ad P 10 KX7_next 0 [.ref 1] [] (s) res M'
abbrev Q_X7_next_b0 (l : Launch) (s0 : State) (D : va_G) (cy : Nat → ClassId) (ad : Nat → Nat) (P : Nat → Prop)   (res : Rs) (M' : Mm) (e : Mm) : Prop := Rn l s0 D cy ad P 10 KX7_next 37 [.ref 1] [] (e) res M'
set_option maxRecDepth 100000 in
theorem B_X7_next_b0 (G : GG l s0 b L xs D cy ad)   {res : Rs} {M' : Mm} (hp0 : P 1) : ∀ (s : Mm) (r : Mm ⊕ Mm), f_X7_next_b0  s = some r → mtc (P_X7_next_b0 l s0 D cy ad P  res M') (Q_X7_next_b0 l s0 D cy ad P  res M') r → P_X7_next_b0 l s0 D cy ad P  res M' s := by
  intro M r hr hk
  unfold f_X7_next_b0 at hr
  try dsimp only at hr
  dsimp only [P_X7_next_b0]
  refine n_aload_n (n := 0) (by decide +kernel) rfl ?_
  refine n_getI G fl_RX7_35 hp0 (by decide +kernel) (by decide +kernel) ?_
  refine n_aload_n (n := 0) (by decide +kernel) rfl ?_
  refine n_getI G fl_RX7_32 hp0 (by decide +kernel) (by decide +kernel) ?_
  refine n_icmp_ge (off := 29) (tgt := 37) (by decide +kernel) (by decide) (fun hc1 => ?_) (fun hc1 => ?_)
  · rw [if_pos hc1] at hr
    cases hr
    exact hk
  · rw [if_neg hc1] at hr
    refine n_aload_n (n := 0) (by decide +kernel) rfl ?_
    refine n_aload_n (n := 0) (by decide +kernel) rfl ?_
    refine n_getI G fl_RX7_35 hp0 (by decide +kernel) (by decide +kernel) ?_
    obtain ⟨v2, h2, hr⟩ := bso hr
    refine n_callVi G [_] (x := v2) (B_X7_byteAt G hp0 h2) (by decide) mX7_byteAt ml_RX7_41 hp0 (by decide +kernel) rfl rfl (Nat.le_of_ble_eq_true rfl) (by decide +kernel) ?_
    refine n_bipush (n := 32) (v := 32) (by decide +kernel) rfl ?_
    refine n_icmp_ne (off := 16) (tgt := 37) (by decide +kernel) (by decide) (fun hc3 => ?_) (fun hc3 => ?_)
    · rw [if_neg hc3] at hr
      cases hr
      exact hk
    · rw [if_pos hc3] at hr
      refine n_aload_n (n := 0) (by decide +kernel) rfl ?_
      refine n_dup rfl (by decide +kernel) ?_
      refine n_getI G fl_RX7_35 hp0 (by decide +kernel) (by decide +kernel) ?_
      refine n_iconst (n := 1) (v := 1) (by decide +kernel) rfl ?_
      refine n_iadd (by decide +kernel) ?_
      refine n_putI G fl_RX7_35 hp0 (by decide +kernel) (by decide +kernel) ?_
      refine n_goto (off := -34) (tgt := 0) (by decide +kernel) (by decide) ?_
      cases hr
      exact hk
set_option maxRecDepth 100000 in
theorem W_X7_next_b0 (G : GG l s0 b L xs D cy ad)   (hp0 : P 1) {s : Mm} {e : Mm} (h : whl fu (f_X7_next_b0 ) s = some e) (res : Rs) (M' : Mm) : Q_X7_next_b0 l s0 D cy ad P  res M' e → P_X7_next_b0 l s0 D cy ad P  res M' s := whl_run (P := fun s => P_X7_next_b0 l s0 D cy ad P  res M' s) (Q := fun e => Q_X7_next_b0 l s0 D cy ad P  res M' e) (B_X7_next_b0 G (res := res) (M' := M')  hp0) fu s h
set_option maxRecDepth 100000 in
theorem B_X7_next_j37 (G : GG l s0 b L xs D cy ad)  {M : Mm} {r : (Int32 × Mm)} (hp0 : P 1) (hr : f_X7_next_j37  M = some r) : Rn l s0 D cy ad P 10 KX7_next 37 [.ref 1] [] M (.inl (some (.int r.1))) (r.2) := by
  unfold f_X7_next_j37 at hr
  refine n_aload_n (n := 0) (by decide +kernel) rfl ?_
  refine n_getI G fl_RX7_35 hp0 (by decide +kernel) (by decide +kernel) ?_
  refine n_aload_n (n := 0) (by decide +kernel) rfl ?_
  refine n_getI G fl_RX7_32 hp0 (by decide +kernel) (by decide +kernel) ?_
  refine n_icmp_ge (off := 14) (tgt := 59) (by decide +kernel) (by decide) (fun hc5 => ?_) (fun hc5 => ?_)
  · rw [if_pos hc5] at hr
    refine n_iconst (n := -1) (v := -1) (by decide +kernel) rfl ?_
    cases hr
    exact n_ireturn (by decide +kernel)
  · rw [if_neg hc5] at hr
    refine n_aload_n (n := 0) (by decide +kernel) rfl ?_
    refine n_aload_n (n := 0) (by decide +kernel) rfl ?_
    refine n_getI G fl_RX7_35 hp0 (by decide +kernel) (by decide +kernel) ?_
    obtain ⟨v6, h6, hr⟩ := bso hr
    refine n_callVi G [_] (x := v6) (B_X7_byteAt G hp0 h6) (by decide) mX7_byteAt ml_RX7_41 hp0 (by decide +kernel) rfl rfl (Nat.le_of_ble_eq_true rfl) (by decide +kernel) ?_
    refine n_goto (off := 4) (tgt := 60) (by decide +kernel) (by decide) ?_
    cases hr
    exact n_ireturn (by decide +kernel)
set_option maxRecDepth 100000 in
theorem B_X7_next (G : GG l s0 b L xs D cy ad)   {M : Mm} {r : (Int32 × Mm)} (hp0 : P 1) (hr : f_X7_next  M = some r) : Cl l s0 D cy ad P 10 KX7_next [.ref 1] M (.inl (some (.int r.1))) (r.2) := by
  refine cl_ofN (by decide +kernel) rfl rfl okI (lo0 := [_]) rfl ?_
  unfold f_X7_next at hr
  obtain ⟨M4, h4, hr⟩ := bso hr
  refine (W_X7_next_b0 G hp0 h4 _ _) ?_
  dsimp only [Q_X7_next_b0]
  exact B_X7_next_j37 G hp0 hr
set_option maxRecDepth 100000 in
theorem B_X7_isDigit (G : GG l s0 b L xs D cy ad)  {x0 : Int32} {M : Mm} {r : Int32}  (hr : f_X7_isDigit x0 M = some r) : Cl l s0 D cy ad P 9 KX7_isDigit [.int x0] M (.inl (some (.int r))) (M) := by
  unfold f_X7_isDigit at hr
  obtain ⟨v0, h0, h1⟩ := bso hr
  clear hr
  obtain ⟨hb, rfl⟩ := rB_in h1
  have hr := h0
  clear h0
  refine cl_ofN (by decide +kernel) rfl rfl (okB hb) (lo0 := [_]) rfl ?_
  unfold g_X7_isDigit at hr
  refine n_iload_n (n := 0) (by decide +kernel) rfl ?_
  refine n_bipush (n := 48) (v := 48) (by decide +kernel) rfl ?_
  refine n_icmp_lt (off := 13) (tgt := 16) (by decide +kernel) (by decide) (fun hc1 => ?_) (fun hc1 => ?_)
  · rw [if_pos hc1] at hr
    refine n_iconst (n := 0) (v := 0) (by decide +kernel) rfl ?_
    cases hr
    exact n_ireturn (by decide +kernel)
  · rw [if_neg hc1] at hr
    refine n_iload_n (n := 0) (by decide +kernel) rfl ?_
    refine n_bipush (n := 57) (v := 57) (by decide +kernel) rfl ?_
    refine n_icmp_gt (off := 7) (tgt := 16) (by decide +kernel) (by decide) (fun hc2 => ?_) (fun hc2 => ?_)
    · rw [if_pos hc2] at hr
      refine n_iconst (n := 0) (v := 0) (by decide +kernel) rfl ?_
      cases hr
      exact n_ireturn (by decide +kernel)
    · rw [if_neg hc2] at hr
      refine n_iconst (n := 1) (v := 1) (by decide +kernel) rfl ?_
      refine n_goto (off := 4) (tgt := 17) (by decide +kernel) (by decide) ?_
      cases hr
      exact n_ireturn (by decide +kernel)
set_option maxRecDepth 100000 in
theorem B_X7_fail (G : GG l s0 b L xs D cy ad)  {x1 : Int32} {x2 : Int32} {M : Mm} {r : Mm} (hp0 : P 1) (hr : f_X7_fail x1 x2 M = some r) : Cl l s0 D cy ad P 9 KX7_fail [.ref 1, .int x1, .int x2] M (.inl none) (r) := by
  refine cl_ofN (by decide +kernel) rfl rfl rfl (lo0 := [_, _, _]) rfl ?_
  unfold f_X7_fail at hr
  refine n_aload_n (n := 0) (by decide +kernel) rfl ?_
  refine n_getI G fl_RX7_38 hp0 (by decide +kernel) (by decide +kernel) ?_
  refine n_if_ne (off := 13) (tgt := 17) (by decide +kernel) (by decide) (fun hc1 => ?_) (fun hc1 => ?_)
  · rw [if_neg hc1] at hr
    cases hr
    exact n_return (by decide +kernel)
  · rw [if_pos hc1] at hr
    refine n_aload_n (n := 0) (by decide +kernel) rfl ?_
    refine n_iload_n (n := 1) (by decide +kernel) rfl ?_
    refine n_putI G fl_RX7_38 hp0 (by decide +kernel) (by decide +kernel) ?_
    refine n_aload_n (n := 0) (by decide +kernel) rfl ?_
    refine n_iload_n (n := 2) (by decide +kernel) rfl ?_
    refine n_putI G fl_RX7_15 hp0 (by decide +kernel) (by decide +kernel) ?_
    cases hr
    exact n_return (by decide +kernel)
abbrev P_X7_readNumber_b31 (l : Launch) (s0 : State) (D : va_G) (cy : Nat → ClassId) (ad : Nat → Nat) (P : Nat → Prop) (x1 : Int32) (x2 : Int32)  (res : Rs) (M' : Mm) (s : (Int32 × Mm)) : Prop := Rn l s0 D cy ad P 11 KX7_readNumber 31 [.ref 1, .int x1, .int x2, .int (s.1)] [] (s.2) res M'
abbrev Q_X7_readNumber_b31 (l : Launch) (s0 : State) (D : va_G) (cy : Nat → ClassId) (ad : Nat → Nat) (P : Nat → Prop) (x1 : Int32) (x2 : Int32)  (res : Rs) (M' : Mm) (e : (Int32 × Mm)) : Prop := Rn l s0 D cy ad P 11 KX7_readNumber 91 [.ref 1, .int x1, .int x2, .int (e.1)] [] (e.2) res M'
set_option maxRecDepth 100000 in
theorem B_X7_readNumber_b31 (G : GG l s0 b L xs D cy ad) {x1 : Int32} {x2 : Int32}  {res : Rs} {M' : Mm} (hp0 : P 1) : ∀ (s : (Int32 × Mm)) (r : (Int32 × Mm) ⊕ (Int32 × Mm)), f_X7_readNumber_b31 x1 x2 s = some r → mtc (P_X7_readNumber_b31 l s0 D cy ad P x1 x2 res M') (Q_X7_readNumber_b31 l s0 D cy ad P x1 x2 res M') r → P_X7_readNumber_b31 l s0 D cy ad P x1 x2 res M' s := by
  intro s r hr hk
  obtain ⟨x3, M⟩ := s
  unfold f_X7_readNumber_b31 at hr
  try dsimp only at hr
  dsimp only [P_X7_readNumber_b31]
  refine n_aload_n (n := 0) (by decide +kernel) rfl ?_
  refine n_getI G fl_RX7_35 hp0 (by decide +kernel) (by decide +kernel) ?_
  refine n_aload_n (n := 0) (by decide +kernel) rfl ?_
  refine n_getI G fl_RX7_32 hp0 (by decide +kernel) (by decide +kernel) ?_
  refine n_icmp_ge (off := 52) (tgt := 91) (by decide +kernel) (by decide) (fun hc4 => ?_) (fun hc4 => ?_)
  · rw [if_pos hc4] at hr
    cases hr
    exact hk
  · rw [if_neg hc4] at hr
    refine n_aload_n (n := 0) (by decide +kernel) rfl ?_
    refine n_aload_n (n := 0) (by decide +kernel) rfl ?_
    refine n_getI G fl_RX7_35 hp0 (by decide +kernel) (by decide +kernel) ?_
    obtain ⟨v5, h5, hr⟩ := bso hr
    refine n_callVi G [_] (x := v5) (B_X7_byteAt G hp0 h5) (by decide) mX7_byteAt ml_RX7_41 hp0 (by decide +kernel) rfl rfl (Nat.le_of_ble_eq_true rfl) (by decide +kernel) ?_
    obtain ⟨v6, h6, hr⟩ := bso hr
    refine n_callSi G [_] (x := v6) (B_X7_isDigit G  h6) (by decide) mX7_isDigit ml_RX7_57 rfl rfl (Nat.le_of_ble_eq_true rfl) (by decide +kernel) ?_
    refine n_if_eq (off := 38) (tgt := 91) (by decide +kernel) (by decide) (fun hc7 => ?_) (fun hc7 => ?_)
    · rw [if_pos hc7] at hr
      cases hr
      exact hk
    · rw [if_neg hc7] at hr
      refine n_ldc G ct_RX7_64 (by decide +kernel) ?_
      refine n_iload_n (n := 3) (by decide +kernel) rfl ?_
      refine n_bipush (n := 10) (v := 10) (by decide +kernel) rfl ?_
      refine n_imul (by decide +kernel) ?_
      refine n_aload_n (n := 0) (by decide +kernel) rfl ?_
      refine n_aload_n (n := 0) (by decide +kernel) rfl ?_
      refine n_getI G fl_RX7_35 hp0 (by decide +kernel) (by decide +kernel) ?_
      obtain ⟨v8, h8, hr⟩ := bso hr
      refine n_callVi G [_] (x := v8) (B_X7_byteAt G hp0 h8) (by decide) mX7_byteAt ml_RX7_41 hp0 (by decide +kernel) rfl rfl (Nat.le_of_ble_eq_true rfl) (by decide +kernel) ?_
      refine n_iadd (by decide +kernel) ?_
      refine n_bipush (n := 48) (v := 48) (by decide +kernel) rfl ?_
      refine n_isub (by decide +kernel) ?_
      refine n_mmin G ml_RX7_26 (by decide) (Nat.le_of_ble_eq_true rfl) (by decide +kernel) ?_
      refine n_istore_n (n := 3) (lo2 := [_, _, _, _]) (by decide +kernel) (Nat.le_of_ble_eq_true rfl) rfl ?_
      refine n_aload_n (n := 0) (by decide +kernel) rfl ?_
      refine n_dup rfl (by decide +kernel) ?_
      refine n_getI G fl_RX7_35 hp0 (by decide +kernel) (by decide +kernel) ?_
      refine n_iconst (n := 1) (v := 1) (by decide +kernel) rfl ?_
      refine n_iadd (by decide +kernel) ?_
      refine n_putI G fl_RX7_35 hp0 (by decide +kernel) (by decide +kernel) ?_
      refine n_goto (off := -57) (tgt := 31) (by decide +kernel) (by decide) ?_
      cases hr
      exact hk
set_option maxRecDepth 100000 in
theorem W_X7_readNumber_b31 (G : GG l s0 b L xs D cy ad) {x1 : Int32} {x2 : Int32}  (hp0 : P 1) {s : (Int32 × Mm)} {e : (Int32 × Mm)} (h : whl fu (f_X7_readNumber_b31 x1 x2) s = some e) (res : Rs) (M' : Mm) : Q_X7_readNumber_b31 l s0 D cy ad P x1 x2 res M' e → P_X7_readNumber_b31 l s0 D cy ad P x1 x2 res M' s := whl_run (P := fun s => P_X7_readNumber_b31 l s0 D cy ad P x1 x2 res M' s) (Q := fun e => Q_X7_readNumber_b31 l s0 D cy ad P x1 x2 res M' e) (B_X7_readNumber_b31 G (res := res) (M' := M') (x1 := x1) (x2 := x2) hp0) fu s h
set_option maxRecDepth 100000 in
theorem B_X7_readNumber_j91 (G : GG l s0 b L xs D cy ad) {x1 : Int32} {x2 : Int32} {x3 : Int32} {M : Mm} {r : (Int32 × Mm)} (hp0 : P 1) (hr : f_X7_readNumber_j91 x1 x2 x3 M = some r) : Rn l s0 D cy ad P 11 KX7_readNumber 91 [.ref 1, .int x1, .int x2, .int x3] [] M (.inl (some (.int r.1))) (r.2) := by
  unfold f_X7_readNumber_j91 at hr
  refine n_iload_n (n := 3) (by decide +kernel) rfl ?_
  refine n_iload_n (n := 1) (by decide +kernel) rfl ?_
  refine n_icmp_lt (off := 8) (tgt := 101) (by decide +kernel) (by decide) (fun hc10 => ?_) (fun hc10 => ?_)
  · rw [if_pos hc10] at hr
    refine n_aload_n (n := 0) (by decide +kernel) rfl ?_
    refine n_iconst (n := 2) (v := 2) (by decide +kernel) rfl ?_
    refine n_aload_n (n := 0) (by decide +kernel) rfl ?_
    refine n_getI G fl_RX7_61 hp0 (by decide +kernel) (by decide +kernel) ?_
    obtain ⟨M11, h11, hr⟩ := bso hr
    refine n_callVv G [_, _] (M1 := M11) (B_X7_fail G hp0 h11) (by decide) mX7_fail ml_RX7_53 hp0 (by decide +kernel) rfl rfl (Nat.le_of_ble_eq_true rfl) (by decide +kernel) ?_
    refine n_iload_n (n := 3) (by decide +kernel) rfl ?_
    cases hr
    exact n_ireturn (by decide +kernel)
  · rw [if_neg hc10] at hr
    refine n_iload_n (n := 3) (by decide +kernel) rfl ?_
    refine n_iload_n (n := 2) (by decide +kernel) rfl ?_
    refine n_icmp_le (off := 12) (tgt := 110) (by decide +kernel) (by decide) (fun hc12 => ?_) (fun hc12 => ?_)
    · rw [if_pos hc12] at hr
      refine n_iload_n (n := 3) (by decide +kernel) rfl ?_
      cases hr
      exact n_ireturn (by decide +kernel)
    · rw [if_neg hc12] at hr
      refine n_aload_n (n := 0) (by decide +kernel) rfl ?_
      refine n_iconst (n := 2) (v := 2) (by decide +kernel) rfl ?_
      refine n_aload_n (n := 0) (by decide +kernel) rfl ?_
      refine n_getI G fl_RX7_61 hp0 (by decide +kernel) (by decide +kernel) ?_
      obtain ⟨M13, h13, hr⟩ := bso hr
      refine n_callVv G [_, _] (M1 := M13) (B_X7_fail G hp0 h13) (by decide) mX7_fail ml_RX7_53 hp0 (by decide +kernel) rfl rfl (Nat.le_of_ble_eq_true rfl) (by decide +kernel) ?_
      refine n_iload_n (n := 3) (by decide +kernel) rfl ?_
      cases hr
      exact n_ireturn (by decide +kernel)
set_option maxRecDepth 100000 in
theorem B_X7_readNumber (G : GG l s0 b L xs D cy ad)  {x1 : Int32} {x2 : Int32} {M : Mm} {r : (Int32 × Mm)} (hp0 : P 1) (hr : f_X7_readNumber x1 x2 M = some r) : Cl l s0 D cy ad P 11 KX7_readNumber [.ref 1, .int x1, .int x2] M (.inl (some (.int r.1))) (r.2) := by
  refine cl_ofN (by decide +kernel) rfl rfl okI (lo0 := [_, _, _, .null]) rfl ?_
  unfold f_X7_readNumber at hr
  refine n_aload_n (n := 0) (by decide +kernel) rfl ?_
  obtain ⟨⟨v1, M1⟩, h1, hr⟩ := bso hr
  try dsimp only at hr
  refine n_callVi G [] (x := v1) (M1 := M1) (B_X7_next G hp0 h1) (by decide) mX7_next ml_RX7_49 hp0 (by decide +kernel) rfl rfl (Nat.le_of_ble_eq_true rfl) (by decide +kernel) ?_
  obtain ⟨v2, h2, hr⟩ := bso hr
  refine n_callSi G [_] (x := v2) (B_X7_isDigit G  h2) (by decide) mX7_isDigit ml_RX7_57 rfl rfl (Nat.le_of_ble_eq_true rfl) (by decide +kernel) ?_
  refine n_if_ne (off := 14) (tgt := 21) (by decide +kernel) (by decide) (fun hc3 => ?_) (fun hc3 => ?_)
  · rw [if_neg hc3] at hr
    refine n_aload_n (n := 0) (by decide +kernel) rfl ?_
    refine n_aload_n (n := 0) (by decide +kernel) rfl ?_
    refine n_getI G fl_RX7_35 hp0 (by decide +kernel) (by decide +kernel) ?_
    refine n_putI G fl_RX7_61 hp0 (by decide +kernel) (by decide +kernel) ?_
    refine n_iconst (n := 0) (v := 0) (by decide +kernel) rfl ?_
    refine n_istore_n (n := 3) (lo2 := [_, _, _, _]) (by decide +kernel) (Nat.le_of_ble_eq_true rfl) rfl ?_
    obtain ⟨e9, h9, hr⟩ := bso hr
    refine (W_X7_readNumber_b31 G hp0 h9 _ _) ?_
    obtain ⟨z3_9, M9⟩ := e9
    try dsimp only at hr
    dsimp only [Q_X7_readNumber_b31]
    exact B_X7_readNumber_j91 G hp0 hr
  · rw [if_pos hc3] at hr
    refine n_aload_n (n := 0) (by decide +kernel) rfl ?_
    refine n_iconst (n := 1) (v := 1) (by decide +kernel) rfl ?_
    refine n_aload_n (n := 0) (by decide +kernel) rfl ?_
    refine n_getI G fl_RX7_35 hp0 (by decide +kernel) (by decide +kernel) ?_
    obtain ⟨M14, h14, hr⟩ := bso hr
    refine n_callVv G [_, _] (M1 := M14) (B_X7_fail G hp0 h14) (by decide) mX7_fail ml_RX7_53 hp0 (by decide +kernel) rfl rfl (Nat.le_of_ble_eq_true rfl) (by decide +kernel) ?_
    refine n_iload_n (n := 1) (by decide +kernel) rfl ?_
    cases hr
    exact n_ireturn (by decide +kernel)
set_option maxRecDepth 100000 in
theorem B_X9_cellAt (G : GG l s0 b L xs D cy ad)  {x0 : Int32} {x1 : Int32} {M : Mm} {r : Int32}  (hr : f_X9_cellAt x0 x1 M = some r) : Cl l s0 D cy ad P 9 KX9_cellAt [.int x0, .int x1] M (.inl (some (.int r))) (M) := by
  refine cl_ofN (by decide +kernel) rfl rfl okI (lo0 := [_, _]) rfl ?_
  unfold f_X9_cellAt at hr
  refine n_bipush (n := 8) (v := 8) (by decide +kernel) rfl ?_
  refine n_iload_n (n := 1) (by decide +kernel) rfl ?_
  refine n_imul (by decide +kernel) ?_
  refine n_iload_n (n := 0) (by decide +kernel) rfl ?_
  refine n_iadd (by decide +kernel) ?_
  cases hr
  exact n_ireturn (by decide +kernel)
abbrev P_X1_isTold_b2 (l : Launch) (s0 : State) (D : va_G) (cy : Nat → ClassId) (ad : Nat → Nat) (P : Nat → Prop) (a0 : Nat) (x1 : Int32) (M : Mm) (res : Rs) (M' : Mm) (s : Int32) : Prop := Rn l s0 D cy ad P 9 KX1_isTold 2 [.ref a0, .int x1, .int (s)] [] M res M'
abbrev Q_X1_isTold_b2 (l : Launch) (s0 : State) (D : va_G) (cy : Nat → ClassId) (ad : Nat → Nat) (P : Nat → Prop) (a0 : Nat) (x1 : Int32) (M : Mm) (res : Rs) (M' : Mm) (e : (Unit ⊕ Unit)) : Prop := (match e with | .inl e => Rn l s0 D cy ad P 9 KX1_isTold 26 [.null, .null, .null] [] M res M' | .inr e => Rn l s0 D cy ad P 9 KX1_isTold 34 [.null, .null, .null] [] M res M')
set_option maxRecDepth 100000 in
theorem B_X1_isTold_b2 (G : GG l s0 b L xs D cy ad) {a0 : Nat} {x1 : Int32} {M : Mm} {res : Rs} {M' : Mm} (hp0 : P a0) (hs0 : SH a0 = 1) : ∀ (s : Int32) (r : Int32 ⊕ (Unit ⊕ Unit)), f_X1_isTold_b2 a0 x1 M s = some r → mtc (P_X1_isTold_b2 l s0 D cy ad P a0 x1 M res M') (Q_X1_isTold_b2 l s0 D cy ad P a0 x1 M res M') r → P_X1_isTold_b2 l s0 D cy ad P a0 x1 M res M' s := by
  intro x2 r hr hk
  unfold f_X1_isTold_b2 at hr
  try dsimp only at hr
  dsimp only [P_X1_isTold_b2]
  refine n_iload_n (n := 2) (by decide +kernel) rfl ?_
  refine n_aload_n (n := 0) (by decide +kernel) rfl ?_
  refine n_getI G fl_RX1_21 hp0 hs0 (by decide +kernel) ?_
  refine n_icmp_ge (off := 27) (tgt := 34) (by decide +kernel) (by decide) (fun hc1 => ?_) (fun hc1 => ?_)
  · rw [if_pos hc1] at hr
    cases hr
    refine n_msk [false, false, false] (lo2 := [.null, .null, .null]) rfl rfl ?_
    exact hk
  · rw [if_neg hc1] at hr
    refine n_iload_n (n := 2) (by decide +kernel) rfl ?_
    refine n_bipush (n := 6) (v := 6) (by decide +kernel) rfl ?_
    refine n_icmp_ge (off := 21) (tgt := 34) (by decide +kernel) (by decide) (fun hc2 => ?_) (fun hc2 => ?_)
    · rw [if_pos hc2] at hr
      cases hr
      refine n_msk [false, false, false] (lo2 := [.null, .null, .null]) rfl rfl ?_
      exact hk
    · rw [if_neg hc2] at hr
      refine n_aload_n (n := 0) (by decide +kernel) rfl ?_
      refine n_getF (q := (a0 + 1)) G fl_RX1_11 hp0 hs0 (fr_1_0 hs0).1 (by decide +kernel) (fun hp3q => ?_)
      refine n_iload_n (n := 2) (by decide +kernel) rfl ?_
      obtain ⟨v4, h4, hr⟩ := bso hr
      refine n_iald G h4 hp3q (fr_1_0 hs0).2.1 (fr_1_0 hs0).2.2 (by decide +kernel) ?_
      refine n_iload_n (n := 1) (by decide +kernel) rfl ?_
      refine n_icmp_ne (off := 5) (tgt := 28) (by decide +kernel) (by decide) (fun hc5 => ?_) (fun hc5 => ?_)
      · rw [if_neg hc5] at hr
        refine n_iincK (n := 2) (j := 1) (w := 1) (lo2 := [_, _, _]) (by decide +kernel) rfl rfl rfl ?_
        refine n_goto (off := -29) (tgt := 2) (by decide +kernel) (by decide) ?_
        cases hr
        exact hk
      · rw [if_pos hc5] at hr
        cases hr
        refine n_msk [false, false, false] (lo2 := [.null, .null, .null]) rfl rfl ?_
        exact hk
set_option maxRecDepth 100000 in
theorem W_X1_isTold_b2 (G : GG l s0 b L xs D cy ad) {a0 : Nat} {x1 : Int32} {M : Mm} (hp0 : P a0) (hs0 : SH a0 = 1) {s : Int32} {e : (Unit ⊕ Unit)} (h : whl fu (f_X1_isTold_b2 a0 x1 M) s = some e) (res : Rs) (M' : Mm) : Q_X1_isTold_b2 l s0 D cy ad P a0 x1 M res M' e → P_X1_isTold_b2 l s0 D cy ad P a0 x1 M res M' s := whl_run (P := fun s => P_X1_isTold_b2 l s0 D cy ad P a0 x1 M res M' s) (Q := fun e => Q_X1_isTold_b2 l s0 D cy ad P a0 x1 M res M' e) (B_X1_isTold_b2 G (res := res) (M' := M') (a0 := a0) (x1 := x1) (M := M) hp0 hs0) fu s h
set_option maxRecDepth 100000 in
theorem B_X1_isTold (G : GG l s0 b L xs D cy ad)  {a0 : Nat} {x1 : Int32} {M : Mm} {r : Int32} (hp0 : P a0) (hs0 : SH a0 = 1) (hr : f_X1_isTold a0 x1 M = some r) : Cl l s0 D cy ad P 9 KX1_isTold [.ref a0, .int x1] M (.inl (some (.int r))) (M) := by
  unfold f_X1_isTold at hr
  obtain ⟨v0, h0, h1⟩ := bso hr
  clear hr
  obtain ⟨hb, rfl⟩ := rB_in h1
  have hr := h0
  clear h0
  refine cl_ofN (by decide +kernel) rfl rfl (okB hb) (lo0 := [_, _, .null]) rfl ?_
  unfold g_X1_isTold at hr
  refine n_iconst (n := 0) (v := 0) (by decide +kernel) rfl ?_
  refine n_istore_n (n := 2) (lo2 := [_, _, _]) (by decide +kernel) (Nat.le_of_ble_eq_true rfl) rfl ?_
  obtain ⟨e6, h6, hr⟩ := bso hr
  refine (W_X1_isTold_b2 G hp0 hs0 h6 _ _) ?_
  rcases e6 with _ | _
  · try dsimp only at hr
    dsimp only [Q_X1_isTold_b2]
    refine n_iconst (n := 1) (v := 1) (by decide +kernel) rfl ?_
    cases hr
    exact n_ireturn (by decide +kernel)
  · try dsimp only at hr
    dsimp only [Q_X1_isTold_b2]
    refine n_iconst (n := 0) (v := 0) (by decide +kernel) rfl ?_
    cases hr
    exact n_ireturn (by decide +kernel)
set_option maxRecDepth 100000 in
theorem B_X7_readSign (G : GG l s0 b L xs D cy ad)  {x1 : Int32} {M : Mm} {r : Mm} (hp0 : P 1) (hr : f_X7_readSign x1 M = some r) : Cl l s0 D cy ad P 11 KX7_readSign [.ref 1, .int x1] M (.inl none) (r) := by
  refine cl_ofN (by decide +kernel) rfl rfl rfl (lo0 := [_, _]) rfl ?_
  unfold f_X7_readSign at hr
  refine n_aload_n (n := 0) (by decide +kernel) rfl ?_
  obtain ⟨⟨v1, M1⟩, h1, hr⟩ := bso hr
  try dsimp only at hr
  refine n_callVi G [] (x := v1) (M1 := M1) (B_X7_next G hp0 h1) (by decide) mX7_next ml_RX7_49 hp0 (by decide +kernel) rfl rfl (Nat.le_of_ble_eq_true rfl) (by decide +kernel) ?_
  refine n_iload_n (n := 1) (by decide +kernel) rfl ?_
  refine n_icmp_ne (off := 16) (tgt := 21) (by decide +kernel) (by decide) (fun hc2 => ?_) (fun hc2 => ?_)
  · rw [if_neg hc2] at hr
    refine n_aload_n (n := 0) (by decide +kernel) rfl ?_
    refine n_iconst (n := 1) (v := 1) (by decide +kernel) rfl ?_
    refine n_aload_n (n := 0) (by decide +kernel) rfl ?_
    refine n_getI G fl_RX7_35 hp0 (by decide +kernel) (by decide +kernel) ?_
    obtain ⟨M3, h3, hr⟩ := bso hr
    refine n_callVv G [_, _] (M1 := M3) (B_X7_fail G hp0 h3) (by decide) mX7_fail ml_RX7_53 hp0 (by decide +kernel) rfl rfl (Nat.le_of_ble_eq_true rfl) (by decide +kernel) ?_
    cases hr
    exact n_return (by decide +kernel)
  · rw [if_pos hc2] at hr
    refine n_aload_n (n := 0) (by decide +kernel) rfl ?_
    refine n_dup rfl (by decide +kernel) ?_
    refine n_getI G fl_RX7_35 hp0 (by decide +kernel) (by decide +kernel) ?_
    refine n_iconst (n := 1) (v := 1) (by decide +kernel) rfl ?_
    refine n_iadd (by decide +kernel) ?_
    refine n_putI G fl_RX7_35 hp0 (by decide +kernel) (by decide +kernel) ?_
    refine n_goto (off := 12) (tgt := 30) (by decide +kernel) (by decide) ?_
    cases hr
    exact n_return (by decide +kernel)
set_option maxRecDepth 100000 in
theorem B_X1_readLine_j70 (G : GG l s0 b L xs D cy ad) {a0 : Nat} {x5 : Int32} {M : Mm} {r : Mm} (hp0 : P a0) (hs0 : SH a0 = 1) (hp1 : P 1) (hr : f_X1_readLine_j70 a0 x5 M = some r) : Rn l s0 D cy ad P 12 KX1_readLine 70 [.ref a0, .ref 1, .null, .null, .null, .int x5] [] M (.inl none) (r) := by
  unfold f_X1_readLine_j70 at hr
  refine n_aload_n (n := 0) (by decide +kernel) rfl ?_
  refine n_getF (q := (a0 + 1)) G fl_RX1_11 hp0 hs0 (fr_1_0 hs0).1 (by decide +kernel) (fun hp7q => ?_)
  refine n_aload_n (n := 0) (by decide +kernel) rfl ?_
  refine n_getI G fl_RX1_21 hp0 hs0 (by decide +kernel) ?_
  refine n_iload (n := 5) (by decide +kernel) rfl ?_
  obtain ⟨M8, h8, hr⟩ := bso hr
  refine n_iast G h8 hp7q (fr_1_0 hs0).2.1 (fr_1_0 hs0).2.2 (by decide +kernel) ?_
  refine n_aload_n (n := 0) (by decide +kernel) rfl ?_
  refine n_getF (q := (a0 + 2)) G fl_RX1_15 hp0 hs0 (fr_1_1 hs0).1 (by decide +kernel) (fun hp9q => ?_)
  refine n_aload_n (n := 0) (by decide +kernel) rfl ?_
  refine n_getI G fl_RX1_21 hp0 hs0 (by decide +kernel) ?_
  refine n_aload_n (n := 1) (by decide +kernel) rfl ?_
  refine n_iconst (n := 0) (v := 0) (by decide +kernel) rfl ?_
  refine n_bipush (n := 60) (v := 60) (by decide +kernel) rfl ?_
  obtain ⟨⟨v10, M10⟩, h10, hr⟩ := bso hr
  try dsimp only at hr
  refine n_callVi G [_, _] (x := v10) (M1 := M10) (B_X7_readNumber G hp1 h10) (by decide) mX7_readNumber ml_RX1_44 hp1 (by decide +kernel) rfl rfl (Nat.le_of_ble_eq_true rfl) (by decide +kernel) ?_
  obtain ⟨M11, h11, hr⟩ := bso hr
  refine n_iast G h11 hp9q (fr_1_1 hs0).2.1 (fr_1_1 hs0).2.2 (by decide +kernel) ?_
  refine n_aload_n (n := 0) (by decide +kernel) rfl ?_
  refine n_dup rfl (by decide +kernel) ?_
  refine n_getI G fl_RX1_21 hp0 hs0 (by decide +kernel) ?_
  refine n_iconst (n := 1) (v := 1) (by decide +kernel) rfl ?_
  refine n_iadd (by decide +kernel) ?_
  refine n_putI G fl_RX1_21 hp0 hs0 (by decide +kernel) ?_
  refine n_aload_n (n := 1) (by decide +kernel) rfl ?_
  refine n_bipush (n := 59) (v := 59) (by decide +kernel) rfl ?_
  obtain ⟨M12, h12, hr⟩ := bso hr
  refine n_callVv G [_] (M1 := M12) (B_X7_readSign G hp1 h12) (by decide) mX7_readSign ml_RX1_65 hp1 (by decide +kernel) rfl rfl (Nat.le_of_ble_eq_true rfl) (by decide +kernel) ?_
  cases hr
  exact n_return (by decide +kernel)
set_option maxRecDepth 100000 in
theorem B_X1_readLine (G : GG l s0 b L xs D cy ad)  {a0 : Nat} {a2 : Nat} {M : Mm} {r : Mm} (hp0 : P a0) (hs0 : SH a0 = 1) (hp1 : P 1) (hp2 : P a2) (hs2 : SH a2 = 3) (hr : f_X1_readLine a0 a2 M = some r) : Cl l s0 D cy ad P 12 KX1_readLine [.ref a0, .ref 1, .ref a2] M (.inl none) (r) := by
  refine cl_ofN (by decide +kernel) rfl rfl rfl (lo0 := [_, _, _, .null, .null, .null]) rfl ?_
  unfold f_X1_readLine at hr
  refine n_aload_n (n := 1) (by decide +kernel) rfl ?_
  refine n_iconst (n := 0) (v := 0) (by decide +kernel) rfl ?_
  refine n_aload_n (n := 2) (by decide +kernel) rfl ?_
  refine n_getI G fl_RX1_39 hp2 hs2 (by decide +kernel) ?_
  refine n_iconst (n := 1) (v := 1) (by decide +kernel) rfl ?_
  refine n_isub (by decide +kernel) ?_
  obtain ⟨⟨v1, M1⟩, h1, hr⟩ := bso hr
  try dsimp only at hr
  refine n_callVi G [_, _] (x := v1) (M1 := M1) (B_X7_readNumber G hp1 h1) (by decide) mX7_readNumber ml_RX1_44 hp1 (by decide +kernel) rfl rfl (Nat.le_of_ble_eq_true rfl) (by decide +kernel) ?_
  refine n_istore_n (n := 3) (lo2 := [_, _, _, _, _, _]) (by decide +kernel) (Nat.le_of_ble_eq_true rfl) rfl ?_
  refine n_aload_n (n := 0) (by decide +kernel) rfl ?_
  refine n_getI G fl_RX1_21 hp0 hs0 (by decide +kernel) ?_
  refine n_bipush (n := 6) (v := 6) (by decide +kernel) rfl ?_
  refine n_icmp_lt (off := 13) (tgt := 31) (by decide +kernel) (by decide) (fun hc2 => ?_) (fun hc2 => ?_)
  · rw [if_pos hc2] at hr
    refine n_aload_n (n := 1) (by decide +kernel) rfl ?_
    refine n_iconst (n := 0) (v := 0) (by decide +kernel) rfl ?_
    refine n_aload_n (n := 2) (by decide +kernel) rfl ?_
    refine n_getI G fl_RX1_55 hp2 hs2 (by decide +kernel) ?_
    refine n_iconst (n := 1) (v := 1) (by decide +kernel) rfl ?_
    refine n_isub (by decide +kernel) ?_
    obtain ⟨⟨v3, M3⟩, h3, hr⟩ := bso hr
    try dsimp only at hr
    refine n_callVi G [_, _] (x := v3) (M1 := M3) (B_X7_readNumber G hp1 h3) (by decide) mX7_readNumber ml_RX1_44 hp1 (by decide +kernel) rfl rfl (Nat.le_of_ble_eq_true rfl) (by decide +kernel) ?_
    refine n_istore (n := 4) (lo2 := [_, _, _, _, _, _]) (by decide +kernel) (Nat.le_of_ble_eq_true rfl) rfl ?_
    refine n_iload_n (n := 3) (by decide +kernel) rfl ?_
    refine n_iload (n := 4) (by decide +kernel) rfl ?_
    obtain ⟨v4, h4, hr⟩ := bso hr
    refine n_callSNi G [_, _] (x := v4) (B_X9_cellAt G  h4) (by decide) mX9_cellAt ml_RX1_58 rfl rfl (Nat.le_of_ble_eq_true rfl) (by decide +kernel) ?_
    refine n_istore (n := 5) (lo2 := [_, _, _, _, _, _]) (by decide +kernel) (Nat.le_of_ble_eq_true rfl) rfl ?_
    refine n_aload_n (n := 0) (by decide +kernel) rfl ?_
    refine n_iload (n := 5) (by decide +kernel) rfl ?_
    obtain ⟨v5, h5, hr⟩ := bso hr
    refine n_callVi G [_] (x := v5) (B_X1_isTold G hp0 hs0 h5) (by decide) mX1_isTold ml_RX1_61 hp0 hs0 rfl rfl (Nat.le_of_ble_eq_true rfl) (by decide +kernel) ?_
    refine n_if_eq (off := 12) (tgt := 70) (by decide +kernel) (by decide) (fun hc6 => ?_) (fun hc6 => ?_)
    · rw [if_pos hc6] at hr
      refine n_msk [true, true, false, false, false, true] (lo2 := [_, _, .null, .null, .null, _]) rfl rfl ?_
      exact B_X1_readLine_j70 G hp0 hs0 hp1 hr
    · rw [if_neg hc6] at hr
      refine n_aload_n (n := 1) (by decide +kernel) rfl ?_
      refine n_iconst (n := 2) (v := 2) (by decide +kernel) rfl ?_
      refine n_aload_n (n := 1) (by decide +kernel) rfl ?_
      refine n_getI G fl_RX1_48 hp1 (by decide +kernel) (by decide +kernel) ?_
      obtain ⟨M13, h13, hr⟩ := bso hr
      refine n_callVv G [_, _] (M1 := M13) (B_X7_fail G hp1 h13) (by decide) mX7_fail ml_RX1_51 hp1 (by decide +kernel) rfl rfl (Nat.le_of_ble_eq_true rfl) (by decide +kernel) ?_
      refine n_msk [true, true, false, false, false, true] (lo2 := [_, _, .null, .null, .null, _]) rfl rfl ?_
      exact B_X1_readLine_j70 G hp0 hs0 hp1 hr
  · rw [if_neg hc2] at hr
    refine n_aload_n (n := 1) (by decide +kernel) rfl ?_
    refine n_iconst (n := 3) (v := 3) (by decide +kernel) rfl ?_
    refine n_aload_n (n := 1) (by decide +kernel) rfl ?_
    refine n_getI G fl_RX1_48 hp1 (by decide +kernel) (by decide +kernel) ?_
    obtain ⟨M14, h14, hr⟩ := bso hr
    refine n_callVv G [_, _] (M1 := M14) (B_X7_fail G hp1 h14) (by decide) mX7_fail ml_RX1_51 hp1 (by decide +kernel) rfl rfl (Nat.le_of_ble_eq_true rfl) (by decide +kernel) ?_
    cases hr
    exact n_return (by decide +kernel)
abbrev P_X1_readBook_b7 (l : Launch) (s0 : State) (D : va_G) (cy : Nat → ClassId) (ad : Nat → Nat) (P : Nat → Prop) (a0 : Nat) (a2 : Nat)  (res : Rs) (M' : Mm) (s : (Int32 × Mm)) : Prop := Rn l s0 D cy ad P 13 KX1_readBook 7 [.ref a0, .ref 1, .ref a2, .int (s.1)] [] (s.2) res M'
abbrev Q_X1_readBook_b7 (l : Launch) (s0 : State) (D : va_G) (cy : Nat → ClassId) (ad : Nat → Nat) (P : Nat → Prop) (a0 : Nat) (a2 : Nat)  (res : Rs) (M' : Mm) (e : Mm) : Prop := Rn l s0 D cy ad P 13 KX1_readBook 40 [.null, .null, .null, .null] [] (e) res M'
set_option maxRecDepth 100000 in
theorem B_X1_readBook_b7 (G : GG l s0 b L xs D cy ad) {a0 : Nat} {a2 : Nat}  {res : Rs} {M' : Mm} (hp0 : P a0) (hs0 : SH a0 = 1) (hp1 : P 1) (hp2 : P a2) (hs2 : SH a2 = 3) : ∀ (s : (Int32 × Mm)) (r : (Int32 × Mm) ⊕ Mm), f_X1_readBook_b7 a0 a2 s = some r → mtc (P_X1_readBook_b7 l s0 D cy ad P a0 a2 res M') (Q_X1_readBook_b7 l s0 D cy ad P a0 a2 res M') r → P_X1_readBook_b7 l s0 D cy ad P a0 a2 res M' s := by
  intro s r hr hk
  obtain ⟨x3, M⟩ := s
  unfold f_X1_readBook_b7 at hr
  try dsimp only at hr
  dsimp only [P_X1_readBook_b7]
  refine n_iload_n (n := 3) (by decide +kernel) rfl ?_
  refine n_bipush (n := 6) (v := 6) (by decide +kernel) rfl ?_
  refine n_icmp_gt (off := 30) (tgt := 40) (by decide +kernel) (by decide) (fun hc1 => ?_) (fun hc1 => ?_)
  · rw [if_pos hc1] at hr
    cases hr
    refine n_msk [false, false, false, false] (lo2 := [.null, .null, .null, .null]) rfl rfl ?_
    exact hk
  · rw [if_neg hc1] at hr
    refine n_aload_n (n := 1) (by decide +kernel) rfl ?_
    obtain ⟨v2, h2, hr⟩ := bso hr
    refine n_callVi G [] (x := v2) (B_X7_isFine G hp1 h2) (by decide) mX7_isFine ml_RX1_25 hp1 (by decide +kernel) rfl rfl (Nat.le_of_ble_eq_true rfl) (by decide +kernel) ?_
    refine n_if_eq (off := 23) (tgt := 40) (by decide +kernel) (by decide) (fun hc3 => ?_) (fun hc3 => ?_)
    · rw [if_pos hc3] at hr
      cases hr
      refine n_msk [false, false, false, false] (lo2 := [.null, .null, .null, .null]) rfl rfl ?_
      exact hk
    · rw [if_neg hc3] at hr
      refine n_aload_n (n := 1) (by decide +kernel) rfl ?_
      obtain ⟨⟨v4, M4⟩, h4, hr⟩ := bso hr
      try dsimp only at hr
      refine n_callVi G [] (x := v4) (M1 := M4) (B_X7_next G hp1 h4) (by decide) mX7_next ml_RX1_31 hp1 (by decide +kernel) rfl rfl (Nat.le_of_ble_eq_true rfl) (by decide +kernel) ?_
      refine n_iconst (n := -1) (v := -1) (by decide +kernel) rfl ?_
      refine n_icmp_eq (off := 15) (tgt := 40) (by decide +kernel) (by decide) (fun hc5 => ?_) (fun hc5 => ?_)
      · rw [if_pos hc5] at hr
        cases hr
        refine n_msk [false, false, false, false] (lo2 := [.null, .null, .null, .null]) rfl rfl ?_
        exact hk
      · rw [if_neg hc5] at hr
        refine n_aload_n (n := 0) (by decide +kernel) rfl ?_
        refine n_aload_n (n := 1) (by decide +kernel) rfl ?_
        refine n_aload_n (n := 2) (by decide +kernel) rfl ?_
        obtain ⟨M6, h6, hr⟩ := bso hr
        refine n_callVv G [_, _] (M1 := M6) (B_X1_readLine G hp0 hs0 hp1 hp2 hs2 h6) (by decide) mX1_readLine ml_RX1_35 hp0 hs0 rfl rfl (Nat.le_of_ble_eq_true rfl) (by decide +kernel) ?_
        refine n_iincK (n := 3) (j := 1) (w := 1) (lo2 := [_, _, _, _]) (by decide +kernel) rfl rfl rfl ?_
        refine n_goto (off := -30) (tgt := 7) (by decide +kernel) (by decide) ?_
        cases hr
        exact hk
set_option maxRecDepth 100000 in
theorem W_X1_readBook_b7 (G : GG l s0 b L xs D cy ad) {a0 : Nat} {a2 : Nat}  (hp0 : P a0) (hs0 : SH a0 = 1) (hp1 : P 1) (hp2 : P a2) (hs2 : SH a2 = 3) {s : (Int32 × Mm)} {e : Mm} (h : whl fu (f_X1_readBook_b7 a0 a2) s = some e) (res : Rs) (M' : Mm) : Q_X1_readBook_b7 l s0 D cy ad P a0 a2 res M' e → P_X1_readBook_b7 l s0 D cy ad P a0 a2 res M' s := whl_run (P := fun s => P_X1_readBook_b7 l s0 D cy ad P a0 a2 res M' s) (Q := fun e => Q_X1_readBook_b7 l s0 D cy ad P a0 a2 res M' e) (B_X1_readBook_b7 G (res := res) (M' := M') (a0 := a0) (a2 := a2) hp0 hs0 hp1 hp2 hs2) fu s h
set_option maxRecDepth 100000 in
theorem B_X1_readBook (G : GG l s0 b L xs D cy ad)  {a0 : Nat} {a2 : Nat} {M : Mm} {r : Mm} (hp0 : P a0) (hs0 : SH a0 = 1) (hp1 : P 1) (hp2 : P a2) (hs2 : SH a2 = 3) (hr : f_X1_readBook a0 a2 M = some r) : Cl l s0 D cy ad P 13 KX1_readBook [.ref a0, .ref 1, .ref a2] M (.inl none) (r) := by
  refine cl_ofN (by decide +kernel) rfl rfl rfl (lo0 := [_, _, _, .null]) rfl ?_
  unfold f_X1_readBook at hr
  refine n_aload_n (n := 0) (by decide +kernel) rfl ?_
  refine n_iconst (n := 0) (v := 0) (by decide +kernel) rfl ?_
  refine n_putI G fl_RX1_21 hp0 hs0 (by decide +kernel) ?_
  refine n_iconst (n := 0) (v := 0) (by decide +kernel) rfl ?_
  refine n_istore_n (n := 3) (lo2 := [_, _, _, _]) (by decide +kernel) (Nat.le_of_ble_eq_true rfl) rfl ?_
  obtain ⟨M7, h7, hr⟩ := bso hr
  refine (W_X1_readBook_b7 G hp0 hs0 hp1 hp2 hs2 h7 _ _) ?_
  dsimp only [Q_X1_readBook_b7]
  cases hr
  exact n_return (by decide +kernel)
abbrev P_X1_nearestLine_b7 (l : Launch) (s0 : State) (D : va_G) (cy : Nat → ClassId) (ad : Nat → Nat) (P : Nat → Prop) (a0 : Nat) (x1 : Int32) (M : Mm) (res : Rs) (M' : Mm) (s : (Int32 × Int32 × Int32)) : Prop := Rn l s0 D cy ad P 11 KX1_nearestLine 7 [.ref a0, .int x1, .int (s.1), .int (s.2.1), .int (s.2.2), .null] [] M res M'
abbrev Q_X1_nearestLine_b7 (l : Launch) (s0 : State) (D : va_G) (cy : Nat → ClassId) (ad : Nat → Nat) (P : Nat → Prop) (a0 : Nat) (x1 : Int32) (M : Mm) (res : Rs) (M' : Mm) (e : Int32) : Prop := Rn l s0 D cy ad P 11 KX1_nearestLine 59 [.null, .null, .int (e), .null, .null, .null] [] M res M'
set_option maxRecDepth 100000 in
theorem B_X1_nearestLine_j47 (G : GG l s0 b L xs D cy ad) {a0 : Nat} {x1 : Int32} {x4 : Int32} {x5 : Int32} {M : Mm}  {res : Rs} {M' : Mm} {r : ((Int32 × Int32 × Int32) ⊕ Int32)} (hp0 : P a0) (hs0 : SH a0 = 1) (hr : f_X1_nearestLine_j47 a0 x1 x4 x5 M = some r) (hk : mtc (P_X1_nearestLine_b7 l s0 D cy ad P a0 x1 M res M') (Q_X1_nearestLine_b7 l s0 D cy ad P a0 x1 M res M') r) : Rn l s0 D cy ad P 11 KX1_nearestLine 47 [.ref a0, .int x1, .null, .null, .int x4, .int x5] [] M res M' := by
  unfold f_X1_nearestLine_j47 at hr
  refine n_iload (n := 4) (by decide +kernel) rfl ?_
  refine n_istore_n (n := 2) (lo2 := [_, _, _, _, _, _]) (by decide +kernel) (Nat.le_of_ble_eq_true rfl) rfl ?_
  refine n_iload (n := 5) (by decide +kernel) rfl ?_
  refine n_istore_n (n := 3) (lo2 := [_, _, _, _, _, _]) (by decide +kernel) (Nat.le_of_ble_eq_true rfl) rfl ?_
  refine n_iincK (n := 4) (j := 1) (w := 1) (lo2 := [_, _, _, _, _, _]) (by decide +kernel) rfl rfl rfl ?_
  refine n_goto (off := -49) (tgt := 7) (by decide +kernel) (by decide) ?_
  cases hr
  refine n_msk [true, true, true, true, true, false] (lo2 := [_, _, _, _, _, .null]) rfl rfl ?_
  exact hk
set_option maxRecDepth 100000 in
theorem B_X1_nearestLine_b7 (G : GG l s0 b L xs D cy ad) {a0 : Nat} {x1 : Int32} {M : Mm} {res : Rs} {M' : Mm} (hp0 : P a0) (hs0 : SH a0 = 1) : ∀ (s : (Int32 × Int32 × Int32)) (r : (Int32 × Int32 × Int32) ⊕ Int32), f_X1_nearestLine_b7 a0 x1 M s = some r → mtc (P_X1_nearestLine_b7 l s0 D cy ad P a0 x1 M res M') (Q_X1_nearestLine_b7 l s0 D cy ad P a0 x1 M res M') r → P_X1_nearestLine_b7 l s0 D cy ad P a0 x1 M res M' s := by
  intro s r hr hk
  obtain ⟨x2, x3, x4⟩ := s
  unfold f_X1_nearestLine_b7 at hr
  try dsimp only at hr
  dsimp only [P_X1_nearestLine_b7]
  refine n_iload (n := 4) (by decide +kernel) rfl ?_
  refine n_aload_n (n := 0) (by decide +kernel) rfl ?_
  refine n_getI G fl_RX1_21 hp0 hs0 (by decide +kernel) ?_
  refine n_icmp_ge (off := 46) (tgt := 59) (by decide +kernel) (by decide) (fun hc1 => ?_) (fun hc1 => ?_)
  · rw [if_pos hc1] at hr
    cases hr
    refine n_msk [false, false, true, false, false, false] (lo2 := [.null, .null, _, .null, .null, .null]) rfl rfl ?_
    exact hk
  · rw [if_neg hc1] at hr
    refine n_iload (n := 4) (by decide +kernel) rfl ?_
    refine n_bipush (n := 6) (v := 6) (by decide +kernel) rfl ?_
    refine n_icmp_ge (off := 39) (tgt := 59) (by decide +kernel) (by decide) (fun hc2 => ?_) (fun hc2 => ?_)
    · rw [if_pos hc2] at hr
      cases hr
      refine n_msk [false, false, true, false, false, false] (lo2 := [.null, .null, _, .null, .null, .null]) rfl rfl ?_
      exact hk
    · rw [if_neg hc2] at hr
      refine n_iload_n (n := 1) (by decide +kernel) rfl ?_
      refine n_aload_n (n := 0) (by decide +kernel) rfl ?_
      refine n_getF (q := (a0 + 1)) G fl_RX1_11 hp0 hs0 (fr_1_0 hs0).1 (by decide +kernel) (fun hp3q => ?_)
      refine n_iload (n := 4) (by decide +kernel) rfl ?_
      obtain ⟨v4, h4, hr⟩ := bso hr
      refine n_iald G h4 hp3q (fr_1_0 hs0).2.1 (fr_1_0 hs0).2.2 (by decide +kernel) ?_
      obtain ⟨v5, h5, hr⟩ := bso hr
      refine n_callSNi G [_, _] (x := v5) (B_X9_far G  h5) (by decide) mX9_far ml_RX1_96 rfl rfl (Nat.le_of_ble_eq_true rfl) (by decide +kernel) ?_
      refine n_istore (n := 5) (lo2 := [_, _, _, _, _, _]) (by decide +kernel) (Nat.le_of_ble_eq_true rfl) rfl ?_
      refine n_iload_n (n := 2) (by decide +kernel) rfl ?_
      refine n_iconst (n := -1) (v := -1) (by decide +kernel) rfl ?_
      refine n_icmp_eq (off := 9) (tgt := 47) (by decide +kernel) (by decide) (fun hc6 => ?_) (fun hc6 => ?_)
      · rw [if_pos hc6] at hr
        refine n_msk [true, true, false, false, true, true] (lo2 := [_, _, .null, .null, _, _]) rfl rfl ?_
        exact B_X1_nearestLine_j47 G hp0 hs0 hr hk
      · rw [if_neg hc6] at hr
        refine n_iload (n := 5) (by decide +kernel) rfl ?_
        refine n_iload_n (n := 3) (by decide +kernel) rfl ?_
        refine n_icmp_ge (off := 9) (tgt := 53) (by decide +kernel) (by decide) (fun hc7 => ?_) (fun hc7 => ?_)
        · rw [if_pos hc7] at hr
          refine n_iincK (n := 4) (j := 1) (w := 1) (lo2 := [_, _, _, _, _, _]) (by decide +kernel) rfl rfl rfl ?_
          refine n_goto (off := -49) (tgt := 7) (by decide +kernel) (by decide) ?_
          cases hr
          refine n_msk [true, true, true, true, true, false] (lo2 := [_, _, _, _, _, .null]) rfl rfl ?_
          exact hk
        · rw [if_neg hc7] at hr
          refine n_msk [true, true, false, false, true, true] (lo2 := [_, _, .null, .null, _, _]) rfl rfl ?_
          exact B_X1_nearestLine_j47 G hp0 hs0 hr hk
set_option maxRecDepth 100000 in
theorem W_X1_nearestLine_b7 (G : GG l s0 b L xs D cy ad) {a0 : Nat} {x1 : Int32} {M : Mm} (hp0 : P a0) (hs0 : SH a0 = 1) {s : (Int32 × Int32 × Int32)} {e : Int32} (h : whl fu (f_X1_nearestLine_b7 a0 x1 M) s = some e) (res : Rs) (M' : Mm) : Q_X1_nearestLine_b7 l s0 D cy ad P a0 x1 M res M' e → P_X1_nearestLine_b7 l s0 D cy ad P a0 x1 M res M' s := whl_run (P := fun s => P_X1_nearestLine_b7 l s0 D cy ad P a0 x1 M res M' s) (Q := fun e => Q_X1_nearestLine_b7 l s0 D cy ad P a0 x1 M res M' e) (B_X1_nearestLine_b7 G (res := res) (M' := M') (a0 := a0) (x1 := x1) (M := M) hp0 hs0) fu s h
set_option maxRecDepth 100000 in
theorem B_X1_nearestLine (G : GG l s0 b L xs D cy ad)  {a0 : Nat} {x1 : Int32} {M : Mm} {r : Int32} (hp0 : P a0) (hs0 : SH a0 = 1) (hr : f_X1_nearestLine a0 x1 M = some r) : Cl l s0 D cy ad P 11 KX1_nearestLine [.ref a0, .int x1] M (.inl (some (.int r))) (M) := by
  refine cl_ofN (by decide +kernel) rfl rfl okI (lo0 := [_, _, .null, .null, .null, .null]) rfl ?_
  unfold f_X1_nearestLine at hr
  refine n_iconst (n := -1) (v := -1) (by decide +kernel) rfl ?_
  refine n_istore_n (n := 2) (lo2 := [_, _, _, _, _, _]) (by decide +kernel) (Nat.le_of_ble_eq_true rfl) rfl ?_
  refine n_iconst (n := 0) (v := 0) (by decide +kernel) rfl ?_
  refine n_istore_n (n := 3) (lo2 := [_, _, _, _, _, _]) (by decide +kernel) (Nat.le_of_ble_eq_true rfl) rfl ?_
  refine n_iconst (n := 0) (v := 0) (by decide +kernel) rfl ?_
  refine n_istore (n := 4) (lo2 := [_, _, _, _, _, _]) (by decide +kernel) (Nat.le_of_ble_eq_true rfl) rfl ?_
  obtain ⟨z2_8, h8, hr⟩ := bso hr
  refine (W_X1_nearestLine_b7 G hp0 hs0 h8 _ _) ?_
  dsimp only [Q_X1_nearestLine_b7]
  refine n_iload_n (n := 2) (by decide +kernel) rfl ?_
  cases hr
  exact n_ireturn (by decide +kernel)
abbrev P_X1_isFitting_b10 (l : Launch) (s0 : State) (D : va_G) (cy : Nat → ClassId) (ad : Nat → Nat) (P : Nat → Prop) (a0 : Nat) (a1 : Nat) (x2 : Int32)  (res : Rs) (M' : Mm) (s : (Int32 × Mm)) : Prop := Rn l s0 D cy ad P 12 KX1_isFitting 10 [.ref a0, .ref a1, .int x2, .int (s.1), .null] [] (s.2) res M'
abbrev Q_X1_isFitting_b10 (l : Launch) (s0 : State) (D : va_G) (cy : Nat → ClassId) (ad : Nat → Nat) (P : Nat → Prop) (a0 : Nat) (a1 : Nat) (x2 : Int32)  (res : Rs) (M' : Mm) (e : Mm) : Prop := Rn l s0 D cy ad P 12 KX1_isFitting 75 [.ref a0, .null, .null, .null, .null] [] (e) res M'
set_option maxRecDepth 100000 in
theorem B_X1_isFitting_b10 (G : GG l s0 b L xs D cy ad) {a0 : Nat} {a1 : Nat} {x2 : Int32}  {res : Rs} {M' : Mm} (hp0 : P a0) (hs0 : SH a0 = 1) (hp1 : P a1) (hs1 : SH a1 = 8) : ∀ (s : (Int32 × Mm)) (r : (Int32 × Mm) ⊕ Mm), f_X1_isFitting_b10 a0 a1 x2 s = some r → mtc (P_X1_isFitting_b10 l s0 D cy ad P a0 a1 x2 res M') (Q_X1_isFitting_b10 l s0 D cy ad P a0 a1 x2 res M') r → P_X1_isFitting_b10 l s0 D cy ad P a0 a1 x2 res M' s := by
  intro s r hr hk
  obtain ⟨x3, M⟩ := s
  unfold f_X1_isFitting_b10 at hr
  try dsimp only at hr
  dsimp only [P_X1_isFitting_b10]
  refine n_iload_n (n := 3) (by decide +kernel) rfl ?_
  refine n_aload_n (n := 1) (by decide +kernel) rfl ?_
  refine n_getI G fl_RX1_79 hp1 hs1 (by decide +kernel) ?_
  refine n_icmp_ge (off := 60) (tgt := 75) (by decide +kernel) (by decide) (fun hc3 => ?_) (fun hc3 => ?_)
  · rw [if_pos hc3] at hr
    cases hr
    refine n_msk [true, false, false, false, false] (lo2 := [_, .null, .null, .null, .null]) rfl rfl ?_
    exact hk
  · rw [if_neg hc3] at hr
    refine n_aload_n (n := 1) (by decide +kernel) rfl ?_
    refine n_iload_n (n := 3) (by decide +kernel) rfl ?_
    obtain ⟨v4, h4, hr⟩ := bso hr
    refine n_callVi G [_] (x := v4) (B_X8_isAsked G hp1 hs1 h4) (by decide) mX8_isAsked ml_RX1_83 hp1 hs1 rfl rfl (Nat.le_of_ble_eq_true rfl) (by decide +kernel) ?_
    refine n_if_eq (off := 46) (tgt := 69) (by decide +kernel) (by decide) (fun hc5 => ?_) (fun hc5 => ?_)
    · rw [if_pos hc5] at hr
      refine n_iincK (n := 3) (j := 1) (w := 1) (lo2 := [_, _, _, _, _]) (by decide +kernel) rfl rfl rfl ?_
      refine n_goto (off := -62) (tgt := 10) (by decide +kernel) (by decide) ?_
      cases hr
      exact hk
    · rw [if_neg hc5] at hr
      refine n_aload_n (n := 1) (by decide +kernel) rfl ?_
      refine n_iload_n (n := 3) (by decide +kernel) rfl ?_
      obtain ⟨v6, h6, hr⟩ := bso hr
      refine n_callVi G [_] (x := v6) (B_X8_sizeOf G hp1 hs1 h6) (by decide) mX8_sizeOf ml_RX1_86 hp1 hs1 rfl rfl (Nat.le_of_ble_eq_true rfl) (by decide +kernel) ?_
      refine n_iload_n (n := 2) (by decide +kernel) rfl ?_
      refine n_icmp_lt (off := 37) (tgt := 69) (by decide +kernel) (by decide) (fun hc7 => ?_) (fun hc7 => ?_)
      · rw [if_pos hc7] at hr
        refine n_iincK (n := 3) (j := 1) (w := 1) (lo2 := [_, _, _, _, _]) (by decide +kernel) rfl rfl rfl ?_
        refine n_goto (off := -62) (tgt := 10) (by decide +kernel) (by decide) ?_
        cases hr
        exact hk
      · rw [if_neg hc7] at hr
        refine n_aload_n (n := 0) (by decide +kernel) rfl ?_
        refine n_aload_n (n := 1) (by decide +kernel) rfl ?_
        refine n_iload_n (n := 3) (by decide +kernel) rfl ?_
        obtain ⟨v8, h8, hr⟩ := bso hr
        refine n_callVi G [_] (x := v8) (B_X8_cellOf G hp1 hs1 h8) (by decide) mX8_cellOf ml_RX1_90 hp1 hs1 rfl rfl (Nat.le_of_ble_eq_true rfl) (by decide +kernel) ?_
        obtain ⟨v9, h9, hr⟩ := bso hr
        refine n_callVi G [_] (x := v9) (B_X1_nearestLine G hp0 hs0 h9) (by decide) mX1_nearestLine ml_RX1_93 hp0 hs0 rfl rfl (Nat.le_of_ble_eq_true rfl) (by decide +kernel) ?_
        refine n_istore (n := 4) (lo2 := [_, _, _, _, _]) (by decide +kernel) (Nat.le_of_ble_eq_true rfl) rfl ?_
        refine n_iload (n := 4) (by decide +kernel) rfl ?_
        refine n_if_lt (off := 21) (tgt := 69) (by decide +kernel) (by decide) (fun hc10 => ?_) (fun hc10 => ?_)
        · rw [if_pos hc10] at hr
          refine n_iincK (n := 3) (j := 1) (w := 1) (lo2 := [_, _, _, _, _]) (by decide +kernel) rfl rfl rfl ?_
          refine n_goto (off := -62) (tgt := 10) (by decide +kernel) (by decide) ?_
          cases hr
          refine n_msk [true, true, true, true, false] (lo2 := [_, _, _, _, .null]) rfl rfl ?_
          exact hk
        · rw [if_neg hc10] at hr
          refine n_iload (n := 4) (by decide +kernel) rfl ?_
          refine n_bipush (n := 6) (v := 6) (by decide +kernel) rfl ?_
          refine n_icmp_ge (off := 14) (tgt := 69) (by decide +kernel) (by decide) (fun hc11 => ?_) (fun hc11 => ?_)
          · rw [if_pos hc11] at hr
            refine n_iincK (n := 3) (j := 1) (w := 1) (lo2 := [_, _, _, _, _]) (by decide +kernel) rfl rfl rfl ?_
            refine n_goto (off := -62) (tgt := 10) (by decide +kernel) (by decide) ?_
            cases hr
            refine n_msk [true, true, true, true, false] (lo2 := [_, _, _, _, .null]) rfl rfl ?_
            exact hk
          · rw [if_neg hc11] at hr
            refine n_aload_n (n := 0) (by decide +kernel) rfl ?_
            refine n_getF (q := (a0 + 3)) G fl_RX1_18 hp0 hs0 (fr_1_2 hs0).1 (by decide +kernel) (fun hp12q => ?_)
            refine n_iload (n := 4) (by decide +kernel) rfl ?_
            refine n_dup2 rfl rfl (by decide +kernel) ?_
            obtain ⟨v13, h13, hr⟩ := bso hr
            refine n_iald G h13 hp12q (fr_1_2 hs0).2.1 (fr_1_2 hs0).2.2 (by decide +kernel) ?_
            refine n_iconst (n := 1) (v := 1) (by decide +kernel) rfl ?_
            refine n_iadd (by decide +kernel) ?_
            obtain ⟨M14, h14, hr⟩ := bso hr
            refine n_iast G h14 hp12q (fr_1_2 hs0).2.1 (fr_1_2 hs0).2.2 (by decide +kernel) ?_
            refine n_iincK (n := 3) (j := 1) (w := 1) (lo2 := [_, _, _, _, _]) (by decide +kernel) rfl rfl rfl ?_
            refine n_goto (off := -62) (tgt := 10) (by decide +kernel) (by decide) ?_
            cases hr
            refine n_msk [true, true, true, true, false] (lo2 := [_, _, _, _, .null]) rfl rfl ?_
            exact hk
set_option maxRecDepth 100000 in
theorem W_X1_isFitting_b10 (G : GG l s0 b L xs D cy ad) {a0 : Nat} {a1 : Nat} {x2 : Int32}  (hp0 : P a0) (hs0 : SH a0 = 1) (hp1 : P a1) (hs1 : SH a1 = 8) {s : (Int32 × Mm)} {e : Mm} (h : whl fu (f_X1_isFitting_b10 a0 a1 x2) s = some e) (res : Rs) (M' : Mm) : Q_X1_isFitting_b10 l s0 D cy ad P a0 a1 x2 res M' e → P_X1_isFitting_b10 l s0 D cy ad P a0 a1 x2 res M' s := whl_run (P := fun s => P_X1_isFitting_b10 l s0 D cy ad P a0 a1 x2 res M' s) (Q := fun e => Q_X1_isFitting_b10 l s0 D cy ad P a0 a1 x2 res M' e) (B_X1_isFitting_b10 G (res := res) (M' := M') (a0 := a0) (a1 := a1) (x2 := x2) hp0 hs0 hp1 hs1) fu s h
abbrev P_X1_isFitting_b77 (l : Launch) (s0 : State) (D : va_G) (cy : Nat → ClassId) (ad : Nat → Nat) (P : Nat → Prop) (a0 : Nat) (M : Mm) (res : Rs) (M' : Mm) (s : Int32) : Prop := Rn l s0 D cy ad P 12 KX1_isFitting 77 [.ref a0, .null, .null, .int (s), .null] [] M res M'
abbrev Q_X1_isFitting_b77 (l : Launch) (s0 : State) (D : va_G) (cy : Nat → ClassId) (ad : Nat → Nat) (P : Nat → Prop) (a0 : Nat) (M : Mm) (res : Rs) (M' : Mm) (e : (Unit ⊕ Unit)) : Prop := (match e with | .inl e => Rn l s0 D cy ad P 12 KX1_isFitting 106 [.null, .null, .null, .null, .null] [] M res M' | .inr e => Rn l s0 D cy ad P 12 KX1_isFitting 114 [.null, .null, .null, .null, .null] [] M res M')
set_option maxRecDepth 100000 in
theorem B_X1_isFitting_b77 (G : GG l s0 b L xs D cy ad) {a0 : Nat} {M : Mm} {res : Rs} {M' : Mm} (hp0 : P a0) (hs0 : SH a0 = 1) : ∀ (s : Int32) (r : Int32 ⊕ (Unit ⊕ Unit)), f_X1_isFitting_b77 a0 M s = some r → mtc (P_X1_isFitting_b77 l s0 D cy ad P a0 M res M') (Q_X1_isFitting_b77 l s0 D cy ad P a0 M res M') r → P_X1_isFitting_b77 l s0 D cy ad P a0 M res M' s := by
  intro x3 r hr hk
  unfold f_X1_isFitting_b77 at hr
  try dsimp only at hr
  dsimp only [P_X1_isFitting_b77]
  refine n_iload_n (n := 3) (by decide +kernel) rfl ?_
  refine n_aload_n (n := 0) (by decide +kernel) rfl ?_
  refine n_getI G fl_RX1_21 hp0 hs0 (by decide +kernel) ?_
  refine n_icmp_ge (off := 32) (tgt := 114) (by decide +kernel) (by decide) (fun hc16 => ?_) (fun hc16 => ?_)
  · rw [if_pos hc16] at hr
    cases hr
    refine n_msk [false, false, false, false, false] (lo2 := [.null, .null, .null, .null, .null]) rfl rfl ?_
    exact hk
  · rw [if_neg hc16] at hr
    refine n_iload_n (n := 3) (by decide +kernel) rfl ?_
    refine n_bipush (n := 6) (v := 6) (by decide +kernel) rfl ?_
    refine n_icmp_ge (off := 26) (tgt := 114) (by decide +kernel) (by decide) (fun hc17 => ?_) (fun hc17 => ?_)
    · rw [if_pos hc17] at hr
      cases hr
      refine n_msk [false, false, false, false, false] (lo2 := [.null, .null, .null, .null, .null]) rfl rfl ?_
      exact hk
    · rw [if_neg hc17] at hr
      refine n_aload_n (n := 0) (by decide +kernel) rfl ?_
      refine n_getF (q := (a0 + 3)) G fl_RX1_18 hp0 hs0 (fr_1_2 hs0).1 (by decide +kernel) (fun hp18q => ?_)
      refine n_iload_n (n := 3) (by decide +kernel) rfl ?_
      obtain ⟨v19, h19, hr⟩ := bso hr
      refine n_iald G h19 hp18q (fr_1_2 hs0).2.1 (fr_1_2 hs0).2.2 (by decide +kernel) ?_
      refine n_aload_n (n := 0) (by decide +kernel) rfl ?_
      refine n_getF (q := (a0 + 2)) G fl_RX1_15 hp0 hs0 (fr_1_1 hs0).1 (by decide +kernel) (fun hp20q => ?_)
      refine n_iload_n (n := 3) (by decide +kernel) rfl ?_
      obtain ⟨v21, h21, hr⟩ := bso hr
      refine n_iald G h21 hp20q (fr_1_1 hs0).2.1 (fr_1_1 hs0).2.2 (by decide +kernel) ?_
      refine n_icmp_eq (off := 5) (tgt := 108) (by decide +kernel) (by decide) (fun hc22 => ?_) (fun hc22 => ?_)
      · rw [if_pos hc22] at hr
        refine n_iincK (n := 3) (j := 1) (w := 1) (lo2 := [_, _, _, _, _]) (by decide +kernel) rfl rfl rfl ?_
        refine n_goto (off := -34) (tgt := 77) (by decide +kernel) (by decide) ?_
        cases hr
        exact hk
      · rw [if_neg hc22] at hr
        cases hr
        refine n_msk [false, false, false, false, false] (lo2 := [.null, .null, .null, .null, .null]) rfl rfl ?_
        exact hk
set_option maxRecDepth 100000 in
theorem W_X1_isFitting_b77 (G : GG l s0 b L xs D cy ad) {a0 : Nat} {M : Mm} (hp0 : P a0) (hs0 : SH a0 = 1) {s : Int32} {e : (Unit ⊕ Unit)} (h : whl fu (f_X1_isFitting_b77 a0 M) s = some e) (res : Rs) (M' : Mm) : Q_X1_isFitting_b77 l s0 D cy ad P a0 M res M' e → P_X1_isFitting_b77 l s0 D cy ad P a0 M res M' s := whl_run (P := fun s => P_X1_isFitting_b77 l s0 D cy ad P a0 M res M' s) (Q := fun e => Q_X1_isFitting_b77 l s0 D cy ad P a0 M res M' e) (B_X1_isFitting_b77 G (res := res) (M' := M') (a0 := a0) (M := M) hp0 hs0) fu s h
set_option maxRecDepth 100000 in
theorem B_X1_isFitting (G : GG l s0 b L xs D cy ad)  {a0 : Nat} {a1 : Nat} {x2 : Int32} {M : Mm} {r : (Int32 × Mm)} (hp0 : P a0) (hs0 : SH a0 = 1) (hp1 : P a1) (hs1 : SH a1 = 8) (hr : f_X1_isFitting a0 a1 x2 M = some r) : Cl l s0 D cy ad P 12 KX1_isFitting [.ref a0, .ref a1, .int x2] M (.inl (some (.int r.1))) (r.2) := by
  unfold f_X1_isFitting at hr
  obtain ⟨⟨v0, M0⟩, h0, h1⟩ := bso hr
  clear hr
  obtain ⟨v1, h2, h3⟩ := bso h1
  obtain ⟨hb, rfl⟩ := rB_in h2
  cases h3
  have hr := h0
  clear h0
  refine cl_ofN (by decide +kernel) rfl rfl (okB hb) (lo0 := [_, _, _, .null, .null]) rfl ?_
  unfold g_X1_isFitting at hr
  refine n_aload_n (n := 0) (by decide +kernel) rfl ?_
  refine n_getF (q := (a0 + 3)) G fl_RX1_18 hp0 hs0 (fr_1_2 hs0).1 (by decide +kernel) (fun hp1q => ?_)
  refine n_iconst (n := 0) (v := 0) (by decide +kernel) rfl ?_
  obtain ⟨M2, h2, hr⟩ := bso hr
  refine n_callSv G [_, _] (M1 := M2) (B_J7_fill_53178 G hp1q (fr_1_2 hs0).2.1 h2) (by decide) mJ7_fill_53178 ml_RX1_73 rfl rfl (Nat.le_of_ble_eq_true rfl) (by decide +kernel) ?_
  refine n_iconst (n := 0) (v := 0) (by decide +kernel) rfl ?_
  refine n_istore_n (n := 3) (lo2 := [_, _, _, _, _]) (by decide +kernel) (Nat.le_of_ble_eq_true rfl) rfl ?_
  obtain ⟨M15, h15, hr⟩ := bso hr
  refine (W_X1_isFitting_b10 G hp0 hs0 hp1 hs1 h15 _ _) ?_
  dsimp only [Q_X1_isFitting_b10]
  refine n_iconst (n := 0) (v := 0) (by decide +kernel) rfl ?_
  refine n_istore_n (n := 3) (lo2 := [_, _, _, _, _]) (by decide +kernel) (Nat.le_of_ble_eq_true rfl) rfl ?_
  obtain ⟨e23, h23, hr⟩ := bso hr
  refine (W_X1_isFitting_b77 G hp0 hs0 h23 _ _) ?_
  rcases e23 with _ | _
  · try dsimp only at hr
    dsimp only [Q_X1_isFitting_b77]
    refine n_iconst (n := 0) (v := 0) (by decide +kernel) rfl ?_
    cases hr
    exact n_ireturn (by decide +kernel)
  · try dsimp only at hr
    dsimp only [Q_X1_isFitting_b77]
    refine n_iconst (n := 1) (v := 1) (by decide +kernel) rfl ?_
    cases hr
    exact n_ireturn (by decide +kernel)
abbrev P_X1_fittingSizes_b4 (l : Launch) (s0 : State) (D : va_G) (cy : Nat → ClassId) (ad : Nat → Nat) (P : Nat → Prop) (a0 : Nat) (a1 : Nat)  (res : Rs) (M' : Mm) (s : (Int32 × Int32 × Mm)) : Prop := Rn l s0 D cy ad P 13 KX1_fittingSizes 4 [.ref a0, .ref a1, .int (s.1), .int (s.2.1)] [] (s.2.2) res M'
abbrev Q_X1_fittingSizes_b4 (l : Launch) (s0 : State) (D : va_G) (cy : Nat → ClassId) (ad : Nat → Nat) (P : Nat → Prop) (a0 : Nat) (a1 : Nat)  (res : Rs) (M' : Mm) (e : (Int32 × Mm)) : Prop := Rn l s0 D cy ad P 13 KX1_fittingSizes 37 [.null, .null, .int (e.1), .null] [] (e.2) res M'
set_option maxRecDepth 100000 in
theorem B_X1_fittingSizes_b4 (G : GG l s0 b L xs D cy ad) {a0 : Nat} {a1 : Nat}  {res : Rs} {M' : Mm} (hp0 : P a0) (hs0 : SH a0 = 1) (hp1 : P a1) (hs1 : SH a1 = 8) : ∀ (s : (Int32 × Int32 × Mm)) (r : (Int32 × Int32 × Mm) ⊕ (Int32 × Mm)), f_X1_fittingSizes_b4 a0 a1 s = some r → mtc (P_X1_fittingSizes_b4 l s0 D cy ad P a0 a1 res M') (Q_X1_fittingSizes_b4 l s0 D cy ad P a0 a1 res M') r → P_X1_fittingSizes_b4 l s0 D cy ad P a0 a1 res M' s := by
  intro s r hr hk
  obtain ⟨x2, x3, M⟩ := s
  unfold f_X1_fittingSizes_b4 at hr
  try dsimp only at hr
  dsimp only [P_X1_fittingSizes_b4]
  refine n_iload_n (n := 3) (by decide +kernel) rfl ?_
  refine n_bipush (n := 9) (v := 9) (by decide +kernel) rfl ?_
  refine n_icmp_gt (off := 30) (tgt := 37) (by decide +kernel) (by decide) (fun hc1 => ?_) (fun hc1 => ?_)
  · rw [if_pos hc1] at hr
    cases hr
    refine n_msk [false, false, true, false] (lo2 := [.null, .null, _, .null]) rfl rfl ?_
    exact hk
  · rw [if_neg hc1] at hr
    refine n_iload_n (n := 2) (by decide +kernel) rfl ?_
    refine n_aload_n (n := 0) (by decide +kernel) rfl ?_
    refine n_aload_n (n := 1) (by decide +kernel) rfl ?_
    refine n_iload_n (n := 3) (by decide +kernel) rfl ?_
    obtain ⟨⟨v2, M2⟩, h2, hr⟩ := bso hr
    try dsimp only at hr
    refine n_callVi G [_, _] (x := v2) (M1 := M2) (B_X1_isFitting G hp0 hs0 hp1 hs1 h2) (by decide) mX1_isFitting ml_RX1_69 hp0 hs0 rfl rfl (Nat.le_of_ble_eq_true rfl) (by decide +kernel) ?_
    refine n_dia1 (J := 29) (c := v2 = 0) (a := (0 : Int32)) (b := ((1 : Int32) <<< ((x3 - (1 : Int32)) &&& 31))) (fun hJ => ?_) ?_
    · refine n_if_eq (off := 11) (tgt := 28) (by decide +kernel) (by decide) (fun hc3 => ?_) (fun hc3 => ?_)
      · refine n_iconst (n := 0) (v := 0) (by decide +kernel) rfl ?_
        exact hJ _ (if_pos hc3).symm
      · refine n_iconst (n := 1) (v := 1) (by decide +kernel) rfl ?_
        refine n_iload_n (n := 3) (by decide +kernel) rfl ?_
        refine n_iconst (n := 1) (v := 1) (by decide +kernel) rfl ?_
        refine n_isub (by decide +kernel) ?_
        refine n_ishl (by decide +kernel) ?_
        refine n_goto (off := 4) (tgt := 29) (by decide +kernel) (by decide) ?_
        exact hJ _ (if_neg hc3).symm
    refine n_ior (by decide +kernel) ?_
    refine n_istore_n (n := 2) (lo2 := [_, _, _, _]) (by decide +kernel) (Nat.le_of_ble_eq_true rfl) rfl ?_
    refine n_iincK (n := 3) (j := 1) (w := 1) (lo2 := [_, _, _, _]) (by decide +kernel) rfl rfl rfl ?_
    refine n_goto (off := -30) (tgt := 4) (by decide +kernel) (by decide) ?_
    cases hr
    exact hk
set_option maxRecDepth 100000 in
theorem W_X1_fittingSizes_b4 (G : GG l s0 b L xs D cy ad) {a0 : Nat} {a1 : Nat}  (hp0 : P a0) (hs0 : SH a0 = 1) (hp1 : P a1) (hs1 : SH a1 = 8) {s : (Int32 × Int32 × Mm)} {e : (Int32 × Mm)} (h : whl fu (f_X1_fittingSizes_b4 a0 a1) s = some e) (res : Rs) (M' : Mm) : Q_X1_fittingSizes_b4 l s0 D cy ad P a0 a1 res M' e → P_X1_fittingSizes_b4 l s0 D cy ad P a0 a1 res M' s := whl_run (P := fun s => P_X1_fittingSizes_b4 l s0 D cy ad P a0 a1 res M' s) (Q := fun e => Q_X1_fittingSizes_b4 l s0 D cy ad P a0 a1 res M' e) (B_X1_fittingSizes_b4 G (res := res) (M' := M') (a0 := a0) (a1 := a1) hp0 hs0 hp1 hs1) fu s h
set_option maxRecDepth 100000 in
theorem B_X1_fittingSizes (G : GG l s0 b L xs D cy ad)  {a0 : Nat} {a1 : Nat} {M : Mm} {r : (Int32 × Mm)} (hp0 : P a0) (hs0 : SH a0 = 1) (hp1 : P a1) (hs1 : SH a1 = 8) (hr : f_X1_fittingSizes a0 a1 M = some r) : Cl l s0 D cy ad P 13 KX1_fittingSizes [.ref a0, .ref a1] M (.inl (some (.int r.1))) (r.2) := by
  refine cl_ofN (by decide +kernel) rfl rfl okI (lo0 := [_, _, .null, .null]) rfl ?_
  unfold f_X1_fittingSizes at hr
  refine n_iconst (n := 0) (v := 0) (by decide +kernel) rfl ?_
  refine n_istore_n (n := 2) (lo2 := [_, _, _, _]) (by decide +kernel) (Nat.le_of_ble_eq_true rfl) rfl ?_
  refine n_iconst (n := 1) (v := 1) (by decide +kernel) rfl ?_
  refine n_istore_n (n := 3) (lo2 := [_, _, _, _]) (by decide +kernel) (Nat.le_of_ble_eq_true rfl) rfl ?_
  obtain ⟨e4, h4, hr⟩ := bso hr
  refine (W_X1_fittingSizes_b4 G hp0 hs0 hp1 hs1 h4 _ _) ?_
  obtain ⟨z2_4, M4⟩ := e4
  try dsimp only at hr
  dsimp only [Q_X1_fittingSizes_b4]
  refine n_iload_n (n := 2) (by decide +kernel) rfl ?_
  cases hr
  exact n_ireturn (by decide +kernel)
set_option maxRecDepth 100000 in
theorem B_X8_writeTo (G : GG l s0 b L xs D cy ad)  {a0 : Nat} {a1 : Nat} {x2 : Int32} {M : Mm} {r : Mm} (hp0 : P a0) (hs0 : SH a0 = 8) (hp1 : P a1) (hs1 : SH a1 = 12) (hr : f_X8_writeTo a0 a1 x2 M = some r) : Cl l s0 D cy ad P 9 KX8_writeTo [.ref a0, .ref a1, .int x2] M (.inl none) (r) := by
  refine cl_ofN (by decide +kernel) rfl rfl rfl (lo0 := [_, _, _, .null]) rfl ?_
  unfold f_X8_writeTo at hr
  refine n_iload_n (n := 2) (by decide +kernel) rfl ?_
  refine n_if_lt (off := 13) (tgt := 14) (by decide +kernel) (by decide) (fun hc1 => ?_) (fun hc1 => ?_)
  · rw [if_pos hc1] at hr
    cases hr
    exact n_return (by decide +kernel)
  · rw [if_neg hc1] at hr
    refine n_iload_n (n := 2) (by decide +kernel) rfl ?_
    refine n_aload_n (n := 1) (by decide +kernel) rfl ?_
    refine n_alen G (v := (Int32.ofNat (LN a1))) hp1 (Or.inr (Or.inl hs1)) rfl rfl (by decide +kernel) ?_
    refine n_sipush (n := 393) (v := 393) (by decide +kernel) (by decide +kernel) ?_
    refine n_isub (by decide +kernel) ?_
    refine n_icmp_le (off := 4) (tgt := 15) (by decide +kernel) (by decide) (fun hc2 => ?_) (fun hc2 => ?_)
    · rw [if_pos hc2] at hr
      refine n_aload_n (n := 0) (by decide +kernel) rfl ?_
      refine n_getF (q := (a0 + 1)) G fl_RX8_9 hp0 hs0 (fr_8_0 hs0).1 (by decide +kernel) (fun hp3q => ?_)
      refine n_iconst (n := 0) (v := 0) (by decide +kernel) rfl ?_
      refine n_aload_n (n := 1) (by decide +kernel) rfl ?_
      refine n_iload_n (n := 2) (by decide +kernel) rfl ?_
      refine n_bipush (n := 60) (v := 60) (by decide +kernel) rfl ?_
      obtain ⟨M4, h4, hr⟩ := bso hr
      refine n_copy G h4 ml_RX8_67 ac_nat ac_sta ac_ini hp1 hs1 rfl hp3q (fr_8_0 hs0).2.1 (fr_8_0 hs0).2.2 (by decide) (Nat.le_of_ble_eq_true rfl) (by decide +kernel) ?_
      refine n_aload_n (n := 0) (by decide +kernel) rfl ?_
      refine n_getF (q := (a0 + 2)) G fl_RX8_15 hp0 hs0 (fr_8_1 hs0).1 (by decide +kernel) (fun hp5q => ?_)
      refine n_iconst (n := 0) (v := 0) (by decide +kernel) rfl ?_
      refine n_aload_n (n := 1) (by decide +kernel) rfl ?_
      refine n_iload_n (n := 2) (by decide +kernel) rfl ?_
      refine n_bipush (n := 60) (v := 60) (by decide +kernel) rfl ?_
      refine n_iadd (by decide +kernel) ?_
      refine n_bipush (n := 60) (v := 60) (by decide +kernel) rfl ?_
      obtain ⟨M6, h6, hr⟩ := bso hr
      refine n_copy G h6 ml_RX8_67 ac_nat ac_sta ac_ini hp1 hs1 rfl hp5q (fr_8_1 hs0).2.1 (fr_8_1 hs0).2.2 (by decide) (Nat.le_of_ble_eq_true rfl) (by decide +kernel) ?_
      refine n_aload_n (n := 0) (by decide +kernel) rfl ?_
      refine n_getF (q := (a0 + 3)) G fl_RX8_18 hp0 hs0 (fr_8_2 hs0).1 (by decide +kernel) (fun hp7q => ?_)
      refine n_iconst (n := 0) (v := 0) (by decide +kernel) rfl ?_
      refine n_aload_n (n := 1) (by decide +kernel) rfl ?_
      refine n_iload_n (n := 2) (by decide +kernel) rfl ?_
      refine n_bipush (n := 120) (v := 120) (by decide +kernel) rfl ?_
      refine n_iadd (by decide +kernel) ?_
      refine n_bipush (n := 60) (v := 60) (by decide +kernel) rfl ?_
      obtain ⟨M8, h8, hr⟩ := bso hr
      refine n_copy G h8 ml_RX8_67 ac_nat ac_sta ac_ini hp1 hs1 rfl hp7q (fr_8_2 hs0).2.1 (fr_8_2 hs0).2.2 (by decide) (Nat.le_of_ble_eq_true rfl) (by decide +kernel) ?_
      refine n_aload_n (n := 0) (by decide +kernel) rfl ?_
      refine n_getF (q := (a0 + 4)) G fl_RX8_21 hp0 hs0 (fr_8_3 hs0).1 (by decide +kernel) (fun hp9q => ?_)
      refine n_iconst (n := 0) (v := 0) (by decide +kernel) rfl ?_
      refine n_aload_n (n := 1) (by decide +kernel) rfl ?_
      refine n_iload_n (n := 2) (by decide +kernel) rfl ?_
      refine n_sipush (n := 180) (v := 180) (by decide +kernel) (by decide +kernel) ?_
      refine n_iadd (by decide +kernel) ?_
      refine n_bipush (n := 60) (v := 60) (by decide +kernel) rfl ?_
      obtain ⟨M10, h10, hr⟩ := bso hr
      refine n_copy G h10 ml_RX8_67 ac_nat ac_sta ac_ini hp1 hs1 rfl hp9q (fr_8_3 hs0).2.1 (fr_8_3 hs0).2.2 (by decide) (Nat.le_of_ble_eq_true rfl) (by decide +kernel) ?_
      refine n_iload_n (n := 2) (by decide +kernel) rfl ?_
      refine n_sipush (n := 240) (v := 240) (by decide +kernel) (by decide +kernel) ?_
      refine n_iadd (by decide +kernel) ?_
      refine n_istore_n (n := 3) (lo2 := [_, _, _, _]) (by decide +kernel) (Nat.le_of_ble_eq_true rfl) rfl ?_
      refine n_aload_n (n := 0) (by decide +kernel) rfl ?_
      refine n_getF (q := (a0 + 5)) G fl_RX8_24 hp0 hs0 (fr_8_4 hs0).1 (by decide +kernel) (fun hp11q => ?_)
      refine n_iconst (n := 0) (v := 0) (by decide +kernel) rfl ?_
      refine n_aload_n (n := 1) (by decide +kernel) rfl ?_
      refine n_iload_n (n := 3) (by decide +kernel) rfl ?_
      refine n_bipush (n := 48) (v := 48) (by decide +kernel) rfl ?_
      obtain ⟨M12, h12, hr⟩ := bso hr
      refine n_copy G h12 ml_RX8_67 ac_nat ac_sta ac_ini hp1 hs1 rfl hp11q (fr_8_4 hs0).2.1 (fr_8_4 hs0).2.2 (by decide) (Nat.le_of_ble_eq_true rfl) (by decide +kernel) ?_
      refine n_aload_n (n := 0) (by decide +kernel) rfl ?_
      refine n_getF (q := (a0 + 6)) G fl_RX8_27 hp0 hs0 (fr_8_5 hs0).1 (by decide +kernel) (fun hp13q => ?_)
      refine n_iconst (n := 0) (v := 0) (by decide +kernel) rfl ?_
      refine n_aload_n (n := 1) (by decide +kernel) rfl ?_
      refine n_iload_n (n := 3) (by decide +kernel) rfl ?_
      refine n_bipush (n := 48) (v := 48) (by decide +kernel) rfl ?_
      refine n_iadd (by decide +kernel) ?_
      refine n_bipush (n := 48) (v := 48) (by decide +kernel) rfl ?_
      obtain ⟨M14, h14, hr⟩ := bso hr
      refine n_copy G h14 ml_RX8_67 ac_nat ac_sta ac_ini hp1 hs1 rfl hp13q (fr_8_5 hs0).2.1 (fr_8_5 hs0).2.2 (by decide) (Nat.le_of_ble_eq_true rfl) (by decide +kernel) ?_
      refine n_aload_n (n := 0) (by decide +kernel) rfl ?_
      refine n_getF (q := (a0 + 7)) G fl_RX8_30 hp0 hs0 (fr_8_6 hs0).1 (by decide +kernel) (fun hp15q => ?_)
      refine n_iconst (n := 0) (v := 0) (by decide +kernel) rfl ?_
      refine n_aload_n (n := 1) (by decide +kernel) rfl ?_
      refine n_iload_n (n := 3) (by decide +kernel) rfl ?_
      refine n_bipush (n := 96) (v := 96) (by decide +kernel) rfl ?_
      refine n_iadd (by decide +kernel) ?_
      refine n_bipush (n := 48) (v := 48) (by decide +kernel) rfl ?_
      obtain ⟨M16, h16, hr⟩ := bso hr
      refine n_copy G h16 ml_RX8_67 ac_nat ac_sta ac_ini hp1 hs1 rfl hp15q (fr_8_6 hs0).2.1 (fr_8_6 hs0).2.2 (by decide) (Nat.le_of_ble_eq_true rfl) (by decide +kernel) ?_
      refine n_iincWK (n := 3) (j := 144) (w := 144) (lo2 := [_, _, _, _]) (by decide +kernel) rfl rfl rfl ?_
      refine n_aload_n (n := 1) (by decide +kernel) rfl ?_
      refine n_iload_n (n := 3) (by decide +kernel) rfl ?_
      refine n_aload_n (n := 0) (by decide +kernel) rfl ?_
      refine n_getI G fl_RX8_39 hp0 hs0 (by decide +kernel) ?_
      obtain ⟨M17, h17, hr⟩ := bso hr
      refine n_iast G h17 hp1 hs1 rfl (by decide +kernel) ?_
      refine n_aload_n (n := 1) (by decide +kernel) rfl ?_
      refine n_iload_n (n := 3) (by decide +kernel) rfl ?_
      refine n_iconst (n := 1) (v := 1) (by decide +kernel) rfl ?_
      refine n_iadd (by decide +kernel) ?_
      refine n_aload_n (n := 0) (by decide +kernel) rfl ?_
      refine n_getI G fl_RX8_43 hp0 hs0 (by decide +kernel) ?_
      obtain ⟨M18, h18, hr⟩ := bso hr
      refine n_iast G h18 hp1 hs1 rfl (by decide +kernel) ?_
      refine n_aload_n (n := 1) (by decide +kernel) rfl ?_
      refine n_iload_n (n := 3) (by decide +kernel) rfl ?_
      refine n_iconst (n := 2) (v := 2) (by decide +kernel) rfl ?_
      refine n_iadd (by decide +kernel) ?_
      refine n_aload_n (n := 0) (by decide +kernel) rfl ?_
      refine n_getI G fl_RX8_46 hp0 hs0 (by decide +kernel) ?_
      obtain ⟨M19, h19, hr⟩ := bso hr
      refine n_iast G h19 hp1 hs1 rfl (by decide +kernel) ?_
      refine n_aload_n (n := 1) (by decide +kernel) rfl ?_
      refine n_iload_n (n := 3) (by decide +kernel) rfl ?_
      refine n_iconst (n := 3) (v := 3) (by decide +kernel) rfl ?_
      refine n_iadd (by decide +kernel) ?_
      refine n_aload_n (n := 0) (by decide +kernel) rfl ?_
      refine n_getI G fl_RX8_49 hp0 hs0 (by decide +kernel) ?_
      obtain ⟨M20, h20, hr⟩ := bso hr
      refine n_iast G h20 hp1 hs1 rfl (by decide +kernel) ?_
      refine n_aload_n (n := 1) (by decide +kernel) rfl ?_
      refine n_iload_n (n := 3) (by decide +kernel) rfl ?_
      refine n_iconst (n := 4) (v := 4) (by decide +kernel) rfl ?_
      refine n_iadd (by decide +kernel) ?_
      refine n_aload_n (n := 0) (by decide +kernel) rfl ?_
      refine n_getI G fl_RX8_52 hp0 hs0 (by decide +kernel) ?_
      obtain ⟨M21, h21, hr⟩ := bso hr
      refine n_iast G h21 hp1 hs1 rfl (by decide +kernel) ?_
      refine n_aload_n (n := 1) (by decide +kernel) rfl ?_
      refine n_iload_n (n := 3) (by decide +kernel) rfl ?_
      refine n_iconst (n := 5) (v := 5) (by decide +kernel) rfl ?_
      refine n_iadd (by decide +kernel) ?_
      refine n_aload_n (n := 0) (by decide +kernel) rfl ?_
      refine n_getI G fl_RX8_55 hp0 hs0 (by decide +kernel) ?_
      obtain ⟨M22, h22, hr⟩ := bso hr
      refine n_iast G h22 hp1 hs1 rfl (by decide +kernel) ?_
      refine n_aload_n (n := 1) (by decide +kernel) rfl ?_
      refine n_iload_n (n := 3) (by decide +kernel) rfl ?_
      refine n_bipush (n := 6) (v := 6) (by decide +kernel) rfl ?_
      refine n_iadd (by decide +kernel) ?_
      refine n_aload_n (n := 0) (by decide +kernel) rfl ?_
      refine n_getI G fl_RX8_58 hp0 hs0 (by decide +kernel) ?_
      obtain ⟨M23, h23, hr⟩ := bso hr
      refine n_iast G h23 hp1 hs1 rfl (by decide +kernel) ?_
      refine n_aload_n (n := 1) (by decide +kernel) rfl ?_
      refine n_iload_n (n := 3) (by decide +kernel) rfl ?_
      refine n_bipush (n := 7) (v := 7) (by decide +kernel) rfl ?_
      refine n_iadd (by decide +kernel) ?_
      refine n_aload_n (n := 0) (by decide +kernel) rfl ?_
      refine n_getI G fl_RX8_61 hp0 hs0 (by decide +kernel) ?_
      obtain ⟨M24, h24, hr⟩ := bso hr
      refine n_iast G h24 hp1 hs1 rfl (by decide +kernel) ?_
      refine n_aload_n (n := 1) (by decide +kernel) rfl ?_
      refine n_iload_n (n := 3) (by decide +kernel) rfl ?_
      refine n_bipush (n := 8) (v := 8) (by decide +kernel) rfl ?_
      refine n_iadd (by decide +kernel) ?_
      refine n_aload_n (n := 0) (by decide +kernel) rfl ?_
      refine n_getI G fl_RX8_64 hp0 hs0 (by decide +kernel) ?_
      obtain ⟨M25, h25, hr⟩ := bso hr
      refine n_iast G h25 hp1 hs1 rfl (by decide +kernel) ?_
      cases hr
      exact n_return (by decide +kernel)
    · rw [if_neg hc2] at hr
      cases hr
      exact n_return (by decide +kernel)
set_option maxRecDepth 100000 in
theorem B_X8_readFrom (G : GG l s0 b L xs D cy ad)  {a0 : Nat} {a1 : Nat} {x2 : Int32} {M : Mm} {r : Mm} (hp0 : P a0) (hs0 : SH a0 = 8) (hp1 : P a1) (hs1 : SH a1 = 12) (hr : f_X8_readFrom a0 a1 x2 M = some r) : Cl l s0 D cy ad P 9 KX8_readFrom [.ref a0, .ref a1, .int x2] M (.inl none) (r) := by
  refine cl_ofN (by decide +kernel) rfl rfl rfl (lo0 := [_, _, _, .null]) rfl ?_
  unfold f_X8_readFrom at hr
  refine n_iload_n (n := 2) (by decide +kernel) rfl ?_
  refine n_if_lt (off := 13) (tgt := 14) (by decide +kernel) (by decide) (fun hc1 => ?_) (fun hc1 => ?_)
  · rw [if_pos hc1] at hr
    cases hr
    exact n_return (by decide +kernel)
  · rw [if_neg hc1] at hr
    refine n_iload_n (n := 2) (by decide +kernel) rfl ?_
    refine n_aload_n (n := 1) (by decide +kernel) rfl ?_
    refine n_alen G (v := (Int32.ofNat (LN a1))) hp1 (Or.inr (Or.inl hs1)) rfl rfl (by decide +kernel) ?_
    refine n_sipush (n := 393) (v := 393) (by decide +kernel) (by decide +kernel) ?_
    refine n_isub (by decide +kernel) ?_
    refine n_icmp_le (off := 4) (tgt := 15) (by decide +kernel) (by decide) (fun hc2 => ?_) (fun hc2 => ?_)
    · rw [if_pos hc2] at hr
      refine n_aload_n (n := 1) (by decide +kernel) rfl ?_
      refine n_iload_n (n := 2) (by decide +kernel) rfl ?_
      refine n_aload_n (n := 0) (by decide +kernel) rfl ?_
      refine n_getF (q := (a0 + 1)) G fl_RX8_9 hp0 hs0 (fr_8_0 hs0).1 (by decide +kernel) (fun hp3q => ?_)
      refine n_iconst (n := 0) (v := 0) (by decide +kernel) rfl ?_
      refine n_bipush (n := 60) (v := 60) (by decide +kernel) rfl ?_
      obtain ⟨M4, h4, hr⟩ := bso hr
      refine n_copy G h4 ml_RX8_67 ac_nat ac_sta ac_ini hp3q (fr_8_0 hs0).2.1 (fr_8_0 hs0).2.2 hp1 hs1 rfl (by decide) (Nat.le_of_ble_eq_true rfl) (by decide +kernel) ?_
      refine n_aload_n (n := 1) (by decide +kernel) rfl ?_
      refine n_iload_n (n := 2) (by decide +kernel) rfl ?_
      refine n_bipush (n := 60) (v := 60) (by decide +kernel) rfl ?_
      refine n_iadd (by decide +kernel) ?_
      refine n_aload_n (n := 0) (by decide +kernel) rfl ?_
      refine n_getF (q := (a0 + 2)) G fl_RX8_15 hp0 hs0 (fr_8_1 hs0).1 (by decide +kernel) (fun hp5q => ?_)
      refine n_iconst (n := 0) (v := 0) (by decide +kernel) rfl ?_
      refine n_bipush (n := 60) (v := 60) (by decide +kernel) rfl ?_
      obtain ⟨M6, h6, hr⟩ := bso hr
      refine n_copy G h6 ml_RX8_67 ac_nat ac_sta ac_ini hp5q (fr_8_1 hs0).2.1 (fr_8_1 hs0).2.2 hp1 hs1 rfl (by decide) (Nat.le_of_ble_eq_true rfl) (by decide +kernel) ?_
      refine n_aload_n (n := 1) (by decide +kernel) rfl ?_
      refine n_iload_n (n := 2) (by decide +kernel) rfl ?_
      refine n_bipush (n := 120) (v := 120) (by decide +kernel) rfl ?_
      refine n_iadd (by decide +kernel) ?_
      refine n_aload_n (n := 0) (by decide +kernel) rfl ?_
      refine n_getF (q := (a0 + 3)) G fl_RX8_18 hp0 hs0 (fr_8_2 hs0).1 (by decide +kernel) (fun hp7q => ?_)
      refine n_iconst (n := 0) (v := 0) (by decide +kernel) rfl ?_
      refine n_bipush (n := 60) (v := 60) (by decide +kernel) rfl ?_
      obtain ⟨M8, h8, hr⟩ := bso hr
      refine n_copy G h8 ml_RX8_67 ac_nat ac_sta ac_ini hp7q (fr_8_2 hs0).2.1 (fr_8_2 hs0).2.2 hp1 hs1 rfl (by decide) (Nat.le_of_ble_eq_true rfl) (by decide +kernel) ?_
      refine n_aload_n (n := 1) (by decide +kernel) rfl ?_
      refine n_iload_n (n := 2) (by decide +kernel) rfl ?_
      refine n_sipush (n := 180) (v := 180) (by decide +kernel) (by decide +kernel) ?_
      refine n_iadd (by decide +kernel) ?_
      refine n_aload_n (n := 0) (by decide +kernel) rfl ?_
      refine n_getF (q := (a0 + 4)) G fl_RX8_21 hp0 hs0 (fr_8_3 hs0).1 (by decide +kernel) (fun hp9q => ?_)
      refine n_iconst (n := 0) (v := 0) (by decide +kernel) rfl ?_
      refine n_bipush (n := 60) (v := 60) (by decide +kernel) rfl ?_
      obtain ⟨M10, h10, hr⟩ := bso hr
      refine n_copy G h10 ml_RX8_67 ac_nat ac_sta ac_ini hp9q (fr_8_3 hs0).2.1 (fr_8_3 hs0).2.2 hp1 hs1 rfl (by decide) (Nat.le_of_ble_eq_true rfl) (by decide +kernel) ?_
      refine n_iload_n (n := 2) (by decide +kernel) rfl ?_
      refine n_sipush (n := 240) (v := 240) (by decide +kernel) (by decide +kernel) ?_
      refine n_iadd (by decide +kernel) ?_
      refine n_istore_n (n := 3) (lo2 := [_, _, _, _]) (by decide +kernel) (Nat.le_of_ble_eq_true rfl) rfl ?_
      refine n_aload_n (n := 1) (by decide +kernel) rfl ?_
      refine n_iload_n (n := 3) (by decide +kernel) rfl ?_
      refine n_aload_n (n := 0) (by decide +kernel) rfl ?_
      refine n_getF (q := (a0 + 5)) G fl_RX8_24 hp0 hs0 (fr_8_4 hs0).1 (by decide +kernel) (fun hp11q => ?_)
      refine n_iconst (n := 0) (v := 0) (by decide +kernel) rfl ?_
      refine n_bipush (n := 48) (v := 48) (by decide +kernel) rfl ?_
      obtain ⟨M12, h12, hr⟩ := bso hr
      refine n_copy G h12 ml_RX8_67 ac_nat ac_sta ac_ini hp11q (fr_8_4 hs0).2.1 (fr_8_4 hs0).2.2 hp1 hs1 rfl (by decide) (Nat.le_of_ble_eq_true rfl) (by decide +kernel) ?_
      refine n_aload_n (n := 1) (by decide +kernel) rfl ?_
      refine n_iload_n (n := 3) (by decide +kernel) rfl ?_
      refine n_bipush (n := 48) (v := 48) (by decide +kernel) rfl ?_
      refine n_iadd (by decide +kernel) ?_
      refine n_aload_n (n := 0) (by decide +kernel) rfl ?_
      refine n_getF (q := (a0 + 6)) G fl_RX8_27 hp0 hs0 (fr_8_5 hs0).1 (by decide +kernel) (fun hp13q => ?_)
      refine n_iconst (n := 0) (v := 0) (by decide +kernel) rfl ?_
      refine n_bipush (n := 48) (v := 48) (by decide +kernel) rfl ?_
      obtain ⟨M14, h14, hr⟩ := bso hr
      refine n_copy G h14 ml_RX8_67 ac_nat ac_sta ac_ini hp13q (fr_8_5 hs0).2.1 (fr_8_5 hs0).2.2 hp1 hs1 rfl (by decide) (Nat.le_of_ble_eq_true rfl) (by decide +kernel) ?_
      refine n_aload_n (n := 1) (by decide +kernel) rfl ?_
      refine n_iload_n (n := 3) (by decide +kernel) rfl ?_
      refine n_bipush (n := 96) (v := 96) (by decide +kernel) rfl ?_
      refine n_iadd (by decide +kernel) ?_
      refine n_aload_n (n := 0) (by decide +kernel) rfl ?_
      refine n_getF (q := (a0 + 7)) G fl_RX8_30 hp0 hs0 (fr_8_6 hs0).1 (by decide +kernel) (fun hp15q => ?_)
      refine n_iconst (n := 0) (v := 0) (by decide +kernel) rfl ?_
      refine n_bipush (n := 48) (v := 48) (by decide +kernel) rfl ?_
      obtain ⟨M16, h16, hr⟩ := bso hr
      refine n_copy G h16 ml_RX8_67 ac_nat ac_sta ac_ini hp15q (fr_8_6 hs0).2.1 (fr_8_6 hs0).2.2 hp1 hs1 rfl (by decide) (Nat.le_of_ble_eq_true rfl) (by decide +kernel) ?_
      refine n_iincWK (n := 3) (j := 144) (w := 144) (lo2 := [_, _, _, _]) (by decide +kernel) rfl rfl rfl ?_
      refine n_aload_n (n := 0) (by decide +kernel) rfl ?_
      refine n_aload_n (n := 1) (by decide +kernel) rfl ?_
      refine n_iload_n (n := 3) (by decide +kernel) rfl ?_
      obtain ⟨v17, h17, hr⟩ := bso hr
      refine n_iald G h17 hp1 hs1 rfl (by decide +kernel) ?_
      refine n_putI G fl_RX8_39 hp0 hs0 (by decide +kernel) ?_
      refine n_aload_n (n := 0) (by decide +kernel) rfl ?_
      refine n_aload_n (n := 1) (by decide +kernel) rfl ?_
      refine n_iload_n (n := 3) (by decide +kernel) rfl ?_
      refine n_iconst (n := 1) (v := 1) (by decide +kernel) rfl ?_
      refine n_iadd (by decide +kernel) ?_
      obtain ⟨v18, h18, hr⟩ := bso hr
      refine n_iald G h18 hp1 hs1 rfl (by decide +kernel) ?_
      refine n_putI G fl_RX8_43 hp0 hs0 (by decide +kernel) ?_
      refine n_aload_n (n := 0) (by decide +kernel) rfl ?_
      refine n_aload_n (n := 1) (by decide +kernel) rfl ?_
      refine n_iload_n (n := 3) (by decide +kernel) rfl ?_
      refine n_iconst (n := 2) (v := 2) (by decide +kernel) rfl ?_
      refine n_iadd (by decide +kernel) ?_
      obtain ⟨v19, h19, hr⟩ := bso hr
      refine n_iald G h19 hp1 hs1 rfl (by decide +kernel) ?_
      refine n_putI G fl_RX8_46 hp0 hs0 (by decide +kernel) ?_
      refine n_aload_n (n := 0) (by decide +kernel) rfl ?_
      refine n_aload_n (n := 1) (by decide +kernel) rfl ?_
      refine n_iload_n (n := 3) (by decide +kernel) rfl ?_
      refine n_iconst (n := 3) (v := 3) (by decide +kernel) rfl ?_
      refine n_iadd (by decide +kernel) ?_
      obtain ⟨v20, h20, hr⟩ := bso hr
      refine n_iald G h20 hp1 hs1 rfl (by decide +kernel) ?_
      refine n_putI G fl_RX8_49 hp0 hs0 (by decide +kernel) ?_
      refine n_aload_n (n := 0) (by decide +kernel) rfl ?_
      refine n_aload_n (n := 1) (by decide +kernel) rfl ?_
      refine n_iload_n (n := 3) (by decide +kernel) rfl ?_
      refine n_iconst (n := 4) (v := 4) (by decide +kernel) rfl ?_
      refine n_iadd (by decide +kernel) ?_
      obtain ⟨v21, h21, hr⟩ := bso hr
      refine n_iald G h21 hp1 hs1 rfl (by decide +kernel) ?_
      refine n_putI G fl_RX8_52 hp0 hs0 (by decide +kernel) ?_
      refine n_aload_n (n := 0) (by decide +kernel) rfl ?_
      refine n_aload_n (n := 1) (by decide +kernel) rfl ?_
      refine n_iload_n (n := 3) (by decide +kernel) rfl ?_
      refine n_iconst (n := 5) (v := 5) (by decide +kernel) rfl ?_
      refine n_iadd (by decide +kernel) ?_
      obtain ⟨v22, h22, hr⟩ := bso hr
      refine n_iald G h22 hp1 hs1 rfl (by decide +kernel) ?_
      refine n_putI G fl_RX8_55 hp0 hs0 (by decide +kernel) ?_
      refine n_aload_n (n := 0) (by decide +kernel) rfl ?_
      refine n_aload_n (n := 1) (by decide +kernel) rfl ?_
      refine n_iload_n (n := 3) (by decide +kernel) rfl ?_
      refine n_bipush (n := 6) (v := 6) (by decide +kernel) rfl ?_
      refine n_iadd (by decide +kernel) ?_
      obtain ⟨v23, h23, hr⟩ := bso hr
      refine n_iald G h23 hp1 hs1 rfl (by decide +kernel) ?_
      refine n_putI G fl_RX8_58 hp0 hs0 (by decide +kernel) ?_
      refine n_aload_n (n := 0) (by decide +kernel) rfl ?_
      refine n_aload_n (n := 1) (by decide +kernel) rfl ?_
      refine n_iload_n (n := 3) (by decide +kernel) rfl ?_
      refine n_bipush (n := 7) (v := 7) (by decide +kernel) rfl ?_
      refine n_iadd (by decide +kernel) ?_
      obtain ⟨v24, h24, hr⟩ := bso hr
      refine n_iald G h24 hp1 hs1 rfl (by decide +kernel) ?_
      refine n_putI G fl_RX8_61 hp0 hs0 (by decide +kernel) ?_
      refine n_aload_n (n := 0) (by decide +kernel) rfl ?_
      refine n_aload_n (n := 1) (by decide +kernel) rfl ?_
      refine n_iload_n (n := 3) (by decide +kernel) rfl ?_
      refine n_bipush (n := 8) (v := 8) (by decide +kernel) rfl ?_
      refine n_iadd (by decide +kernel) ?_
      obtain ⟨v25, h25, hr⟩ := bso hr
      refine n_iald G h25 hp1 hs1 rfl (by decide +kernel) ?_
      refine n_putI G fl_RX8_64 hp0 hs0 (by decide +kernel) ?_
      cases hr
      exact n_return (by decide +kernel)
    · rw [if_neg hc2] at hr
      cases hr
      exact n_return (by decide +kernel)
set_option maxRecDepth 100000 in
theorem B_X2_begin (G : GG l s0 b L xs D cy ad)  {a1 : Nat} {M : Mm} {r : Mm} (hp0 : P 18) (hp1 : P a1) (hs1 : SH a1 = 8) (hr : f_X2_begin a1 M = some r) : Cl l s0 D cy ad P 10 KX2_begin [.ref 18, .ref a1] M (.inl none) (r) := by
  refine cl_ofN (by decide +kernel) rfl rfl rfl (lo0 := [_, _]) rfl ?_
  unfold f_X2_begin at hr
  refine n_aload_n (n := 1) (by decide +kernel) rfl ?_
  refine n_aload_n (n := 0) (by decide +kernel) rfl ?_
  refine n_getF (q := 27) G fl_RX2_18 hp0 (by decide +kernel) (by decide +kernel) (by decide +kernel) (fun hp1q => ?_)
  refine n_iconst (n := 0) (v := 0) (by decide +kernel) rfl ?_
  obtain ⟨M2, h2, hr⟩ := bso hr
  refine n_callVv G [_, _] (M1 := M2) (B_X8_writeTo G hp1 hs1 hp1q (by decide +kernel) h2) (by decide) mX8_writeTo ml_RX2_22 hp1 hs1 rfl rfl (Nat.le_of_ble_eq_true rfl) (by decide +kernel) ?_
  refine n_aload_n (n := 0) (by decide +kernel) rfl ?_
  refine n_getF (q := 19) G fl_RX2_12 hp0 (by decide +kernel) (by decide +kernel) (by decide +kernel) (fun hp3q => ?_)
  refine n_aload_n (n := 0) (by decide +kernel) rfl ?_
  refine n_getF (q := 27) G fl_RX2_18 hp0 (by decide +kernel) (by decide +kernel) (by decide +kernel) (fun hp4q => ?_)
  refine n_iconst (n := 0) (v := 0) (by decide +kernel) rfl ?_
  obtain ⟨M5, h5, hr⟩ := bso hr
  refine n_callVv G [_, _] (M1 := M5) (B_X8_readFrom G hp3q (by decide +kernel) hp4q (by decide +kernel) h5) (by decide) mX8_readFrom ml_RX2_26 hp3q (by decide +kernel) rfl rfl (Nat.le_of_ble_eq_true rfl) (by decide +kernel) ?_
  cases hr
  exact n_return (by decide +kernel)
set_option maxRecDepth 100000 in
theorem B_X8_takeUp (G : GG l s0 b L xs D cy ad)  {a0 : Nat} {x1 : Int32} {x2 : Int32} {M : Mm} {r : Mm} (hp0 : P a0) (hs0 : SH a0 = 8) (hr : f_X8_takeUp a0 x1 x2 M = some r) : Cl l s0 D cy ad P 11 KX8_takeUp [.ref a0, .int x1, .int x2] M (.inl none) (r) := by
  refine cl_ofN (by decide +kernel) rfl rfl rfl (lo0 := [_, _, _, .null]) rfl ?_
  unfold f_X8_takeUp at hr
  refine n_aload_n (n := 0) (by decide +kernel) rfl ?_
  refine n_iload_n (n := 1) (by decide +kernel) rfl ?_
  obtain ⟨v1, h1, hr⟩ := bso hr
  refine n_callVi G [_] (x := v1) (B_X8_cellOf G hp0 hs0 h1) (by decide) mX8_cellOf ml_RX8_84 hp0 hs0 rfl rfl (Nat.le_of_ble_eq_true rfl) (by decide +kernel) ?_
  refine n_istore_n (n := 3) (lo2 := [_, _, _, _]) (by decide +kernel) (Nat.le_of_ble_eq_true rfl) rfl ?_
  refine n_aload_n (n := 0) (by decide +kernel) rfl ?_
  refine n_iload_n (n := 1) (by decide +kernel) rfl ?_
  obtain ⟨v2, h2, hr⟩ := bso hr
  refine n_callVi G [_] (x := v2) (B_X8_isStone G hp0 hs0 h2) (by decide) mX8_isStone ml_RX8_73 hp0 hs0 rfl rfl (Nat.le_of_ble_eq_true rfl) (by decide +kernel) ?_
  refine n_if_eq (off := 37) (tgt := 48) (by decide +kernel) (by decide) (fun hc3 => ?_) (fun hc3 => ?_)
  · rw [if_pos hc3] at hr
    cases hr
    exact n_return (by decide +kernel)
  · rw [if_neg hc3] at hr
    refine n_iload_n (n := 3) (by decide +kernel) rfl ?_
    obtain ⟨v4, h4, hr⟩ := bso hr
    refine n_callSNi G [_] (x := v4) (B_X9_isCell G  h4) (by decide) mX9_isCell ml_RX8_77 rfl rfl (Nat.le_of_ble_eq_true rfl) (by decide +kernel) ?_
    refine n_if_eq (off := 30) (tgt := 48) (by decide +kernel) (by decide) (fun hc5 => ?_) (fun hc5 => ?_)
    · rw [if_pos hc5] at hr
      cases hr
      exact n_return (by decide +kernel)
    · rw [if_neg hc5] at hr
      refine n_aload_n (n := 0) (by decide +kernel) rfl ?_
      refine n_getF (q := (a0 + 4)) G fl_RX8_21 hp0 hs0 (fr_8_3 hs0).1 (by decide +kernel) (fun hp6q => ?_)
      refine n_iload_n (n := 1) (by decide +kernel) rfl ?_
      refine n_iload_n (n := 2) (by decide +kernel) rfl ?_
      obtain ⟨M7, h7, hr⟩ := bso hr
      refine n_iast G h7 hp6q (fr_8_3 hs0).2.1 (fr_8_3 hs0).2.2 (by decide +kernel) ?_
      refine n_aload_n (n := 0) (by decide +kernel) rfl ?_
      refine n_getF (q := (a0 + 7)) G fl_RX8_30 hp0 hs0 (fr_8_6 hs0).1 (by decide +kernel) (fun hp8q => ?_)
      refine n_iload_n (n := 3) (by decide +kernel) rfl ?_
      refine n_dup2 rfl rfl (by decide +kernel) ?_
      obtain ⟨v9, h9, hr⟩ := bso hr
      refine n_iald G h9 hp8q (fr_8_6 hs0).2.1 (fr_8_6 hs0).2.2 (by decide +kernel) ?_
      refine n_iconst (n := 1) (v := 1) (by decide +kernel) rfl ?_
      refine n_isub (by decide +kernel) ?_
      obtain ⟨M10, h10, hr⟩ := bso hr
      refine n_iast G h10 hp8q (fr_8_6 hs0).2.1 (fr_8_6 hs0).2.2 (by decide +kernel) ?_
      refine n_aload_n (n := 0) (by decide +kernel) rfl ?_
      refine n_dup rfl (by decide +kernel) ?_
      refine n_getI G fl_RX8_39 hp0 hs0 (by decide +kernel) ?_
      refine n_iconst (n := 1) (v := 1) (by decide +kernel) rfl ?_
      refine n_isub (by decide +kernel) ?_
      refine n_putI G fl_RX8_39 hp0 hs0 (by decide +kernel) ?_
      cases hr
      exact n_return (by decide +kernel)
set_option maxRecDepth 100000 in
theorem B_X2_clearWithin (G : GG l s0 b L xs D cy ad)  {a1 : Nat} {x2 : Int32} {x3 : Int32} {M : Mm} {r : (Int32 × Mm)} (hp0 : P 18) (hp1 : P a1) (hs1 : SH a1 = 3) (hr : f_X2_clearWithin a1 x2 x3 M = some r) : Cl l s0 D cy ad P 12 KX2_clearWithin [.ref 18, .ref a1, .int x2, .int x3] M (.inl (some (.int r.1))) (r.2) := by
  refine cl_ofN (by decide +kernel) rfl rfl okI (lo0 := [_, _, _, _, .null]) rfl ?_
  unfold f_X2_clearWithin at hr
  refine n_aload_n (n := 0) (by decide +kernel) rfl ?_
  refine n_getF (q := 19) G fl_RX2_12 hp0 (by decide +kernel) (by decide +kernel) (by decide +kernel) (fun hp1q => ?_)
  refine n_aload_n (n := 1) (by decide +kernel) rfl ?_
  refine n_iload_n (n := 2) (by decide +kernel) rfl ?_
  obtain ⟨v2, h2, hr⟩ := bso hr
  refine n_callVi G [_, _] (x := v2) (B_X8_clearingOf G hp1q (by decide +kernel) hp1 hs1 h2) (by decide) mX8_clearingOf ml_RX2_61 hp1q (by decide +kernel) rfl rfl (Nat.le_of_ble_eq_true rfl) (by decide +kernel) ?_
  refine n_istore (n := 4) (lo2 := [_, _, _, _, _]) (by decide +kernel) (Nat.le_of_ble_eq_true rfl) rfl ?_
  refine n_iload (n := 4) (by decide +kernel) rfl ?_
  refine n_iload_n (n := 3) (by decide +kernel) rfl ?_
  refine n_icmp_le (off := 5) (tgt := 19) (by decide +kernel) (by decide) (fun hc3 => ?_) (fun hc3 => ?_)
  · rw [if_pos hc3] at hr
    refine n_aload_n (n := 0) (by decide +kernel) rfl ?_
    refine n_getF (q := 19) G fl_RX2_12 hp0 (by decide +kernel) (by decide +kernel) (by decide +kernel) (fun hp4q => ?_)
    refine n_iload_n (n := 2) (by decide +kernel) rfl ?_
    refine n_iconst (n := 2) (v := 2) (by decide +kernel) rfl ?_
    obtain ⟨M5, h5, hr⟩ := bso hr
    refine n_callVv G [_, _] (M1 := M5) (B_X8_takeUp G hp4q (by decide +kernel) h5) (by decide) mX8_takeUp ml_RX2_65 hp4q (by decide +kernel) rfl rfl (Nat.le_of_ble_eq_true rfl) (by decide +kernel) ?_
    refine n_iload (n := 4) (by decide +kernel) rfl ?_
    cases hr
    exact n_ireturn (by decide +kernel)
  · rw [if_neg hc3] at hr
    refine n_iconst (n := 0) (v := 0) (by decide +kernel) rfl ?_
    cases hr
    exact n_ireturn (by decide +kernel)
abbrev P_X2_spendYear_b6 (l : Launch) (s0 : State) (D : va_G) (cy : Nat → ClassId) (ad : Nat → Nat) (P : Nat → Prop) (a1 : Nat)  (res : Rs) (M' : Mm) (s : (Int32 × Int32 × Mm)) : Prop := Rn l s0 D cy ad P 13 KX2_spendYear 6 [.ref 18, .ref a1, .null, .int (s.1), .int (s.2.1), .null] [] (s.2.2) res M'
abbrev Q_X2_spendYear_b6 (l : Launch) (s0 : State) (D : va_G) (cy : Nat → ClassId) (ad : Nat → Nat) (P : Nat → Prop) (a1 : Nat)  (res : Rs) (M' : Mm) (e : Mm) : Prop := Rn l s0 D cy ad P 13 KX2_spendYear 76 [.null, .null, .null, .null, .null, .null] [] (e) res M'
abbrev P_X2_spendYear_b15 (l : Launch) (s0 : State) (D : va_G) (cy : Nat → ClassId) (ad : Nat → Nat) (P : Nat → Prop) (a1 : Nat) (x4 : Int32)  (res : Rs) (M' : Mm) (s : (Int32 × Int32 × Mm)) : Prop := Rn l s0 D cy ad P 13 KX2_spendYear 15 [.ref 18, .ref a1, .null, .int (s.1), .int x4, .int (s.2.1)] [] (s.2.2) res M'
abbrev Q_X2_spendYear_b15 (l : Launch) (s0 : State) (D : va_G) (cy : Nat → ClassId) (ad : Nat → Nat) (P : Nat → Prop) (a1 : Nat) (x4 : Int32)  (res : Rs) (M' : Mm) (e : (Int32 × Mm)) : Prop := Rn l s0 D cy ad P 13 KX2_spendYear 70 [.ref 18, .ref a1, .null, .int (e.1), .int x4, .null] [] (e.2) res M'
set_option maxRecDepth 100000 in
theorem B_X2_spendYear_b15 (G : GG l s0 b L xs D cy ad) {a1 : Nat} {x4 : Int32}  {res : Rs} {M' : Mm} (hp0 : P 18) (hp1 : P a1) (hs1 : SH a1 = 3) : ∀ (s : (Int32 × Int32 × Mm)) (r : (Int32 × Int32 × Mm) ⊕ (Int32 × Mm)), f_X2_spendYear_b15 a1 x4 s = some r → mtc (P_X2_spendYear_b15 l s0 D cy ad P a1 x4 res M') (Q_X2_spendYear_b15 l s0 D cy ad P a1 x4 res M') r → P_X2_spendYear_b15 l s0 D cy ad P a1 x4 res M' s := by
  intro s r hr hk
  obtain ⟨x3, x5, M⟩ := s
  unfold f_X2_spendYear_b15 at hr
  try dsimp only at hr
  dsimp only [P_X2_spendYear_b15]
  refine n_iload (n := 5) (by decide +kernel) rfl ?_
  refine n_aload_n (n := 0) (by decide +kernel) rfl ?_
  refine n_getF (q := 19) G fl_RX2_12 hp0 (by decide +kernel) (by decide +kernel) (by decide +kernel) (fun hp2q => ?_)
  refine n_getI G fl_RX2_45 hp2q (by decide +kernel) (by decide +kernel) ?_
  refine n_icmp_ge (off := 46) (tgt := 70) (by decide +kernel) (by decide) (fun hc3 => ?_) (fun hc3 => ?_)
  · rw [if_pos hc3] at hr
    cases hr
    refine n_msk [true, true, false, true, true, false] (lo2 := [_, _, .null, _, _, .null]) rfl rfl ?_
    exact hk
  · rw [if_neg hc3] at hr
    refine n_aload_n (n := 0) (by decide +kernel) rfl ?_
    refine n_getF (q := 19) G fl_RX2_12 hp0 (by decide +kernel) (by decide +kernel) (by decide +kernel) (fun hp4q => ?_)
    refine n_iload (n := 5) (by decide +kernel) rfl ?_
    obtain ⟨v5, h5, hr⟩ := bso hr
    refine n_callVi G [_] (x := v5) (B_X8_isAsked G hp4q (by decide +kernel) h5) (by decide) mX8_isAsked ml_RX2_49 hp4q (by decide +kernel) rfl rfl (Nat.le_of_ble_eq_true rfl) (by decide +kernel) ?_
    refine n_if_eq (off := 28) (tgt := 64) (by decide +kernel) (by decide) (fun hc6 => ?_) (fun hc6 => ?_)
    · rw [if_pos hc6] at hr
      refine n_iincK (n := 5) (j := 1) (w := 1) (lo2 := [_, _, _, _, _, _]) (by decide +kernel) rfl rfl rfl ?_
      refine n_goto (off := -52) (tgt := 15) (by decide +kernel) (by decide) ?_
      cases hr
      exact hk
    · rw [if_neg hc6] at hr
      refine n_aload_n (n := 0) (by decide +kernel) rfl ?_
      refine n_getF (q := 19) G fl_RX2_12 hp0 (by decide +kernel) (by decide +kernel) (by decide +kernel) (fun hp7q => ?_)
      refine n_iload (n := 5) (by decide +kernel) rfl ?_
      obtain ⟨v8, h8, hr⟩ := bso hr
      refine n_callVi G [_] (x := v8) (B_X8_sizeOf G hp7q (by decide +kernel) h8) (by decide) mX8_sizeOf ml_RX2_53 hp7q (by decide +kernel) rfl rfl (Nat.le_of_ble_eq_true rfl) (by decide +kernel) ?_
      refine n_iload (n := 4) (by decide +kernel) rfl ?_
      refine n_icmp_ne (off := 14) (tgt := 64) (by decide +kernel) (by decide) (fun hc9 => ?_) (fun hc9 => ?_)
      · rw [if_neg hc9] at hr
        refine n_iincK (n := 5) (j := 1) (w := 1) (lo2 := [_, _, _, _, _, _]) (by decide +kernel) rfl rfl rfl ?_
        refine n_goto (off := -52) (tgt := 15) (by decide +kernel) (by decide) ?_
        cases hr
        exact hk
      · rw [if_pos hc9] at hr
        refine n_iload_n (n := 3) (by decide +kernel) rfl ?_
        refine n_aload_n (n := 0) (by decide +kernel) rfl ?_
        refine n_aload_n (n := 1) (by decide +kernel) rfl ?_
        refine n_iload (n := 5) (by decide +kernel) rfl ?_
        refine n_iload_n (n := 3) (by decide +kernel) rfl ?_
        obtain ⟨⟨v10, M10⟩, h10, hr⟩ := bso hr
        try dsimp only at hr
        refine n_callVi G [_, _, _] (x := v10) (M1 := M10) (B_X2_clearWithin G hp0 hp1 hs1 h10) (by decide) mX2_clearWithin ml_RX2_57 hp0 (by decide +kernel) rfl rfl (Nat.le_of_ble_eq_true rfl) (by decide +kernel) ?_
        refine n_isub (by decide +kernel) ?_
        refine n_istore_n (n := 3) (lo2 := [_, _, _, _, _, _]) (by decide +kernel) (Nat.le_of_ble_eq_true rfl) rfl ?_
        refine n_iincK (n := 5) (j := 1) (w := 1) (lo2 := [_, _, _, _, _, _]) (by decide +kernel) rfl rfl rfl ?_
        refine n_goto (off := -52) (tgt := 15) (by decide +kernel) (by decide) ?_
        cases hr
        exact hk
end NB
