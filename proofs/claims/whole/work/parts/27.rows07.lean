/-! printed rows: a method is its function -/
section NB
variable {l : Launch} {s0 : State} {b L : Nat} {xs : Nat → Int32} {D : va_G} {cy : Nat → ClassId} {ad : Nat → Nat} {P : Nat → Prop}
set_option maxRecDepth 100000 in
theorem B_X10_clause (G : GG l s0 b L xs D cy ad)   {M : Mm} {r : Mm} (hp0 : P 76) (hr : f_X10_clause  M = some r) : Cl l s0 D cy ad P 13 KX10_clause [.ref 76] M (.inl none) (r) := by
  refine cl_ofN (by decide +kernel) rfl rfl rfl (lo0 := [_, .null, .null, .null]) rfl ?_
  unfold f_X10_clause at hr
  refine n_aload_n (n := 0) (by decide +kernel) rfl ?_
  refine n_bipush (n := 6) (v := 6) (by decide +kernel) rfl ?_
  refine n_bipush (n := 9) (v := 9) (by decide +kernel) rfl ?_
  refine n_iconst (n := 5) (v := 5) (by decide +kernel) rfl ?_
  refine n_bipush (n := 12) (v := 12) (by decide +kernel) rfl ?_
  refine n_iconst (n := 4) (v := 4) (by decide +kernel) rfl ?_
  refine n_iconst (n := 0) (v := 0) (by decide +kernel) rfl ?_
  obtain ⟨⟨v1, M1⟩, h1, hr⟩ := bso hr
  try dsimp only at hr
  refine n_callVi G [_, _, _, _, _, _] (x := v1) (M1 := M1) (B_X10_isWord G hp0 h1) (by decide) mX10_isWord ml_RX10_137 hp0 (by decide +kernel) rfl rfl (Nat.le_of_ble_eq_true rfl) (by decide +kernel) ?_
  refine n_if_eq (off := 7) (tgt := 20) (by decide +kernel) (by decide) (fun hc2 => ?_) (fun hc2 => ?_)
  · rw [if_pos hc2] at hr
    refine n_aload_n (n := 0) (by decide +kernel) rfl ?_
    refine n_bipush (n := 19) (v := 19) (by decide +kernel) rfl ?_
    refine n_bipush (n := 20) (v := 20) (by decide +kernel) rfl ?_
    refine n_bipush (n := 15) (v := 15) (by decide +kernel) rfl ?_
    refine n_bipush (n := 14) (v := 14) (by decide +kernel) rfl ?_
    refine n_iconst (n := 5) (v := 5) (by decide +kernel) rfl ?_
    refine n_iconst (n := 0) (v := 0) (by decide +kernel) rfl ?_
    obtain ⟨⟨v3, M3⟩, h3, hr⟩ := bso hr
    try dsimp only at hr
    refine n_callVi G [_, _, _, _, _, _] (x := v3) (M1 := M3) (B_X10_isWord G hp0 h3) (by decide) mX10_isWord ml_RX10_137 hp0 (by decide +kernel) rfl rfl (Nat.le_of_ble_eq_true rfl) (by decide +kernel) ?_
    refine n_if_eq (off := 7) (tgt := 41) (by decide +kernel) (by decide) (fun hc4 => ?_) (fun hc4 => ?_)
    · rw [if_pos hc4] at hr
      refine n_aload_n (n := 0) (by decide +kernel) rfl ?_
      refine n_bipush (n := 19) (v := 19) (by decide +kernel) rfl ?_
      refine n_bipush (n := 15) (v := 15) (by decide +kernel) rfl ?_
      refine n_bipush (n := 9) (v := 9) (by decide +kernel) rfl ?_
      refine n_bipush (n := 12) (v := 12) (by decide +kernel) rfl ?_
      refine n_iconst (n := 0) (v := 0) (by decide +kernel) rfl ?_
      refine n_iconst (n := 0) (v := 0) (by decide +kernel) rfl ?_
      obtain ⟨⟨v5, M5⟩, h5, hr⟩ := bso hr
      try dsimp only at hr
      refine n_callVi G [_, _, _, _, _, _] (x := v5) (M1 := M5) (B_X10_isWord G hp0 h5) (by decide) mX10_isWord ml_RX10_137 hp0 (by decide +kernel) rfl rfl (Nat.le_of_ble_eq_true rfl) (by decide +kernel) ?_
      refine n_if_eq (off := 7) (tgt := 62) (by decide +kernel) (by decide) (fun hc6 => ?_) (fun hc6 => ?_)
      · rw [if_pos hc6] at hr
        refine n_aload_n (n := 0) (by decide +kernel) rfl ?_
        refine n_bipush (n := 12) (v := 12) (by decide +kernel) rfl ?_
        refine n_iconst (n := 1) (v := 1) (by decide +kernel) rfl ?_
        refine n_iconst (n := 4) (v := 4) (by decide +kernel) rfl ?_
        refine n_bipush (n := 19) (v := 19) (by decide +kernel) rfl ?_
        refine n_iconst (n := 0) (v := 0) (by decide +kernel) rfl ?_
        refine n_iconst (n := 0) (v := 0) (by decide +kernel) rfl ?_
        obtain ⟨⟨v7, M7⟩, h7, hr⟩ := bso hr
        try dsimp only at hr
        refine n_callVi G [_, _, _, _, _, _] (x := v7) (M1 := M7) (B_X10_isWord G hp0 h7) (by decide) mX10_isWord ml_RX10_137 hp0 (by decide +kernel) rfl rfl (Nat.le_of_ble_eq_true rfl) (by decide +kernel) ?_
        refine n_if_eq (off := 7) (tgt := 81) (by decide +kernel) (by decide) (fun hc8 => ?_) (fun hc8 => ?_)
        · rw [if_pos hc8] at hr
          refine n_aload_n (n := 0) (by decide +kernel) rfl ?_
          refine n_bipush (n := 19) (v := 19) (by decide +kernel) rfl ?_
          refine n_bipush (n := 12) (v := 12) (by decide +kernel) rfl ?_
          refine n_iconst (n := 5) (v := 5) (by decide +kernel) rfl ?_
          refine n_iconst (n := 4) (v := 4) (by decide +kernel) rfl ?_
          refine n_bipush (n := 7) (v := 7) (by decide +kernel) rfl ?_
          refine n_iconst (n := 5) (v := 5) (by decide +kernel) rfl ?_
          obtain ⟨⟨v9, M9⟩, h9, hr⟩ := bso hr
          try dsimp only at hr
          refine n_callVi G [_, _, _, _, _, _] (x := v9) (M1 := M9) (B_X10_isWord G hp0 h9) (by decide) mX10_isWord ml_RX10_137 hp0 (by decide +kernel) rfl rfl (Nat.le_of_ble_eq_true rfl) (by decide +kernel) ?_
          refine n_if_eq (off := 7) (tgt := 101) (by decide +kernel) (by decide) (fun hc10 => ?_) (fun hc10 => ?_)
          · rw [if_pos hc10] at hr
            refine n_aload_n (n := 0) (by decide +kernel) rfl ?_
            refine n_iconst (n := 2) (v := 2) (by decide +kernel) rfl ?_
            refine n_iconst (n := 1) (v := 1) (by decide +kernel) rfl ?_
            refine n_bipush (n := 18) (v := 18) (by decide +kernel) rfl ?_
            refine n_iconst (n := 0) (v := 0) (by decide +kernel) rfl ?_
            refine n_iconst (n := 0) (v := 0) (by decide +kernel) rfl ?_
            refine n_iconst (n := 0) (v := 0) (by decide +kernel) rfl ?_
            obtain ⟨⟨v11, M11⟩, h11, hr⟩ := bso hr
            try dsimp only at hr
            refine n_callVi G [_, _, _, _, _, _] (x := v11) (M1 := M11) (B_X10_isWord G hp0 h11) (by decide) mX10_isWord ml_RX10_137 hp0 (by decide +kernel) rfl rfl (Nat.le_of_ble_eq_true rfl) (by decide +kernel) ?_
            refine n_if_eq (off := 7) (tgt := 119) (by decide +kernel) (by decide) (fun hc12 => ?_) (fun hc12 => ?_)
            · rw [if_pos hc12] at hr
              refine n_iconst (n := -1) (v := -1) (by decide +kernel) rfl ?_
              exact B_X10_clause_j120 G hp0 hr
            · rw [if_neg hc12] at hr
              refine n_iconst (n := 5) (v := 5) (by decide +kernel) rfl ?_
              refine n_goto (off := 4) (tgt := 120) (by decide +kernel) (by decide) ?_
              exact B_X10_clause_j120 G hp0 hr
          · rw [if_neg hc10] at hr
            refine n_iconst (n := 4) (v := 4) (by decide +kernel) rfl ?_
            refine n_goto (off := 22) (tgt := 120) (by decide +kernel) (by decide) ?_
            exact B_X10_clause_j120 G hp0 hr
        · rw [if_neg hc8] at hr
          refine n_iconst (n := 3) (v := 3) (by decide +kernel) rfl ?_
          refine n_goto (off := 42) (tgt := 120) (by decide +kernel) (by decide) ?_
          exact B_X10_clause_j120 G hp0 hr
      · rw [if_neg hc6] at hr
        refine n_iconst (n := 2) (v := 2) (by decide +kernel) rfl ?_
        refine n_goto (off := 61) (tgt := 120) (by decide +kernel) (by decide) ?_
        exact B_X10_clause_j120 G hp0 hr
    · rw [if_neg hc4] at hr
      refine n_iconst (n := 1) (v := 1) (by decide +kernel) rfl ?_
      refine n_goto (off := 82) (tgt := 120) (by decide +kernel) (by decide) ?_
      exact B_X10_clause_j120 G hp0 hr
  · rw [if_neg hc2] at hr
    refine n_iconst (n := 0) (v := 0) (by decide +kernel) rfl ?_
    refine n_goto (off := 103) (tgt := 120) (by decide +kernel) (by decide) ?_
    exact B_X10_clause_j120 G hp0 hr
set_option maxRecDepth 100000 in
theorem B_X10_comes (G : GG l s0 b L xs D cy ad)  {a0 : Nat} {x1 : Int32} {x2 : Int32} {x3 : Int32} {M : Mm} {r : Mm} (hp0 : P a0) (hs0 : SH a0 = 12) (hr : f_X10_comes a0 x1 x2 x3 M = some r) : Cl l s0 D cy ad P 9 KX10_comes [.ref a0, .int x1, .int x2, .int x3] M (.inl none) (r) := by
  refine cl_ofN (by decide +kernel) rfl rfl rfl (lo0 := [_, _, _, _, .null]) rfl ?_
  unfold f_X10_comes at hr
  refine n_aload_n (n := 0) (by decide +kernel) rfl ?_
  refine n_sipush (n := 360) (v := 360) (by decide +kernel) (by decide +kernel) ?_
  obtain ⟨v1, h1, hr⟩ := bso hr
  refine n_iald G h1 hp0 hs0 rfl (by decide +kernel) ?_
  refine n_istore (n := 4) (lo2 := [_, _, _, _, _]) (by decide +kernel) (Nat.le_of_ble_eq_true rfl) rfl ?_
  refine n_iload (n := 4) (by decide +kernel) rfl ?_
  refine n_bipush (n := 60) (v := 60) (by decide +kernel) rfl ?_
  refine n_icmp_ne (off := 4) (tgt := 15) (by decide +kernel) (by decide) (fun hc2 => ?_) (fun hc2 => ?_)
  · rw [if_neg hc2] at hr
    refine n_aload_n (n := 0) (by decide +kernel) rfl ?_
    refine n_sipush (n := 360) (v := 360) (by decide +kernel) (by decide +kernel) ?_
    refine n_dup2 rfl rfl (by decide +kernel) ?_
    obtain ⟨v3, h3, hr⟩ := bso hr
    refine n_iald G h3 hp0 hs0 rfl (by decide +kernel) ?_
    refine n_iconst (n := 1) (v := 1) (by decide +kernel) rfl ?_
    refine n_iadd (by decide +kernel) ?_
    obtain ⟨M4, h4, hr⟩ := bso hr
    refine n_iast G h4 hp0 hs0 rfl (by decide +kernel) ?_
    refine n_aload_n (n := 0) (by decide +kernel) rfl ?_
    refine n_bipush (n := 6) (v := 6) (by decide +kernel) rfl ?_
    refine n_iload (n := 4) (by decide +kernel) rfl ?_
    refine n_imul (by decide +kernel) ?_
    refine n_iconst (n := 0) (v := 0) (by decide +kernel) rfl ?_
    refine n_iadd (by decide +kernel) ?_
    refine n_iload_n (n := 1) (by decide +kernel) rfl ?_
    obtain ⟨M5, h5, hr⟩ := bso hr
    refine n_iast G h5 hp0 hs0 rfl (by decide +kernel) ?_
    refine n_aload_n (n := 0) (by decide +kernel) rfl ?_
    refine n_bipush (n := 6) (v := 6) (by decide +kernel) rfl ?_
    refine n_iload (n := 4) (by decide +kernel) rfl ?_
    refine n_imul (by decide +kernel) ?_
    refine n_iconst (n := 1) (v := 1) (by decide +kernel) rfl ?_
    refine n_iadd (by decide +kernel) ?_
    refine n_iload_n (n := 2) (by decide +kernel) rfl ?_
    obtain ⟨M6, h6, hr⟩ := bso hr
    refine n_iast G h6 hp0 hs0 rfl (by decide +kernel) ?_
    refine n_aload_n (n := 0) (by decide +kernel) rfl ?_
    refine n_bipush (n := 6) (v := 6) (by decide +kernel) rfl ?_
    refine n_iload (n := 4) (by decide +kernel) rfl ?_
    refine n_imul (by decide +kernel) ?_
    refine n_iconst (n := 2) (v := 2) (by decide +kernel) rfl ?_
    refine n_iadd (by decide +kernel) ?_
    refine n_iload_n (n := 3) (by decide +kernel) rfl ?_
    obtain ⟨M7, h7, hr⟩ := bso hr
    refine n_iast G h7 hp0 hs0 rfl (by decide +kernel) ?_
    refine n_aload_n (n := 0) (by decide +kernel) rfl ?_
    refine n_bipush (n := 6) (v := 6) (by decide +kernel) rfl ?_
    refine n_iload (n := 4) (by decide +kernel) rfl ?_
    refine n_imul (by decide +kernel) ?_
    refine n_iconst (n := 3) (v := 3) (by decide +kernel) rfl ?_
    refine n_iadd (by decide +kernel) ?_
    refine n_aload_n (n := 0) (by decide +kernel) rfl ?_
    refine n_sipush (n := 363) (v := 363) (by decide +kernel) (by decide +kernel) ?_
    obtain ⟨v8, h8, hr⟩ := bso hr
    refine n_iald G h8 hp0 hs0 rfl (by decide +kernel) ?_
    obtain ⟨M9, h9, hr⟩ := bso hr
    refine n_iast G h9 hp0 hs0 rfl (by decide +kernel) ?_
    refine n_aload_n (n := 0) (by decide +kernel) rfl ?_
    refine n_bipush (n := 6) (v := 6) (by decide +kernel) rfl ?_
    refine n_iload (n := 4) (by decide +kernel) rfl ?_
    refine n_imul (by decide +kernel) ?_
    refine n_iconst (n := 4) (v := 4) (by decide +kernel) rfl ?_
    refine n_iadd (by decide +kernel) ?_
    refine n_iconst (n := 0) (v := 0) (by decide +kernel) rfl ?_
    obtain ⟨M10, h10, hr⟩ := bso hr
    refine n_iast G h10 hp0 hs0 rfl (by decide +kernel) ?_
    refine n_aload_n (n := 0) (by decide +kernel) rfl ?_
    refine n_bipush (n := 6) (v := 6) (by decide +kernel) rfl ?_
    refine n_iload (n := 4) (by decide +kernel) rfl ?_
    refine n_imul (by decide +kernel) ?_
    refine n_iconst (n := 5) (v := 5) (by decide +kernel) rfl ?_
    refine n_iadd (by decide +kernel) ?_
    refine n_iconst (n := -1) (v := -1) (by decide +kernel) rfl ?_
    obtain ⟨M11, h11, hr⟩ := bso hr
    refine n_iast G h11 hp0 hs0 rfl (by decide +kernel) ?_
    cases hr
    exact n_return (by decide +kernel)
  · rw [if_pos hc2] at hr
    cases hr
    exact n_return (by decide +kernel)
abbrev P_X10_stands_b2 (l : Launch) (s0 : State) (D : va_G) (cy : Nat → ClassId) (ad : Nat → Nat) (P : Nat → Prop)   (res : Rs) (M' : Mm) (s : (Int32 × Mm)) : Prop := Rn l s0 D cy ad P 10 KX10_stands 2 [.ref 76, .int (s.1)] [] (s.2) res M'
abbrev Q_X10_stands_b2 (l : Launch) (s0 : State) (D : va_G) (cy : Nat → ClassId) (ad : Nat → Nat) (P : Nat → Prop)   (res : Rs) (M' : Mm) (e : Mm) : Prop := Rn l s0 D cy ad P 10 KX10_stands 26 [.ref 76, .null] [] (e) res M'
set_option maxRecDepth 100000 in
theorem B_X10_stands_b2 (G : GG l s0 b L xs D cy ad)   {res : Rs} {M' : Mm} (hp0 : P 76) : ∀ (s : (Int32 × Mm)) (r : (Int32 × Mm) ⊕ Mm), f_X10_stands_b2  s = some r → mtc (P_X10_stands_b2 l s0 D cy ad P  res M') (Q_X10_stands_b2 l s0 D cy ad P  res M') r → P_X10_stands_b2 l s0 D cy ad P  res M' s := by
  intro s r hr hk
  obtain ⟨x1, M⟩ := s
  unfold f_X10_stands_b2 at hr
  try dsimp only at hr
  dsimp only [P_X10_stands_b2]
  refine n_iload_n (n := 1) (by decide +kernel) rfl ?_
  refine n_bipush (n := 10) (v := 10) (by decide +kernel) rfl ?_
  refine n_icmp_ge (off := 21) (tgt := 26) (by decide +kernel) (by decide) (fun hc1 => ?_) (fun hc1 => ?_)
  · rw [if_pos hc1] at hr
    cases hr
    refine n_msk [true, false] (lo2 := [_, .null]) rfl rfl ?_
    exact hk
  · rw [if_neg hc1] at hr
    refine n_aload_n (n := 0) (by decide +kernel) rfl ?_
    refine n_getF (q := 80) G fl_RX10_23 hp0 (by decide +kernel) (by decide +kernel) (by decide +kernel) (fun hp2q => ?_)
    refine n_iload_n (n := 1) (by decide +kernel) rfl ?_
    refine n_aload_n (n := 0) (by decide +kernel) rfl ?_
    refine n_getF (q := 79) G fl_RX10_20 hp0 (by decide +kernel) (by decide +kernel) (by decide +kernel) (fun hp3q => ?_)
    refine n_iload_n (n := 1) (by decide +kernel) rfl ?_
    obtain ⟨v4, h4, hr⟩ := bso hr
    refine n_iald G h4 hp3q (by decide +kernel) (by decide +kernel) (by decide +kernel) ?_
    obtain ⟨M5, h5, hr⟩ := bso hr
    refine n_iast G h5 hp2q (by decide +kernel) (by decide +kernel) (by decide +kernel) ?_
    refine n_iincK (n := 1) (j := 1) (w := 1) (lo2 := [_, _]) (by decide +kernel) rfl rfl rfl ?_
    refine n_goto (off := -21) (tgt := 2) (by decide +kernel) (by decide) ?_
    cases hr
    exact hk
set_option maxRecDepth 100000 in
theorem W_X10_stands_b2 (G : GG l s0 b L xs D cy ad)   (hp0 : P 76) {s : (Int32 × Mm)} {e : Mm} (h : whl fu (f_X10_stands_b2 ) s = some e) (res : Rs) (M' : Mm) : Q_X10_stands_b2 l s0 D cy ad P  res M' e → P_X10_stands_b2 l s0 D cy ad P  res M' s := whl_run (P := fun s => P_X10_stands_b2 l s0 D cy ad P  res M' s) (Q := fun e => Q_X10_stands_b2 l s0 D cy ad P  res M' e) (B_X10_stands_b2 G (res := res) (M' := M')  hp0) fu s h
abbrev P_X10_stands_b28 (l : Launch) (s0 : State) (D : va_G) (cy : Nat → ClassId) (ad : Nat → Nat) (P : Nat → Prop)   (res : Rs) (M' : Mm) (s : (Int32 × Mm)) : Prop := Rn l s0 D cy ad P 10 KX10_stands 28 [.ref 76, .int (s.1)] [] (s.2) res M'
abbrev Q_X10_stands_b28 (l : Launch) (s0 : State) (D : va_G) (cy : Nat → ClassId) (ad : Nat → Nat) (P : Nat → Prop)   (res : Rs) (M' : Mm) (e : Mm) : Prop := Rn l s0 D cy ad P 10 KX10_stands 52 [.ref 76, .null] [] (e) res M'
set_option maxRecDepth 100000 in
theorem B_X10_stands_b28 (G : GG l s0 b L xs D cy ad)   {res : Rs} {M' : Mm} (hp0 : P 76) : ∀ (s : (Int32 × Mm)) (r : (Int32 × Mm) ⊕ Mm), f_X10_stands_b28  s = some r → mtc (P_X10_stands_b28 l s0 D cy ad P  res M') (Q_X10_stands_b28 l s0 D cy ad P  res M') r → P_X10_stands_b28 l s0 D cy ad P  res M' s := by
  intro s r hr hk
  obtain ⟨x1, M⟩ := s
  unfold f_X10_stands_b28 at hr
  try dsimp only at hr
  dsimp only [P_X10_stands_b28]
  refine n_iload_n (n := 1) (by decide +kernel) rfl ?_
  refine n_bipush (n := 48) (v := 48) (by decide +kernel) rfl ?_
  refine n_icmp_ge (off := 21) (tgt := 52) (by decide +kernel) (by decide) (fun hc7 => ?_) (fun hc7 => ?_)
  · rw [if_pos hc7] at hr
    cases hr
    refine n_msk [true, false] (lo2 := [_, .null]) rfl rfl ?_
    exact hk
  · rw [if_neg hc7] at hr
    refine n_aload_n (n := 0) (by decide +kernel) rfl ?_
    refine n_getF (q := 82) G fl_RX10_29 hp0 (by decide +kernel) (by decide +kernel) (by decide +kernel) (fun hp8q => ?_)
    refine n_iload_n (n := 1) (by decide +kernel) rfl ?_
    refine n_aload_n (n := 0) (by decide +kernel) rfl ?_
    refine n_getF (q := 81) G fl_RX10_26 hp0 (by decide +kernel) (by decide +kernel) (by decide +kernel) (fun hp9q => ?_)
    refine n_iload_n (n := 1) (by decide +kernel) rfl ?_
    obtain ⟨v10, h10, hr⟩ := bso hr
    refine n_iald G h10 hp9q (by decide +kernel) (by decide +kernel) (by decide +kernel) ?_
    obtain ⟨M11, h11, hr⟩ := bso hr
    refine n_iast G h11 hp8q (by decide +kernel) (by decide +kernel) (by decide +kernel) ?_
    refine n_iincK (n := 1) (j := 1) (w := 1) (lo2 := [_, _]) (by decide +kernel) rfl rfl rfl ?_
    refine n_goto (off := -21) (tgt := 28) (by decide +kernel) (by decide) ?_
    cases hr
    exact hk
set_option maxRecDepth 100000 in
theorem W_X10_stands_b28 (G : GG l s0 b L xs D cy ad)   (hp0 : P 76) {s : (Int32 × Mm)} {e : Mm} (h : whl fu (f_X10_stands_b28 ) s = some e) (res : Rs) (M' : Mm) : Q_X10_stands_b28 l s0 D cy ad P  res M' e → P_X10_stands_b28 l s0 D cy ad P  res M' s := whl_run (P := fun s => P_X10_stands_b28 l s0 D cy ad P  res M' s) (Q := fun e => Q_X10_stands_b28 l s0 D cy ad P  res M' e) (B_X10_stands_b28 G (res := res) (M' := M')  hp0) fu s h
abbrev P_X10_stands_b54 (l : Launch) (s0 : State) (D : va_G) (cy : Nat → ClassId) (ad : Nat → Nat) (P : Nat → Prop)   (res : Rs) (M' : Mm) (s : (Int32 × Mm)) : Prop := Rn l s0 D cy ad P 10 KX10_stands 54 [.ref 76, .int (s.1)] [] (s.2) res M'
abbrev Q_X10_stands_b54 (l : Launch) (s0 : State) (D : va_G) (cy : Nat → ClassId) (ad : Nat → Nat) (P : Nat → Prop)   (res : Rs) (M' : Mm) (e : Mm) : Prop := Rn l s0 D cy ad P 10 KX10_stands 74 [.ref 76, .null] [] (e) res M'
set_option maxRecDepth 100000 in
theorem B_X10_stands_b54 (G : GG l s0 b L xs D cy ad)   {res : Rs} {M' : Mm} (hp0 : P 76) : ∀ (s : (Int32 × Mm)) (r : (Int32 × Mm) ⊕ Mm), f_X10_stands_b54  s = some r → mtc (P_X10_stands_b54 l s0 D cy ad P  res M') (Q_X10_stands_b54 l s0 D cy ad P  res M') r → P_X10_stands_b54 l s0 D cy ad P  res M' s := by
  intro s r hr hk
  obtain ⟨x1, M⟩ := s
  unfold f_X10_stands_b54 at hr
  try dsimp only at hr
  dsimp only [P_X10_stands_b54]
  refine n_iload_n (n := 1) (by decide +kernel) rfl ?_
  refine n_sipush (n := 415) (v := 415) (by decide +kernel) (by decide +kernel) ?_
  refine n_icmp_ge (off := 16) (tgt := 74) (by decide +kernel) (by decide) (fun hc13 => ?_) (fun hc13 => ?_)
  · rw [if_pos hc13] at hr
    cases hr
    refine n_msk [true, false] (lo2 := [_, .null]) rfl rfl ?_
    exact hk
  · rw [if_neg hc13] at hr
    refine n_aload_n (n := 0) (by decide +kernel) rfl ?_
    refine n_getF (q := 196) G fl_RX10_61 hp0 (by decide +kernel) (by decide +kernel) (by decide +kernel) (fun hp14q => ?_)
    refine n_iload_n (n := 1) (by decide +kernel) rfl ?_
    refine n_iconst (n := 0) (v := 0) (by decide +kernel) rfl ?_
    obtain ⟨M15, h15, hr⟩ := bso hr
    refine n_iast G h15 hp14q (by decide +kernel) (by decide +kernel) (by decide +kernel) ?_
    refine n_iincK (n := 1) (j := 1) (w := 1) (lo2 := [_, _]) (by decide +kernel) rfl rfl rfl ?_
    refine n_goto (off := -17) (tgt := 54) (by decide +kernel) (by decide) ?_
    cases hr
    exact hk
set_option maxRecDepth 100000 in
theorem W_X10_stands_b54 (G : GG l s0 b L xs D cy ad)   (hp0 : P 76) {s : (Int32 × Mm)} {e : Mm} (h : whl fu (f_X10_stands_b54 ) s = some e) (res : Rs) (M' : Mm) : Q_X10_stands_b54 l s0 D cy ad P  res M' e → P_X10_stands_b54 l s0 D cy ad P  res M' s := whl_run (P := fun s => P_X10_stands_b54 l s0 D cy ad P  res M' s) (Q := fun e => Q_X10_stands_b54 l s0 D cy ad P  res M' e) (B_X10_stands_b54 G (res := res) (M' := M')  hp0) fu s h
abbrev P_X10_stands_b76 (l : Launch) (s0 : State) (D : va_G) (cy : Nat → ClassId) (ad : Nat → Nat) (P : Nat → Prop)   (res : Rs) (M' : Mm) (s : (Int32 × Mm)) : Prop := Rn l s0 D cy ad P 10 KX10_stands 76 [.ref 76, .int (s.1)] [] (s.2) res M'
abbrev Q_X10_stands_b76 (l : Launch) (s0 : State) (D : va_G) (cy : Nat → ClassId) (ad : Nat → Nat) (P : Nat → Prop)   (res : Rs) (M' : Mm) (e : Mm) : Prop := Rn l s0 D cy ad P 10 KX10_stands 123 [.ref 76, .null] [] (e) res M'
set_option maxRecDepth 100000 in
theorem B_X10_stands_b76 (G : GG l s0 b L xs D cy ad)   {res : Rs} {M' : Mm} (hp0 : P 76) : ∀ (s : (Int32 × Mm)) (r : (Int32 × Mm) ⊕ Mm), f_X10_stands_b76  s = some r → mtc (P_X10_stands_b76 l s0 D cy ad P  res M') (Q_X10_stands_b76 l s0 D cy ad P  res M') r → P_X10_stands_b76 l s0 D cy ad P  res M' s := by
  intro s r hr hk
  obtain ⟨x1, M⟩ := s
  unfold f_X10_stands_b76 at hr
  try dsimp only at hr
  dsimp only [P_X10_stands_b76]
  refine n_iload_n (n := 1) (by decide +kernel) rfl ?_
  refine n_aload_n (n := 0) (by decide +kernel) rfl ?_
  refine n_getF (q := 80) G fl_RX10_23 hp0 (by decide +kernel) (by decide +kernel) (by decide +kernel) (fun hp17q => ?_)
  refine n_iconst (n := 2) (v := 2) (by decide +kernel) rfl ?_
  obtain ⟨v18, h18, hr⟩ := bso hr
  refine n_iald G h18 hp17q (by decide +kernel) (by decide +kernel) (by decide +kernel) ?_
  refine n_icmp_ge (off := 40) (tgt := 123) (by decide +kernel) (by decide) (fun hc19 => ?_) (fun hc19 => ?_)
  · rw [if_pos hc19] at hr
    cases hr
    refine n_msk [true, false] (lo2 := [_, .null]) rfl rfl ?_
    exact hk
  · rw [if_neg hc19] at hr
    refine n_aload_n (n := 0) (by decide +kernel) rfl ?_
    refine n_getF (q := 196) G fl_RX10_61 hp0 (by decide +kernel) (by decide +kernel) (by decide +kernel) (fun hp20q => ?_)
    refine n_aload_n (n := 0) (by decide +kernel) rfl ?_
    refine n_getF (q := 83) G fl_RX10_34 hp0 (by decide +kernel) (by decide +kernel) (by decide +kernel) (fun hp21q => ?_)
    refine n_iload_n (n := 1) (by decide +kernel) rfl ?_
    obtain ⟨q22, h22, hr⟩ := bso hr
    refine n_aald G h22 hp21q (by decide +kernel) (by decide +kernel) (by decide +kernel) (fun hp22q => ?_)
    refine n_iconst (n := 0) (v := 0) (by decide +kernel) rfl ?_
    obtain ⟨v23, h23, hr⟩ := bso hr
    refine n_iald G h23 hp22q (row_83 h22).1 (row_83 h22).2 (by decide +kernel) ?_
    refine n_aload_n (n := 0) (by decide +kernel) rfl ?_
    refine n_getF (q := 83) G fl_RX10_34 hp0 (by decide +kernel) (by decide +kernel) (by decide +kernel) (fun hp24q => ?_)
    refine n_iload_n (n := 1) (by decide +kernel) rfl ?_
    obtain ⟨q25, h25, hr⟩ := bso hr
    refine n_aald G h25 hp24q (by decide +kernel) (by decide +kernel) (by decide +kernel) (fun hp25q => ?_)
    refine n_iconst (n := 1) (v := 1) (by decide +kernel) rfl ?_
    obtain ⟨v26, h26, hr⟩ := bso hr
    refine n_iald G h26 hp25q (row_83 h25).1 (row_83 h25).2 (by decide +kernel) ?_
    refine n_aload_n (n := 0) (by decide +kernel) rfl ?_
    refine n_getF (q := 83) G fl_RX10_34 hp0 (by decide +kernel) (by decide +kernel) (by decide +kernel) (fun hp27q => ?_)
    refine n_iload_n (n := 1) (by decide +kernel) rfl ?_
    obtain ⟨q28, h28, hr⟩ := bso hr
    refine n_aald G h28 hp27q (by decide +kernel) (by decide +kernel) (by decide +kernel) (fun hp28q => ?_)
    refine n_iconst (n := 2) (v := 2) (by decide +kernel) rfl ?_
    obtain ⟨v29, h29, hr⟩ := bso hr
    refine n_iald G h29 hp28q (row_83 h28).1 (row_83 h28).2 (by decide +kernel) ?_
    obtain ⟨M30, h30, hr⟩ := bso hr
    refine n_callSv G [_, _, _, _] (M1 := M30) (B_X10_comes G hp20q (by decide +kernel) h30) (by decide) mX10_comes ml_RX10_174 rfl rfl (Nat.le_of_ble_eq_true rfl) (by decide +kernel) ?_
    refine n_iincK (n := 1) (j := 1) (w := 1) (lo2 := [_, _]) (by decide +kernel) rfl rfl rfl ?_
    refine n_goto (off := -44) (tgt := 76) (by decide +kernel) (by decide) ?_
    cases hr
    exact hk
set_option maxRecDepth 100000 in
theorem W_X10_stands_b76 (G : GG l s0 b L xs D cy ad)   (hp0 : P 76) {s : (Int32 × Mm)} {e : Mm} (h : whl fu (f_X10_stands_b76 ) s = some e) (res : Rs) (M' : Mm) : Q_X10_stands_b76 l s0 D cy ad P  res M' e → P_X10_stands_b76 l s0 D cy ad P  res M' s := whl_run (P := fun s => P_X10_stands_b76 l s0 D cy ad P  res M' s) (Q := fun e => Q_X10_stands_b76 l s0 D cy ad P  res M' e) (B_X10_stands_b76 G (res := res) (M' := M')  hp0) fu s h
set_option maxRecDepth 100000 in
theorem B_X10_stands (G : GG l s0 b L xs D cy ad)   {M : Mm} {r : Mm} (hp0 : P 76) (hr : f_X10_stands  M = some r) : Cl l s0 D cy ad P 10 KX10_stands [.ref 76] M (.inl none) (r) := by
  refine cl_ofN (by decide +kernel) rfl rfl rfl (lo0 := [_, .null]) rfl ?_
  unfold f_X10_stands at hr
  refine n_iconst (n := 0) (v := 0) (by decide +kernel) rfl ?_
  refine n_istore_n (n := 1) (lo2 := [_, _]) (by decide +kernel) (Nat.le_of_ble_eq_true rfl) rfl ?_
  obtain ⟨M6, h6, hr⟩ := bso hr
  refine (W_X10_stands_b2 G hp0 h6 _ _) ?_
  dsimp only [Q_X10_stands_b2]
  refine n_iconst (n := 0) (v := 0) (by decide +kernel) rfl ?_
  refine n_istore_n (n := 1) (lo2 := [_, _]) (by decide +kernel) (Nat.le_of_ble_eq_true rfl) rfl ?_
  obtain ⟨M12, h12, hr⟩ := bso hr
  refine (W_X10_stands_b28 G hp0 h12 _ _) ?_
  dsimp only [Q_X10_stands_b28]
  refine n_iconst (n := 0) (v := 0) (by decide +kernel) rfl ?_
  refine n_istore_n (n := 1) (lo2 := [_, _]) (by decide +kernel) (Nat.le_of_ble_eq_true rfl) rfl ?_
  obtain ⟨M16, h16, hr⟩ := bso hr
  refine (W_X10_stands_b54 G hp0 h16 _ _) ?_
  dsimp only [Q_X10_stands_b54]
  refine n_iconst (n := 0) (v := 0) (by decide +kernel) rfl ?_
  refine n_istore_n (n := 1) (lo2 := [_, _]) (by decide +kernel) (Nat.le_of_ble_eq_true rfl) rfl ?_
  obtain ⟨M31, h31, hr⟩ := bso hr
  refine (W_X10_stands_b76 G hp0 h31 _ _) ?_
  dsimp only [Q_X10_stands_b76]
  refine n_aload_n (n := 0) (by decide +kernel) rfl ?_
  refine n_getF (q := 114) G fl_RX10_37 hp0 (by decide +kernel) (by decide +kernel) (by decide +kernel) (fun hp32q => ?_)
  refine n_iconst (n := 0) (v := 0) (by decide +kernel) rfl ?_
  refine n_iconst (n := 0) (v := 0) (by decide +kernel) rfl ?_
  obtain ⟨M33, h33, hr⟩ := bso hr
  refine n_iast G h33 hp32q (by decide +kernel) (by decide +kernel) (by decide +kernel) ?_
  refine n_aload_n (n := 0) (by decide +kernel) rfl ?_
  refine n_getF (q := 114) G fl_RX10_37 hp0 (by decide +kernel) (by decide +kernel) (by decide +kernel) (fun hp34q => ?_)
  refine n_iconst (n := 1) (v := 1) (by decide +kernel) rfl ?_
  refine n_iconst (n := 0) (v := 0) (by decide +kernel) rfl ?_
  obtain ⟨M35, h35, hr⟩ := bso hr
  refine n_iast G h35 hp34q (by decide +kernel) (by decide +kernel) (by decide +kernel) ?_
  refine n_aload_n (n := 0) (by decide +kernel) rfl ?_
  refine n_iconst (n := 0) (v := 0) (by decide +kernel) rfl ?_
  refine n_putI G fl_RX10_178 hp0 (by decide +kernel) (by decide +kernel) ?_
  refine n_aload_n (n := 0) (by decide +kernel) rfl ?_
  refine n_iconst (n := 0) (v := 0) (by decide +kernel) rfl ?_
  refine n_putI G fl_RX10_181 hp0 (by decide +kernel) (by decide +kernel) ?_
  refine n_aload_n (n := 0) (by decide +kernel) rfl ?_
  refine n_iconst (n := 0) (v := 0) (by decide +kernel) rfl ?_
  refine n_putI G fl_RX10_184 hp0 (by decide +kernel) (by decide +kernel) ?_
  refine n_aload_n (n := 0) (by decide +kernel) rfl ?_
  refine n_iconst (n := 0) (v := 0) (by decide +kernel) rfl ?_
  refine n_putI G fl_RX10_187 hp0 (by decide +kernel) (by decide +kernel) ?_
  cases hr
  exact n_return (by decide +kernel)
abbrev P_X10_field_b42 (l : Launch) (s0 : State) (D : va_G) (cy : Nat → ClassId) (ad : Nat → Nat) (P : Nat → Prop)   (res : Rs) (M' : Mm) (s : Mm) : Prop := Rn l s0 D cy ad P 14 KX10_field 42 [.ref 76, .null] [] (s) res M'
abbrev Q_X10_field_b42 (l : Launch) (s0 : State) (D : va_G) (cy : Nat → ClassId) (ad : Nat → Nat) (P : Nat → Prop)   (res : Rs) (M' : Mm) (e : Mm) : Prop := Rn l s0 D cy ad P 14 KX10_field 71 [.ref 76, .null] [] (e) res M'
set_option maxRecDepth 100000 in
theorem B_X10_field_b42 (G : GG l s0 b L xs D cy ad)   {res : Rs} {M' : Mm} (hp0 : P 76) : ∀ (s : Mm) (r : Mm ⊕ Mm), f_X10_field_b42  s = some r → mtc (P_X10_field_b42 l s0 D cy ad P  res M') (Q_X10_field_b42 l s0 D cy ad P  res M') r → P_X10_field_b42 l s0 D cy ad P  res M' s := by
  intro M r hr hk
  unfold f_X10_field_b42 at hr
  try dsimp only at hr
  dsimp only [P_X10_field_b42]
  refine n_aload_n (n := 0) (by decide +kernel) rfl ?_
  refine n_getI G fl_RX10_104 hp0 (by decide +kernel) (by decide +kernel) ?_
  refine n_if_ne (off := 25) (tgt := 71) (by decide +kernel) (by decide) (fun hc7 => ?_) (fun hc7 => ?_)
  · rw [if_neg hc7] at hr
    cases hr
    exact hk
  · rw [if_pos hc7] at hr
    refine n_aload_n (n := 0) (by decide +kernel) rfl ?_
    refine n_getI G fl_RX10_97 hp0 (by decide +kernel) (by decide +kernel) ?_
    refine n_aload_n (n := 0) (by decide +kernel) rfl ?_
    refine n_getI G fl_RX10_94 hp0 (by decide +kernel) (by decide +kernel) ?_
    refine n_icmp_ge (off := 14) (tgt := 71) (by decide +kernel) (by decide) (fun hc8 => ?_) (fun hc8 => ?_)
    · rw [if_pos hc8] at hr
      cases hr
      exact hk
    · rw [if_neg hc8] at hr
      refine n_aload_n (n := 0) (by decide +kernel) rfl ?_
      obtain ⟨M9, h9, hr⟩ := bso hr
      refine n_callVv G [] (M1 := M9) (B_X10_clause G hp0 h9) (by decide) mX10_clause ml_RX10_168 hp0 (by decide +kernel) rfl rfl (Nat.le_of_ble_eq_true rfl) (by decide +kernel) ?_
      refine n_aload_n (n := 0) (by decide +kernel) rfl ?_
      obtain ⟨M10, h10, hr⟩ := bso hr
      refine n_callVv G [] (M1 := M10) (B_X10_blanks G hp0 h10) (by decide) mX10_blanks ml_RX10_110 hp0 (by decide +kernel) rfl rfl (Nat.le_of_ble_eq_true rfl) (by decide +kernel) ?_
      refine n_goto (off := -26) (tgt := 42) (by decide +kernel) (by decide) ?_
      cases hr
      exact hk
set_option maxRecDepth 100000 in
theorem W_X10_field_b42 (G : GG l s0 b L xs D cy ad)   (hp0 : P 76) {s : Mm} {e : Mm} (h : whl fu (f_X10_field_b42 ) s = some e) (res : Rs) (M' : Mm) : Q_X10_field_b42 l s0 D cy ad P  res M' e → P_X10_field_b42 l s0 D cy ad P  res M' s := whl_run (P := fun s => P_X10_field_b42 l s0 D cy ad P  res M' s) (Q := fun e => Q_X10_field_b42 l s0 D cy ad P  res M' e) (B_X10_field_b42 G (res := res) (M' := M')  hp0) fu s h
set_option maxRecDepth 100000 in
theorem B_X10_field_j71 (G : GG l s0 b L xs D cy ad)  {M : Mm} {r : (Int32 × Mm)} (hp0 : P 76) (hr : f_X10_field_j71  M = some r) : Rn l s0 D cy ad P 14 KX10_field 71 [.ref 76, .null] [] M (.inl (some (.int r.1))) (r.2) := by
  unfold f_X10_field_j71 at hr
  refine n_aload_n (n := 0) (by decide +kernel) rfl ?_
  refine n_getI G fl_RX10_104 hp0 (by decide +kernel) (by decide +kernel) ?_
  refine n_if_eq (off := 8) (tgt := 83) (by decide +kernel) (by decide) (fun hc12 => ?_) (fun hc12 => ?_)
  · rw [if_pos hc12] at hr
    refine n_aload_n (n := 0) (by decide +kernel) rfl ?_
    refine n_iconst (n := -1) (v := -1) (by decide +kernel) rfl ?_
    refine n_putI G fl_RX10_9 hp0 (by decide +kernel) (by decide +kernel) ?_
    refine n_aload_n (n := 0) (by decide +kernel) rfl ?_
    obtain ⟨M13, h13, hr⟩ := bso hr
    refine n_callVv G [] (M1 := M13) (B_X10_stands G hp0 h13) (by decide) mX10_stands ml_RX10_85 hp0 (by decide +kernel) rfl rfl (Nat.le_of_ble_eq_true rfl) (by decide +kernel) ?_
    refine n_aload_n (n := 0) (by decide +kernel) rfl ?_
    refine n_getF (q := 80) G fl_RX10_23 hp0 (by decide +kernel) (by decide +kernel) (by decide +kernel) (fun hp14q => ?_)
    refine n_iconst (n := 2) (v := 2) (by decide +kernel) rfl ?_
    obtain ⟨v15, h15, hr⟩ := bso hr
    refine n_iald G h15 hp14q (by decide +kernel) (by decide +kernel) (by decide +kernel) ?_
    cases hr
    exact n_ireturn (by decide +kernel)
  · rw [if_neg hc12] at hr
    refine n_aload_n (n := 0) (by decide +kernel) rfl ?_
    obtain ⟨⟨v16, M16⟩, h16, hr⟩ := bso hr
    try dsimp only at hr
    refine n_callVi G [] (x := v16) (M1 := M16) (B_X10_ends G hp0 h16) (by decide) mX10_ends ml_RX10_171 hp0 (by decide +kernel) rfl rfl (Nat.le_of_ble_eq_true rfl) (by decide +kernel) ?_
    cases hr
    exact n_ireturn (by decide +kernel)
set_option maxRecDepth 100000 in
theorem B_X10_field (G : GG l s0 b L xs D cy ad)  {x1 : Int32} {M : Mm} {r : (Int32 × Mm)} (hp0 : P 76) (hr : f_X10_field x1 M = some r) : Cl l s0 D cy ad P 14 KX10_field [.ref 76, .int x1] M (.inl (some (.int r.1))) (r.2) := by
  refine cl_ofN (by decide +kernel) rfl rfl okI (lo0 := [_, _]) rfl ?_
  unfold f_X10_field at hr
  refine n_aload_n (n := 0) (by decide +kernel) rfl ?_
  refine n_iconst (n := 0) (v := 0) (by decide +kernel) rfl ?_
  refine n_putI G fl_RX10_88 hp0 (by decide +kernel) (by decide +kernel) ?_
  refine n_aload_n (n := 0) (by decide +kernel) rfl ?_
  refine n_iload_n (n := 1) (by decide +kernel) rfl ?_
  refine n_iconst (n := 0) (v := 0) (by decide +kernel) rfl ?_
  refine n_aload_n (n := 0) (by decide +kernel) rfl ?_
  refine n_getI G fl_RX10_91 hp0 (by decide +kernel) (by decide +kernel) ?_
  obtain ⟨v1, h1, hr⟩ := bso hr
  refine n_callSi G [_, _, _] (x := v1) (B_X10_in G  h1) (by decide) mX10_in ml_RX10_122 rfl rfl (Nat.le_of_ble_eq_true rfl) (by decide +kernel) ?_
  refine n_dia1 (J := 23) (c := v1 = 0) (a := (1 : Int32)) (b := (0 : Int32)) (fun hJ => ?_) ?_
  · refine n_if_ne (off := 7) (tgt := 22) (by decide +kernel) (by decide) (fun hc2 => ?_) (fun hc2 => ?_)
    · refine n_iconst (n := 0) (v := 0) (by decide +kernel) rfl ?_
      exact hJ _ (if_neg hc2).symm
    · refine n_iconst (n := 1) (v := 1) (by decide +kernel) rfl ?_
      refine n_goto (off := 4) (tgt := 23) (by decide +kernel) (by decide) ?_
      exact hJ _ (if_pos hc2).symm
  refine n_iconst (n := 1) (v := 1) (by decide +kernel) rfl ?_
  refine n_iconst (n := 2) (v := 2) (by decide +kernel) rfl ?_
  obtain ⟨⟨v3, M3⟩, h3, hr⟩ := bso hr
  try dsimp only at hr
  refine n_callVi G [_, _, _] (x := v3) (M1 := M3) (B_X10_bad G hp0 h3) (by decide) mX10_bad ml_RX10_161 hp0 (by decide +kernel) rfl rfl (Nat.le_of_ble_eq_true rfl) (by decide +kernel) ?_
  refine n_if_eq (off := 5) (tgt := 33) (by decide +kernel) (by decide) (fun hc4 => ?_) (fun hc4 => ?_)
  · rw [if_pos hc4] at hr
    refine n_aload_n (n := 0) (by decide +kernel) rfl ?_
    refine n_iload_n (n := 1) (by decide +kernel) rfl ?_
    obtain ⟨M5, h5, hr⟩ := bso hr
    refine n_callVv G [_] (M1 := M5) (B_X10_starts G hp0 h5) (by decide) mX10_starts ml_RX10_165 hp0 (by decide +kernel) rfl rfl (Nat.le_of_ble_eq_true rfl) (by decide +kernel) ?_
    refine n_aload_n (n := 0) (by decide +kernel) rfl ?_
    obtain ⟨M6, h6, hr⟩ := bso hr
    refine n_callVv G [] (M1 := M6) (B_X10_tellsNothing G hp0 h6) (by decide) mX10_tellsNothing ml_RX10_82 hp0 (by decide +kernel) rfl rfl (Nat.le_of_ble_eq_true rfl) (by decide +kernel) ?_
    obtain ⟨M11, h11, hr⟩ := bso hr
    refine n_msk [true, false] (lo2 := [_, .null]) rfl rfl ?_
    refine (W_X10_field_b42 G hp0 h11 _ _) ?_
    dsimp only [Q_X10_field_b42]
    exact B_X10_field_j71 G hp0 hr
  · rw [if_neg hc4] at hr
    refine n_iconst (n := 0) (v := 0) (by decide +kernel) rfl ?_
    cases hr
    exact n_ireturn (by decide +kernel)
set_option maxRecDepth 100000 in
theorem B_X10_notes (G : GG l s0 b L xs D cy ad)  {x1 : Int32} {x2 : Int32} {M : Mm} {r : Mm} (hp0 : P 76) (hr : f_X10_notes x1 x2 M = some r) : Cl l s0 D cy ad P 9 KX10_notes [.ref 76, .int x1, .int x2] M (.inl none) (r) := by
  refine cl_ofN (by decide +kernel) rfl rfl rfl (lo0 := [_, _, _]) rfl ?_
  unfold f_X10_notes at hr
  refine n_aload_n (n := 0) (by decide +kernel) rfl ?_
  refine n_getI G fl_RX10_104 hp0 (by decide +kernel) (by decide +kernel) ?_
  refine n_if_eq (off := 4) (tgt := 8) (by decide +kernel) (by decide) (fun hc1 => ?_) (fun hc1 => ?_)
  · rw [if_pos hc1] at hr
    refine n_aload_n (n := 0) (by decide +kernel) rfl ?_
    refine n_getF (q := 134) G fl_RX10_55 hp0 (by decide +kernel) (by decide +kernel) (by decide +kernel) (fun hp2q => ?_)
    refine n_iconst (n := 2) (v := 2) (by decide +kernel) rfl ?_
    refine n_aload_n (n := 0) (by decide +kernel) rfl ?_
    refine n_getI G fl_RX10_190 hp0 (by decide +kernel) (by decide +kernel) ?_
    refine n_imul (by decide +kernel) ?_
    refine n_iload_n (n := 1) (by decide +kernel) rfl ?_
    obtain ⟨M3, h3, hr⟩ := bso hr
    refine n_iast G h3 hp2q (by decide +kernel) (by decide +kernel) (by decide +kernel) ?_
    refine n_aload_n (n := 0) (by decide +kernel) rfl ?_
    refine n_getF (q := 134) G fl_RX10_55 hp0 (by decide +kernel) (by decide +kernel) (by decide +kernel) (fun hp4q => ?_)
    refine n_iconst (n := 2) (v := 2) (by decide +kernel) rfl ?_
    refine n_aload_n (n := 0) (by decide +kernel) rfl ?_
    refine n_getI G fl_RX10_190 hp0 (by decide +kernel) (by decide +kernel) ?_
    refine n_imul (by decide +kernel) ?_
    refine n_iconst (n := 1) (v := 1) (by decide +kernel) rfl ?_
    refine n_iadd (by decide +kernel) ?_
    refine n_iload_n (n := 2) (by decide +kernel) rfl ?_
    obtain ⟨M5, h5, hr⟩ := bso hr
    refine n_iast G h5 hp4q (by decide +kernel) (by decide +kernel) (by decide +kernel) ?_
    refine n_aload_n (n := 0) (by decide +kernel) rfl ?_
    refine n_dup rfl (by decide +kernel) ?_
    refine n_getI G fl_RX10_190 hp0 (by decide +kernel) (by decide +kernel) ?_
    refine n_iconst (n := 1) (v := 1) (by decide +kernel) rfl ?_
    refine n_iadd (by decide +kernel) ?_
    refine n_putI G fl_RX10_190 hp0 (by decide +kernel) (by decide +kernel) ?_
    cases hr
    exact n_return (by decide +kernel)
  · rw [if_neg hc1] at hr
    cases hr
    exact n_return (by decide +kernel)
set_option maxRecDepth 100000 in
theorem B_X10_opens_j45 (G : GG l s0 b L xs D cy ad)  {M : Mm} {r : (Int32 × Mm)} (hp0 : P 76) (hr : f_X10_opens_j45  M = some r) : Rn l s0 D cy ad P 10 KX10_opens 45 [.ref 76] [] M (.inl (some (.int r.1))) (r.2) := by
  unfold f_X10_opens_j45 at hr
  refine n_aload_n (n := 0) (by decide +kernel) rfl ?_
  refine n_getI G fl_RX10_104 hp0 (by decide +kernel) (by decide +kernel) ?_
  refine n_dia1 (J := 57) (c := (mi M 76 5) = 0) (a := (1 : Int32)) (b := (0 : Int32)) (fun hJ => ?_) ?_
  · refine n_if_ne (off := 7) (tgt := 56) (by decide +kernel) (by decide) (fun hc3 => ?_) (fun hc3 => ?_)
    · refine n_iconst (n := 0) (v := 0) (by decide +kernel) rfl ?_
      exact hJ _ (if_neg hc3).symm
    · refine n_iconst (n := 1) (v := 1) (by decide +kernel) rfl ?_
      refine n_goto (off := 4) (tgt := 57) (by decide +kernel) (by decide) ?_
      exact hJ _ (if_pos hc3).symm
  cases hr
  exact n_ireturn (by decide +kernel)
set_option maxRecDepth 100000 in
theorem B_X10_opens_j28 (G : GG l s0 b L xs D cy ad)  {M : Mm} {r : (Int32 × Mm)} (hp0 : P 76) (hr : f_X10_opens_j28  M = some r) : Rn l s0 D cy ad P 10 KX10_opens 28 [.ref 76] [] M (.inl (some (.int r.1))) (r.2) := by
  unfold f_X10_opens_j28 at hr
  refine n_aload_n (n := 0) (by decide +kernel) rfl ?_
  refine n_getI G fl_RX10_104 hp0 (by decide +kernel) (by decide +kernel) ?_
  refine n_if_ne (off := 13) (tgt := 45) (by decide +kernel) (by decide) (fun hc2 => ?_) (fun hc2 => ?_)
  · rw [if_neg hc2] at hr
    exact B_X10_opens_j45 G hp0 hr
  · rw [if_pos hc2] at hr
    refine n_aload_n (n := 0) (by decide +kernel) rfl ?_
    refine n_dup rfl (by decide +kernel) ?_
    refine n_getI G fl_RX10_147 hp0 (by decide +kernel) (by decide +kernel) ?_
    refine n_iconst (n := 1) (v := 1) (by decide +kernel) rfl ?_
    refine n_iadd (by decide +kernel) ?_
    refine n_putI G fl_RX10_147 hp0 (by decide +kernel) (by decide +kernel) ?_
    exact B_X10_opens_j45 G hp0 hr
set_option maxRecDepth 100000 in
theorem B_X10_opens (G : GG l s0 b L xs D cy ad)   {M : Mm} {r : (Int32 × Mm)} (hp0 : P 76) (hr : f_X10_opens  M = some r) : Cl l s0 D cy ad P 10 KX10_opens [.ref 76] M (.inl (some (.int r.1))) (r.2) := by
  unfold f_X10_opens at hr
  obtain ⟨⟨v0, M0⟩, h0, h1⟩ := bso hr
  clear hr
  obtain ⟨v1, h2, h3⟩ := bso h1
  obtain ⟨hb, rfl⟩ := rB_in h2
  cases h3
  have hr := h0
  clear h0
  refine cl_ofN (by decide +kernel) rfl rfl (okB hb) (lo0 := [_]) rfl ?_
  unfold g_X10_opens at hr
  refine n_aload_n (n := 0) (by decide +kernel) rfl ?_
  refine n_getI G fl_RX10_104 hp0 (by decide +kernel) (by decide +kernel) ?_
  refine n_if_ne (off := 24) (tgt := 28) (by decide +kernel) (by decide) (fun hc1 => ?_) (fun hc1 => ?_)
  · rw [if_neg hc1] at hr
    exact B_X10_opens_j28 G hp0 hr
  · rw [if_pos hc1] at hr
    refine n_aload_n (n := 0) (by decide +kernel) rfl ?_
    refine n_getI G fl_RX10_147 hp0 (by decide +kernel) (by decide +kernel) ?_
    refine n_bipush (n := 6) (v := 6) (by decide +kernel) rfl ?_
    refine n_icmp_ne (off := 15) (tgt := 28) (by decide +kernel) (by decide) (fun hc4 => ?_) (fun hc4 => ?_)
    · rw [if_neg hc4] at hr
      exact B_X10_opens_j28 G hp0 hr
    · rw [if_pos hc4] at hr
      refine n_aload_n (n := 0) (by decide +kernel) rfl ?_
      refine n_iconst (n := 3) (v := 3) (by decide +kernel) rfl ?_
      refine n_aload_n (n := 0) (by decide +kernel) rfl ?_
      refine n_getI G fl_RX10_97 hp0 (by decide +kernel) (by decide +kernel) ?_
      obtain ⟨M5, h5, hr⟩ := bso hr
      refine n_callVv G [_, _] (M1 := M5) (B_X10_wrong G hp0 h5) (by decide) mX10_wrong ml_RX10_117 hp0 (by decide +kernel) rfl rfl (Nat.le_of_ble_eq_true rfl) (by decide +kernel) ?_
      refine n_goto (off := 20) (tgt := 45) (by decide +kernel) (by decide) ?_
      exact B_X10_opens_j45 G hp0 hr
set_option maxRecDepth 100000 in
theorem B_X10_knownHere (G : GG l s0 b L xs D cy ad)   {M : Mm} {r : (Int32 × Mm)} (hp0 : P 76) (hr : f_X10_knownHere  M = some r) : Cl l s0 D cy ad P 14 KX10_knownHere [.ref 76] M (.inl (some (.int r.1))) (r.2) := by
  refine cl_ofN (by decide +kernel) rfl rfl okI (lo0 := [_]) rfl ?_
  unfold f_X10_knownHere at hr
  refine n_aload_n (n := 0) (by decide +kernel) rfl ?_
  refine n_bipush (n := 19) (v := 19) (by decide +kernel) rfl ?_
  refine n_bipush (n := 9) (v := 9) (by decide +kernel) rfl ?_
  refine n_bipush (n := 26) (v := 26) (by decide +kernel) rfl ?_
  refine n_iconst (n := 5) (v := 5) (by decide +kernel) rfl ?_
  refine n_iconst (n := 0) (v := 0) (by decide +kernel) rfl ?_
  refine n_iconst (n := 0) (v := 0) (by decide +kernel) rfl ?_
  obtain ⟨⟨v1, M1⟩, h1, hr⟩ := bso hr
  try dsimp only at hr
  refine n_callVi G [_, _, _, _, _, _] (x := v1) (M1 := M1) (B_X10_takes G hp0 h1) (by decide) mX10_takes ml_RX10_205 hp0 (by decide +kernel) rfl rfl (Nat.le_of_ble_eq_true rfl) (by decide +kernel) ?_
  refine n_if_eq (off := 5) (tgt := 18) (by decide +kernel) (by decide) (fun hc2 => ?_) (fun hc2 => ?_)
  · rw [if_pos hc2] at hr
    refine n_aload_n (n := 0) (by decide +kernel) rfl ?_
    refine n_bipush (n := 19) (v := 19) (by decide +kernel) rfl ?_
    refine n_bipush (n := 15) (v := 15) (by decide +kernel) rfl ?_
    refine n_bipush (n := 9) (v := 9) (by decide +kernel) rfl ?_
    refine n_bipush (n := 12) (v := 12) (by decide +kernel) rfl ?_
    refine n_iconst (n := 0) (v := 0) (by decide +kernel) rfl ?_
    refine n_iconst (n := 0) (v := 0) (by decide +kernel) rfl ?_
    obtain ⟨⟨v3, M3⟩, h3, hr⟩ := bso hr
    try dsimp only at hr
    refine n_callVi G [_, _, _, _, _, _] (x := v3) (M1 := M3) (B_X10_takes G hp0 h3) (by decide) mX10_takes ml_RX10_205 hp0 (by decide +kernel) rfl rfl (Nat.le_of_ble_eq_true rfl) (by decide +kernel) ?_
    refine n_if_eq (off := 5) (tgt := 37) (by decide +kernel) (by decide) (fun hc4 => ?_) (fun hc4 => ?_)
    · rw [if_pos hc4] at hr
      refine n_aload_n (n := 0) (by decide +kernel) rfl ?_
      refine n_bipush (n := 25) (v := 25) (by decide +kernel) rfl ?_
      refine n_iconst (n := 5) (v := 5) (by decide +kernel) rfl ?_
      refine n_iconst (n := 1) (v := 1) (by decide +kernel) rfl ?_
      refine n_bipush (n := 18) (v := 18) (by decide +kernel) rfl ?_
      refine n_iconst (n := 0) (v := 0) (by decide +kernel) rfl ?_
      refine n_iconst (n := 0) (v := 0) (by decide +kernel) rfl ?_
      obtain ⟨⟨v5, M5⟩, h5, hr⟩ := bso hr
      try dsimp only at hr
      refine n_callVi G [_, _, _, _, _, _] (x := v5) (M1 := M5) (B_X10_takes G hp0 h5) (by decide) mX10_takes ml_RX10_205 hp0 (by decide +kernel) rfl rfl (Nat.le_of_ble_eq_true rfl) (by decide +kernel) ?_
      refine n_if_eq (off := 5) (tgt := 54) (by decide +kernel) (by decide) (fun hc6 => ?_) (fun hc6 => ?_)
      · rw [if_pos hc6] at hr
        refine n_aload_n (n := 0) (by decide +kernel) rfl ?_
        refine n_bipush (n := 13) (v := 13) (by decide +kernel) rfl ?_
        refine n_iconst (n := 1) (v := 1) (by decide +kernel) rfl ?_
        refine n_bipush (n := 14) (v := 14) (by decide +kernel) rfl ?_
        refine n_bipush (n := 25) (v := 25) (by decide +kernel) rfl ?_
        refine n_iconst (n := 0) (v := 0) (by decide +kernel) rfl ?_
        refine n_iconst (n := 0) (v := 0) (by decide +kernel) rfl ?_
        obtain ⟨⟨v7, M7⟩, h7, hr⟩ := bso hr
        try dsimp only at hr
        refine n_callVi G [_, _, _, _, _, _] (x := v7) (M1 := M7) (B_X10_takes G hp0 h7) (by decide) mX10_takes ml_RX10_205 hp0 (by decide +kernel) rfl rfl (Nat.le_of_ble_eq_true rfl) (by decide +kernel) ?_
        refine n_if_eq (off := 5) (tgt := 72) (by decide +kernel) (by decide) (fun hc8 => ?_) (fun hc8 => ?_)
        · rw [if_pos hc8] at hr
          refine n_aload_n (n := 0) (by decide +kernel) rfl ?_
          refine n_bipush (n := 24) (v := 24) (by decide +kernel) rfl ?_
          refine n_iconst (n := 0) (v := 0) (by decide +kernel) rfl ?_
          refine n_iconst (n := 0) (v := 0) (by decide +kernel) rfl ?_
          refine n_iconst (n := 0) (v := 0) (by decide +kernel) rfl ?_
          refine n_iconst (n := 0) (v := 0) (by decide +kernel) rfl ?_
          refine n_iconst (n := 0) (v := 0) (by decide +kernel) rfl ?_
          obtain ⟨⟨v9, M9⟩, h9, hr⟩ := bso hr
          try dsimp only at hr
          refine n_callVi G [_, _, _, _, _, _] (x := v9) (M1 := M9) (B_X10_takes G hp0 h9) (by decide) mX10_takes ml_RX10_205 hp0 (by decide +kernel) rfl rfl (Nat.le_of_ble_eq_true rfl) (by decide +kernel) ?_
          refine n_if_eq (off := 5) (tgt := 88) (by decide +kernel) (by decide) (fun hc10 => ?_) (fun hc10 => ?_)
          · rw [if_pos hc10] at hr
            refine n_aload_n (n := 0) (by decide +kernel) rfl ?_
            refine n_bipush (n := 25) (v := 25) (by decide +kernel) rfl ?_
            refine n_iconst (n := 0) (v := 0) (by decide +kernel) rfl ?_
            refine n_iconst (n := 0) (v := 0) (by decide +kernel) rfl ?_
            refine n_iconst (n := 0) (v := 0) (by decide +kernel) rfl ?_
            refine n_iconst (n := 0) (v := 0) (by decide +kernel) rfl ?_
            refine n_iconst (n := 0) (v := 0) (by decide +kernel) rfl ?_
            obtain ⟨⟨v11, M11⟩, h11, hr⟩ := bso hr
            try dsimp only at hr
            refine n_callVi G [_, _, _, _, _, _] (x := v11) (M1 := M11) (B_X10_takes G hp0 h11) (by decide) mX10_takes ml_RX10_205 hp0 (by decide +kernel) rfl rfl (Nat.le_of_ble_eq_true rfl) (by decide +kernel) ?_
            refine n_if_eq (off := 5) (tgt := 104) (by decide +kernel) (by decide) (fun hc12 => ?_) (fun hc12 => ?_)
            · rw [if_pos hc12] at hr
              refine n_aload_n (n := 0) (by decide +kernel) rfl ?_
              refine n_iconst (n := 1) (v := 1) (by decide +kernel) rfl ?_
              refine n_bipush (n := 12) (v := 12) (by decide +kernel) rfl ?_
              refine n_bipush (n := 12) (v := 12) (by decide +kernel) rfl ?_
              refine n_iconst (n := 0) (v := 0) (by decide +kernel) rfl ?_
              refine n_iconst (n := 0) (v := 0) (by decide +kernel) rfl ?_
              refine n_iconst (n := 0) (v := 0) (by decide +kernel) rfl ?_
              obtain ⟨⟨v13, M13⟩, h13, hr⟩ := bso hr
              try dsimp only at hr
              refine n_callVi G [_, _, _, _, _, _] (x := v13) (M1 := M13) (B_X10_takes G hp0 h13) (by decide) mX10_takes ml_RX10_205 hp0 (by decide +kernel) rfl rfl (Nat.le_of_ble_eq_true rfl) (by decide +kernel) ?_
              refine n_dia1 (J := 125) (c := v13 = 0) (a := (-1 : Int32)) (b := (6 : Int32)) (fun hJ => ?_) ?_
              · refine n_if_eq (off := 8) (tgt := 124) (by decide +kernel) (by decide) (fun hc14 => ?_) (fun hc14 => ?_)
                · refine n_iconst (n := -1) (v := -1) (by decide +kernel) rfl ?_
                  exact hJ _ (if_pos hc14).symm
                · refine n_bipush (n := 6) (v := 6) (by decide +kernel) rfl ?_
                  refine n_goto (off := 4) (tgt := 125) (by decide +kernel) (by decide) ?_
                  exact hJ _ (if_neg hc14).symm
              cases hr
              exact n_ireturn (by decide +kernel)
            · rw [if_neg hc12] at hr
              refine n_iconst (n := 5) (v := 5) (by decide +kernel) rfl ?_
              cases hr
              exact n_ireturn (by decide +kernel)
          · rw [if_neg hc10] at hr
            refine n_iconst (n := 4) (v := 4) (by decide +kernel) rfl ?_
            cases hr
            exact n_ireturn (by decide +kernel)
        · rw [if_neg hc8] at hr
          refine n_iconst (n := 3) (v := 3) (by decide +kernel) rfl ?_
          cases hr
          exact n_ireturn (by decide +kernel)
      · rw [if_neg hc6] at hr
        refine n_iconst (n := 2) (v := 2) (by decide +kernel) rfl ?_
        cases hr
        exact n_ireturn (by decide +kernel)
    · rw [if_neg hc4] at hr
      refine n_iconst (n := 1) (v := 1) (by decide +kernel) rfl ?_
      cases hr
      exact n_ireturn (by decide +kernel)
  · rw [if_neg hc2] at hr
    refine n_iconst (n := 0) (v := 0) (by decide +kernel) rfl ?_
    cases hr
    exact n_ireturn (by decide +kernel)
abbrev P_X10_sum_b4 (l : Launch) (s0 : State) (D : va_G) (cy : Nat → ClassId) (ad : Nat → Nat) (P : Nat → Prop) (n : Nat)  (res : Rs) (M' : Mm) (s : Mm) : Prop := Rn l s0 D cy ad P (14 + (n + 1)) KX10_sum 4 [.ref 76, .null] [] (s) res M'
abbrev Q_X10_sum_b4 (l : Launch) (s0 : State) (D : va_G) (cy : Nat → ClassId) (ad : Nat → Nat) (P : Nat → Prop) (n : Nat)  (res : Rs) (M' : Mm) (e : (Mm ⊕ Mm)) : Prop := (match e with | .inl e => Rn l s0 D cy ad P (14 + (n + 1)) KX10_sum 44 [.null, .null] [] (e) res M' | .inr e => Rn l s0 D cy ad P (14 + (n + 1)) KX10_sum 58 [.null, .null] [] (e) res M')
set_option maxRecDepth 100000 in
theorem B_X10_sum_j38 (G : GG l s0 b L xs D cy ad) {n : Nat} {rec : Nat → Mm → Option Mm} {xs0 : Int32} {M : Mm}  {res : Rs} {M' : Mm} {r : (Mm ⊕ (Mm ⊕ Mm))} (hrec0 : ∀  (M r : Mm) (hp0 : P 76), rec 0  M = some r → Cl l s0 D cy ad P (14 + n) KX10_sum [.ref 76] M (.inl none) r) (hrec1 : ∀  (M r : Mm) (hp0 : P 76), rec 1  M = some r → Cl l s0 D cy ad P (14 + n) KX10_product [.ref 76] M (.inl none) r) (hrec2 : ∀  (M r : Mm) (hp0 : P 76), rec 2  M = some r → Cl l s0 D cy ad P (14 + n) KX10_one [.ref 76] M (.inl none) r) (hp0 : P 76) (hr : f_X10_sum_j38 rec xs0 M = some r) (hk : mtc (P_X10_sum_b4 l s0 D cy ad P n res M') (Q_X10_sum_b4 l s0 D cy ad P n res M') r) : Rn l s0 D cy ad P (14 + (n + 1)) KX10_sum 38 [.ref 76, .null] [.int xs0] M res M' := by
  unfold f_X10_sum_j38 at hr
  refine n_istore_n (n := 1) (lo2 := [_, _]) (by decide +kernel) (Nat.le_of_ble_eq_true rfl) rfl ?_
  refine n_iload_n (n := 1) (by decide +kernel) rfl ?_
  refine n_iconst (n := -1) (v := -1) (by decide +kernel) rfl ?_
  refine n_icmp_ne (off := 4) (tgt := 45) (by decide +kernel) (by decide) (fun hc7 => ?_) (fun hc7 => ?_)
  · rw [if_neg hc7] at hr
    refine n_aload_n (n := 0) (by decide +kernel) rfl ?_
    obtain ⟨M8, h8, hr⟩ := bso hr
    refine n_callVv G [] (M1 := M8) (hrec1  _ _ hp0 h8) (by omega) mX10_product ml_RX10_193 hp0 (by decide +kernel) rfl rfl (Nat.le_of_ble_eq_true rfl) (by decide +kernel) ?_
    refine n_aload_n (n := 0) (by decide +kernel) rfl ?_
    refine n_iload_n (n := 1) (by decide +kernel) rfl ?_
    refine n_iconst (n := 0) (v := 0) (by decide +kernel) rfl ?_
    obtain ⟨M9, h9, hr⟩ := bso hr
    refine n_callVv G [_, _] (M1 := M9) (B_X10_notes G hp0 h9) (by omega) mX10_notes ml_RX10_199 hp0 (by decide +kernel) rfl rfl (Nat.le_of_ble_eq_true rfl) (by decide +kernel) ?_
    refine n_goto (off := -51) (tgt := 4) (by decide +kernel) (by decide) ?_
    cases hr
    refine n_msk [true, false] (lo2 := [_, .null]) rfl rfl ?_
    exact hk
  · rw [if_pos hc7] at hr
    cases hr
    refine n_msk [false, false] (lo2 := [.null, .null]) rfl rfl ?_
    exact hk
set_option maxRecDepth 100000 in
theorem B_X10_sum_b4 (G : GG l s0 b L xs D cy ad) {n : Nat} {rec : Nat → Mm → Option Mm}  {res : Rs} {M' : Mm} (hrec0 : ∀  (M r : Mm) (hp0 : P 76), rec 0  M = some r → Cl l s0 D cy ad P (14 + n) KX10_sum [.ref 76] M (.inl none) r) (hrec1 : ∀  (M r : Mm) (hp0 : P 76), rec 1  M = some r → Cl l s0 D cy ad P (14 + n) KX10_product [.ref 76] M (.inl none) r) (hrec2 : ∀  (M r : Mm) (hp0 : P 76), rec 2  M = some r → Cl l s0 D cy ad P (14 + n) KX10_one [.ref 76] M (.inl none) r) (hp0 : P 76) : ∀ (s : Mm) (r : Mm ⊕ (Mm ⊕ Mm)), f_X10_sum_b4 rec s = some r → mtc (P_X10_sum_b4 l s0 D cy ad P n res M') (Q_X10_sum_b4 l s0 D cy ad P n res M') r → P_X10_sum_b4 l s0 D cy ad P n res M' s := by
  intro M r hr hk
  unfold f_X10_sum_b4 at hr
  try dsimp only at hr
  dsimp only [P_X10_sum_b4]
  refine n_aload_n (n := 0) (by decide +kernel) rfl ?_
  refine n_getI G fl_RX10_104 hp0 (by decide +kernel) (by decide +kernel) ?_
  refine n_if_ne (off := 50) (tgt := 58) (by decide +kernel) (by decide) (fun hc2 => ?_) (fun hc2 => ?_)
  · rw [if_neg hc2] at hr
    cases hr
    refine n_msk [false, false] (lo2 := [.null, .null]) rfl rfl ?_
    exact hk
  · rw [if_pos hc2] at hr
    refine n_aload_n (n := 0) (by decide +kernel) rfl ?_
    refine n_bipush (n := 43) (v := 43) (by decide +kernel) rfl ?_
    obtain ⟨⟨v3, M3⟩, h3, hr⟩ := bso hr
    try dsimp only at hr
    refine n_callVi G [_] (x := v3) (M1 := M3) (B_X10_takesSign G hp0 h3) (by omega) mX10_takesSign ml_RX10_196 hp0 (by decide +kernel) rfl rfl (Nat.le_of_ble_eq_true rfl) (by decide +kernel) ?_
    refine n_if_eq (off := 7) (tgt := 24) (by decide +kernel) (by decide) (fun hc4 => ?_) (fun hc4 => ?_)
    · rw [if_pos hc4] at hr
      refine n_aload_n (n := 0) (by decide +kernel) rfl ?_
      refine n_bipush (n := 45) (v := 45) (by decide +kernel) rfl ?_
      obtain ⟨⟨v5, M5⟩, h5, hr⟩ := bso hr
      try dsimp only at hr
      refine n_callVi G [_] (x := v5) (M1 := M5) (B_X10_takesSign G hp0 h5) (by omega) mX10_takesSign ml_RX10_196 hp0 (by decide +kernel) rfl rfl (Nat.le_of_ble_eq_true rfl) (by decide +kernel) ?_
      refine n_if_eq (off := 7) (tgt := 37) (by decide +kernel) (by decide) (fun hc6 => ?_) (fun hc6 => ?_)
      · rw [if_pos hc6] at hr
        refine n_iconst (n := -1) (v := -1) (by decide +kernel) rfl ?_
        exact B_X10_sum_j38 G hrec0 hrec1 hrec2 hp0 hr hk
      · rw [if_neg hc6] at hr
        refine n_iconst (n := 3) (v := 3) (by decide +kernel) rfl ?_
        refine n_goto (off := 4) (tgt := 38) (by decide +kernel) (by decide) ?_
        exact B_X10_sum_j38 G hrec0 hrec1 hrec2 hp0 hr hk
    · rw [if_neg hc4] at hr
      refine n_iconst (n := 2) (v := 2) (by decide +kernel) rfl ?_
      refine n_goto (off := 17) (tgt := 38) (by decide +kernel) (by decide) ?_
      exact B_X10_sum_j38 G hrec0 hrec1 hrec2 hp0 hr hk
set_option maxRecDepth 100000 in
theorem W_X10_sum_b4 (G : GG l s0 b L xs D cy ad) {n : Nat} {rec : Nat → Mm → Option Mm}  (hrec0 : ∀  (M r : Mm) (hp0 : P 76), rec 0  M = some r → Cl l s0 D cy ad P (14 + n) KX10_sum [.ref 76] M (.inl none) r) (hrec1 : ∀  (M r : Mm) (hp0 : P 76), rec 1  M = some r → Cl l s0 D cy ad P (14 + n) KX10_product [.ref 76] M (.inl none) r) (hrec2 : ∀  (M r : Mm) (hp0 : P 76), rec 2  M = some r → Cl l s0 D cy ad P (14 + n) KX10_one [.ref 76] M (.inl none) r) (hp0 : P 76) {s : Mm} {e : (Mm ⊕ Mm)} (h : whl fu (f_X10_sum_b4 rec) s = some e) (res : Rs) (M' : Mm) : Q_X10_sum_b4 l s0 D cy ad P n res M' e → P_X10_sum_b4 l s0 D cy ad P n res M' s := whl_run (P := fun s => P_X10_sum_b4 l s0 D cy ad P n res M' s) (Q := fun e => Q_X10_sum_b4 l s0 D cy ad P n res M' e) (B_X10_sum_b4 G (res := res) (M' := M') (n := n) (rec := rec) hrec0 hrec1 hrec2 hp0) fu s h
set_option maxRecDepth 100000 in
theorem Bb_X10_sum (G : GG l s0 b L xs D cy ad) {n : Nat} {rec : Nat → Mm → Option Mm}  {M : Mm} {r : Mm} (hrec0 : ∀  (M r : Mm) (hp0 : P 76), rec 0  M = some r → Cl l s0 D cy ad P (14 + n) KX10_sum [.ref 76] M (.inl none) r) (hrec1 : ∀  (M r : Mm) (hp0 : P 76), rec 1  M = some r → Cl l s0 D cy ad P (14 + n) KX10_product [.ref 76] M (.inl none) r) (hrec2 : ∀  (M r : Mm) (hp0 : P 76), rec 2  M = some r → Cl l s0 D cy ad P (14 + n) KX10_one [.ref 76] M (.inl none) r) (hp0 : P 76) (hr : fb_X10_sum rec M = some r) : Cl l s0 D cy ad P (14 + (n + 1)) KX10_sum [.ref 76] M (.inl none) (r) := by
  refine cl_ofN (by decide +kernel) rfl rfl rfl (lo0 := [_, .null]) rfl ?_
  unfold fb_X10_sum at hr
  refine n_aload_n (n := 0) (by decide +kernel) rfl ?_
  obtain ⟨M1, h1, hr⟩ := bso hr
  refine n_callVv G [] (M1 := M1) (hrec1  _ _ hp0 h1) (by omega) mX10_product ml_RX10_193 hp0 (by decide +kernel) rfl rfl (Nat.le_of_ble_eq_true rfl) (by decide +kernel) ?_
  obtain ⟨e10, h10, hr⟩ := bso hr
  refine (W_X10_sum_b4 G hrec0 hrec1 hrec2 hp0 h10 _ _) ?_
  rcases e10 with M10 | M10
  · try dsimp only at hr
    dsimp only [Q_X10_sum_b4]
    cases hr
    exact n_return (by decide +kernel)
  · try dsimp only at hr
    dsimp only [Q_X10_sum_b4]
    cases hr
    exact n_return (by decide +kernel)
abbrev P_X10_product_b4 (l : Launch) (s0 : State) (D : va_G) (cy : Nat → ClassId) (ad : Nat → Nat) (P : Nat → Prop) (n : Nat)  (res : Rs) (M' : Mm) (s : Mm) : Prop := Rn l s0 D cy ad P (14 + (n + 1)) KX10_product 4 [.ref 76, .null] [] (s) res M'
abbrev Q_X10_product_b4 (l : Launch) (s0 : State) (D : va_G) (cy : Nat → ClassId) (ad : Nat → Nat) (P : Nat → Prop) (n : Nat)  (res : Rs) (M' : Mm) (e : (Mm ⊕ Mm)) : Prop := (match e with | .inl e => Rn l s0 D cy ad P (14 + (n + 1)) KX10_product 58 [.null, .null] [] (e) res M' | .inr e => Rn l s0 D cy ad P (14 + (n + 1)) KX10_product 72 [.null, .null] [] (e) res M')
set_option maxRecDepth 100000 in
theorem B_X10_product_j52 (G : GG l s0 b L xs D cy ad) {n : Nat} {rec : Nat → Mm → Option Mm} {xs0 : Int32} {M : Mm}  {res : Rs} {M' : Mm} {r : (Mm ⊕ (Mm ⊕ Mm))} (hrec0 : ∀  (M r : Mm) (hp0 : P 76), rec 0  M = some r → Cl l s0 D cy ad P (14 + n) KX10_sum [.ref 76] M (.inl none) r) (hrec1 : ∀  (M r : Mm) (hp0 : P 76), rec 1  M = some r → Cl l s0 D cy ad P (14 + n) KX10_product [.ref 76] M (.inl none) r) (hrec2 : ∀  (M r : Mm) (hp0 : P 76), rec 2  M = some r → Cl l s0 D cy ad P (14 + n) KX10_one [.ref 76] M (.inl none) r) (hp0 : P 76) (hr : f_X10_product_j52 rec xs0 M = some r) (hk : mtc (P_X10_product_b4 l s0 D cy ad P n res M') (Q_X10_product_b4 l s0 D cy ad P n res M') r) : Rn l s0 D cy ad P (14 + (n + 1)) KX10_product 52 [.ref 76, .null] [.int xs0] M res M' := by
  unfold f_X10_product_j52 at hr
  refine n_istore_n (n := 1) (lo2 := [_, _]) (by decide +kernel) (Nat.le_of_ble_eq_true rfl) rfl ?_
  refine n_iload_n (n := 1) (by decide +kernel) rfl ?_
  refine n_iconst (n := -1) (v := -1) (by decide +kernel) rfl ?_
  refine n_icmp_ne (off := 4) (tgt := 59) (by decide +kernel) (by decide) (fun hc9 => ?_) (fun hc9 => ?_)
  · rw [if_neg hc9] at hr
    refine n_aload_n (n := 0) (by decide +kernel) rfl ?_
    obtain ⟨M10, h10, hr⟩ := bso hr
    refine n_callVv G [] (M1 := M10) (hrec2  _ _ hp0 h10) (by omega) mX10_one ml_RX10_202 hp0 (by decide +kernel) rfl rfl (Nat.le_of_ble_eq_true rfl) (by decide +kernel) ?_
    refine n_aload_n (n := 0) (by decide +kernel) rfl ?_
    refine n_iload_n (n := 1) (by decide +kernel) rfl ?_
    refine n_iconst (n := 0) (v := 0) (by decide +kernel) rfl ?_
    obtain ⟨M11, h11, hr⟩ := bso hr
    refine n_callVv G [_, _] (M1 := M11) (B_X10_notes G hp0 h11) (by omega) mX10_notes ml_RX10_199 hp0 (by decide +kernel) rfl rfl (Nat.le_of_ble_eq_true rfl) (by decide +kernel) ?_
    refine n_goto (off := -65) (tgt := 4) (by decide +kernel) (by decide) ?_
    cases hr
    refine n_msk [true, false] (lo2 := [_, .null]) rfl rfl ?_
    exact hk
  · rw [if_pos hc9] at hr
    cases hr
    refine n_msk [false, false] (lo2 := [.null, .null]) rfl rfl ?_
    exact hk
set_option maxRecDepth 100000 in
theorem B_X10_product_b4 (G : GG l s0 b L xs D cy ad) {n : Nat} {rec : Nat → Mm → Option Mm}  {res : Rs} {M' : Mm} (hrec0 : ∀  (M r : Mm) (hp0 : P 76), rec 0  M = some r → Cl l s0 D cy ad P (14 + n) KX10_sum [.ref 76] M (.inl none) r) (hrec1 : ∀  (M r : Mm) (hp0 : P 76), rec 1  M = some r → Cl l s0 D cy ad P (14 + n) KX10_product [.ref 76] M (.inl none) r) (hrec2 : ∀  (M r : Mm) (hp0 : P 76), rec 2  M = some r → Cl l s0 D cy ad P (14 + n) KX10_one [.ref 76] M (.inl none) r) (hp0 : P 76) : ∀ (s : Mm) (r : Mm ⊕ (Mm ⊕ Mm)), f_X10_product_b4 rec s = some r → mtc (P_X10_product_b4 l s0 D cy ad P n res M') (Q_X10_product_b4 l s0 D cy ad P n res M') r → P_X10_product_b4 l s0 D cy ad P n res M' s := by
  intro M r hr hk
  unfold f_X10_product_b4 at hr
  try dsimp only at hr
  dsimp only [P_X10_product_b4]
  refine n_aload_n (n := 0) (by decide +kernel) rfl ?_
  refine n_getI G fl_RX10_104 hp0 (by decide +kernel) (by decide +kernel) ?_
  refine n_if_ne (off := 64) (tgt := 72) (by decide +kernel) (by decide) (fun hc2 => ?_) (fun hc2 => ?_)
  · rw [if_neg hc2] at hr
    cases hr
    refine n_msk [false, false] (lo2 := [.null, .null]) rfl rfl ?_
    exact hk
  · rw [if_pos hc2] at hr
    refine n_aload_n (n := 0) (by decide +kernel) rfl ?_
    refine n_bipush (n := 42) (v := 42) (by decide +kernel) rfl ?_
    obtain ⟨⟨v3, M3⟩, h3, hr⟩ := bso hr
    try dsimp only at hr
    refine n_callVi G [_] (x := v3) (M1 := M3) (B_X10_takesSign G hp0 h3) (by omega) mX10_takesSign ml_RX10_196 hp0 (by decide +kernel) rfl rfl (Nat.le_of_ble_eq_true rfl) (by decide +kernel) ?_
    refine n_if_eq (off := 7) (tgt := 24) (by decide +kernel) (by decide) (fun hc4 => ?_) (fun hc4 => ?_)
    · rw [if_pos hc4] at hr
      refine n_aload_n (n := 0) (by decide +kernel) rfl ?_
      refine n_bipush (n := 47) (v := 47) (by decide +kernel) rfl ?_
      obtain ⟨⟨v5, M5⟩, h5, hr⟩ := bso hr
      try dsimp only at hr
      refine n_callVi G [_] (x := v5) (M1 := M5) (B_X10_takesSign G hp0 h5) (by omega) mX10_takesSign ml_RX10_196 hp0 (by decide +kernel) rfl rfl (Nat.le_of_ble_eq_true rfl) (by decide +kernel) ?_
      refine n_if_eq (off := 7) (tgt := 37) (by decide +kernel) (by decide) (fun hc6 => ?_) (fun hc6 => ?_)
      · rw [if_pos hc6] at hr
        refine n_aload_n (n := 0) (by decide +kernel) rfl ?_
        refine n_bipush (n := 37) (v := 37) (by decide +kernel) rfl ?_
        obtain ⟨⟨v7, M7⟩, h7, hr⟩ := bso hr
        try dsimp only at hr
        refine n_callVi G [_] (x := v7) (M1 := M7) (B_X10_takesSign G hp0 h7) (by omega) mX10_takesSign ml_RX10_196 hp0 (by decide +kernel) rfl rfl (Nat.le_of_ble_eq_true rfl) (by decide +kernel) ?_
        refine n_if_eq (off := 8) (tgt := 51) (by decide +kernel) (by decide) (fun hc8 => ?_) (fun hc8 => ?_)
        · rw [if_pos hc8] at hr
          refine n_iconst (n := -1) (v := -1) (by decide +kernel) rfl ?_
          exact B_X10_product_j52 G hrec0 hrec1 hrec2 hp0 hr hk
        · rw [if_neg hc8] at hr
          refine n_bipush (n := 6) (v := 6) (by decide +kernel) rfl ?_
          refine n_goto (off := 4) (tgt := 52) (by decide +kernel) (by decide) ?_
          exact B_X10_product_j52 G hrec0 hrec1 hrec2 hp0 hr hk
      · rw [if_neg hc6] at hr
        refine n_iconst (n := 5) (v := 5) (by decide +kernel) rfl ?_
        refine n_goto (off := 18) (tgt := 52) (by decide +kernel) (by decide) ?_
        exact B_X10_product_j52 G hrec0 hrec1 hrec2 hp0 hr hk
    · rw [if_neg hc4] at hr
      refine n_iconst (n := 4) (v := 4) (by decide +kernel) rfl ?_
      refine n_goto (off := 31) (tgt := 52) (by decide +kernel) (by decide) ?_
      exact B_X10_product_j52 G hrec0 hrec1 hrec2 hp0 hr hk
set_option maxRecDepth 100000 in
theorem W_X10_product_b4 (G : GG l s0 b L xs D cy ad) {n : Nat} {rec : Nat → Mm → Option Mm}  (hrec0 : ∀  (M r : Mm) (hp0 : P 76), rec 0  M = some r → Cl l s0 D cy ad P (14 + n) KX10_sum [.ref 76] M (.inl none) r) (hrec1 : ∀  (M r : Mm) (hp0 : P 76), rec 1  M = some r → Cl l s0 D cy ad P (14 + n) KX10_product [.ref 76] M (.inl none) r) (hrec2 : ∀  (M r : Mm) (hp0 : P 76), rec 2  M = some r → Cl l s0 D cy ad P (14 + n) KX10_one [.ref 76] M (.inl none) r) (hp0 : P 76) {s : Mm} {e : (Mm ⊕ Mm)} (h : whl fu (f_X10_product_b4 rec) s = some e) (res : Rs) (M' : Mm) : Q_X10_product_b4 l s0 D cy ad P n res M' e → P_X10_product_b4 l s0 D cy ad P n res M' s := whl_run (P := fun s => P_X10_product_b4 l s0 D cy ad P n res M' s) (Q := fun e => Q_X10_product_b4 l s0 D cy ad P n res M' e) (B_X10_product_b4 G (res := res) (M' := M') (n := n) (rec := rec) hrec0 hrec1 hrec2 hp0) fu s h
set_option maxRecDepth 100000 in
theorem Bb_X10_product (G : GG l s0 b L xs D cy ad) {n : Nat} {rec : Nat → Mm → Option Mm}  {M : Mm} {r : Mm} (hrec0 : ∀  (M r : Mm) (hp0 : P 76), rec 0  M = some r → Cl l s0 D cy ad P (14 + n) KX10_sum [.ref 76] M (.inl none) r) (hrec1 : ∀  (M r : Mm) (hp0 : P 76), rec 1  M = some r → Cl l s0 D cy ad P (14 + n) KX10_product [.ref 76] M (.inl none) r) (hrec2 : ∀  (M r : Mm) (hp0 : P 76), rec 2  M = some r → Cl l s0 D cy ad P (14 + n) KX10_one [.ref 76] M (.inl none) r) (hp0 : P 76) (hr : fb_X10_product rec M = some r) : Cl l s0 D cy ad P (14 + (n + 1)) KX10_product [.ref 76] M (.inl none) (r) := by
  refine cl_ofN (by decide +kernel) rfl rfl rfl (lo0 := [_, .null]) rfl ?_
  unfold fb_X10_product at hr
  refine n_aload_n (n := 0) (by decide +kernel) rfl ?_
  obtain ⟨M1, h1, hr⟩ := bso hr
  refine n_callVv G [] (M1 := M1) (hrec2  _ _ hp0 h1) (by omega) mX10_one ml_RX10_202 hp0 (by decide +kernel) rfl rfl (Nat.le_of_ble_eq_true rfl) (by decide +kernel) ?_
  obtain ⟨e12, h12, hr⟩ := bso hr
  refine (W_X10_product_b4 G hrec0 hrec1 hrec2 hp0 h12 _ _) ?_
  rcases e12 with M12 | M12
  · try dsimp only at hr
    dsimp only [Q_X10_product_b4]
    cases hr
    exact n_return (by decide +kernel)
  · try dsimp only at hr
    dsimp only [Q_X10_product_b4]
    cases hr
    exact n_return (by decide +kernel)
set_option maxRecDepth 100000 in
theorem Bb_X10_one (G : GG l s0 b L xs D cy ad) {n : Nat} {rec : Nat → Mm → Option Mm}  {M : Mm} {r : Mm} (hrec0 : ∀  (M r : Mm) (hp0 : P 76), rec 0  M = some r → Cl l s0 D cy ad P (14 + n) KX10_sum [.ref 76] M (.inl none) r) (hrec1 : ∀  (M r : Mm) (hp0 : P 76), rec 1  M = some r → Cl l s0 D cy ad P (14 + n) KX10_product [.ref 76] M (.inl none) r) (hrec2 : ∀  (M r : Mm) (hp0 : P 76), rec 2  M = some r → Cl l s0 D cy ad P (14 + n) KX10_one [.ref 76] M (.inl none) r) (hp0 : P 76) (hr : fb_X10_one rec M = some r) : Cl l s0 D cy ad P (14 + (n + 1)) KX10_one [.ref 76] M (.inl none) (r) := by
  refine cl_ofN (by decide +kernel) rfl rfl rfl (lo0 := [_, .null]) rfl ?_
  unfold fb_X10_one at hr
  refine n_aload_n (n := 0) (by decide +kernel) rfl ?_
  refine n_getI G fl_RX10_104 hp0 (by decide +kernel) (by decide +kernel) ?_
  refine n_if_eq (off := 4) (tgt := 8) (by decide +kernel) (by decide) (fun hc1 => ?_) (fun hc1 => ?_)
  · rw [if_pos hc1] at hr
    refine n_aload_n (n := 0) (by decide +kernel) rfl ?_
    obtain ⟨M2, h2, hr⟩ := bso hr
    refine n_callVv G [] (M1 := M2) (B_X10_blanks G hp0 h2) (by omega) mX10_blanks ml_RX10_110 hp0 (by decide +kernel) rfl rfl (Nat.le_of_ble_eq_true rfl) (by decide +kernel) ?_
    refine n_aload_n (n := 0) (by decide +kernel) rfl ?_
    refine n_bipush (n := 9) (v := 9) (by decide +kernel) rfl ?_
    refine n_bipush (n := 6) (v := 6) (by decide +kernel) rfl ?_
    refine n_iconst (n := 0) (v := 0) (by decide +kernel) rfl ?_
    refine n_iconst (n := 0) (v := 0) (by decide +kernel) rfl ?_
    refine n_iconst (n := 0) (v := 0) (by decide +kernel) rfl ?_
    refine n_iconst (n := 0) (v := 0) (by decide +kernel) rfl ?_
    obtain ⟨⟨v3, M3⟩, h3, hr⟩ := bso hr
    try dsimp only at hr
    refine n_callVi G [_, _, _, _, _, _] (x := v3) (M1 := M3) (B_X10_isWord G hp0 h3) (by omega) mX10_isWord ml_RX10_137 hp0 (by decide +kernel) rfl rfl (Nat.le_of_ble_eq_true rfl) (by decide +kernel) ?_
    refine n_if_eq (off := 69) (tgt := 93) (by decide +kernel) (by decide) (fun hc4 => ?_) (fun hc4 => ?_)
    · rw [if_pos hc4] at hr
      refine n_aload_n (n := 0) (by decide +kernel) rfl ?_
      refine n_aload_n (n := 0) (by decide +kernel) rfl ?_
      refine n_getI G fl_RX10_97 hp0 (by decide +kernel) (by decide +kernel) ?_
      obtain ⟨v5, h5, hr⟩ := bso hr
      refine n_callVi G [_] (x := v5) (B_X10_byteAt G hp0 h5) (by omega) mX10_byteAt ml_RX10_100 hp0 (by decide +kernel) rfl rfl (Nat.le_of_ble_eq_true rfl) (by decide +kernel) ?_
      refine n_bipush (n := 40) (v := 40) (by decide +kernel) rfl ?_
      refine n_icmp_ne (off := 42) (tgt := 145) (by decide +kernel) (by decide) (fun hc6 => ?_) (fun hc6 => ?_)
      · rw [if_neg hc6] at hr
        refine n_aload_n (n := 0) (by decide +kernel) rfl ?_
        obtain ⟨⟨v7, M7⟩, h7, hr⟩ := bso hr
        try dsimp only at hr
        refine n_callVi G [] (x := v7) (M1 := M7) (B_X10_knownHere G hp0 h7) (by omega) mX10_knownHere ml_RX10_215 hp0 (by decide +kernel) rfl rfl (Nat.le_of_ble_eq_true rfl) (by decide +kernel) ?_
        refine n_istore_n (n := 1) (lo2 := [_, _]) (by decide +kernel) (Nat.le_of_ble_eq_true rfl) rfl ?_
        refine n_iload_n (n := 1) (by decide +kernel) rfl ?_
        refine n_iconst (n := -1) (v := -1) (by decide +kernel) rfl ?_
        refine n_icmp_eq (off := 12) (tgt := 164) (by decide +kernel) (by decide) (fun hc8 => ?_) (fun hc8 => ?_)
        · rw [if_pos hc8] at hr
          refine n_aload_n (n := 0) (by decide +kernel) rfl ?_
          refine n_iconst (n := 0) (v := 0) (by decide +kernel) rfl ?_
          refine n_aload_n (n := 0) (by decide +kernel) rfl ?_
          refine n_iconst (n := 0) (v := 0) (by decide +kernel) rfl ?_
          refine n_sipush (n := 999) (v := 999) (by decide +kernel) (by decide +kernel) ?_
          obtain ⟨⟨v9, M9⟩, h9, hr⟩ := bso hr
          try dsimp only at hr
          refine n_callVi G [_, _] (x := v9) (M1 := M9) (B_X10_number G hp0 h9) (by omega) mX10_number ml_RX10_150 hp0 (by decide +kernel) rfl rfl (Nat.le_of_ble_eq_true rfl) (by decide +kernel) ?_
          obtain ⟨M10, h10, hr⟩ := bso hr
          refine n_callVv G [_, _] (M1 := M10) (B_X10_notes G hp0 h10) (by omega) mX10_notes ml_RX10_199 hp0 (by decide +kernel) rfl rfl (Nat.le_of_ble_eq_true rfl) (by decide +kernel) ?_
          cases hr
          exact n_return (by decide +kernel)
        · rw [if_neg hc8] at hr
          refine n_aload_n (n := 0) (by decide +kernel) rfl ?_
          refine n_iconst (n := 1) (v := 1) (by decide +kernel) rfl ?_
          refine n_iload_n (n := 1) (by decide +kernel) rfl ?_
          obtain ⟨M11, h11, hr⟩ := bso hr
          refine n_callVv G [_, _] (M1 := M11) (B_X10_notes G hp0 h11) (by omega) mX10_notes ml_RX10_199 hp0 (by decide +kernel) rfl rfl (Nat.le_of_ble_eq_true rfl) (by decide +kernel) ?_
          refine n_goto (off := 16) (tgt := 177) (by decide +kernel) (by decide) ?_
          cases hr
          exact n_return (by decide +kernel)
      · rw [if_pos hc6] at hr
        refine n_aload_n (n := 0) (by decide +kernel) rfl ?_
        obtain ⟨⟨v12, M12⟩, h12, hr⟩ := bso hr
        try dsimp only at hr
        refine n_callVi G [] (x := v12) (M1 := M12) (B_X10_opens G hp0 h12) (by omega) mX10_opens ml_RX10_208 hp0 (by decide +kernel) rfl rfl (Nat.le_of_ble_eq_true rfl) (by decide +kernel) ?_
        refine n_if_ne (off := 4) (tgt := 114) (by decide +kernel) (by decide) (fun hc13 => ?_) (fun hc13 => ?_)
        · rw [if_neg hc13] at hr
          refine n_aload_n (n := 0) (by decide +kernel) rfl ?_
          refine n_dup rfl (by decide +kernel) ?_
          refine n_getI G fl_RX10_97 hp0 (by decide +kernel) (by decide +kernel) ?_
          refine n_iconst (n := 1) (v := 1) (by decide +kernel) rfl ?_
          refine n_iadd (by decide +kernel) ?_
          refine n_putI G fl_RX10_97 hp0 (by decide +kernel) (by decide +kernel) ?_
          refine n_aload_n (n := 0) (by decide +kernel) rfl ?_
          obtain ⟨M14, h14, hr⟩ := bso hr
          refine n_callVv G [] (M1 := M14) (hrec0  _ _ hp0 h14) (by omega) mX10_sum ml_RX10_212 hp0 (by decide +kernel) rfl rfl (Nat.le_of_ble_eq_true rfl) (by decide +kernel) ?_
          refine n_aload_n (n := 0) (by decide +kernel) rfl ?_
          refine n_bipush (n := 41) (v := 41) (by decide +kernel) rfl ?_
          obtain ⟨M15, h15, hr⟩ := bso hr
          refine n_callVv G [_] (M1 := M15) (B_X10_sign G hp0 h15) (by omega) mX10_sign ml_RX10_157 hp0 (by decide +kernel) rfl rfl (Nat.le_of_ble_eq_true rfl) (by decide +kernel) ?_
          refine n_aload_n (n := 0) (by decide +kernel) rfl ?_
          refine n_dup rfl (by decide +kernel) ?_
          refine n_getI G fl_RX10_147 hp0 (by decide +kernel) (by decide +kernel) ?_
          refine n_iconst (n := 1) (v := 1) (by decide +kernel) rfl ?_
          refine n_isub (by decide +kernel) ?_
          refine n_putI G fl_RX10_147 hp0 (by decide +kernel) (by decide +kernel) ?_
          cases hr
          exact n_return (by decide +kernel)
        · rw [if_pos hc13] at hr
          cases hr
          exact n_return (by decide +kernel)
    · rw [if_neg hc4] at hr
      refine n_aload_n (n := 0) (by decide +kernel) rfl ?_
      obtain ⟨⟨v16, M16⟩, h16, hr⟩ := bso hr
      try dsimp only at hr
      refine n_callVi G [] (x := v16) (M1 := M16) (B_X10_opens G hp0 h16) (by omega) mX10_opens ml_RX10_208 hp0 (by decide +kernel) rfl rfl (Nat.le_of_ble_eq_true rfl) (by decide +kernel) ?_
      refine n_if_ne (off := 4) (tgt := 35) (by decide +kernel) (by decide) (fun hc17 => ?_) (fun hc17 => ?_)
      · rw [if_neg hc17] at hr
        refine n_aload_n (n := 0) (by decide +kernel) rfl ?_
        obtain ⟨M18, h18, hr⟩ := bso hr
        refine n_callVv G [] (M1 := M18) (B_X10_skipWord G hp0 h18) (by omega) mX10_skipWord ml_RX10_141 hp0 (by decide +kernel) rfl rfl (Nat.le_of_ble_eq_true rfl) (by decide +kernel) ?_
        refine n_aload_n (n := 0) (by decide +kernel) rfl ?_
        refine n_bipush (n := 91) (v := 91) (by decide +kernel) rfl ?_
        obtain ⟨M19, h19, hr⟩ := bso hr
        refine n_callVv G [_] (M1 := M19) (B_X10_sign G hp0 h19) (by omega) mX10_sign ml_RX10_157 hp0 (by decide +kernel) rfl rfl (Nat.le_of_ble_eq_true rfl) (by decide +kernel) ?_
        refine n_aload_n (n := 0) (by decide +kernel) rfl ?_
        obtain ⟨M20, h20, hr⟩ := bso hr
        refine n_callVv G [] (M1 := M20) (hrec0  _ _ hp0 h20) (by omega) mX10_sum ml_RX10_212 hp0 (by decide +kernel) rfl rfl (Nat.le_of_ble_eq_true rfl) (by decide +kernel) ?_
        refine n_aload_n (n := 0) (by decide +kernel) rfl ?_
        refine n_bipush (n := 44) (v := 44) (by decide +kernel) rfl ?_
        obtain ⟨M21, h21, hr⟩ := bso hr
        refine n_callVv G [_] (M1 := M21) (B_X10_sign G hp0 h21) (by omega) mX10_sign ml_RX10_157 hp0 (by decide +kernel) rfl rfl (Nat.le_of_ble_eq_true rfl) (by decide +kernel) ?_
        refine n_aload_n (n := 0) (by decide +kernel) rfl ?_
        obtain ⟨M22, h22, hr⟩ := bso hr
        refine n_callVv G [] (M1 := M22) (hrec0  _ _ hp0 h22) (by omega) mX10_sum ml_RX10_212 hp0 (by decide +kernel) rfl rfl (Nat.le_of_ble_eq_true rfl) (by decide +kernel) ?_
        refine n_aload_n (n := 0) (by decide +kernel) rfl ?_
        refine n_bipush (n := 44) (v := 44) (by decide +kernel) rfl ?_
        obtain ⟨M23, h23, hr⟩ := bso hr
        refine n_callVv G [_] (M1 := M23) (B_X10_sign G hp0 h23) (by omega) mX10_sign ml_RX10_157 hp0 (by decide +kernel) rfl rfl (Nat.le_of_ble_eq_true rfl) (by decide +kernel) ?_
        refine n_aload_n (n := 0) (by decide +kernel) rfl ?_
        obtain ⟨M24, h24, hr⟩ := bso hr
        refine n_callVv G [] (M1 := M24) (hrec0  _ _ hp0 h24) (by omega) mX10_sum ml_RX10_212 hp0 (by decide +kernel) rfl rfl (Nat.le_of_ble_eq_true rfl) (by decide +kernel) ?_
        refine n_aload_n (n := 0) (by decide +kernel) rfl ?_
        refine n_bipush (n := 93) (v := 93) (by decide +kernel) rfl ?_
        obtain ⟨M25, h25, hr⟩ := bso hr
        refine n_callVv G [_] (M1 := M25) (B_X10_sign G hp0 h25) (by omega) mX10_sign ml_RX10_157 hp0 (by decide +kernel) rfl rfl (Nat.le_of_ble_eq_true rfl) (by decide +kernel) ?_
        refine n_aload_n (n := 0) (by decide +kernel) rfl ?_
        refine n_bipush (n := 7) (v := 7) (by decide +kernel) rfl ?_
        refine n_iconst (n := 0) (v := 0) (by decide +kernel) rfl ?_
        obtain ⟨M26, h26, hr⟩ := bso hr
        refine n_callVv G [_, _] (M1 := M26) (B_X10_notes G hp0 h26) (by omega) mX10_notes ml_RX10_199 hp0 (by decide +kernel) rfl rfl (Nat.le_of_ble_eq_true rfl) (by decide +kernel) ?_
        refine n_aload_n (n := 0) (by decide +kernel) rfl ?_
        refine n_dup rfl (by decide +kernel) ?_
        refine n_getI G fl_RX10_147 hp0 (by decide +kernel) (by decide +kernel) ?_
        refine n_iconst (n := 1) (v := 1) (by decide +kernel) rfl ?_
        refine n_isub (by decide +kernel) ?_
        refine n_putI G fl_RX10_147 hp0 (by decide +kernel) (by decide +kernel) ?_
        cases hr
        exact n_return (by decide +kernel)
      · rw [if_pos hc17] at hr
        cases hr
        exact n_return (by decide +kernel)
  · rw [if_neg hc1] at hr
    cases hr
    exact n_return (by decide +kernel)
set_option maxRecDepth 100000 in
theorem BR_X10_sum (G : GG l s0 b L xs D cy ad) : ∀ n : Nat, (∀  (M r : Mm) (hp0 : P 76), R_X10_sum n 0  M = some r → Cl l s0 D cy ad P (14 + n) KX10_sum [.ref 76] M (.inl none) r) ∧ (∀  (M r : Mm) (hp0 : P 76), R_X10_sum n 1  M = some r → Cl l s0 D cy ad P (14 + n) KX10_product [.ref 76] M (.inl none) r) ∧ (∀  (M r : Mm) (hp0 : P 76), R_X10_sum n 2  M = some r → Cl l s0 D cy ad P (14 + n) KX10_one [.ref 76] M (.inl none) r) := by
  intro n
  induction n with
  | zero => exact ⟨fun _ _ _ h => (nomatch h), fun _ _ _ h => (nomatch h), fun _ _ _ h => (nomatch h)⟩
  | succ n ih =>
    obtain ⟨ih0, ih1, ih2⟩ := ih
    exact ⟨fun  _ _ hp0 h => Bb_X10_sum G ih0 ih1 ih2 hp0 h, fun  _ _ hp0 h => Bb_X10_product G ih0 ih1 ih2 hp0 h, fun  _ _ hp0 h => Bb_X10_one G ih0 ih1 ih2 hp0 h⟩
set_option maxRecDepth 100000 in
theorem B_X10_sum (G : GG l s0 b L xs D cy ad)  {M r : Mm} (hp0 : P 76) (hr : f_X10_sum  M = some r) : Cl l s0 D cy ad P 74 KX10_sum [.ref 76] M (.inl none) r := (BR_X10_sum G 60).1  _ _ hp0 hr
set_option maxRecDepth 100000 in
theorem B_X10_product (G : GG l s0 b L xs D cy ad)  {M r : Mm} (hp0 : P 76) (hr : f_X10_product  M = some r) : Cl l s0 D cy ad P 74 KX10_product [.ref 76] M (.inl none) r := (BR_X10_sum G 60).2.1  _ _ hp0 hr
set_option maxRecDepth 100000 in
theorem B_X10_one (G : GG l s0 b L xs D cy ad)  {M r : Mm} (hp0 : P 76) (hr : f_X10_one  M = some r) : Cl l s0 D cy ad P 74 KX10_one [.ref 76] M (.inl none) r := (BR_X10_sum G 60).2.2  _ _ hp0 hr
abbrev P_X10_law_b123 (l : Launch) (s0 : State) (D : va_G) (cy : Nat → ClassId) (ad : Nat → Nat) (P : Nat → Prop) (x1 : Int32)  (res : Rs) (M' : Mm) (s : (Int32 × Mm)) : Prop := Rn l s0 D cy ad P 75 KX10_law 123 [.ref 76, .int x1, .null, .int (s.1)] [] (s.2) res M'
abbrev Q_X10_law_b123 (l : Launch) (s0 : State) (D : va_G) (cy : Nat → ClassId) (ad : Nat → Nat) (P : Nat → Prop) (x1 : Int32)  (res : Rs) (M' : Mm) (e : Mm) : Prop := Rn l s0 D cy ad P 75 KX10_law 153 [.null, .null, .null, .null] [] (e) res M'
set_option maxRecDepth 100000 in
theorem B_X10_law_b123 (G : GG l s0 b L xs D cy ad) {x1 : Int32}  {res : Rs} {M' : Mm} (hp0 : P 76) : ∀ (s : (Int32 × Mm)) (r : (Int32 × Mm) ⊕ Mm), f_X10_law_b123 x1 s = some r → mtc (P_X10_law_b123 l s0 D cy ad P x1 res M') (Q_X10_law_b123 l s0 D cy ad P x1 res M') r → P_X10_law_b123 l s0 D cy ad P x1 res M' s := by
  intro s r hr hk
  obtain ⟨x3, M⟩ := s
  unfold f_X10_law_b123 at hr
  try dsimp only at hr
  dsimp only [P_X10_law_b123]
  refine n_iload_n (n := 3) (by decide +kernel) rfl ?_
  refine n_iconst (n := 2) (v := 2) (by decide +kernel) rfl ?_
  refine n_aload_n (n := 0) (by decide +kernel) rfl ?_
  refine n_getI G fl_RX10_190 hp0 (by decide +kernel) (by decide +kernel) ?_
  refine n_imul (by decide +kernel) ?_
  refine n_icmp_ge (off := 23) (tgt := 153) (by decide +kernel) (by decide) (fun hc12 => ?_) (fun hc12 => ?_)
  · rw [if_pos hc12] at hr
    cases hr
    refine n_msk [false, false, false, false] (lo2 := [.null, .null, .null, .null]) rfl rfl ?_
    exact hk
  · rw [if_neg hc12] at hr
    refine n_aload_n (n := 0) (by decide +kernel) rfl ?_
    refine n_getF (q := 117) G fl_RX10_46 hp0 (by decide +kernel) (by decide +kernel) (by decide +kernel) (fun hp13q => ?_)
    refine n_iload_n (n := 1) (by decide +kernel) rfl ?_
    obtain ⟨q14, h14, hr⟩ := bso hr
    refine n_aald G h14 hp13q (by decide +kernel) (by decide +kernel) (by decide +kernel) (fun hp14q => ?_)
    refine n_iload_n (n := 3) (by decide +kernel) rfl ?_
    refine n_aload_n (n := 0) (by decide +kernel) rfl ?_
    refine n_getF (q := 134) G fl_RX10_55 hp0 (by decide +kernel) (by decide +kernel) (by decide +kernel) (fun hp15q => ?_)
    refine n_iload_n (n := 3) (by decide +kernel) rfl ?_
    obtain ⟨v16, h16, hr⟩ := bso hr
    refine n_iald G h16 hp15q (by decide +kernel) (by decide +kernel) (by decide +kernel) ?_
    obtain ⟨M17, h17, hr⟩ := bso hr
    refine n_iast G h17 hp14q (row_117 h14).1 (row_117 h14).2 (by decide +kernel) ?_
    refine n_iincK (n := 3) (j := 1) (w := 1) (lo2 := [_, _, _, _]) (by decide +kernel) rfl rfl rfl ?_
    refine n_goto (off := -27) (tgt := 123) (by decide +kernel) (by decide) ?_
    cases hr
    exact hk
set_option maxRecDepth 100000 in
theorem W_X10_law_b123 (G : GG l s0 b L xs D cy ad) {x1 : Int32}  (hp0 : P 76) {s : (Int32 × Mm)} {e : Mm} (h : whl fu (f_X10_law_b123 x1) s = some e) (res : Rs) (M' : Mm) : Q_X10_law_b123 l s0 D cy ad P x1 res M' e → P_X10_law_b123 l s0 D cy ad P x1 res M' s := whl_run (P := fun s => P_X10_law_b123 l s0 D cy ad P x1 res M' s) (Q := fun e => Q_X10_law_b123 l s0 D cy ad P x1 res M' e) (B_X10_law_b123 G (res := res) (M' := M') (x1 := x1) hp0) fu s h
set_option maxRecDepth 100000 in
theorem B_X10_law_j94 (G : GG l s0 b L xs D cy ad) {x1 : Int32} {M : Mm} {r : (Int32 × Mm)} (hp0 : P 76) (hr : f_X10_law_j94 x1 M = some r) : Rn l s0 D cy ad P 75 KX10_law 94 [.ref 76, .int x1, .null, .null] [] M (.inl (some (.int r.1))) (r.2) := by
  unfold f_X10_law_j94 at hr
  refine n_aload_n (n := 0) (by decide +kernel) rfl ?_
  refine n_getI G fl_RX10_104 hp0 (by decide +kernel) (by decide +kernel) ?_
  refine n_if_eq (off := 8) (tgt := 106) (by decide +kernel) (by decide) (fun hc9 => ?_) (fun hc9 => ?_)
  · rw [if_pos hc9] at hr
    refine n_aload_n (n := 0) (by decide +kernel) rfl ?_
    refine n_iconst (n := -1) (v := -1) (by decide +kernel) rfl ?_
    refine n_putI G fl_RX10_9 hp0 (by decide +kernel) (by decide +kernel) ?_
    refine n_aload_n (n := 0) (by decide +kernel) rfl ?_
    refine n_getF (q := 114) G fl_RX10_37 hp0 (by decide +kernel) (by decide +kernel) (by decide +kernel) (fun hp10q => ?_)
    refine n_iload_n (n := 1) (by decide +kernel) rfl ?_
    refine n_aload_n (n := 0) (by decide +kernel) rfl ?_
    refine n_getI G fl_RX10_190 hp0 (by decide +kernel) (by decide +kernel) ?_
    obtain ⟨M11, h11, hr⟩ := bso hr
    refine n_iast G h11 hp10q (by decide +kernel) (by decide +kernel) (by decide +kernel) ?_
    refine n_iconst (n := 0) (v := 0) (by decide +kernel) rfl ?_
    refine n_istore_n (n := 3) (lo2 := [_, _, _, _]) (by decide +kernel) (Nat.le_of_ble_eq_true rfl) rfl ?_
    obtain ⟨M18, h18, hr⟩ := bso hr
    refine (W_X10_law_b123 G hp0 h18 _ _) ?_
    dsimp only [Q_X10_law_b123]
    refine n_iconst (n := 1) (v := 1) (by decide +kernel) rfl ?_
    cases hr
    exact n_ireturn (by decide +kernel)
  · rw [if_neg hc9] at hr
    refine n_aload_n (n := 0) (by decide +kernel) rfl ?_
    obtain ⟨⟨v19, M19⟩, h19, hr⟩ := bso hr
    try dsimp only at hr
    refine n_callVi G [] (x := v19) (M1 := M19) (B_X10_ends G hp0 h19) (by decide) mX10_ends ml_RX10_171 hp0 (by decide +kernel) rfl rfl (Nat.le_of_ble_eq_true rfl) (by decide +kernel) ?_
    cases hr
    exact n_ireturn (by decide +kernel)
set_option maxRecDepth 100000 in
theorem B_X10_law_j39 (G : GG l s0 b L xs D cy ad) {x1 : Int32} {x2 : Int32} {xs1 : Int32} {M : Mm} {r : (Int32 × Mm)} (hp0 : P 76) (hp90 : P 76) (hr : f_X10_law_j39 x1 x2 xs1 M = some r) : Rn l s0 D cy ad P 75 KX10_law 39 [.ref 76, .int x1, .int x2, .null] [.int xs1, .ref 76] M (.inl (some (.int r.1))) (r.2) := by
  unfold f_X10_law_j39 at hr
  refine n_iconst (n := 1) (v := 1) (by decide +kernel) rfl ?_
  refine n_iconst (n := 2) (v := 2) (by decide +kernel) rfl ?_
  obtain ⟨⟨v3, M3⟩, h3, hr⟩ := bso hr
  try dsimp only at hr
  refine n_callVi G [_, _, _] (x := v3) (M1 := M3) (B_X10_bad G hp90 h3) (by decide) mX10_bad ml_RX10_161 hp90 (by decide +kernel) rfl rfl (Nat.le_of_ble_eq_true rfl) (by decide +kernel) ?_
  refine n_if_eq (off := 5) (tgt := 49) (by decide +kernel) (by decide) (fun hc4 => ?_) (fun hc4 => ?_)
  · rw [if_pos hc4] at hr
    refine n_aload_n (n := 0) (by decide +kernel) rfl ?_
    refine n_iload_n (n := 2) (by decide +kernel) rfl ?_
    obtain ⟨M5, h5, hr⟩ := bso hr
    refine n_callVv G [_] (M1 := M5) (B_X10_starts G hp0 h5) (by decide) mX10_starts ml_RX10_165 hp0 (by decide +kernel) rfl rfl (Nat.le_of_ble_eq_true rfl) (by decide +kernel) ?_
    refine n_aload_n (n := 0) (by decide +kernel) rfl ?_
    refine n_iconst (n := 0) (v := 0) (by decide +kernel) rfl ?_
    refine n_putI G fl_RX10_190 hp0 (by decide +kernel) (by decide +kernel) ?_
    refine n_aload_n (n := 0) (by decide +kernel) rfl ?_
    obtain ⟨M6, h6, hr⟩ := bso hr
    refine n_callVv G [] (M1 := M6) (B_X10_sum G hp0 h6) (by decide) mX10_sum ml_RX10_212 hp0 (by decide +kernel) rfl rfl (Nat.le_of_ble_eq_true rfl) (by decide +kernel) ?_
    refine n_aload_n (n := 0) (by decide +kernel) rfl ?_
    obtain ⟨M7, h7, hr⟩ := bso hr
    refine n_callVv G [] (M1 := M7) (B_X10_blanks G hp0 h7) (by decide) mX10_blanks ml_RX10_110 hp0 (by decide +kernel) rfl rfl (Nat.le_of_ble_eq_true rfl) (by decide +kernel) ?_
    refine n_aload_n (n := 0) (by decide +kernel) rfl ?_
    refine n_getI G fl_RX10_104 hp0 (by decide +kernel) (by decide +kernel) ?_
    refine n_if_ne (off := 23) (tgt := 94) (by decide +kernel) (by decide) (fun hc8 => ?_) (fun hc8 => ?_)
    · rw [if_neg hc8] at hr
      refine n_msk [true, true, false, false] (lo2 := [_, _, .null, .null]) rfl rfl ?_
      exact B_X10_law_j94 G hp0 hr
    · rw [if_pos hc8] at hr
      refine n_aload_n (n := 0) (by decide +kernel) rfl ?_
      refine n_getI G fl_RX10_97 hp0 (by decide +kernel) (by decide +kernel) ?_
      refine n_aload_n (n := 0) (by decide +kernel) rfl ?_
      refine n_getI G fl_RX10_94 hp0 (by decide +kernel) (by decide +kernel) ?_
      refine n_icmp_ge (off := 12) (tgt := 94) (by decide +kernel) (by decide) (fun hc20 => ?_) (fun hc20 => ?_)
      · rw [if_pos hc20] at hr
        refine n_msk [true, true, false, false] (lo2 := [_, _, .null, .null]) rfl rfl ?_
        exact B_X10_law_j94 G hp0 hr
      · rw [if_neg hc20] at hr
        refine n_aload_n (n := 0) (by decide +kernel) rfl ?_
        refine n_iconst (n := 1) (v := 1) (by decide +kernel) rfl ?_
        refine n_aload_n (n := 0) (by decide +kernel) rfl ?_
        refine n_getI G fl_RX10_97 hp0 (by decide +kernel) (by decide +kernel) ?_
        obtain ⟨M21, h21, hr⟩ := bso hr
        refine n_callVv G [_, _] (M1 := M21) (B_X10_wrong G hp0 h21) (by decide) mX10_wrong ml_RX10_117 hp0 (by decide +kernel) rfl rfl (Nat.le_of_ble_eq_true rfl) (by decide +kernel) ?_
        refine n_msk [true, true, false, false] (lo2 := [_, _, .null, .null]) rfl rfl ?_
        exact B_X10_law_j94 G hp0 hr
  · rw [if_neg hc4] at hr
    refine n_iconst (n := 0) (v := 0) (by decide +kernel) rfl ?_
    cases hr
    exact n_ireturn (by decide +kernel)
set_option maxRecDepth 100000 in
theorem B_X10_law_j34 (G : GG l s0 b L xs D cy ad) {x1 : Int32} {x2 : Int32} {M : Mm} {r : (Int32 × Mm)} (hp0 : P 76) (hp90 : P 76) (hr : f_X10_law_j34 x1 x2 M = some r) : Rn l s0 D cy ad P 75 KX10_law 34 [.ref 76, .int x1, .int x2, .null] [.ref 76] M (.inl (some (.int r.1))) (r.2) := by
  unfold f_X10_law_j34 at hr
  refine n_iconst (n := 1) (v := 1) (by decide +kernel) rfl ?_
  refine n_goto (off := 4) (tgt := 39) (by decide +kernel) (by decide) ?_
  exact B_X10_law_j39 G hp0 hp90 hr
set_option maxRecDepth 100000 in
theorem B_X10_law (G : GG l s0 b L xs D cy ad)  {x1 : Int32} {x2 : Int32} {M : Mm} {r : (Int32 × Mm)} (hp0 : P 76) (hr : f_X10_law x1 x2 M = some r) : Cl l s0 D cy ad P 75 KX10_law [.ref 76, .int x1, .int x2] M (.inl (some (.int r.1))) (r.2) := by
  refine cl_ofN (by decide +kernel) rfl rfl okI (lo0 := [_, _, _, .null]) rfl ?_
  unfold f_X10_law at hr
  refine n_aload_n (n := 0) (by decide +kernel) rfl ?_
  refine n_iconst (n := 0) (v := 0) (by decide +kernel) rfl ?_
  refine n_putI G fl_RX10_88 hp0 (by decide +kernel) (by decide +kernel) ?_
  refine n_aload_n (n := 0) (by decide +kernel) rfl ?_
  refine n_iload_n (n := 1) (by decide +kernel) rfl ?_
  refine n_iconst (n := 0) (v := 0) (by decide +kernel) rfl ?_
  refine n_iconst (n := 1) (v := 1) (by decide +kernel) rfl ?_
  obtain ⟨v1, h1, hr⟩ := bso hr
  refine n_callSi G [_, _, _] (x := v1) (B_X10_in G  h1) (by decide) mX10_in ml_RX10_122 rfl rfl (Nat.le_of_ble_eq_true rfl) (by decide +kernel) ?_
  refine n_if_eq (off := 22) (tgt := 34) (by decide +kernel) (by decide) (fun hc2 => ?_) (fun hc2 => ?_)
  · rw [if_pos hc2] at hr
    exact B_X10_law_j34 G hp0 hp0 hr
  · rw [if_neg hc2] at hr
    refine n_iload_n (n := 2) (by decide +kernel) rfl ?_
    refine n_iconst (n := 0) (v := 0) (by decide +kernel) rfl ?_
    refine n_aload_n (n := 0) (by decide +kernel) rfl ?_
    refine n_getI G fl_RX10_91 hp0 (by decide +kernel) (by decide +kernel) ?_
    obtain ⟨v22, h22, hr⟩ := bso hr
    refine n_callSi G [_, _, _] (x := v22) (B_X10_in G  h22) (by decide) mX10_in ml_RX10_122 rfl rfl (Nat.le_of_ble_eq_true rfl) (by decide +kernel) ?_
    refine n_if_eq (off := 10) (tgt := 34) (by decide +kernel) (by decide) (fun hc23 => ?_) (fun hc23 => ?_)
    · rw [if_pos hc23] at hr
      exact B_X10_law_j34 G hp0 hp0 hr
    · rw [if_neg hc23] at hr
      refine n_iload_n (n := 2) (by decide +kernel) rfl ?_
      refine n_sipush (n := 150) (v := 150) (by decide +kernel) (by decide +kernel) ?_
      refine n_icmp_le (off := 7) (tgt := 38) (by decide +kernel) (by decide) (fun hc24 => ?_) (fun hc24 => ?_)
      · rw [if_pos hc24] at hr
        refine n_iconst (n := 0) (v := 0) (by decide +kernel) rfl ?_
        exact B_X10_law_j39 G hp0 hp0 hr
      · rw [if_neg hc24] at hr
        exact B_X10_law_j34 G hp0 hp0 hr
set_option maxRecDepth 100000 in
theorem B_X10_by (G : GG l s0 b L xs D cy ad)  {x0 : Int32} {x1 : Int32} {x2 : Int32} {M : Mm} {r : Int32}  (hr : f_X10_by x0 x1 x2 M = some r) : Cl l s0 D cy ad P 9 KX10_by [.int x0, .int x1, .int x2] M (.inl (some (.int r))) (M) := by
  refine cl_ofN (by decide +kernel) rfl rfl okI (lo0 := [_, _, _]) rfl ?_
  unfold f_X10_by at hr
  refine n_iload_n (n := 0) (by decide +kernel) rfl ?_
  by_cases hc1 : x0 = 2
  · rw [if_pos hc1] at hr
    refine n_tabIn (dflt := 65) (lw := 2) (hi := 5) (offs := #[31, 35, 39, 43]) (len := 31) (off := 31) (tgt := 32) (by decide +kernel) (by rw [hc1]; decide) (by rw [hc1]; decide) (by rw [hc1]; decide) (by decide) ?_
    refine n_iload_n (n := 1) (by decide +kernel) rfl ?_
    refine n_iload_n (n := 2) (by decide +kernel) rfl ?_
    refine n_iadd (by decide +kernel) ?_
    cases hr
    exact n_ireturn (by decide +kernel)
  rw [if_neg hc1] at hr
  by_cases hc2 : x0 = 3
  · rw [if_pos hc2] at hr
    refine n_tabIn (dflt := 65) (lw := 2) (hi := 5) (offs := #[31, 35, 39, 43]) (len := 31) (off := 35) (tgt := 36) (by decide +kernel) (by rw [hc2]; decide) (by rw [hc2]; decide) (by rw [hc2]; decide) (by decide) ?_
    refine n_iload_n (n := 1) (by decide +kernel) rfl ?_
    refine n_iload_n (n := 2) (by decide +kernel) rfl ?_
    refine n_isub (by decide +kernel) ?_
    cases hr
    exact n_ireturn (by decide +kernel)
  rw [if_neg hc2] at hr
  by_cases hc3 : x0 = 4
  · rw [if_pos hc3] at hr
    refine n_tabIn (dflt := 65) (lw := 2) (hi := 5) (offs := #[31, 35, 39, 43]) (len := 31) (off := 39) (tgt := 40) (by decide +kernel) (by rw [hc3]; decide) (by rw [hc3]; decide) (by rw [hc3]; decide) (by decide) ?_
    refine n_iload_n (n := 1) (by decide +kernel) rfl ?_
    refine n_iload_n (n := 2) (by decide +kernel) rfl ?_
    refine n_imul (by decide +kernel) ?_
    cases hr
    exact n_ireturn (by decide +kernel)
  rw [if_neg hc3] at hr
  by_cases hc4 : x0 = 5
  · rw [if_pos hc4] at hr
    refine n_tabIn (dflt := 65) (lw := 2) (hi := 5) (offs := #[31, 35, 39, 43]) (len := 31) (off := 43) (tgt := 44) (by decide +kernel) (by rw [hc4]; decide) (by rw [hc4]; decide) (by rw [hc4]; decide) (by decide) ?_
    refine n_iload_n (n := 2) (by decide +kernel) rfl ?_
    refine n_if_ne (off := 7) (tgt := 52) (by decide +kernel) (by decide) (fun hc5 => ?_) (fun hc5 => ?_)
    · rw [if_neg hc5] at hr
      refine n_iload_n (n := 2) (by decide +kernel) rfl ?_
      refine n_iconst (n := -1) (v := -1) (by decide +kernel) rfl ?_
      refine n_icmp_ne (off := 8) (tgt := 62) (by decide +kernel) (by decide) (fun hc6 => ?_) (fun hc6 => ?_)
      · rw [if_neg hc6] at hr
        refine n_iload_n (n := 1) (by decide +kernel) rfl ?_
        refine n_iload_n (n := 2) (by decide +kernel) rfl ?_
        by_cases hz7 : x2 = 0
        · rw [if_pos hz7] at hr; cases hr
        rw [if_neg hz7] at hr
        refine n_idiv hz7 (by decide +kernel) ?_
        cases hr
        exact n_ireturn (by decide +kernel)
      · rw [if_pos hc6] at hr
        refine n_iload_n (n := 1) (by decide +kernel) rfl ?_
        refine n_ineg (by decide +kernel) ?_
        refine n_goto (off := 6) (tgt := 65) (by decide +kernel) (by decide) ?_
        cases hr
        exact n_ireturn (by decide +kernel)
    · rw [if_pos hc5] at hr
      refine n_iconst (n := 0) (v := 0) (by decide +kernel) rfl ?_
      refine n_goto (off := 16) (tgt := 65) (by decide +kernel) (by decide) ?_
      cases hr
      exact n_ireturn (by decide +kernel)
  rw [if_neg hc4] at hr
  have e1 := ne_toInt hc1 (n := 2) rfl
  have e2 := ne_toInt hc2 (n := 3) rfl
  have e3 := ne_toInt hc3 (n := 4) rfl
  have e4 := ne_toInt hc4 (n := 5) rfl
  refine n_tabOut (dflt := 65) (lw := 2) (hi := 5) (offs := #[31, 35, 39, 43]) (len := 31) (tgt := 66) (by decide +kernel) (by omega) (by decide) ?_
  refine n_iload_n (n := 2) (by decide +kernel) rfl ?_
  refine n_if_eq (off := 8) (tgt := 75) (by decide +kernel) (by decide) (fun hc8 => ?_) (fun hc8 => ?_)
  · rw [if_pos hc8] at hr
    refine n_iconst (n := 0) (v := 0) (by decide +kernel) rfl ?_
    refine n_goto (off := 6) (tgt := 82) (by decide +kernel) (by decide) ?_
    cases hr
    exact n_ireturn (by decide +kernel)
  · rw [if_neg hc8] at hr
    refine n_iload_n (n := 2) (by decide +kernel) rfl ?_
    refine n_iconst (n := -1) (v := -1) (by decide +kernel) rfl ?_
    refine n_icmp_ne (off := 7) (tgt := 79) (by decide +kernel) (by decide) (fun hc9 => ?_) (fun hc9 => ?_)
    · rw [if_neg hc9] at hr
      refine n_iload_n (n := 1) (by decide +kernel) rfl ?_
      refine n_iload_n (n := 2) (by decide +kernel) rfl ?_
      by_cases hz10 : x2 = 0
      · rw [if_pos hz10] at hr; cases hr
      rw [if_neg hz10] at hr
      refine n_irem hz10 (by decide +kernel) ?_
      cases hr
      exact n_ireturn (by decide +kernel)
    · rw [if_pos hc9] at hr
      refine n_iconst (n := 0) (v := 0) (by decide +kernel) rfl ?_
      refine n_goto (off := 6) (tgt := 82) (by decide +kernel) (by decide) ?_
      cases hr
      exact n_ireturn (by decide +kernel)
abbrev P_X10_byLaw_b30 (l : Launch) (s0 : State) (D : va_G) (cy : Nat → ClassId) (ad : Nat → Nat) (P : Nat → Prop) (x1 : Int32)  (res : Rs) (M' : Mm) (s : (Int32 × Int32 × Mm)) : Prop := Rn l s0 D cy ad P 10 KX10_byLaw 30 [.ref 76, .int x1, .int (s.1), .int (s.2.1), .null, .null] [] (s.2.2) res M'
abbrev Q_X10_byLaw_b30 (l : Launch) (s0 : State) (D : va_G) (cy : Nat → ClassId) (ad : Nat → Nat) (P : Nat → Prop) (x1 : Int32)  (res : Rs) (M' : Mm) (e : Mm) : Prop := Rn l s0 D cy ad P 10 KX10_byLaw 186 [.ref 76, .null, .null, .null, .null, .null] [] (e) res M'
set_option maxRecDepth 100000 in
theorem B_X10_byLaw_j146 (G : GG l s0 b L xs D cy ad) {x1 : Int32} {x2 : Int32} {x3 : Int32} {xs1 : Int32} {xs2 : Int32} {M : Mm}  {res : Rs} {M' : Mm} {r : ((Int32 × Int32 × Mm) ⊕ Mm)} (hp0 : P 76) (hp90 : P 115) (hr : f_X10_byLaw_j146 x1 x2 x3 xs1 xs2 M = some r) (hk : mtc (P_X10_byLaw_b30 l s0 D cy ad P x1 res M') (Q_X10_byLaw_b30 l s0 D cy ad P x1 res M') r) : Rn l s0 D cy ad P 10 KX10_byLaw 146 [.ref 76, .int x1, .int x2, .int x3, .null, .null] [.int xs2, .int xs1, .ref 115] M res M' := by
  unfold f_X10_byLaw_j146 at hr
  obtain ⟨M28, h28, hr⟩ := bso hr
  refine n_iast G h28 hp90 (by decide +kernel) (by decide +kernel) (by decide +kernel) ?_
  refine n_goto (off := 33) (tgt := 180) (by decide +kernel) (by decide) ?_
  refine n_iincK (n := 3) (j := 1) (w := 1) (lo2 := [_, _, _, _, _, _]) (by decide +kernel) rfl rfl rfl ?_
  refine n_goto (off := -153) (tgt := 30) (by decide +kernel) (by decide) ?_
  cases hr
  exact hk
set_option maxRecDepth 100000 in
theorem B_X10_byLaw_j94 (G : GG l s0 b L xs D cy ad) {x1 : Int32} {x2 : Int32} {x3 : Int32} {xs1 : Int32} {xs2 : Int32} {M : Mm}  {res : Rs} {M' : Mm} {r : ((Int32 × Int32 × Mm) ⊕ Mm)} (hp0 : P 76) (hp90 : P 115) (hr : f_X10_byLaw_j94 x1 x2 x3 xs1 xs2 M = some r) (hk : mtc (P_X10_byLaw_b30 l s0 D cy ad P x1 res M') (Q_X10_byLaw_b30 l s0 D cy ad P x1 res M') r) : Rn l s0 D cy ad P 10 KX10_byLaw 94 [.ref 76, .int x1, .int x2, .int x3, .null, .null] [.int xs2, .int xs1, .ref 115] M res M' := by
  unfold f_X10_byLaw_j94 at hr
  obtain ⟨M35, h35, hr⟩ := bso hr
  refine n_iast G h35 hp90 (by decide +kernel) (by decide +kernel) (by decide +kernel) ?_
  refine n_iincK (n := 2) (j := 1) (w := 1) (lo2 := [_, _, _, _, _, _]) (by decide +kernel) rfl rfl rfl ?_
  refine n_goto (off := 82) (tgt := 180) (by decide +kernel) (by decide) ?_
  refine n_iincK (n := 3) (j := 1) (w := 1) (lo2 := [_, _, _, _, _, _]) (by decide +kernel) rfl rfl rfl ?_
  refine n_goto (off := -153) (tgt := 30) (by decide +kernel) (by decide) ?_
  cases hr
  exact hk
set_option maxRecDepth 100000 in
theorem B_X10_byLaw_b30 (G : GG l s0 b L xs D cy ad) {x1 : Int32}  {res : Rs} {M' : Mm} (hp0 : P 76) : ∀ (s : (Int32 × Int32 × Mm)) (r : (Int32 × Int32 × Mm) ⊕ Mm), f_X10_byLaw_b30 x1 s = some r → mtc (P_X10_byLaw_b30 l s0 D cy ad P x1 res M') (Q_X10_byLaw_b30 l s0 D cy ad P x1 res M') r → P_X10_byLaw_b30 l s0 D cy ad P x1 res M' s := by
  intro s r hr hk
  obtain ⟨x2, x3, M⟩ := s
  unfold f_X10_byLaw_b30 at hr
  try dsimp only at hr
  dsimp only [P_X10_byLaw_b30]
  refine n_iload_n (n := 3) (by decide +kernel) rfl ?_
  refine n_aload_n (n := 0) (by decide +kernel) rfl ?_
  refine n_getF (q := 114) G fl_RX10_37 hp0 (by decide +kernel) (by decide +kernel) (by decide +kernel) (fun hp4q => ?_)
  refine n_iload_n (n := 1) (by decide +kernel) rfl ?_
  obtain ⟨v5, h5, hr⟩ := bso hr
  refine n_iald G h5 hp4q (by decide +kernel) (by decide +kernel) (by decide +kernel) ?_
  refine n_icmp_ge (off := 149) (tgt := 186) (by decide +kernel) (by decide) (fun hc6 => ?_) (fun hc6 => ?_)
  · rw [if_pos hc6] at hr
    cases hr
    refine n_msk [true, false, false, false, false, false] (lo2 := [_, .null, .null, .null, .null, .null]) rfl rfl ?_
    exact hk
  · rw [if_neg hc6] at hr
    refine n_aload_n (n := 0) (by decide +kernel) rfl ?_
    refine n_getF (q := 117) G fl_RX10_46 hp0 (by decide +kernel) (by decide +kernel) (by decide +kernel) (fun hp7q => ?_)
    refine n_iload_n (n := 1) (by decide +kernel) rfl ?_
    obtain ⟨q8, h8, hr⟩ := bso hr
    refine n_aald G h8 hp7q (by decide +kernel) (by decide +kernel) (by decide +kernel) (fun hp8q => ?_)
    refine n_iconst (n := 2) (v := 2) (by decide +kernel) rfl ?_
    refine n_iload_n (n := 3) (by decide +kernel) rfl ?_
    refine n_imul (by decide +kernel) ?_
    obtain ⟨v9, h9, hr⟩ := bso hr
    refine n_iald G h9 hp8q (row_117 h8).1 (row_117 h8).2 (by decide +kernel) ?_
    refine n_istore (n := 4) (lo2 := [_, _, _, _, _, _]) (by decide +kernel) (Nat.le_of_ble_eq_true rfl) rfl ?_
    refine n_aload_n (n := 0) (by decide +kernel) rfl ?_
    refine n_getF (q := 117) G fl_RX10_46 hp0 (by decide +kernel) (by decide +kernel) (by decide +kernel) (fun hp10q => ?_)
    refine n_iload_n (n := 1) (by decide +kernel) rfl ?_
    obtain ⟨q11, h11, hr⟩ := bso hr
    refine n_aald G h11 hp10q (by decide +kernel) (by decide +kernel) (by decide +kernel) (fun hp11q => ?_)
    refine n_iconst (n := 2) (v := 2) (by decide +kernel) rfl ?_
    refine n_iload_n (n := 3) (by decide +kernel) rfl ?_
    refine n_imul (by decide +kernel) ?_
    refine n_iconst (n := 1) (v := 1) (by decide +kernel) rfl ?_
    refine n_iadd (by decide +kernel) ?_
    obtain ⟨v12, h12, hr⟩ := bso hr
    refine n_iald G h12 hp11q (row_117 h11).1 (row_117 h11).2 (by decide +kernel) ?_
    refine n_istore (n := 5) (lo2 := [_, _, _, _, _, _]) (by decide +kernel) (Nat.le_of_ble_eq_true rfl) rfl ?_
    refine n_iload (n := 4) (by decide +kernel) rfl ?_
    refine n_iconst (n := 2) (v := 2) (by decide +kernel) rfl ?_
    refine n_icmp_ge (off := 32) (tgt := 101) (by decide +kernel) (by decide) (fun hc13 => ?_) (fun hc13 => ?_)
    · rw [if_pos hc13] at hr
      refine n_iload (n := 4) (by decide +kernel) rfl ?_
      refine n_bipush (n := 7) (v := 7) (by decide +kernel) rfl ?_
      refine n_icmp_ne (off := 45) (tgt := 150) (by decide +kernel) (by decide) (fun hc14 => ?_) (fun hc14 => ?_)
      · rw [if_neg hc14] at hr
        refine n_iincK (n := 2) (j := -1) (w := -1) (lo2 := [_, _, _, _, _, _]) (by decide +kernel) rfl rfl rfl ?_
        refine n_aload_n (n := 0) (by decide +kernel) rfl ?_
        refine n_getF (q := 115) G fl_RX10_40 hp0 (by decide +kernel) (by decide +kernel) (by decide +kernel) (fun hp15q => ?_)
        refine n_iload_n (n := 2) (by decide +kernel) rfl ?_
        refine n_iconst (n := 1) (v := 1) (by decide +kernel) rfl ?_
        refine n_isub (by decide +kernel) ?_
        refine n_iload (n := 4) (by decide +kernel) rfl ?_
        refine n_aload_n (n := 0) (by decide +kernel) rfl ?_
        refine n_getF (q := 115) G fl_RX10_40 hp0 (by decide +kernel) (by decide +kernel) (by decide +kernel) (fun hp16q => ?_)
        refine n_iload_n (n := 2) (by decide +kernel) rfl ?_
        refine n_iconst (n := 1) (v := 1) (by decide +kernel) rfl ?_
        refine n_isub (by decide +kernel) ?_
        obtain ⟨v17, h17, hr⟩ := bso hr
        refine n_iald G h17 hp16q (by decide +kernel) (by decide +kernel) (by decide +kernel) ?_
        refine n_aload_n (n := 0) (by decide +kernel) rfl ?_
        refine n_getF (q := 115) G fl_RX10_40 hp0 (by decide +kernel) (by decide +kernel) (by decide +kernel) (fun hp18q => ?_)
        refine n_iload_n (n := 2) (by decide +kernel) rfl ?_
        obtain ⟨v19, h19, hr⟩ := bso hr
        refine n_iald G h19 hp18q (by decide +kernel) (by decide +kernel) (by decide +kernel) ?_
        obtain ⟨v20, h20, hr⟩ := bso hr
        refine n_callSi G [_, _, _] (x := v20) (B_X10_by G  h20) (by decide) mX10_by ml_RX10_218 rfl rfl (Nat.le_of_ble_eq_true rfl) (by decide +kernel) ?_
        obtain ⟨M21, h21, hr⟩ := bso hr
        refine n_iast G h21 hp15q (by decide +kernel) (by decide +kernel) (by decide +kernel) ?_
        refine n_iincK (n := 3) (j := 1) (w := 1) (lo2 := [_, _, _, _, _, _]) (by decide +kernel) rfl rfl rfl ?_
        refine n_goto (off := -153) (tgt := 30) (by decide +kernel) (by decide) ?_
        cases hr
        refine n_msk [true, true, true, true, false, false] (lo2 := [_, _, _, _, .null, .null]) rfl rfl ?_
        exact hk
      · rw [if_pos hc14] at hr
        refine n_iincK (n := 2) (j := -2) (w := -2) (lo2 := [_, _, _, _, _, _]) (by decide +kernel) rfl rfl rfl ?_
        refine n_aload_n (n := 0) (by decide +kernel) rfl ?_
        refine n_getF (q := 115) G fl_RX10_40 hp0 (by decide +kernel) (by decide +kernel) (by decide +kernel) (fun hp22q => ?_)
        refine n_iload_n (n := 2) (by decide +kernel) rfl ?_
        refine n_iconst (n := 1) (v := 1) (by decide +kernel) rfl ?_
        refine n_isub (by decide +kernel) ?_
        refine n_aload_n (n := 0) (by decide +kernel) rfl ?_
        refine n_getF (q := 115) G fl_RX10_40 hp0 (by decide +kernel) (by decide +kernel) (by decide +kernel) (fun hp23q => ?_)
        refine n_iload_n (n := 2) (by decide +kernel) rfl ?_
        refine n_iconst (n := 1) (v := 1) (by decide +kernel) rfl ?_
        refine n_isub (by decide +kernel) ?_
        obtain ⟨v24, h24, hr⟩ := bso hr
        refine n_iald G h24 hp23q (by decide +kernel) (by decide +kernel) (by decide +kernel) ?_
        refine n_if_le (off := 12) (tgt := 138) (by decide +kernel) (by decide) (fun hc25 => ?_) (fun hc25 => ?_)
        · rw [if_pos hc25] at hr
          refine n_aload_n (n := 0) (by decide +kernel) rfl ?_
          refine n_getF (q := 115) G fl_RX10_40 hp0 (by decide +kernel) (by decide +kernel) (by decide +kernel) (fun hp26q => ?_)
          refine n_iload_n (n := 2) (by decide +kernel) rfl ?_
          refine n_iconst (n := 1) (v := 1) (by decide +kernel) rfl ?_
          refine n_iadd (by decide +kernel) ?_
          obtain ⟨v27, h27, hr⟩ := bso hr
          refine n_iald G h27 hp26q (by decide +kernel) (by decide +kernel) (by decide +kernel) ?_
          refine n_msk [true, true, true, true, false, false] (lo2 := [_, _, _, _, .null, .null]) rfl rfl ?_
          exact B_X10_byLaw_j146 G hp0 hp22q hr hk
        · rw [if_neg hc25] at hr
          refine n_aload_n (n := 0) (by decide +kernel) rfl ?_
          refine n_getF (q := 115) G fl_RX10_40 hp0 (by decide +kernel) (by decide +kernel) (by decide +kernel) (fun hp29q => ?_)
          refine n_iload_n (n := 2) (by decide +kernel) rfl ?_
          obtain ⟨v30, h30, hr⟩ := bso hr
          refine n_iald G h30 hp29q (by decide +kernel) (by decide +kernel) (by decide +kernel) ?_
          refine n_goto (off := 11) (tgt := 146) (by decide +kernel) (by decide) ?_
          refine n_msk [true, true, true, true, false, false] (lo2 := [_, _, _, _, .null, .null]) rfl rfl ?_
          exact B_X10_byLaw_j146 G hp0 hp22q hr hk
    · rw [if_neg hc13] at hr
      refine n_aload_n (n := 0) (by decide +kernel) rfl ?_
      refine n_getF (q := 115) G fl_RX10_40 hp0 (by decide +kernel) (by decide +kernel) (by decide +kernel) (fun hp31q => ?_)
      refine n_iload_n (n := 2) (by decide +kernel) rfl ?_
      refine n_iload (n := 4) (by decide +kernel) rfl ?_
      refine n_if_ne (off := 8) (tgt := 87) (by decide +kernel) (by decide) (fun hc32 => ?_) (fun hc32 => ?_)
      · rw [if_neg hc32] at hr
        refine n_aload_n (n := 0) (by decide +kernel) rfl ?_
        refine n_getF (q := 116) G fl_RX10_43 hp0 (by decide +kernel) (by decide +kernel) (by decide +kernel) (fun hp33q => ?_)
        refine n_iload (n := 5) (by decide +kernel) rfl ?_
        obtain ⟨v34, h34, hr⟩ := bso hr
        refine n_iald G h34 hp33q (by decide +kernel) (by decide +kernel) (by decide +kernel) ?_
        refine n_msk [true, true, true, true, false, false] (lo2 := [_, _, _, _, .null, .null]) rfl rfl ?_
        exact B_X10_byLaw_j94 G hp0 hp31q hr hk
      · rw [if_pos hc32] at hr
        refine n_iload (n := 5) (by decide +kernel) rfl ?_
        refine n_goto (off := 10) (tgt := 94) (by decide +kernel) (by decide) ?_
        refine n_msk [true, true, true, true, false, false] (lo2 := [_, _, _, _, .null, .null]) rfl rfl ?_
        exact B_X10_byLaw_j94 G hp0 hp31q hr hk
set_option maxRecDepth 100000 in
theorem W_X10_byLaw_b30 (G : GG l s0 b L xs D cy ad) {x1 : Int32}  (hp0 : P 76) {s : (Int32 × Int32 × Mm)} {e : Mm} (h : whl fu (f_X10_byLaw_b30 x1) s = some e) (res : Rs) (M' : Mm) : Q_X10_byLaw_b30 l s0 D cy ad P x1 res M' e → P_X10_byLaw_b30 l s0 D cy ad P x1 res M' s := whl_run (P := fun s => P_X10_byLaw_b30 l s0 D cy ad P x1 res M' s) (Q := fun e => Q_X10_byLaw_b30 l s0 D cy ad P x1 res M' e) (B_X10_byLaw_b30 G (res := res) (M' := M') (x1 := x1) hp0) fu s h
set_option maxRecDepth 100000 in
theorem B_X10_byLaw (G : GG l s0 b L xs D cy ad)  {x1 : Int32} {M : Mm} {r : (Int32 × Mm)} (hp0 : P 76) (hr : f_X10_byLaw x1 M = some r) : Cl l s0 D cy ad P 10 KX10_byLaw [.ref 76, .int x1] M (.inl (some (.int r.1))) (r.2) := by
  refine cl_ofN (by decide +kernel) rfl rfl okI (lo0 := [_, _, .null, .null, .null, .null]) rfl ?_
  unfold f_X10_byLaw at hr
  refine n_aload_n (n := 0) (by decide +kernel) rfl ?_
  refine n_getF (q := 114) G fl_RX10_37 hp0 (by decide +kernel) (by decide +kernel) (by decide +kernel) (fun hp1q => ?_)
  refine n_iload_n (n := 1) (by decide +kernel) rfl ?_
  obtain ⟨v2, h2, hr⟩ := bso hr
  refine n_iald G h2 hp1q (by decide +kernel) (by decide +kernel) (by decide +kernel) ?_
  refine n_if_ne (off := 20) (tgt := 26) (by decide +kernel) (by decide) (fun hc3 => ?_) (fun hc3 => ?_)
  · rw [if_neg hc3] at hr
    refine n_iconst (n := 0) (v := 0) (by decide +kernel) rfl ?_
    refine n_istore_n (n := 2) (lo2 := [_, _, _, _, _, _]) (by decide +kernel) (Nat.le_of_ble_eq_true rfl) rfl ?_
    refine n_iconst (n := 0) (v := 0) (by decide +kernel) rfl ?_
    refine n_istore_n (n := 3) (lo2 := [_, _, _, _, _, _]) (by decide +kernel) (Nat.le_of_ble_eq_true rfl) rfl ?_
    obtain ⟨M36, h36, hr⟩ := bso hr
    refine (W_X10_byLaw_b30 G hp0 h36 _ _) ?_
    dsimp only [Q_X10_byLaw_b30]
    refine n_aload_n (n := 0) (by decide +kernel) rfl ?_
    refine n_getF (q := 115) G fl_RX10_40 hp0 (by decide +kernel) (by decide +kernel) (by decide +kernel) (fun hp37q => ?_)
    refine n_iconst (n := 0) (v := 0) (by decide +kernel) rfl ?_
    obtain ⟨v38, h38, hr⟩ := bso hr
    refine n_iald G h38 hp37q (by decide +kernel) (by decide +kernel) (by decide +kernel) ?_
    cases hr
    exact n_ireturn (by decide +kernel)
  · rw [if_pos hc3] at hr
    refine n_iload_n (n := 1) (by decide +kernel) rfl ?_
    refine n_if_ne (off := 14) (tgt := 24) (by decide +kernel) (by decide) (fun hc39 => ?_) (fun hc39 => ?_)
    · rw [if_neg hc39] at hr
      refine n_iconst (n := 0) (v := 0) (by decide +kernel) rfl ?_
      cases hr
      exact n_ireturn (by decide +kernel)
    · rw [if_pos hc39] at hr
      refine n_iconst (n := 2) (v := 2) (by decide +kernel) rfl ?_
      refine n_aload_n (n := 0) (by decide +kernel) rfl ?_
      refine n_getF (q := 116) G fl_RX10_43 hp0 (by decide +kernel) (by decide +kernel) (by decide +kernel) (fun hp40q => ?_)
      refine n_iconst (n := 0) (v := 0) (by decide +kernel) rfl ?_
      obtain ⟨v41, h41, hr⟩ := bso hr
      refine n_iald G h41 hp40q (by decide +kernel) (by decide +kernel) (by decide +kernel) ?_
      refine n_imul (by decide +kernel) ?_
      refine n_goto (off := 4) (tgt := 25) (by decide +kernel) (by decide) ?_
      cases hr
      exact n_ireturn (by decide +kernel)
set_option maxRecDepth 100000 in
theorem B_X10_of (G : GG l s0 b L xs D cy ad)  {a0 : Nat} {x1 : Int32} {x2 : Int32} {M : Mm} {r : Int32} (hp0 : P a0) (hs0 : SH a0 = 12) (hr : f_X10_of a0 x1 x2 M = some r) : Cl l s0 D cy ad P 9 KX10_of [.ref a0, .int x1, .int x2] M (.inl (some (.int r))) (M) := by
  refine cl_ofN (by decide +kernel) rfl rfl okI (lo0 := [_, _, _]) rfl ?_
  unfold f_X10_of at hr
  refine n_aload_n (n := 0) (by decide +kernel) rfl ?_
  refine n_bipush (n := 6) (v := 6) (by decide +kernel) rfl ?_
  refine n_iload_n (n := 1) (by decide +kernel) rfl ?_
  refine n_imul (by decide +kernel) ?_
  refine n_iload_n (n := 2) (by decide +kernel) rfl ?_
  refine n_iadd (by decide +kernel) ?_
  obtain ⟨v1, h1, hr⟩ := bso hr
  refine n_iald G h1 hp0 hs0 rfl (by decide +kernel) ?_
  cases hr
  exact n_ireturn (by decide +kernel)
set_option maxRecDepth 100000 in
theorem B_X10_isLying (G : GG l s0 b L xs D cy ad)  {a0 : Nat} {x1 : Int32} {M : Mm} {r : Int32} (hp0 : P a0) (hs0 : SH a0 = 12) (hr : f_X10_isLying a0 x1 M = some r) : Cl l s0 D cy ad P 10 KX10_isLying [.ref a0, .int x1] M (.inl (some (.int r))) (M) := by
  unfold f_X10_isLying at hr
  obtain ⟨v0, h0, h1⟩ := bso hr
  clear hr
  obtain ⟨hb, rfl⟩ := rB_in h1
  have hr := h0
  clear h0
  refine cl_ofN (by decide +kernel) rfl rfl (okB hb) (lo0 := [_, _]) rfl ?_
  unfold g_X10_isLying at hr
  refine n_aload_n (n := 0) (by decide +kernel) rfl ?_
  refine n_iload_n (n := 1) (by decide +kernel) rfl ?_
  refine n_iconst (n := 4) (v := 4) (by decide +kernel) rfl ?_
  obtain ⟨v1, h1, hr⟩ := bso hr
  refine n_callSi G [_, _, _] (x := v1) (B_X10_of G hp0 hs0 h1) (by decide) mX10_of ml_RX10_222 rfl rfl (Nat.le_of_ble_eq_true rfl) (by decide +kernel) ?_
  refine n_dia1 (J := 14) (c := v1 = 0) (a := (1 : Int32)) (b := (0 : Int32)) (fun hJ => ?_) ?_
  · refine n_if_ne (off := 7) (tgt := 13) (by decide +kernel) (by decide) (fun hc2 => ?_) (fun hc2 => ?_)
    · refine n_iconst (n := 0) (v := 0) (by decide +kernel) rfl ?_
      exact hJ _ (if_neg hc2).symm
    · refine n_iconst (n := 1) (v := 1) (by decide +kernel) rfl ?_
      refine n_goto (off := 4) (tgt := 14) (by decide +kernel) (by decide) ?_
      exact hJ _ (if_pos hc2).symm
  cases hr
  exact n_ireturn (by decide +kernel)
set_option maxRecDepth 100000 in
theorem B_X10_cellOf (G : GG l s0 b L xs D cy ad)  {a0 : Nat} {x1 : Int32} {M : Mm} {r : Int32} (hp0 : P a0) (hs0 : SH a0 = 12) (hr : f_X10_cellOf a0 x1 M = some r) : Cl l s0 D cy ad P 10 KX10_cellOf [.ref a0, .int x1] M (.inl (some (.int r))) (M) := by
  refine cl_ofN (by decide +kernel) rfl rfl okI (lo0 := [_, _]) rfl ?_
  unfold f_X10_cellOf at hr
  refine n_bipush (n := 8) (v := 8) (by decide +kernel) rfl ?_
  refine n_aload_n (n := 0) (by decide +kernel) rfl ?_
  refine n_iload_n (n := 1) (by decide +kernel) rfl ?_
  refine n_iconst (n := 1) (v := 1) (by decide +kernel) rfl ?_
  obtain ⟨v1, h1, hr⟩ := bso hr
  refine n_callSi G [_, _, _] (x := v1) (B_X10_of G hp0 hs0 h1) (by decide) mX10_of ml_RX10_222 rfl rfl (Nat.le_of_ble_eq_true rfl) (by decide +kernel) ?_
  refine n_imul (by decide +kernel) ?_
  refine n_aload_n (n := 0) (by decide +kernel) rfl ?_
  refine n_iload_n (n := 1) (by decide +kernel) rfl ?_
  refine n_iconst (n := 0) (v := 0) (by decide +kernel) rfl ?_
  obtain ⟨v2, h2, hr⟩ := bso hr
  refine n_callSi G [_, _, _] (x := v2) (B_X10_of G hp0 hs0 h2) (by decide) mX10_of ml_RX10_222 rfl rfl (Nat.le_of_ble_eq_true rfl) (by decide +kernel) ?_
  refine n_iadd (by decide +kernel) ?_
  cases hr
  exact n_ireturn (by decide +kernel)
set_option maxRecDepth 100000 in
theorem B_X10_isLost (G : GG l s0 b L xs D cy ad)  {a0 : Nat} {x1 : Int32} {M : Mm} {r : Int32} (hp0 : P a0) (hs0 : SH a0 = 12) (hr : f_X10_isLost a0 x1 M = some r) : Cl l s0 D cy ad P 9 KX10_isLost [.ref a0, .int x1] M (.inl (some (.int r))) (M) := by
  unfold f_X10_isLost at hr
  obtain ⟨v0, h0, h1⟩ := bso hr
  clear hr
  obtain ⟨hb, rfl⟩ := rB_in h1
  have hr := h0
  clear h0
  refine cl_ofN (by decide +kernel) rfl rfl (okB hb) (lo0 := [_, _]) rfl ?_
  unfold g_X10_isLost at hr
  refine n_aload_n (n := 0) (by decide +kernel) rfl ?_
  refine n_sipush (n := 367) (v := 367) (by decide +kernel) (by decide +kernel) ?_
  refine n_iload_n (n := 1) (by decide +kernel) rfl ?_
  refine n_iadd (by decide +kernel) ?_
  obtain ⟨v1, h1, hr⟩ := bso hr
  refine n_iald G h1 hp0 hs0 rfl (by decide +kernel) ?_
  refine n_iconst (n := 1) (v := 1) (by decide +kernel) rfl ?_
  refine n_dia2 (J := 16) (c := v1 = (1 : Int32)) (a := (1 : Int32)) (b := (0 : Int32)) (fun hJ => ?_) ?_
  · refine n_icmp_ne (off := 7) (tgt := 15) (by decide +kernel) (by decide) (fun hc2 => ?_) (fun hc2 => ?_)
    · refine n_iconst (n := 0) (v := 0) (by decide +kernel) rfl ?_
      exact hJ _ (if_neg hc2).symm
    · refine n_iconst (n := 1) (v := 1) (by decide +kernel) rfl ?_
      refine n_goto (off := 4) (tgt := 16) (by decide +kernel) (by decide) ?_
      exact hJ _ (if_pos hc2).symm
  cases hr
  exact n_ireturn (by decide +kernel)
abbrev P_X10_lyingIn_b4 (l : Launch) (s0 : State) (D : va_G) (cy : Nat → ClassId) (ad : Nat → Nat) (P : Nat → Prop) (a0 : Nat) (x1 : Int32) (M : Mm) (res : Rs) (M' : Mm) (s : (Int32 × Int32)) : Prop := Rn l s0 D cy ad P 11 KX10_lyingIn 4 [.ref a0, .int x1, .int (s.1), .int (s.2)] [] M res M'
abbrev Q_X10_lyingIn_b4 (l : Launch) (s0 : State) (D : va_G) (cy : Nat → ClassId) (ad : Nat → Nat) (P : Nat → Prop) (a0 : Nat) (x1 : Int32) (M : Mm) (res : Rs) (M' : Mm) (e : Int32) : Prop := Rn l s0 D cy ad P 11 KX10_lyingIn 44 [.null, .null, .int (e), .null] [] M res M'
set_option maxRecDepth 100000 in
theorem B_X10_lyingIn_j35 (G : GG l s0 b L xs D cy ad) {a0 : Nat} {x1 : Int32} {x3 : Int32} {xs0 : Int32} {M : Mm}  {res : Rs} {M' : Mm} {r : ((Int32 × Int32) ⊕ Int32)} (hp0 : P a0) (hs0 : SH a0 = 12) (hr : f_X10_lyingIn_j35 a0 x1 x3 xs0 M = some r) (hk : mtc (P_X10_lyingIn_b4 l s0 D cy ad P a0 x1 M res M') (Q_X10_lyingIn_b4 l s0 D cy ad P a0 x1 M res M') r) : Rn l s0 D cy ad P 11 KX10_lyingIn 35 [.ref a0, .int x1, .null, .int x3] [.int xs0] M res M' := by
  unfold f_X10_lyingIn_j35 at hr
  refine n_iconst (n := 0) (v := 0) (by decide +kernel) rfl ?_
  refine n_iadd (by decide +kernel) ?_
  refine n_istore_n (n := 2) (lo2 := [_, _, _, _]) (by decide +kernel) (Nat.le_of_ble_eq_true rfl) rfl ?_
  refine n_iincK (n := 3) (j := 1) (w := 1) (lo2 := [_, _, _, _]) (by decide +kernel) rfl rfl rfl ?_
  refine n_goto (off := -37) (tgt := 4) (by decide +kernel) (by decide) ?_
  cases hr
  exact hk
set_option maxRecDepth 100000 in
theorem B_X10_lyingIn_b4 (G : GG l s0 b L xs D cy ad) {a0 : Nat} {x1 : Int32} {M : Mm} {res : Rs} {M' : Mm} (hp0 : P a0) (hs0 : SH a0 = 12) : ∀ (s : (Int32 × Int32)) (r : (Int32 × Int32) ⊕ Int32), f_X10_lyingIn_b4 a0 x1 M s = some r → mtc (P_X10_lyingIn_b4 l s0 D cy ad P a0 x1 M res M') (Q_X10_lyingIn_b4 l s0 D cy ad P a0 x1 M res M') r → P_X10_lyingIn_b4 l s0 D cy ad P a0 x1 M res M' s := by
  intro s r hr hk
  obtain ⟨x2, x3⟩ := s
  unfold f_X10_lyingIn_b4 at hr
  try dsimp only at hr
  dsimp only [P_X10_lyingIn_b4]
  refine n_iload_n (n := 3) (by decide +kernel) rfl ?_
  refine n_aload_n (n := 0) (by decide +kernel) rfl ?_
  refine n_sipush (n := 360) (v := 360) (by decide +kernel) (by decide +kernel) ?_
  obtain ⟨v1, h1, hr⟩ := bso hr
  refine n_iald G h1 hp0 hs0 rfl (by decide +kernel) ?_
  refine n_icmp_ge (off := 34) (tgt := 44) (by decide +kernel) (by decide) (fun hc2 => ?_) (fun hc2 => ?_)
  · rw [if_pos hc2] at hr
    cases hr
    refine n_msk [false, false, true, false] (lo2 := [.null, .null, _, .null]) rfl rfl ?_
    exact hk
  · rw [if_neg hc2] at hr
    refine n_iload_n (n := 2) (by decide +kernel) rfl ?_
    refine n_aload_n (n := 0) (by decide +kernel) rfl ?_
    refine n_iload_n (n := 3) (by decide +kernel) rfl ?_
    obtain ⟨v3, h3, hr⟩ := bso hr
    refine n_callSi G [_, _] (x := v3) (B_X10_isLying G hp0 hs0 h3) (by decide) mX10_isLying ml_RX10_226 rfl rfl (Nat.le_of_ble_eq_true rfl) (by decide +kernel) ?_
    refine n_if_eq (off := 16) (tgt := 35) (by decide +kernel) (by decide) (fun hc4 => ?_) (fun hc4 => ?_)
    · rw [if_pos hc4] at hr
      refine n_msk [true, true, false, true] (lo2 := [_, _, .null, _]) rfl rfl ?_
      exact B_X10_lyingIn_j35 G hp0 hs0 hr hk
    · rw [if_neg hc4] at hr
      refine n_aload_n (n := 0) (by decide +kernel) rfl ?_
      refine n_iload_n (n := 3) (by decide +kernel) rfl ?_
      obtain ⟨v5, h5, hr⟩ := bso hr
      refine n_callSi G [_, _] (x := v5) (B_X10_cellOf G hp0 hs0 h5) (by decide) mX10_cellOf ml_RX10_230 rfl rfl (Nat.le_of_ble_eq_true rfl) (by decide +kernel) ?_
      refine n_iload_n (n := 1) (by decide +kernel) rfl ?_
      refine n_icmp_ne (off := 7) (tgt := 35) (by decide +kernel) (by decide) (fun hc6 => ?_) (fun hc6 => ?_)
      · rw [if_neg hc6] at hr
        refine n_msk [true, true, false, true] (lo2 := [_, _, .null, _]) rfl rfl ?_
        exact B_X10_lyingIn_j35 G hp0 hs0 hr hk
      · rw [if_pos hc6] at hr
        refine n_iconst (n := 1) (v := 1) (by decide +kernel) rfl ?_
        refine n_goto (off := 4) (tgt := 36) (by decide +kernel) (by decide) ?_
        refine n_iadd (by decide +kernel) ?_
        refine n_istore_n (n := 2) (lo2 := [_, _, _, _]) (by decide +kernel) (Nat.le_of_ble_eq_true rfl) rfl ?_
        refine n_iincK (n := 3) (j := 1) (w := 1) (lo2 := [_, _, _, _]) (by decide +kernel) rfl rfl rfl ?_
        refine n_goto (off := -37) (tgt := 4) (by decide +kernel) (by decide) ?_
        cases hr
        exact hk
set_option maxRecDepth 100000 in
theorem W_X10_lyingIn_b4 (G : GG l s0 b L xs D cy ad) {a0 : Nat} {x1 : Int32} {M : Mm} (hp0 : P a0) (hs0 : SH a0 = 12) {s : (Int32 × Int32)} {e : Int32} (h : whl fu (f_X10_lyingIn_b4 a0 x1 M) s = some e) (res : Rs) (M' : Mm) : Q_X10_lyingIn_b4 l s0 D cy ad P a0 x1 M res M' e → P_X10_lyingIn_b4 l s0 D cy ad P a0 x1 M res M' s := whl_run (P := fun s => P_X10_lyingIn_b4 l s0 D cy ad P a0 x1 M res M' s) (Q := fun e => Q_X10_lyingIn_b4 l s0 D cy ad P a0 x1 M res M' e) (B_X10_lyingIn_b4 G (res := res) (M' := M') (a0 := a0) (x1 := x1) (M := M) hp0 hs0) fu s h
set_option maxRecDepth 100000 in
theorem B_X10_lyingIn (G : GG l s0 b L xs D cy ad)  {a0 : Nat} {x1 : Int32} {M : Mm} {r : Int32} (hp0 : P a0) (hs0 : SH a0 = 12) (hr : f_X10_lyingIn a0 x1 M = some r) : Cl l s0 D cy ad P 11 KX10_lyingIn [.ref a0, .int x1] M (.inl (some (.int r))) (M) := by
  refine cl_ofN (by decide +kernel) rfl rfl okI (lo0 := [_, _, .null, .null]) rfl ?_
  unfold f_X10_lyingIn at hr
  refine n_iconst (n := 0) (v := 0) (by decide +kernel) rfl ?_
  refine n_istore_n (n := 2) (lo2 := [_, _, _, _]) (by decide +kernel) (Nat.le_of_ble_eq_true rfl) rfl ?_
  refine n_iconst (n := 0) (v := 0) (by decide +kernel) rfl ?_
  refine n_istore_n (n := 3) (lo2 := [_, _, _, _]) (by decide +kernel) (Nat.le_of_ble_eq_true rfl) rfl ?_
  obtain ⟨z2_7, h7, hr⟩ := bso hr
  refine (W_X10_lyingIn_b4 G hp0 hs0 h7 _ _) ?_
  dsimp only [Q_X10_lyingIn_b4]
  refine n_iload_n (n := 2) (by decide +kernel) rfl ?_
  cases hr
  exact n_ireturn (by decide +kernel)
abbrev P_X10_lying_b4 (l : Launch) (s0 : State) (D : va_G) (cy : Nat → ClassId) (ad : Nat → Nat) (P : Nat → Prop) (a0 : Nat) (M : Mm) (res : Rs) (M' : Mm) (s : (Int32 × Int32)) : Prop := Rn l s0 D cy ad P 11 KX10_lying 4 [.ref a0, .int (s.1), .int (s.2)] [] M res M'
abbrev Q_X10_lying_b4 (l : Launch) (s0 : State) (D : va_G) (cy : Nat → ClassId) (ad : Nat → Nat) (P : Nat → Prop) (a0 : Nat) (M : Mm) (res : Rs) (M' : Mm) (e : Int32) : Prop := Rn l s0 D cy ad P 11 KX10_lying 35 [.null, .int (e), .null] [] M res M'
set_option maxRecDepth 100000 in
theorem B_X10_lying_b4 (G : GG l s0 b L xs D cy ad) {a0 : Nat} {M : Mm} {res : Rs} {M' : Mm} (hp0 : P a0) (hs0 : SH a0 = 12) : ∀ (s : (Int32 × Int32)) (r : (Int32 × Int32) ⊕ Int32), f_X10_lying_b4 a0 M s = some r → mtc (P_X10_lying_b4 l s0 D cy ad P a0 M res M') (Q_X10_lying_b4 l s0 D cy ad P a0 M res M') r → P_X10_lying_b4 l s0 D cy ad P a0 M res M' s := by
  intro s r hr hk
  obtain ⟨x1, x2⟩ := s
  unfold f_X10_lying_b4 at hr
  try dsimp only at hr
  dsimp only [P_X10_lying_b4]
  refine n_iload_n (n := 2) (by decide +kernel) rfl ?_
  refine n_aload_n (n := 0) (by decide +kernel) rfl ?_
  refine n_sipush (n := 360) (v := 360) (by decide +kernel) (by decide +kernel) ?_
  obtain ⟨v1, h1, hr⟩ := bso hr
  refine n_iald G h1 hp0 hs0 rfl (by decide +kernel) ?_
  refine n_icmp_ge (off := 25) (tgt := 35) (by decide +kernel) (by decide) (fun hc2 => ?_) (fun hc2 => ?_)
  · rw [if_pos hc2] at hr
    cases hr
    refine n_msk [false, true, false] (lo2 := [.null, _, .null]) rfl rfl ?_
    exact hk
  · rw [if_neg hc2] at hr
    refine n_iload_n (n := 1) (by decide +kernel) rfl ?_
    refine n_aload_n (n := 0) (by decide +kernel) rfl ?_
    refine n_iload_n (n := 2) (by decide +kernel) rfl ?_
    obtain ⟨v3, h3, hr⟩ := bso hr
    refine n_callSi G [_, _] (x := v3) (B_X10_isLying G hp0 hs0 h3) (by decide) mX10_isLying ml_RX10_226 rfl rfl (Nat.le_of_ble_eq_true rfl) (by decide +kernel) ?_
    refine n_dia1 (J := 27) (c := v3 = 0) (a := (0 : Int32)) (b := (1 : Int32)) (fun hJ => ?_) ?_
    · refine n_if_eq (off := 7) (tgt := 26) (by decide +kernel) (by decide) (fun hc4 => ?_) (fun hc4 => ?_)
      · refine n_iconst (n := 0) (v := 0) (by decide +kernel) rfl ?_
        exact hJ _ (if_pos hc4).symm
      · refine n_iconst (n := 1) (v := 1) (by decide +kernel) rfl ?_
        refine n_goto (off := 4) (tgt := 27) (by decide +kernel) (by decide) ?_
        exact hJ _ (if_neg hc4).symm
    refine n_iadd (by decide +kernel) ?_
    refine n_istore_n (n := 1) (lo2 := [_, _, _]) (by decide +kernel) (Nat.le_of_ble_eq_true rfl) rfl ?_
    refine n_iincK (n := 2) (j := 1) (w := 1) (lo2 := [_, _, _]) (by decide +kernel) rfl rfl rfl ?_
    refine n_goto (off := -28) (tgt := 4) (by decide +kernel) (by decide) ?_
    cases hr
    exact hk
set_option maxRecDepth 100000 in
theorem W_X10_lying_b4 (G : GG l s0 b L xs D cy ad) {a0 : Nat} {M : Mm} (hp0 : P a0) (hs0 : SH a0 = 12) {s : (Int32 × Int32)} {e : Int32} (h : whl fu (f_X10_lying_b4 a0 M) s = some e) (res : Rs) (M' : Mm) : Q_X10_lying_b4 l s0 D cy ad P a0 M res M' e → P_X10_lying_b4 l s0 D cy ad P a0 M res M' s := whl_run (P := fun s => P_X10_lying_b4 l s0 D cy ad P a0 M res M' s) (Q := fun e => Q_X10_lying_b4 l s0 D cy ad P a0 M res M' e) (B_X10_lying_b4 G (res := res) (M' := M') (a0 := a0) (M := M) hp0 hs0) fu s h
set_option maxRecDepth 100000 in
theorem B_X10_lying (G : GG l s0 b L xs D cy ad)  {a0 : Nat} {M : Mm} {r : Int32} (hp0 : P a0) (hs0 : SH a0 = 12) (hr : f_X10_lying a0 M = some r) : Cl l s0 D cy ad P 11 KX10_lying [.ref a0] M (.inl (some (.int r))) (M) := by
  refine cl_ofN (by decide +kernel) rfl rfl okI (lo0 := [_, .null, .null]) rfl ?_
  unfold f_X10_lying at hr
  refine n_iconst (n := 0) (v := 0) (by decide +kernel) rfl ?_
  refine n_istore_n (n := 1) (lo2 := [_, _, _]) (by decide +kernel) (Nat.le_of_ble_eq_true rfl) rfl ?_
  refine n_iconst (n := 0) (v := 0) (by decide +kernel) rfl ?_
  refine n_istore_n (n := 2) (lo2 := [_, _, _]) (by decide +kernel) (Nat.le_of_ble_eq_true rfl) rfl ?_
  obtain ⟨z1_5, h5, hr⟩ := bso hr
  refine (W_X10_lying_b4 G hp0 hs0 h5 _ _) ?_
  dsimp only [Q_X10_lying_b4]
  refine n_iload_n (n := 1) (by decide +kernel) rfl ?_
  cases hr
  exact n_ireturn (by decide +kernel)
set_option maxRecDepth 100000 in
theorem B_X10_knows (G : GG l s0 b L xs D cy ad)  {a1 : Nat} {x2 : Int32} {x3 : Int32} {M : Mm} {r : Mm} (hp0 : P 76) (hp1 : P a1) (hs1 : SH a1 = 12) (hr : f_X10_knows a1 x2 x3 M = some r) : Cl l s0 D cy ad P 12 KX10_knows [.ref 76, .ref a1, .int x2, .int x3] M (.inl none) (r) := by
  refine cl_ofN (by decide +kernel) rfl rfl rfl (lo0 := [_, _, _, _]) rfl ?_
  unfold f_X10_knows at hr
  refine n_aload_n (n := 0) (by decide +kernel) rfl ?_
  refine n_getF (q := 116) G fl_RX10_43 hp0 (by decide +kernel) (by decide +kernel) (by decide +kernel) (fun hp1q => ?_)
  refine n_iconst (n := 0) (v := 0) (by decide +kernel) rfl ?_
  refine n_iload_n (n := 3) (by decide +kernel) rfl ?_
  obtain ⟨M2, h2, hr⟩ := bso hr
  refine n_iast G h2 hp1q (by decide +kernel) (by decide +kernel) (by decide +kernel) ?_
  refine n_aload_n (n := 0) (by decide +kernel) rfl ?_
  refine n_getF (q := 116) G fl_RX10_43 hp0 (by decide +kernel) (by decide +kernel) (by decide +kernel) (fun hp3q => ?_)
  refine n_iconst (n := 1) (v := 1) (by decide +kernel) rfl ?_
  refine n_aload_n (n := 0) (by decide +kernel) rfl ?_
  refine n_getF (q := 82) G fl_RX10_29 hp0 (by decide +kernel) (by decide +kernel) (by decide +kernel) (fun hp4q => ?_)
  refine n_iload_n (n := 2) (by decide +kernel) rfl ?_
  obtain ⟨v5, h5, hr⟩ := bso hr
  refine n_iald G h5 hp4q (by decide +kernel) (by decide +kernel) (by decide +kernel) ?_
  obtain ⟨M6, h6, hr⟩ := bso hr
  refine n_iast G h6 hp3q (by decide +kernel) (by decide +kernel) (by decide +kernel) ?_
  refine n_aload_n (n := 0) (by decide +kernel) rfl ?_
  refine n_getF (q := 116) G fl_RX10_43 hp0 (by decide +kernel) (by decide +kernel) (by decide +kernel) (fun hp7q => ?_)
  refine n_iconst (n := 2) (v := 2) (by decide +kernel) rfl ?_
  refine n_aload_n (n := 1) (by decide +kernel) rfl ?_
  refine n_sipush (n := 363) (v := 363) (by decide +kernel) (by decide +kernel) ?_
  obtain ⟨v8, h8, hr⟩ := bso hr
  refine n_iald G h8 hp1 hs1 rfl (by decide +kernel) ?_
  obtain ⟨M9, h9, hr⟩ := bso hr
  refine n_iast G h9 hp7q (by decide +kernel) (by decide +kernel) (by decide +kernel) ?_
  refine n_aload_n (n := 0) (by decide +kernel) rfl ?_
  refine n_getF (q := 116) G fl_RX10_43 hp0 (by decide +kernel) (by decide +kernel) (by decide +kernel) (fun hp10q => ?_)
  refine n_iconst (n := 3) (v := 3) (by decide +kernel) rfl ?_
  refine n_aload_n (n := 1) (by decide +kernel) rfl ?_
  refine n_iload_n (n := 2) (by decide +kernel) rfl ?_
  obtain ⟨v11, h11, hr⟩ := bso hr
  refine n_callSi G [_, _] (x := v11) (B_X10_lyingIn G hp1 hs1 h11) (by decide) mX10_lyingIn ml_RX10_234 rfl rfl (Nat.le_of_ble_eq_true rfl) (by decide +kernel) ?_
  obtain ⟨M12, h12, hr⟩ := bso hr
  refine n_iast G h12 hp10q (by decide +kernel) (by decide +kernel) (by decide +kernel) ?_
  refine n_aload_n (n := 0) (by decide +kernel) rfl ?_
  refine n_getF (q := 116) G fl_RX10_43 hp0 (by decide +kernel) (by decide +kernel) (by decide +kernel) (fun hp13q => ?_)
  refine n_iconst (n := 4) (v := 4) (by decide +kernel) rfl ?_
  refine n_iload_n (n := 2) (by decide +kernel) rfl ?_
  refine n_bipush (n := 8) (v := 8) (by decide +kernel) rfl ?_
  refine n_irem (by decide) (by decide +kernel) ?_
  obtain ⟨M14, h14, hr⟩ := bso hr
  refine n_iast G h14 hp13q (by decide +kernel) (by decide +kernel) (by decide +kernel) ?_
  refine n_aload_n (n := 0) (by decide +kernel) rfl ?_
  refine n_getF (q := 116) G fl_RX10_43 hp0 (by decide +kernel) (by decide +kernel) (by decide +kernel) (fun hp15q => ?_)
  refine n_iconst (n := 5) (v := 5) (by decide +kernel) rfl ?_
  refine n_iload_n (n := 2) (by decide +kernel) rfl ?_
  refine n_bipush (n := 8) (v := 8) (by decide +kernel) rfl ?_
  refine n_idiv (by decide) (by decide +kernel) ?_
  obtain ⟨M16, h16, hr⟩ := bso hr
  refine n_iast G h16 hp15q (by decide +kernel) (by decide +kernel) (by decide +kernel) ?_
  refine n_aload_n (n := 0) (by decide +kernel) rfl ?_
  refine n_getF (q := 116) G fl_RX10_43 hp0 (by decide +kernel) (by decide +kernel) (by decide +kernel) (fun hp17q => ?_)
  refine n_bipush (n := 6) (v := 6) (by decide +kernel) rfl ?_
  refine n_aload_n (n := 1) (by decide +kernel) rfl ?_
  obtain ⟨v18, h18, hr⟩ := bso hr
  refine n_callSi G [_] (x := v18) (B_X10_lying G hp1 hs1 h18) (by decide) mX10_lying ml_RX10_237 rfl rfl (Nat.le_of_ble_eq_true rfl) (by decide +kernel) ?_
  obtain ⟨M19, h19, hr⟩ := bso hr
  refine n_iast G h19 hp17q (by decide +kernel) (by decide +kernel) (by decide +kernel) ?_
  cases hr
  exact n_return (by decide +kernel)
set_option maxRecDepth 100000 in
theorem B_X10_damageOf (G : GG l s0 b L xs D cy ad)  {a1 : Nat} {x2 : Int32} {x3 : Int32} {M : Mm} {r : (Int32 × Mm)} (hp0 : P 76) (hp1 : P a1) (hs1 : SH a1 = 12) (hr : f_X10_damageOf a1 x2 x3 M = some r) : Cl l s0 D cy ad P 13 KX10_damageOf [.ref 76, .ref a1, .int x2, .int x3] M (.inl (some (.int r.1))) (r.2) := by
  refine cl_ofN (by decide +kernel) rfl rfl okI (lo0 := [_, _, _, _]) rfl ?_
  unfold f_X10_damageOf at hr
  refine n_aload_n (n := 0) (by decide +kernel) rfl ?_
  refine n_aload_n (n := 1) (by decide +kernel) rfl ?_
  refine n_iload_n (n := 2) (by decide +kernel) rfl ?_
  refine n_iload_n (n := 3) (by decide +kernel) rfl ?_
  obtain ⟨M1, h1, hr⟩ := bso hr
  refine n_callVv G [_, _, _] (M1 := M1) (B_X10_knows G hp0 hp1 hs1 h1) (by decide) mX10_knows ml_RX10_241 hp0 (by decide +kernel) rfl rfl (Nat.le_of_ble_eq_true rfl) (by decide +kernel) ?_
  refine n_iconst (n := 0) (v := 0) (by decide +kernel) rfl ?_
  refine n_sipush (n := 999) (v := 999) (by decide +kernel) (by decide +kernel) ?_
  refine n_aload_n (n := 0) (by decide +kernel) rfl ?_
  refine n_iconst (n := 0) (v := 0) (by decide +kernel) rfl ?_
  obtain ⟨⟨v2, M2⟩, h2, hr⟩ := bso hr
  try dsimp only at hr
  refine n_callVi G [_] (x := v2) (M1 := M2) (B_X10_byLaw G hp0 h2) (by decide) mX10_byLaw ml_RX10_245 hp0 (by decide +kernel) rfl rfl (Nat.le_of_ble_eq_true rfl) (by decide +kernel) ?_
  obtain ⟨v3, h3, hr⟩ := bso hr
  refine n_callSi G [_, _] (x := v3) (B_X10_less G  h3) (by decide) mX10_less ml_RX10_248 rfl rfl (Nat.le_of_ble_eq_true rfl) (by decide +kernel) ?_
  obtain ⟨v4, h4, hr⟩ := bso hr
  refine n_callSi G [_, _] (x := v4) (B_X10_more G  h4) (by decide) mX10_more ml_RX10_251 rfl rfl (Nat.le_of_ble_eq_true rfl) (by decide +kernel) ?_
  cases hr
  exact n_ireturn (by decide +kernel)
set_option maxRecDepth 100000 in
theorem B_X10_risesIn (G : GG l s0 b L xs D cy ad)  {a1 : Nat} {x2 : Int32} {M : Mm} {r : (Int32 × Mm)} (hp0 : P 76) (hp1 : P a1) (hs1 : SH a1 = 12) (hr : f_X10_risesIn a1 x2 M = some r) : Cl l s0 D cy ad P 13 KX10_risesIn [.ref 76, .ref a1, .int x2] M (.inl (some (.int r.1))) (r.2) := by
  refine cl_ofN (by decide +kernel) rfl rfl okI (lo0 := [_, _, _]) rfl ?_
  unfold f_X10_risesIn at hr
  refine n_aload_n (n := 0) (by decide +kernel) rfl ?_
  refine n_aload_n (n := 1) (by decide +kernel) rfl ?_
  refine n_iload_n (n := 2) (by decide +kernel) rfl ?_
  refine n_iconst (n := 0) (v := 0) (by decide +kernel) rfl ?_
  obtain ⟨M1, h1, hr⟩ := bso hr
  refine n_callVv G [_, _, _] (M1 := M1) (B_X10_knows G hp0 hp1 hs1 h1) (by decide) mX10_knows ml_RX10_241 hp0 (by decide +kernel) rfl rfl (Nat.le_of_ble_eq_true rfl) (by decide +kernel) ?_
  refine n_iconst (n := 0) (v := 0) (by decide +kernel) rfl ?_
  refine n_iconst (n := 2) (v := 2) (by decide +kernel) rfl ?_
  refine n_aload_n (n := 0) (by decide +kernel) rfl ?_
  refine n_iconst (n := 1) (v := 1) (by decide +kernel) rfl ?_
  obtain ⟨⟨v2, M2⟩, h2, hr⟩ := bso hr
  try dsimp only at hr
  refine n_callVi G [_] (x := v2) (M1 := M2) (B_X10_byLaw G hp0 h2) (by decide) mX10_byLaw ml_RX10_245 hp0 (by decide +kernel) rfl rfl (Nat.le_of_ble_eq_true rfl) (by decide +kernel) ?_
  obtain ⟨v3, h3, hr⟩ := bso hr
  refine n_callSi G [_, _] (x := v3) (B_X10_less G  h3) (by decide) mX10_less ml_RX10_248 rfl rfl (Nat.le_of_ble_eq_true rfl) (by decide +kernel) ?_
  obtain ⟨v4, h4, hr⟩ := bso hr
  refine n_callSi G [_, _] (x := v4) (B_X10_more G  h4) (by decide) mX10_more ml_RX10_251 rfl rfl (Nat.le_of_ble_eq_true rfl) (by decide +kernel) ?_
  cases hr
  exact n_ireturn (by decide +kernel)
set_option maxRecDepth 100000 in
theorem B_X10_stepHere (G : GG l s0 b L xs D cy ad)   {M : Mm} {r : (Int32 × Mm)} (hp0 : P 76) (hr : f_X10_stepHere  M = some r) : Cl l s0 D cy ad P 13 KX10_stepHere [.ref 76] M (.inl (some (.int r.1))) (r.2) := by
  refine cl_ofN (by decide +kernel) rfl rfl okI (lo0 := [_]) rfl ?_
  unfold f_X10_stepHere at hr
  refine n_aload_n (n := 0) (by decide +kernel) rfl ?_
  refine n_bipush (n := 20) (v := 20) (by decide +kernel) rfl ?_
  refine n_bipush (n := 15) (v := 15) (by decide +kernel) rfl ?_
  refine n_iconst (n := 0) (v := 0) (by decide +kernel) rfl ?_
  refine n_iconst (n := 0) (v := 0) (by decide +kernel) rfl ?_
  refine n_iconst (n := 0) (v := 0) (by decide +kernel) rfl ?_
  refine n_iconst (n := 0) (v := 0) (by decide +kernel) rfl ?_
  obtain ⟨⟨v1, M1⟩, h1, hr⟩ := bso hr
  try dsimp only at hr
  refine n_callVi G [_, _, _, _, _, _] (x := v1) (M1 := M1) (B_X10_isWord G hp0 h1) (by decide) mX10_isWord ml_RX10_137 hp0 (by decide +kernel) rfl rfl (Nat.le_of_ble_eq_true rfl) (by decide +kernel) ?_
  refine n_if_eq (off := 5) (tgt := 17) (by decide +kernel) (by decide) (fun hc2 => ?_) (fun hc2 => ?_)
  · rw [if_pos hc2] at hr
    refine n_aload_n (n := 0) (by decide +kernel) rfl ?_
    refine n_bipush (n := 12) (v := 12) (by decide +kernel) rfl ?_
    refine n_bipush (n := 9) (v := 9) (by decide +kernel) rfl ?_
    refine n_bipush (n := 6) (v := 6) (by decide +kernel) rfl ?_
    refine n_bipush (n := 20) (v := 20) (by decide +kernel) rfl ?_
    refine n_iconst (n := 0) (v := 0) (by decide +kernel) rfl ?_
    refine n_iconst (n := 0) (v := 0) (by decide +kernel) rfl ?_
    obtain ⟨⟨v3, M3⟩, h3, hr⟩ := bso hr
    try dsimp only at hr
    refine n_callVi G [_, _, _, _, _, _] (x := v3) (M1 := M3) (B_X10_isWord G hp0 h3) (by decide) mX10_isWord ml_RX10_137 hp0 (by decide +kernel) rfl rfl (Nat.le_of_ble_eq_true rfl) (by decide +kernel) ?_
    refine n_if_eq (off := 5) (tgt := 36) (by decide +kernel) (by decide) (fun hc4 => ?_) (fun hc4 => ?_)
    · rw [if_pos hc4] at hr
      refine n_aload_n (n := 0) (by decide +kernel) rfl ?_
      refine n_iconst (n := 2) (v := 2) (by decide +kernel) rfl ?_
      refine n_iconst (n := 1) (v := 1) (by decide +kernel) rfl ?_
      refine n_bipush (n := 18) (v := 18) (by decide +kernel) rfl ?_
      refine n_iconst (n := 0) (v := 0) (by decide +kernel) rfl ?_
      refine n_iconst (n := 0) (v := 0) (by decide +kernel) rfl ?_
      refine n_iconst (n := 0) (v := 0) (by decide +kernel) rfl ?_
      obtain ⟨⟨v5, M5⟩, h5, hr⟩ := bso hr
      try dsimp only at hr
      refine n_callVi G [_, _, _, _, _, _] (x := v5) (M1 := M5) (B_X10_isWord G hp0 h5) (by decide) mX10_isWord ml_RX10_137 hp0 (by decide +kernel) rfl rfl (Nat.le_of_ble_eq_true rfl) (by decide +kernel) ?_
      refine n_if_eq (off := 5) (tgt := 52) (by decide +kernel) (by decide) (fun hc6 => ?_) (fun hc6 => ?_)
      · rw [if_pos hc6] at hr
        refine n_aload_n (n := 0) (by decide +kernel) rfl ?_
        refine n_bipush (n := 23) (v := 23) (by decide +kernel) rfl ?_
        refine n_iconst (n := 1) (v := 1) (by decide +kernel) rfl ?_
        refine n_bipush (n := 12) (v := 12) (by decide +kernel) rfl ?_
        refine n_bipush (n := 12) (v := 12) (by decide +kernel) rfl ?_
        refine n_iconst (n := 0) (v := 0) (by decide +kernel) rfl ?_
        refine n_iconst (n := 0) (v := 0) (by decide +kernel) rfl ?_
        obtain ⟨⟨v7, M7⟩, h7, hr⟩ := bso hr
        try dsimp only at hr
        refine n_callVi G [_, _, _, _, _, _] (x := v7) (M1 := M7) (B_X10_isWord G hp0 h7) (by decide) mX10_isWord ml_RX10_137 hp0 (by decide +kernel) rfl rfl (Nat.le_of_ble_eq_true rfl) (by decide +kernel) ?_
        refine n_if_eq (off := 5) (tgt := 70) (by decide +kernel) (by decide) (fun hc8 => ?_) (fun hc8 => ?_)
        · rw [if_pos hc8] at hr
          refine n_aload_n (n := 0) (by decide +kernel) rfl ?_
          refine n_bipush (n := 8) (v := 8) (by decide +kernel) rfl ?_
          refine n_iconst (n := 5) (v := 5) (by decide +kernel) rfl ?_
          refine n_iconst (n := 1) (v := 1) (by decide +kernel) rfl ?_
          refine n_bipush (n := 16) (v := 16) (by decide +kernel) rfl ?_
          refine n_iconst (n := 0) (v := 0) (by decide +kernel) rfl ?_
          refine n_iconst (n := 0) (v := 0) (by decide +kernel) rfl ?_
          obtain ⟨⟨v9, M9⟩, h9, hr⟩ := bso hr
          try dsimp only at hr
          refine n_callVi G [_, _, _, _, _, _] (x := v9) (M1 := M9) (B_X10_isWord G hp0 h9) (by decide) mX10_isWord ml_RX10_137 hp0 (by decide +kernel) rfl rfl (Nat.le_of_ble_eq_true rfl) (by decide +kernel) ?_
          refine n_if_eq (off := 5) (tgt := 87) (by decide +kernel) (by decide) (fun hc10 => ?_) (fun hc10 => ?_)
          · rw [if_pos hc10] at hr
            refine n_aload_n (n := 0) (by decide +kernel) rfl ?_
            refine n_bipush (n := 18) (v := 18) (by decide +kernel) rfl ?_
            refine n_bipush (n := 15) (v := 15) (by decide +kernel) rfl ?_
            refine n_bipush (n := 21) (v := 21) (by decide +kernel) rfl ?_
            refine n_bipush (n := 14) (v := 14) (by decide +kernel) rfl ?_
            refine n_iconst (n := 4) (v := 4) (by decide +kernel) rfl ?_
            refine n_iconst (n := 0) (v := 0) (by decide +kernel) rfl ?_
            obtain ⟨⟨v11, M11⟩, h11, hr⟩ := bso hr
            try dsimp only at hr
            refine n_callVi G [_, _, _, _, _, _] (x := v11) (M1 := M11) (B_X10_isWord G hp0 h11) (by decide) mX10_isWord ml_RX10_137 hp0 (by decide +kernel) rfl rfl (Nat.le_of_ble_eq_true rfl) (by decide +kernel) ?_
            refine n_if_eq (off := 5) (tgt := 106) (by decide +kernel) (by decide) (fun hc12 => ?_) (fun hc12 => ?_)
            · rw [if_pos hc12] at hr
              refine n_aload_n (n := 0) (by decide +kernel) rfl ?_
              refine n_bipush (n := 23) (v := 23) (by decide +kernel) rfl ?_
              refine n_bipush (n := 9) (v := 9) (by decide +kernel) rfl ?_
              refine n_bipush (n := 14) (v := 14) (by decide +kernel) rfl ?_
              refine n_bipush (n := 20) (v := 20) (by decide +kernel) rfl ?_
              refine n_iconst (n := 5) (v := 5) (by decide +kernel) rfl ?_
              refine n_bipush (n := 18) (v := 18) (by decide +kernel) rfl ?_
              obtain ⟨⟨v13, M13⟩, h13, hr⟩ := bso hr
              try dsimp only at hr
              refine n_callVi G [_, _, _, _, _, _] (x := v13) (M1 := M13) (B_X10_isWord G hp0 h13) (by decide) mX10_isWord ml_RX10_137 hp0 (by decide +kernel) rfl rfl (Nat.le_of_ble_eq_true rfl) (by decide +kernel) ?_
              refine n_if_eq (off := 6) (tgt := 127) (by decide +kernel) (by decide) (fun hc14 => ?_) (fun hc14 => ?_)
              · rw [if_pos hc14] at hr
                refine n_aload_n (n := 0) (by decide +kernel) rfl ?_
                refine n_iconst (n := 1) (v := 1) (by decide +kernel) rfl ?_
                refine n_bipush (n := 7) (v := 7) (by decide +kernel) rfl ?_
                refine n_iconst (n := 1) (v := 1) (by decide +kernel) rfl ?_
                refine n_bipush (n := 9) (v := 9) (by decide +kernel) rfl ?_
                refine n_bipush (n := 14) (v := 14) (by decide +kernel) rfl ?_
                refine n_iconst (n := 0) (v := 0) (by decide +kernel) rfl ?_
                obtain ⟨⟨v15, M15⟩, h15, hr⟩ := bso hr
                try dsimp only at hr
                refine n_callVi G [_, _, _, _, _, _] (x := v15) (M1 := M15) (B_X10_isWord G hp0 h15) (by decide) mX10_isWord ml_RX10_137 hp0 (by decide +kernel) rfl rfl (Nat.le_of_ble_eq_true rfl) (by decide +kernel) ?_
                refine n_dia1 (J := 149) (c := v15 = 0) (a := (-1 : Int32)) (b := (7 : Int32)) (fun hJ => ?_) ?_
                · refine n_if_eq (off := 8) (tgt := 148) (by decide +kernel) (by decide) (fun hc16 => ?_) (fun hc16 => ?_)
                  · refine n_iconst (n := -1) (v := -1) (by decide +kernel) rfl ?_
                    exact hJ _ (if_pos hc16).symm
                  · refine n_bipush (n := 7) (v := 7) (by decide +kernel) rfl ?_
                    refine n_goto (off := 4) (tgt := 149) (by decide +kernel) (by decide) ?_
                    exact hJ _ (if_neg hc16).symm
                cases hr
                exact n_ireturn (by decide +kernel)
              · rw [if_neg hc14] at hr
                refine n_bipush (n := 6) (v := 6) (by decide +kernel) rfl ?_
                cases hr
                exact n_ireturn (by decide +kernel)
            · rw [if_neg hc12] at hr
              refine n_iconst (n := 5) (v := 5) (by decide +kernel) rfl ?_
              cases hr
              exact n_ireturn (by decide +kernel)
          · rw [if_neg hc10] at hr
            refine n_iconst (n := 4) (v := 4) (by decide +kernel) rfl ?_
            cases hr
            exact n_ireturn (by decide +kernel)
        · rw [if_neg hc8] at hr
          refine n_iconst (n := 3) (v := 3) (by decide +kernel) rfl ?_
          cases hr
          exact n_ireturn (by decide +kernel)
      · rw [if_neg hc6] at hr
        refine n_iconst (n := 2) (v := 2) (by decide +kernel) rfl ?_
        cases hr
        exact n_ireturn (by decide +kernel)
    · rw [if_neg hc4] at hr
      refine n_iconst (n := 1) (v := 1) (by decide +kernel) rfl ?_
      cases hr
      exact n_ireturn (by decide +kernel)
  · rw [if_neg hc2] at hr
    refine n_iconst (n := 0) (v := 0) (by decide +kernel) rfl ?_
    cases hr
    exact n_ireturn (by decide +kernel)
abbrev P_X10_readsStep_b124 (l : Launch) (s0 : State) (D : va_G) (cy : Nat → ClassId) (ad : Nat → Nat) (P : Nat → Prop) (n : Nat) (a2 : Nat)  (res : Rs) (M' : Mm) (s : Mm) : Prop := Rn l s0 D cy ad P (13 + (n + 1)) KX10_readsStep 124 [.ref 76, .null, .ref a2] [] (s) res M'
abbrev Q_X10_readsStep_b124 (l : Launch) (s0 : State) (D : va_G) (cy : Nat → ClassId) (ad : Nat → Nat) (P : Nat → Prop) (n : Nat) (a2 : Nat)  (res : Rs) (M' : Mm) (e : Mm) : Prop := Rn l s0 D cy ad P (13 + (n + 1)) KX10_readsStep 155 [.ref 76, .null, .ref a2] [] (e) res M'
set_option maxRecDepth 100000 in
theorem B_X10_readsStep_b124 (G : GG l s0 b L xs D cy ad) {n : Nat} {rec : Nat → Mm → Option Mm} {a2 : Nat}  {res : Rs} {M' : Mm} (hrec0 : ∀  (M r : Mm) (hp0 : P 76), rec 0  M = some r → Cl l s0 D cy ad P (13 + n) KX10_readsStep [.ref 76] M (.inl none) r) (hp0 : P 76) (hp2 : P a2) (hs2 : SH a2 = 12) (hn2 : LN a2 = 3) : ∀ (s : Mm) (r : Mm ⊕ Mm), f_X10_readsStep_b124 rec a2 s = some r → mtc (P_X10_readsStep_b124 l s0 D cy ad P n a2 res M') (Q_X10_readsStep_b124 l s0 D cy ad P n a2 res M') r → P_X10_readsStep_b124 l s0 D cy ad P n a2 res M' s := by
  intro M r hr hk
  unfold f_X10_readsStep_b124 at hr
  try dsimp only at hr
  dsimp only [P_X10_readsStep_b124]
  refine n_aload_n (n := 0) (by decide +kernel) rfl ?_
  refine n_getI G fl_RX10_104 hp0 (by decide +kernel) (by decide +kernel) ?_
  refine n_if_ne (off := 27) (tgt := 155) (by decide +kernel) (by decide) (fun hc23 => ?_) (fun hc23 => ?_)
  · rw [if_neg hc23] at hr
    cases hr
    exact hk
  · rw [if_pos hc23] at hr
    refine n_aload_n (n := 0) (by decide +kernel) rfl ?_
    refine n_aload_n (n := 0) (by decide +kernel) rfl ?_
    refine n_getI G fl_RX10_97 hp0 (by decide +kernel) (by decide +kernel) ?_
    obtain ⟨v24, h24, hr⟩ := bso hr
    refine n_callVi G [_] (x := v24) (B_X10_byteAt G hp0 h24) (by omega) mX10_byteAt ml_RX10_100 hp0 (by decide +kernel) rfl rfl (Nat.le_of_ble_eq_true rfl) (by decide +kernel) ?_
    refine n_bipush (n := 93) (v := 93) (by decide +kernel) rfl ?_
    refine n_icmp_eq (off := 14) (tgt := 155) (by decide +kernel) (by decide) (fun hc25 => ?_) (fun hc25 => ?_)
    · rw [if_pos hc25] at hr
      cases hr
      exact hk
    · rw [if_neg hc25] at hr
      refine n_aload_n (n := 0) (by decide +kernel) rfl ?_
      obtain ⟨M26, h26, hr⟩ := bso hr
      refine n_callVv G [] (M1 := M26) (hrec0  _ _ hp0 h26) (by omega) mX10_readsStep ml_RX10_260 hp0 (by decide +kernel) rfl rfl (Nat.le_of_ble_eq_true rfl) (by decide +kernel) ?_
      refine n_aload_n (n := 0) (by decide +kernel) rfl ?_
      obtain ⟨M27, h27, hr⟩ := bso hr
      refine n_callVv G [] (M1 := M27) (B_X10_blanks G hp0 h27) (by omega) mX10_blanks ml_RX10_110 hp0 (by decide +kernel) rfl rfl (Nat.le_of_ble_eq_true rfl) (by decide +kernel) ?_
      refine n_goto (off := -28) (tgt := 124) (by decide +kernel) (by decide) ?_
      cases hr
      exact hk
set_option maxRecDepth 100000 in
theorem W_X10_readsStep_b124 (G : GG l s0 b L xs D cy ad) {n : Nat} {rec : Nat → Mm → Option Mm} {a2 : Nat}  (hrec0 : ∀  (M r : Mm) (hp0 : P 76), rec 0  M = some r → Cl l s0 D cy ad P (13 + n) KX10_readsStep [.ref 76] M (.inl none) r) (hp0 : P 76) (hp2 : P a2) (hs2 : SH a2 = 12) (hn2 : LN a2 = 3) {s : Mm} {e : Mm} (h : whl fu (f_X10_readsStep_b124 rec a2) s = some e) (res : Rs) (M' : Mm) : Q_X10_readsStep_b124 l s0 D cy ad P n a2 res M' e → P_X10_readsStep_b124 l s0 D cy ad P n a2 res M' s := whl_run (P := fun s => P_X10_readsStep_b124 l s0 D cy ad P n a2 res M' s) (Q := fun e => Q_X10_readsStep_b124 l s0 D cy ad P n a2 res M' e) (B_X10_readsStep_b124 G (res := res) (M' := M') (n := n) (rec := rec) (a2 := a2) hrec0 hp0 hp2 hs2 hn2) fu s h
set_option maxRecDepth 100000 in
theorem B_X10_readsStep_j155 (G : GG l s0 b L xs D cy ad) {n : Nat} {rec : Nat → Mm → Option Mm} {a2 : Nat} {M : Mm} {r : Mm} (hrec0 : ∀  (M r : Mm) (hp0 : P 76), rec 0  M = some r → Cl l s0 D cy ad P (13 + n) KX10_readsStep [.ref 76] M (.inl none) r) (hp0 : P 76) (hp2 : P a2) (hs2 : SH a2 = 12) (hn2 : LN a2 = 3) (hr : f_X10_readsStep_j155 rec a2 M = some r) : Rn l s0 D cy ad P (13 + (n + 1)) KX10_readsStep 155 [.ref 76, .null, .ref a2] [] M (.inl none) (r) := by
  unfold f_X10_readsStep_j155 at hr
  refine n_aload_n (n := 0) (by decide +kernel) rfl ?_
  refine n_bipush (n := 93) (v := 93) (by decide +kernel) rfl ?_
  obtain ⟨M29, h29, hr⟩ := bso hr
  refine n_callVv G [_] (M1 := M29) (B_X10_sign G hp0 h29) (by omega) mX10_sign ml_RX10_157 hp0 (by decide +kernel) rfl rfl (Nat.le_of_ble_eq_true rfl) (by decide +kernel) ?_
  refine n_aload_n (n := 0) (by decide +kernel) rfl ?_
  refine n_dup rfl (by decide +kernel) ?_
  refine n_getI G fl_RX10_147 hp0 (by decide +kernel) (by decide +kernel) ?_
  refine n_iconst (n := 1) (v := 1) (by decide +kernel) rfl ?_
  refine n_isub (by decide +kernel) ?_
  refine n_putI G fl_RX10_147 hp0 (by decide +kernel) (by decide +kernel) ?_
  refine n_aload_n (n := 2) (by decide +kernel) rfl ?_
  refine n_iconst (n := 2) (v := 2) (by decide +kernel) rfl ?_
  refine n_aload_n (n := 0) (by decide +kernel) rfl ?_
  refine n_getI G fl_RX10_257 hp0 (by decide +kernel) (by decide +kernel) ?_
  obtain ⟨M30, h30, hr⟩ := bso hr
  refine n_iast G h30 hp2 hs2 hn2 (by decide +kernel) ?_
  refine n_aload_n (n := 0) (by decide +kernel) rfl ?_
  refine n_bipush (n := 59) (v := 59) (by decide +kernel) rfl ?_
  obtain ⟨M31, h31, hr⟩ := bso hr
  refine n_callVv G [_] (M1 := M31) (B_X10_sign G hp0 h31) (by omega) mX10_sign ml_RX10_157 hp0 (by decide +kernel) rfl rfl (Nat.le_of_ble_eq_true rfl) (by decide +kernel) ?_
  cases hr
  exact n_return (by decide +kernel)
set_option maxRecDepth 100000 in
theorem B_X10_readsStep_j98 (G : GG l s0 b L xs D cy ad) {n : Nat} {rec : Nat → Mm → Option Mm} {x1 : Int32} {a2 : Nat} {M : Mm} {r : Mm} (hrec0 : ∀  (M r : Mm) (hp0 : P 76), rec 0  M = some r → Cl l s0 D cy ad P (13 + n) KX10_readsStep [.ref 76] M (.inl none) r) (hp0 : P 76) (hp2 : P a2) (hs2 : SH a2 = 12) (hn2 : LN a2 = 3) (hr : f_X10_readsStep_j98 rec x1 a2 M = some r) : Rn l s0 D cy ad P (13 + (n + 1)) KX10_readsStep 98 [.ref 76, .int x1, .ref a2] [] M (.inl none) (r) := by
  unfold f_X10_readsStep_j98 at hr
  refine n_iload_n (n := 1) (by decide +kernel) rfl ?_
  refine n_bipush (n := 7) (v := 7) (by decide +kernel) rfl ?_
  refine n_icmp_ne (off := 70) (tgt := 171) (by decide +kernel) (by decide) (fun hc16 => ?_) (fun hc16 => ?_)
  · rw [if_neg hc16] at hr
    refine n_aload_n (n := 2) (by decide +kernel) rfl ?_
    refine n_iconst (n := 2) (v := 2) (by decide +kernel) rfl ?_
    refine n_aload_n (n := 0) (by decide +kernel) rfl ?_
    refine n_getI G fl_RX10_257 hp0 (by decide +kernel) (by decide +kernel) ?_
    obtain ⟨M17, h17, hr⟩ := bso hr
    refine n_iast G h17 hp2 hs2 hn2 (by decide +kernel) ?_
    refine n_aload_n (n := 0) (by decide +kernel) rfl ?_
    refine n_bipush (n := 59) (v := 59) (by decide +kernel) rfl ?_
    obtain ⟨M18, h18, hr⟩ := bso hr
    refine n_callVv G [_] (M1 := M18) (B_X10_sign G hp0 h18) (by omega) mX10_sign ml_RX10_157 hp0 (by decide +kernel) rfl rfl (Nat.le_of_ble_eq_true rfl) (by decide +kernel) ?_
    cases hr
    exact n_return (by decide +kernel)
  · rw [if_pos hc16] at hr
    refine n_aload_n (n := 2) (by decide +kernel) rfl ?_
    refine n_iconst (n := 1) (v := 1) (by decide +kernel) rfl ?_
    refine n_aload_n (n := 0) (by decide +kernel) rfl ?_
    refine n_iconst (n := 0) (v := 0) (by decide +kernel) rfl ?_
    refine n_bipush (n := 20) (v := 20) (by decide +kernel) rfl ?_
    obtain ⟨⟨v19, M19⟩, h19, hr⟩ := bso hr
    try dsimp only at hr
    refine n_callVi G [_, _] (x := v19) (M1 := M19) (B_X10_number G hp0 h19) (by omega) mX10_number ml_RX10_150 hp0 (by decide +kernel) rfl rfl (Nat.le_of_ble_eq_true rfl) (by decide +kernel) ?_
    obtain ⟨M20, h20, hr⟩ := bso hr
    refine n_iast G h20 hp2 hs2 hn2 (by decide +kernel) ?_
    refine n_aload_n (n := 0) (by decide +kernel) rfl ?_
    refine n_bipush (n := 91) (v := 91) (by decide +kernel) rfl ?_
    obtain ⟨M21, h21, hr⟩ := bso hr
    refine n_callVv G [_] (M1 := M21) (B_X10_sign G hp0 h21) (by omega) mX10_sign ml_RX10_157 hp0 (by decide +kernel) rfl rfl (Nat.le_of_ble_eq_true rfl) (by decide +kernel) ?_
    refine n_aload_n (n := 0) (by decide +kernel) rfl ?_
    obtain ⟨M22, h22, hr⟩ := bso hr
    refine n_callVv G [] (M1 := M22) (B_X10_blanks G hp0 h22) (by omega) mX10_blanks ml_RX10_110 hp0 (by decide +kernel) rfl rfl (Nat.le_of_ble_eq_true rfl) (by decide +kernel) ?_
    obtain ⟨M28, h28, hr⟩ := bso hr
    refine n_msk [true, false, true] (lo2 := [_, .null, _]) rfl rfl ?_
    refine (W_X10_readsStep_b124 G hrec0 hp0 hp2 hs2 hn2 h28 _ _) ?_
    dsimp only [Q_X10_readsStep_b124]
    exact B_X10_readsStep_j155 G hrec0 hp0 hp2 hs2 hn2 hr
end NB
