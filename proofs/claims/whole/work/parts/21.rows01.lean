/-! printed rows: a method is its function -/
section NB
variable {l : Launch} {s0 : State} {b L : Nat} {xs : Nat → Int32} {D : va_G} {cy : Nat → ClassId} {ad : Nat → Nat} {P : Nat → Prop}
set_option maxRecDepth 100000 in
theorem B_X0_answerTo (G : GG l s0 b L xs D cy ad)  {x1 : Int32} {M : Mm} {r : Int64} (hp0 : P 12) (hr : f_X0_answerTo x1 M = some r) : Cl l s0 D cy ad P 9 KX0_answerTo [.ref 12, .int x1] M (.inl (some (.long r))) (M) := by
  refine cl_ofN (by decide +kernel) rfl rfl rfl (lo0 := [_, _]) rfl ?_
  unfold f_X0_answerTo at hr
  refine n_iload_n (n := 1) (by decide +kernel) rfl ?_
  refine n_if_lt (off := 21) (tgt := 22) (by decide +kernel) (by decide) (fun hc1 => ?_) (fun hc1 => ?_)
  · rw [if_pos hc1] at hr
    refine n_lconst (n := 0) (v := 0) (by decide +kernel) rfl ?_
    cases hr
    exact n_lreturn (by decide +kernel)
  · rw [if_neg hc1] at hr
    refine n_iload_n (n := 1) (by decide +kernel) rfl ?_
    refine n_aload_n (n := 0) (by decide +kernel) rfl ?_
    refine n_getF (q := 13) G fl_RX0_9 hp0 (by decide +kernel) (by decide +kernel) (by decide +kernel) (fun hp2q => ?_)
    refine n_alen G (v := (3 : Int32)) hp2q (Or.inr (Or.inr (Or.inl (by decide +kernel)))) (by decide +kernel) rfl (by decide +kernel) ?_
    refine n_icmp_ge (off := 12) (tgt := 22) (by decide +kernel) (by decide) (fun hc3 => ?_) (fun hc3 => ?_)
    · rw [if_pos hc3] at hr
      refine n_lconst (n := 0) (v := 0) (by decide +kernel) rfl ?_
      cases hr
      exact n_lreturn (by decide +kernel)
    · rw [if_neg hc3] at hr
      refine n_aload_n (n := 0) (by decide +kernel) rfl ?_
      refine n_getF (q := 13) G fl_RX0_9 hp0 (by decide +kernel) (by decide +kernel) (by decide +kernel) (fun hp4q => ?_)
      refine n_iload_n (n := 1) (by decide +kernel) rfl ?_
      obtain ⟨v5, h5, hr⟩ := bso hr
      refine n_lald G h5 hp4q (by decide +kernel) (by decide +kernel) (by decide +kernel) ?_
      refine n_goto (off := 4) (tgt := 23) (by decide +kernel) (by decide) ?_
      cases hr
      exact n_lreturn (by decide +kernel)
set_option maxRecDepth 100000 in
theorem B_X0_settle (G : GG l s0 b L xs D cy ad)  {y1 : Int64} {y3 : Int64} {y5 : Int64} {M : Mm} {r : Mm} (hp0 : P 12) (hr : f_X0_settle y1 y3 y5 M = some r) : Cl l s0 D cy ad P 9 KX0_settle [.ref 12, .long y1, .long y3, .long y5] M (.inl none) (r) := by
  refine cl_ofN (by decide +kernel) rfl rfl rfl (lo0 := [_, _, .null, _, .null, _, .null]) rfl ?_
  unfold f_X0_settle at hr
  refine n_aload_n (n := 0) (by decide +kernel) rfl ?_
  refine n_getF (q := 13) G fl_RX0_9 hp0 (by decide +kernel) (by decide +kernel) (by decide +kernel) (fun hp1q => ?_)
  refine n_iconst (n := 0) (v := 0) (by decide +kernel) rfl ?_
  refine n_lload_n (n := 1) (by decide +kernel) rfl ?_
  obtain ⟨M2, h2, hr⟩ := bso hr
  refine n_last G h2 hp1q (by decide +kernel) (by decide +kernel) (by decide +kernel) ?_
  refine n_aload_n (n := 0) (by decide +kernel) rfl ?_
  refine n_getF (q := 13) G fl_RX0_9 hp0 (by decide +kernel) (by decide +kernel) (by decide +kernel) (fun hp3q => ?_)
  refine n_iconst (n := 1) (v := 1) (by decide +kernel) rfl ?_
  refine n_lload_n (n := 3) (by decide +kernel) rfl ?_
  obtain ⟨M4, h4, hr⟩ := bso hr
  refine n_last G h4 hp3q (by decide +kernel) (by decide +kernel) (by decide +kernel) ?_
  refine n_aload_n (n := 0) (by decide +kernel) rfl ?_
  refine n_getF (q := 13) G fl_RX0_9 hp0 (by decide +kernel) (by decide +kernel) (by decide +kernel) (fun hp5q => ?_)
  refine n_iconst (n := 2) (v := 2) (by decide +kernel) rfl ?_
  refine n_lload (n := 5) (by decide +kernel) rfl ?_
  obtain ⟨M6, h6, hr⟩ := bso hr
  refine n_last G h6 hp5q (by decide +kernel) (by decide +kernel) (by decide +kernel) ?_
  cases hr
  exact n_return (by decide +kernel)
abbrev P_J7_fill_53178_b5 (l : Launch) (s0 : State) (D : va_G) (cy : Nat → ClassId) (ad : Nat → Nat) (P : Nat → Prop) (a0 : Nat) (x1 : Int32) (x3 : Int32)  (res : Rs) (M' : Mm) (s : (Int32 × Mm)) : Prop := Rn l s0 D cy ad P 9 KJ7_fill_53178 5 [.ref a0, .int x1, .int (s.1), .int x3] [] (s.2) res M'
abbrev Q_J7_fill_53178_b5 (l : Launch) (s0 : State) (D : va_G) (cy : Nat → ClassId) (ad : Nat → Nat) (P : Nat → Prop) (a0 : Nat) (x1 : Int32) (x3 : Int32)  (res : Rs) (M' : Mm) (e : Mm) : Prop := Rn l s0 D cy ad P 9 KJ7_fill_53178 20 [.null, .null, .null, .null] [] (e) res M'
set_option maxRecDepth 100000 in
theorem B_J7_fill_53178_b5 (G : GG l s0 b L xs D cy ad) {a0 : Nat} {x1 : Int32} {x3 : Int32}  {res : Rs} {M' : Mm} (hp0 : P a0) (hs0 : SH a0 = 12) : ∀ (s : (Int32 × Mm)) (r : (Int32 × Mm) ⊕ Mm), f_J7_fill_53178_b5 a0 x1 x3 s = some r → mtc (P_J7_fill_53178_b5 l s0 D cy ad P a0 x1 x3 res M') (Q_J7_fill_53178_b5 l s0 D cy ad P a0 x1 x3 res M') r → P_J7_fill_53178_b5 l s0 D cy ad P a0 x1 x3 res M' s := by
  intro s r hr hk
  obtain ⟨x2, M⟩ := s
  unfold f_J7_fill_53178_b5 at hr
  try dsimp only at hr
  dsimp only [P_J7_fill_53178_b5]
  refine n_iload_n (n := 2) (by decide +kernel) rfl ?_
  refine n_iload_n (n := 3) (by decide +kernel) rfl ?_
  refine n_icmp_ge (off := 13) (tgt := 20) (by decide +kernel) (by decide) (fun hc1 => ?_) (fun hc1 => ?_)
  · rw [if_pos hc1] at hr
    cases hr
    refine n_msk [false, false, false, false] (lo2 := [.null, .null, .null, .null]) rfl rfl ?_
    exact hk
  · rw [if_neg hc1] at hr
    refine n_aload_n (n := 0) (by decide +kernel) rfl ?_
    refine n_iload_n (n := 2) (by decide +kernel) rfl ?_
    refine n_iload_n (n := 1) (by decide +kernel) rfl ?_
    obtain ⟨M2, h2, hr⟩ := bso hr
    refine n_iast G h2 hp0 hs0 rfl (by decide +kernel) ?_
    refine n_iincK (n := 2) (j := 1) (w := 1) (lo2 := [_, _, _, _]) (by decide +kernel) rfl rfl rfl ?_
    refine n_goto (off := -12) (tgt := 5) (by decide +kernel) (by decide) ?_
    cases hr
    exact hk
set_option maxRecDepth 100000 in
theorem W_J7_fill_53178_b5 (G : GG l s0 b L xs D cy ad) {a0 : Nat} {x1 : Int32} {x3 : Int32}  (hp0 : P a0) (hs0 : SH a0 = 12) {s : (Int32 × Mm)} {e : Mm} (h : whl fu (f_J7_fill_53178_b5 a0 x1 x3) s = some e) (res : Rs) (M' : Mm) : Q_J7_fill_53178_b5 l s0 D cy ad P a0 x1 x3 res M' e → P_J7_fill_53178_b5 l s0 D cy ad P a0 x1 x3 res M' s := whl_run (P := fun s => P_J7_fill_53178_b5 l s0 D cy ad P a0 x1 x3 res M' s) (Q := fun e => Q_J7_fill_53178_b5 l s0 D cy ad P a0 x1 x3 res M' e) (B_J7_fill_53178_b5 G (res := res) (M' := M') (a0 := a0) (x1 := x1) (x3 := x3) hp0 hs0) fu s h
set_option maxRecDepth 100000 in
theorem B_J7_fill_53178 (G : GG l s0 b L xs D cy ad)  {a0 : Nat} {x1 : Int32} {M : Mm} {r : Mm} (hp0 : P a0) (hs0 : SH a0 = 12) (hr : f_J7_fill_53178 a0 x1 M = some r) : Cl l s0 D cy ad P 9 KJ7_fill_53178 [.ref a0, .int x1] M (.inl none) (r) := by
  refine cl_ofN (by decide +kernel) rfl rfl rfl (lo0 := [_, _, .null, .null]) rfl ?_
  unfold f_J7_fill_53178 at hr
  refine n_iconst (n := 0) (v := 0) (by decide +kernel) rfl ?_
  refine n_istore_n (n := 2) (lo2 := [_, _, _, _]) (by decide +kernel) (Nat.le_of_ble_eq_true rfl) rfl ?_
  refine n_aload_n (n := 0) (by decide +kernel) rfl ?_
  refine n_alen G (v := (Int32.ofNat (LN a0))) hp0 (Or.inr (Or.inl hs0)) rfl rfl (by decide +kernel) ?_
  refine n_istore_n (n := 3) (lo2 := [_, _, _, _]) (by decide +kernel) (Nat.le_of_ble_eq_true rfl) rfl ?_
  obtain ⟨M3, h3, hr⟩ := bso hr
  refine (W_J7_fill_53178_b5 G hp0 hs0 h3 _ _) ?_
  dsimp only [Q_J7_fill_53178_b5]
  cases hr
  exact n_return (by decide +kernel)
set_option maxRecDepth 100000 in
theorem B_X8_isStone (G : GG l s0 b L xs D cy ad)  {a0 : Nat} {x1 : Int32} {M : Mm} {r : Int32} (hp0 : P a0) (hs0 : SH a0 = 8) (hr : f_X8_isStone a0 x1 M = some r) : Cl l s0 D cy ad P 9 KX8_isStone [.ref a0, .int x1] M (.inl (some (.int r))) (M) := by
  unfold f_X8_isStone at hr
  obtain ⟨v0, h0, h1⟩ := bso hr
  clear hr
  obtain ⟨hb, rfl⟩ := rB_in h1
  have hr := h0
  clear h0
  refine cl_ofN (by decide +kernel) rfl rfl (okB hb) (lo0 := [_, _]) rfl ?_
  unfold g_X8_isStone at hr
  refine n_iload_n (n := 1) (by decide +kernel) rfl ?_
  refine n_if_lt (off := 21) (tgt := 22) (by decide +kernel) (by decide) (fun hc1 => ?_) (fun hc1 => ?_)
  · rw [if_pos hc1] at hr
    refine n_iconst (n := 0) (v := 0) (by decide +kernel) rfl ?_
    cases hr
    exact n_ireturn (by decide +kernel)
  · rw [if_neg hc1] at hr
    refine n_iload_n (n := 1) (by decide +kernel) rfl ?_
    refine n_aload_n (n := 0) (by decide +kernel) rfl ?_
    refine n_getI G fl_RX8_43 hp0 hs0 (by decide +kernel) ?_
    refine n_icmp_ge (off := 13) (tgt := 22) (by decide +kernel) (by decide) (fun hc2 => ?_) (fun hc2 => ?_)
    · rw [if_pos hc2] at hr
      refine n_iconst (n := 0) (v := 0) (by decide +kernel) rfl ?_
      cases hr
      exact n_ireturn (by decide +kernel)
    · rw [if_neg hc2] at hr
      refine n_iload_n (n := 1) (by decide +kernel) rfl ?_
      refine n_bipush (n := 60) (v := 60) (by decide +kernel) rfl ?_
      refine n_icmp_ge (off := 7) (tgt := 22) (by decide +kernel) (by decide) (fun hc3 => ?_) (fun hc3 => ?_)
      · rw [if_pos hc3] at hr
        refine n_iconst (n := 0) (v := 0) (by decide +kernel) rfl ?_
        cases hr
        exact n_ireturn (by decide +kernel)
      · rw [if_neg hc3] at hr
        refine n_iconst (n := 1) (v := 1) (by decide +kernel) rfl ?_
        refine n_goto (off := 4) (tgt := 23) (by decide +kernel) (by decide) ?_
        cases hr
        exact n_ireturn (by decide +kernel)
set_option maxRecDepth 100000 in
theorem B_X8_cellOf (G : GG l s0 b L xs D cy ad)  {a0 : Nat} {x1 : Int32} {M : Mm} {r : Int32} (hp0 : P a0) (hs0 : SH a0 = 8) (hr : f_X8_cellOf a0 x1 M = some r) : Cl l s0 D cy ad P 10 KX8_cellOf [.ref a0, .int x1] M (.inl (some (.int r))) (M) := by
  refine cl_ofN (by decide +kernel) rfl rfl okI (lo0 := [_, _]) rfl ?_
  unfold f_X8_cellOf at hr
  refine n_aload_n (n := 0) (by decide +kernel) rfl ?_
  refine n_iload_n (n := 1) (by decide +kernel) rfl ?_
  obtain ⟨v1, h1, hr⟩ := bso hr
  refine n_callVi G [_] (x := v1) (B_X8_isStone G hp0 hs0 h1) (by decide) mX8_isStone ml_RX8_73 hp0 hs0 rfl rfl (Nat.le_of_ble_eq_true rfl) (by decide +kernel) ?_
  refine n_if_eq (off := 12) (tgt := 17) (by decide +kernel) (by decide) (fun hc2 => ?_) (fun hc2 => ?_)
  · rw [if_pos hc2] at hr
    refine n_iconst (n := 0) (v := 0) (by decide +kernel) rfl ?_
    cases hr
    exact n_ireturn (by decide +kernel)
  · rw [if_neg hc2] at hr
    refine n_aload_n (n := 0) (by decide +kernel) rfl ?_
    refine n_getF (q := (a0 + 1)) G fl_RX8_9 hp0 hs0 (fr_8_0 hs0).1 (by decide +kernel) (fun hp3q => ?_)
    refine n_iload_n (n := 1) (by decide +kernel) rfl ?_
    obtain ⟨v4, h4, hr⟩ := bso hr
    refine n_iald G h4 hp3q (fr_8_0 hs0).2.1 (fr_8_0 hs0).2.2 (by decide +kernel) ?_
    refine n_goto (off := 4) (tgt := 18) (by decide +kernel) (by decide) ?_
    cases hr
    exact n_ireturn (by decide +kernel)
set_option maxRecDepth 100000 in
theorem B_X8_placeOf (G : GG l s0 b L xs D cy ad)  {a0 : Nat} {x1 : Int32} {M : Mm} {r : Int32} (hp0 : P a0) (hs0 : SH a0 = 8) (hr : f_X8_placeOf a0 x1 M = some r) : Cl l s0 D cy ad P 10 KX8_placeOf [.ref a0, .int x1] M (.inl (some (.int r))) (M) := by
  refine cl_ofN (by decide +kernel) rfl rfl okI (lo0 := [_, _]) rfl ?_
  unfold f_X8_placeOf at hr
  refine n_aload_n (n := 0) (by decide +kernel) rfl ?_
  refine n_iload_n (n := 1) (by decide +kernel) rfl ?_
  obtain ⟨v1, h1, hr⟩ := bso hr
  refine n_callVi G [_] (x := v1) (B_X8_isStone G hp0 hs0 h1) (by decide) mX8_isStone ml_RX8_73 hp0 hs0 rfl rfl (Nat.le_of_ble_eq_true rfl) (by decide +kernel) ?_
  refine n_if_eq (off := 12) (tgt := 17) (by decide +kernel) (by decide) (fun hc2 => ?_) (fun hc2 => ?_)
  · rw [if_pos hc2] at hr
    refine n_iconst (n := -1) (v := -1) (by decide +kernel) rfl ?_
    cases hr
    exact n_ireturn (by decide +kernel)
  · rw [if_neg hc2] at hr
    refine n_aload_n (n := 0) (by decide +kernel) rfl ?_
    refine n_getF (q := (a0 + 4)) G fl_RX8_21 hp0 hs0 (fr_8_3 hs0).1 (by decide +kernel) (fun hp3q => ?_)
    refine n_iload_n (n := 1) (by decide +kernel) rfl ?_
    obtain ⟨v4, h4, hr⟩ := bso hr
    refine n_iald G h4 hp3q (fr_8_3 hs0).2.1 (fr_8_3 hs0).2.2 (by decide +kernel) ?_
    refine n_goto (off := 4) (tgt := 18) (by decide +kernel) (by decide) ?_
    cases hr
    exact n_ireturn (by decide +kernel)
set_option maxRecDepth 100000 in
theorem B_X9_isCell (G : GG l s0 b L xs D cy ad)  {x0 : Int32} {M : Mm} {r : Int32}  (hr : f_X9_isCell x0 M = some r) : Cl l s0 D cy ad P 9 KX9_isCell [.int x0] M (.inl (some (.int r))) (M) := by
  unfold f_X9_isCell at hr
  obtain ⟨v0, h0, h1⟩ := bso hr
  clear hr
  obtain ⟨hb, rfl⟩ := rB_in h1
  have hr := h0
  clear h0
  refine cl_ofN (by decide +kernel) rfl rfl (okB hb) (lo0 := [_]) rfl ?_
  unfold g_X9_isCell at hr
  refine n_iload_n (n := 0) (by decide +kernel) rfl ?_
  refine n_if_lt (off := 13) (tgt := 14) (by decide +kernel) (by decide) (fun hc1 => ?_) (fun hc1 => ?_)
  · rw [if_pos hc1] at hr
    refine n_iconst (n := 0) (v := 0) (by decide +kernel) rfl ?_
    cases hr
    exact n_ireturn (by decide +kernel)
  · rw [if_neg hc1] at hr
    refine n_iload_n (n := 0) (by decide +kernel) rfl ?_
    refine n_bipush (n := 48) (v := 48) (by decide +kernel) rfl ?_
    refine n_icmp_ge (off := 7) (tgt := 14) (by decide +kernel) (by decide) (fun hc2 => ?_) (fun hc2 => ?_)
    · rw [if_pos hc2] at hr
      refine n_iconst (n := 0) (v := 0) (by decide +kernel) rfl ?_
      cases hr
      exact n_ireturn (by decide +kernel)
    · rw [if_neg hc2] at hr
      refine n_iconst (n := 1) (v := 1) (by decide +kernel) rfl ?_
      refine n_goto (off := 4) (tgt := 15) (by decide +kernel) (by decide) ?_
      cases hr
      exact n_ireturn (by decide +kernel)
set_option maxRecDepth 100000 in
theorem B_X8_isLost (G : GG l s0 b L xs D cy ad)  {a0 : Nat} {x1 : Int32} {M : Mm} {r : Int32} (hp0 : P a0) (hs0 : SH a0 = 8) (hr : f_X8_isLost a0 x1 M = some r) : Cl l s0 D cy ad P 10 KX8_isLost [.ref a0, .int x1] M (.inl (some (.int r))) (M) := by
  unfold f_X8_isLost at hr
  obtain ⟨v0, h0, h1⟩ := bso hr
  clear hr
  obtain ⟨hb, rfl⟩ := rB_in h1
  have hr := h0
  clear h0
  refine cl_ofN (by decide +kernel) rfl rfl (okB hb) (lo0 := [_, _]) rfl ?_
  unfold g_X8_isLost at hr
  refine n_iload_n (n := 1) (by decide +kernel) rfl ?_
  obtain ⟨v1, h1, hr⟩ := bso hr
  refine n_callSNi G [_] (x := v1) (B_X9_isCell G  h1) (by decide) mX9_isCell ml_RX8_77 rfl rfl (Nat.le_of_ble_eq_true rfl) (by decide +kernel) ?_
  refine n_if_eq (off := 16) (tgt := 20) (by decide +kernel) (by decide) (fun hc2 => ?_) (fun hc2 => ?_)
  · rw [if_pos hc2] at hr
    refine n_iconst (n := 0) (v := 0) (by decide +kernel) rfl ?_
    cases hr
    exact n_ireturn (by decide +kernel)
  · rw [if_neg hc2] at hr
    refine n_aload_n (n := 0) (by decide +kernel) rfl ?_
    refine n_getF (q := (a0 + 5)) G fl_RX8_24 hp0 hs0 (fr_8_4 hs0).1 (by decide +kernel) (fun hp3q => ?_)
    refine n_iload_n (n := 1) (by decide +kernel) rfl ?_
    obtain ⟨v4, h4, hr⟩ := bso hr
    refine n_iald G h4 hp3q (fr_8_4 hs0).2.1 (fr_8_4 hs0).2.2 (by decide +kernel) ?_
    refine n_if_eq (off := 7) (tgt := 20) (by decide +kernel) (by decide) (fun hc5 => ?_) (fun hc5 => ?_)
    · rw [if_pos hc5] at hr
      refine n_iconst (n := 0) (v := 0) (by decide +kernel) rfl ?_
      cases hr
      exact n_ireturn (by decide +kernel)
    · rw [if_neg hc5] at hr
      refine n_iconst (n := 1) (v := 1) (by decide +kernel) rfl ?_
      refine n_goto (off := 4) (tgt := 21) (by decide +kernel) (by decide) ?_
      cases hr
      exact n_ireturn (by decide +kernel)
set_option maxRecDepth 100000 in
theorem B_X8_isAsked (G : GG l s0 b L xs D cy ad)  {a0 : Nat} {x1 : Int32} {M : Mm} {r : Int32} (hp0 : P a0) (hs0 : SH a0 = 8) (hr : f_X8_isAsked a0 x1 M = some r) : Cl l s0 D cy ad P 11 KX8_isAsked [.ref a0, .int x1] M (.inl (some (.int r))) (M) := by
  unfold f_X8_isAsked at hr
  obtain ⟨v0, h0, h1⟩ := bso hr
  clear hr
  obtain ⟨hb, rfl⟩ := rB_in h1
  have hr := h0
  clear h0
  refine cl_ofN (by decide +kernel) rfl rfl (okB hb) (lo0 := [_, _]) rfl ?_
  unfold g_X8_isAsked at hr
  refine n_aload_n (n := 0) (by decide +kernel) rfl ?_
  refine n_iload_n (n := 1) (by decide +kernel) rfl ?_
  obtain ⟨v1, h1, hr⟩ := bso hr
  refine n_callVi G [_] (x := v1) (B_X8_placeOf G hp0 hs0 h1) (by decide) mX8_placeOf ml_RX8_80 hp0 hs0 rfl rfl (Nat.le_of_ble_eq_true rfl) (by decide +kernel) ?_
  refine n_if_ne (off := 19) (tgt := 24) (by decide +kernel) (by decide) (fun hc2 => ?_) (fun hc2 => ?_)
  · rw [if_neg hc2] at hr
    refine n_iconst (n := 0) (v := 0) (by decide +kernel) rfl ?_
    cases hr
    exact n_ireturn (by decide +kernel)
  · rw [if_pos hc2] at hr
    refine n_aload_n (n := 0) (by decide +kernel) rfl ?_
    refine n_aload_n (n := 0) (by decide +kernel) rfl ?_
    refine n_iload_n (n := 1) (by decide +kernel) rfl ?_
    obtain ⟨v3, h3, hr⟩ := bso hr
    refine n_callVi G [_] (x := v3) (B_X8_cellOf G hp0 hs0 h3) (by decide) mX8_cellOf ml_RX8_84 hp0 hs0 rfl rfl (Nat.le_of_ble_eq_true rfl) (by decide +kernel) ?_
    obtain ⟨v4, h4, hr⟩ := bso hr
    refine n_callVi G [_] (x := v4) (B_X8_isLost G hp0 hs0 h4) (by decide) mX8_isLost ml_RX8_87 hp0 hs0 rfl rfl (Nat.le_of_ble_eq_true rfl) (by decide +kernel) ?_
    refine n_if_ne (off := 7) (tgt := 24) (by decide +kernel) (by decide) (fun hc5 => ?_) (fun hc5 => ?_)
    · rw [if_neg hc5] at hr
      refine n_iconst (n := 0) (v := 0) (by decide +kernel) rfl ?_
      cases hr
      exact n_ireturn (by decide +kernel)
    · rw [if_pos hc5] at hr
      refine n_iconst (n := 1) (v := 1) (by decide +kernel) rfl ?_
      refine n_goto (off := 4) (tgt := 25) (by decide +kernel) (by decide) ?_
      cases hr
      exact n_ireturn (by decide +kernel)
set_option maxRecDepth 100000 in
theorem B_X9_row (G : GG l s0 b L xs D cy ad)  {x0 : Int32} {M : Mm} {r : Int32}  (hr : f_X9_row x0 M = some r) : Cl l s0 D cy ad P 9 KX9_row [.int x0] M (.inl (some (.int r))) (M) := by
  refine cl_ofN (by decide +kernel) rfl rfl okI (lo0 := [_]) rfl ?_
  unfold f_X9_row at hr
  refine n_iload_n (n := 0) (by decide +kernel) rfl ?_
  refine n_iconst (n := 3) (v := 3) (by decide +kernel) rfl ?_
  refine n_ishr (by decide +kernel) ?_
  cases hr
  exact n_ireturn (by decide +kernel)
set_option maxRecDepth 100000 in
theorem B_X8_sizeOf (G : GG l s0 b L xs D cy ad)  {a0 : Nat} {x1 : Int32} {M : Mm} {r : Int32} (hp0 : P a0) (hs0 : SH a0 = 8) (hr : f_X8_sizeOf a0 x1 M = some r) : Cl l s0 D cy ad P 10 KX8_sizeOf [.ref a0, .int x1] M (.inl (some (.int r))) (M) := by
  refine cl_ofN (by decide +kernel) rfl rfl okI (lo0 := [_, _]) rfl ?_
  unfold f_X8_sizeOf at hr
  refine n_aload_n (n := 0) (by decide +kernel) rfl ?_
  refine n_iload_n (n := 1) (by decide +kernel) rfl ?_
  obtain ⟨v1, h1, hr⟩ := bso hr
  refine n_callVi G [_] (x := v1) (B_X8_isStone G hp0 hs0 h1) (by decide) mX8_isStone ml_RX8_73 hp0 hs0 rfl rfl (Nat.le_of_ble_eq_true rfl) (by decide +kernel) ?_
  refine n_if_eq (off := 12) (tgt := 17) (by decide +kernel) (by decide) (fun hc2 => ?_) (fun hc2 => ?_)
  · rw [if_pos hc2] at hr
    refine n_iconst (n := 0) (v := 0) (by decide +kernel) rfl ?_
    cases hr
    exact n_ireturn (by decide +kernel)
  · rw [if_neg hc2] at hr
    refine n_aload_n (n := 0) (by decide +kernel) rfl ?_
    refine n_getF (q := (a0 + 2)) G fl_RX8_15 hp0 hs0 (fr_8_1 hs0).1 (by decide +kernel) (fun hp3q => ?_)
    refine n_iload_n (n := 1) (by decide +kernel) rfl ?_
    obtain ⟨v4, h4, hr⟩ := bso hr
    refine n_iald G h4 hp3q (fr_8_1 hs0).2.1 (fr_8_1 hs0).2.2 (by decide +kernel) ?_
    refine n_goto (off := 4) (tgt := 18) (by decide +kernel) (by decide) ?_
    cases hr
    exact n_ireturn (by decide +kernel)
set_option maxRecDepth 100000 in
theorem B_X9_column (G : GG l s0 b L xs D cy ad)  {x0 : Int32} {M : Mm} {r : Int32}  (hr : f_X9_column x0 M = some r) : Cl l s0 D cy ad P 9 KX9_column [.int x0] M (.inl (some (.int r))) (M) := by
  refine cl_ofN (by decide +kernel) rfl rfl okI (lo0 := [_]) rfl ?_
  unfold f_X9_column at hr
  refine n_iload_n (n := 0) (by decide +kernel) rfl ?_
  refine n_bipush (n := 7) (v := 7) (by decide +kernel) rfl ?_
  refine n_iand (by decide +kernel) ?_
  cases hr
  exact n_ireturn (by decide +kernel)
abbrev P_X0_countLiftedIn_b14 (l : Launch) (s0 : State) (D : va_G) (cy : Nat → ClassId) (ad : Nat → Nat) (P : Nat → Prop) (a1 : Nat) (a2 : Nat) (x3 : Int32)  (res : Rs) (M' : Mm) (s : (Int32 × Int32 × Mm)) : Prop := Rn l s0 D cy ad P 12 KX0_countLiftedIn 14 [.ref 12, .ref a1, .ref a2, .int x3, .int (s.1), .int (s.2.1), .null] [] (s.2.2) res M'
abbrev Q_X0_countLiftedIn_b14 (l : Launch) (s0 : State) (D : va_G) (cy : Nat → ClassId) (ad : Nat → Nat) (P : Nat → Prop) (a1 : Nat) (a2 : Nat) (x3 : Int32)  (res : Rs) (M' : Mm) (e : (Int32 × Mm)) : Prop := Rn l s0 D cy ad P 12 KX0_countLiftedIn 85 [.null, .null, .null, .null, .int (e.1), .null, .null] [] (e.2) res M'
set_option maxRecDepth 100000 in
theorem B_X0_countLiftedIn_b14 (G : GG l s0 b L xs D cy ad) {a1 : Nat} {a2 : Nat} {x3 : Int32}  {res : Rs} {M' : Mm} (hp0 : P 12) (hp1 : P a1) (hs1 : SH a1 = 3) (hp2 : P a2) (hs2 : SH a2 = 8) : ∀ (s : (Int32 × Int32 × Mm)) (r : (Int32 × Int32 × Mm) ⊕ (Int32 × Mm)), f_X0_countLiftedIn_b14 a1 a2 x3 s = some r → mtc (P_X0_countLiftedIn_b14 l s0 D cy ad P a1 a2 x3 res M') (Q_X0_countLiftedIn_b14 l s0 D cy ad P a1 a2 x3 res M') r → P_X0_countLiftedIn_b14 l s0 D cy ad P a1 a2 x3 res M' s := by
  intro s r hr hk
  obtain ⟨x4, x5, M⟩ := s
  unfold f_X0_countLiftedIn_b14 at hr
  try dsimp only at hr
  dsimp only [P_X0_countLiftedIn_b14]
  refine n_iload (n := 5) (by decide +kernel) rfl ?_
  refine n_aload_n (n := 2) (by decide +kernel) rfl ?_
  refine n_getI G fl_RX0_63 hp2 hs2 (by decide +kernel) ?_
  refine n_icmp_ge (off := 65) (tgt := 85) (by decide +kernel) (by decide) (fun hc3 => ?_) (fun hc3 => ?_)
  · rw [if_pos hc3] at hr
    cases hr
    refine n_msk [false, false, false, false, true, false, false] (lo2 := [.null, .null, .null, .null, _, .null, .null]) rfl rfl ?_
    exact hk
  · rw [if_neg hc3] at hr
    refine n_aload_n (n := 2) (by decide +kernel) rfl ?_
    refine n_iload (n := 5) (by decide +kernel) rfl ?_
    obtain ⟨v4, h4, hr⟩ := bso hr
    refine n_callVi G [_] (x := v4) (B_X8_cellOf G hp2 hs2 h4) (by decide) mX8_cellOf ml_RX0_68 hp2 hs2 rfl rfl (Nat.le_of_ble_eq_true rfl) (by decide +kernel) ?_
    refine n_istore (n := 6) (lo2 := [_, _, _, _, _, _, _]) (by decide +kernel) (Nat.le_of_ble_eq_true rfl) rfl ?_
    refine n_aload_n (n := 2) (by decide +kernel) rfl ?_
    refine n_iload (n := 5) (by decide +kernel) rfl ?_
    obtain ⟨v5, h5, hr⟩ := bso hr
    refine n_callVi G [_] (x := v5) (B_X8_isAsked G hp2 hs2 h5) (by decide) mX8_isAsked ml_RX0_71 hp2 hs2 rfl rfl (Nat.le_of_ble_eq_true rfl) (by decide +kernel) ?_
    refine n_if_eq (off := 42) (tgt := 79) (by decide +kernel) (by decide) (fun hc6 => ?_) (fun hc6 => ?_)
    · rw [if_pos hc6] at hr
      refine n_iincK (n := 5) (j := 1) (w := 1) (lo2 := [_, _, _, _, _, _, _]) (by decide +kernel) rfl rfl rfl ?_
      refine n_goto (off := -68) (tgt := 14) (by decide +kernel) (by decide) ?_
      cases hr
      refine n_msk [true, true, true, true, true, true, false] (lo2 := [_, _, _, _, _, _, .null]) rfl rfl ?_
      exact hk
    · rw [if_neg hc6] at hr
      refine n_iload (n := 6) (by decide +kernel) rfl ?_
      obtain ⟨v7, h7, hr⟩ := bso hr
      refine n_callSNi G [_] (x := v7) (B_X9_row G  h7) (by decide) mX9_row ml_RX0_75 rfl rfl (Nat.le_of_ble_eq_true rfl) (by decide +kernel) ?_
      refine n_iload_n (n := 3) (by decide +kernel) rfl ?_
      refine n_icmp_ne (off := 33) (tgt := 79) (by decide +kernel) (by decide) (fun hc8 => ?_) (fun hc8 => ?_)
      · rw [if_neg hc8] at hr
        refine n_iincK (n := 5) (j := 1) (w := 1) (lo2 := [_, _, _, _, _, _, _]) (by decide +kernel) rfl rfl rfl ?_
        refine n_goto (off := -68) (tgt := 14) (by decide +kernel) (by decide) ?_
        cases hr
        refine n_msk [true, true, true, true, true, true, false] (lo2 := [_, _, _, _, _, _, .null]) rfl rfl ?_
        exact hk
      · rw [if_pos hc8] at hr
        refine n_aload_n (n := 2) (by decide +kernel) rfl ?_
        refine n_iload (n := 5) (by decide +kernel) rfl ?_
        obtain ⟨v9, h9, hr⟩ := bso hr
        refine n_callVi G [_] (x := v9) (B_X8_sizeOf G hp2 hs2 h9) (by decide) mX8_sizeOf ml_RX0_78 hp2 hs2 rfl rfl (Nat.le_of_ble_eq_true rfl) (by decide +kernel) ?_
        refine n_aload_n (n := 1) (by decide +kernel) rfl ?_
        refine n_getI G fl_RX0_81 hp1 hs1 (by decide +kernel) ?_
        refine n_icmp_gt (off := 20) (tgt := 79) (by decide +kernel) (by decide) (fun hc10 => ?_) (fun hc10 => ?_)
        · rw [if_pos hc10] at hr
          refine n_iincK (n := 5) (j := 1) (w := 1) (lo2 := [_, _, _, _, _, _, _]) (by decide +kernel) rfl rfl rfl ?_
          refine n_goto (off := -68) (tgt := 14) (by decide +kernel) (by decide) ?_
          cases hr
          refine n_msk [true, true, true, true, true, true, false] (lo2 := [_, _, _, _, _, _, .null]) rfl rfl ?_
          exact hk
        · rw [if_neg hc10] at hr
          refine n_aload_n (n := 0) (by decide +kernel) rfl ?_
          refine n_getF (q := 14) G fl_RX0_15 hp0 (by decide +kernel) (by decide +kernel) (by decide +kernel) (fun hp11q => ?_)
          refine n_iload (n := 6) (by decide +kernel) rfl ?_
          obtain ⟨v12, h12, hr⟩ := bso hr
          refine n_callSNi G [_] (x := v12) (B_X9_column G  h12) (by decide) mX9_column ml_RX0_84 rfl rfl (Nat.le_of_ble_eq_true rfl) (by decide +kernel) ?_
          refine n_dup2 rfl rfl (by decide +kernel) ?_
          obtain ⟨v13, h13, hr⟩ := bso hr
          refine n_iald G h13 hp11q (by decide +kernel) (by decide +kernel) (by decide +kernel) ?_
          refine n_iconst (n := 1) (v := 1) (by decide +kernel) rfl ?_
          refine n_iadd (by decide +kernel) ?_
          obtain ⟨M14, h14, hr⟩ := bso hr
          refine n_iast G h14 hp11q (by decide +kernel) (by decide +kernel) (by decide +kernel) ?_
          refine n_iconst (n := 1) (v := 1) (by decide +kernel) rfl ?_
          refine n_istore (n := 4) (lo2 := [_, _, _, _, _, _, _]) (by decide +kernel) (Nat.le_of_ble_eq_true rfl) rfl ?_
          refine n_iincK (n := 5) (j := 1) (w := 1) (lo2 := [_, _, _, _, _, _, _]) (by decide +kernel) rfl rfl rfl ?_
          refine n_goto (off := -68) (tgt := 14) (by decide +kernel) (by decide) ?_
          cases hr
          refine n_msk [true, true, true, true, true, true, false] (lo2 := [_, _, _, _, _, _, .null]) rfl rfl ?_
          exact hk
set_option maxRecDepth 100000 in
theorem W_X0_countLiftedIn_b14 (G : GG l s0 b L xs D cy ad) {a1 : Nat} {a2 : Nat} {x3 : Int32}  (hp0 : P 12) (hp1 : P a1) (hs1 : SH a1 = 3) (hp2 : P a2) (hs2 : SH a2 = 8) {s : (Int32 × Int32 × Mm)} {e : (Int32 × Mm)} (h : whl fu (f_X0_countLiftedIn_b14 a1 a2 x3) s = some e) (res : Rs) (M' : Mm) : Q_X0_countLiftedIn_b14 l s0 D cy ad P a1 a2 x3 res M' e → P_X0_countLiftedIn_b14 l s0 D cy ad P a1 a2 x3 res M' s := whl_run (P := fun s => P_X0_countLiftedIn_b14 l s0 D cy ad P a1 a2 x3 res M' s) (Q := fun e => Q_X0_countLiftedIn_b14 l s0 D cy ad P a1 a2 x3 res M' e) (B_X0_countLiftedIn_b14 G (res := res) (M' := M') (a1 := a1) (a2 := a2) (x3 := x3) hp0 hp1 hs1 hp2 hs2) fu s h
set_option maxRecDepth 100000 in
theorem B_X0_countLiftedIn (G : GG l s0 b L xs D cy ad)  {a1 : Nat} {a2 : Nat} {x3 : Int32} {M : Mm} {r : (Int32 × Mm)} (hp0 : P 12) (hp1 : P a1) (hs1 : SH a1 = 3) (hp2 : P a2) (hs2 : SH a2 = 8) (hr : f_X0_countLiftedIn a1 a2 x3 M = some r) : Cl l s0 D cy ad P 12 KX0_countLiftedIn [.ref 12, .ref a1, .ref a2, .int x3] M (.inl (some (.int r.1))) (r.2) := by
  unfold f_X0_countLiftedIn at hr
  obtain ⟨⟨v0, M0⟩, h0, h1⟩ := bso hr
  clear hr
  obtain ⟨v1, h2, h3⟩ := bso h1
  obtain ⟨hb, rfl⟩ := rB_in h2
  cases h3
  have hr := h0
  clear h0
  refine cl_ofN (by decide +kernel) rfl rfl (okB hb) (lo0 := [_, _, _, _, .null, .null, .null]) rfl ?_
  unfold g_X0_countLiftedIn at hr
  refine n_aload_n (n := 0) (by decide +kernel) rfl ?_
  refine n_getF (q := 14) G fl_RX0_15 hp0 (by decide +kernel) (by decide +kernel) (by decide +kernel) (fun hp1q => ?_)
  refine n_iconst (n := 0) (v := 0) (by decide +kernel) rfl ?_
  obtain ⟨M2, h2, hr⟩ := bso hr
  refine n_callSv G [_, _] (M1 := M2) (B_J7_fill_53178 G hp1q (by decide +kernel) h2) (by decide) mJ7_fill_53178 ml_RX0_57 rfl rfl (Nat.le_of_ble_eq_true rfl) (by decide +kernel) ?_
  refine n_iconst (n := 0) (v := 0) (by decide +kernel) rfl ?_
  refine n_istore (n := 4) (lo2 := [_, _, _, _, _, _, _]) (by decide +kernel) (Nat.le_of_ble_eq_true rfl) rfl ?_
  refine n_iconst (n := 0) (v := 0) (by decide +kernel) rfl ?_
  refine n_istore (n := 5) (lo2 := [_, _, _, _, _, _, _]) (by decide +kernel) (Nat.le_of_ble_eq_true rfl) rfl ?_
  obtain ⟨e15, h15, hr⟩ := bso hr
  refine (W_X0_countLiftedIn_b14 G hp0 hp1 hs1 hp2 hs2 h15 _ _) ?_
  obtain ⟨z4_15, M15⟩ := e15
  try dsimp only at hr
  dsimp only [Q_X0_countLiftedIn_b14]
  refine n_iload (n := 4) (by decide +kernel) rfl ?_
  cases hr
  exact n_ireturn (by decide +kernel)
set_option maxRecDepth 100000 in
theorem B_J6_bitCount_0f7a4 (G : GG l s0 b L xs D cy ad)  {x0 : Int32} {M : Mm} {r : Int32}  (hr : f_J6_bitCount_0f7a4 x0 M = some r) : Cl l s0 D cy ad P 9 KJ6_bitCount_0f7a4 [.int x0] M (.inl (some (.int r))) (M) := by
  refine cl_ofN (by decide +kernel) rfl rfl okI (lo0 := [_]) rfl ?_
  unfold f_J6_bitCount_0f7a4 at hr
  refine n_iload_n (n := 0) (by decide +kernel) rfl ?_
  refine n_iload_n (n := 0) (by decide +kernel) rfl ?_
  refine n_iconst (n := 1) (v := 1) (by decide +kernel) rfl ?_
  refine n_iushr (by decide +kernel) ?_
  refine n_ldcw G ct_RJ6_265 (by decide +kernel) ?_
  refine n_iand (by decide +kernel) ?_
  refine n_isub (by decide +kernel) ?_
  refine n_istore_n (n := 0) (lo2 := [_]) (by decide +kernel) (Nat.le_of_ble_eq_true rfl) rfl ?_
  refine n_iload_n (n := 0) (by decide +kernel) rfl ?_
  refine n_ldcw G ct_RJ6_266 (by decide +kernel) ?_
  refine n_iand (by decide +kernel) ?_
  refine n_iload_n (n := 0) (by decide +kernel) rfl ?_
  refine n_iconst (n := 2) (v := 2) (by decide +kernel) rfl ?_
  refine n_iushr (by decide +kernel) ?_
  refine n_ldcw G ct_RJ6_266 (by decide +kernel) ?_
  refine n_iand (by decide +kernel) ?_
  refine n_iadd (by decide +kernel) ?_
  refine n_istore_n (n := 0) (lo2 := [_]) (by decide +kernel) (Nat.le_of_ble_eq_true rfl) rfl ?_
  refine n_iload_n (n := 0) (by decide +kernel) rfl ?_
  refine n_iload_n (n := 0) (by decide +kernel) rfl ?_
  refine n_iconst (n := 4) (v := 4) (by decide +kernel) rfl ?_
  refine n_iushr (by decide +kernel) ?_
  refine n_iadd (by decide +kernel) ?_
  refine n_ldcw G ct_RJ6_267 (by decide +kernel) ?_
  refine n_iand (by decide +kernel) ?_
  refine n_istore_n (n := 0) (lo2 := [_]) (by decide +kernel) (Nat.le_of_ble_eq_true rfl) rfl ?_
  refine n_iload_n (n := 0) (by decide +kernel) rfl ?_
  refine n_iload_n (n := 0) (by decide +kernel) rfl ?_
  refine n_bipush (n := 8) (v := 8) (by decide +kernel) rfl ?_
  refine n_iushr (by decide +kernel) ?_
  refine n_iadd (by decide +kernel) ?_
  refine n_istore_n (n := 0) (lo2 := [_]) (by decide +kernel) (Nat.le_of_ble_eq_true rfl) rfl ?_
  refine n_iload_n (n := 0) (by decide +kernel) rfl ?_
  refine n_iload_n (n := 0) (by decide +kernel) rfl ?_
  refine n_bipush (n := 16) (v := 16) (by decide +kernel) rfl ?_
  refine n_iushr (by decide +kernel) ?_
  refine n_iadd (by decide +kernel) ?_
  refine n_istore_n (n := 0) (lo2 := [_]) (by decide +kernel) (Nat.le_of_ble_eq_true rfl) rfl ?_
  refine n_iload_n (n := 0) (by decide +kernel) rfl ?_
  refine n_bipush (n := 63) (v := 63) (by decide +kernel) rfl ?_
  refine n_iand (by decide +kernel) ?_
  cases hr
  exact n_ireturn (by decide +kernel)
abbrev P_X0_cellsToStop_b5 (l : Launch) (s0 : State) (D : va_G) (cy : Nat → ClassId) (ad : Nat → Nat) (P : Nat → Prop) (x0 : Int32) (x1 : Int32) (M : Mm) (res : Rs) (M' : Mm) (s : (Int32 × Int32)) : Prop := Rn l s0 D cy ad P 9 KX0_cellsToStop 5 [.int x0, .int x1, .int (s.1), .int (s.2)] [] M res M'
abbrev Q_X0_cellsToStop_b5 (l : Launch) (s0 : State) (D : va_G) (cy : Nat → ClassId) (ad : Nat → Nat) (P : Nat → Prop) (x0 : Int32) (x1 : Int32) (M : Mm) (res : Rs) (M' : Mm) (e : Int32) : Prop := Rn l s0 D cy ad P 9 KX0_cellsToStop 36 [.null, .null, .int (e), .null] [] M res M'
set_option maxRecDepth 100000 in
theorem B_X0_cellsToStop_b5 (G : GG l s0 b L xs D cy ad) {x0 : Int32} {x1 : Int32} {M : Mm} {res : Rs} {M' : Mm}  : ∀ (s : (Int32 × Int32)) (r : (Int32 × Int32) ⊕ Int32), f_X0_cellsToStop_b5 x0 x1 M s = some r → mtc (P_X0_cellsToStop_b5 l s0 D cy ad P x0 x1 M res M') (Q_X0_cellsToStop_b5 l s0 D cy ad P x0 x1 M res M') r → P_X0_cellsToStop_b5 l s0 D cy ad P x0 x1 M res M' s := by
  intro s r hr hk
  obtain ⟨x2, x3⟩ := s
  unfold f_X0_cellsToStop_b5 at hr
  try dsimp only at hr
  dsimp only [P_X0_cellsToStop_b5]
  refine n_iload_n (n := 3) (by decide +kernel) rfl ?_
  refine n_bipush (n := 8) (v := 8) (by decide +kernel) rfl ?_
  refine n_icmp_ge (off := 28) (tgt := 36) (by decide +kernel) (by decide) (fun hc1 => ?_) (fun hc1 => ?_)
  · rw [if_pos hc1] at hr
    cases hr
    refine n_msk [false, false, true, false] (lo2 := [.null, .null, _, .null]) rfl rfl ?_
    exact hk
  · rw [if_neg hc1] at hr
    refine n_iload_n (n := 0) (by decide +kernel) rfl ?_
    refine n_iload_n (n := 3) (by decide +kernel) rfl ?_
    refine n_ishr (by decide +kernel) ?_
    refine n_iconst (n := 1) (v := 1) (by decide +kernel) rfl ?_
    refine n_iand (by decide +kernel) ?_
    refine n_if_eq (off := 14) (tgt := 30) (by decide +kernel) (by decide) (fun hc2 => ?_) (fun hc2 => ?_)
    · rw [if_pos hc2] at hr
      refine n_iincK (n := 3) (j := 1) (w := 1) (lo2 := [_, _, _, _]) (by decide +kernel) rfl rfl rfl ?_
      refine n_goto (off := -28) (tgt := 5) (by decide +kernel) (by decide) ?_
      cases hr
      exact hk
    · rw [if_neg hc2] at hr
      refine n_iload_n (n := 2) (by decide +kernel) rfl ?_
      refine n_iload_n (n := 3) (by decide +kernel) rfl ?_
      refine n_iload_n (n := 1) (by decide +kernel) rfl ?_
      refine n_isub (by decide +kernel) ?_
      refine n_mabs G ml_RX0_91 (by decide) (Nat.le_of_ble_eq_true rfl) (by decide +kernel) ?_
      refine n_mmin G ml_RX0_96 (by decide) (Nat.le_of_ble_eq_true rfl) (by decide +kernel) ?_
      refine n_istore_n (n := 2) (lo2 := [_, _, _, _]) (by decide +kernel) (Nat.le_of_ble_eq_true rfl) rfl ?_
      refine n_iincK (n := 3) (j := 1) (w := 1) (lo2 := [_, _, _, _]) (by decide +kernel) rfl rfl rfl ?_
      refine n_goto (off := -28) (tgt := 5) (by decide +kernel) (by decide) ?_
      cases hr
      exact hk
set_option maxRecDepth 100000 in
theorem W_X0_cellsToStop_b5 (G : GG l s0 b L xs D cy ad) {x0 : Int32} {x1 : Int32} {M : Mm}  {s : (Int32 × Int32)} {e : Int32} (h : whl fu (f_X0_cellsToStop_b5 x0 x1 M) s = some e) (res : Rs) (M' : Mm) : Q_X0_cellsToStop_b5 l s0 D cy ad P x0 x1 M res M' e → P_X0_cellsToStop_b5 l s0 D cy ad P x0 x1 M res M' s := whl_run (P := fun s => P_X0_cellsToStop_b5 l s0 D cy ad P x0 x1 M res M' s) (Q := fun e => Q_X0_cellsToStop_b5 l s0 D cy ad P x0 x1 M res M' e) (B_X0_cellsToStop_b5 G (res := res) (M' := M') (x0 := x0) (x1 := x1) (M := M) ) fu s h
set_option maxRecDepth 100000 in
theorem B_X0_cellsToStop (G : GG l s0 b L xs D cy ad)  {x0 : Int32} {x1 : Int32} {M : Mm} {r : Int32}  (hr : f_X0_cellsToStop x0 x1 M = some r) : Cl l s0 D cy ad P 9 KX0_cellsToStop [.int x0, .int x1] M (.inl (some (.int r))) (M) := by
  refine cl_ofN (by decide +kernel) rfl rfl okI (lo0 := [_, _, .null, .null]) rfl ?_
  unfold f_X0_cellsToStop at hr
  refine n_bipush (n := 8) (v := 8) (by decide +kernel) rfl ?_
  refine n_istore_n (n := 2) (lo2 := [_, _, _, _]) (by decide +kernel) (Nat.le_of_ble_eq_true rfl) rfl ?_
  refine n_iconst (n := 0) (v := 0) (by decide +kernel) rfl ?_
  refine n_istore_n (n := 3) (lo2 := [_, _, _, _]) (by decide +kernel) (Nat.le_of_ble_eq_true rfl) rfl ?_
  obtain ⟨z2_3, h3, hr⟩ := bso hr
  refine (W_X0_cellsToStop_b5 G  h3 _ _) ?_
  dsimp only [Q_X0_cellsToStop_b5]
  refine n_iload_n (n := 2) (by decide +kernel) rfl ?_
  cases hr
  exact n_ireturn (by decide +kernel)
abbrev P_X0_carriedCells_b4 (l : Launch) (s0 : State) (D : va_G) (cy : Nat → ClassId) (ad : Nat → Nat) (P : Nat → Prop) (x1 : Int32) (M : Mm) (res : Rs) (M' : Mm) (s : (Int32 × Int32)) : Prop := Rn l s0 D cy ad P 10 KX0_carriedCells 4 [.ref 12, .int x1, .int (s.1), .int (s.2)] [] M res M'
abbrev Q_X0_carriedCells_b4 (l : Launch) (s0 : State) (D : va_G) (cy : Nat → ClassId) (ad : Nat → Nat) (P : Nat → Prop) (x1 : Int32) (M : Mm) (res : Rs) (M' : Mm) (e : Int32) : Prop := Rn l s0 D cy ad P 10 KX0_carriedCells 44 [.null, .null, .int (e), .null] [] M res M'
set_option maxRecDepth 100000 in
theorem B_X0_carriedCells_b4 (G : GG l s0 b L xs D cy ad) {x1 : Int32} {M : Mm} {res : Rs} {M' : Mm} (hp0 : P 12) : ∀ (s : (Int32 × Int32)) (r : (Int32 × Int32) ⊕ Int32), f_X0_carriedCells_b4 x1 M s = some r → mtc (P_X0_carriedCells_b4 l s0 D cy ad P x1 M res M') (Q_X0_carriedCells_b4 l s0 D cy ad P x1 M res M') r → P_X0_carriedCells_b4 l s0 D cy ad P x1 M res M' s := by
  intro s r hr hk
  obtain ⟨x2, x3⟩ := s
  unfold f_X0_carriedCells_b4 at hr
  try dsimp only at hr
  dsimp only [P_X0_carriedCells_b4]
  refine n_iload_n (n := 3) (by decide +kernel) rfl ?_
  refine n_bipush (n := 8) (v := 8) (by decide +kernel) rfl ?_
  refine n_icmp_ge (off := 37) (tgt := 44) (by decide +kernel) (by decide) (fun hc1 => ?_) (fun hc1 => ?_)
  · rw [if_pos hc1] at hr
    cases hr
    refine n_msk [false, false, true, false] (lo2 := [.null, .null, _, .null]) rfl rfl ?_
    exact hk
  · rw [if_neg hc1] at hr
    refine n_iload_n (n := 2) (by decide +kernel) rfl ?_
    refine n_aload_n (n := 0) (by decide +kernel) rfl ?_
    refine n_getF (q := 14) G fl_RX0_15 hp0 (by decide +kernel) (by decide +kernel) (by decide +kernel) (fun hp2q => ?_)
    refine n_iload_n (n := 3) (by decide +kernel) rfl ?_
    obtain ⟨v3, h3, hr⟩ := bso hr
    refine n_iald G h3 hp2q (by decide +kernel) (by decide +kernel) (by decide +kernel) ?_
    refine n_if_ne (off := 7) (tgt := 24) (by decide +kernel) (by decide) (fun hc4 => ?_) (fun hc4 => ?_)
    · rw [if_neg hc4] at hr
      refine n_aload_n (n := 0) (by decide +kernel) rfl ?_
      refine n_getF (q := 14) G fl_RX0_15 hp0 (by decide +kernel) (by decide +kernel) (by decide +kernel) (fun hp5q => ?_)
      refine n_iload_n (n := 3) (by decide +kernel) rfl ?_
      obtain ⟨v6, h6, hr⟩ := bso hr
      refine n_iald G h6 hp5q (by decide +kernel) (by decide +kernel) (by decide +kernel) ?_
      refine n_iload_n (n := 1) (by decide +kernel) rfl ?_
      refine n_iload_n (n := 3) (by decide +kernel) rfl ?_
      obtain ⟨v7, h7, hr⟩ := bso hr
      refine n_callSi G [_, _] (x := v7) (B_X0_cellsToStop G  h7) (by decide) mX0_cellsToStop ml_RX0_87 rfl rfl (Nat.le_of_ble_eq_true rfl) (by decide +kernel) ?_
      refine n_imul (by decide +kernel) ?_
      refine n_iadd (by decide +kernel) ?_
      refine n_istore_n (n := 2) (lo2 := [_, _, _, _]) (by decide +kernel) (Nat.le_of_ble_eq_true rfl) rfl ?_
      refine n_iincK (n := 3) (j := 1) (w := 1) (lo2 := [_, _, _, _]) (by decide +kernel) rfl rfl rfl ?_
      refine n_goto (off := -37) (tgt := 4) (by decide +kernel) (by decide) ?_
      cases hr
      exact hk
    · rw [if_pos hc4] at hr
      refine n_iconst (n := 0) (v := 0) (by decide +kernel) rfl ?_
      refine n_goto (off := 15) (tgt := 36) (by decide +kernel) (by decide) ?_
      refine n_iadd (by decide +kernel) ?_
      refine n_istore_n (n := 2) (lo2 := [_, _, _, _]) (by decide +kernel) (Nat.le_of_ble_eq_true rfl) rfl ?_
      refine n_iincK (n := 3) (j := 1) (w := 1) (lo2 := [_, _, _, _]) (by decide +kernel) rfl rfl rfl ?_
      refine n_goto (off := -37) (tgt := 4) (by decide +kernel) (by decide) ?_
      cases hr
      exact hk
set_option maxRecDepth 100000 in
theorem W_X0_carriedCells_b4 (G : GG l s0 b L xs D cy ad) {x1 : Int32} {M : Mm} (hp0 : P 12) {s : (Int32 × Int32)} {e : Int32} (h : whl fu (f_X0_carriedCells_b4 x1 M) s = some e) (res : Rs) (M' : Mm) : Q_X0_carriedCells_b4 l s0 D cy ad P x1 M res M' e → P_X0_carriedCells_b4 l s0 D cy ad P x1 M res M' s := whl_run (P := fun s => P_X0_carriedCells_b4 l s0 D cy ad P x1 M res M' s) (Q := fun e => Q_X0_carriedCells_b4 l s0 D cy ad P x1 M res M' e) (B_X0_carriedCells_b4 G (res := res) (M' := M') (x1 := x1) (M := M) hp0) fu s h
set_option maxRecDepth 100000 in
theorem B_X0_carriedCells (G : GG l s0 b L xs D cy ad)  {x1 : Int32} {M : Mm} {r : Int32} (hp0 : P 12) (hr : f_X0_carriedCells x1 M = some r) : Cl l s0 D cy ad P 10 KX0_carriedCells [.ref 12, .int x1] M (.inl (some (.int r))) (M) := by
  refine cl_ofN (by decide +kernel) rfl rfl okI (lo0 := [_, _, .null, .null]) rfl ?_
  unfold f_X0_carriedCells at hr
  refine n_iconst (n := 0) (v := 0) (by decide +kernel) rfl ?_
  refine n_istore_n (n := 2) (lo2 := [_, _, _, _]) (by decide +kernel) (Nat.le_of_ble_eq_true rfl) rfl ?_
  refine n_iconst (n := 0) (v := 0) (by decide +kernel) rfl ?_
  refine n_istore_n (n := 3) (lo2 := [_, _, _, _]) (by decide +kernel) (Nat.le_of_ble_eq_true rfl) rfl ?_
  obtain ⟨z2_8, h8, hr⟩ := bso hr
  refine (W_X0_carriedCells_b4 G hp0 h8 _ _) ?_
  dsimp only [Q_X0_carriedCells_b4]
  refine n_iload_n (n := 2) (by decide +kernel) rfl ?_
  cases hr
  exact n_ireturn (by decide +kernel)
abbrev P_X0_planStops_b21 (l : Launch) (s0 : State) (D : va_G) (cy : Nat → ClassId) (ad : Nat → Nat) (P : Nat → Prop) (a1 : Nat)  (res : Rs) (M' : Mm) (s : (Int32 × Mm)) : Prop := Rn l s0 D cy ad P 13 KX0_planStops 21 [.ref 12, .ref a1, .null, .null, .int (s.1), .null, .null] [] (s.2) res M'
abbrev Q_X0_planStops_b21 (l : Launch) (s0 : State) (D : va_G) (cy : Nat → ClassId) (ad : Nat → Nat) (P : Nat → Prop) (a1 : Nat)  (res : Rs) (M' : Mm) (e : Mm) : Prop := Rn l s0 D cy ad P 13 KX0_planStops 131 [.null, .null, .null, .null, .null, .null, .null] [] (e) res M'
set_option maxRecDepth 100000 in
theorem B_X0_planStops_j112 (G : GG l s0 b L xs D cy ad) {a1 : Nat} {x4 : Int32} {x5 : Int32} {x6 : Int32} {M : Mm}  {res : Rs} {M' : Mm} {r : ((Int32 × Mm) ⊕ Mm)} (hp0 : P 12) (hp1 : P a1) (hs1 : SH a1 = 3) (hr : f_X0_planStops_j112 a1 x4 x5 x6 M = some r) (hk : mtc (P_X0_planStops_b21 l s0 D cy ad P a1 res M') (Q_X0_planStops_b21 l s0 D cy ad P a1 res M') r) : Rn l s0 D cy ad P 13 KX0_planStops 112 [.ref 12, .ref a1, .null, .null, .int x4, .int x5, .int x6] [] M res M' := by
  unfold f_X0_planStops_j112 at hr
  refine n_aload_n (n := 0) (by decide +kernel) rfl ?_
  refine n_iload (n := 6) (by decide +kernel) rfl ?_
  refine n_i2l (by decide +kernel) ?_
  refine n_iload (n := 5) (by decide +kernel) rfl ?_
  refine n_i2l (by decide +kernel) ?_
  refine n_iload (n := 4) (by decide +kernel) rfl ?_
  refine n_i2l (by decide +kernel) ?_
  obtain ⟨M10, h10, hr⟩ := bso hr
  refine n_callVv G [_, _, _] (M1 := M10) (B_X0_settle G hp0 h10) (by decide) mX0_settle ml_RX0_28 hp0 (by decide +kernel) rfl rfl (Nat.le_of_ble_eq_true rfl) (by decide +kernel) ?_
  refine n_iincK (n := 4) (j := 1) (w := 1) (lo2 := [_, _, _, _, _, _, _]) (by decide +kernel) rfl rfl rfl ?_
  refine n_goto (off := -107) (tgt := 21) (by decide +kernel) (by decide) ?_
  cases hr
  refine n_msk [true, true, false, false, true, false, false] (lo2 := [_, _, .null, .null, _, .null, .null]) rfl rfl ?_
  exact hk
set_option maxRecDepth 100000 in
theorem B_X0_planStops_b21 (G : GG l s0 b L xs D cy ad) {a1 : Nat}  {res : Rs} {M' : Mm} (hp0 : P 12) (hp1 : P a1) (hs1 : SH a1 = 3) : ∀ (s : (Int32 × Mm)) (r : (Int32 × Mm) ⊕ Mm), f_X0_planStops_b21 a1 s = some r → mtc (P_X0_planStops_b21 l s0 D cy ad P a1 res M') (Q_X0_planStops_b21 l s0 D cy ad P a1 res M') r → P_X0_planStops_b21 l s0 D cy ad P a1 res M' s := by
  intro s r hr hk
  obtain ⟨x4, M⟩ := s
  unfold f_X0_planStops_b21 at hr
  try dsimp only at hr
  dsimp only [P_X0_planStops_b21]
  refine n_iload (n := 4) (by decide +kernel) rfl ?_
  refine n_iconst (n := 1) (v := 1) (by decide +kernel) rfl ?_
  refine n_aload_n (n := 1) (by decide +kernel) rfl ?_
  refine n_getI G fl_RX0_36 hp1 hs1 (by decide +kernel) ?_
  refine n_ishl (by decide +kernel) ?_
  refine n_icmp_ge (off := 102) (tgt := 131) (by decide +kernel) (by decide) (fun hc4 => ?_) (fun hc4 => ?_)
  · rw [if_pos hc4] at hr
    cases hr
    refine n_msk [false, false, false, false, false, false, false] (lo2 := [.null, .null, .null, .null, .null, .null, .null]) rfl rfl ?_
    exact hk
  · rw [if_neg hc4] at hr
    refine n_iload (n := 4) (by decide +kernel) rfl ?_
    obtain ⟨v5, h5, hr⟩ := bso hr
    refine n_callSi G [_] (x := v5) (B_J6_bitCount_0f7a4 G  h5) (by decide) mJ6_bitCount_0f7a4 ml_RX0_42 rfl rfl (Nat.le_of_ble_eq_true rfl) (by decide +kernel) ?_
    refine n_istore (n := 5) (lo2 := [_, _, _, _, _, _, _]) (by decide +kernel) (Nat.le_of_ble_eq_true rfl) rfl ?_
    refine n_iload (n := 5) (by decide +kernel) rfl ?_
    refine n_aload_n (n := 1) (by decide +kernel) rfl ?_
    refine n_getI G fl_RX0_48 hp1 hs1 (by decide +kernel) ?_
    refine n_imul (by decide +kernel) ?_
    refine n_iconst (n := 2) (v := 2) (by decide +kernel) rfl ?_
    refine n_aload_n (n := 1) (by decide +kernel) rfl ?_
    refine n_getI G fl_RX0_51 hp1 hs1 (by decide +kernel) ?_
    refine n_imul (by decide +kernel) ?_
    refine n_aload_n (n := 0) (by decide +kernel) rfl ?_
    refine n_iload (n := 4) (by decide +kernel) rfl ?_
    obtain ⟨v6, h6, hr⟩ := bso hr
    refine n_callVi G [_] (x := v6) (B_X0_carriedCells G hp0 h6) (by decide) mX0_carriedCells ml_RX0_54 hp0 (by decide +kernel) rfl rfl (Nat.le_of_ble_eq_true rfl) (by decide +kernel) ?_
    refine n_imul (by decide +kernel) ?_
    refine n_iadd (by decide +kernel) ?_
    refine n_istore (n := 6) (lo2 := [_, _, _, _, _, _, _]) (by decide +kernel) (Nat.le_of_ble_eq_true rfl) rfl ?_
    refine n_aload_n (n := 0) (by decide +kernel) rfl ?_
    refine n_getF (q := 13) G fl_RX0_9 hp0 (by decide +kernel) (by decide +kernel) (by decide +kernel) (fun hp7q => ?_)
    refine n_iconst (n := 1) (v := 1) (by decide +kernel) rfl ?_
    obtain ⟨v8, h8, hr⟩ := bso hr
    refine n_lald G h8 hp7q (by decide +kernel) (by decide +kernel) (by decide +kernel) ?_
    refine n_lconst (n := 0) (v := 0) (by decide +kernel) rfl ?_
    refine n_lcmp (by decide +kernel) ?_
    refine n_if_eq (off := 42) (tgt := 112) (by decide +kernel) (by decide) (fun hc9 => ?_) (fun hc9 => ?_)
    · rw [if_pos hc9] at hr
      exact B_X0_planStops_j112 G hp0 hp1 hs1 hr hk
    · rw [if_neg hc9] at hr
      refine n_iload (n := 6) (by decide +kernel) rfl ?_
      refine n_i2l (by decide +kernel) ?_
      refine n_aload_n (n := 0) (by decide +kernel) rfl ?_
      refine n_getF (q := 13) G fl_RX0_9 hp0 (by decide +kernel) (by decide +kernel) (by decide +kernel) (fun hp11q => ?_)
      refine n_iconst (n := 0) (v := 0) (by decide +kernel) rfl ?_
      obtain ⟨v12, h12, hr⟩ := bso hr
      refine n_lald G h12 hp11q (by decide +kernel) (by decide +kernel) (by decide +kernel) ?_
      refine n_lcmp (by decide +kernel) ?_
      refine n_if_lt (off := 29) (tgt := 112) (by decide +kernel) (by decide) (fun hc13 => ?_) (fun hc13 => ?_)
      · rw [if_pos hc13] at hr
        exact B_X0_planStops_j112 G hp0 hp1 hs1 hr hk
      · rw [if_neg hc13] at hr
        refine n_iload (n := 6) (by decide +kernel) rfl ?_
        refine n_i2l (by decide +kernel) ?_
        refine n_aload_n (n := 0) (by decide +kernel) rfl ?_
        refine n_getF (q := 13) G fl_RX0_9 hp0 (by decide +kernel) (by decide +kernel) (by decide +kernel) (fun hp14q => ?_)
        refine n_iconst (n := 0) (v := 0) (by decide +kernel) rfl ?_
        obtain ⟨v15, h15, hr⟩ := bso hr
        refine n_lald G h15 hp14q (by decide +kernel) (by decide +kernel) (by decide +kernel) ?_
        refine n_lcmp (by decide +kernel) ?_
        refine n_if_ne (off := 29) (tgt := 125) (by decide +kernel) (by decide) (fun hc16 => ?_) (fun hc16 => ?_)
        · rw [if_neg hc16] at hr
          refine n_iincK (n := 4) (j := 1) (w := 1) (lo2 := [_, _, _, _, _, _, _]) (by decide +kernel) rfl rfl rfl ?_
          refine n_goto (off := -107) (tgt := 21) (by decide +kernel) (by decide) ?_
          cases hr
          refine n_msk [true, true, false, false, true, false, false] (lo2 := [_, _, .null, .null, _, .null, .null]) rfl rfl ?_
          exact hk
        · rw [if_pos hc16] at hr
          refine n_iload (n := 5) (by decide +kernel) rfl ?_
          refine n_i2l (by decide +kernel) ?_
          refine n_aload_n (n := 0) (by decide +kernel) rfl ?_
          refine n_getF (q := 13) G fl_RX0_9 hp0 (by decide +kernel) (by decide +kernel) (by decide +kernel) (fun hp17q => ?_)
          refine n_iconst (n := 1) (v := 1) (by decide +kernel) rfl ?_
          obtain ⟨v18, h18, hr⟩ := bso hr
          refine n_lald G h18 hp17q (by decide +kernel) (by decide +kernel) (by decide +kernel) ?_
          refine n_lcmp (by decide +kernel) ?_
          refine n_if_ge (off := 16) (tgt := 125) (by decide +kernel) (by decide) (fun hc19 => ?_) (fun hc19 => ?_)
          · rw [if_pos hc19] at hr
            refine n_iincK (n := 4) (j := 1) (w := 1) (lo2 := [_, _, _, _, _, _, _]) (by decide +kernel) rfl rfl rfl ?_
            refine n_goto (off := -107) (tgt := 21) (by decide +kernel) (by decide) ?_
            cases hr
            refine n_msk [true, true, false, false, true, false, false] (lo2 := [_, _, .null, .null, _, .null, .null]) rfl rfl ?_
            exact hk
          · rw [if_neg hc19] at hr
            exact B_X0_planStops_j112 G hp0 hp1 hs1 hr hk
set_option maxRecDepth 100000 in
theorem W_X0_planStops_b21 (G : GG l s0 b L xs D cy ad) {a1 : Nat}  (hp0 : P 12) (hp1 : P a1) (hs1 : SH a1 = 3) {s : (Int32 × Mm)} {e : Mm} (h : whl fu (f_X0_planStops_b21 a1) s = some e) (res : Rs) (M' : Mm) : Q_X0_planStops_b21 l s0 D cy ad P a1 res M' e → P_X0_planStops_b21 l s0 D cy ad P a1 res M' s := whl_run (P := fun s => P_X0_planStops_b21 l s0 D cy ad P a1 res M' s) (Q := fun e => Q_X0_planStops_b21 l s0 D cy ad P a1 res M' e) (B_X0_planStops_b21 G (res := res) (M' := M') (a1 := a1) hp0 hp1 hs1) fu s h
set_option maxRecDepth 100000 in
theorem B_X0_planStops (G : GG l s0 b L xs D cy ad)  {a1 : Nat} {a2 : Nat} {x3 : Int32} {M : Mm} {r : Mm} (hp0 : P 12) (hp1 : P a1) (hs1 : SH a1 = 3) (hp2 : P a2) (hs2 : SH a2 = 8) (hr : f_X0_planStops a1 a2 x3 M = some r) : Cl l s0 D cy ad P 13 KX0_planStops [.ref 12, .ref a1, .ref a2, .int x3] M (.inl none) (r) := by
  refine cl_ofN (by decide +kernel) rfl rfl rfl (lo0 := [_, _, _, _, .null, .null, .null]) rfl ?_
  unfold f_X0_planStops at hr
  refine n_aload_n (n := 0) (by decide +kernel) rfl ?_
  refine n_lconst (n := 0) (v := 0) (by decide +kernel) rfl ?_
  refine n_lconst (n := 0) (v := 0) (by decide +kernel) rfl ?_
  refine n_lconst (n := 0) (v := 0) (by decide +kernel) rfl ?_
  obtain ⟨M1, h1, hr⟩ := bso hr
  refine n_callVv G [_, _, _] (M1 := M1) (B_X0_settle G hp0 h1) (by decide) mX0_settle ml_RX0_28 hp0 (by decide +kernel) rfl rfl (Nat.le_of_ble_eq_true rfl) (by decide +kernel) ?_
  refine n_aload_n (n := 0) (by decide +kernel) rfl ?_
  refine n_aload_n (n := 1) (by decide +kernel) rfl ?_
  refine n_aload_n (n := 2) (by decide +kernel) rfl ?_
  refine n_iload_n (n := 3) (by decide +kernel) rfl ?_
  obtain ⟨⟨v2, M2⟩, h2, hr⟩ := bso hr
  try dsimp only at hr
  refine n_callVi G [_, _, _] (x := v2) (M1 := M2) (B_X0_countLiftedIn G hp0 hp1 hs1 hp2 hs2 h2) (by decide) mX0_countLiftedIn ml_RX0_32 hp0 (by decide +kernel) rfl rfl (Nat.le_of_ble_eq_true rfl) (by decide +kernel) ?_
  refine n_if_ne (off := 4) (tgt := 18) (by decide +kernel) (by decide) (fun hc3 => ?_) (fun hc3 => ?_)
  · rw [if_neg hc3] at hr
    refine n_iconst (n := 1) (v := 1) (by decide +kernel) rfl ?_
    refine n_istore (n := 4) (lo2 := [_, _, _, _, _, _, _]) (by decide +kernel) (Nat.le_of_ble_eq_true rfl) rfl ?_
    obtain ⟨M20, h20, hr⟩ := bso hr
    refine n_msk [true, true, false, false, true, false, false] (lo2 := [_, _, .null, .null, _, .null, .null]) rfl rfl ?_
    refine (W_X0_planStops_b21 G hp0 hp1 hs1 h20 _ _) ?_
    dsimp only [Q_X0_planStops_b21]
    cases hr
    exact n_return (by decide +kernel)
  · rw [if_pos hc3] at hr
    cases hr
    exact n_return (by decide +kernel)
abbrev P_X0_rowsAsked_b4 (l : Launch) (s0 : State) (D : va_G) (cy : Nat → ClassId) (ad : Nat → Nat) (P : Nat → Prop) (a0 : Nat) (M : Mm) (res : Rs) (M' : Mm) (s : (Int32 × Int32)) : Prop := Rn l s0 D cy ad P 12 KX0_rowsAsked 4 [.ref a0, .int (s.1), .int (s.2)] [] M res M'
abbrev Q_X0_rowsAsked_b4 (l : Launch) (s0 : State) (D : va_G) (cy : Nat → ClassId) (ad : Nat → Nat) (P : Nat → Prop) (a0 : Nat) (M : Mm) (res : Rs) (M' : Mm) (e : Int32) : Prop := Rn l s0 D cy ad P 12 KX0_rowsAsked 43 [.null, .int (e), .null] [] M res M'
set_option maxRecDepth 100000 in
theorem B_X0_rowsAsked_b4 (G : GG l s0 b L xs D cy ad) {a0 : Nat} {M : Mm} {res : Rs} {M' : Mm} (hp0 : P a0) (hs0 : SH a0 = 8) : ∀ (s : (Int32 × Int32)) (r : (Int32 × Int32) ⊕ Int32), f_X0_rowsAsked_b4 a0 M s = some r → mtc (P_X0_rowsAsked_b4 l s0 D cy ad P a0 M res M') (Q_X0_rowsAsked_b4 l s0 D cy ad P a0 M res M') r → P_X0_rowsAsked_b4 l s0 D cy ad P a0 M res M' s := by
  intro s r hr hk
  obtain ⟨x1, x2⟩ := s
  unfold f_X0_rowsAsked_b4 at hr
  try dsimp only at hr
  dsimp only [P_X0_rowsAsked_b4]
  refine n_iload_n (n := 2) (by decide +kernel) rfl ?_
  refine n_aload_n (n := 0) (by decide +kernel) rfl ?_
  refine n_getI G fl_RX0_63 hp0 hs0 (by decide +kernel) ?_
  refine n_icmp_ge (off := 34) (tgt := 43) (by decide +kernel) (by decide) (fun hc1 => ?_) (fun hc1 => ?_)
  · rw [if_pos hc1] at hr
    cases hr
    refine n_msk [false, true, false] (lo2 := [.null, _, .null]) rfl rfl ?_
    exact hk
  · rw [if_neg hc1] at hr
    refine n_iload_n (n := 1) (by decide +kernel) rfl ?_
    refine n_aload_n (n := 0) (by decide +kernel) rfl ?_
    refine n_iload_n (n := 2) (by decide +kernel) rfl ?_
    obtain ⟨v2, h2, hr⟩ := bso hr
    refine n_callVi G [_] (x := v2) (B_X8_isAsked G hp0 hs0 h2) (by decide) mX8_isAsked ml_RX0_71 hp0 hs0 rfl rfl (Nat.le_of_ble_eq_true rfl) (by decide +kernel) ?_
    refine n_if_eq (off := 16) (tgt := 34) (by decide +kernel) (by decide) (fun hc3 => ?_) (fun hc3 => ?_)
    · rw [if_pos hc3] at hr
      refine n_iconst (n := 0) (v := 0) (by decide +kernel) rfl ?_
      refine n_ior (by decide +kernel) ?_
      refine n_istore_n (n := 1) (lo2 := [_, _, _]) (by decide +kernel) (Nat.le_of_ble_eq_true rfl) rfl ?_
      refine n_iincK (n := 2) (j := 1) (w := 1) (lo2 := [_, _, _]) (by decide +kernel) rfl rfl rfl ?_
      refine n_goto (off := -36) (tgt := 4) (by decide +kernel) (by decide) ?_
      cases hr
      exact hk
    · rw [if_neg hc3] at hr
      refine n_iconst (n := 1) (v := 1) (by decide +kernel) rfl ?_
      refine n_aload_n (n := 0) (by decide +kernel) rfl ?_
      refine n_iload_n (n := 2) (by decide +kernel) rfl ?_
      obtain ⟨v4, h4, hr⟩ := bso hr
      refine n_callVi G [_] (x := v4) (B_X8_cellOf G hp0 hs0 h4) (by decide) mX8_cellOf ml_RX0_68 hp0 hs0 rfl rfl (Nat.le_of_ble_eq_true rfl) (by decide +kernel) ?_
      obtain ⟨v5, h5, hr⟩ := bso hr
      refine n_callSNi G [_] (x := v5) (B_X9_row G  h5) (by decide) mX9_row ml_RX0_75 rfl rfl (Nat.le_of_ble_eq_true rfl) (by decide +kernel) ?_
      refine n_ishl (by decide +kernel) ?_
      refine n_goto (off := 4) (tgt := 35) (by decide +kernel) (by decide) ?_
      refine n_ior (by decide +kernel) ?_
      refine n_istore_n (n := 1) (lo2 := [_, _, _]) (by decide +kernel) (Nat.le_of_ble_eq_true rfl) rfl ?_
      refine n_iincK (n := 2) (j := 1) (w := 1) (lo2 := [_, _, _]) (by decide +kernel) rfl rfl rfl ?_
      refine n_goto (off := -36) (tgt := 4) (by decide +kernel) (by decide) ?_
      cases hr
      exact hk
set_option maxRecDepth 100000 in
theorem W_X0_rowsAsked_b4 (G : GG l s0 b L xs D cy ad) {a0 : Nat} {M : Mm} (hp0 : P a0) (hs0 : SH a0 = 8) {s : (Int32 × Int32)} {e : Int32} (h : whl fu (f_X0_rowsAsked_b4 a0 M) s = some e) (res : Rs) (M' : Mm) : Q_X0_rowsAsked_b4 l s0 D cy ad P a0 M res M' e → P_X0_rowsAsked_b4 l s0 D cy ad P a0 M res M' s := whl_run (P := fun s => P_X0_rowsAsked_b4 l s0 D cy ad P a0 M res M' s) (Q := fun e => Q_X0_rowsAsked_b4 l s0 D cy ad P a0 M res M' e) (B_X0_rowsAsked_b4 G (res := res) (M' := M') (a0 := a0) (M := M) hp0 hs0) fu s h
set_option maxRecDepth 100000 in
theorem B_X0_rowsAsked (G : GG l s0 b L xs D cy ad)  {a0 : Nat} {M : Mm} {r : Int32} (hp0 : P a0) (hs0 : SH a0 = 8) (hr : f_X0_rowsAsked a0 M = some r) : Cl l s0 D cy ad P 12 KX0_rowsAsked [.ref a0] M (.inl (some (.int r))) (M) := by
  refine cl_ofN (by decide +kernel) rfl rfl okI (lo0 := [_, .null, .null]) rfl ?_
  unfold f_X0_rowsAsked at hr
  refine n_iconst (n := 0) (v := 0) (by decide +kernel) rfl ?_
  refine n_istore_n (n := 1) (lo2 := [_, _, _]) (by decide +kernel) (Nat.le_of_ble_eq_true rfl) rfl ?_
  refine n_iconst (n := 0) (v := 0) (by decide +kernel) rfl ?_
  refine n_istore_n (n := 2) (lo2 := [_, _, _]) (by decide +kernel) (Nat.le_of_ble_eq_true rfl) rfl ?_
  obtain ⟨z1_6, h6, hr⟩ := bso hr
  refine (W_X0_rowsAsked_b4 G hp0 hs0 h6 _ _) ?_
  dsimp only [Q_X0_rowsAsked_b4]
  refine n_iload_n (n := 1) (by decide +kernel) rfl ?_
  cases hr
  exact n_ireturn (by decide +kernel)
abbrev P_X0_planWay_b28 (l : Launch) (s0 : State) (D : va_G) (cy : Nat → ClassId) (ad : Nat → Nat) (P : Nat → Prop) (a1 : Nat) (x3 : Int32) (x4 : Int32) (M : Mm) (res : Rs) (M' : Mm) (s : (Int32 × Int64 × Int32 × Int32 × Int32)) : Prop := Rn l s0 D cy ad P 13 KX0_planWay 28 [.ref 12, .ref a1, .null, .int x3, .int x4, .int (s.1), .long (s.2.1), .null, .int (s.2.2.1), .int (s.2.2.2.1), .int (s.2.2.2.2)] [] M res M'
abbrev Q_X0_planWay_b28 (l : Launch) (s0 : State) (D : va_G) (cy : Nat → ClassId) (ad : Nat → Nat) (P : Nat → Prop) (a1 : Nat) (x3 : Int32) (x4 : Int32) (M : Mm) (res : Rs) (M' : Mm) (e : (Int32 × Int64 × Int32)) : Prop := Rn l s0 D cy ad P 13 KX0_planWay 103 [.ref 12, .ref a1, .null, .null, .null, .int (e.1), .long (e.2.1), .null, .int (e.2.2), .null, .null] [] M res M'
set_option maxRecDepth 100000 in
theorem B_X0_planWay_j95 (G : GG l s0 b L xs D cy ad) {a1 : Nat} {x3 : Int32} {x4 : Int32} {x5 : Int32} {y6 : Int64} {x8 : Int32} {x10 : Int32} {xs0 : Int32} {M : Mm}  {res : Rs} {M' : Mm} {r : ((Int32 × Int64 × Int32 × Int32 × Int32) ⊕ (Int32 × Int64 × Int32))} (hp0 : P 12) (hp1 : P a1) (hs1 : SH a1 = 3) (hr : f_X0_planWay_j95 a1 x3 x4 x5 y6 x8 x10 xs0 M = some r) (hk : mtc (P_X0_planWay_b28 l s0 D cy ad P a1 x3 x4 M res M') (Q_X0_planWay_b28 l s0 D cy ad P a1 x3 x4 M res M') r) : Rn l s0 D cy ad P 13 KX0_planWay 95 [.ref 12, .ref a1, .null, .int x3, .int x4, .int x5, .long y6, .null, .int x8, .null, .int x10] [.int xs0] M res M' := by
  unfold f_X0_planWay_j95 at hr
  refine n_istore (n := 9) (lo2 := [_, _, _, _, _, _, _, _, _, _, _]) (by decide +kernel) (Nat.le_of_ble_eq_true rfl) rfl ?_
  refine n_iincK (n := 10) (j := 1) (w := 1) (lo2 := [_, _, _, _, _, _, _, _, _, _, _]) (by decide +kernel) rfl rfl rfl ?_
  refine n_goto (off := -72) (tgt := 28) (by decide +kernel) (by decide) ?_
  cases hr
  exact hk
set_option maxRecDepth 100000 in
theorem B_X0_planWay_j94 (G : GG l s0 b L xs D cy ad) {a1 : Nat} {x3 : Int32} {x4 : Int32} {x5 : Int32} {y6 : Int64} {x8 : Int32} {x10 : Int32} {M : Mm}  {res : Rs} {M' : Mm} {r : ((Int32 × Int64 × Int32 × Int32 × Int32) ⊕ (Int32 × Int64 × Int32))} (hp0 : P 12) (hp1 : P a1) (hs1 : SH a1 = 3) (hr : f_X0_planWay_j94 a1 x3 x4 x5 y6 x8 x10 M = some r) (hk : mtc (P_X0_planWay_b28 l s0 D cy ad P a1 x3 x4 M res M') (Q_X0_planWay_b28 l s0 D cy ad P a1 x3 x4 M res M') r) : Rn l s0 D cy ad P 13 KX0_planWay 94 [.ref 12, .ref a1, .null, .int x3, .int x4, .int x5, .long y6, .null, .int x8, .null, .int x10] [] M res M' := by
  unfold f_X0_planWay_j94 at hr
  refine n_iconst (n := 0) (v := 0) (by decide +kernel) rfl ?_
  exact B_X0_planWay_j95 G hp0 hp1 hs1 hr hk
set_option maxRecDepth 100000 in
theorem B_X0_planWay_b28 (G : GG l s0 b L xs D cy ad) {a1 : Nat} {x3 : Int32} {x4 : Int32} {M : Mm} {res : Rs} {M' : Mm} (hp0 : P 12) (hp1 : P a1) (hs1 : SH a1 = 3) : ∀ (s : (Int32 × Int64 × Int32 × Int32 × Int32)) (r : (Int32 × Int64 × Int32 × Int32 × Int32) ⊕ (Int32 × Int64 × Int32)), f_X0_planWay_b28 a1 x3 x4 M s = some r → mtc (P_X0_planWay_b28 l s0 D cy ad P a1 x3 x4 M res M') (Q_X0_planWay_b28 l s0 D cy ad P a1 x3 x4 M res M') r → P_X0_planWay_b28 l s0 D cy ad P a1 x3 x4 M res M' s := by
  intro s r hr hk
  obtain ⟨x5, y6, x8, x9, x10⟩ := s
  unfold f_X0_planWay_b28 at hr
  try dsimp only at hr
  dsimp only [P_X0_planWay_b28]
  refine n_iload (n := 10) (by decide +kernel) rfl ?_
  refine n_bipush (n := 6) (v := 6) (by decide +kernel) rfl ?_
  refine n_icmp_ge (off := 71) (tgt := 103) (by decide +kernel) (by decide) (fun hc2 => ?_) (fun hc2 => ?_)
  · rw [if_pos hc2] at hr
    cases hr
    refine n_msk [true, true, false, false, false, true, true, false, true, false, false] (lo2 := [_, _, .null, .null, .null, _, _, .null, _, .null, .null]) rfl rfl ?_
    exact hk
  · rw [if_neg hc2] at hr
    refine n_iload_n (n := 3) (by decide +kernel) rfl ?_
    refine n_iload (n := 10) (by decide +kernel) rfl ?_
    refine n_ishr (by decide +kernel) ?_
    refine n_iconst (n := 1) (v := 1) (by decide +kernel) rfl ?_
    refine n_iand (by decide +kernel) ?_
    refine n_if_eq (off := 56) (tgt := 97) (by decide +kernel) (by decide) (fun hc3 => ?_) (fun hc3 => ?_)
    · rw [if_pos hc3] at hr
      refine n_iincK (n := 10) (j := 1) (w := 1) (lo2 := [_, _, _, _, _, _, _, _, _, _, _]) (by decide +kernel) rfl rfl rfl ?_
      refine n_goto (off := -72) (tgt := 28) (by decide +kernel) (by decide) ?_
      cases hr
      exact hk
    · rw [if_neg hc3] at hr
      refine n_iload (n := 10) (by decide +kernel) rfl ?_
      refine n_istore (n := 8) (lo2 := [_, _, _, _, _, _, _, _, _, _, _]) (by decide +kernel) (Nat.le_of_ble_eq_true rfl) rfl ?_
      refine n_iload (n := 5) (by decide +kernel) rfl ?_
      refine n_iload (n := 4) (by decide +kernel) rfl ?_
      refine n_iadd (by decide +kernel) ?_
      refine n_istore (n := 5) (lo2 := [_, _, _, _, _, _, _, _, _, _, _]) (by decide +kernel) (Nat.le_of_ble_eq_true rfl) rfl ?_
      refine n_lload (n := 6) (by decide +kernel) rfl ?_
      refine n_ldc2 G ct_RX0_103 (by decide +kernel) ?_
      refine n_lmul (by decide +kernel) ?_
      refine n_iload (n := 10) (by decide +kernel) rfl ?_
      refine n_i2l (by decide +kernel) ?_
      refine n_ladd (by decide +kernel) ?_
      refine n_iload (n := 9) (by decide +kernel) rfl ?_
      refine n_dia1 (J := 76) (c := x9 = 0) (a := (0 : Int32)) (b := (6 : Int32)) (fun hJ => ?_) ?_
      · refine n_if_eq (off := 8) (tgt := 75) (by decide +kernel) (by decide) (fun hc4 => ?_) (fun hc4 => ?_)
        · refine n_iconst (n := 0) (v := 0) (by decide +kernel) rfl ?_
          exact hJ _ (if_pos hc4).symm
        · refine n_bipush (n := 6) (v := 6) (by decide +kernel) rfl ?_
          refine n_goto (off := 4) (tgt := 76) (by decide +kernel) (by decide) ?_
          exact hJ _ (if_neg hc4).symm
      refine n_i2l (by decide +kernel) ?_
      refine n_ladd (by decide +kernel) ?_
      refine n_lstore (n := 6) (lo2 := [_, _, _, _, _, _, _, _, _, _, _]) (by decide +kernel) (Nat.le_of_ble_eq_true rfl) rfl ?_
      refine n_iload (n := 9) (by decide +kernel) rfl ?_
      refine n_if_ne (off := 12) (tgt := 94) (by decide +kernel) (by decide) (fun hc5 => ?_) (fun hc5 => ?_)
      · rw [if_neg hc5] at hr
        refine n_msk [true, true, false, true, true, true, true, false, true, false, true] (lo2 := [_, _, .null, _, _, _, _, .null, _, .null, _]) rfl rfl ?_
        exact B_X0_planWay_j94 G hp0 hp1 hs1 hr hk
      · rw [if_pos hc5] at hr
        refine n_iload (n := 4) (by decide +kernel) rfl ?_
        refine n_if_le (off := 7) (tgt := 94) (by decide +kernel) (by decide) (fun hc6 => ?_) (fun hc6 => ?_)
        · rw [if_pos hc6] at hr
          refine n_msk [true, true, false, true, true, true, true, false, true, false, true] (lo2 := [_, _, .null, _, _, _, _, .null, _, .null, _]) rfl rfl ?_
          exact B_X0_planWay_j94 G hp0 hp1 hs1 hr hk
        · rw [if_neg hc6] at hr
          refine n_iconst (n := 1) (v := 1) (by decide +kernel) rfl ?_
          refine n_goto (off := 4) (tgt := 95) (by decide +kernel) (by decide) ?_
          refine n_msk [true, true, false, true, true, true, true, false, true, false, true] (lo2 := [_, _, .null, _, _, _, _, .null, _, .null, _]) rfl rfl ?_
          exact B_X0_planWay_j95 G hp0 hp1 hs1 hr hk
set_option maxRecDepth 100000 in
theorem W_X0_planWay_b28 (G : GG l s0 b L xs D cy ad) {a1 : Nat} {x3 : Int32} {x4 : Int32} {M : Mm} (hp0 : P 12) (hp1 : P a1) (hs1 : SH a1 = 3) {s : (Int32 × Int64 × Int32 × Int32 × Int32)} {e : (Int32 × Int64 × Int32)} (h : whl fu (f_X0_planWay_b28 a1 x3 x4 M) s = some e) (res : Rs) (M' : Mm) : Q_X0_planWay_b28 l s0 D cy ad P a1 x3 x4 M res M' e → P_X0_planWay_b28 l s0 D cy ad P a1 x3 x4 M res M' s := whl_run (P := fun s => P_X0_planWay_b28 l s0 D cy ad P a1 x3 x4 M res M' s) (Q := fun e => Q_X0_planWay_b28 l s0 D cy ad P a1 x3 x4 M res M' e) (B_X0_planWay_b28 G (res := res) (M' := M') (a1 := a1) (x3 := x3) (x4 := x4) (M := M) hp0 hp1 hs1) fu s h
set_option maxRecDepth 100000 in
theorem B_X0_planWay (G : GG l s0 b L xs D cy ad)  {a1 : Nat} {a2 : Nat} {M : Mm} {r : Mm} (hp0 : P 12) (hp1 : P a1) (hs1 : SH a1 = 3) (hp2 : P a2) (hs2 : SH a2 = 8) (hr : f_X0_planWay a1 a2 M = some r) : Cl l s0 D cy ad P 13 KX0_planWay [.ref 12, .ref a1, .ref a2] M (.inl none) (r) := by
  refine cl_ofN (by decide +kernel) rfl rfl rfl (lo0 := [_, _, _, .null, .null, .null, .null, .null, .null, .null, .null]) rfl ?_
  unfold f_X0_planWay at hr
  refine n_aload_n (n := 2) (by decide +kernel) rfl ?_
  obtain ⟨v1, h1, hr⟩ := bso hr
  refine n_callSi G [_] (x := v1) (B_X0_rowsAsked G hp2 hs2 h1) (by decide) mX0_rowsAsked ml_RX0_99 rfl rfl (Nat.le_of_ble_eq_true rfl) (by decide +kernel) ?_
  refine n_istore_n (n := 3) (lo2 := [_, _, _, _, _, _, _, _, _, _, _]) (by decide +kernel) (Nat.le_of_ble_eq_true rfl) rfl ?_
  refine n_aload_n (n := 1) (by decide +kernel) rfl ?_
  refine n_getI G fl_RX0_36 hp1 hs1 (by decide +kernel) ?_
  refine n_iconst (n := 1) (v := 1) (by decide +kernel) rfl ?_
  refine n_isub (by decide +kernel) ?_
  refine n_istore (n := 4) (lo2 := [_, _, _, _, _, _, _, _, _, _, _]) (by decide +kernel) (Nat.le_of_ble_eq_true rfl) rfl ?_
  refine n_iconst (n := 0) (v := 0) (by decide +kernel) rfl ?_
  refine n_istore (n := 5) (lo2 := [_, _, _, _, _, _, _, _, _, _, _]) (by decide +kernel) (Nat.le_of_ble_eq_true rfl) rfl ?_
  refine n_lconst (n := 0) (v := 0) (by decide +kernel) rfl ?_
  refine n_lstore (n := 6) (lo2 := [_, _, _, _, _, _, _, _, _, _, _]) (by decide +kernel) (Nat.le_of_ble_eq_true rfl) rfl ?_
  refine n_iconst (n := 0) (v := 0) (by decide +kernel) rfl ?_
  refine n_istore (n := 8) (lo2 := [_, _, _, _, _, _, _, _, _, _, _]) (by decide +kernel) (Nat.le_of_ble_eq_true rfl) rfl ?_
  refine n_iconst (n := 0) (v := 0) (by decide +kernel) rfl ?_
  refine n_istore (n := 9) (lo2 := [_, _, _, _, _, _, _, _, _, _, _]) (by decide +kernel) (Nat.le_of_ble_eq_true rfl) rfl ?_
  refine n_iconst (n := 0) (v := 0) (by decide +kernel) rfl ?_
  refine n_istore (n := 10) (lo2 := [_, _, _, _, _, _, _, _, _, _, _]) (by decide +kernel) (Nat.le_of_ble_eq_true rfl) rfl ?_
  obtain ⟨e7, h7, hr⟩ := bso hr
  refine n_msk [true, true, false, true, true, true, true, false, true, true, true] (lo2 := [_, _, .null, _, _, _, _, .null, _, _, _]) rfl rfl ?_
  refine (W_X0_planWay_b28 G hp0 hp1 hs1 h7 _ _) ?_
  obtain ⟨z5_7, w6_7, z8_7⟩ := e7
  try dsimp only at hr
  dsimp only [Q_X0_planWay_b28]
  refine n_aload_n (n := 0) (by decide +kernel) rfl ?_
  refine n_aload_n (n := 1) (by decide +kernel) rfl ?_
  refine n_getI G fl_RX0_105 hp1 hs1 (by decide +kernel) ?_
  refine n_iload (n := 5) (by decide +kernel) rfl ?_
  refine n_iload (n := 8) (by decide +kernel) rfl ?_
  refine n_iadd (by decide +kernel) ?_
  refine n_imul (by decide +kernel) ?_
  refine n_i2l (by decide +kernel) ?_
  refine n_lload (n := 6) (by decide +kernel) rfl ?_
  refine n_lconst (n := 0) (v := 0) (by decide +kernel) rfl ?_
  obtain ⟨M8, h8, hr⟩ := bso hr
  refine n_callVv G [_, _, _] (M1 := M8) (B_X0_settle G hp0 h8) (by decide) mX0_settle ml_RX0_28 hp0 (by decide +kernel) rfl rfl (Nat.le_of_ble_eq_true rfl) (by decide +kernel) ?_
  cases hr
  exact n_return (by decide +kernel)
set_option maxRecDepth 100000 in
theorem B_X9_far (G : GG l s0 b L xs D cy ad)  {x0 : Int32} {x1 : Int32} {M : Mm} {r : Int32}  (hr : f_X9_far x0 x1 M = some r) : Cl l s0 D cy ad P 10 KX9_far [.int x0, .int x1] M (.inl (some (.int r))) (M) := by
  refine cl_ofN (by decide +kernel) rfl rfl okI (lo0 := [_, _]) rfl ?_
  unfold f_X9_far at hr
  refine n_iload_n (n := 0) (by decide +kernel) rfl ?_
  obtain ⟨v1, h1, hr⟩ := bso hr
  refine n_callSi G [_] (x := v1) (B_X9_column G  h1) (by decide) mX9_column ml_RX9_182 rfl rfl (Nat.le_of_ble_eq_true rfl) (by decide +kernel) ?_
  refine n_iload_n (n := 1) (by decide +kernel) rfl ?_
  obtain ⟨v2, h2, hr⟩ := bso hr
  refine n_callSi G [_] (x := v2) (B_X9_column G  h2) (by decide) mX9_column ml_RX9_182 rfl rfl (Nat.le_of_ble_eq_true rfl) (by decide +kernel) ?_
  refine n_isub (by decide +kernel) ?_
  refine n_mabs G ml_RX9_379 (by decide) (Nat.le_of_ble_eq_true rfl) (by decide +kernel) ?_
  refine n_iload_n (n := 0) (by decide +kernel) rfl ?_
  obtain ⟨v3, h3, hr⟩ := bso hr
  refine n_callSi G [_] (x := v3) (B_X9_row G  h3) (by decide) mX9_row ml_RX9_185 rfl rfl (Nat.le_of_ble_eq_true rfl) (by decide +kernel) ?_
  refine n_iload_n (n := 1) (by decide +kernel) rfl ?_
  obtain ⟨v4, h4, hr⟩ := bso hr
  refine n_callSi G [_] (x := v4) (B_X9_row G  h4) (by decide) mX9_row ml_RX9_185 rfl rfl (Nat.le_of_ble_eq_true rfl) (by decide +kernel) ?_
  refine n_isub (by decide +kernel) ?_
  refine n_mabs G ml_RX9_379 (by decide) (Nat.le_of_ble_eq_true rfl) (by decide +kernel) ?_
  refine n_iadd (by decide +kernel) ?_
  cases hr
  exact n_ireturn (by decide +kernel)
abbrev P_X0_measureCarry_b9 (l : Launch) (s0 : State) (D : va_G) (cy : Nat → ClassId) (ad : Nat → Nat) (P : Nat → Prop) (x1 : Int32) (x2 : Int32)  (res : Rs) (M' : Mm) (s : (Int32 × Mm)) : Prop := Rn l s0 D cy ad P 11 KX0_measureCarry 9 [.ref 12, .int x1, .int x2, .int (s.1)] [] (s.2) res M'
abbrev Q_X0_measureCarry_b9 (l : Launch) (s0 : State) (D : va_G) (cy : Nat → ClassId) (ad : Nat → Nat) (P : Nat → Prop) (x1 : Int32) (x2 : Int32)  (res : Rs) (M' : Mm) (e : Mm) : Prop := Rn l s0 D cy ad P 11 KX0_measureCarry 44 [.ref 12, .null, .int x2, .null] [] (e) res M'
set_option maxRecDepth 100000 in
theorem B_X0_measureCarry_b9 (G : GG l s0 b L xs D cy ad) {x1 : Int32} {x2 : Int32}  {res : Rs} {M' : Mm} (hp0 : P 12) : ∀ (s : (Int32 × Mm)) (r : (Int32 × Mm) ⊕ Mm), f_X0_measureCarry_b9 x1 x2 s = some r → mtc (P_X0_measureCarry_b9 l s0 D cy ad P x1 x2 res M') (Q_X0_measureCarry_b9 l s0 D cy ad P x1 x2 res M') r → P_X0_measureCarry_b9 l s0 D cy ad P x1 x2 res M' s := by
  intro s r hr hk
  obtain ⟨x3, M⟩ := s
  unfold f_X0_measureCarry_b9 at hr
  try dsimp only at hr
  dsimp only [P_X0_measureCarry_b9]
  refine n_iload_n (n := 3) (by decide +kernel) rfl ?_
  refine n_bipush (n := 48) (v := 48) (by decide +kernel) rfl ?_
  refine n_icmp_ge (off := 32) (tgt := 44) (by decide +kernel) (by decide) (fun hc2 => ?_) (fun hc2 => ?_)
  · rw [if_pos hc2] at hr
    cases hr
    refine n_msk [true, false, true, false] (lo2 := [_, .null, _, .null]) rfl rfl ?_
    exact hk
  · rw [if_neg hc2] at hr
    refine n_aload_n (n := 0) (by decide +kernel) rfl ?_
    refine n_getF (q := 17) G fl_RX0_25 hp0 (by decide +kernel) (by decide +kernel) (by decide +kernel) (fun hp3q => ?_)
    refine n_iload_n (n := 3) (by decide +kernel) rfl ?_
    refine n_bipush (n := 60) (v := 60) (by decide +kernel) rfl ?_
    refine n_imul (by decide +kernel) ?_
    refine n_aload_n (n := 0) (by decide +kernel) rfl ?_
    refine n_getI G fl_RX0_135 hp0 (by decide +kernel) (by decide +kernel) ?_
    refine n_iadd (by decide +kernel) ?_
    refine n_iload_n (n := 2) (by decide +kernel) rfl ?_
    refine n_iload_n (n := 1) (by decide +kernel) rfl ?_
    refine n_iload_n (n := 3) (by decide +kernel) rfl ?_
    obtain ⟨v4, h4, hr⟩ := bso hr
    refine n_callSNi G [_, _] (x := v4) (B_X9_far G  h4) (by decide) mX9_far ml_RX0_142 rfl rfl (Nat.le_of_ble_eq_true rfl) (by decide +kernel) ?_
    refine n_mmin G ml_RX0_96 (by decide) (Nat.le_of_ble_eq_true rfl) (by decide +kernel) ?_
    obtain ⟨M5, h5, hr⟩ := bso hr
    refine n_iast G h5 hp3q (by decide +kernel) (by decide +kernel) (by decide +kernel) ?_
    refine n_iincK (n := 3) (j := 1) (w := 1) (lo2 := [_, _, _, _]) (by decide +kernel) rfl rfl rfl ?_
    refine n_goto (off := -32) (tgt := 9) (by decide +kernel) (by decide) ?_
    cases hr
    exact hk
set_option maxRecDepth 100000 in
theorem W_X0_measureCarry_b9 (G : GG l s0 b L xs D cy ad) {x1 : Int32} {x2 : Int32}  (hp0 : P 12) {s : (Int32 × Mm)} {e : Mm} (h : whl fu (f_X0_measureCarry_b9 x1 x2) s = some e) (res : Rs) (M' : Mm) : Q_X0_measureCarry_b9 l s0 D cy ad P x1 x2 res M' e → P_X0_measureCarry_b9 l s0 D cy ad P x1 x2 res M' s := whl_run (P := fun s => P_X0_measureCarry_b9 l s0 D cy ad P x1 x2 res M' s) (Q := fun e => Q_X0_measureCarry_b9 l s0 D cy ad P x1 x2 res M' e) (B_X0_measureCarry_b9 G (res := res) (M' := M') (x1 := x1) (x2 := x2) hp0) fu s h
set_option maxRecDepth 100000 in
theorem B_X0_measureCarry (G : GG l s0 b L xs D cy ad)  {x1 : Int32} {M : Mm} {r : Mm} (hp0 : P 12) (hr : f_X0_measureCarry x1 M = some r) : Cl l s0 D cy ad P 11 KX0_measureCarry [.ref 12, .int x1] M (.inl none) (r) := by
  refine cl_ofN (by decide +kernel) rfl rfl rfl (lo0 := [_, _, .null, .null]) rfl ?_
  unfold f_X0_measureCarry at hr
  refine n_iload_n (n := 1) (by decide +kernel) rfl ?_
  obtain ⟨v1, h1, hr⟩ := bso hr
  refine n_callSNi G [_] (x := v1) (B_X9_column G  h1) (by decide) mX9_column ml_RX0_84 rfl rfl (Nat.le_of_ble_eq_true rfl) (by decide +kernel) ?_
  refine n_iconst (n := 1) (v := 1) (by decide +kernel) rfl ?_
  refine n_iadd (by decide +kernel) ?_
  refine n_istore_n (n := 2) (lo2 := [_, _, _, _]) (by decide +kernel) (Nat.le_of_ble_eq_true rfl) rfl ?_
  refine n_iconst (n := 0) (v := 0) (by decide +kernel) rfl ?_
  refine n_istore_n (n := 3) (lo2 := [_, _, _, _]) (by decide +kernel) (Nat.le_of_ble_eq_true rfl) rfl ?_
  obtain ⟨M6, h6, hr⟩ := bso hr
  refine (W_X0_measureCarry_b9 G hp0 h6 _ _) ?_
  dsimp only [Q_X0_measureCarry_b9]
  refine n_aload_n (n := 0) (by decide +kernel) rfl ?_
  refine n_getF (q := 17) G fl_RX0_25 hp0 (by decide +kernel) (by decide +kernel) (by decide +kernel) (fun hp7q => ?_)
  refine n_sipush (n := 2880) (v := 2880) (by decide +kernel) (by decide +kernel) ?_
  refine n_aload_n (n := 0) (by decide +kernel) rfl ?_
  refine n_getI G fl_RX0_135 hp0 (by decide +kernel) (by decide +kernel) ?_
  refine n_iadd (by decide +kernel) ?_
  refine n_iload_n (n := 2) (by decide +kernel) rfl ?_
  obtain ⟨M8, h8, hr⟩ := bso hr
  refine n_iast G h8 hp7q (by decide +kernel) (by decide +kernel) (by decide +kernel) ?_
  cases hr
  exact n_return (by decide +kernel)
abbrev P_X0_measureCarries_b7 (l : Launch) (s0 : State) (D : va_G) (cy : Nat → ClassId) (ad : Nat → Nat) (P : Nat → Prop) (a1 : Nat)  (res : Rs) (M' : Mm) (s : (Int32 × Mm)) : Prop := Rn l s0 D cy ad P 12 KX0_measureCarries 7 [.ref 12, .ref a1, .int (s.1)] [] (s.2) res M'
abbrev Q_X0_measureCarries_b7 (l : Launch) (s0 : State) (D : va_G) (cy : Nat → ClassId) (ad : Nat → Nat) (P : Nat → Prop) (a1 : Nat)  (res : Rs) (M' : Mm) (e : Mm) : Prop := Rn l s0 D cy ad P 12 KX0_measureCarries 57 [.null, .null, .null] [] (e) res M'
set_option maxRecDepth 100000 in
theorem B_X0_measureCarries_b7 (G : GG l s0 b L xs D cy ad) {a1 : Nat}  {res : Rs} {M' : Mm} (hp0 : P 12) (hp1 : P a1) (hs1 : SH a1 = 8) : ∀ (s : (Int32 × Mm)) (r : (Int32 × Mm) ⊕ Mm), f_X0_measureCarries_b7 a1 s = some r → mtc (P_X0_measureCarries_b7 l s0 D cy ad P a1 res M') (Q_X0_measureCarries_b7 l s0 D cy ad P a1 res M') r → P_X0_measureCarries_b7 l s0 D cy ad P a1 res M' s := by
  intro s r hr hk
  obtain ⟨x2, M⟩ := s
  unfold f_X0_measureCarries_b7 at hr
  try dsimp only at hr
  dsimp only [P_X0_measureCarries_b7]
  refine n_iload_n (n := 2) (by decide +kernel) rfl ?_
  refine n_aload_n (n := 1) (by decide +kernel) rfl ?_
  refine n_getI G fl_RX0_63 hp1 hs1 (by decide +kernel) ?_
  refine n_icmp_ge (off := 45) (tgt := 57) (by decide +kernel) (by decide) (fun hc1 => ?_) (fun hc1 => ?_)
  · rw [if_pos hc1] at hr
    cases hr
    refine n_msk [false, false, false] (lo2 := [.null, .null, .null]) rfl rfl ?_
    exact hk
  · rw [if_neg hc1] at hr
    refine n_aload_n (n := 0) (by decide +kernel) rfl ?_
    refine n_getI G fl_RX0_135 hp0 (by decide +kernel) (by decide +kernel) ?_
    refine n_bipush (n := 60) (v := 60) (by decide +kernel) rfl ?_
    refine n_icmp_ge (off := 36) (tgt := 57) (by decide +kernel) (by decide) (fun hc2 => ?_) (fun hc2 => ?_)
    · rw [if_pos hc2] at hr
      cases hr
      refine n_msk [false, false, false] (lo2 := [.null, .null, .null]) rfl rfl ?_
      exact hk
    · rw [if_neg hc2] at hr
      refine n_aload_n (n := 1) (by decide +kernel) rfl ?_
      refine n_iload_n (n := 2) (by decide +kernel) rfl ?_
      obtain ⟨v3, h3, hr⟩ := bso hr
      refine n_callVi G [_] (x := v3) (B_X8_isAsked G hp1 hs1 h3) (by decide) mX8_isAsked ml_RX0_71 hp1 hs1 rfl rfl (Nat.le_of_ble_eq_true rfl) (by decide +kernel) ?_
      refine n_if_eq (off := 22) (tgt := 51) (by decide +kernel) (by decide) (fun hc4 => ?_) (fun hc4 => ?_)
      · rw [if_pos hc4] at hr
        refine n_iincK (n := 2) (j := 1) (w := 1) (lo2 := [_, _, _]) (by decide +kernel) rfl rfl rfl ?_
        refine n_goto (off := -47) (tgt := 7) (by decide +kernel) (by decide) ?_
        cases hr
        exact hk
      · rw [if_neg hc4] at hr
        refine n_aload_n (n := 0) (by decide +kernel) rfl ?_
        refine n_aload_n (n := 1) (by decide +kernel) rfl ?_
        refine n_iload_n (n := 2) (by decide +kernel) rfl ?_
        obtain ⟨v5, h5, hr⟩ := bso hr
        refine n_callVi G [_] (x := v5) (B_X8_cellOf G hp1 hs1 h5) (by decide) mX8_cellOf ml_RX0_68 hp1 hs1 rfl rfl (Nat.le_of_ble_eq_true rfl) (by decide +kernel) ?_
        obtain ⟨M6, h6, hr⟩ := bso hr
        refine n_callVv G [_] (M1 := M6) (B_X0_measureCarry G hp0 h6) (by decide) mX0_measureCarry ml_RX0_138 hp0 (by decide +kernel) rfl rfl (Nat.le_of_ble_eq_true rfl) (by decide +kernel) ?_
        refine n_aload_n (n := 0) (by decide +kernel) rfl ?_
        refine n_dup rfl (by decide +kernel) ?_
        refine n_getI G fl_RX0_135 hp0 (by decide +kernel) (by decide +kernel) ?_
        refine n_iconst (n := 1) (v := 1) (by decide +kernel) rfl ?_
        refine n_iadd (by decide +kernel) ?_
        refine n_putI G fl_RX0_135 hp0 (by decide +kernel) (by decide +kernel) ?_
        refine n_iincK (n := 2) (j := 1) (w := 1) (lo2 := [_, _, _]) (by decide +kernel) rfl rfl rfl ?_
        refine n_goto (off := -47) (tgt := 7) (by decide +kernel) (by decide) ?_
        cases hr
        exact hk
set_option maxRecDepth 100000 in
theorem W_X0_measureCarries_b7 (G : GG l s0 b L xs D cy ad) {a1 : Nat}  (hp0 : P 12) (hp1 : P a1) (hs1 : SH a1 = 8) {s : (Int32 × Mm)} {e : Mm} (h : whl fu (f_X0_measureCarries_b7 a1) s = some e) (res : Rs) (M' : Mm) : Q_X0_measureCarries_b7 l s0 D cy ad P a1 res M' e → P_X0_measureCarries_b7 l s0 D cy ad P a1 res M' s := whl_run (P := fun s => P_X0_measureCarries_b7 l s0 D cy ad P a1 res M' s) (Q := fun e => Q_X0_measureCarries_b7 l s0 D cy ad P a1 res M' e) (B_X0_measureCarries_b7 G (res := res) (M' := M') (a1 := a1) hp0 hp1 hs1) fu s h
set_option maxRecDepth 100000 in
theorem B_X0_measureCarries (G : GG l s0 b L xs D cy ad)  {a1 : Nat} {M : Mm} {r : Mm} (hp0 : P 12) (hp1 : P a1) (hs1 : SH a1 = 8) (hr : f_X0_measureCarries a1 M = some r) : Cl l s0 D cy ad P 12 KX0_measureCarries [.ref 12, .ref a1] M (.inl none) (r) := by
  refine cl_ofN (by decide +kernel) rfl rfl rfl (lo0 := [_, _, .null]) rfl ?_
  unfold f_X0_measureCarries at hr
  refine n_aload_n (n := 0) (by decide +kernel) rfl ?_
  refine n_iconst (n := 0) (v := 0) (by decide +kernel) rfl ?_
  refine n_putI G fl_RX0_135 hp0 (by decide +kernel) (by decide +kernel) ?_
  refine n_iconst (n := 0) (v := 0) (by decide +kernel) rfl ?_
  refine n_istore_n (n := 2) (lo2 := [_, _, _]) (by decide +kernel) (Nat.le_of_ble_eq_true rfl) rfl ?_
  obtain ⟨M7, h7, hr⟩ := bso hr
  refine (W_X0_measureCarries_b7 G hp0 hp1 hs1 h7 _ _) ?_
  dsimp only [Q_X0_measureCarries_b7]
  cases hr
  exact n_return (by decide +kernel)
abbrev P_X0_carriedBy_b5 (l : Launch) (s0 : State) (D : va_G) (cy : Nat → ClassId) (ad : Nat → Nat) (P : Nat → Prop) (x1 : Int32) (x2 : Int32) (M : Mm) (res : Rs) (M' : Mm) (s : (Int32 × Int32)) : Prop := Rn l s0 D cy ad P 9 KX0_carriedBy 5 [.ref 12, .int x1, .int x2, .int (s.1), .int (s.2)] [] M res M'
abbrev Q_X0_carriedBy_b5 (l : Launch) (s0 : State) (D : va_G) (cy : Nat → ClassId) (ad : Nat → Nat) (P : Nat → Prop) (x1 : Int32) (x2 : Int32) (M : Mm) (res : Rs) (M' : Mm) (e : Int32) : Prop := Rn l s0 D cy ad P 9 KX0_carriedBy 50 [.null, .null, .null, .int (e), .null] [] M res M'
set_option maxRecDepth 100000 in
theorem B_X0_carriedBy_b5 (G : GG l s0 b L xs D cy ad) {x1 : Int32} {x2 : Int32} {M : Mm} {res : Rs} {M' : Mm} (hp0 : P 12) : ∀ (s : (Int32 × Int32)) (r : (Int32 × Int32) ⊕ Int32), f_X0_carriedBy_b5 x1 x2 M s = some r → mtc (P_X0_carriedBy_b5 l s0 D cy ad P x1 x2 M res M') (Q_X0_carriedBy_b5 l s0 D cy ad P x1 x2 M res M') r → P_X0_carriedBy_b5 l s0 D cy ad P x1 x2 M res M' s := by
  intro s r hr hk
  obtain ⟨x3, x4⟩ := s
  unfold f_X0_carriedBy_b5 at hr
  try dsimp only at hr
  dsimp only [P_X0_carriedBy_b5]
  refine n_iload (n := 4) (by decide +kernel) rfl ?_
  refine n_aload_n (n := 0) (by decide +kernel) rfl ?_
  refine n_getI G fl_RX0_135 hp0 (by decide +kernel) (by decide +kernel) ?_
  refine n_icmp_ge (off := 39) (tgt := 50) (by decide +kernel) (by decide) (fun hc1 => ?_) (fun hc1 => ?_)
  · rw [if_pos hc1] at hr
    cases hr
    refine n_msk [false, false, false, true, false] (lo2 := [.null, .null, .null, _, .null]) rfl rfl ?_
    exact hk
  · rw [if_neg hc1] at hr
    refine n_iload_n (n := 3) (by decide +kernel) rfl ?_
    refine n_aload_n (n := 0) (by decide +kernel) rfl ?_
    refine n_getF (q := 17) G fl_RX0_25 hp0 (by decide +kernel) (by decide +kernel) (by decide +kernel) (fun hp2q => ?_)
    refine n_iload_n (n := 1) (by decide +kernel) rfl ?_
    refine n_bipush (n := 60) (v := 60) (by decide +kernel) rfl ?_
    refine n_imul (by decide +kernel) ?_
    refine n_iload (n := 4) (by decide +kernel) rfl ?_
    refine n_iadd (by decide +kernel) ?_
    obtain ⟨v3, h3, hr⟩ := bso hr
    refine n_iald G h3 hp2q (by decide +kernel) (by decide +kernel) (by decide +kernel) ?_
    refine n_aload_n (n := 0) (by decide +kernel) rfl ?_
    refine n_getF (q := 17) G fl_RX0_25 hp0 (by decide +kernel) (by decide +kernel) (by decide +kernel) (fun hp4q => ?_)
    refine n_iload_n (n := 2) (by decide +kernel) rfl ?_
    refine n_bipush (n := 60) (v := 60) (by decide +kernel) rfl ?_
    refine n_imul (by decide +kernel) ?_
    refine n_iload (n := 4) (by decide +kernel) rfl ?_
    refine n_iadd (by decide +kernel) ?_
    obtain ⟨v5, h5, hr⟩ := bso hr
    refine n_iald G h5 hp4q (by decide +kernel) (by decide +kernel) (by decide +kernel) ?_
    refine n_mmin G ml_RX0_96 (by decide) (Nat.le_of_ble_eq_true rfl) (by decide +kernel) ?_
    refine n_iadd (by decide +kernel) ?_
    refine n_istore_n (n := 3) (lo2 := [_, _, _, _, _]) (by decide +kernel) (Nat.le_of_ble_eq_true rfl) rfl ?_
    refine n_iincK (n := 4) (j := 1) (w := 1) (lo2 := [_, _, _, _, _]) (by decide +kernel) rfl rfl rfl ?_
    refine n_goto (off := -42) (tgt := 5) (by decide +kernel) (by decide) ?_
    cases hr
    exact hk
set_option maxRecDepth 100000 in
theorem W_X0_carriedBy_b5 (G : GG l s0 b L xs D cy ad) {x1 : Int32} {x2 : Int32} {M : Mm} (hp0 : P 12) {s : (Int32 × Int32)} {e : Int32} (h : whl fu (f_X0_carriedBy_b5 x1 x2 M) s = some e) (res : Rs) (M' : Mm) : Q_X0_carriedBy_b5 l s0 D cy ad P x1 x2 M res M' e → P_X0_carriedBy_b5 l s0 D cy ad P x1 x2 M res M' s := whl_run (P := fun s => P_X0_carriedBy_b5 l s0 D cy ad P x1 x2 M res M' s) (Q := fun e => Q_X0_carriedBy_b5 l s0 D cy ad P x1 x2 M res M' e) (B_X0_carriedBy_b5 G (res := res) (M' := M') (x1 := x1) (x2 := x2) (M := M) hp0) fu s h
set_option maxRecDepth 100000 in
theorem B_X0_carriedBy (G : GG l s0 b L xs D cy ad)  {x1 : Int32} {x2 : Int32} {M : Mm} {r : Int32} (hp0 : P 12) (hr : f_X0_carriedBy x1 x2 M = some r) : Cl l s0 D cy ad P 9 KX0_carriedBy [.ref 12, .int x1, .int x2] M (.inl (some (.int r))) (M) := by
  refine cl_ofN (by decide +kernel) rfl rfl okI (lo0 := [_, _, _, .null, .null]) rfl ?_
  unfold f_X0_carriedBy at hr
  refine n_iconst (n := 0) (v := 0) (by decide +kernel) rfl ?_
  refine n_istore_n (n := 3) (lo2 := [_, _, _, _, _]) (by decide +kernel) (Nat.le_of_ble_eq_true rfl) rfl ?_
  refine n_iconst (n := 0) (v := 0) (by decide +kernel) rfl ?_
  refine n_istore (n := 4) (lo2 := [_, _, _, _, _]) (by decide +kernel) (Nat.le_of_ble_eq_true rfl) rfl ?_
  obtain ⟨z3_6, h6, hr⟩ := bso hr
  refine (W_X0_carriedBy_b5 G hp0 h6 _ _) ?_
  dsimp only [Q_X0_carriedBy_b5]
  refine n_iload_n (n := 3) (by decide +kernel) rfl ?_
  cases hr
  exact n_ireturn (by decide +kernel)
set_option maxRecDepth 100000 in
theorem B_X3_hasCell (G : GG l s0 b L xs D cy ad)  {a0 : Nat} {x1 : Int32} {M : Mm} {r : Int32} (hp0 : P a0) (hs0 : SH a0 = 3) (hr : f_X3_hasCell a0 x1 M = some r) : Cl l s0 D cy ad P 10 KX3_hasCell [.ref a0, .int x1] M (.inl (some (.int r))) (M) := by
  unfold f_X3_hasCell at hr
  obtain ⟨v0, h0, h1⟩ := bso hr
  clear hr
  obtain ⟨hb, rfl⟩ := rB_in h1
  have hr := h0
  clear h0
  refine cl_ofN (by decide +kernel) rfl rfl (okB hb) (lo0 := [_, _]) rfl ?_
  unfold g_X3_hasCell at hr
  refine n_iload_n (n := 1) (by decide +kernel) rfl ?_
  obtain ⟨v1, h1, hr⟩ := bso hr
  refine n_callSNi G [_] (x := v1) (B_X9_isCell G  h1) (by decide) mX9_isCell ml_RX3_68 rfl rfl (Nat.le_of_ble_eq_true rfl) (by decide +kernel) ?_
  refine n_if_eq (off := 29) (tgt := 33) (by decide +kernel) (by decide) (fun hc2 => ?_) (fun hc2 => ?_)
  · rw [if_pos hc2] at hr
    refine n_iconst (n := 0) (v := 0) (by decide +kernel) rfl ?_
    cases hr
    exact n_ireturn (by decide +kernel)
  · rw [if_neg hc2] at hr
    refine n_iload_n (n := 1) (by decide +kernel) rfl ?_
    obtain ⟨v3, h3, hr⟩ := bso hr
    refine n_callSNi G [_] (x := v3) (B_X9_column G  h3) (by decide) mX9_column ml_RX3_72 rfl rfl (Nat.le_of_ble_eq_true rfl) (by decide +kernel) ?_
    refine n_aload_n (n := 0) (by decide +kernel) rfl ?_
    refine n_getI G fl_RX3_28 hp0 hs0 (by decide +kernel) ?_
    refine n_icmp_ge (off := 18) (tgt := 33) (by decide +kernel) (by decide) (fun hc4 => ?_) (fun hc4 => ?_)
    · rw [if_pos hc4] at hr
      refine n_iconst (n := 0) (v := 0) (by decide +kernel) rfl ?_
      cases hr
      exact n_ireturn (by decide +kernel)
    · rw [if_neg hc4] at hr
      refine n_iload_n (n := 1) (by decide +kernel) rfl ?_
      obtain ⟨v5, h5, hr⟩ := bso hr
      refine n_callSNi G [_] (x := v5) (B_X9_row G  h5) (by decide) mX9_row ml_RX3_76 rfl rfl (Nat.le_of_ble_eq_true rfl) (by decide +kernel) ?_
      refine n_aload_n (n := 0) (by decide +kernel) rfl ?_
      refine n_getI G fl_RX3_32 hp0 hs0 (by decide +kernel) ?_
      refine n_icmp_ge (off := 7) (tgt := 33) (by decide +kernel) (by decide) (fun hc6 => ?_) (fun hc6 => ?_)
      · rw [if_pos hc6] at hr
        refine n_iconst (n := 0) (v := 0) (by decide +kernel) rfl ?_
        cases hr
        exact n_ireturn (by decide +kernel)
      · rw [if_neg hc6] at hr
        refine n_iconst (n := 1) (v := 1) (by decide +kernel) rfl ?_
        refine n_goto (off := 4) (tgt := 34) (by decide +kernel) (by decide) ?_
        cases hr
        exact n_ireturn (by decide +kernel)
set_option maxRecDepth 100000 in
theorem B_X0_isHeapable (G : GG l s0 b L xs D cy ad)  {a0 : Nat} {a1 : Nat} {x2 : Int32} {M : Mm} {r : Int32} (hp0 : P a0) (hs0 : SH a0 = 3) (hp1 : P a1) (hs1 : SH a1 = 8) (hr : f_X0_isHeapable a0 a1 x2 M = some r) : Cl l s0 D cy ad P 11 KX0_isHeapable [.ref a0, .ref a1, .int x2] M (.inl (some (.int r))) (M) := by
  unfold f_X0_isHeapable at hr
  obtain ⟨v0, h0, h1⟩ := bso hr
  clear hr
  obtain ⟨hb, rfl⟩ := rB_in h1
  have hr := h0
  clear h0
  refine cl_ofN (by decide +kernel) rfl rfl (okB hb) (lo0 := [_, _, _]) rfl ?_
  unfold g_X0_isHeapable at hr
  refine n_aload_n (n := 0) (by decide +kernel) rfl ?_
  refine n_iload_n (n := 2) (by decide +kernel) rfl ?_
  obtain ⟨v1, h1, hr⟩ := bso hr
  refine n_callVi G [_] (x := v1) (B_X3_hasCell G hp0 hs0 h1) (by decide) mX3_hasCell ml_RX0_129 hp0 hs0 rfl rfl (Nat.le_of_ble_eq_true rfl) (by decide +kernel) ?_
  refine n_if_eq (off := 15) (tgt := 20) (by decide +kernel) (by decide) (fun hc2 => ?_) (fun hc2 => ?_)
  · rw [if_pos hc2] at hr
    refine n_iconst (n := 0) (v := 0) (by decide +kernel) rfl ?_
    cases hr
    exact n_ireturn (by decide +kernel)
  · rw [if_neg hc2] at hr
    refine n_aload_n (n := 1) (by decide +kernel) rfl ?_
    refine n_iload_n (n := 2) (by decide +kernel) rfl ?_
    obtain ⟨v3, h3, hr⟩ := bso hr
    refine n_callVi G [_] (x := v3) (B_X8_isLost G hp1 hs1 h3) (by decide) mX8_isLost ml_RX0_132 hp1 hs1 rfl rfl (Nat.le_of_ble_eq_true rfl) (by decide +kernel) ?_
    refine n_if_ne (off := 7) (tgt := 20) (by decide +kernel) (by decide) (fun hc4 => ?_) (fun hc4 => ?_)
    · rw [if_neg hc4] at hr
      refine n_iconst (n := 0) (v := 0) (by decide +kernel) rfl ?_
      cases hr
      exact n_ireturn (by decide +kernel)
    · rw [if_pos hc4] at hr
      refine n_iconst (n := 1) (v := 1) (by decide +kernel) rfl ?_
      refine n_goto (off := 4) (tgt := 21) (by decide +kernel) (by decide) ?_
      cases hr
      exact n_ireturn (by decide +kernel)
set_option maxRecDepth 100000 in
theorem B_X3_soilOf (G : GG l s0 b L xs D cy ad)  {a0 : Nat} {x1 : Int32} {M : Mm} {r : Int32} (hp0 : P a0) (hs0 : SH a0 = 3) (hr : f_X3_soilOf a0 x1 M = some r) : Cl l s0 D cy ad P 10 KX3_soilOf [.ref a0, .int x1] M (.inl (some (.int r))) (M) := by
  refine cl_ofN (by decide +kernel) rfl rfl okI (lo0 := [_, _]) rfl ?_
  unfold f_X3_soilOf at hr
  refine n_iload_n (n := 1) (by decide +kernel) rfl ?_
  obtain ⟨v1, h1, hr⟩ := bso hr
  refine n_callSNi G [_] (x := v1) (B_X9_isCell G  h1) (by decide) mX9_isCell ml_RX3_68 rfl rfl (Nat.le_of_ble_eq_true rfl) (by decide +kernel) ?_
  refine n_if_eq (off := 12) (tgt := 16) (by decide +kernel) (by decide) (fun hc2 => ?_) (fun hc2 => ?_)
  · rw [if_pos hc2] at hr
    refine n_iconst (n := 0) (v := 0) (by decide +kernel) rfl ?_
    cases hr
    exact n_ireturn (by decide +kernel)
  · rw [if_neg hc2] at hr
    refine n_aload_n (n := 0) (by decide +kernel) rfl ?_
    refine n_getF (q := (a0 + 1)) G fl_RX3_9 hp0 hs0 (fr_3_0 hs0).1 (by decide +kernel) (fun hp3q => ?_)
    refine n_iload_n (n := 1) (by decide +kernel) rfl ?_
    obtain ⟨v4, h4, hr⟩ := bso hr
    refine n_iald G h4 hp3q (fr_3_0 hs0).2.1 (fr_3_0 hs0).2.2 (by decide +kernel) ?_
    refine n_goto (off := 4) (tgt := 17) (by decide +kernel) (by decide) ?_
    cases hr
    exact n_ireturn (by decide +kernel)
set_option maxRecDepth 100000 in
theorem B_X0_tryHeaps (G : GG l s0 b L xs D cy ad)  {x1 : Int32} {x2 : Int32} {M : Mm} {r : Mm} (hp0 : P 12) (hr : f_X0_tryHeaps x1 x2 M = some r) : Cl l s0 D cy ad P 10 KX0_tryHeaps [.ref 12, .int x1, .int x2] M (.inl none) (r) := by
  refine cl_ofN (by decide +kernel) rfl rfl rfl (lo0 := [_, _, _]) rfl ?_
  unfold f_X0_tryHeaps at hr
  refine n_iload_n (n := 1) (by decide +kernel) rfl ?_
  refine n_i2l (by decide +kernel) ?_
  refine n_aload_n (n := 0) (by decide +kernel) rfl ?_
  refine n_getF (q := 13) G fl_RX0_9 hp0 (by decide +kernel) (by decide +kernel) (by decide +kernel) (fun hp1q => ?_)
  refine n_iconst (n := 0) (v := 0) (by decide +kernel) rfl ?_
  obtain ⟨v2, h2, hr⟩ := bso hr
  refine n_lald G h2 hp1q (by decide +kernel) (by decide +kernel) (by decide +kernel) ?_
  refine n_lcmp (by decide +kernel) ?_
  refine n_if_ge (off := 12) (tgt := 21) (by decide +kernel) (by decide) (fun hc3 => ?_) (fun hc3 => ?_)
  · rw [if_pos hc3] at hr
    cases hr
    exact n_return (by decide +kernel)
  · rw [if_neg hc3] at hr
    refine n_aload_n (n := 0) (by decide +kernel) rfl ?_
    refine n_iload_n (n := 1) (by decide +kernel) rfl ?_
    refine n_i2l (by decide +kernel) ?_
    refine n_iload_n (n := 2) (by decide +kernel) rfl ?_
    refine n_i2l (by decide +kernel) ?_
    refine n_lconst (n := 0) (v := 0) (by decide +kernel) rfl ?_
    obtain ⟨M4, h4, hr⟩ := bso hr
    refine n_callVv G [_, _, _] (M1 := M4) (B_X0_settle G hp0 h4) (by decide) mX0_settle ml_RX0_28 hp0 (by decide +kernel) rfl rfl (Nat.le_of_ble_eq_true rfl) (by decide +kernel) ?_
    cases hr
    exact n_return (by decide +kernel)
abbrev P_X0_tryPairs_b6 (l : Launch) (s0 : State) (D : va_G) (cy : Nat → ClassId) (ad : Nat → Nat) (P : Nat → Prop) (a1 : Nat) (a2 : Nat) (x3 : Int32) (x4 : Int32)  (res : Rs) (M' : Mm) (s : (Int32 × Mm)) : Prop := Rn l s0 D cy ad P 12 KX0_tryPairs 6 [.ref 12, .ref a1, .ref a2, .int x3, .int x4, .int (s.1), .null, .null] [] (s.2) res M'
abbrev Q_X0_tryPairs_b6 (l : Launch) (s0 : State) (D : va_G) (cy : Nat → ClassId) (ad : Nat → Nat) (P : Nat → Prop) (a1 : Nat) (a2 : Nat) (x3 : Int32) (x4 : Int32)  (res : Rs) (M' : Mm) (e : Mm) : Prop := Rn l s0 D cy ad P 12 KX0_tryPairs 82 [.null, .null, .null, .null, .null, .null, .null, .null] [] (e) res M'
set_option maxRecDepth 100000 in
theorem B_X0_tryPairs_b6 (G : GG l s0 b L xs D cy ad) {a1 : Nat} {a2 : Nat} {x3 : Int32} {x4 : Int32}  {res : Rs} {M' : Mm} (hp0 : P 12) (hp1 : P a1) (hs1 : SH a1 = 3) (hp2 : P a2) (hs2 : SH a2 = 8) : ∀ (s : (Int32 × Mm)) (r : (Int32 × Mm) ⊕ Mm), f_X0_tryPairs_b6 a1 a2 x3 x4 s = some r → mtc (P_X0_tryPairs_b6 l s0 D cy ad P a1 a2 x3 x4 res M') (Q_X0_tryPairs_b6 l s0 D cy ad P a1 a2 x3 x4 res M') r → P_X0_tryPairs_b6 l s0 D cy ad P a1 a2 x3 x4 res M' s := by
  intro s r hr hk
  obtain ⟨x5, M⟩ := s
  unfold f_X0_tryPairs_b6 at hr
  try dsimp only at hr
  dsimp only [P_X0_tryPairs_b6]
  refine n_iload (n := 5) (by decide +kernel) rfl ?_
  refine n_bipush (n := 48) (v := 48) (by decide +kernel) rfl ?_
  refine n_icmp_ge (off := 72) (tgt := 82) (by decide +kernel) (by decide) (fun hc1 => ?_) (fun hc1 => ?_)
  · rw [if_pos hc1] at hr
    cases hr
    refine n_msk [false, false, false, false, false, false, false, false] (lo2 := [.null, .null, .null, .null, .null, .null, .null, .null]) rfl rfl ?_
    exact hk
  · rw [if_neg hc1] at hr
    refine n_aload_n (n := 1) (by decide +kernel) rfl ?_
    refine n_aload_n (n := 2) (by decide +kernel) rfl ?_
    refine n_iload (n := 5) (by decide +kernel) rfl ?_
    obtain ⟨v2, h2, hr⟩ := bso hr
    refine n_callSi G [_, _, _] (x := v2) (B_X0_isHeapable G hp1 hs1 hp2 hs2 h2) (by decide) mX0_isHeapable ml_RX0_115 rfl rfl (Nat.le_of_ble_eq_true rfl) (by decide +kernel) ?_
    refine n_if_eq (off := 56) (tgt := 76) (by decide +kernel) (by decide) (fun hc3 => ?_) (fun hc3 => ?_)
    · rw [if_pos hc3] at hr
      refine n_iincK (n := 5) (j := 1) (w := 1) (lo2 := [_, _, _, _, _, _, _, _]) (by decide +kernel) rfl rfl rfl ?_
      refine n_goto (off := -73) (tgt := 6) (by decide +kernel) (by decide) ?_
      cases hr
      exact hk
    · rw [if_neg hc3] at hr
      refine n_aload_n (n := 1) (by decide +kernel) rfl ?_
      refine n_iload (n := 4) (by decide +kernel) rfl ?_
      obtain ⟨v4, h4, hr⟩ := bso hr
      refine n_callVi G [_] (x := v4) (B_X3_soilOf G hp1 hs1 h4) (by decide) mX3_soilOf ml_RX0_118 hp1 hs1 rfl rfl (Nat.le_of_ble_eq_true rfl) (by decide +kernel) ?_
      refine n_aload_n (n := 1) (by decide +kernel) rfl ?_
      refine n_iload (n := 5) (by decide +kernel) rfl ?_
      obtain ⟨v5, h5, hr⟩ := bso hr
      refine n_callVi G [_] (x := v5) (B_X3_soilOf G hp1 hs1 h5) (by decide) mX3_soilOf ml_RX0_118 hp1 hs1 rfl rfl (Nat.le_of_ble_eq_true rfl) (by decide +kernel) ?_
      refine n_iadd (by decide +kernel) ?_
      refine n_istore (n := 6) (lo2 := [_, _, _, _, _, _, _, _]) (by decide +kernel) (Nat.le_of_ble_eq_true rfl) rfl ?_
      refine n_aload_n (n := 1) (by decide +kernel) rfl ?_
      refine n_getI G fl_RX0_105 hp1 hs1 (by decide +kernel) ?_
      refine n_aload_n (n := 0) (by decide +kernel) rfl ?_
      refine n_iload (n := 4) (by decide +kernel) rfl ?_
      refine n_iload (n := 5) (by decide +kernel) rfl ?_
      obtain ⟨v6, h6, hr⟩ := bso hr
      refine n_callVi G [_, _] (x := v6) (B_X0_carriedBy G hp0 h6) (by decide) mX0_carriedBy ml_RX0_112 hp0 (by decide +kernel) rfl rfl (Nat.le_of_ble_eq_true rfl) (by decide +kernel) ?_
      refine n_imul (by decide +kernel) ?_
      refine n_iload_n (n := 3) (by decide +kernel) rfl ?_
      refine n_iload (n := 6) (by decide +kernel) rfl ?_
      refine n_imul (by decide +kernel) ?_
      refine n_iadd (by decide +kernel) ?_
      refine n_istore (n := 7) (lo2 := [_, _, _, _, _, _, _, _]) (by decide +kernel) (Nat.le_of_ble_eq_true rfl) rfl ?_
      refine n_aload_n (n := 0) (by decide +kernel) rfl ?_
      refine n_iload (n := 7) (by decide +kernel) rfl ?_
      refine n_iload (n := 4) (by decide +kernel) rfl ?_
      refine n_iconst (n := 1) (v := 1) (by decide +kernel) rfl ?_
      refine n_iadd (by decide +kernel) ?_
      refine n_bipush (n := 64) (v := 64) (by decide +kernel) rfl ?_
      refine n_imul (by decide +kernel) ?_
      refine n_iload (n := 5) (by decide +kernel) rfl ?_
      refine n_iadd (by decide +kernel) ?_
      refine n_iconst (n := 1) (v := 1) (by decide +kernel) rfl ?_
      refine n_iadd (by decide +kernel) ?_
      obtain ⟨M7, h7, hr⟩ := bso hr
      refine n_callVv G [_, _] (M1 := M7) (B_X0_tryHeaps G hp0 h7) (by decide) mX0_tryHeaps ml_RX0_121 hp0 (by decide +kernel) rfl rfl (Nat.le_of_ble_eq_true rfl) (by decide +kernel) ?_
      refine n_iincK (n := 5) (j := 1) (w := 1) (lo2 := [_, _, _, _, _, _, _, _]) (by decide +kernel) rfl rfl rfl ?_
      refine n_goto (off := -73) (tgt := 6) (by decide +kernel) (by decide) ?_
      cases hr
      refine n_msk [true, true, true, true, true, true, false, false] (lo2 := [_, _, _, _, _, _, .null, .null]) rfl rfl ?_
      exact hk
set_option maxRecDepth 100000 in
theorem W_X0_tryPairs_b6 (G : GG l s0 b L xs D cy ad) {a1 : Nat} {a2 : Nat} {x3 : Int32} {x4 : Int32}  (hp0 : P 12) (hp1 : P a1) (hs1 : SH a1 = 3) (hp2 : P a2) (hs2 : SH a2 = 8) {s : (Int32 × Mm)} {e : Mm} (h : whl fu (f_X0_tryPairs_b6 a1 a2 x3 x4) s = some e) (res : Rs) (M' : Mm) : Q_X0_tryPairs_b6 l s0 D cy ad P a1 a2 x3 x4 res M' e → P_X0_tryPairs_b6 l s0 D cy ad P a1 a2 x3 x4 res M' s := whl_run (P := fun s => P_X0_tryPairs_b6 l s0 D cy ad P a1 a2 x3 x4 res M' s) (Q := fun e => Q_X0_tryPairs_b6 l s0 D cy ad P a1 a2 x3 x4 res M' e) (B_X0_tryPairs_b6 G (res := res) (M' := M') (a1 := a1) (a2 := a2) (x3 := x3) (x4 := x4) hp0 hp1 hs1 hp2 hs2) fu s h
set_option maxRecDepth 100000 in
theorem B_X0_tryPairs (G : GG l s0 b L xs D cy ad)  {a1 : Nat} {a2 : Nat} {x3 : Int32} {x4 : Int32} {M : Mm} {r : Mm} (hp0 : P 12) (hp1 : P a1) (hs1 : SH a1 = 3) (hp2 : P a2) (hs2 : SH a2 = 8) (hr : f_X0_tryPairs a1 a2 x3 x4 M = some r) : Cl l s0 D cy ad P 12 KX0_tryPairs [.ref 12, .ref a1, .ref a2, .int x3, .int x4] M (.inl none) (r) := by
  refine cl_ofN (by decide +kernel) rfl rfl rfl (lo0 := [_, _, _, _, _, .null, .null, .null]) rfl ?_
  unfold f_X0_tryPairs at hr
  refine n_iload (n := 4) (by decide +kernel) rfl ?_
  refine n_iconst (n := 1) (v := 1) (by decide +kernel) rfl ?_
  refine n_iadd (by decide +kernel) ?_
  refine n_istore (n := 5) (lo2 := [_, _, _, _, _, _, _, _]) (by decide +kernel) (Nat.le_of_ble_eq_true rfl) rfl ?_
  obtain ⟨M8, h8, hr⟩ := bso hr
  refine (W_X0_tryPairs_b6 G hp0 hp1 hs1 hp2 hs2 h8 _ _) ?_
  dsimp only [Q_X0_tryPairs_b6]
  cases hr
  exact n_return (by decide +kernel)
abbrev P_X0_planHeaps_b28 (l : Launch) (s0 : State) (D : va_G) (cy : Nat → ClassId) (ad : Nat → Nat) (P : Nat → Prop) (a1 : Nat) (a2 : Nat) (x3 : Int32)  (res : Rs) (M' : Mm) (s : (Int32 × Mm)) : Prop := Rn l s0 D cy ad P 13 KX0_planHeaps 28 [.ref 12, .ref a1, .ref a2, .int x3, .int (s.1), .null] [] (s.2) res M'
abbrev Q_X0_planHeaps_b28 (l : Launch) (s0 : State) (D : va_G) (cy : Nat → ClassId) (ad : Nat → Nat) (P : Nat → Prop) (a1 : Nat) (a2 : Nat) (x3 : Int32)  (res : Rs) (M' : Mm) (e : Mm) : Prop := Rn l s0 D cy ad P 13 KX0_planHeaps 85 [.ref 12, .ref a1, .ref a2, .int x3, .null, .null] [] (e) res M'
set_option maxRecDepth 100000 in
theorem B_X0_planHeaps_b28 (G : GG l s0 b L xs D cy ad) {a1 : Nat} {a2 : Nat} {x3 : Int32}  {res : Rs} {M' : Mm} (hp0 : P 12) (hp1 : P a1) (hs1 : SH a1 = 3) (hp2 : P a2) (hs2 : SH a2 = 8) : ∀ (s : (Int32 × Mm)) (r : (Int32 × Mm) ⊕ Mm), f_X0_planHeaps_b28 a1 a2 x3 s = some r → mtc (P_X0_planHeaps_b28 l s0 D cy ad P a1 a2 x3 res M') (Q_X0_planHeaps_b28 l s0 D cy ad P a1 a2 x3 res M') r → P_X0_planHeaps_b28 l s0 D cy ad P a1 a2 x3 res M' s := by
  intro s r hr hk
  obtain ⟨x4, M⟩ := s
  unfold f_X0_planHeaps_b28 at hr
  try dsimp only at hr
  dsimp only [P_X0_planHeaps_b28]
  refine n_iload (n := 4) (by decide +kernel) rfl ?_
  refine n_bipush (n := 48) (v := 48) (by decide +kernel) rfl ?_
  refine n_icmp_ge (off := 53) (tgt := 85) (by decide +kernel) (by decide) (fun hc4 => ?_) (fun hc4 => ?_)
  · rw [if_pos hc4] at hr
    cases hr
    refine n_msk [true, true, true, true, false, false] (lo2 := [_, _, _, _, .null, .null]) rfl rfl ?_
    exact hk
  · rw [if_neg hc4] at hr
    refine n_aload_n (n := 1) (by decide +kernel) rfl ?_
    refine n_aload_n (n := 2) (by decide +kernel) rfl ?_
    refine n_iload (n := 4) (by decide +kernel) rfl ?_
    obtain ⟨v5, h5, hr⟩ := bso hr
    refine n_callSi G [_, _, _] (x := v5) (B_X0_isHeapable G hp1 hs1 hp2 hs2 h5) (by decide) mX0_isHeapable ml_RX0_115 rfl rfl (Nat.le_of_ble_eq_true rfl) (by decide +kernel) ?_
    refine n_if_eq (off := 37) (tgt := 79) (by decide +kernel) (by decide) (fun hc6 => ?_) (fun hc6 => ?_)
    · rw [if_pos hc6] at hr
      refine n_iincK (n := 4) (j := 1) (w := 1) (lo2 := [_, _, _, _, _, _]) (by decide +kernel) rfl rfl rfl ?_
      refine n_goto (off := -54) (tgt := 28) (by decide +kernel) (by decide) ?_
      cases hr
      exact hk
    · rw [if_neg hc6] at hr
      refine n_aload_n (n := 1) (by decide +kernel) rfl ?_
      refine n_getI G fl_RX0_105 hp1 hs1 (by decide +kernel) ?_
      refine n_aload_n (n := 0) (by decide +kernel) rfl ?_
      refine n_iload (n := 4) (by decide +kernel) rfl ?_
      refine n_iload (n := 4) (by decide +kernel) rfl ?_
      obtain ⟨v7, h7, hr⟩ := bso hr
      refine n_callVi G [_, _] (x := v7) (B_X0_carriedBy G hp0 h7) (by decide) mX0_carriedBy ml_RX0_112 hp0 (by decide +kernel) rfl rfl (Nat.le_of_ble_eq_true rfl) (by decide +kernel) ?_
      refine n_imul (by decide +kernel) ?_
      refine n_iload_n (n := 3) (by decide +kernel) rfl ?_
      refine n_aload_n (n := 1) (by decide +kernel) rfl ?_
      refine n_iload (n := 4) (by decide +kernel) rfl ?_
      obtain ⟨v8, h8, hr⟩ := bso hr
      refine n_callVi G [_] (x := v8) (B_X3_soilOf G hp1 hs1 h8) (by decide) mX3_soilOf ml_RX0_118 hp1 hs1 rfl rfl (Nat.le_of_ble_eq_true rfl) (by decide +kernel) ?_
      refine n_imul (by decide +kernel) ?_
      refine n_iadd (by decide +kernel) ?_
      refine n_istore (n := 5) (lo2 := [_, _, _, _, _, _]) (by decide +kernel) (Nat.le_of_ble_eq_true rfl) rfl ?_
      refine n_aload_n (n := 0) (by decide +kernel) rfl ?_
      refine n_iload (n := 5) (by decide +kernel) rfl ?_
      refine n_iload (n := 4) (by decide +kernel) rfl ?_
      refine n_iconst (n := 1) (v := 1) (by decide +kernel) rfl ?_
      refine n_iadd (by decide +kernel) ?_
      obtain ⟨M9, h9, hr⟩ := bso hr
      refine n_callVv G [_, _] (M1 := M9) (B_X0_tryHeaps G hp0 h9) (by decide) mX0_tryHeaps ml_RX0_121 hp0 (by decide +kernel) rfl rfl (Nat.le_of_ble_eq_true rfl) (by decide +kernel) ?_
      refine n_iincK (n := 4) (j := 1) (w := 1) (lo2 := [_, _, _, _, _, _]) (by decide +kernel) rfl rfl rfl ?_
      refine n_goto (off := -54) (tgt := 28) (by decide +kernel) (by decide) ?_
      cases hr
      refine n_msk [true, true, true, true, true, false] (lo2 := [_, _, _, _, _, .null]) rfl rfl ?_
      exact hk
set_option maxRecDepth 100000 in
theorem W_X0_planHeaps_b28 (G : GG l s0 b L xs D cy ad) {a1 : Nat} {a2 : Nat} {x3 : Int32}  (hp0 : P 12) (hp1 : P a1) (hs1 : SH a1 = 3) (hp2 : P a2) (hs2 : SH a2 = 8) {s : (Int32 × Mm)} {e : Mm} (h : whl fu (f_X0_planHeaps_b28 a1 a2 x3) s = some e) (res : Rs) (M' : Mm) : Q_X0_planHeaps_b28 l s0 D cy ad P a1 a2 x3 res M' e → P_X0_planHeaps_b28 l s0 D cy ad P a1 a2 x3 res M' s := whl_run (P := fun s => P_X0_planHeaps_b28 l s0 D cy ad P a1 a2 x3 res M' s) (Q := fun e => Q_X0_planHeaps_b28 l s0 D cy ad P a1 a2 x3 res M' e) (B_X0_planHeaps_b28 G (res := res) (M' := M') (a1 := a1) (a2 := a2) (x3 := x3) hp0 hp1 hs1 hp2 hs2) fu s h
abbrev P_X0_planHeaps_b88 (l : Launch) (s0 : State) (D : va_G) (cy : Nat → ClassId) (ad : Nat → Nat) (P : Nat → Prop) (a1 : Nat) (a2 : Nat) (x3 : Int32)  (res : Rs) (M' : Mm) (s : (Int32 × Mm)) : Prop := Rn l s0 D cy ad P 13 KX0_planHeaps 88 [.ref 12, .ref a1, .ref a2, .int x3, .int (s.1), .null] [] (s.2) res M'
abbrev Q_X0_planHeaps_b88 (l : Launch) (s0 : State) (D : va_G) (cy : Nat → ClassId) (ad : Nat → Nat) (P : Nat → Prop) (a1 : Nat) (a2 : Nat) (x3 : Int32)  (res : Rs) (M' : Mm) (e : Mm) : Prop := Rn l s0 D cy ad P 13 KX0_planHeaps 120 [.null, .null, .null, .null, .null, .null] [] (e) res M'
set_option maxRecDepth 100000 in
theorem B_X0_planHeaps_b88 (G : GG l s0 b L xs D cy ad) {a1 : Nat} {a2 : Nat} {x3 : Int32}  {res : Rs} {M' : Mm} (hp0 : P 12) (hp1 : P a1) (hs1 : SH a1 = 3) (hp2 : P a2) (hs2 : SH a2 = 8) : ∀ (s : (Int32 × Mm)) (r : (Int32 × Mm) ⊕ Mm), f_X0_planHeaps_b88 a1 a2 x3 s = some r → mtc (P_X0_planHeaps_b88 l s0 D cy ad P a1 a2 x3 res M') (Q_X0_planHeaps_b88 l s0 D cy ad P a1 a2 x3 res M') r → P_X0_planHeaps_b88 l s0 D cy ad P a1 a2 x3 res M' s := by
  intro s r hr hk
  obtain ⟨x4, M⟩ := s
  unfold f_X0_planHeaps_b88 at hr
  try dsimp only at hr
  dsimp only [P_X0_planHeaps_b88]
  refine n_iload (n := 4) (by decide +kernel) rfl ?_
  refine n_bipush (n := 48) (v := 48) (by decide +kernel) rfl ?_
  refine n_icmp_ge (off := 28) (tgt := 120) (by decide +kernel) (by decide) (fun hc11 => ?_) (fun hc11 => ?_)
  · rw [if_pos hc11] at hr
    cases hr
    refine n_msk [false, false, false, false, false, false] (lo2 := [.null, .null, .null, .null, .null, .null]) rfl rfl ?_
    exact hk
  · rw [if_neg hc11] at hr
    refine n_aload_n (n := 1) (by decide +kernel) rfl ?_
    refine n_aload_n (n := 2) (by decide +kernel) rfl ?_
    refine n_iload (n := 4) (by decide +kernel) rfl ?_
    obtain ⟨v12, h12, hr⟩ := bso hr
    refine n_callSi G [_, _, _] (x := v12) (B_X0_isHeapable G hp1 hs1 hp2 hs2 h12) (by decide) mX0_isHeapable ml_RX0_115 rfl rfl (Nat.le_of_ble_eq_true rfl) (by decide +kernel) ?_
    refine n_if_eq (off := 12) (tgt := 114) (by decide +kernel) (by decide) (fun hc13 => ?_) (fun hc13 => ?_)
    · rw [if_pos hc13] at hr
      refine n_iincK (n := 4) (j := 1) (w := 1) (lo2 := [_, _, _, _, _, _]) (by decide +kernel) rfl rfl rfl ?_
      refine n_goto (off := -29) (tgt := 88) (by decide +kernel) (by decide) ?_
      cases hr
      exact hk
    · rw [if_neg hc13] at hr
      refine n_aload_n (n := 0) (by decide +kernel) rfl ?_
      refine n_aload_n (n := 1) (by decide +kernel) rfl ?_
      refine n_aload_n (n := 2) (by decide +kernel) rfl ?_
      refine n_iload_n (n := 3) (by decide +kernel) rfl ?_
      refine n_iload (n := 4) (by decide +kernel) rfl ?_
      obtain ⟨M14, h14, hr⟩ := bso hr
      refine n_callVv G [_, _, _, _] (M1 := M14) (B_X0_tryPairs G hp0 hp1 hs1 hp2 hs2 h14) (by decide) mX0_tryPairs ml_RX0_125 hp0 (by decide +kernel) rfl rfl (Nat.le_of_ble_eq_true rfl) (by decide +kernel) ?_
      refine n_iincK (n := 4) (j := 1) (w := 1) (lo2 := [_, _, _, _, _, _]) (by decide +kernel) rfl rfl rfl ?_
      refine n_goto (off := -29) (tgt := 88) (by decide +kernel) (by decide) ?_
      cases hr
      exact hk
set_option maxRecDepth 100000 in
theorem W_X0_planHeaps_b88 (G : GG l s0 b L xs D cy ad) {a1 : Nat} {a2 : Nat} {x3 : Int32}  (hp0 : P 12) (hp1 : P a1) (hs1 : SH a1 = 3) (hp2 : P a2) (hs2 : SH a2 = 8) {s : (Int32 × Mm)} {e : Mm} (h : whl fu (f_X0_planHeaps_b88 a1 a2 x3) s = some e) (res : Rs) (M' : Mm) : Q_X0_planHeaps_b88 l s0 D cy ad P a1 a2 x3 res M' e → P_X0_planHeaps_b88 l s0 D cy ad P a1 a2 x3 res M' s := whl_run (P := fun s => P_X0_planHeaps_b88 l s0 D cy ad P a1 a2 x3 res M' s) (Q := fun e => Q_X0_planHeaps_b88 l s0 D cy ad P a1 a2 x3 res M' e) (B_X0_planHeaps_b88 G (res := res) (M' := M') (a1 := a1) (a2 := a2) (x3 := x3) hp0 hp1 hs1 hp2 hs2) fu s h
set_option maxRecDepth 100000 in
theorem B_X0_planHeaps (G : GG l s0 b L xs D cy ad)  {a1 : Nat} {a2 : Nat} {x3 : Int32} {M : Mm} {r : Mm} (hp0 : P 12) (hp1 : P a1) (hs1 : SH a1 = 3) (hp2 : P a2) (hs2 : SH a2 = 8) (hr : f_X0_planHeaps a1 a2 x3 M = some r) : Cl l s0 D cy ad P 13 KX0_planHeaps [.ref 12, .ref a1, .ref a2, .int x3] M (.inl none) (r) := by
  refine cl_ofN (by decide +kernel) rfl rfl rfl (lo0 := [_, _, _, _, .null, .null]) rfl ?_
  unfold f_X0_planHeaps at hr
  refine n_aload_n (n := 0) (by decide +kernel) rfl ?_
  refine n_aload_n (n := 2) (by decide +kernel) rfl ?_
  obtain ⟨M1, h1, hr⟩ := bso hr
  refine n_callVv G [_] (M1 := M1) (B_X0_measureCarries G hp0 hp2 hs2 h1) (by decide) mX0_measureCarries ml_RX0_108 hp0 (by decide +kernel) rfl rfl (Nat.le_of_ble_eq_true rfl) (by decide +kernel) ?_
  refine n_aload_n (n := 0) (by decide +kernel) rfl ?_
  refine n_aload_n (n := 1) (by decide +kernel) rfl ?_
  refine n_getI G fl_RX0_105 hp1 hs1 (by decide +kernel) ?_
  refine n_aload_n (n := 0) (by decide +kernel) rfl ?_
  refine n_bipush (n := 48) (v := 48) (by decide +kernel) rfl ?_
  refine n_bipush (n := 48) (v := 48) (by decide +kernel) rfl ?_
  obtain ⟨v2, h2, hr⟩ := bso hr
  refine n_callVi G [_, _] (x := v2) (B_X0_carriedBy G hp0 h2) (by decide) mX0_carriedBy ml_RX0_112 hp0 (by decide +kernel) rfl rfl (Nat.le_of_ble_eq_true rfl) (by decide +kernel) ?_
  refine n_imul (by decide +kernel) ?_
  refine n_i2l (by decide +kernel) ?_
  refine n_lconst (n := 0) (v := 0) (by decide +kernel) rfl ?_
  refine n_lconst (n := 0) (v := 0) (by decide +kernel) rfl ?_
  obtain ⟨M3, h3, hr⟩ := bso hr
  refine n_callVv G [_, _, _] (M1 := M3) (B_X0_settle G hp0 h3) (by decide) mX0_settle ml_RX0_28 hp0 (by decide +kernel) rfl rfl (Nat.le_of_ble_eq_true rfl) (by decide +kernel) ?_
  refine n_iconst (n := 0) (v := 0) (by decide +kernel) rfl ?_
  refine n_istore (n := 4) (lo2 := [_, _, _, _, _, _]) (by decide +kernel) (Nat.le_of_ble_eq_true rfl) rfl ?_
  obtain ⟨M10, h10, hr⟩ := bso hr
  refine (W_X0_planHeaps_b28 G hp0 hp1 hs1 hp2 hs2 h10 _ _) ?_
  dsimp only [Q_X0_planHeaps_b28]
  refine n_iconst (n := 0) (v := 0) (by decide +kernel) rfl ?_
  refine n_istore (n := 4) (lo2 := [_, _, _, _, _, _]) (by decide +kernel) (Nat.le_of_ble_eq_true rfl) rfl ?_
  obtain ⟨M15, h15, hr⟩ := bso hr
  refine (W_X0_planHeaps_b88 G hp0 hp1 hs1 hp2 hs2 h15 _ _) ?_
  dsimp only [Q_X0_planHeaps_b88]
  cases hr
  exact n_return (by decide +kernel)
set_option maxRecDepth 100000 in
theorem B_X8_clearingOf (G : GG l s0 b L xs D cy ad)  {a0 : Nat} {a1 : Nat} {x2 : Int32} {M : Mm} {r : Int32} (hp0 : P a0) (hs0 : SH a0 = 8) (hp1 : P a1) (hs1 : SH a1 = 3) (hr : f_X8_clearingOf a0 a1 x2 M = some r) : Cl l s0 D cy ad P 11 KX8_clearingOf [.ref a0, .ref a1, .int x2] M (.inl (some (.int r))) (M) := by
  refine cl_ofN (by decide +kernel) rfl rfl okI (lo0 := [_, _, _, .null]) rfl ?_
  unfold f_X8_clearingOf at hr
  refine n_aload_n (n := 0) (by decide +kernel) rfl ?_
  refine n_iload_n (n := 2) (by decide +kernel) rfl ?_
  obtain ⟨v1, h1, hr⟩ := bso hr
  refine n_callVi G [_] (x := v1) (B_X8_sizeOf G hp0 hs0 h1) (by decide) mX8_sizeOf ml_RX8_93 hp0 hs0 rfl rfl (Nat.le_of_ble_eq_true rfl) (by decide +kernel) ?_
  refine n_istore_n (n := 3) (lo2 := [_, _, _, _]) (by decide +kernel) (Nat.le_of_ble_eq_true rfl) rfl ?_
  refine n_iload_n (n := 3) (by decide +kernel) rfl ?_
  refine n_aload_n (n := 1) (by decide +kernel) rfl ?_
  refine n_getI G fl_RX8_112 hp1 hs1 (by decide +kernel) ?_
  refine n_icmp_le (off := 10) (tgt := 21) (by decide +kernel) (by decide) (fun hc2 => ?_) (fun hc2 => ?_)
  · rw [if_pos hc2] at hr
    refine n_iconst (n := 2) (v := 2) (by decide +kernel) rfl ?_
    refine n_aload_n (n := 1) (by decide +kernel) rfl ?_
    refine n_getI G fl_RX8_122 hp1 hs1 (by decide +kernel) ?_
    refine n_imul (by decide +kernel) ?_
    refine n_aload_n (n := 0) (by decide +kernel) rfl ?_
    refine n_iload_n (n := 2) (by decide +kernel) rfl ?_
    obtain ⟨v3, h3, hr⟩ := bso hr
    refine n_callVi G [_] (x := v3) (B_X8_cellOf G hp0 hs0 h3) (by decide) mX8_cellOf ml_RX8_84 hp0 hs0 rfl rfl (Nat.le_of_ble_eq_true rfl) (by decide +kernel) ?_
    obtain ⟨v4, h4, hr⟩ := bso hr
    refine n_callSNi G [_] (x := v4) (B_X9_column G  h4) (by decide) mX9_column ml_RX8_159 rfl rfl (Nat.le_of_ble_eq_true rfl) (by decide +kernel) ?_
    refine n_iconst (n := 1) (v := 1) (by decide +kernel) rfl ?_
    refine n_iadd (by decide +kernel) ?_
    refine n_imul (by decide +kernel) ?_
    refine n_iload_n (n := 3) (by decide +kernel) rfl ?_
    refine n_iadd (by decide +kernel) ?_
    cases hr
    exact n_ireturn (by decide +kernel)
  · rw [if_neg hc2] at hr
    refine n_aload_n (n := 1) (by decide +kernel) rfl ?_
    refine n_getI G fl_RX8_156 hp1 hs1 (by decide +kernel) ?_
    refine n_iload_n (n := 3) (by decide +kernel) rfl ?_
    refine n_imul (by decide +kernel) ?_
    cases hr
    exact n_ireturn (by decide +kernel)
abbrev P_X8_clearingOfAll_b5 (l : Launch) (s0 : State) (D : va_G) (cy : Nat → ClassId) (ad : Nat → Nat) (P : Nat → Prop) (a0 : Nat) (a1 : Nat) (x2 : Int32) (M : Mm) (res : Rs) (M' : Mm) (s : (Int32 × Int32)) : Prop := Rn l s0 D cy ad P 12 KX8_clearingOfAll 5 [.ref a0, .ref a1, .int x2, .int (s.1), .int (s.2)] [] M res M'
abbrev Q_X8_clearingOfAll_b5 (l : Launch) (s0 : State) (D : va_G) (cy : Nat → ClassId) (ad : Nat → Nat) (P : Nat → Prop) (a0 : Nat) (a1 : Nat) (x2 : Int32) (M : Mm) (res : Rs) (M' : Mm) (e : Int32) : Prop := Rn l s0 D cy ad P 12 KX8_clearingOfAll 53 [.null, .null, .null, .int (e), .null] [] M res M'
set_option maxRecDepth 100000 in
theorem B_X8_clearingOfAll_j44 (G : GG l s0 b L xs D cy ad) {a0 : Nat} {a1 : Nat} {x2 : Int32} {x4 : Int32} {xs0 : Int32} {M : Mm}  {res : Rs} {M' : Mm} {r : ((Int32 × Int32) ⊕ Int32)} (hp0 : P a0) (hs0 : SH a0 = 8) (hp1 : P a1) (hs1 : SH a1 = 3) (hr : f_X8_clearingOfAll_j44 a0 a1 x2 x4 xs0 M = some r) (hk : mtc (P_X8_clearingOfAll_b5 l s0 D cy ad P a0 a1 x2 M res M') (Q_X8_clearingOfAll_b5 l s0 D cy ad P a0 a1 x2 M res M') r) : Rn l s0 D cy ad P 12 KX8_clearingOfAll 44 [.ref a0, .ref a1, .int x2, .null, .int x4] [.int xs0] M res M' := by
  unfold f_X8_clearingOfAll_j44 at hr
  refine n_iconst (n := 0) (v := 0) (by decide +kernel) rfl ?_
  refine n_iadd (by decide +kernel) ?_
  refine n_istore_n (n := 3) (lo2 := [_, _, _, _, _]) (by decide +kernel) (Nat.le_of_ble_eq_true rfl) rfl ?_
  refine n_iincK (n := 4) (j := 1) (w := 1) (lo2 := [_, _, _, _, _]) (by decide +kernel) rfl rfl rfl ?_
  refine n_goto (off := -45) (tgt := 5) (by decide +kernel) (by decide) ?_
  cases hr
  exact hk
set_option maxRecDepth 100000 in
theorem B_X8_clearingOfAll_b5 (G : GG l s0 b L xs D cy ad) {a0 : Nat} {a1 : Nat} {x2 : Int32} {M : Mm} {res : Rs} {M' : Mm} (hp0 : P a0) (hs0 : SH a0 = 8) (hp1 : P a1) (hs1 : SH a1 = 3) : ∀ (s : (Int32 × Int32)) (r : (Int32 × Int32) ⊕ Int32), f_X8_clearingOfAll_b5 a0 a1 x2 M s = some r → mtc (P_X8_clearingOfAll_b5 l s0 D cy ad P a0 a1 x2 M res M') (Q_X8_clearingOfAll_b5 l s0 D cy ad P a0 a1 x2 M res M') r → P_X8_clearingOfAll_b5 l s0 D cy ad P a0 a1 x2 M res M' s := by
  intro s r hr hk
  obtain ⟨x3, x4⟩ := s
  unfold f_X8_clearingOfAll_b5 at hr
  try dsimp only at hr
  dsimp only [P_X8_clearingOfAll_b5]
  refine n_iload (n := 4) (by decide +kernel) rfl ?_
  refine n_aload_n (n := 0) (by decide +kernel) rfl ?_
  refine n_getI G fl_RX8_43 hp0 hs0 (by decide +kernel) ?_
  refine n_icmp_ge (off := 42) (tgt := 53) (by decide +kernel) (by decide) (fun hc1 => ?_) (fun hc1 => ?_)
  · rw [if_pos hc1] at hr
    cases hr
    refine n_msk [false, false, false, true, false] (lo2 := [.null, .null, .null, _, .null]) rfl rfl ?_
    exact hk
  · rw [if_neg hc1] at hr
    refine n_iload_n (n := 3) (by decide +kernel) rfl ?_
    refine n_aload_n (n := 0) (by decide +kernel) rfl ?_
    refine n_iload (n := 4) (by decide +kernel) rfl ?_
    obtain ⟨v2, h2, hr⟩ := bso hr
    refine n_callVi G [_] (x := v2) (B_X8_isAsked G hp0 hs0 h2) (by decide) mX8_isAsked ml_RX8_90 hp0 hs0 rfl rfl (Nat.le_of_ble_eq_true rfl) (by decide +kernel) ?_
    refine n_if_eq (off := 23) (tgt := 44) (by decide +kernel) (by decide) (fun hc3 => ?_) (fun hc3 => ?_)
    · rw [if_pos hc3] at hr
      refine n_msk [true, true, true, false, true] (lo2 := [_, _, _, .null, _]) rfl rfl ?_
      exact B_X8_clearingOfAll_j44 G hp0 hs0 hp1 hs1 hr hk
    · rw [if_neg hc3] at hr
      refine n_aload_n (n := 0) (by decide +kernel) rfl ?_
      refine n_iload (n := 4) (by decide +kernel) rfl ?_
      obtain ⟨v4, h4, hr⟩ := bso hr
      refine n_callVi G [_] (x := v4) (B_X8_sizeOf G hp0 hs0 h4) (by decide) mX8_sizeOf ml_RX8_93 hp0 hs0 rfl rfl (Nat.le_of_ble_eq_true rfl) (by decide +kernel) ?_
      refine n_iload_n (n := 2) (by decide +kernel) rfl ?_
      refine n_icmp_lt (off := 13) (tgt := 44) (by decide +kernel) (by decide) (fun hc5 => ?_) (fun hc5 => ?_)
      · rw [if_pos hc5] at hr
        refine n_msk [true, true, true, false, true] (lo2 := [_, _, _, .null, _]) rfl rfl ?_
        exact B_X8_clearingOfAll_j44 G hp0 hs0 hp1 hs1 hr hk
      · rw [if_neg hc5] at hr
        refine n_aload_n (n := 0) (by decide +kernel) rfl ?_
        refine n_aload_n (n := 1) (by decide +kernel) rfl ?_
        refine n_iload (n := 4) (by decide +kernel) rfl ?_
        obtain ⟨v6, h6, hr⟩ := bso hr
        refine n_callVi G [_, _] (x := v6) (B_X8_clearingOf G hp0 hs0 hp1 hs1 h6) (by decide) mX8_clearingOf ml_RX8_216 hp0 hs0 rfl rfl (Nat.le_of_ble_eq_true rfl) (by decide +kernel) ?_
        refine n_goto (off := 4) (tgt := 45) (by decide +kernel) (by decide) ?_
        refine n_iadd (by decide +kernel) ?_
        refine n_istore_n (n := 3) (lo2 := [_, _, _, _, _]) (by decide +kernel) (Nat.le_of_ble_eq_true rfl) rfl ?_
        refine n_iincK (n := 4) (j := 1) (w := 1) (lo2 := [_, _, _, _, _]) (by decide +kernel) rfl rfl rfl ?_
        refine n_goto (off := -45) (tgt := 5) (by decide +kernel) (by decide) ?_
        cases hr
        exact hk
set_option maxRecDepth 100000 in
theorem W_X8_clearingOfAll_b5 (G : GG l s0 b L xs D cy ad) {a0 : Nat} {a1 : Nat} {x2 : Int32} {M : Mm} (hp0 : P a0) (hs0 : SH a0 = 8) (hp1 : P a1) (hs1 : SH a1 = 3) {s : (Int32 × Int32)} {e : Int32} (h : whl fu (f_X8_clearingOfAll_b5 a0 a1 x2 M) s = some e) (res : Rs) (M' : Mm) : Q_X8_clearingOfAll_b5 l s0 D cy ad P a0 a1 x2 M res M' e → P_X8_clearingOfAll_b5 l s0 D cy ad P a0 a1 x2 M res M' s := whl_run (P := fun s => P_X8_clearingOfAll_b5 l s0 D cy ad P a0 a1 x2 M res M' s) (Q := fun e => Q_X8_clearingOfAll_b5 l s0 D cy ad P a0 a1 x2 M res M' e) (B_X8_clearingOfAll_b5 G (res := res) (M' := M') (a0 := a0) (a1 := a1) (x2 := x2) (M := M) hp0 hs0 hp1 hs1) fu s h
set_option maxRecDepth 100000 in
theorem B_X8_clearingOfAll (G : GG l s0 b L xs D cy ad)  {a0 : Nat} {a1 : Nat} {x2 : Int32} {M : Mm} {r : Int32} (hp0 : P a0) (hs0 : SH a0 = 8) (hp1 : P a1) (hs1 : SH a1 = 3) (hr : f_X8_clearingOfAll a0 a1 x2 M = some r) : Cl l s0 D cy ad P 12 KX8_clearingOfAll [.ref a0, .ref a1, .int x2] M (.inl (some (.int r))) (M) := by
  refine cl_ofN (by decide +kernel) rfl rfl okI (lo0 := [_, _, _, .null, .null]) rfl ?_
  unfold f_X8_clearingOfAll at hr
  refine n_iconst (n := 0) (v := 0) (by decide +kernel) rfl ?_
  refine n_istore_n (n := 3) (lo2 := [_, _, _, _, _]) (by decide +kernel) (Nat.le_of_ble_eq_true rfl) rfl ?_
  refine n_iconst (n := 0) (v := 0) (by decide +kernel) rfl ?_
  refine n_istore (n := 4) (lo2 := [_, _, _, _, _]) (by decide +kernel) (Nat.le_of_ble_eq_true rfl) rfl ?_
  obtain ⟨z3_7, h7, hr⟩ := bso hr
  refine (W_X8_clearingOfAll_b5 G hp0 hs0 hp1 hs1 h7 _ _) ?_
  dsimp only [Q_X8_clearingOfAll_b5]
  refine n_iload_n (n := 3) (by decide +kernel) rfl ?_
  cases hr
  exact n_ireturn (by decide +kernel)
set_option maxRecDepth 100000 in
theorem B_X8_lyingIn (G : GG l s0 b L xs D cy ad)  {a0 : Nat} {x1 : Int32} {M : Mm} {r : Int32} (hp0 : P a0) (hs0 : SH a0 = 8) (hr : f_X8_lyingIn a0 x1 M = some r) : Cl l s0 D cy ad P 10 KX8_lyingIn [.ref a0, .int x1] M (.inl (some (.int r))) (M) := by
  refine cl_ofN (by decide +kernel) rfl rfl okI (lo0 := [_, _]) rfl ?_
  unfold f_X8_lyingIn at hr
  refine n_iload_n (n := 1) (by decide +kernel) rfl ?_
  obtain ⟨v1, h1, hr⟩ := bso hr
  refine n_callSNi G [_] (x := v1) (B_X9_isCell G  h1) (by decide) mX9_isCell ml_RX8_77 rfl rfl (Nat.le_of_ble_eq_true rfl) (by decide +kernel) ?_
  refine n_if_eq (off := 12) (tgt := 16) (by decide +kernel) (by decide) (fun hc2 => ?_) (fun hc2 => ?_)
  · rw [if_pos hc2] at hr
    refine n_iconst (n := 0) (v := 0) (by decide +kernel) rfl ?_
    cases hr
    exact n_ireturn (by decide +kernel)
  · rw [if_neg hc2] at hr
    refine n_aload_n (n := 0) (by decide +kernel) rfl ?_
    refine n_getF (q := (a0 + 7)) G fl_RX8_30 hp0 hs0 (fr_8_6 hs0).1 (by decide +kernel) (fun hp3q => ?_)
    refine n_iload_n (n := 1) (by decide +kernel) rfl ?_
    obtain ⟨v4, h4, hr⟩ := bso hr
    refine n_iald G h4 hp3q (fr_8_6 hs0).2.1 (fr_8_6 hs0).2.2 (by decide +kernel) ?_
    refine n_goto (off := 4) (tgt := 17) (by decide +kernel) (by decide) ?_
    cases hr
    exact n_ireturn (by decide +kernel)
set_option maxRecDepth 100000 in
theorem B_X4_nameAt (G : GG l s0 b L xs D cy ad)  {a0 : Nat} {x1 : Int32} {M : Mm} {r : Int32} (hp0 : P a0) (hs0 : SH a0 = 4) (hr : f_X4_nameAt a0 x1 M = some r) : Cl l s0 D cy ad P 9 KX4_nameAt [.ref a0, .int x1] M (.inl (some (.int r))) (M) := by
  refine cl_ofN (by decide +kernel) rfl rfl okI (lo0 := [_, _]) rfl ?_
  unfold f_X4_nameAt at hr
  refine n_iload_n (n := 1) (by decide +kernel) rfl ?_
  refine n_if_lt (off := 18) (tgt := 19) (by decide +kernel) (by decide) (fun hc1 => ?_) (fun hc1 => ?_)
  · rw [if_pos hc1] at hr
    refine n_iconst (n := 0) (v := 0) (by decide +kernel) rfl ?_
    cases hr
    exact n_ireturn (by decide +kernel)
  · rw [if_neg hc1] at hr
    refine n_iload_n (n := 1) (by decide +kernel) rfl ?_
    refine n_bipush (n := 7) (v := 7) (by decide +kernel) rfl ?_
    refine n_icmp_ge (off := 12) (tgt := 19) (by decide +kernel) (by decide) (fun hc2 => ?_) (fun hc2 => ?_)
    · rw [if_pos hc2] at hr
      refine n_iconst (n := 0) (v := 0) (by decide +kernel) rfl ?_
      cases hr
      exact n_ireturn (by decide +kernel)
    · rw [if_neg hc2] at hr
      refine n_aload_n (n := 0) (by decide +kernel) rfl ?_
      refine n_getF (q := (a0 + 3)) G fl_RX4_18 hp0 hs0 (fr_4_2 hs0).1 (by decide +kernel) (fun hp3q => ?_)
      refine n_iload_n (n := 1) (by decide +kernel) rfl ?_
      obtain ⟨v4, h4, hr⟩ := bso hr
      refine n_iald G h4 hp3q (fr_4_2 hs0).2.1 (fr_4_2 hs0).2.2 (by decide +kernel) ?_
      refine n_goto (off := 4) (tgt := 20) (by decide +kernel) (by decide) ?_
      cases hr
      exact n_ireturn (by decide +kernel)
set_option maxRecDepth 100000 in
theorem tabD_X4_joined_1 (x : Int32) (h42 : x.toInt ≠ 42) (h43 : x.toInt ≠ 43) (h45 : x.toInt ≠ 45) (h47 : x.toInt ≠ 47) : tabDef 42 47 63 #[47, 39, 63, 43, 63, 51] x := by
  unfold tabDef
  by_cases h1 : x.toInt < 42
  · exact Or.inl (Or.inl h1)
  by_cases h2 : 47 < x.toInt
  · exact Or.inl (Or.inr h2)
  refine Or.inr ⟨h1, h2, ?_⟩
  have : x.toInt = 44 ∨ x.toInt = 46 := by omega
  rcases this with h | h <;> (rw [h]; decide)
set_option maxRecDepth 100000 in
theorem B_X4_joined (G : GG l s0 b L xs D cy ad)  {x0 : Int32} {x1 : Int32} {x2 : Int32} {M : Mm} {r : Int32}  (hr : f_X4_joined x0 x1 x2 M = some r) : Cl l s0 D cy ad P 9 KX4_joined [.int x0, .int x1, .int x2] M (.inl (some (.int r))) (M) := by
  refine cl_ofN (by decide +kernel) rfl rfl okI (lo0 := [_, _, _]) rfl ?_
  unfold f_X4_joined at hr
  refine n_iload_n (n := 0) (by decide +kernel) rfl ?_
  by_cases hc1 : x0 = 42
  · rw [if_pos hc1] at hr
    refine n_tabIn (dflt := 63) (lw := 42) (hi := 47) (offs := #[47, 39, 63, 43, 63, 51]) (len := 39) (off := 47) (tgt := 48) (by decide +kernel) (by rw [hc1]; decide) (by rw [hc1]; decide) (by rw [hc1]; decide) (by decide) ?_
    refine n_iload_n (n := 1) (by decide +kernel) rfl ?_
    refine n_iload_n (n := 2) (by decide +kernel) rfl ?_
    refine n_imul (by decide +kernel) ?_
    cases hr
    exact n_ireturn (by decide +kernel)
  rw [if_neg hc1] at hr
  by_cases hc2 : x0 = 43
  · rw [if_pos hc2] at hr
    refine n_tabIn (dflt := 63) (lw := 42) (hi := 47) (offs := #[47, 39, 63, 43, 63, 51]) (len := 39) (off := 39) (tgt := 40) (by decide +kernel) (by rw [hc2]; decide) (by rw [hc2]; decide) (by rw [hc2]; decide) (by decide) ?_
    refine n_iload_n (n := 1) (by decide +kernel) rfl ?_
    refine n_iload_n (n := 2) (by decide +kernel) rfl ?_
    refine n_iadd (by decide +kernel) ?_
    cases hr
    exact n_ireturn (by decide +kernel)
  rw [if_neg hc2] at hr
  by_cases hc3 : x0 = 45
  · rw [if_pos hc3] at hr
    refine n_tabIn (dflt := 63) (lw := 42) (hi := 47) (offs := #[47, 39, 63, 43, 63, 51]) (len := 39) (off := 43) (tgt := 44) (by decide +kernel) (by rw [hc3]; decide) (by rw [hc3]; decide) (by rw [hc3]; decide) (by decide) ?_
    refine n_iload_n (n := 1) (by decide +kernel) rfl ?_
    refine n_iload_n (n := 2) (by decide +kernel) rfl ?_
    refine n_isub (by decide +kernel) ?_
    cases hr
    exact n_ireturn (by decide +kernel)
  rw [if_neg hc3] at hr
  by_cases hc4 : x0 = 47
  · rw [if_pos hc4] at hr
    refine n_tabIn (dflt := 63) (lw := 42) (hi := 47) (offs := #[47, 39, 63, 43, 63, 51]) (len := 39) (off := 51) (tgt := 52) (by decide +kernel) (by rw [hc4]; decide) (by rw [hc4]; decide) (by rw [hc4]; decide) (by decide) ?_
    refine n_iload_n (n := 2) (by decide +kernel) rfl ?_
    refine n_if_ne (off := 7) (tgt := 60) (by decide +kernel) (by decide) (fun hc5 => ?_) (fun hc5 => ?_)
    · rw [if_neg hc5] at hr
      refine n_iload_n (n := 1) (by decide +kernel) rfl ?_
      refine n_iload_n (n := 2) (by decide +kernel) rfl ?_
      by_cases hz6 : x2 = 0
      · rw [if_pos hz6] at hr; cases hr
      rw [if_neg hz6] at hr
      refine n_idiv hz6 (by decide +kernel) ?_
      cases hr
      exact n_ireturn (by decide +kernel)
    · rw [if_pos hc5] at hr
      refine n_iconst (n := 0) (v := 0) (by decide +kernel) rfl ?_
      refine n_goto (off := 6) (tgt := 63) (by decide +kernel) (by decide) ?_
      cases hr
      exact n_ireturn (by decide +kernel)
  rw [if_neg hc4] at hr
  have e1 := ne_toInt hc1 (n := 42) rfl
  have e2 := ne_toInt hc2 (n := 43) rfl
  have e3 := ne_toInt hc3 (n := 45) rfl
  have e4 := ne_toInt hc4 (n := 47) rfl
  refine n_tabD (dflt := 63) (lw := 42) (hi := 47) (offs := #[47, 39, 63, 43, 63, 51]) (len := 39) (tgt := 64) (by decide +kernel) (by decide) (tabD_X4_joined_1 _ e1 e2 e3 e4) ?_
  refine n_iload_n (n := 2) (by decide +kernel) rfl ?_
  refine n_if_ne (off := 7) (tgt := 72) (by decide +kernel) (by decide) (fun hc7 => ?_) (fun hc7 => ?_)
  · rw [if_neg hc7] at hr
    refine n_iload_n (n := 1) (by decide +kernel) rfl ?_
    refine n_iload_n (n := 2) (by decide +kernel) rfl ?_
    by_cases hz8 : x2 = 0
    · rw [if_pos hz8] at hr; cases hr
    rw [if_neg hz8] at hr
    refine n_irem hz8 (by decide +kernel) ?_
    cases hr
    exact n_ireturn (by decide +kernel)
  · rw [if_pos hc7] at hr
    refine n_iconst (n := 0) (v := 0) (by decide +kernel) rfl ?_
    refine n_goto (off := 6) (tgt := 75) (by decide +kernel) (by decide) ?_
    cases hr
    exact n_ireturn (by decide +kernel)
abbrev P_X4_valueFor_b66 (l : Launch) (s0 : State) (D : va_G) (cy : Nat → ClassId) (ad : Nat → Nat) (P : Nat → Prop) (a0 : Nat)  (res : Rs) (M' : Mm) (s : (Int32 × Int32 × Mm)) : Prop := Rn l s0 D cy ad P 10 KX4_valueFor 66 [.ref a0, .null, .null, .null, .null, .null, .null, .int (s.1), .int (s.2.1), .null] [] (s.2.2) res M'
abbrev Q_X4_valueFor_b66 (l : Launch) (s0 : State) (D : va_G) (cy : Nat → ClassId) (ad : Nat → Nat) (P : Nat → Prop) (a0 : Nat)  (res : Rs) (M' : Mm) (e : Mm) : Prop := Rn l s0 D cy ad P 10 KX4_valueFor 238 [.ref a0, .null, .null, .null, .null, .null, .null, .null, .null, .null] [] (e) res M'
set_option maxRecDepth 100000 in
theorem B_X4_valueFor_j192 (G : GG l s0 b L xs D cy ad) {a0 : Nat} {x7 : Int32} {x8 : Int32} {x9 : Int32} {M : Mm}  {res : Rs} {M' : Mm} {r : ((Int32 × Int32 × Mm) ⊕ Mm)} (hp0 : P a0) (hs0 : SH a0 = 4) (hr : f_X4_valueFor_j192 a0 x7 x8 x9 M = some r) (hk : mtc (P_X4_valueFor_b66 l s0 D cy ad P a0 res M') (Q_X4_valueFor_b66 l s0 D cy ad P a0 res M') r) : Rn l s0 D cy ad P 10 KX4_valueFor 192 [.ref a0, .null, .null, .null, .null, .null, .null, .int x7, .int x8, .int x9] [] M res M' := by
  unfold f_X4_valueFor_j192 at hr
  refine n_iload (n := 7) (by decide +kernel) rfl ?_
  refine n_iconst (n := 2) (v := 2) (by decide +kernel) rfl ?_
  refine n_icmp_lt (off := 37) (tgt := 232) (by decide +kernel) (by decide) (fun hc23 => ?_) (fun hc23 => ?_)
  · rw [if_pos hc23] at hr
    refine n_iincK (n := 8) (j := 1) (w := 1) (lo2 := [_, _, _, _, _, _, _, _, _, _]) (by decide +kernel) rfl rfl rfl ?_
    refine n_goto (off := -169) (tgt := 66) (by decide +kernel) (by decide) ?_
    cases hr
    refine n_msk [true, false, false, false, false, false, false, true, true, false] (lo2 := [_, .null, .null, .null, .null, .null, .null, _, _, .null]) rfl rfl ?_
    exact hk
  · rw [if_neg hc23] at hr
    refine n_iincK (n := 7) (j := -1) (w := -1) (lo2 := [_, _, _, _, _, _, _, _, _, _]) (by decide +kernel) rfl rfl rfl ?_
    refine n_aload_n (n := 0) (by decide +kernel) rfl ?_
    refine n_getF (q := (a0 + 2)) G fl_RX4_15 hp0 hs0 (fr_4_1 hs0).1 (by decide +kernel) (fun hp24q => ?_)
    refine n_iload (n := 7) (by decide +kernel) rfl ?_
    refine n_iconst (n := 1) (v := 1) (by decide +kernel) rfl ?_
    refine n_isub (by decide +kernel) ?_
    refine n_iload (n := 9) (by decide +kernel) rfl ?_
    refine n_ineg (by decide +kernel) ?_
    refine n_aload_n (n := 0) (by decide +kernel) rfl ?_
    refine n_getF (q := (a0 + 2)) G fl_RX4_15 hp0 hs0 (fr_4_1 hs0).1 (by decide +kernel) (fun hp25q => ?_)
    refine n_iload (n := 7) (by decide +kernel) rfl ?_
    refine n_iconst (n := 1) (v := 1) (by decide +kernel) rfl ?_
    refine n_isub (by decide +kernel) ?_
    obtain ⟨v26, h26, hr⟩ := bso hr
    refine n_iald G h26 hp25q (fr_4_1 hs0).2.1 (fr_4_1 hs0).2.2 (by decide +kernel) ?_
    refine n_aload_n (n := 0) (by decide +kernel) rfl ?_
    refine n_getF (q := (a0 + 2)) G fl_RX4_15 hp0 hs0 (fr_4_1 hs0).1 (by decide +kernel) (fun hp27q => ?_)
    refine n_iload (n := 7) (by decide +kernel) rfl ?_
    obtain ⟨v28, h28, hr⟩ := bso hr
    refine n_iald G h28 hp27q (fr_4_1 hs0).2.1 (fr_4_1 hs0).2.2 (by decide +kernel) ?_
    obtain ⟨v29, h29, hr⟩ := bso hr
    refine n_callSi G [_, _, _] (x := v29) (B_X4_joined G  h29) (by decide) mX4_joined ml_RX4_105 rfl rfl (Nat.le_of_ble_eq_true rfl) (by decide +kernel) ?_
    obtain ⟨M30, h30, hr⟩ := bso hr
    refine n_iast G h30 hp24q (fr_4_1 hs0).2.1 (fr_4_1 hs0).2.2 (by decide +kernel) ?_
    refine n_iincK (n := 8) (j := 1) (w := 1) (lo2 := [_, _, _, _, _, _, _, _, _, _]) (by decide +kernel) rfl rfl rfl ?_
    refine n_goto (off := -169) (tgt := 66) (by decide +kernel) (by decide) ?_
    cases hr
    refine n_msk [true, false, false, false, false, false, false, true, true, false] (lo2 := [_, .null, .null, .null, .null, .null, .null, _, _, .null]) rfl rfl ?_
    exact hk
set_option maxRecDepth 100000 in
theorem B_X4_valueFor_j188 (G : GG l s0 b L xs D cy ad) {a0 : Nat} {x7 : Int32} {x8 : Int32} {a90 : Nat} {xs1 : Int32} {xs2 : Int32} {M : Mm}  {res : Rs} {M' : Mm} {r : ((Int32 × Int32 × Mm) ⊕ Mm)} (hp0 : P a0) (hs0 : SH a0 = 4) (hp90 : P a90) (hs90 : SH a90 = 12) (hn90 : LN a90 = 150) (hr : f_X4_valueFor_j188 a0 x7 x8 a90 xs1 xs2 M = some r) (hk : mtc (P_X4_valueFor_b66 l s0 D cy ad P a0 res M') (Q_X4_valueFor_b66 l s0 D cy ad P a0 res M') r) : Rn l s0 D cy ad P 10 KX4_valueFor 188 [.ref a0, .null, .null, .null, .null, .null, .null, .int x7, .int x8, .null] [.int xs2, .int xs1, .ref a90] M res M' := by
  unfold f_X4_valueFor_j188 at hr
  obtain ⟨M38, h38, hr⟩ := bso hr
  refine n_iast G h38 hp90 hs90 hn90 (by decide +kernel) ?_
  refine n_goto (off := 43) (tgt := 232) (by decide +kernel) (by decide) ?_
  refine n_iincK (n := 8) (j := 1) (w := 1) (lo2 := [_, _, _, _, _, _, _, _, _, _]) (by decide +kernel) rfl rfl rfl ?_
  refine n_goto (off := -169) (tgt := 66) (by decide +kernel) (by decide) ?_
  cases hr
  exact hk
set_option maxRecDepth 100000 in
theorem B_X4_valueFor_j126 (G : GG l s0 b L xs D cy ad) {a0 : Nat} {x7 : Int32} {x8 : Int32} {a90 : Nat} {xs1 : Int32} {xs2 : Int32} {M : Mm}  {res : Rs} {M' : Mm} {r : ((Int32 × Int32 × Mm) ⊕ Mm)} (hp0 : P a0) (hs0 : SH a0 = 4) (hp90 : P a90) (hs90 : SH a90 = 12) (hn90 : LN a90 = 150) (hr : f_X4_valueFor_j126 a0 x7 x8 a90 xs1 xs2 M = some r) (hk : mtc (P_X4_valueFor_b66 l s0 D cy ad P a0 res M') (Q_X4_valueFor_b66 l s0 D cy ad P a0 res M') r) : Rn l s0 D cy ad P 10 KX4_valueFor 126 [.ref a0, .null, .null, .null, .null, .null, .null, .int x7, .int x8, .null] [.int xs2, .int xs1, .ref a90] M res M' := by
  unfold f_X4_valueFor_j126 at hr
  obtain ⟨M44, h44, hr⟩ := bso hr
  refine n_iast G h44 hp90 hs90 hn90 (by decide +kernel) ?_
  refine n_iincK (n := 7) (j := 1) (w := 1) (lo2 := [_, _, _, _, _, _, _, _, _, _]) (by decide +kernel) rfl rfl rfl ?_
  refine n_goto (off := 102) (tgt := 232) (by decide +kernel) (by decide) ?_
  refine n_iincK (n := 8) (j := 1) (w := 1) (lo2 := [_, _, _, _, _, _, _, _, _, _]) (by decide +kernel) rfl rfl rfl ?_
  refine n_goto (off := -169) (tgt := 66) (by decide +kernel) (by decide) ?_
  cases hr
  exact hk
set_option maxRecDepth 100000 in
theorem B_X4_valueFor_b66 (G : GG l s0 b L xs D cy ad) {a0 : Nat}  {res : Rs} {M' : Mm} (hp0 : P a0) (hs0 : SH a0 = 4) : ∀ (s : (Int32 × Int32 × Mm)) (r : (Int32 × Int32 × Mm) ⊕ Mm), f_X4_valueFor_b66 a0 s = some r → mtc (P_X4_valueFor_b66 l s0 D cy ad P a0 res M') (Q_X4_valueFor_b66 l s0 D cy ad P a0 res M') r → P_X4_valueFor_b66 l s0 D cy ad P a0 res M' s := by
  intro s r hr hk
  obtain ⟨x7, x8, M⟩ := s
  unfold f_X4_valueFor_b66 at hr
  try dsimp only at hr
  dsimp only [P_X4_valueFor_b66]
  refine n_iload (n := 8) (by decide +kernel) rfl ?_
  refine n_aload_n (n := 0) (by decide +kernel) rfl ?_
  refine n_getI G fl_RX4_21 hp0 hs0 (by decide +kernel) ?_
  refine n_icmp_ge (off := 166) (tgt := 238) (by decide +kernel) (by decide) (fun hc17 => ?_) (fun hc17 => ?_)
  · rw [if_pos hc17] at hr
    cases hr
    refine n_msk [true, false, false, false, false, false, false, false, false, false] (lo2 := [_, .null, .null, .null, .null, .null, .null, .null, .null, .null]) rfl rfl ?_
    exact hk
  · rw [if_neg hc17] at hr
    refine n_iload (n := 7) (by decide +kernel) rfl ?_
    refine n_sipush (n := 150) (v := 150) (by decide +kernel) (by decide +kernel) ?_
    refine n_icmp_ge (off := 158) (tgt := 238) (by decide +kernel) (by decide) (fun hc18 => ?_) (fun hc18 => ?_)
    · rw [if_pos hc18] at hr
      cases hr
      refine n_msk [true, false, false, false, false, false, false, false, false, false] (lo2 := [_, .null, .null, .null, .null, .null, .null, .null, .null, .null]) rfl rfl ?_
      exact hk
    · rw [if_neg hc18] at hr
      refine n_aload_n (n := 0) (by decide +kernel) rfl ?_
      refine n_getF (q := (a0 + 1)) G fl_RX4_11 hp0 hs0 (fr_4_0 hs0).1 (by decide +kernel) (fun hp19q => ?_)
      refine n_iload (n := 8) (by decide +kernel) rfl ?_
      obtain ⟨v20, h20, hr⟩ := bso hr
      refine n_iald G h20 hp19q (fr_4_0 hs0).2.1 (fr_4_0 hs0).2.2 (by decide +kernel) ?_
      refine n_istore (n := 9) (lo2 := [_, _, _, _, _, _, _, _, _, _]) (by decide +kernel) (Nat.le_of_ble_eq_true rfl) rfl ?_
      refine n_iload (n := 9) (by decide +kernel) rfl ?_
      refine n_if_lt (off := 39) (tgt := 133) (by decide +kernel) (by decide) (fun hc21 => ?_) (fun hc21 => ?_)
      · rw [if_pos hc21] at hr
        refine n_iload (n := 9) (by decide +kernel) rfl ?_
        refine n_bipush (n := -63) (v := -63) (by decide +kernel) rfl ?_
        refine n_icmp_ne (off := 55) (tgt := 192) (by decide +kernel) (by decide) (fun hc22 => ?_) (fun hc22 => ?_)
        · rw [if_neg hc22] at hr
          exact B_X4_valueFor_j192 G hp0 hs0 hr hk
        · rw [if_pos hc22] at hr
          refine n_iload (n := 7) (by decide +kernel) rfl ?_
          refine n_iconst (n := 3) (v := 3) (by decide +kernel) rfl ?_
          refine n_icmp_lt (off := 49) (tgt := 192) (by decide +kernel) (by decide) (fun hc31 => ?_) (fun hc31 => ?_)
          · rw [if_pos hc31] at hr
            exact B_X4_valueFor_j192 G hp0 hs0 hr hk
          · rw [if_neg hc31] at hr
            refine n_iincK (n := 7) (j := -2) (w := -2) (lo2 := [_, _, _, _, _, _, _, _, _, _]) (by decide +kernel) rfl rfl rfl ?_
            refine n_aload_n (n := 0) (by decide +kernel) rfl ?_
            refine n_getF (q := (a0 + 2)) G fl_RX4_15 hp0 hs0 (fr_4_1 hs0).1 (by decide +kernel) (fun hp32q => ?_)
            refine n_iload (n := 7) (by decide +kernel) rfl ?_
            refine n_iconst (n := 1) (v := 1) (by decide +kernel) rfl ?_
            refine n_isub (by decide +kernel) ?_
            refine n_aload_n (n := 0) (by decide +kernel) rfl ?_
            refine n_getF (q := (a0 + 2)) G fl_RX4_15 hp0 hs0 (fr_4_1 hs0).1 (by decide +kernel) (fun hp33q => ?_)
            refine n_iload (n := 7) (by decide +kernel) rfl ?_
            refine n_iconst (n := 1) (v := 1) (by decide +kernel) rfl ?_
            refine n_isub (by decide +kernel) ?_
            obtain ⟨v34, h34, hr⟩ := bso hr
            refine n_iald G h34 hp33q (fr_4_1 hs0).2.1 (fr_4_1 hs0).2.2 (by decide +kernel) ?_
            refine n_if_le (off := 13) (tgt := 179) (by decide +kernel) (by decide) (fun hc35 => ?_) (fun hc35 => ?_)
            · rw [if_pos hc35] at hr
              refine n_aload_n (n := 0) (by decide +kernel) rfl ?_
              refine n_getF (q := (a0 + 2)) G fl_RX4_15 hp0 hs0 (fr_4_1 hs0).1 (by decide +kernel) (fun hp36q => ?_)
              refine n_iload (n := 7) (by decide +kernel) rfl ?_
              refine n_iconst (n := 1) (v := 1) (by decide +kernel) rfl ?_
              refine n_iadd (by decide +kernel) ?_
              obtain ⟨v37, h37, hr⟩ := bso hr
              refine n_iald G h37 hp36q (fr_4_1 hs0).2.1 (fr_4_1 hs0).2.2 (by decide +kernel) ?_
              refine n_msk [true, false, false, false, false, false, false, true, true, false] (lo2 := [_, .null, .null, .null, .null, .null, .null, _, _, .null]) rfl rfl ?_
              exact B_X4_valueFor_j188 G hp0 hs0 hp32q (fr_4_1 hs0).2.1 (fr_4_1 hs0).2.2 hr hk
            · rw [if_neg hc35] at hr
              refine n_aload_n (n := 0) (by decide +kernel) rfl ?_
              refine n_getF (q := (a0 + 2)) G fl_RX4_15 hp0 hs0 (fr_4_1 hs0).1 (by decide +kernel) (fun hp39q => ?_)
              refine n_iload (n := 7) (by decide +kernel) rfl ?_
              obtain ⟨v40, h40, hr⟩ := bso hr
              refine n_iald G h40 hp39q (fr_4_1 hs0).2.1 (fr_4_1 hs0).2.2 (by decide +kernel) ?_
              refine n_goto (off := 12) (tgt := 188) (by decide +kernel) (by decide) ?_
              refine n_msk [true, false, false, false, false, false, false, true, true, false] (lo2 := [_, .null, .null, .null, .null, .null, .null, _, _, .null]) rfl rfl ?_
              exact B_X4_valueFor_j188 G hp0 hs0 hp32q (fr_4_1 hs0).2.1 (fr_4_1 hs0).2.2 hr hk
      · rw [if_neg hc21] at hr
        refine n_aload_n (n := 0) (by decide +kernel) rfl ?_
        refine n_getF (q := (a0 + 2)) G fl_RX4_15 hp0 hs0 (fr_4_1 hs0).1 (by decide +kernel) (fun hp41q => ?_)
        refine n_iload (n := 7) (by decide +kernel) rfl ?_
        refine n_iload (n := 9) (by decide +kernel) rfl ?_
        refine n_sipush (n := 1000) (v := 1000) (by decide +kernel) (by decide +kernel) ?_
        refine n_icmp_ge (off := 8) (tgt := 116) (by decide +kernel) (by decide) (fun hc42 => ?_) (fun hc42 => ?_)
        · rw [if_pos hc42] at hr
          refine n_aload_n (n := 0) (by decide +kernel) rfl ?_
          refine n_iload (n := 9) (by decide +kernel) rfl ?_
          refine n_sipush (n := 1000) (v := 1000) (by decide +kernel) (by decide +kernel) ?_
          refine n_isub (by decide +kernel) ?_
          obtain ⟨v43, h43, hr⟩ := bso hr
          refine n_callVi G [_] (x := v43) (B_X4_nameAt G hp0 hs0 h43) (by decide) mX4_nameAt ml_RX4_102 hp0 hs0 rfl rfl (Nat.le_of_ble_eq_true rfl) (by decide +kernel) ?_
          refine n_msk [true, false, false, false, false, false, false, true, true, false] (lo2 := [_, .null, .null, .null, .null, .null, .null, _, _, .null]) rfl rfl ?_
          exact B_X4_valueFor_j126 G hp0 hs0 hp41q (fr_4_1 hs0).2.1 (fr_4_1 hs0).2.2 hr hk
        · rw [if_neg hc42] at hr
          refine n_iload (n := 9) (by decide +kernel) rfl ?_
          refine n_goto (off := 13) (tgt := 126) (by decide +kernel) (by decide) ?_
          refine n_msk [true, false, false, false, false, false, false, true, true, false] (lo2 := [_, .null, .null, .null, .null, .null, .null, _, _, .null]) rfl rfl ?_
          exact B_X4_valueFor_j126 G hp0 hs0 hp41q (fr_4_1 hs0).2.1 (fr_4_1 hs0).2.2 hr hk
set_option maxRecDepth 100000 in
theorem W_X4_valueFor_b66 (G : GG l s0 b L xs D cy ad) {a0 : Nat}  (hp0 : P a0) (hs0 : SH a0 = 4) {s : (Int32 × Int32 × Mm)} {e : Mm} (h : whl fu (f_X4_valueFor_b66 a0) s = some e) (res : Rs) (M' : Mm) : Q_X4_valueFor_b66 l s0 D cy ad P a0 res M' e → P_X4_valueFor_b66 l s0 D cy ad P a0 res M' s := whl_run (P := fun s => P_X4_valueFor_b66 l s0 D cy ad P a0 res M' s) (Q := fun e => Q_X4_valueFor_b66 l s0 D cy ad P a0 res M' e) (B_X4_valueFor_b66 G (res := res) (M' := M') (a0 := a0) hp0 hs0) fu s h
set_option maxRecDepth 100000 in
theorem B_X4_valueFor (G : GG l s0 b L xs D cy ad)  {a0 : Nat} {x1 : Int32} {x2 : Int32} {x3 : Int32} {x4 : Int32} {x5 : Int32} {x6 : Int32} {M : Mm} {r : (Int32 × Mm)} (hp0 : P a0) (hs0 : SH a0 = 4) (hr : f_X4_valueFor a0 x1 x2 x3 x4 x5 x6 M = some r) : Cl l s0 D cy ad P 10 KX4_valueFor [.ref a0, .int x1, .int x2, .int x3, .int x4, .int x5, .int x6] M (.inl (some (.int r.1))) (r.2) := by
  refine cl_ofN (by decide +kernel) rfl rfl okI (lo0 := [_, _, _, _, _, _, _, .null, .null, .null]) rfl ?_
  unfold f_X4_valueFor at hr
  refine n_aload_n (n := 0) (by decide +kernel) rfl ?_
  refine n_getF (q := (a0 + 3)) G fl_RX4_18 hp0 hs0 (fr_4_2 hs0).1 (by decide +kernel) (fun hp1q => ?_)
  refine n_iconst (n := 0) (v := 0) (by decide +kernel) rfl ?_
  refine n_iload_n (n := 1) (by decide +kernel) rfl ?_
  obtain ⟨M2, h2, hr⟩ := bso hr
  refine n_iast G h2 hp1q (fr_4_2 hs0).2.1 (fr_4_2 hs0).2.2 (by decide +kernel) ?_
  refine n_aload_n (n := 0) (by decide +kernel) rfl ?_
  refine n_getF (q := (a0 + 3)) G fl_RX4_18 hp0 hs0 (fr_4_2 hs0).1 (by decide +kernel) (fun hp3q => ?_)
  refine n_iconst (n := 1) (v := 1) (by decide +kernel) rfl ?_
  refine n_iload_n (n := 2) (by decide +kernel) rfl ?_
  obtain ⟨M4, h4, hr⟩ := bso hr
  refine n_iast G h4 hp3q (fr_4_2 hs0).2.1 (fr_4_2 hs0).2.2 (by decide +kernel) ?_
  refine n_aload_n (n := 0) (by decide +kernel) rfl ?_
  refine n_getF (q := (a0 + 3)) G fl_RX4_18 hp0 hs0 (fr_4_2 hs0).1 (by decide +kernel) (fun hp5q => ?_)
  refine n_iconst (n := 2) (v := 2) (by decide +kernel) rfl ?_
  refine n_iload_n (n := 3) (by decide +kernel) rfl ?_
  obtain ⟨M6, h6, hr⟩ := bso hr
  refine n_iast G h6 hp5q (fr_4_2 hs0).2.1 (fr_4_2 hs0).2.2 (by decide +kernel) ?_
  refine n_aload_n (n := 0) (by decide +kernel) rfl ?_
  refine n_getF (q := (a0 + 3)) G fl_RX4_18 hp0 hs0 (fr_4_2 hs0).1 (by decide +kernel) (fun hp7q => ?_)
  refine n_iconst (n := 3) (v := 3) (by decide +kernel) rfl ?_
  refine n_iload (n := 4) (by decide +kernel) rfl ?_
  obtain ⟨M8, h8, hr⟩ := bso hr
  refine n_iast G h8 hp7q (fr_4_2 hs0).2.1 (fr_4_2 hs0).2.2 (by decide +kernel) ?_
  refine n_aload_n (n := 0) (by decide +kernel) rfl ?_
  refine n_getF (q := (a0 + 3)) G fl_RX4_18 hp0 hs0 (fr_4_2 hs0).1 (by decide +kernel) (fun hp9q => ?_)
  refine n_iconst (n := 4) (v := 4) (by decide +kernel) rfl ?_
  refine n_iload (n := 5) (by decide +kernel) rfl ?_
  obtain ⟨v10, h10, hr⟩ := bso hr
  refine n_callSNi G [_] (x := v10) (B_X9_column G  h10) (by decide) mX9_column ml_RX4_95 rfl rfl (Nat.le_of_ble_eq_true rfl) (by decide +kernel) ?_
  obtain ⟨M11, h11, hr⟩ := bso hr
  refine n_iast G h11 hp9q (fr_4_2 hs0).2.1 (fr_4_2 hs0).2.2 (by decide +kernel) ?_
  refine n_aload_n (n := 0) (by decide +kernel) rfl ?_
  refine n_getF (q := (a0 + 3)) G fl_RX4_18 hp0 hs0 (fr_4_2 hs0).1 (by decide +kernel) (fun hp12q => ?_)
  refine n_iconst (n := 5) (v := 5) (by decide +kernel) rfl ?_
  refine n_iload (n := 5) (by decide +kernel) rfl ?_
  obtain ⟨v13, h13, hr⟩ := bso hr
  refine n_callSNi G [_] (x := v13) (B_X9_row G  h13) (by decide) mX9_row ml_RX4_99 rfl rfl (Nat.le_of_ble_eq_true rfl) (by decide +kernel) ?_
  obtain ⟨M14, h14, hr⟩ := bso hr
  refine n_iast G h14 hp12q (fr_4_2 hs0).2.1 (fr_4_2 hs0).2.2 (by decide +kernel) ?_
  refine n_aload_n (n := 0) (by decide +kernel) rfl ?_
  refine n_getF (q := (a0 + 3)) G fl_RX4_18 hp0 hs0 (fr_4_2 hs0).1 (by decide +kernel) (fun hp15q => ?_)
  refine n_bipush (n := 6) (v := 6) (by decide +kernel) rfl ?_
  refine n_iload (n := 6) (by decide +kernel) rfl ?_
  obtain ⟨M16, h16, hr⟩ := bso hr
  refine n_iast G h16 hp15q (fr_4_2 hs0).2.1 (fr_4_2 hs0).2.2 (by decide +kernel) ?_
  refine n_iconst (n := 0) (v := 0) (by decide +kernel) rfl ?_
  refine n_istore (n := 7) (lo2 := [_, _, _, _, _, _, _, _, _, _]) (by decide +kernel) (Nat.le_of_ble_eq_true rfl) rfl ?_
  refine n_iconst (n := 0) (v := 0) (by decide +kernel) rfl ?_
  refine n_istore (n := 8) (lo2 := [_, _, _, _, _, _, _, _, _, _]) (by decide +kernel) (Nat.le_of_ble_eq_true rfl) rfl ?_
  obtain ⟨M45, h45, hr⟩ := bso hr
  refine n_msk [true, false, false, false, false, false, false, true, true, false] (lo2 := [_, .null, .null, .null, .null, .null, .null, _, _, .null]) rfl rfl ?_
  refine (W_X4_valueFor_b66 G hp0 hs0 h45 _ _) ?_
  dsimp only [Q_X4_valueFor_b66]
  refine n_aload_n (n := 0) (by decide +kernel) rfl ?_
  refine n_getF (q := (a0 + 2)) G fl_RX4_15 hp0 hs0 (fr_4_1 hs0).1 (by decide +kernel) (fun hp46q => ?_)
  refine n_iconst (n := 0) (v := 0) (by decide +kernel) rfl ?_
  obtain ⟨v47, h47, hr⟩ := bso hr
  refine n_iald G h47 hp46q (fr_4_1 hs0).2.1 (fr_4_1 hs0).2.2 (by decide +kernel) ?_
  cases hr
  exact n_ireturn (by decide +kernel)
set_option maxRecDepth 100000 in
theorem B_X9_within (G : GG l s0 b L xs D cy ad)  {x0 : Int32} {x1 : Int32} {x2 : Int32} {M : Mm} {r : Int32}  (hr : f_X9_within x0 x1 x2 M = some r) : Cl l s0 D cy ad P 9 KX9_within [.int x0, .int x1, .int x2] M (.inl (some (.int r))) (M) := by
  refine cl_ofN (by decide +kernel) rfl rfl okI (lo0 := [_, _, _]) rfl ?_
  unfold f_X9_within at hr
  refine n_iload_n (n := 1) (by decide +kernel) rfl ?_
  refine n_iload_n (n := 2) (by decide +kernel) rfl ?_
  refine n_iload_n (n := 0) (by decide +kernel) rfl ?_
  refine n_mmin G ml_RX9_312 (by decide) (Nat.le_of_ble_eq_true rfl) (by decide +kernel) ?_
  refine n_mmax G ml_RX9_317 (by decide) (Nat.le_of_ble_eq_true rfl) (by decide +kernel) ?_
  cases hr
  exact n_ireturn (by decide +kernel)
set_option maxRecDepth 100000 in
theorem B_X8_harmOf (G : GG l s0 b L xs D cy ad)  {a0 : Nat} {a1 : Nat} {x2 : Int32} {x3 : Int32} {M : Mm} {r : (Int32 × Mm)} (hp0 : P a0) (hs0 : SH a0 = 8) (hp1 : P a1) (hs1 : SH a1 = 3) (hr : f_X8_harmOf a0 a1 x2 x3 M = some r) : Cl l s0 D cy ad P 11 KX8_harmOf [.ref a0, .ref a1, .int x2, .int x3] M (.inl (some (.int r.1))) (r.2) := by
  refine cl_ofN (by decide +kernel) rfl rfl okI (lo0 := [_, _, _, _, .null]) rfl ?_
  unfold f_X8_harmOf at hr
  refine n_aload_n (n := 1) (by decide +kernel) rfl ?_
  refine n_getD (t := 4) G fl_RX8_209 hp1 hs1 (dr_3_1 hs1).1 (by decide +kernel) (fun hp1q hs1q => ?_)
  refine n_iload_n (n := 3) (by decide +kernel) rfl ?_
  refine n_aload_n (n := 1) (by decide +kernel) rfl ?_
  refine n_iload_n (n := 2) (by decide +kernel) rfl ?_
  obtain ⟨v2, h2, hr⟩ := bso hr
  refine n_callVi G [_] (x := v2) (B_X3_soilOf G hp1 hs1 h2) (by decide) mX3_soilOf ml_RX8_178 hp1 hs1 rfl rfl (Nat.le_of_ble_eq_true rfl) (by decide +kernel) ?_
  refine n_aload_n (n := 0) (by decide +kernel) rfl ?_
  refine n_getI G fl_RX8_46 hp0 hs0 (by decide +kernel) ?_
  refine n_aload_n (n := 0) (by decide +kernel) rfl ?_
  refine n_iload_n (n := 2) (by decide +kernel) rfl ?_
  obtain ⟨v3, h3, hr⟩ := bso hr
  refine n_callVi G [_] (x := v3) (B_X8_lyingIn G hp0 hs0 h3) (by decide) mX8_lyingIn ml_RX8_196 hp0 hs0 rfl rfl (Nat.le_of_ble_eq_true rfl) (by decide +kernel) ?_
  refine n_iload_n (n := 2) (by decide +kernel) rfl ?_
  refine n_aload_n (n := 0) (by decide +kernel) rfl ?_
  refine n_getI G fl_RX8_39 hp0 hs0 (by decide +kernel) ?_
  obtain ⟨⟨v4, M4⟩, h4, hr⟩ := bso hr
  try dsimp only at hr
  refine n_callVi G [_, _, _, _, _, _] (x := v4) (M1 := M4) (B_X4_valueFor G hp1q hs1q h4) (by decide) mX4_valueFor ml_RX8_199 hp1q hs1q rfl rfl (Nat.le_of_ble_eq_true rfl) (by decide +kernel) ?_
  refine n_istore (n := 4) (lo2 := [_, _, _, _, _]) (by decide +kernel) (Nat.le_of_ble_eq_true rfl) rfl ?_
  refine n_iload (n := 4) (by decide +kernel) rfl ?_
  refine n_iconst (n := 0) (v := 0) (by decide +kernel) rfl ?_
  refine n_sipush (n := 999) (v := 999) (by decide +kernel) (by decide +kernel) ?_
  obtain ⟨v5, h5, hr⟩ := bso hr
  refine n_callSNi G [_, _, _] (x := v5) (B_X9_within G  h5) (by decide) mX9_within ml_RX8_205 rfl rfl (Nat.le_of_ble_eq_true rfl) (by decide +kernel) ?_
  cases hr
  exact n_ireturn (by decide +kernel)
abbrev P_X8_harmOfAll_b5 (l : Launch) (s0 : State) (D : va_G) (cy : Nat → ClassId) (ad : Nat → Nat) (P : Nat → Prop) (a0 : Nat) (a1 : Nat) (x2 : Int32)  (res : Rs) (M' : Mm) (s : (Int32 × Int32 × Mm)) : Prop := Rn l s0 D cy ad P 12 KX8_harmOfAll 5 [.ref a0, .ref a1, .int x2, .int (s.1), .int (s.2.1)] [] (s.2.2) res M'
abbrev Q_X8_harmOfAll_b5 (l : Launch) (s0 : State) (D : va_G) (cy : Nat → ClassId) (ad : Nat → Nat) (P : Nat → Prop) (a0 : Nat) (a1 : Nat) (x2 : Int32)  (res : Rs) (M' : Mm) (e : (Int32 × Mm)) : Prop := Rn l s0 D cy ad P 12 KX8_harmOfAll 59 [.null, .null, .null, .int (e.1), .null] [] (e.2) res M'
end NB
