/-! printed rows: a method is its function -/
section NB
variable {l : Launch} {s0 : State} {b L : Nat} {xs : Nat → Int32} {D : va_G} {cy : Nat → ClassId} {ad : Nat → Nat} {P : Nat → Prop}
set_option maxRecDepth 100000 in
theorem W_X2_spendYear_b15 (G : GG l s0 b L xs D cy ad) {a1 : Nat} {x4 : Int32}  (hp0 : P 18) (hp1 : P a1) (hs1 : SH a1 = 3) {s : (Int32 × Int32 × Mm)} {e : (Int32 × Mm)} (h : whl fu (f_X2_spendYear_b15 a1 x4) s = some e) (res : Rs) (M' : Mm) : Q_X2_spendYear_b15 l s0 D cy ad P a1 x4 res M' e → P_X2_spendYear_b15 l s0 D cy ad P a1 x4 res M' s := whl_run (P := fun s => P_X2_spendYear_b15 l s0 D cy ad P a1 x4 res M' s) (Q := fun e => Q_X2_spendYear_b15 l s0 D cy ad P a1 x4 res M' e) (B_X2_spendYear_b15 G (res := res) (M' := M') (a1 := a1) (x4 := x4) hp0 hp1 hs1) fu s h
set_option maxRecDepth 100000 in
theorem B_X2_spendYear_b6 (G : GG l s0 b L xs D cy ad) {a1 : Nat}  {res : Rs} {M' : Mm} (hp0 : P 18) (hp1 : P a1) (hs1 : SH a1 = 3) : ∀ (s : (Int32 × Int32 × Mm)) (r : (Int32 × Int32 × Mm) ⊕ Mm), f_X2_spendYear_b6 a1 s = some r → mtc (P_X2_spendYear_b6 l s0 D cy ad P a1 res M') (Q_X2_spendYear_b6 l s0 D cy ad P a1 res M') r → P_X2_spendYear_b6 l s0 D cy ad P a1 res M' s := by
  intro s r hr hk
  obtain ⟨x3, x4, M⟩ := s
  unfold f_X2_spendYear_b6 at hr
  try dsimp only at hr
  dsimp only [P_X2_spendYear_b6]
  refine n_iload (n := 4) (by decide +kernel) rfl ?_
  refine n_iconst (n := 1) (v := 1) (by decide +kernel) rfl ?_
  refine n_icmp_lt (off := 67) (tgt := 76) (by decide +kernel) (by decide) (fun hc1 => ?_) (fun hc1 => ?_)
  · rw [if_pos hc1] at hr
    cases hr
    refine n_msk [false, false, false, false, false, false] (lo2 := [.null, .null, .null, .null, .null, .null]) rfl rfl ?_
    exact hk
  · rw [if_neg hc1] at hr
    refine n_iconst (n := 0) (v := 0) (by decide +kernel) rfl ?_
    refine n_istore (n := 5) (lo2 := [_, _, _, _, _, _]) (by decide +kernel) (Nat.le_of_ble_eq_true rfl) rfl ?_
    obtain ⟨e11, h11, hr⟩ := bso hr
    refine (W_X2_spendYear_b15 G hp0 hp1 hs1 h11 _ _) ?_
    obtain ⟨z3_11, M11⟩ := e11
    try dsimp only at hr
    dsimp only [Q_X2_spendYear_b15]
    refine n_iincK (n := 4) (j := -1) (w := -1) (lo2 := [_, _, _, _, _, _]) (by decide +kernel) rfl rfl rfl ?_
    refine n_goto (off := -67) (tgt := 6) (by decide +kernel) (by decide) ?_
    cases hr
    exact hk
set_option maxRecDepth 100000 in
theorem W_X2_spendYear_b6 (G : GG l s0 b L xs D cy ad) {a1 : Nat}  (hp0 : P 18) (hp1 : P a1) (hs1 : SH a1 = 3) {s : (Int32 × Int32 × Mm)} {e : Mm} (h : whl fu (f_X2_spendYear_b6 a1) s = some e) (res : Rs) (M' : Mm) : Q_X2_spendYear_b6 l s0 D cy ad P a1 res M' e → P_X2_spendYear_b6 l s0 D cy ad P a1 res M' s := whl_run (P := fun s => P_X2_spendYear_b6 l s0 D cy ad P a1 res M' s) (Q := fun e => Q_X2_spendYear_b6 l s0 D cy ad P a1 res M' e) (B_X2_spendYear_b6 G (res := res) (M' := M') (a1 := a1) hp0 hp1 hs1) fu s h
set_option maxRecDepth 100000 in
theorem B_X2_spendYear (G : GG l s0 b L xs D cy ad)  {a1 : Nat} {x2 : Int32} {M : Mm} {r : Mm} (hp0 : P 18) (hp1 : P a1) (hs1 : SH a1 = 3) (hr : f_X2_spendYear a1 x2 M = some r) : Cl l s0 D cy ad P 13 KX2_spendYear [.ref 18, .ref a1, .int x2] M (.inl none) (r) := by
  refine cl_ofN (by decide +kernel) rfl rfl rfl (lo0 := [_, _, _, .null, .null, .null]) rfl ?_
  unfold f_X2_spendYear at hr
  refine n_iload_n (n := 2) (by decide +kernel) rfl ?_
  refine n_istore_n (n := 3) (lo2 := [_, _, _, _, _, _]) (by decide +kernel) (Nat.le_of_ble_eq_true rfl) rfl ?_
  refine n_bipush (n := 9) (v := 9) (by decide +kernel) rfl ?_
  refine n_istore (n := 4) (lo2 := [_, _, _, _, _, _]) (by decide +kernel) (Nat.le_of_ble_eq_true rfl) rfl ?_
  obtain ⟨M12, h12, hr⟩ := bso hr
  refine n_msk [true, true, false, true, true, false] (lo2 := [_, _, .null, _, _, .null]) rfl rfl ?_
  refine (W_X2_spendYear_b6 G hp0 hp1 hs1 h12 _ _) ?_
  dsimp only [Q_X2_spendYear_b6]
  cases hr
  exact n_return (by decide +kernel)
abbrev P_X8_howManyAsked_b4 (l : Launch) (s0 : State) (D : va_G) (cy : Nat → ClassId) (ad : Nat → Nat) (P : Nat → Prop) (a0 : Nat) (M : Mm) (res : Rs) (M' : Mm) (s : (Int32 × Int32)) : Prop := Rn l s0 D cy ad P 12 KX8_howManyAsked 4 [.ref a0, .int (s.1), .int (s.2)] [] M res M'
abbrev Q_X8_howManyAsked_b4 (l : Launch) (s0 : State) (D : va_G) (cy : Nat → ClassId) (ad : Nat → Nat) (P : Nat → Prop) (a0 : Nat) (M : Mm) (res : Rs) (M' : Mm) (e : Int32) : Prop := Rn l s0 D cy ad P 12 KX8_howManyAsked 34 [.null, .int (e), .null] [] M res M'
set_option maxRecDepth 100000 in
theorem B_X8_howManyAsked_b4 (G : GG l s0 b L xs D cy ad) {a0 : Nat} {M : Mm} {res : Rs} {M' : Mm} (hp0 : P a0) (hs0 : SH a0 = 8) : ∀ (s : (Int32 × Int32)) (r : (Int32 × Int32) ⊕ Int32), f_X8_howManyAsked_b4 a0 M s = some r → mtc (P_X8_howManyAsked_b4 l s0 D cy ad P a0 M res M') (Q_X8_howManyAsked_b4 l s0 D cy ad P a0 M res M') r → P_X8_howManyAsked_b4 l s0 D cy ad P a0 M res M' s := by
  intro s r hr hk
  obtain ⟨x1, x2⟩ := s
  unfold f_X8_howManyAsked_b4 at hr
  try dsimp only at hr
  dsimp only [P_X8_howManyAsked_b4]
  refine n_iload_n (n := 2) (by decide +kernel) rfl ?_
  refine n_aload_n (n := 0) (by decide +kernel) rfl ?_
  refine n_getI G fl_RX8_43 hp0 hs0 (by decide +kernel) ?_
  refine n_icmp_ge (off := 25) (tgt := 34) (by decide +kernel) (by decide) (fun hc1 => ?_) (fun hc1 => ?_)
  · rw [if_pos hc1] at hr
    cases hr
    refine n_msk [false, true, false] (lo2 := [.null, _, .null]) rfl rfl ?_
    exact hk
  · rw [if_neg hc1] at hr
    refine n_iload_n (n := 1) (by decide +kernel) rfl ?_
    refine n_aload_n (n := 0) (by decide +kernel) rfl ?_
    refine n_iload_n (n := 2) (by decide +kernel) rfl ?_
    obtain ⟨v2, h2, hr⟩ := bso hr
    refine n_callVi G [_] (x := v2) (B_X8_isAsked G hp0 hs0 h2) (by decide) mX8_isAsked ml_RX8_90 hp0 hs0 rfl rfl (Nat.le_of_ble_eq_true rfl) (by decide +kernel) ?_
    refine n_dia1 (J := 26) (c := v2 = 0) (a := (0 : Int32)) (b := (1 : Int32)) (fun hJ => ?_) ?_
    · refine n_if_eq (off := 7) (tgt := 25) (by decide +kernel) (by decide) (fun hc3 => ?_) (fun hc3 => ?_)
      · refine n_iconst (n := 0) (v := 0) (by decide +kernel) rfl ?_
        exact hJ _ (if_pos hc3).symm
      · refine n_iconst (n := 1) (v := 1) (by decide +kernel) rfl ?_
        refine n_goto (off := 4) (tgt := 26) (by decide +kernel) (by decide) ?_
        exact hJ _ (if_neg hc3).symm
    refine n_iadd (by decide +kernel) ?_
    refine n_istore_n (n := 1) (lo2 := [_, _, _]) (by decide +kernel) (Nat.le_of_ble_eq_true rfl) rfl ?_
    refine n_iincK (n := 2) (j := 1) (w := 1) (lo2 := [_, _, _]) (by decide +kernel) rfl rfl rfl ?_
    refine n_goto (off := -27) (tgt := 4) (by decide +kernel) (by decide) ?_
    cases hr
    exact hk
set_option maxRecDepth 100000 in
theorem W_X8_howManyAsked_b4 (G : GG l s0 b L xs D cy ad) {a0 : Nat} {M : Mm} (hp0 : P a0) (hs0 : SH a0 = 8) {s : (Int32 × Int32)} {e : Int32} (h : whl fu (f_X8_howManyAsked_b4 a0 M) s = some e) (res : Rs) (M' : Mm) : Q_X8_howManyAsked_b4 l s0 D cy ad P a0 M res M' e → P_X8_howManyAsked_b4 l s0 D cy ad P a0 M res M' s := whl_run (P := fun s => P_X8_howManyAsked_b4 l s0 D cy ad P a0 M res M' s) (Q := fun e => Q_X8_howManyAsked_b4 l s0 D cy ad P a0 M res M' e) (B_X8_howManyAsked_b4 G (res := res) (M' := M') (a0 := a0) (M := M) hp0 hs0) fu s h
set_option maxRecDepth 100000 in
theorem B_X8_howManyAsked (G : GG l s0 b L xs D cy ad)  {a0 : Nat} {M : Mm} {r : Int32} (hp0 : P a0) (hs0 : SH a0 = 8) (hr : f_X8_howManyAsked a0 M = some r) : Cl l s0 D cy ad P 12 KX8_howManyAsked [.ref a0] M (.inl (some (.int r))) (M) := by
  refine cl_ofN (by decide +kernel) rfl rfl okI (lo0 := [_, .null, .null]) rfl ?_
  unfold f_X8_howManyAsked at hr
  refine n_iconst (n := 0) (v := 0) (by decide +kernel) rfl ?_
  refine n_istore_n (n := 1) (lo2 := [_, _, _]) (by decide +kernel) (Nat.le_of_ble_eq_true rfl) rfl ?_
  refine n_iconst (n := 0) (v := 0) (by decide +kernel) rfl ?_
  refine n_istore_n (n := 2) (lo2 := [_, _, _]) (by decide +kernel) (Nat.le_of_ble_eq_true rfl) rfl ?_
  obtain ⟨z1_4, h4, hr⟩ := bso hr
  refine (W_X8_howManyAsked_b4 G hp0 hs0 h4 _ _) ?_
  dsimp only [Q_X8_howManyAsked_b4]
  refine n_iload_n (n := 1) (by decide +kernel) rfl ?_
  cases hr
  exact n_ireturn (by decide +kernel)
set_option maxRecDepth 100000 in
theorem B_X8_risingIn (G : GG l s0 b L xs D cy ad)  {a0 : Nat} {a1 : Nat} {x2 : Int32} {x3 : Int32} {x4 : Int32} {M : Mm} {r : (Int32 × Mm)} (hp0 : P a0) (hs0 : SH a0 = 8) (hp1 : P a1) (hs1 : SH a1 = 3) (hr : f_X8_risingIn a0 a1 x2 x3 x4 M = some r) : Cl l s0 D cy ad P 11 KX8_risingIn [.ref a0, .ref a1, .int x2, .int x3, .int x4] M (.inl (some (.int r.1))) (r.2) := by
  refine cl_ofN (by decide +kernel) rfl rfl okI (lo0 := [_, _, _, _, _, .null]) rfl ?_
  unfold f_X8_risingIn at hr
  refine n_aload_n (n := 0) (by decide +kernel) rfl ?_
  refine n_iload_n (n := 2) (by decide +kernel) rfl ?_
  obtain ⟨v1, h1, hr⟩ := bso hr
  refine n_callVi G [_] (x := v1) (B_X8_isLost G hp0 hs0 h1) (by decide) mX8_isLost ml_RX8_87 hp0 hs0 rfl rfl (Nat.le_of_ble_eq_true rfl) (by decide +kernel) ?_
  refine n_if_eq (off := 5) (tgt := 10) (by decide +kernel) (by decide) (fun hc2 => ?_) (fun hc2 => ?_)
  · rw [if_pos hc2] at hr
    refine n_aload_n (n := 1) (by decide +kernel) rfl ?_
    refine n_getD (t := 4) G fl_RX8_192 hp1 hs1 (dr_3_2 hs1).1 (by decide +kernel) (fun hp3q hs3q => ?_)
    refine n_iconst (n := 0) (v := 0) (by decide +kernel) rfl ?_
    refine n_aload_n (n := 1) (by decide +kernel) rfl ?_
    refine n_iload_n (n := 2) (by decide +kernel) rfl ?_
    obtain ⟨v4, h4, hr⟩ := bso hr
    refine n_callVi G [_] (x := v4) (B_X3_soilOf G hp1 hs1 h4) (by decide) mX3_soilOf ml_RX8_178 hp1 hs1 rfl rfl (Nat.le_of_ble_eq_true rfl) (by decide +kernel) ?_
    refine n_iload_n (n := 3) (by decide +kernel) rfl ?_
    refine n_aload_n (n := 0) (by decide +kernel) rfl ?_
    refine n_iload_n (n := 2) (by decide +kernel) rfl ?_
    obtain ⟨v5, h5, hr⟩ := bso hr
    refine n_callVi G [_] (x := v5) (B_X8_lyingIn G hp0 hs0 h5) (by decide) mX8_lyingIn ml_RX8_196 hp0 hs0 rfl rfl (Nat.le_of_ble_eq_true rfl) (by decide +kernel) ?_
    refine n_iload_n (n := 2) (by decide +kernel) rfl ?_
    refine n_iload (n := 4) (by decide +kernel) rfl ?_
    obtain ⟨⟨v6, M6⟩, h6, hr⟩ := bso hr
    try dsimp only at hr
    refine n_callVi G [_, _, _, _, _, _] (x := v6) (M1 := M6) (B_X4_valueFor G hp3q hs3q h6) (by decide) mX4_valueFor ml_RX8_199 hp3q hs3q rfl rfl (Nat.le_of_ble_eq_true rfl) (by decide +kernel) ?_
    refine n_istore (n := 5) (lo2 := [_, _, _, _, _, _]) (by decide +kernel) (Nat.le_of_ble_eq_true rfl) rfl ?_
    refine n_iload (n := 5) (by decide +kernel) rfl ?_
    refine n_iconst (n := 0) (v := 0) (by decide +kernel) rfl ?_
    refine n_iconst (n := 2) (v := 2) (by decide +kernel) rfl ?_
    obtain ⟨v7, h7, hr⟩ := bso hr
    refine n_callSNi G [_, _, _] (x := v7) (B_X9_within G  h7) (by decide) mX9_within ml_RX8_205 rfl rfl (Nat.le_of_ble_eq_true rfl) (by decide +kernel) ?_
    cases hr
    exact n_ireturn (by decide +kernel)
  · rw [if_neg hc2] at hr
    refine n_iconst (n := 0) (v := 0) (by decide +kernel) rfl ?_
    cases hr
    exact n_ireturn (by decide +kernel)
set_option maxRecDepth 100000 in
theorem B_X8_addStone (G : GG l s0 b L xs D cy ad)  {a0 : Nat} {x1 : Int32} {x2 : Int32} {M : Mm} {r : Mm} (hp0 : P a0) (hs0 : SH a0 = 8) (hr : f_X8_addStone a0 x1 x2 M = some r) : Cl l s0 D cy ad P 10 KX8_addStone [.ref a0, .int x1, .int x2] M (.inl none) (r) := by
  refine cl_ofN (by decide +kernel) rfl rfl rfl (lo0 := [_, _, _]) rfl ?_
  unfold f_X8_addStone at hr
  refine n_aload_n (n := 0) (by decide +kernel) rfl ?_
  refine n_getI G fl_RX8_43 hp0 hs0 (by decide +kernel) ?_
  refine n_bipush (n := 60) (v := 60) (by decide +kernel) rfl ?_
  refine n_icmp_ge (off := 10) (tgt := 16) (by decide +kernel) (by decide) (fun hc1 => ?_) (fun hc1 => ?_)
  · rw [if_pos hc1] at hr
    cases hr
    exact n_return (by decide +kernel)
  · rw [if_neg hc1] at hr
    refine n_iload_n (n := 1) (by decide +kernel) rfl ?_
    obtain ⟨v2, h2, hr⟩ := bso hr
    refine n_callSNi G [_] (x := v2) (B_X9_isCell G  h2) (by decide) mX9_isCell ml_RX8_77 rfl rfl (Nat.le_of_ble_eq_true rfl) (by decide +kernel) ?_
    refine n_if_ne (off := 4) (tgt := 17) (by decide +kernel) (by decide) (fun hc3 => ?_) (fun hc3 => ?_)
    · rw [if_neg hc3] at hr
      refine n_aload_n (n := 0) (by decide +kernel) rfl ?_
      refine n_getF (q := (a0 + 1)) G fl_RX8_9 hp0 hs0 (fr_8_0 hs0).1 (by decide +kernel) (fun hp4q => ?_)
      refine n_aload_n (n := 0) (by decide +kernel) rfl ?_
      refine n_getI G fl_RX8_43 hp0 hs0 (by decide +kernel) ?_
      refine n_iload_n (n := 1) (by decide +kernel) rfl ?_
      obtain ⟨M5, h5, hr⟩ := bso hr
      refine n_iast G h5 hp4q (fr_8_0 hs0).2.1 (fr_8_0 hs0).2.2 (by decide +kernel) ?_
      refine n_aload_n (n := 0) (by decide +kernel) rfl ?_
      refine n_getF (q := (a0 + 2)) G fl_RX8_15 hp0 hs0 (fr_8_1 hs0).1 (by decide +kernel) (fun hp6q => ?_)
      refine n_aload_n (n := 0) (by decide +kernel) rfl ?_
      refine n_getI G fl_RX8_43 hp0 hs0 (by decide +kernel) ?_
      refine n_iload_n (n := 2) (by decide +kernel) rfl ?_
      obtain ⟨M7, h7, hr⟩ := bso hr
      refine n_iast G h7 hp6q (fr_8_1 hs0).2.1 (fr_8_1 hs0).2.2 (by decide +kernel) ?_
      refine n_aload_n (n := 0) (by decide +kernel) rfl ?_
      refine n_getF (q := (a0 + 3)) G fl_RX8_18 hp0 hs0 (fr_8_2 hs0).1 (by decide +kernel) (fun hp8q => ?_)
      refine n_aload_n (n := 0) (by decide +kernel) rfl ?_
      refine n_getI G fl_RX8_43 hp0 hs0 (by decide +kernel) ?_
      refine n_aload_n (n := 0) (by decide +kernel) rfl ?_
      refine n_getI G fl_RX8_46 hp0 hs0 (by decide +kernel) ?_
      obtain ⟨M9, h9, hr⟩ := bso hr
      refine n_iast G h9 hp8q (fr_8_2 hs0).2.1 (fr_8_2 hs0).2.2 (by decide +kernel) ?_
      refine n_aload_n (n := 0) (by decide +kernel) rfl ?_
      refine n_getF (q := (a0 + 4)) G fl_RX8_21 hp0 hs0 (fr_8_3 hs0).1 (by decide +kernel) (fun hp10q => ?_)
      refine n_aload_n (n := 0) (by decide +kernel) rfl ?_
      refine n_getI G fl_RX8_43 hp0 hs0 (by decide +kernel) ?_
      refine n_iconst (n := 0) (v := 0) (by decide +kernel) rfl ?_
      obtain ⟨M11, h11, hr⟩ := bso hr
      refine n_iast G h11 hp10q (fr_8_3 hs0).2.1 (fr_8_3 hs0).2.2 (by decide +kernel) ?_
      refine n_aload_n (n := 0) (by decide +kernel) rfl ?_
      refine n_dup rfl (by decide +kernel) ?_
      refine n_getI G fl_RX8_43 hp0 hs0 (by decide +kernel) ?_
      refine n_iconst (n := 1) (v := 1) (by decide +kernel) rfl ?_
      refine n_iadd (by decide +kernel) ?_
      refine n_putI G fl_RX8_43 hp0 hs0 (by decide +kernel) ?_
      refine n_aload_n (n := 0) (by decide +kernel) rfl ?_
      refine n_getF (q := (a0 + 7)) G fl_RX8_30 hp0 hs0 (fr_8_6 hs0).1 (by decide +kernel) (fun hp12q => ?_)
      refine n_iload_n (n := 1) (by decide +kernel) rfl ?_
      refine n_dup2 rfl rfl (by decide +kernel) ?_
      obtain ⟨v13, h13, hr⟩ := bso hr
      refine n_iald G h13 hp12q (fr_8_6 hs0).2.1 (fr_8_6 hs0).2.2 (by decide +kernel) ?_
      refine n_iconst (n := 1) (v := 1) (by decide +kernel) rfl ?_
      refine n_iadd (by decide +kernel) ?_
      obtain ⟨M14, h14, hr⟩ := bso hr
      refine n_iast G h14 hp12q (fr_8_6 hs0).2.1 (fr_8_6 hs0).2.2 (by decide +kernel) ?_
      refine n_aload_n (n := 0) (by decide +kernel) rfl ?_
      refine n_dup rfl (by decide +kernel) ?_
      refine n_getI G fl_RX8_39 hp0 hs0 (by decide +kernel) ?_
      refine n_iconst (n := 1) (v := 1) (by decide +kernel) rfl ?_
      refine n_iadd (by decide +kernel) ?_
      refine n_putI G fl_RX8_39 hp0 hs0 (by decide +kernel) ?_
      cases hr
      exact n_return (by decide +kernel)
    · rw [if_pos hc3] at hr
      cases hr
      exact n_return (by decide +kernel)
abbrev P_X8_raiseStones_b17 (l : Launch) (s0 : State) (D : va_G) (cy : Nat → ClassId) (ad : Nat → Nat) (P : Nat → Prop) (a0 : Nat) (a1 : Nat) (x2 : Int32)  (res : Rs) (M' : Mm) (s : (Int32 × Mm)) : Prop := Rn l s0 D cy ad P 12 KX8_raiseStones 17 [.ref a0, .ref a1, .int x2, .int (s.1), .null, .null] [] (s.2) res M'
abbrev Q_X8_raiseStones_b17 (l : Launch) (s0 : State) (D : va_G) (cy : Nat → ClassId) (ad : Nat → Nat) (P : Nat → Prop) (a0 : Nat) (a1 : Nat) (x2 : Int32)  (res : Rs) (M' : Mm) (e : Mm) : Prop := Rn l s0 D cy ad P 12 KX8_raiseStones 109 [.null, .null, .null, .null, .null, .null] [] (e) res M'
abbrev P_X8_raiseStones_b56 (l : Launch) (s0 : State) (D : va_G) (cy : Nat → ClassId) (ad : Nat → Nat) (P : Nat → Prop) (a0 : Nat) (a1 : Nat) (x2 : Int32) (x3 : Int32) (x4 : Int32)  (res : Rs) (M' : Mm) (s : (Int32 × Mm)) : Prop := Rn l s0 D cy ad P 12 KX8_raiseStones 56 [.ref a0, .ref a1, .int x2, .int x3, .int x4, .int (s.1)] [] (s.2) res M'
abbrev Q_X8_raiseStones_b56 (l : Launch) (s0 : State) (D : va_G) (cy : Nat → ClassId) (ad : Nat → Nat) (P : Nat → Prop) (a0 : Nat) (a1 : Nat) (x2 : Int32) (x3 : Int32) (x4 : Int32)  (res : Rs) (M' : Mm) (e : Mm) : Prop := Rn l s0 D cy ad P 12 KX8_raiseStones 103 [.ref a0, .ref a1, .int x2, .int x3, .null, .null] [] (e) res M'
set_option maxRecDepth 100000 in
theorem B_X8_raiseStones_b56 (G : GG l s0 b L xs D cy ad) {a0 : Nat} {a1 : Nat} {x2 : Int32} {x3 : Int32} {x4 : Int32}  {res : Rs} {M' : Mm} (hp0 : P a0) (hs0 : SH a0 = 8) (hp1 : P a1) (hs1 : SH a1 = 3) : ∀ (s : (Int32 × Mm)) (r : (Int32 × Mm) ⊕ Mm), f_X8_raiseStones_b56 a0 a1 x2 x3 x4 s = some r → mtc (P_X8_raiseStones_b56 l s0 D cy ad P a0 a1 x2 x3 x4 res M') (Q_X8_raiseStones_b56 l s0 D cy ad P a0 a1 x2 x3 x4 res M') r → P_X8_raiseStones_b56 l s0 D cy ad P a0 a1 x2 x3 x4 res M' s := by
  intro s r hr hk
  obtain ⟨x5, M⟩ := s
  unfold f_X8_raiseStones_b56 at hr
  try dsimp only at hr
  dsimp only [P_X8_raiseStones_b56]
  refine n_iload (n := 5) (by decide +kernel) rfl ?_
  refine n_iload (n := 4) (by decide +kernel) rfl ?_
  refine n_icmp_ge (off := 43) (tgt := 103) (by decide +kernel) (by decide) (fun hc6 => ?_) (fun hc6 => ?_)
  · rw [if_pos hc6] at hr
    cases hr
    refine n_msk [true, true, true, true, false, false] (lo2 := [_, _, _, _, .null, .null]) rfl rfl ?_
    exact hk
  · rw [if_neg hc6] at hr
    refine n_aload_n (n := 0) (by decide +kernel) rfl ?_
    refine n_iload_n (n := 3) (by decide +kernel) rfl ?_
    refine n_iconst (n := 1) (v := 1) (by decide +kernel) rfl ?_
    refine n_iconst (n := 3) (v := 3) (by decide +kernel) rfl ?_
    refine n_iload_n (n := 3) (by decide +kernel) rfl ?_
    obtain ⟨v7, h7, hr⟩ := bso hr
    refine n_callSNi G [_] (x := v7) (B_X9_column G  h7) (by decide) mX9_column ml_RX8_159 rfl rfl (Nat.le_of_ble_eq_true rfl) (by decide +kernel) ?_
    refine n_imul (by decide +kernel) ?_
    refine n_iconst (n := 5) (v := 5) (by decide +kernel) rfl ?_
    refine n_iload_n (n := 3) (by decide +kernel) rfl ?_
    obtain ⟨v8, h8, hr⟩ := bso hr
    refine n_callSNi G [_] (x := v8) (B_X9_row G  h8) (by decide) mX9_row ml_RX8_165 rfl rfl (Nat.le_of_ble_eq_true rfl) (by decide +kernel) ?_
    refine n_imul (by decide +kernel) ?_
    refine n_iadd (by decide +kernel) ?_
    refine n_bipush (n := 7) (v := 7) (by decide +kernel) rfl ?_
    refine n_aload_n (n := 0) (by decide +kernel) rfl ?_
    refine n_getI G fl_RX8_46 hp0 hs0 (by decide +kernel) ?_
    refine n_imul (by decide +kernel) ?_
    refine n_iadd (by decide +kernel) ?_
    refine n_iload (n := 5) (by decide +kernel) rfl ?_
    refine n_iadd (by decide +kernel) ?_
    refine n_bipush (n := 9) (v := 9) (by decide +kernel) rfl ?_
    refine n_irem (by decide) (by decide +kernel) ?_
    refine n_iadd (by decide +kernel) ?_
    obtain ⟨M9, h9, hr⟩ := bso hr
    refine n_callVv G [_, _] (M1 := M9) (B_X8_addStone G hp0 hs0 h9) (by decide) mX8_addStone ml_RX8_189 hp0 hs0 rfl rfl (Nat.le_of_ble_eq_true rfl) (by decide +kernel) ?_
    refine n_iincK (n := 5) (j := 1) (w := 1) (lo2 := [_, _, _, _, _, _]) (by decide +kernel) rfl rfl rfl ?_
    refine n_goto (off := -44) (tgt := 56) (by decide +kernel) (by decide) ?_
    cases hr
    exact hk
set_option maxRecDepth 100000 in
theorem W_X8_raiseStones_b56 (G : GG l s0 b L xs D cy ad) {a0 : Nat} {a1 : Nat} {x2 : Int32} {x3 : Int32} {x4 : Int32}  (hp0 : P a0) (hs0 : SH a0 = 8) (hp1 : P a1) (hs1 : SH a1 = 3) {s : (Int32 × Mm)} {e : Mm} (h : whl fu (f_X8_raiseStones_b56 a0 a1 x2 x3 x4) s = some e) (res : Rs) (M' : Mm) : Q_X8_raiseStones_b56 l s0 D cy ad P a0 a1 x2 x3 x4 res M' e → P_X8_raiseStones_b56 l s0 D cy ad P a0 a1 x2 x3 x4 res M' s := whl_run (P := fun s => P_X8_raiseStones_b56 l s0 D cy ad P a0 a1 x2 x3 x4 res M' s) (Q := fun e => Q_X8_raiseStones_b56 l s0 D cy ad P a0 a1 x2 x3 x4 res M' e) (B_X8_raiseStones_b56 G (res := res) (M' := M') (a0 := a0) (a1 := a1) (x2 := x2) (x3 := x3) (x4 := x4) hp0 hs0 hp1 hs1) fu s h
set_option maxRecDepth 100000 in
theorem B_X8_raiseStones_b17 (G : GG l s0 b L xs D cy ad) {a0 : Nat} {a1 : Nat} {x2 : Int32}  {res : Rs} {M' : Mm} (hp0 : P a0) (hs0 : SH a0 = 8) (hp1 : P a1) (hs1 : SH a1 = 3) : ∀ (s : (Int32 × Mm)) (r : (Int32 × Mm) ⊕ Mm), f_X8_raiseStones_b17 a0 a1 x2 s = some r → mtc (P_X8_raiseStones_b17 l s0 D cy ad P a0 a1 x2 res M') (Q_X8_raiseStones_b17 l s0 D cy ad P a0 a1 x2 res M') r → P_X8_raiseStones_b17 l s0 D cy ad P a0 a1 x2 res M' s := by
  intro s r hr hk
  obtain ⟨x3, M⟩ := s
  unfold f_X8_raiseStones_b17 at hr
  try dsimp only at hr
  dsimp only [P_X8_raiseStones_b17]
  refine n_iload_n (n := 3) (by decide +kernel) rfl ?_
  refine n_bipush (n := 48) (v := 48) (by decide +kernel) rfl ?_
  refine n_icmp_ge (off := 89) (tgt := 109) (by decide +kernel) (by decide) (fun hc1 => ?_) (fun hc1 => ?_)
  · rw [if_pos hc1] at hr
    cases hr
    refine n_msk [false, false, false, false, false, false] (lo2 := [.null, .null, .null, .null, .null, .null]) rfl rfl ?_
    exact hk
  · rw [if_neg hc1] at hr
    refine n_aload_n (n := 0) (by decide +kernel) rfl ?_
    refine n_getI G fl_RX8_43 hp0 hs0 (by decide +kernel) ?_
    refine n_bipush (n := 60) (v := 60) (by decide +kernel) rfl ?_
    refine n_icmp_ge (off := 80) (tgt := 109) (by decide +kernel) (by decide) (fun hc2 => ?_) (fun hc2 => ?_)
    · rw [if_pos hc2] at hr
      cases hr
      refine n_msk [false, false, false, false, false, false] (lo2 := [.null, .null, .null, .null, .null, .null]) rfl rfl ?_
      exact hk
    · rw [if_neg hc2] at hr
      refine n_aload_n (n := 1) (by decide +kernel) rfl ?_
      refine n_iload_n (n := 3) (by decide +kernel) rfl ?_
      obtain ⟨v3, h3, hr⟩ := bso hr
      refine n_callVi G [_] (x := v3) (B_X3_hasCell G hp1 hs1 h3) (by decide) mX3_hasCell ml_RX8_175 hp1 hs1 rfl rfl (Nat.le_of_ble_eq_true rfl) (by decide +kernel) ?_
      refine n_if_eq (off := 66) (tgt := 103) (by decide +kernel) (by decide) (fun hc4 => ?_) (fun hc4 => ?_)
      · rw [if_pos hc4] at hr
        refine n_iincK (n := 3) (j := 1) (w := 1) (lo2 := [_, _, _, _, _, _]) (by decide +kernel) rfl rfl rfl ?_
        refine n_goto (off := -89) (tgt := 17) (by decide +kernel) (by decide) ?_
        cases hr
        exact hk
      · rw [if_neg hc4] at hr
        refine n_aload_n (n := 0) (by decide +kernel) rfl ?_
        refine n_aload_n (n := 1) (by decide +kernel) rfl ?_
        refine n_iload_n (n := 3) (by decide +kernel) rfl ?_
        refine n_aload_n (n := 0) (by decide +kernel) rfl ?_
        refine n_getI G fl_RX8_46 hp0 hs0 (by decide +kernel) ?_
        refine n_iload_n (n := 2) (by decide +kernel) rfl ?_
        obtain ⟨⟨v5, M5⟩, h5, hr⟩ := bso hr
        try dsimp only at hr
        refine n_callVi G [_, _, _, _] (x := v5) (M1 := M5) (B_X8_risingIn G hp0 hs0 hp1 hs1 h5) (by decide) mX8_risingIn ml_RX8_185 hp0 hs0 rfl rfl (Nat.le_of_ble_eq_true rfl) (by decide +kernel) ?_
        refine n_istore (n := 4) (lo2 := [_, _, _, _, _, _]) (by decide +kernel) (Nat.le_of_ble_eq_true rfl) rfl ?_
        refine n_iconst (n := 0) (v := 0) (by decide +kernel) rfl ?_
        refine n_istore (n := 5) (lo2 := [_, _, _, _, _, _]) (by decide +kernel) (Nat.le_of_ble_eq_true rfl) rfl ?_
        obtain ⟨M10, h10, hr⟩ := bso hr
        refine (W_X8_raiseStones_b56 G hp0 hs0 hp1 hs1 h10 _ _) ?_
        dsimp only [Q_X8_raiseStones_b56]
        refine n_iincK (n := 3) (j := 1) (w := 1) (lo2 := [_, _, _, _, _, _]) (by decide +kernel) rfl rfl rfl ?_
        refine n_goto (off := -89) (tgt := 17) (by decide +kernel) (by decide) ?_
        cases hr
        exact hk
set_option maxRecDepth 100000 in
theorem W_X8_raiseStones_b17 (G : GG l s0 b L xs D cy ad) {a0 : Nat} {a1 : Nat} {x2 : Int32}  (hp0 : P a0) (hs0 : SH a0 = 8) (hp1 : P a1) (hs1 : SH a1 = 3) {s : (Int32 × Mm)} {e : Mm} (h : whl fu (f_X8_raiseStones_b17 a0 a1 x2) s = some e) (res : Rs) (M' : Mm) : Q_X8_raiseStones_b17 l s0 D cy ad P a0 a1 x2 res M' e → P_X8_raiseStones_b17 l s0 D cy ad P a0 a1 x2 res M' s := whl_run (P := fun s => P_X8_raiseStones_b17 l s0 D cy ad P a0 a1 x2 res M' s) (Q := fun e => Q_X8_raiseStones_b17 l s0 D cy ad P a0 a1 x2 res M' e) (B_X8_raiseStones_b17 G (res := res) (M' := M') (a0 := a0) (a1 := a1) (x2 := x2) hp0 hs0 hp1 hs1) fu s h
set_option maxRecDepth 100000 in
theorem B_X8_raiseStones (G : GG l s0 b L xs D cy ad)  {a0 : Nat} {a1 : Nat} {M : Mm} {r : Mm} (hp0 : P a0) (hs0 : SH a0 = 8) (hp1 : P a1) (hs1 : SH a1 = 3) (hr : f_X8_raiseStones a0 a1 M = some r) : Cl l s0 D cy ad P 12 KX8_raiseStones [.ref a0, .ref a1] M (.inl none) (r) := by
  refine cl_ofN (by decide +kernel) rfl rfl rfl (lo0 := [_, _, .null, .null, .null, .null]) rfl ?_
  unfold f_X8_raiseStones at hr
  refine n_aload_n (n := 0) (by decide +kernel) rfl ?_
  refine n_dup rfl (by decide +kernel) ?_
  refine n_getI G fl_RX8_46 hp0 hs0 (by decide +kernel) ?_
  refine n_iconst (n := 1) (v := 1) (by decide +kernel) rfl ?_
  refine n_iadd (by decide +kernel) ?_
  refine n_putI G fl_RX8_46 hp0 hs0 (by decide +kernel) ?_
  refine n_aload_n (n := 0) (by decide +kernel) rfl ?_
  refine n_getI G fl_RX8_39 hp0 hs0 (by decide +kernel) ?_
  refine n_istore_n (n := 2) (lo2 := [_, _, _, _, _, _]) (by decide +kernel) (Nat.le_of_ble_eq_true rfl) rfl ?_
  refine n_iconst (n := 0) (v := 0) (by decide +kernel) rfl ?_
  refine n_istore_n (n := 3) (lo2 := [_, _, _, _, _, _]) (by decide +kernel) (Nat.le_of_ble_eq_true rfl) rfl ?_
  obtain ⟨M11, h11, hr⟩ := bso hr
  refine (W_X8_raiseStones_b17 G hp0 hs0 hp1 hs1 h11 _ _) ?_
  dsimp only [Q_X8_raiseStones_b17]
  cases hr
  exact n_return (by decide +kernel)
abbrev P_X2_yearOfEnough_b8 (l : Launch) (s0 : State) (D : va_G) (cy : Nat → ClassId) (ad : Nat → Nat) (P : Nat → Prop) (a1 : Nat) (x3 : Int32) (x4 : Int32)  (res : Rs) (M' : Mm) (s : (Int32 × Mm)) : Prop := Rn l s0 D cy ad P 14 KX2_yearOfEnough 8 [.ref 18, .ref a1, .null, .int x3, .int x4, .int (s.1)] [] (s.2) res M'
abbrev Q_X2_yearOfEnough_b8 (l : Launch) (s0 : State) (D : va_G) (cy : Nat → ClassId) (ad : Nat → Nat) (P : Nat → Prop) (a1 : Nat) (x3 : Int32) (x4 : Int32)  (res : Rs) (M' : Mm) (e : ((Int32 × Mm) ⊕ Mm)) : Prop := (match e with | .inl e => Rn l s0 D cy ad P 14 KX2_yearOfEnough 33 [.null, .null, .null, .null, .null, .int (e.1)] [] (e.2) res M' | .inr e => Rn l s0 D cy ad P 14 KX2_yearOfEnough 50 [.null, .null, .null, .null, .null, .null] [] (e) res M')
set_option maxRecDepth 100000 in
theorem B_X2_yearOfEnough_b8 (G : GG l s0 b L xs D cy ad) {a1 : Nat} {x3 : Int32} {x4 : Int32}  {res : Rs} {M' : Mm} (hp0 : P 18) (hp1 : P a1) (hs1 : SH a1 = 3) : ∀ (s : (Int32 × Mm)) (r : (Int32 × Mm) ⊕ ((Int32 × Mm) ⊕ Mm)), f_X2_yearOfEnough_b8 a1 x3 x4 s = some r → mtc (P_X2_yearOfEnough_b8 l s0 D cy ad P a1 x3 x4 res M') (Q_X2_yearOfEnough_b8 l s0 D cy ad P a1 x3 x4 res M') r → P_X2_yearOfEnough_b8 l s0 D cy ad P a1 x3 x4 res M' s := by
  intro s r hr hk
  obtain ⟨x5, M⟩ := s
  unfold f_X2_yearOfEnough_b8 at hr
  try dsimp only at hr
  dsimp only [P_X2_yearOfEnough_b8]
  refine n_iload (n := 5) (by decide +kernel) rfl ?_
  refine n_bipush (n := 30) (v := 30) (by decide +kernel) rfl ?_
  refine n_icmp_gt (off := 38) (tgt := 50) (by decide +kernel) (by decide) (fun hc2 => ?_) (fun hc2 => ?_)
  · rw [if_pos hc2] at hr
    cases hr
    refine n_msk [false, false, false, false, false, false] (lo2 := [.null, .null, .null, .null, .null, .null]) rfl rfl ?_
    exact hk
  · rw [if_neg hc2] at hr
    refine n_aload_n (n := 0) (by decide +kernel) rfl ?_
    refine n_aload_n (n := 1) (by decide +kernel) rfl ?_
    refine n_iload_n (n := 3) (by decide +kernel) rfl ?_
    obtain ⟨M3, h3, hr⟩ := bso hr
    refine n_callVv G [_, _] (M1 := M3) (B_X2_spendYear G hp0 hp1 hs1 h3) (by decide) mX2_spendYear ml_RX2_33 hp0 (by decide +kernel) rfl rfl (Nat.le_of_ble_eq_true rfl) (by decide +kernel) ?_
    refine n_aload_n (n := 0) (by decide +kernel) rfl ?_
    refine n_getF (q := 19) G fl_RX2_12 hp0 (by decide +kernel) (by decide +kernel) (by decide +kernel) (fun hp4q => ?_)
    obtain ⟨v5, h5, hr⟩ := bso hr
    refine n_callVi G [] (x := v5) (B_X8_howManyAsked G hp4q (by decide +kernel) h5) (by decide) mX8_howManyAsked ml_RX2_37 hp4q (by decide +kernel) rfl rfl (Nat.le_of_ble_eq_true rfl) (by decide +kernel) ?_
    refine n_iload (n := 4) (by decide +kernel) rfl ?_
    refine n_icmp_gt (off := 6) (tgt := 36) (by decide +kernel) (by decide) (fun hc6 => ?_) (fun hc6 => ?_)
    · rw [if_pos hc6] at hr
      refine n_aload_n (n := 0) (by decide +kernel) rfl ?_
      refine n_getF (q := 19) G fl_RX2_12 hp0 (by decide +kernel) (by decide +kernel) (by decide +kernel) (fun hp7q => ?_)
      refine n_aload_n (n := 1) (by decide +kernel) rfl ?_
      obtain ⟨M8, h8, hr⟩ := bso hr
      refine n_callVv G [_] (M1 := M8) (B_X8_raiseStones G hp7q (by decide +kernel) hp1 hs1 h8) (by decide) mX8_raiseStones ml_RX2_41 hp7q (by decide +kernel) rfl rfl (Nat.le_of_ble_eq_true rfl) (by decide +kernel) ?_
      refine n_iincK (n := 5) (j := 1) (w := 1) (lo2 := [_, _, _, _, _, _]) (by decide +kernel) rfl rfl rfl ?_
      refine n_goto (off := -39) (tgt := 8) (by decide +kernel) (by decide) ?_
      cases hr
      exact hk
    · rw [if_neg hc6] at hr
      cases hr
      refine n_msk [false, false, false, false, false, true] (lo2 := [.null, .null, .null, .null, .null, _]) rfl rfl ?_
      exact hk
set_option maxRecDepth 100000 in
theorem W_X2_yearOfEnough_b8 (G : GG l s0 b L xs D cy ad) {a1 : Nat} {x3 : Int32} {x4 : Int32}  (hp0 : P 18) (hp1 : P a1) (hs1 : SH a1 = 3) {s : (Int32 × Mm)} {e : ((Int32 × Mm) ⊕ Mm)} (h : whl fu (f_X2_yearOfEnough_b8 a1 x3 x4) s = some e) (res : Rs) (M' : Mm) : Q_X2_yearOfEnough_b8 l s0 D cy ad P a1 x3 x4 res M' e → P_X2_yearOfEnough_b8 l s0 D cy ad P a1 x3 x4 res M' s := whl_run (P := fun s => P_X2_yearOfEnough_b8 l s0 D cy ad P a1 x3 x4 res M' s) (Q := fun e => Q_X2_yearOfEnough_b8 l s0 D cy ad P a1 x3 x4 res M' e) (B_X2_yearOfEnough_b8 G (res := res) (M' := M') (a1 := a1) (x3 := x3) (x4 := x4) hp0 hp1 hs1) fu s h
set_option maxRecDepth 100000 in
theorem B_X2_yearOfEnough (G : GG l s0 b L xs D cy ad)  {a1 : Nat} {a2 : Nat} {x3 : Int32} {x4 : Int32} {M : Mm} {r : (Int32 × Mm)} (hp0 : P 18) (hp1 : P a1) (hs1 : SH a1 = 3) (hp2 : P a2) (hs2 : SH a2 = 8) (hr : f_X2_yearOfEnough a1 a2 x3 x4 M = some r) : Cl l s0 D cy ad P 14 KX2_yearOfEnough [.ref 18, .ref a1, .ref a2, .int x3, .int x4] M (.inl (some (.int r.1))) (r.2) := by
  refine cl_ofN (by decide +kernel) rfl rfl okI (lo0 := [_, _, _, _, _, .null]) rfl ?_
  unfold f_X2_yearOfEnough at hr
  refine n_aload_n (n := 0) (by decide +kernel) rfl ?_
  refine n_aload_n (n := 2) (by decide +kernel) rfl ?_
  obtain ⟨M1, h1, hr⟩ := bso hr
  refine n_callVv G [_] (M1 := M1) (B_X2_begin G hp0 hp2 hs2 h1) (by decide) mX2_begin ml_RX2_29 hp0 (by decide +kernel) rfl rfl (Nat.le_of_ble_eq_true rfl) (by decide +kernel) ?_
  refine n_iconst (n := 1) (v := 1) (by decide +kernel) rfl ?_
  refine n_istore (n := 5) (lo2 := [_, _, _, _, _, _]) (by decide +kernel) (Nat.le_of_ble_eq_true rfl) rfl ?_
  obtain ⟨e9, h9, hr⟩ := bso hr
  refine n_msk [true, true, false, true, true, true] (lo2 := [_, _, .null, _, _, _]) rfl rfl ?_
  refine (W_X2_yearOfEnough_b8 G hp0 hp1 hs1 h9 _ _) ?_
  rcases e9 with ⟨z5_9, M9⟩ | M9
  · try dsimp only at hr
    dsimp only [Q_X2_yearOfEnough_b8]
    refine n_iload (n := 5) (by decide +kernel) rfl ?_
    cases hr
    exact n_ireturn (by decide +kernel)
  · try dsimp only at hr
    dsimp only [Q_X2_yearOfEnough_b8]
    refine n_iconst (n := -1) (v := -1) (by decide +kernel) rfl ?_
    cases hr
    exact n_ireturn (by decide +kernel)
abbrev P_X2_leftBehind_b14 (l : Launch) (s0 : State) (D : va_G) (cy : Nat → ClassId) (ad : Nat → Nat) (P : Nat → Prop) (a1 : Nat) (x3 : Int32) (x4 : Int32)  (res : Rs) (M' : Mm) (s : (Int32 × Mm)) : Prop := Rn l s0 D cy ad P 14 KX2_leftBehind 14 [.ref 18, .ref a1, .null, .int x3, .int x4, .int (s.1)] [] (s.2) res M'
abbrev Q_X2_leftBehind_b14 (l : Launch) (s0 : State) (D : va_G) (cy : Nat → ClassId) (ad : Nat → Nat) (P : Nat → Prop) (a1 : Nat) (x3 : Int32) (x4 : Int32)  (res : Rs) (M' : Mm) (e : Mm) : Prop := Rn l s0 D cy ad P 14 KX2_leftBehind 48 [.ref 18, .null, .null, .null, .null, .null] [] (e) res M'
set_option maxRecDepth 100000 in
theorem B_X2_leftBehind_b14 (G : GG l s0 b L xs D cy ad) {a1 : Nat} {x3 : Int32} {x4 : Int32}  {res : Rs} {M' : Mm} (hp0 : P 18) (hp1 : P a1) (hs1 : SH a1 = 3) : ∀ (s : (Int32 × Mm)) (r : (Int32 × Mm) ⊕ Mm), f_X2_leftBehind_b14 a1 x3 x4 s = some r → mtc (P_X2_leftBehind_b14 l s0 D cy ad P a1 x3 x4 res M') (Q_X2_leftBehind_b14 l s0 D cy ad P a1 x3 x4 res M') r → P_X2_leftBehind_b14 l s0 D cy ad P a1 x3 x4 res M' s := by
  intro s r hr hk
  obtain ⟨x5, M⟩ := s
  unfold f_X2_leftBehind_b14 at hr
  try dsimp only at hr
  dsimp only [P_X2_leftBehind_b14]
  refine n_iload (n := 5) (by decide +kernel) rfl ?_
  refine n_iload (n := 4) (by decide +kernel) rfl ?_
  refine n_icmp_gt (off := 30) (tgt := 48) (by decide +kernel) (by decide) (fun hc3 => ?_) (fun hc3 => ?_)
  · rw [if_pos hc3] at hr
    cases hr
    refine n_msk [true, false, false, false, false, false] (lo2 := [_, .null, .null, .null, .null, .null]) rfl rfl ?_
    exact hk
  · rw [if_neg hc3] at hr
    refine n_iload (n := 5) (by decide +kernel) rfl ?_
    refine n_bipush (n := 30) (v := 30) (by decide +kernel) rfl ?_
    refine n_icmp_gt (off := 23) (tgt := 48) (by decide +kernel) (by decide) (fun hc4 => ?_) (fun hc4 => ?_)
    · rw [if_pos hc4] at hr
      cases hr
      refine n_msk [true, false, false, false, false, false] (lo2 := [_, .null, .null, .null, .null, .null]) rfl rfl ?_
      exact hk
    · rw [if_neg hc4] at hr
      refine n_aload_n (n := 0) (by decide +kernel) rfl ?_
      refine n_getF (q := 19) G fl_RX2_12 hp0 (by decide +kernel) (by decide +kernel) (by decide +kernel) (fun hp5q => ?_)
      refine n_aload_n (n := 1) (by decide +kernel) rfl ?_
      obtain ⟨M6, h6, hr⟩ := bso hr
      refine n_callVv G [_] (M1 := M6) (B_X8_raiseStones G hp5q (by decide +kernel) hp1 hs1 h6) (by decide) mX8_raiseStones ml_RX2_41 hp5q (by decide +kernel) rfl rfl (Nat.le_of_ble_eq_true rfl) (by decide +kernel) ?_
      refine n_aload_n (n := 0) (by decide +kernel) rfl ?_
      refine n_aload_n (n := 1) (by decide +kernel) rfl ?_
      refine n_iload_n (n := 3) (by decide +kernel) rfl ?_
      obtain ⟨M7, h7, hr⟩ := bso hr
      refine n_callVv G [_, _] (M1 := M7) (B_X2_spendYear G hp0 hp1 hs1 h7) (by decide) mX2_spendYear ml_RX2_33 hp0 (by decide +kernel) rfl rfl (Nat.le_of_ble_eq_true rfl) (by decide +kernel) ?_
      refine n_iincK (n := 5) (j := 1) (w := 1) (lo2 := [_, _, _, _, _, _]) (by decide +kernel) rfl rfl rfl ?_
      refine n_goto (off := -31) (tgt := 14) (by decide +kernel) (by decide) ?_
      cases hr
      exact hk
set_option maxRecDepth 100000 in
theorem W_X2_leftBehind_b14 (G : GG l s0 b L xs D cy ad) {a1 : Nat} {x3 : Int32} {x4 : Int32}  (hp0 : P 18) (hp1 : P a1) (hs1 : SH a1 = 3) {s : (Int32 × Mm)} {e : Mm} (h : whl fu (f_X2_leftBehind_b14 a1 x3 x4) s = some e) (res : Rs) (M' : Mm) : Q_X2_leftBehind_b14 l s0 D cy ad P a1 x3 x4 res M' e → P_X2_leftBehind_b14 l s0 D cy ad P a1 x3 x4 res M' s := whl_run (P := fun s => P_X2_leftBehind_b14 l s0 D cy ad P a1 x3 x4 res M' s) (Q := fun e => Q_X2_leftBehind_b14 l s0 D cy ad P a1 x3 x4 res M' e) (B_X2_leftBehind_b14 G (res := res) (M' := M') (a1 := a1) (x3 := x3) (x4 := x4) hp0 hp1 hs1) fu s h
set_option maxRecDepth 100000 in
theorem B_X2_leftBehind (G : GG l s0 b L xs D cy ad)  {a1 : Nat} {a2 : Nat} {x3 : Int32} {x4 : Int32} {M : Mm} {r : (Int32 × Mm)} (hp0 : P 18) (hp1 : P a1) (hs1 : SH a1 = 3) (hp2 : P a2) (hs2 : SH a2 = 8) (hr : f_X2_leftBehind a1 a2 x3 x4 M = some r) : Cl l s0 D cy ad P 14 KX2_leftBehind [.ref 18, .ref a1, .ref a2, .int x3, .int x4] M (.inl (some (.int r.1))) (r.2) := by
  refine cl_ofN (by decide +kernel) rfl rfl okI (lo0 := [_, _, _, _, _, .null]) rfl ?_
  unfold f_X2_leftBehind at hr
  refine n_aload_n (n := 0) (by decide +kernel) rfl ?_
  refine n_aload_n (n := 2) (by decide +kernel) rfl ?_
  obtain ⟨M1, h1, hr⟩ := bso hr
  refine n_callVv G [_] (M1 := M1) (B_X2_begin G hp0 hp2 hs2 h1) (by decide) mX2_begin ml_RX2_29 hp0 (by decide +kernel) rfl rfl (Nat.le_of_ble_eq_true rfl) (by decide +kernel) ?_
  refine n_aload_n (n := 0) (by decide +kernel) rfl ?_
  refine n_aload_n (n := 1) (by decide +kernel) rfl ?_
  refine n_iload_n (n := 3) (by decide +kernel) rfl ?_
  obtain ⟨M2, h2, hr⟩ := bso hr
  refine n_callVv G [_, _] (M1 := M2) (B_X2_spendYear G hp0 hp1 hs1 h2) (by decide) mX2_spendYear ml_RX2_33 hp0 (by decide +kernel) rfl rfl (Nat.le_of_ble_eq_true rfl) (by decide +kernel) ?_
  refine n_iconst (n := 2) (v := 2) (by decide +kernel) rfl ?_
  refine n_istore (n := 5) (lo2 := [_, _, _, _, _, _]) (by decide +kernel) (Nat.le_of_ble_eq_true rfl) rfl ?_
  obtain ⟨M8, h8, hr⟩ := bso hr
  refine n_msk [true, true, false, true, true, true] (lo2 := [_, _, .null, _, _, _]) rfl rfl ?_
  refine (W_X2_leftBehind_b14 G hp0 hp1 hs1 h8 _ _) ?_
  dsimp only [Q_X2_leftBehind_b14]
  refine n_aload_n (n := 0) (by decide +kernel) rfl ?_
  refine n_getF (q := 19) G fl_RX2_12 hp0 (by decide +kernel) (by decide +kernel) (by decide +kernel) (fun hp9q => ?_)
  obtain ⟨v10, h10, hr⟩ := bso hr
  refine n_callVi G [] (x := v10) (B_X8_howManyAsked G hp9q (by decide +kernel) h10) (by decide) mX8_howManyAsked ml_RX2_37 hp9q (by decide +kernel) rfl rfl (Nat.le_of_ble_eq_true rfl) (by decide +kernel) ?_
  cases hr
  exact n_ireturn (by decide +kernel)
set_option maxRecDepth 100000 in
theorem B_X2_draw (G : GG l s0 b L xs D cy ad)   {M : Mm} {r : (Int32 × Mm)} (hp0 : P 18) (hr : f_X2_draw  M = some r) : Cl l s0 D cy ad P 9 KX2_draw [.ref 18] M (.inl (some (.int r.1))) (r.2) := by
  refine cl_ofN (by decide +kernel) rfl rfl okI (lo0 := [_]) rfl ?_
  unfold f_X2_draw at hr
  refine n_aload_n (n := 0) (by decide +kernel) rfl ?_
  refine n_aload_n (n := 0) (by decide +kernel) rfl ?_
  refine n_getI G fl_RX2_69 hp0 (by decide +kernel) (by decide +kernel) ?_
  refine n_ldc G ct_RX2_92 (by decide +kernel) ?_
  refine n_imul (by decide +kernel) ?_
  refine n_sipush (n := 12345) (v := 12345) (by decide +kernel) (by decide +kernel) ?_
  refine n_iadd (by decide +kernel) ?_
  refine n_putI G fl_RX2_69 hp0 (by decide +kernel) (by decide +kernel) ?_
  refine n_aload_n (n := 0) (by decide +kernel) rfl ?_
  refine n_getI G fl_RX2_69 hp0 (by decide +kernel) (by decide +kernel) ?_
  refine n_bipush (n := 16) (v := 16) (by decide +kernel) rfl ?_
  refine n_iushr (by decide +kernel) ?_
  refine n_sipush (n := 32767) (v := 32767) (by decide +kernel) (by decide +kernel) ?_
  refine n_iand (by decide +kernel) ?_
  refine n_bipush (n := 16) (v := 16) (by decide +kernel) rfl ?_
  refine n_irem (by decide) (by decide +kernel) ?_
  cases hr
  exact n_ireturn (by decide +kernel)
abbrev P_X2_passFrostyWinter_b10 (l : Launch) (s0 : State) (D : va_G) (cy : Nat → ClassId) (ad : Nat → Nat) (P : Nat → Prop) (a1 : Nat) (x2 : Int32)  (res : Rs) (M' : Mm) (s : (Int32 × Mm)) : Prop := Rn l s0 D cy ad P 13 KX2_passFrostyWinter 10 [.ref 18, .ref a1, .int x2, .int (s.1)] [] (s.2) res M'
abbrev Q_X2_passFrostyWinter_b10 (l : Launch) (s0 : State) (D : va_G) (cy : Nat → ClassId) (ad : Nat → Nat) (P : Nat → Prop) (a1 : Nat) (x2 : Int32)  (res : Rs) (M' : Mm) (e : Mm) : Prop := Rn l s0 D cy ad P 13 KX2_passFrostyWinter 58 [.null, .null, .null, .null] [] (e) res M'
set_option maxRecDepth 100000 in
theorem B_X2_passFrostyWinter_b10 (G : GG l s0 b L xs D cy ad) {a1 : Nat} {x2 : Int32}  {res : Rs} {M' : Mm} (hp0 : P 18) (hp1 : P a1) (hs1 : SH a1 = 3) : ∀ (s : (Int32 × Mm)) (r : (Int32 × Mm) ⊕ Mm), f_X2_passFrostyWinter_b10 a1 x2 s = some r → mtc (P_X2_passFrostyWinter_b10 l s0 D cy ad P a1 x2 res M') (Q_X2_passFrostyWinter_b10 l s0 D cy ad P a1 x2 res M') r → P_X2_passFrostyWinter_b10 l s0 D cy ad P a1 x2 res M' s := by
  intro s r hr hk
  obtain ⟨x3, M⟩ := s
  unfold f_X2_passFrostyWinter_b10 at hr
  try dsimp only at hr
  dsimp only [P_X2_passFrostyWinter_b10]
  refine n_iload_n (n := 3) (by decide +kernel) rfl ?_
  refine n_bipush (n := 48) (v := 48) (by decide +kernel) rfl ?_
  refine n_icmp_ge (off := 45) (tgt := 58) (by decide +kernel) (by decide) (fun hc3 => ?_) (fun hc3 => ?_)
  · rw [if_pos hc3] at hr
    cases hr
    refine n_msk [false, false, false, false] (lo2 := [.null, .null, .null, .null]) rfl rfl ?_
    exact hk
  · rw [if_neg hc3] at hr
    refine n_aload_n (n := 1) (by decide +kernel) rfl ?_
    refine n_iload_n (n := 3) (by decide +kernel) rfl ?_
    obtain ⟨v4, h4, hr⟩ := bso hr
    refine n_callVi G [_] (x := v4) (B_X3_hasCell G hp1 hs1 h4) (by decide) mX3_hasCell ml_RX2_78 hp1 hs1 rfl rfl (Nat.le_of_ble_eq_true rfl) (by decide +kernel) ?_
    refine n_if_eq (off := 31) (tgt := 52) (by decide +kernel) (by decide) (fun hc5 => ?_) (fun hc5 => ?_)
    · rw [if_pos hc5] at hr
      refine n_iincK (n := 3) (j := 1) (w := 1) (lo2 := [_, _, _, _]) (by decide +kernel) rfl rfl rfl ?_
      refine n_goto (off := -45) (tgt := 10) (by decide +kernel) (by decide) ?_
      cases hr
      exact hk
    · rw [if_neg hc5] at hr
      refine n_aload_n (n := 0) (by decide +kernel) rfl ?_
      refine n_getF (q := 19) G fl_RX2_12 hp0 (by decide +kernel) (by decide +kernel) (by decide +kernel) (fun hp6q => ?_)
      refine n_iload_n (n := 3) (by decide +kernel) rfl ?_
      obtain ⟨v7, h7, hr⟩ := bso hr
      refine n_callVi G [_] (x := v7) (B_X8_isLost G hp6q (by decide +kernel) h7) (by decide) mX8_isLost ml_RX2_83 hp6q (by decide +kernel) rfl rfl (Nat.le_of_ble_eq_true rfl) (by decide +kernel) ?_
      refine n_if_ne (off := 20) (tgt := 52) (by decide +kernel) (by decide) (fun hc8 => ?_) (fun hc8 => ?_)
      · rw [if_neg hc8] at hr
        refine n_iincK (n := 3) (j := 1) (w := 1) (lo2 := [_, _, _, _]) (by decide +kernel) rfl rfl rfl ?_
        refine n_goto (off := -45) (tgt := 10) (by decide +kernel) (by decide) ?_
        cases hr
        exact hk
      · rw [if_pos hc8] at hr
        refine n_aload_n (n := 0) (by decide +kernel) rfl ?_
        obtain ⟨⟨v9, M9⟩, h9, hr⟩ := bso hr
        try dsimp only at hr
        refine n_callVi G [] (x := v9) (M1 := M9) (B_X2_draw G hp0 h9) (by decide) mX2_draw ml_RX2_86 hp0 (by decide +kernel) rfl rfl (Nat.le_of_ble_eq_true rfl) (by decide +kernel) ?_
        refine n_iload_n (n := 2) (by decide +kernel) rfl ?_
        refine n_icmp_ge (off := 12) (tgt := 52) (by decide +kernel) (by decide) (fun hc10 => ?_) (fun hc10 => ?_)
        · rw [if_pos hc10] at hr
          refine n_iincK (n := 3) (j := 1) (w := 1) (lo2 := [_, _, _, _]) (by decide +kernel) rfl rfl rfl ?_
          refine n_goto (off := -45) (tgt := 10) (by decide +kernel) (by decide) ?_
          cases hr
          exact hk
        · rw [if_neg hc10] at hr
          refine n_aload_n (n := 0) (by decide +kernel) rfl ?_
          refine n_getF (q := 19) G fl_RX2_12 hp0 (by decide +kernel) (by decide +kernel) (by decide +kernel) (fun hp11q => ?_)
          refine n_iload_n (n := 3) (by decide +kernel) rfl ?_
          refine n_iconst (n := 1) (v := 1) (by decide +kernel) rfl ?_
          obtain ⟨M12, h12, hr⟩ := bso hr
          refine n_callVv G [_, _] (M1 := M12) (B_X8_addStone G hp11q (by decide +kernel) h12) (by decide) mX8_addStone ml_RX2_89 hp11q (by decide +kernel) rfl rfl (Nat.le_of_ble_eq_true rfl) (by decide +kernel) ?_
          refine n_iincK (n := 3) (j := 1) (w := 1) (lo2 := [_, _, _, _]) (by decide +kernel) rfl rfl rfl ?_
          refine n_goto (off := -45) (tgt := 10) (by decide +kernel) (by decide) ?_
          cases hr
          exact hk
set_option maxRecDepth 100000 in
theorem W_X2_passFrostyWinter_b10 (G : GG l s0 b L xs D cy ad) {a1 : Nat} {x2 : Int32}  (hp0 : P 18) (hp1 : P a1) (hs1 : SH a1 = 3) {s : (Int32 × Mm)} {e : Mm} (h : whl fu (f_X2_passFrostyWinter_b10 a1 x2) s = some e) (res : Rs) (M' : Mm) : Q_X2_passFrostyWinter_b10 l s0 D cy ad P a1 x2 res M' e → P_X2_passFrostyWinter_b10 l s0 D cy ad P a1 x2 res M' s := whl_run (P := fun s => P_X2_passFrostyWinter_b10 l s0 D cy ad P a1 x2 res M' s) (Q := fun e => Q_X2_passFrostyWinter_b10 l s0 D cy ad P a1 x2 res M' e) (B_X2_passFrostyWinter_b10 G (res := res) (M' := M') (a1 := a1) (x2 := x2) hp0 hp1 hs1) fu s h
set_option maxRecDepth 100000 in
theorem B_X2_passFrostyWinter (G : GG l s0 b L xs D cy ad)  {a1 : Nat} {x2 : Int32} {M : Mm} {r : Mm} (hp0 : P 18) (hp1 : P a1) (hs1 : SH a1 = 3) (hr : f_X2_passFrostyWinter a1 x2 M = some r) : Cl l s0 D cy ad P 13 KX2_passFrostyWinter [.ref 18, .ref a1, .int x2] M (.inl none) (r) := by
  refine cl_ofN (by decide +kernel) rfl rfl rfl (lo0 := [_, _, _, .null]) rfl ?_
  unfold f_X2_passFrostyWinter at hr
  refine n_aload_n (n := 0) (by decide +kernel) rfl ?_
  refine n_getF (q := 19) G fl_RX2_12 hp0 (by decide +kernel) (by decide +kernel) (by decide +kernel) (fun hp1q => ?_)
  refine n_aload_n (n := 1) (by decide +kernel) rfl ?_
  obtain ⟨M2, h2, hr⟩ := bso hr
  refine n_callVv G [_] (M1 := M2) (B_X8_raiseStones G hp1q (by decide +kernel) hp1 hs1 h2) (by decide) mX8_raiseStones ml_RX2_41 hp1q (by decide +kernel) rfl rfl (Nat.le_of_ble_eq_true rfl) (by decide +kernel) ?_
  refine n_iconst (n := 0) (v := 0) (by decide +kernel) rfl ?_
  refine n_istore_n (n := 3) (lo2 := [_, _, _, _]) (by decide +kernel) (Nat.le_of_ble_eq_true rfl) rfl ?_
  obtain ⟨M13, h13, hr⟩ := bso hr
  refine (W_X2_passFrostyWinter_b10 G hp0 hp1 hs1 h13 _ _) ?_
  dsimp only [Q_X2_passFrostyWinter_b10]
  cases hr
  exact n_return (by decide +kernel)
abbrev P_X2_harmOfFrost_b16 (l : Launch) (s0 : State) (D : va_G) (cy : Nat → ClassId) (ad : Nat → Nat) (P : Nat → Prop) (a1 : Nat) (x4 : Int32) (x5 : Int32)  (res : Rs) (M' : Mm) (s : (Int32 × Int32 × Mm)) : Prop := Rn l s0 D cy ad P 14 KX2_harmOfFrost 16 [.ref 18, .ref a1, .null, .null, .int x4, .int x5, .int (s.1), .int (s.2.1)] [] (s.2.2) res M'
abbrev Q_X2_harmOfFrost_b16 (l : Launch) (s0 : State) (D : va_G) (cy : Nat → ClassId) (ad : Nat → Nat) (P : Nat → Prop) (a1 : Nat) (x4 : Int32) (x5 : Int32)  (res : Rs) (M' : Mm) (e : (Int32 × Mm)) : Prop := Rn l s0 D cy ad P 14 KX2_harmOfFrost 51 [.null, .null, .null, .null, .null, .null, .int (e.1), .null] [] (e.2) res M'
set_option maxRecDepth 100000 in
theorem B_X2_harmOfFrost_b16 (G : GG l s0 b L xs D cy ad) {a1 : Nat} {x4 : Int32} {x5 : Int32}  {res : Rs} {M' : Mm} (hp0 : P 18) (hp1 : P a1) (hs1 : SH a1 = 3) : ∀ (s : (Int32 × Int32 × Mm)) (r : (Int32 × Int32 × Mm) ⊕ (Int32 × Mm)), f_X2_harmOfFrost_b16 a1 x4 x5 s = some r → mtc (P_X2_harmOfFrost_b16 l s0 D cy ad P a1 x4 x5 res M') (Q_X2_harmOfFrost_b16 l s0 D cy ad P a1 x4 x5 res M') r → P_X2_harmOfFrost_b16 l s0 D cy ad P a1 x4 x5 res M' s := by
  intro s r hr hk
  obtain ⟨x6, x7, M⟩ := s
  unfold f_X2_harmOfFrost_b16 at hr
  try dsimp only at hr
  dsimp only [P_X2_harmOfFrost_b16]
  refine n_iload (n := 7) (by decide +kernel) rfl ?_
  refine n_iload (n := 5) (by decide +kernel) rfl ?_
  refine n_icmp_ge (off := 31) (tgt := 51) (by decide +kernel) (by decide) (fun hc2 => ?_) (fun hc2 => ?_)
  · rw [if_pos hc2] at hr
    cases hr
    refine n_msk [false, false, false, false, false, false, true, false] (lo2 := [.null, .null, .null, .null, .null, .null, _, .null]) rfl rfl ?_
    exact hk
  · rw [if_neg hc2] at hr
    refine n_iload (n := 6) (by decide +kernel) rfl ?_
    refine n_aload_n (n := 0) (by decide +kernel) rfl ?_
    refine n_getF (q := 19) G fl_RX2_12 hp0 (by decide +kernel) (by decide +kernel) (by decide +kernel) (fun hp3q => ?_)
    refine n_aload_n (n := 1) (by decide +kernel) rfl ?_
    refine n_bipush (n := 10) (v := 10) (by decide +kernel) rfl ?_
    obtain ⟨⟨v4, M4⟩, h4, hr⟩ := bso hr
    try dsimp only at hr
    refine n_callVi G [_, _] (x := v4) (M1 := M4) (B_X8_harmOfAll G hp3q (by decide +kernel) hp1 hs1 h4) (by decide) mX8_harmOfAll ml_RX2_72 hp3q (by decide +kernel) rfl rfl (Nat.le_of_ble_eq_true rfl) (by decide +kernel) ?_
    refine n_iadd (by decide +kernel) ?_
    refine n_istore (n := 6) (lo2 := [_, _, _, _, _, _, _, _]) (by decide +kernel) (Nat.le_of_ble_eq_true rfl) rfl ?_
    refine n_aload_n (n := 0) (by decide +kernel) rfl ?_
    refine n_aload_n (n := 1) (by decide +kernel) rfl ?_
    refine n_iload (n := 4) (by decide +kernel) rfl ?_
    obtain ⟨M5, h5, hr⟩ := bso hr
    refine n_callVv G [_, _] (M1 := M5) (B_X2_passFrostyWinter G hp0 hp1 hs1 h5) (by decide) mX2_passFrostyWinter ml_RX2_75 hp0 (by decide +kernel) rfl rfl (Nat.le_of_ble_eq_true rfl) (by decide +kernel) ?_
    refine n_iincK (n := 7) (j := 1) (w := 1) (lo2 := [_, _, _, _, _, _, _, _]) (by decide +kernel) rfl rfl rfl ?_
    refine n_goto (off := -32) (tgt := 16) (by decide +kernel) (by decide) ?_
    cases hr
    exact hk
set_option maxRecDepth 100000 in
theorem W_X2_harmOfFrost_b16 (G : GG l s0 b L xs D cy ad) {a1 : Nat} {x4 : Int32} {x5 : Int32}  (hp0 : P 18) (hp1 : P a1) (hs1 : SH a1 = 3) {s : (Int32 × Int32 × Mm)} {e : (Int32 × Mm)} (h : whl fu (f_X2_harmOfFrost_b16 a1 x4 x5) s = some e) (res : Rs) (M' : Mm) : Q_X2_harmOfFrost_b16 l s0 D cy ad P a1 x4 x5 res M' e → P_X2_harmOfFrost_b16 l s0 D cy ad P a1 x4 x5 res M' s := whl_run (P := fun s => P_X2_harmOfFrost_b16 l s0 D cy ad P a1 x4 x5 res M' s) (Q := fun e => Q_X2_harmOfFrost_b16 l s0 D cy ad P a1 x4 x5 res M' e) (B_X2_harmOfFrost_b16 G (res := res) (M' := M') (a1 := a1) (x4 := x4) (x5 := x5) hp0 hp1 hs1) fu s h
set_option maxRecDepth 100000 in
theorem B_X2_harmOfFrost (G : GG l s0 b L xs D cy ad)  {a1 : Nat} {a2 : Nat} {x3 : Int32} {x4 : Int32} {x5 : Int32} {M : Mm} {r : (Int32 × Mm)} (hp0 : P 18) (hp1 : P a1) (hs1 : SH a1 = 3) (hp2 : P a2) (hs2 : SH a2 = 8) (hr : f_X2_harmOfFrost a1 a2 x3 x4 x5 M = some r) : Cl l s0 D cy ad P 14 KX2_harmOfFrost [.ref 18, .ref a1, .ref a2, .int x3, .int x4, .int x5] M (.inl (some (.int r.1))) (r.2) := by
  refine cl_ofN (by decide +kernel) rfl rfl okI (lo0 := [_, _, _, _, _, _, .null, .null]) rfl ?_
  unfold f_X2_harmOfFrost at hr
  refine n_aload_n (n := 0) (by decide +kernel) rfl ?_
  refine n_aload_n (n := 2) (by decide +kernel) rfl ?_
  obtain ⟨M1, h1, hr⟩ := bso hr
  refine n_callVv G [_] (M1 := M1) (B_X2_begin G hp0 hp2 hs2 h1) (by decide) mX2_begin ml_RX2_29 hp0 (by decide +kernel) rfl rfl (Nat.le_of_ble_eq_true rfl) (by decide +kernel) ?_
  refine n_aload_n (n := 0) (by decide +kernel) rfl ?_
  refine n_iload_n (n := 3) (by decide +kernel) rfl ?_
  refine n_putI G fl_RX2_69 hp0 (by decide +kernel) (by decide +kernel) ?_
  refine n_iconst (n := 0) (v := 0) (by decide +kernel) rfl ?_
  refine n_istore (n := 6) (lo2 := [_, _, _, _, _, _, _, _]) (by decide +kernel) (Nat.le_of_ble_eq_true rfl) rfl ?_
  refine n_iconst (n := 0) (v := 0) (by decide +kernel) rfl ?_
  refine n_istore (n := 7) (lo2 := [_, _, _, _, _, _, _, _]) (by decide +kernel) (Nat.le_of_ble_eq_true rfl) rfl ?_
  obtain ⟨e6, h6, hr⟩ := bso hr
  refine n_msk [true, true, false, false, true, true, true, true] (lo2 := [_, _, .null, .null, _, _, _, _]) rfl rfl ?_
  refine (W_X2_harmOfFrost_b16 G hp0 hp1 hs1 h6 _ _) ?_
  obtain ⟨z6_6, M6⟩ := e6
  try dsimp only at hr
  dsimp only [Q_X2_harmOfFrost_b16]
  refine n_iload (n := 6) (by decide +kernel) rfl ?_
  cases hr
  exact n_ireturn (by decide +kernel)
abbrev P_X2_passFrost_b13 (l : Launch) (s0 : State) (D : va_G) (cy : Nat → ClassId) (ad : Nat → Nat) (P : Nat → Prop) (a1 : Nat) (x4 : Int32) (x5 : Int32)  (res : Rs) (M' : Mm) (s : (Int32 × Mm)) : Prop := Rn l s0 D cy ad P 14 KX2_passFrost 13 [.ref 18, .ref a1, .null, .null, .int x4, .int x5, .int (s.1)] [] (s.2) res M'
abbrev Q_X2_passFrost_b13 (l : Launch) (s0 : State) (D : va_G) (cy : Nat → ClassId) (ad : Nat → Nat) (P : Nat → Prop) (a1 : Nat) (x4 : Int32) (x5 : Int32)  (res : Rs) (M' : Mm) (e : Mm) : Prop := Rn l s0 D cy ad P 14 KX2_passFrost 33 [.null, .null, .null, .null, .null, .null, .null] [] (e) res M'
set_option maxRecDepth 100000 in
theorem B_X2_passFrost_b13 (G : GG l s0 b L xs D cy ad) {a1 : Nat} {x4 : Int32} {x5 : Int32}  {res : Rs} {M' : Mm} (hp0 : P 18) (hp1 : P a1) (hs1 : SH a1 = 3) : ∀ (s : (Int32 × Mm)) (r : (Int32 × Mm) ⊕ Mm), f_X2_passFrost_b13 a1 x4 x5 s = some r → mtc (P_X2_passFrost_b13 l s0 D cy ad P a1 x4 x5 res M') (Q_X2_passFrost_b13 l s0 D cy ad P a1 x4 x5 res M') r → P_X2_passFrost_b13 l s0 D cy ad P a1 x4 x5 res M' s := by
  intro s r hr hk
  obtain ⟨x6, M⟩ := s
  unfold f_X2_passFrost_b13 at hr
  try dsimp only at hr
  dsimp only [P_X2_passFrost_b13]
  refine n_iload (n := 6) (by decide +kernel) rfl ?_
  refine n_iload (n := 5) (by decide +kernel) rfl ?_
  refine n_icmp_ge (off := 16) (tgt := 33) (by decide +kernel) (by decide) (fun hc2 => ?_) (fun hc2 => ?_)
  · rw [if_pos hc2] at hr
    cases hr
    refine n_msk [false, false, false, false, false, false, false] (lo2 := [.null, .null, .null, .null, .null, .null, .null]) rfl rfl ?_
    exact hk
  · rw [if_neg hc2] at hr
    refine n_aload_n (n := 0) (by decide +kernel) rfl ?_
    refine n_aload_n (n := 1) (by decide +kernel) rfl ?_
    refine n_iload (n := 4) (by decide +kernel) rfl ?_
    obtain ⟨M3, h3, hr⟩ := bso hr
    refine n_callVv G [_, _] (M1 := M3) (B_X2_passFrostyWinter G hp0 hp1 hs1 h3) (by decide) mX2_passFrostyWinter ml_RX2_75 hp0 (by decide +kernel) rfl rfl (Nat.le_of_ble_eq_true rfl) (by decide +kernel) ?_
    refine n_iincK (n := 6) (j := 1) (w := 1) (lo2 := [_, _, _, _, _, _, _]) (by decide +kernel) rfl rfl rfl ?_
    refine n_goto (off := -17) (tgt := 13) (by decide +kernel) (by decide) ?_
    cases hr
    exact hk
set_option maxRecDepth 100000 in
theorem W_X2_passFrost_b13 (G : GG l s0 b L xs D cy ad) {a1 : Nat} {x4 : Int32} {x5 : Int32}  (hp0 : P 18) (hp1 : P a1) (hs1 : SH a1 = 3) {s : (Int32 × Mm)} {e : Mm} (h : whl fu (f_X2_passFrost_b13 a1 x4 x5) s = some e) (res : Rs) (M' : Mm) : Q_X2_passFrost_b13 l s0 D cy ad P a1 x4 x5 res M' e → P_X2_passFrost_b13 l s0 D cy ad P a1 x4 x5 res M' s := whl_run (P := fun s => P_X2_passFrost_b13 l s0 D cy ad P a1 x4 x5 res M' s) (Q := fun e => Q_X2_passFrost_b13 l s0 D cy ad P a1 x4 x5 res M' e) (B_X2_passFrost_b13 G (res := res) (M' := M') (a1 := a1) (x4 := x4) (x5 := x5) hp0 hp1 hs1) fu s h
set_option maxRecDepth 100000 in
theorem B_X2_passFrost (G : GG l s0 b L xs D cy ad)  {a1 : Nat} {a2 : Nat} {x3 : Int32} {x4 : Int32} {x5 : Int32} {M : Mm} {r : Mm} (hp0 : P 18) (hp1 : P a1) (hs1 : SH a1 = 3) (hp2 : P a2) (hs2 : SH a2 = 8) (hr : f_X2_passFrost a1 a2 x3 x4 x5 M = some r) : Cl l s0 D cy ad P 14 KX2_passFrost [.ref 18, .ref a1, .ref a2, .int x3, .int x4, .int x5] M (.inl none) (r) := by
  refine cl_ofN (by decide +kernel) rfl rfl rfl (lo0 := [_, _, _, _, _, _, .null]) rfl ?_
  unfold f_X2_passFrost at hr
  refine n_aload_n (n := 0) (by decide +kernel) rfl ?_
  refine n_aload_n (n := 2) (by decide +kernel) rfl ?_
  obtain ⟨M1, h1, hr⟩ := bso hr
  refine n_callVv G [_] (M1 := M1) (B_X2_begin G hp0 hp2 hs2 h1) (by decide) mX2_begin ml_RX2_29 hp0 (by decide +kernel) rfl rfl (Nat.le_of_ble_eq_true rfl) (by decide +kernel) ?_
  refine n_aload_n (n := 0) (by decide +kernel) rfl ?_
  refine n_iload_n (n := 3) (by decide +kernel) rfl ?_
  refine n_putI G fl_RX2_69 hp0 (by decide +kernel) (by decide +kernel) ?_
  refine n_iconst (n := 0) (v := 0) (by decide +kernel) rfl ?_
  refine n_istore (n := 6) (lo2 := [_, _, _, _, _, _, _]) (by decide +kernel) (Nat.le_of_ble_eq_true rfl) rfl ?_
  obtain ⟨M4, h4, hr⟩ := bso hr
  refine n_msk [true, true, false, false, true, true, true] (lo2 := [_, _, .null, .null, _, _, _]) rfl rfl ?_
  refine (W_X2_passFrost_b13 G hp0 hp1 hs1 h4 _ _) ?_
  dsimp only [Q_X2_passFrost_b13]
  cases hr
  exact n_return (by decide +kernel)
set_option maxRecDepth 100000 in
theorem B_X2_howMany (G : GG l s0 b L xs D cy ad)   {M : Mm} {r : Int32} (hp0 : P 18) (hr : f_X2_howMany  M = some r) : Cl l s0 D cy ad P 13 KX2_howMany [.ref 18] M (.inl (some (.int r))) (M) := by
  refine cl_ofN (by decide +kernel) rfl rfl okI (lo0 := [_]) rfl ?_
  unfold f_X2_howMany at hr
  refine n_aload_n (n := 0) (by decide +kernel) rfl ?_
  refine n_getF (q := 19) G fl_RX2_12 hp0 (by decide +kernel) (by decide +kernel) (by decide +kernel) (fun hp1q => ?_)
  obtain ⟨v2, h2, hr⟩ := bso hr
  refine n_callVi G [] (x := v2) (B_X8_howManyAsked G hp1q (by decide +kernel) h2) (by decide) mX8_howManyAsked ml_RX2_37 hp1q (by decide +kernel) rfl rfl (Nat.le_of_ble_eq_true rfl) (by decide +kernel) ?_
  cases hr
  exact n_ireturn (by decide +kernel)
abbrev P_X8_sizesAsked_b4 (l : Launch) (s0 : State) (D : va_G) (cy : Nat → ClassId) (ad : Nat → Nat) (P : Nat → Prop) (a0 : Nat) (M : Mm) (res : Rs) (M' : Mm) (s : (Int32 × Int32)) : Prop := Rn l s0 D cy ad P 12 KX8_sizesAsked 4 [.ref a0, .int (s.1), .int (s.2)] [] M res M'
abbrev Q_X8_sizesAsked_b4 (l : Launch) (s0 : State) (D : va_G) (cy : Nat → ClassId) (ad : Nat → Nat) (P : Nat → Prop) (a0 : Nat) (M : Mm) (res : Rs) (M' : Mm) (e : Int32) : Prop := Rn l s0 D cy ad P 12 KX8_sizesAsked 38 [.null, .int (e), .null] [] M res M'
set_option maxRecDepth 100000 in
theorem B_X8_sizesAsked_b4 (G : GG l s0 b L xs D cy ad) {a0 : Nat} {M : Mm} {res : Rs} {M' : Mm} (hp0 : P a0) (hs0 : SH a0 = 8) : ∀ (s : (Int32 × Int32)) (r : (Int32 × Int32) ⊕ Int32), f_X8_sizesAsked_b4 a0 M s = some r → mtc (P_X8_sizesAsked_b4 l s0 D cy ad P a0 M res M') (Q_X8_sizesAsked_b4 l s0 D cy ad P a0 M res M') r → P_X8_sizesAsked_b4 l s0 D cy ad P a0 M res M' s := by
  intro s r hr hk
  obtain ⟨x1, x2⟩ := s
  unfold f_X8_sizesAsked_b4 at hr
  try dsimp only at hr
  dsimp only [P_X8_sizesAsked_b4]
  refine n_iload_n (n := 2) (by decide +kernel) rfl ?_
  refine n_aload_n (n := 0) (by decide +kernel) rfl ?_
  refine n_getI G fl_RX8_43 hp0 hs0 (by decide +kernel) ?_
  refine n_icmp_ge (off := 29) (tgt := 38) (by decide +kernel) (by decide) (fun hc1 => ?_) (fun hc1 => ?_)
  · rw [if_pos hc1] at hr
    cases hr
    refine n_msk [false, true, false] (lo2 := [.null, _, .null]) rfl rfl ?_
    exact hk
  · rw [if_neg hc1] at hr
    refine n_iload_n (n := 1) (by decide +kernel) rfl ?_
    refine n_aload_n (n := 0) (by decide +kernel) rfl ?_
    refine n_iload_n (n := 2) (by decide +kernel) rfl ?_
    obtain ⟨v2, h2, hr⟩ := bso hr
    refine n_callVi G [_] (x := v2) (B_X8_isAsked G hp0 hs0 h2) (by decide) mX8_isAsked ml_RX8_90 hp0 hs0 rfl rfl (Nat.le_of_ble_eq_true rfl) (by decide +kernel) ?_
    refine n_if_eq (off := 11) (tgt := 29) (by decide +kernel) (by decide) (fun hc3 => ?_) (fun hc3 => ?_)
    · rw [if_pos hc3] at hr
      refine n_iconst (n := 0) (v := 0) (by decide +kernel) rfl ?_
      refine n_iadd (by decide +kernel) ?_
      refine n_istore_n (n := 1) (lo2 := [_, _, _]) (by decide +kernel) (Nat.le_of_ble_eq_true rfl) rfl ?_
      refine n_iincK (n := 2) (j := 1) (w := 1) (lo2 := [_, _, _]) (by decide +kernel) rfl rfl rfl ?_
      refine n_goto (off := -31) (tgt := 4) (by decide +kernel) (by decide) ?_
      cases hr
      exact hk
    · rw [if_neg hc3] at hr
      refine n_aload_n (n := 0) (by decide +kernel) rfl ?_
      refine n_iload_n (n := 2) (by decide +kernel) rfl ?_
      obtain ⟨v4, h4, hr⟩ := bso hr
      refine n_callVi G [_] (x := v4) (B_X8_sizeOf G hp0 hs0 h4) (by decide) mX8_sizeOf ml_RX8_93 hp0 hs0 rfl rfl (Nat.le_of_ble_eq_true rfl) (by decide +kernel) ?_
      refine n_goto (off := 4) (tgt := 30) (by decide +kernel) (by decide) ?_
      refine n_iadd (by decide +kernel) ?_
      refine n_istore_n (n := 1) (lo2 := [_, _, _]) (by decide +kernel) (Nat.le_of_ble_eq_true rfl) rfl ?_
      refine n_iincK (n := 2) (j := 1) (w := 1) (lo2 := [_, _, _]) (by decide +kernel) rfl rfl rfl ?_
      refine n_goto (off := -31) (tgt := 4) (by decide +kernel) (by decide) ?_
      cases hr
      exact hk
set_option maxRecDepth 100000 in
theorem W_X8_sizesAsked_b4 (G : GG l s0 b L xs D cy ad) {a0 : Nat} {M : Mm} (hp0 : P a0) (hs0 : SH a0 = 8) {s : (Int32 × Int32)} {e : Int32} (h : whl fu (f_X8_sizesAsked_b4 a0 M) s = some e) (res : Rs) (M' : Mm) : Q_X8_sizesAsked_b4 l s0 D cy ad P a0 M res M' e → P_X8_sizesAsked_b4 l s0 D cy ad P a0 M res M' s := whl_run (P := fun s => P_X8_sizesAsked_b4 l s0 D cy ad P a0 M res M' s) (Q := fun e => Q_X8_sizesAsked_b4 l s0 D cy ad P a0 M res M' e) (B_X8_sizesAsked_b4 G (res := res) (M' := M') (a0 := a0) (M := M) hp0 hs0) fu s h
set_option maxRecDepth 100000 in
theorem B_X8_sizesAsked (G : GG l s0 b L xs D cy ad)  {a0 : Nat} {M : Mm} {r : Int32} (hp0 : P a0) (hs0 : SH a0 = 8) (hr : f_X8_sizesAsked a0 M = some r) : Cl l s0 D cy ad P 12 KX8_sizesAsked [.ref a0] M (.inl (some (.int r))) (M) := by
  refine cl_ofN (by decide +kernel) rfl rfl okI (lo0 := [_, .null, .null]) rfl ?_
  unfold f_X8_sizesAsked at hr
  refine n_iconst (n := 0) (v := 0) (by decide +kernel) rfl ?_
  refine n_istore_n (n := 1) (lo2 := [_, _, _]) (by decide +kernel) (Nat.le_of_ble_eq_true rfl) rfl ?_
  refine n_iconst (n := 0) (v := 0) (by decide +kernel) rfl ?_
  refine n_istore_n (n := 2) (lo2 := [_, _, _]) (by decide +kernel) (Nat.le_of_ble_eq_true rfl) rfl ?_
  obtain ⟨z1_5, h5, hr⟩ := bso hr
  refine (W_X8_sizesAsked_b4 G hp0 hs0 h5 _ _) ?_
  dsimp only [Q_X8_sizesAsked_b4]
  refine n_iload_n (n := 1) (by decide +kernel) rfl ?_
  cases hr
  exact n_ireturn (by decide +kernel)
set_option maxRecDepth 100000 in
theorem B_X2_allSizes (G : GG l s0 b L xs D cy ad)   {M : Mm} {r : Int32} (hp0 : P 18) (hr : f_X2_allSizes  M = some r) : Cl l s0 D cy ad P 13 KX2_allSizes [.ref 18] M (.inl (some (.int r))) (M) := by
  refine cl_ofN (by decide +kernel) rfl rfl okI (lo0 := [_]) rfl ?_
  unfold f_X2_allSizes at hr
  refine n_aload_n (n := 0) (by decide +kernel) rfl ?_
  refine n_getF (q := 19) G fl_RX2_12 hp0 (by decide +kernel) (by decide +kernel) (by decide +kernel) (fun hp1q => ?_)
  obtain ⟨v2, h2, hr⟩ := bso hr
  refine n_callVi G [] (x := v2) (B_X8_sizesAsked G hp1q (by decide +kernel) h2) (by decide) mX8_sizesAsked ml_RX2_93 hp1q (by decide +kernel) rfl rfl (Nat.le_of_ble_eq_true rfl) (by decide +kernel) ?_
  cases hr
  exact n_ireturn (by decide +kernel)
set_option maxRecDepth 100000 in
theorem B_X4_put (G : GG l s0 b L xs D cy ad)  {a0 : Nat} {x1 : Int32} {M : Mm} {r : Mm} (hp0 : P a0) (hs0 : SH a0 = 4) (hr : f_X4_put a0 x1 M = some r) : Cl l s0 D cy ad P 9 KX4_put [.ref a0, .int x1] M (.inl none) (r) := by
  refine cl_ofN (by decide +kernel) rfl rfl rfl (lo0 := [_, _]) rfl ?_
  unfold f_X4_put at hr
  refine n_aload_n (n := 0) (by decide +kernel) rfl ?_
  refine n_getI G fl_RX4_21 hp0 hs0 (by decide +kernel) ?_
  refine n_sipush (n := 150) (v := 150) (by decide +kernel) (by decide +kernel) ?_
  refine n_icmp_ge (off := 23) (tgt := 30) (by decide +kernel) (by decide) (fun hc1 => ?_) (fun hc1 => ?_)
  · rw [if_pos hc1] at hr
    cases hr
    exact n_return (by decide +kernel)
  · rw [if_neg hc1] at hr
    refine n_aload_n (n := 0) (by decide +kernel) rfl ?_
    refine n_getF (q := (a0 + 1)) G fl_RX4_11 hp0 hs0 (fr_4_0 hs0).1 (by decide +kernel) (fun hp2q => ?_)
    refine n_aload_n (n := 0) (by decide +kernel) rfl ?_
    refine n_getI G fl_RX4_21 hp0 hs0 (by decide +kernel) ?_
    refine n_iload_n (n := 1) (by decide +kernel) rfl ?_
    obtain ⟨M3, h3, hr⟩ := bso hr
    refine n_iast G h3 hp2q (fr_4_0 hs0).2.1 (fr_4_0 hs0).2.2 (by decide +kernel) ?_
    refine n_aload_n (n := 0) (by decide +kernel) rfl ?_
    refine n_dup rfl (by decide +kernel) ?_
    refine n_getI G fl_RX4_21 hp0 hs0 (by decide +kernel) ?_
    refine n_iconst (n := 1) (v := 1) (by decide +kernel) rfl ?_
    refine n_iadd (by decide +kernel) ?_
    refine n_putI G fl_RX4_21 hp0 hs0 (by decide +kernel) ?_
    cases hr
    exact n_return (by decide +kernel)
set_option maxRecDepth 100000 in
theorem B_X4_becomeTwiceSize (G : GG l s0 b L xs D cy ad)  {a0 : Nat} {M : Mm} {r : Mm} (hp0 : P a0) (hs0 : SH a0 = 4) (hr : f_X4_becomeTwiceSize a0 M = some r) : Cl l s0 D cy ad P 10 KX4_becomeTwiceSize [.ref a0] M (.inl none) (r) := by
  refine cl_ofN (by decide +kernel) rfl rfl rfl (lo0 := [_]) rfl ?_
  unfold f_X4_becomeTwiceSize at hr
  refine n_aload_n (n := 0) (by decide +kernel) rfl ?_
  refine n_iconst (n := 0) (v := 0) (by decide +kernel) rfl ?_
  refine n_putI G fl_RX4_21 hp0 hs0 (by decide +kernel) ?_
  refine n_aload_n (n := 0) (by decide +kernel) rfl ?_
  refine n_sipush (n := 1000) (v := 1000) (by decide +kernel) (by decide +kernel) ?_
  obtain ⟨M1, h1, hr⟩ := bso hr
  refine n_callVv G [_] (M1 := M1) (B_X4_put G hp0 hs0 h1) (by decide) mX4_put ml_RX4_25 hp0 hs0 rfl rfl (Nat.le_of_ble_eq_true rfl) (by decide +kernel) ?_
  refine n_aload_n (n := 0) (by decide +kernel) rfl ?_
  refine n_iconst (n := 2) (v := 2) (by decide +kernel) rfl ?_
  obtain ⟨M2, h2, hr⟩ := bso hr
  refine n_callVv G [_] (M1 := M2) (B_X4_put G hp0 hs0 h2) (by decide) mX4_put ml_RX4_25 hp0 hs0 rfl rfl (Nat.le_of_ble_eq_true rfl) (by decide +kernel) ?_
  refine n_aload_n (n := 0) (by decide +kernel) rfl ?_
  refine n_bipush (n := -42) (v := -42) (by decide +kernel) rfl ?_
  obtain ⟨M3, h3, hr⟩ := bso hr
  refine n_callVv G [_] (M1 := M3) (B_X4_put G hp0 hs0 h3) (by decide) mX4_put ml_RX4_25 hp0 hs0 rfl rfl (Nat.le_of_ble_eq_true rfl) (by decide +kernel) ?_
  cases hr
  exact n_return (by decide +kernel)
set_option maxRecDepth 100000 in
theorem B_X4_becomeNothing (G : GG l s0 b L xs D cy ad)  {a0 : Nat} {M : Mm} {r : Mm} (hp0 : P a0) (hs0 : SH a0 = 4) (hr : f_X4_becomeNothing a0 M = some r) : Cl l s0 D cy ad P 10 KX4_becomeNothing [.ref a0] M (.inl none) (r) := by
  refine cl_ofN (by decide +kernel) rfl rfl rfl (lo0 := [_]) rfl ?_
  unfold f_X4_becomeNothing at hr
  refine n_aload_n (n := 0) (by decide +kernel) rfl ?_
  refine n_iconst (n := 0) (v := 0) (by decide +kernel) rfl ?_
  refine n_putI G fl_RX4_21 hp0 hs0 (by decide +kernel) ?_
  refine n_aload_n (n := 0) (by decide +kernel) rfl ?_
  refine n_iconst (n := 0) (v := 0) (by decide +kernel) rfl ?_
  obtain ⟨M1, h1, hr⟩ := bso hr
  refine n_callVv G [_] (M1 := M1) (B_X4_put G hp0 hs0 h1) (by decide) mX4_put ml_RX4_25 hp0 hs0 rfl rfl (Nat.le_of_ble_eq_true rfl) (by decide +kernel) ?_
  cases hr
  exact n_return (by decide +kernel)
set_option maxRecDepth 100000 in
theorem B_X3_forget (G : GG l s0 b L xs D cy ad)  {a0 : Nat} {M : Mm} {r : Mm} (hp0 : P a0) (hs0 : SH a0 = 3) (hr : f_X3_forget a0 M = some r) : Cl l s0 D cy ad P 11 KX3_forget [.ref a0] M (.inl none) (r) := by
  refine cl_ofN (by decide +kernel) rfl rfl rfl (lo0 := [_]) rfl ?_
  unfold f_X3_forget at hr
  refine n_aload_n (n := 0) (by decide +kernel) rfl ?_
  refine n_bipush (n := 6) (v := 6) (by decide +kernel) rfl ?_
  refine n_putI G fl_RX3_28 hp0 hs0 (by decide +kernel) ?_
  refine n_aload_n (n := 0) (by decide +kernel) rfl ?_
  refine n_iconst (n := 4) (v := 4) (by decide +kernel) rfl ?_
  refine n_putI G fl_RX3_32 hp0 hs0 (by decide +kernel) ?_
  refine n_aload_n (n := 0) (by decide +kernel) rfl ?_
  refine n_getF (q := (a0 + 1)) G fl_RX3_9 hp0 hs0 (fr_3_0 hs0).1 (by decide +kernel) (fun hp1q => ?_)
  refine n_iconst (n := 5) (v := 5) (by decide +kernel) rfl ?_
  obtain ⟨M2, h2, hr⟩ := bso hr
  refine n_callSv G [_, _] (M1 := M2) (B_J7_fill_53178 G hp1q (fr_3_0 hs0).2.1 h2) (by decide) mJ7_fill_53178 ml_RX3_35 rfl rfl (Nat.le_of_ble_eq_true rfl) (by decide +kernel) ?_
  refine n_aload_n (n := 0) (by decide +kernel) rfl ?_
  refine n_iconst (n := 2) (v := 2) (by decide +kernel) rfl ?_
  refine n_putI G fl_RX3_41 hp0 hs0 (by decide +kernel) ?_
  refine n_aload_n (n := 0) (by decide +kernel) rfl ?_
  refine n_iconst (n := 4) (v := 4) (by decide +kernel) rfl ?_
  refine n_putI G fl_RX3_44 hp0 hs0 (by decide +kernel) ?_
  refine n_aload_n (n := 0) (by decide +kernel) rfl ?_
  refine n_iconst (n := 1) (v := 1) (by decide +kernel) rfl ?_
  refine n_putI G fl_RX3_47 hp0 hs0 (by decide +kernel) ?_
  refine n_aload_n (n := 0) (by decide +kernel) rfl ?_
  refine n_iconst (n := 3) (v := 3) (by decide +kernel) rfl ?_
  refine n_putI G fl_RX3_50 hp0 hs0 (by decide +kernel) ?_
  refine n_aload_n (n := 0) (by decide +kernel) rfl ?_
  refine n_iconst (n := 1) (v := 1) (by decide +kernel) rfl ?_
  refine n_putI G fl_RX3_53 hp0 hs0 (by decide +kernel) ?_
  refine n_aload_n (n := 0) (by decide +kernel) rfl ?_
  refine n_bipush (n := 12) (v := 12) (by decide +kernel) rfl ?_
  refine n_putI G fl_RX3_56 hp0 hs0 (by decide +kernel) ?_
  refine n_aload_n (n := 0) (by decide +kernel) rfl ?_
  refine n_iconst (n := 5) (v := 5) (by decide +kernel) rfl ?_
  refine n_putI G fl_RX3_59 hp0 hs0 (by decide +kernel) ?_
  refine n_aload_n (n := 0) (by decide +kernel) rfl ?_
  refine n_getD (t := 4) G fl_RX3_18 hp0 hs0 (dr_3_1 hs0).1 (by decide +kernel) (fun hp3q hs3q => ?_)
  obtain ⟨M4, h4, hr⟩ := bso hr
  refine n_callVv G [] (M1 := M4) (B_X4_becomeTwiceSize G hp3q hs3q h4) (by decide) mX4_becomeTwiceSize ml_RX3_62 hp3q hs3q rfl rfl (Nat.le_of_ble_eq_true rfl) (by decide +kernel) ?_
  refine n_aload_n (n := 0) (by decide +kernel) rfl ?_
  refine n_getD (t := 4) G fl_RX3_22 hp0 hs0 (dr_3_2 hs0).1 (by decide +kernel) (fun hp5q hs5q => ?_)
  obtain ⟨M6, h6, hr⟩ := bso hr
  refine n_callVv G [] (M1 := M6) (B_X4_becomeNothing G hp5q hs5q h6) (by decide) mX4_becomeNothing ml_RX3_65 hp5q hs5q rfl rfl (Nat.le_of_ble_eq_true rfl) (by decide +kernel) ?_
  cases hr
  exact n_return (by decide +kernel)
set_option maxRecDepth 100000 in
theorem B_X3_swapHarm (G : GG l s0 b L xs D cy ad)  {a0 : Nat} {a1 : Nat} {M : Mm} {r : (Nat × Mm)} (hp0 : P a0) (hs0 : SH a0 = 3) (hp1 : P a1) (hs1 : SH a1 = 4) (hr : f_X3_swapHarm a0 a1 M = some r) : Cl l s0 D cy ad P 9 KX3_swapHarm [.ref a0, .ref a1] M (.inl (some (.ref r.1))) (r.2) := by
  refine cl_ofN (by decide +kernel) rfl rfl ⟨_, rfl, Or.inl ⟨_, rfl⟩⟩ (lo0 := [_, _, .null]) rfl ?_
  unfold f_X3_swapHarm at hr
  refine n_aload_n (n := 0) (by decide +kernel) rfl ?_
  refine n_getD (t := 4) G fl_RX3_18 hp0 hs0 (dr_3_1 hs0).1 (by decide +kernel) (fun hp1q hs1q => ?_)
  refine n_astore_n (n := 2) (lo2 := [_, _, _]) (by decide +kernel) (Nat.le_of_ble_eq_true rfl) rfl ?_
  refine n_aload_n (n := 0) (by decide +kernel) rfl ?_
  refine n_aload_n (n := 1) (by decide +kernel) rfl ?_
  refine n_putD G fl_RX3_18 hp0 hs0 hp1 hs1 (dr_3_1 hs0).1 (dr_3_1 hs0).2 (by decide +kernel) ?_
  refine n_aload_n (n := 2) (by decide +kernel) rfl ?_
  cases hr
  exact n_areturn (by decide +kernel)
set_option maxRecDepth 100000 in
theorem BR_X3_swapHarm {a0 a1 : Nat} {M : Mm} {r : (Nat × Mm)} (hp0 : P a0) (hs0 : SH a0 = 3) (hp1 : P a1) (hs1 : SH a1 = 4) (hr : f_X3_swapHarm a0 a1 M = some r) (hY : Lay P M) : P r.1 ∧ SH r.1 = 4 := by
  cases hr
  obtain ⟨q, h1, h2, h3⟩ := hY.2.2 a0 1 4 hp0 (dr_3_1 hs0).1
  show P (rd M a0 1) ∧ SH (rd M a0 1) = 4
  have : rd M a0 1 = q := by unfold rd; rw [h1]; rfl
  rw [this]; exact ⟨h2, h3⟩
set_option maxRecDepth 100000 in
theorem B_X3_swapRise (G : GG l s0 b L xs D cy ad)  {a0 : Nat} {a1 : Nat} {M : Mm} {r : (Nat × Mm)} (hp0 : P a0) (hs0 : SH a0 = 3) (hp1 : P a1) (hs1 : SH a1 = 4) (hr : f_X3_swapRise a0 a1 M = some r) : Cl l s0 D cy ad P 9 KX3_swapRise [.ref a0, .ref a1] M (.inl (some (.ref r.1))) (r.2) := by
  refine cl_ofN (by decide +kernel) rfl rfl ⟨_, rfl, Or.inl ⟨_, rfl⟩⟩ (lo0 := [_, _, .null]) rfl ?_
  unfold f_X3_swapRise at hr
  refine n_aload_n (n := 0) (by decide +kernel) rfl ?_
  refine n_getD (t := 4) G fl_RX3_22 hp0 hs0 (dr_3_2 hs0).1 (by decide +kernel) (fun hp1q hs1q => ?_)
  refine n_astore_n (n := 2) (lo2 := [_, _, _]) (by decide +kernel) (Nat.le_of_ble_eq_true rfl) rfl ?_
  refine n_aload_n (n := 0) (by decide +kernel) rfl ?_
  refine n_aload_n (n := 1) (by decide +kernel) rfl ?_
  refine n_putD G fl_RX3_22 hp0 hs0 hp1 hs1 (dr_3_2 hs0).1 (dr_3_2 hs0).2 (by decide +kernel) ?_
  refine n_aload_n (n := 2) (by decide +kernel) rfl ?_
  cases hr
  exact n_areturn (by decide +kernel)
set_option maxRecDepth 100000 in
theorem BR_X3_swapRise {a0 a1 : Nat} {M : Mm} {r : (Nat × Mm)} (hp0 : P a0) (hs0 : SH a0 = 3) (hp1 : P a1) (hs1 : SH a1 = 4) (hr : f_X3_swapRise a0 a1 M = some r) (hY : Lay P M) : P r.1 ∧ SH r.1 = 4 := by
  cases hr
  obtain ⟨q, h1, h2, h3⟩ := hY.2.2 a0 2 4 hp0 (dr_3_2 hs0).1
  show P (rd M a0 2) ∧ SH (rd M a0 2) = 4
  have : rd M a0 2 = q := by unfold rd; rw [h1]; rfl
  rw [this]; exact ⟨h2, h3⟩
set_option maxRecDepth 100000 in
theorem B_X8_forget (G : GG l s0 b L xs D cy ad)  {a0 : Nat} {M : Mm} {r : Mm} (hp0 : P a0) (hs0 : SH a0 = 8) (hr : f_X8_forget a0 M = some r) : Cl l s0 D cy ad P 10 KX8_forget [.ref a0] M (.inl none) (r) := by
  refine cl_ofN (by decide +kernel) rfl rfl rfl (lo0 := [_]) rfl ?_
  unfold f_X8_forget at hr
  refine n_aload_n (n := 0) (by decide +kernel) rfl ?_
  refine n_getF (q := (a0 + 5)) G fl_RX8_24 hp0 hs0 (fr_8_4 hs0).1 (by decide +kernel) (fun hp1q => ?_)
  refine n_iconst (n := 0) (v := 0) (by decide +kernel) rfl ?_
  obtain ⟨M2, h2, hr⟩ := bso hr
  refine n_callSv G [_, _] (M1 := M2) (B_J7_fill_53178 G hp1q (fr_8_4 hs0).2.1 h2) (by decide) mJ7_fill_53178 ml_RX8_33 rfl rfl (Nat.le_of_ble_eq_true rfl) (by decide +kernel) ?_
  refine n_aload_n (n := 0) (by decide +kernel) rfl ?_
  refine n_getF (q := (a0 + 6)) G fl_RX8_27 hp0 hs0 (fr_8_5 hs0).1 (by decide +kernel) (fun hp3q => ?_)
  refine n_iconst (n := 0) (v := 0) (by decide +kernel) rfl ?_
  obtain ⟨M4, h4, hr⟩ := bso hr
  refine n_callSv G [_, _] (M1 := M4) (B_J7_fill_53178 G hp3q (fr_8_5 hs0).2.1 h4) (by decide) mJ7_fill_53178 ml_RX8_33 rfl rfl (Nat.le_of_ble_eq_true rfl) (by decide +kernel) ?_
  refine n_aload_n (n := 0) (by decide +kernel) rfl ?_
  refine n_getF (q := (a0 + 7)) G fl_RX8_30 hp0 hs0 (fr_8_6 hs0).1 (by decide +kernel) (fun hp5q => ?_)
  refine n_iconst (n := 0) (v := 0) (by decide +kernel) rfl ?_
  obtain ⟨M6, h6, hr⟩ := bso hr
  refine n_callSv G [_, _] (M1 := M6) (B_J7_fill_53178 G hp5q (fr_8_6 hs0).2.1 h6) (by decide) mJ7_fill_53178 ml_RX8_33 rfl rfl (Nat.le_of_ble_eq_true rfl) (by decide +kernel) ?_
  refine n_aload_n (n := 0) (by decide +kernel) rfl ?_
  refine n_iconst (n := 0) (v := 0) (by decide +kernel) rfl ?_
  refine n_putI G fl_RX8_39 hp0 hs0 (by decide +kernel) ?_
  refine n_aload_n (n := 0) (by decide +kernel) rfl ?_
  refine n_iconst (n := 0) (v := 0) (by decide +kernel) rfl ?_
  refine n_putI G fl_RX8_43 hp0 hs0 (by decide +kernel) ?_
  refine n_aload_n (n := 0) (by decide +kernel) rfl ?_
  refine n_iconst (n := 0) (v := 0) (by decide +kernel) rfl ?_
  refine n_putI G fl_RX8_46 hp0 hs0 (by decide +kernel) ?_
  refine n_aload_n (n := 0) (by decide +kernel) rfl ?_
  refine n_iconst (n := 0) (v := 0) (by decide +kernel) rfl ?_
  refine n_putI G fl_RX8_49 hp0 hs0 (by decide +kernel) ?_
  refine n_aload_n (n := 0) (by decide +kernel) rfl ?_
  refine n_iconst (n := 0) (v := 0) (by decide +kernel) rfl ?_
  refine n_putI G fl_RX8_52 hp0 hs0 (by decide +kernel) ?_
  refine n_aload_n (n := 0) (by decide +kernel) rfl ?_
  refine n_iconst (n := 0) (v := 0) (by decide +kernel) rfl ?_
  refine n_putI G fl_RX8_55 hp0 hs0 (by decide +kernel) ?_
  refine n_aload_n (n := 0) (by decide +kernel) rfl ?_
  refine n_iconst (n := 0) (v := 0) (by decide +kernel) rfl ?_
  refine n_putI G fl_RX8_58 hp0 hs0 (by decide +kernel) ?_
  refine n_aload_n (n := 0) (by decide +kernel) rfl ?_
  refine n_iconst (n := 0) (v := 0) (by decide +kernel) rfl ?_
  refine n_putI G fl_RX8_61 hp0 hs0 (by decide +kernel) ?_
  refine n_aload_n (n := 0) (by decide +kernel) rfl ?_
  refine n_iconst (n := 0) (v := 0) (by decide +kernel) rfl ?_
  refine n_putI G fl_RX8_64 hp0 hs0 (by decide +kernel) ?_
  cases hr
  exact n_return (by decide +kernel)
abbrev P_X7_isWord_b20 (l : Launch) (s0 : State) (D : va_G) (cy : Nat → ClassId) (ad : Nat → Nat) (P : Nat → Prop) (t1 : Nat) (x2 : Int32) (x3 : Int32) (M : Mm) (res : Rs) (M' : Mm) (s : Int32) : Prop := Rn l s0 D cy ad P 10 KX7_isWord 20 [.ref 1, .ref (100001 + t1), .int x2, .int x3, .int (s)] [] M res M'
abbrev Q_X7_isWord_b20 (l : Launch) (s0 : State) (D : va_G) (cy : Nat → ClassId) (ad : Nat → Nat) (P : Nat → Prop) (t1 : Nat) (x2 : Int32) (x3 : Int32) (M : Mm) (res : Rs) (M' : Mm) (e : (Unit ⊕ Unit)) : Prop := (match e with | .inl e => Rn l s0 D cy ad P 10 KX7_isWord 57 [.null, .null, .null, .null, .null] [] M res M' | .inr e => Rn l s0 D cy ad P 10 KX7_isWord 65 [.null, .null, .null, .null, .null] [] M res M')
set_option maxRecDepth 100000 in
theorem B_X7_isWord_b20 (G : GG l s0 b L xs D cy ad) {t1 : Nat} {x2 : Int32} {x3 : Int32} {M : Mm} {res : Rs} {M' : Mm} (hp0 : P 1) (ht1 : t1 < 6) : ∀ (s : Int32) (r : Int32 ⊕ (Unit ⊕ Unit)), f_X7_isWord_b20 t1 x2 x3 M s = some r → mtc (P_X7_isWord_b20 l s0 D cy ad P t1 x2 x3 M res M') (Q_X7_isWord_b20 l s0 D cy ad P t1 x2 x3 M res M') r → P_X7_isWord_b20 l s0 D cy ad P t1 x2 x3 M res M' s := by
  intro x4 r hr hk
  unfold f_X7_isWord_b20 at hr
  try dsimp only at hr
  dsimp only [P_X7_isWord_b20]
  refine n_iload (n := 4) (by decide +kernel) rfl ?_
  refine n_iload_n (n := 3) (by decide +kernel) rfl ?_
  refine n_icmp_ge (off := 42) (tgt := 65) (by decide +kernel) (by decide) (fun hc2 => ?_) (fun hc2 => ?_)
  · rw [if_pos hc2] at hr
    cases hr
    refine n_msk [false, false, false, false, false] (lo2 := [.null, .null, .null, .null, .null]) rfl rfl ?_
    exact hk
  · rw [if_neg hc2] at hr
    refine n_iload (n := 4) (by decide +kernel) rfl ?_
    refine n_aload_n (n := 1) (by decide +kernel) rfl ?_
    refine n_slenS G ht1 ml_RX7_69 (by decide) (Nat.le_of_ble_eq_true rfl) (by decide +kernel) ?_
    refine n_icmp_ge (off := 33) (tgt := 65) (by decide +kernel) (by decide) (fun hc3 => ?_) (fun hc3 => ?_)
    · rw [if_pos hc3] at hr
      cases hr
      refine n_msk [false, false, false, false, false] (lo2 := [.null, .null, .null, .null, .null]) rfl rfl ?_
      exact hk
    · rw [if_neg hc3] at hr
      refine n_aload_n (n := 1) (by decide +kernel) rfl ?_
      refine n_iload (n := 4) (by decide +kernel) rfl ?_
      obtain ⟨v4, h4, hr⟩ := bso hr
      refine n_schr G h4 ht1 ml_RX7_73 (by decide) (Nat.le_of_ble_eq_true rfl) (by decide +kernel) ?_
      refine n_aload_n (n := 0) (by decide +kernel) rfl ?_
      refine n_aload_n (n := 0) (by decide +kernel) rfl ?_
      refine n_getI G fl_RX7_61 hp0 (by decide +kernel) (by decide +kernel) ?_
      refine n_iload (n := 4) (by decide +kernel) rfl ?_
      refine n_iadd (by decide +kernel) ?_
      refine n_iload_n (n := 2) (by decide +kernel) rfl ?_
      refine n_isub (by decide +kernel) ?_
      obtain ⟨v5, h5, hr⟩ := bso hr
      refine n_callVi G [_] (x := v5) (B_X7_byteAt G hp0 h5) (by decide) mX7_byteAt ml_RX7_41 hp0 (by decide +kernel) rfl rfl (Nat.le_of_ble_eq_true rfl) (by decide +kernel) ?_
      refine n_icmp_eq (off := 5) (tgt := 59) (by decide +kernel) (by decide) (fun hc6 => ?_) (fun hc6 => ?_)
      · rw [if_pos hc6] at hr
        refine n_iincK (n := 4) (j := 1) (w := 1) (lo2 := [_, _, _, _, _]) (by decide +kernel) rfl rfl rfl ?_
        refine n_goto (off := -42) (tgt := 20) (by decide +kernel) (by decide) ?_
        cases hr
        exact hk
      · rw [if_neg hc6] at hr
        cases hr
        refine n_msk [false, false, false, false, false] (lo2 := [.null, .null, .null, .null, .null]) rfl rfl ?_
        exact hk
set_option maxRecDepth 100000 in
theorem W_X7_isWord_b20 (G : GG l s0 b L xs D cy ad) {t1 : Nat} {x2 : Int32} {x3 : Int32} {M : Mm} (hp0 : P 1) (ht1 : t1 < 6) {s : Int32} {e : (Unit ⊕ Unit)} (h : whl fu (f_X7_isWord_b20 t1 x2 x3 M) s = some e) (res : Rs) (M' : Mm) : Q_X7_isWord_b20 l s0 D cy ad P t1 x2 x3 M res M' e → P_X7_isWord_b20 l s0 D cy ad P t1 x2 x3 M res M' s := whl_run (P := fun s => P_X7_isWord_b20 l s0 D cy ad P t1 x2 x3 M res M' s) (Q := fun e => Q_X7_isWord_b20 l s0 D cy ad P t1 x2 x3 M res M' e) (B_X7_isWord_b20 G (res := res) (M' := M') (t1 := t1) (x2 := x2) (x3 := x3) (M := M) hp0 ht1) fu s h
set_option maxRecDepth 100000 in
theorem B_X7_isWord (G : GG l s0 b L xs D cy ad)  {t1 : Nat} {x2 : Int32} {x3 : Int32} {M : Mm} {r : Int32} (hp0 : P 1) (ht1 : t1 < 6) (hr : f_X7_isWord t1 x2 x3 M = some r) : Cl l s0 D cy ad P 10 KX7_isWord [.ref 1, .ref (100001 + t1), .int x2, .int x3] M (.inl (some (.int r))) (M) := by
  unfold f_X7_isWord at hr
  obtain ⟨v0, h0, h1⟩ := bso hr
  clear hr
  obtain ⟨hb, rfl⟩ := rB_in h1
  have hr := h0
  clear h0
  refine cl_ofN (by decide +kernel) rfl rfl (okB hb) (lo0 := [_, _, _, _, .null]) rfl ?_
  unfold g_X7_isWord at hr
  refine n_iload_n (n := 3) (by decide +kernel) rfl ?_
  refine n_iload_n (n := 2) (by decide +kernel) rfl ?_
  refine n_isub (by decide +kernel) ?_
  refine n_aload_n (n := 0) (by decide +kernel) rfl ?_
  refine n_getI G fl_RX7_35 hp0 (by decide +kernel) (by decide +kernel) ?_
  refine n_aload_n (n := 0) (by decide +kernel) rfl ?_
  refine n_getI G fl_RX7_61 hp0 (by decide +kernel) (by decide +kernel) ?_
  refine n_isub (by decide +kernel) ?_
  refine n_icmp_eq (off := 5) (tgt := 17) (by decide +kernel) (by decide) (fun hc1 => ?_) (fun hc1 => ?_)
  · rw [if_pos hc1] at hr
    refine n_iload_n (n := 2) (by decide +kernel) rfl ?_
    refine n_istore (n := 4) (lo2 := [_, _, _, _, _]) (by decide +kernel) (Nat.le_of_ble_eq_true rfl) rfl ?_
    obtain ⟨e7, h7, hr⟩ := bso hr
    refine (W_X7_isWord_b20 G hp0 ht1 h7 _ _) ?_
    rcases e7 with _ | _
    · try dsimp only at hr
      dsimp only [Q_X7_isWord_b20]
      refine n_iconst (n := 0) (v := 0) (by decide +kernel) rfl ?_
      cases hr
      exact n_ireturn (by decide +kernel)
    · try dsimp only at hr
      dsimp only [Q_X7_isWord_b20]
      refine n_iconst (n := 1) (v := 1) (by decide +kernel) rfl ?_
      cases hr
      exact n_ireturn (by decide +kernel)
  · rw [if_neg hc1] at hr
    refine n_iconst (n := 0) (v := 0) (by decide +kernel) rfl ?_
    cases hr
    exact n_ireturn (by decide +kernel)
abbrev P_X7_indexAmong_b7 (l : Launch) (s0 : State) (D : va_G) (cy : Nat → ClassId) (ad : Nat → Nat) (P : Nat → Prop) (t1 : Nat) (M : Mm) (res : Rs) (M' : Mm) (s : (Int32 × Int32 × Int32)) : Prop := Rn l s0 D cy ad P 11 KX7_indexAmong 7 [.ref 1, .ref (100001 + t1), .int (s.1), .int (s.2.1), .int (s.2.2)] [] M res M'
abbrev Q_X7_indexAmong_b7 (l : Launch) (s0 : State) (D : va_G) (cy : Nat → ClassId) (ad : Nat → Nat) (P : Nat → Prop) (t1 : Nat) (M : Mm) (res : Rs) (M' : Mm) (e : (Int32 ⊕ Unit)) : Prop := (match e with | .inl e => Rn l s0 D cy ad P 11 KX7_indexAmong 47 [.null, .null, .int (e), .null, .null] [] M res M' | .inr e => Rn l s0 D cy ad P 11 KX7_indexAmong 63 [.null, .null, .null, .null, .null] [] M res M')
set_option maxRecDepth 100000 in
theorem B_X7_indexAmong_j36 (G : GG l s0 b L xs D cy ad) {t1 : Nat} {x2 : Int32} {x3 : Int32} {x4 : Int32} {M : Mm}  {res : Rs} {M' : Mm} {r : ((Int32 × Int32 × Int32) ⊕ (Int32 ⊕ Unit))} (hp0 : P 1) (ht1 : t1 < 6) (hr : f_X7_indexAmong_j36 t1 x2 x3 x4 M = some r) (hk : mtc (P_X7_indexAmong_b7 l s0 D cy ad P t1 M res M') (Q_X7_indexAmong_b7 l s0 D cy ad P t1 M res M') r) : Rn l s0 D cy ad P 11 KX7_indexAmong 36 [.ref 1, .ref (100001 + t1), .int x2, .int x3, .int x4] [] M res M' := by
  unfold f_X7_indexAmong_j36 at hr
  refine n_aload_n (n := 0) (by decide +kernel) rfl ?_
  refine n_aload_n (n := 1) (by decide +kernel) rfl ?_
  refine n_iload_n (n := 3) (by decide +kernel) rfl ?_
  refine n_iload (n := 4) (by decide +kernel) rfl ?_
  obtain ⟨v3, h3, hr⟩ := bso hr
  refine n_callVi G [_, _, _] (x := v3) (B_X7_isWord G hp0 ht1 h3) (by decide) mX7_isWord ml_RX7_77 hp0 (by decide +kernel) rfl rfl (Nat.le_of_ble_eq_true rfl) (by decide +kernel) ?_
  refine n_if_eq (off := 5) (tgt := 49) (by decide +kernel) (by decide) (fun hc4 => ?_) (fun hc4 => ?_)
  · rw [if_pos hc4] at hr
    refine n_iincK (n := 2) (j := 1) (w := 1) (lo2 := [_, _, _, _, _]) (by decide +kernel) rfl rfl rfl ?_
    refine n_iload (n := 4) (by decide +kernel) rfl ?_
    refine n_iconst (n := 1) (v := 1) (by decide +kernel) rfl ?_
    refine n_iadd (by decide +kernel) ?_
    refine n_istore_n (n := 3) (lo2 := [_, _, _, _, _]) (by decide +kernel) (Nat.le_of_ble_eq_true rfl) rfl ?_
    refine n_iincK (n := 4) (j := 1) (w := 1) (lo2 := [_, _, _, _, _]) (by decide +kernel) rfl rfl rfl ?_
    refine n_goto (off := -53) (tgt := 7) (by decide +kernel) (by decide) ?_
    cases hr
    exact hk
  · rw [if_neg hc4] at hr
    cases hr
    refine n_msk [false, false, true, false, false] (lo2 := [.null, .null, _, .null, .null]) rfl rfl ?_
    exact hk
set_option maxRecDepth 100000 in
theorem B_X7_indexAmong_b7 (G : GG l s0 b L xs D cy ad) {t1 : Nat} {M : Mm} {res : Rs} {M' : Mm} (hp0 : P 1) (ht1 : t1 < 6) : ∀ (s : (Int32 × Int32 × Int32)) (r : (Int32 × Int32 × Int32) ⊕ (Int32 ⊕ Unit)), f_X7_indexAmong_b7 t1 M s = some r → mtc (P_X7_indexAmong_b7 l s0 D cy ad P t1 M res M') (Q_X7_indexAmong_b7 l s0 D cy ad P t1 M res M') r → P_X7_indexAmong_b7 l s0 D cy ad P t1 M res M' s := by
  intro s r hr hk
  obtain ⟨x2, x3, x4⟩ := s
  unfold f_X7_indexAmong_b7 at hr
  try dsimp only at hr
  dsimp only [P_X7_indexAmong_b7]
  refine n_iload (n := 4) (by decide +kernel) rfl ?_
  refine n_aload_n (n := 1) (by decide +kernel) rfl ?_
  refine n_slenS G ht1 ml_RX7_69 (by decide) (Nat.le_of_ble_eq_true rfl) (by decide +kernel) ?_
  refine n_icmp_gt (off := 50) (tgt := 63) (by decide +kernel) (by decide) (fun hc1 => ?_) (fun hc1 => ?_)
  · rw [if_pos hc1] at hr
    cases hr
    refine n_msk [false, false, false, false, false] (lo2 := [.null, .null, .null, .null, .null]) rfl rfl ?_
    exact hk
  · rw [if_neg hc1] at hr
    refine n_iload (n := 4) (by decide +kernel) rfl ?_
    refine n_aload_n (n := 1) (by decide +kernel) rfl ?_
    refine n_slenS G ht1 ml_RX7_69 (by decide) (Nat.le_of_ble_eq_true rfl) (by decide +kernel) ?_
    refine n_icmp_eq (off := 14) (tgt := 36) (by decide +kernel) (by decide) (fun hc2 => ?_) (fun hc2 => ?_)
    · rw [if_pos hc2] at hr
      exact B_X7_indexAmong_j36 G hp0 ht1 hr hk
    · rw [if_neg hc2] at hr
      refine n_aload_n (n := 1) (by decide +kernel) rfl ?_
      refine n_iload (n := 4) (by decide +kernel) rfl ?_
      obtain ⟨v5, h5, hr⟩ := bso hr
      refine n_schr G h5 ht1 ml_RX7_73 (by decide) (Nat.le_of_ble_eq_true rfl) (by decide +kernel) ?_
      refine n_bipush (n := 32) (v := 32) (by decide +kernel) rfl ?_
      refine n_icmp_ne (off := 24) (tgt := 57) (by decide +kernel) (by decide) (fun hc6 => ?_) (fun hc6 => ?_)
      · rw [if_neg hc6] at hr
        refine n_iincK (n := 4) (j := 1) (w := 1) (lo2 := [_, _, _, _, _]) (by decide +kernel) rfl rfl rfl ?_
        refine n_goto (off := -53) (tgt := 7) (by decide +kernel) (by decide) ?_
        cases hr
        exact hk
      · rw [if_pos hc6] at hr
        exact B_X7_indexAmong_j36 G hp0 ht1 hr hk
set_option maxRecDepth 100000 in
theorem W_X7_indexAmong_b7 (G : GG l s0 b L xs D cy ad) {t1 : Nat} {M : Mm} (hp0 : P 1) (ht1 : t1 < 6) {s : (Int32 × Int32 × Int32)} {e : (Int32 ⊕ Unit)} (h : whl fu (f_X7_indexAmong_b7 t1 M) s = some e) (res : Rs) (M' : Mm) : Q_X7_indexAmong_b7 l s0 D cy ad P t1 M res M' e → P_X7_indexAmong_b7 l s0 D cy ad P t1 M res M' s := whl_run (P := fun s => P_X7_indexAmong_b7 l s0 D cy ad P t1 M res M' s) (Q := fun e => Q_X7_indexAmong_b7 l s0 D cy ad P t1 M res M' e) (B_X7_indexAmong_b7 G (res := res) (M' := M') (t1 := t1) (M := M) hp0 ht1) fu s h
set_option maxRecDepth 100000 in
theorem B_X7_indexAmong (G : GG l s0 b L xs D cy ad)  {t1 : Nat} {M : Mm} {r : Int32} (hp0 : P 1) (ht1 : t1 < 6) (hr : f_X7_indexAmong t1 M = some r) : Cl l s0 D cy ad P 11 KX7_indexAmong [.ref 1, .ref (100001 + t1)] M (.inl (some (.int r))) (M) := by
  refine cl_ofN (by decide +kernel) rfl rfl okI (lo0 := [_, _, .null, .null, .null]) rfl ?_
  unfold f_X7_indexAmong at hr
  refine n_iconst (n := 0) (v := 0) (by decide +kernel) rfl ?_
  refine n_istore_n (n := 2) (lo2 := [_, _, _, _, _]) (by decide +kernel) (Nat.le_of_ble_eq_true rfl) rfl ?_
  refine n_iconst (n := 0) (v := 0) (by decide +kernel) rfl ?_
  refine n_istore_n (n := 3) (lo2 := [_, _, _, _, _]) (by decide +kernel) (Nat.le_of_ble_eq_true rfl) rfl ?_
  refine n_iconst (n := 0) (v := 0) (by decide +kernel) rfl ?_
  refine n_istore (n := 4) (lo2 := [_, _, _, _, _]) (by decide +kernel) (Nat.le_of_ble_eq_true rfl) rfl ?_
  obtain ⟨e7, h7, hr⟩ := bso hr
  refine (W_X7_indexAmong_b7 G hp0 ht1 h7 _ _) ?_
  rcases e7 with z2_7 | _
  · try dsimp only at hr
    dsimp only [Q_X7_indexAmong_b7]
    refine n_iload_n (n := 2) (by decide +kernel) rfl ?_
    cases hr
    exact n_ireturn (by decide +kernel)
  · try dsimp only at hr
    dsimp only [Q_X7_indexAmong_b7]
    refine n_iconst (n := -1) (v := -1) (by decide +kernel) rfl ?_
    cases hr
    exact n_ireturn (by decide +kernel)
abbrev P_X7_readWord_b13 (l : Launch) (s0 : State) (D : va_G) (cy : Nat → ClassId) (ad : Nat → Nat) (P : Nat → Prop) (t1 : Nat)  (res : Rs) (M' : Mm) (s : Mm) : Prop := Rn l s0 D cy ad P 12 KX7_readWord 13 [.ref 1, .ref (100001 + t1), .null] [] (s) res M'
abbrev Q_X7_readWord_b13 (l : Launch) (s0 : State) (D : va_G) (cy : Nat → ClassId) (ad : Nat → Nat) (P : Nat → Prop) (t1 : Nat)  (res : Rs) (M' : Mm) (e : Mm) : Prop := Rn l s0 D cy ad P 12 KX7_readWord 63 [.ref 1, .ref (100001 + t1), .null] [] (e) res M'
set_option maxRecDepth 100000 in
theorem B_X7_readWord_b13 (G : GG l s0 b L xs D cy ad) {t1 : Nat}  {res : Rs} {M' : Mm} (hp0 : P 1) (ht1 : t1 < 6) : ∀ (s : Mm) (r : Mm ⊕ Mm), f_X7_readWord_b13 t1 s = some r → mtc (P_X7_readWord_b13 l s0 D cy ad P t1 res M') (Q_X7_readWord_b13 l s0 D cy ad P t1 res M') r → P_X7_readWord_b13 l s0 D cy ad P t1 res M' s := by
  intro M r hr hk
  unfold f_X7_readWord_b13 at hr
  try dsimp only at hr
  dsimp only [P_X7_readWord_b13]
  refine n_aload_n (n := 0) (by decide +kernel) rfl ?_
  refine n_getI G fl_RX7_35 hp0 (by decide +kernel) (by decide +kernel) ?_
  refine n_aload_n (n := 0) (by decide +kernel) rfl ?_
  refine n_getI G fl_RX7_32 hp0 (by decide +kernel) (by decide +kernel) ?_
  refine n_icmp_ge (off := 42) (tgt := 63) (by decide +kernel) (by decide) (fun hc2 => ?_) (fun hc2 => ?_)
  · rw [if_pos hc2] at hr
    cases hr
    exact hk
  · rw [if_neg hc2] at hr
    refine n_aload_n (n := 0) (by decide +kernel) rfl ?_
    refine n_aload_n (n := 0) (by decide +kernel) rfl ?_
    refine n_getI G fl_RX7_35 hp0 (by decide +kernel) (by decide +kernel) ?_
    obtain ⟨v3, h3, hr⟩ := bso hr
    refine n_callVi G [_] (x := v3) (B_X7_byteAt G hp0 h3) (by decide) mX7_byteAt ml_RX7_41 hp0 (by decide +kernel) rfl rfl (Nat.le_of_ble_eq_true rfl) (by decide +kernel) ?_
    refine n_bipush (n := 97) (v := 97) (by decide +kernel) rfl ?_
    refine n_icmp_lt (off := 29) (tgt := 63) (by decide +kernel) (by decide) (fun hc4 => ?_) (fun hc4 => ?_)
    · rw [if_pos hc4] at hr
      cases hr
      exact hk
    · rw [if_neg hc4] at hr
      refine n_aload_n (n := 0) (by decide +kernel) rfl ?_
      refine n_aload_n (n := 0) (by decide +kernel) rfl ?_
      refine n_getI G fl_RX7_35 hp0 (by decide +kernel) (by decide +kernel) ?_
      obtain ⟨v5, h5, hr⟩ := bso hr
      refine n_callVi G [_] (x := v5) (B_X7_byteAt G hp0 h5) (by decide) mX7_byteAt ml_RX7_41 hp0 (by decide +kernel) rfl rfl (Nat.le_of_ble_eq_true rfl) (by decide +kernel) ?_
      refine n_bipush (n := 122) (v := 122) (by decide +kernel) rfl ?_
      refine n_icmp_gt (off := 16) (tgt := 63) (by decide +kernel) (by decide) (fun hc6 => ?_) (fun hc6 => ?_)
      · rw [if_pos hc6] at hr
        cases hr
        exact hk
      · rw [if_neg hc6] at hr
        refine n_aload_n (n := 0) (by decide +kernel) rfl ?_
        refine n_dup rfl (by decide +kernel) ?_
        refine n_getI G fl_RX7_35 hp0 (by decide +kernel) (by decide +kernel) ?_
        refine n_iconst (n := 1) (v := 1) (by decide +kernel) rfl ?_
        refine n_iadd (by decide +kernel) ?_
        refine n_putI G fl_RX7_35 hp0 (by decide +kernel) (by decide +kernel) ?_
        refine n_goto (off := -47) (tgt := 13) (by decide +kernel) (by decide) ?_
        cases hr
        exact hk
set_option maxRecDepth 100000 in
theorem W_X7_readWord_b13 (G : GG l s0 b L xs D cy ad) {t1 : Nat}  (hp0 : P 1) (ht1 : t1 < 6) {s : Mm} {e : Mm} (h : whl fu (f_X7_readWord_b13 t1) s = some e) (res : Rs) (M' : Mm) : Q_X7_readWord_b13 l s0 D cy ad P t1 res M' e → P_X7_readWord_b13 l s0 D cy ad P t1 res M' s := whl_run (P := fun s => P_X7_readWord_b13 l s0 D cy ad P t1 res M' s) (Q := fun e => Q_X7_readWord_b13 l s0 D cy ad P t1 res M' e) (B_X7_readWord_b13 G (res := res) (M' := M') (t1 := t1) hp0 ht1) fu s h
set_option maxRecDepth 100000 in
theorem B_X7_readWord_j63 (G : GG l s0 b L xs D cy ad) {t1 : Nat} {M : Mm} {r : (Int32 × Mm)} (hp0 : P 1) (ht1 : t1 < 6) (hr : f_X7_readWord_j63 t1 M = some r) : Rn l s0 D cy ad P 12 KX7_readWord 63 [.ref 1, .ref (100001 + t1), .null] [] M (.inl (some (.int r.1))) (r.2) := by
  unfold f_X7_readWord_j63 at hr
  refine n_aload_n (n := 0) (by decide +kernel) rfl ?_
  refine n_aload_n (n := 1) (by decide +kernel) rfl ?_
  obtain ⟨v8, h8, hr⟩ := bso hr
  refine n_callVi G [_] (x := v8) (B_X7_indexAmong G hp0 ht1 h8) (by decide) mX7_indexAmong ml_RX7_65 hp0 (by decide +kernel) rfl rfl (Nat.le_of_ble_eq_true rfl) (by decide +kernel) ?_
  refine n_istore_n (n := 2) (lo2 := [_, _, _]) (by decide +kernel) (Nat.le_of_ble_eq_true rfl) rfl ?_
  refine n_iload_n (n := 2) (by decide +kernel) rfl ?_
  refine n_iconst (n := -1) (v := -1) (by decide +kernel) rfl ?_
  refine n_icmp_ne (off := 12) (tgt := 83) (by decide +kernel) (by decide) (fun hc9 => ?_) (fun hc9 => ?_)
  · rw [if_neg hc9] at hr
    refine n_iload_n (n := 2) (by decide +kernel) rfl ?_
    cases hr
    exact n_ireturn (by decide +kernel)
  · rw [if_pos hc9] at hr
    refine n_aload_n (n := 0) (by decide +kernel) rfl ?_
    refine n_iconst (n := 1) (v := 1) (by decide +kernel) rfl ?_
    refine n_aload_n (n := 0) (by decide +kernel) rfl ?_
    refine n_getI G fl_RX7_61 hp0 (by decide +kernel) (by decide +kernel) ?_
    obtain ⟨M10, h10, hr⟩ := bso hr
    refine n_callVv G [_, _] (M1 := M10) (B_X7_fail G hp0 h10) (by decide) mX7_fail ml_RX7_53 hp0 (by decide +kernel) rfl rfl (Nat.le_of_ble_eq_true rfl) (by decide +kernel) ?_
    refine n_iload_n (n := 2) (by decide +kernel) rfl ?_
    cases hr
    exact n_ireturn (by decide +kernel)
set_option maxRecDepth 100000 in
theorem B_X7_readWord (G : GG l s0 b L xs D cy ad)  {t1 : Nat} {M : Mm} {r : (Int32 × Mm)} (hp0 : P 1) (ht1 : t1 < 6) (hr : f_X7_readWord t1 M = some r) : Cl l s0 D cy ad P 12 KX7_readWord [.ref 1, .ref (100001 + t1)] M (.inl (some (.int r.1))) (r.2) := by
  refine cl_ofN (by decide +kernel) rfl rfl okI (lo0 := [_, _, .null]) rfl ?_
  unfold f_X7_readWord at hr
  refine n_aload_n (n := 0) (by decide +kernel) rfl ?_
  obtain ⟨⟨v1, M1⟩, h1, hr⟩ := bso hr
  try dsimp only at hr
  refine n_callVi G [] (x := v1) (M1 := M1) (B_X7_next G hp0 h1) (by decide) mX7_next ml_RX7_49 hp0 (by decide +kernel) rfl rfl (Nat.le_of_ble_eq_true rfl) (by decide +kernel) ?_
  refine n_pop rfl (by decide +kernel) ?_
  refine n_aload_n (n := 0) (by decide +kernel) rfl ?_
  refine n_aload_n (n := 0) (by decide +kernel) rfl ?_
  refine n_getI G fl_RX7_35 hp0 (by decide +kernel) (by decide +kernel) ?_
  refine n_putI G fl_RX7_61 hp0 (by decide +kernel) (by decide +kernel) ?_
  obtain ⟨M7, h7, hr⟩ := bso hr
  refine (W_X7_readWord_b13 G hp0 ht1 h7 _ _) ?_
  dsimp only [Q_X7_readWord_b13]
  exact B_X7_readWord_j63 G hp0 ht1 hr
set_option maxRecDepth 100000 in
theorem B_X3_readCell (G : GG l s0 b L xs D cy ad)  {a0 : Nat} {M : Mm} {r : (Int32 × Mm)} (hp0 : P a0) (hs0 : SH a0 = 3) (hp1 : P 1) (hr : f_X3_readCell a0 M = some r) : Cl l s0 D cy ad P 12 KX3_readCell [.ref a0, .ref 1] M (.inl (some (.int r.1))) (r.2) := by
  refine cl_ofN (by decide +kernel) rfl rfl okI (lo0 := [_, _, .null, .null]) rfl ?_
  unfold f_X3_readCell at hr
  refine n_aload_n (n := 1) (by decide +kernel) rfl ?_
  refine n_iconst (n := 0) (v := 0) (by decide +kernel) rfl ?_
  refine n_aload_n (n := 0) (by decide +kernel) rfl ?_
  refine n_getI G fl_RX3_28 hp0 hs0 (by decide +kernel) ?_
  refine n_iconst (n := 1) (v := 1) (by decide +kernel) rfl ?_
  refine n_isub (by decide +kernel) ?_
  obtain ⟨⟨v1, M1⟩, h1, hr⟩ := bso hr
  try dsimp only at hr
  refine n_callVi G [_, _] (x := v1) (M1 := M1) (B_X7_readNumber G hp1 h1) (by decide) mX7_readNumber ml_RX3_119 hp1 (by decide +kernel) rfl rfl (Nat.le_of_ble_eq_true rfl) (by decide +kernel) ?_
  refine n_istore_n (n := 2) (lo2 := [_, _, _, _]) (by decide +kernel) (Nat.le_of_ble_eq_true rfl) rfl ?_
  refine n_aload_n (n := 1) (by decide +kernel) rfl ?_
  refine n_iconst (n := 0) (v := 0) (by decide +kernel) rfl ?_
  refine n_aload_n (n := 0) (by decide +kernel) rfl ?_
  refine n_getI G fl_RX3_32 hp0 hs0 (by decide +kernel) ?_
  refine n_iconst (n := 1) (v := 1) (by decide +kernel) rfl ?_
  refine n_isub (by decide +kernel) ?_
  obtain ⟨⟨v2, M2⟩, h2, hr⟩ := bso hr
  try dsimp only at hr
  refine n_callVi G [_, _] (x := v2) (M1 := M2) (B_X7_readNumber G hp1 h2) (by decide) mX7_readNumber ml_RX3_119 hp1 (by decide +kernel) rfl rfl (Nat.le_of_ble_eq_true rfl) (by decide +kernel) ?_
  refine n_istore_n (n := 3) (lo2 := [_, _, _, _]) (by decide +kernel) (Nat.le_of_ble_eq_true rfl) rfl ?_
  refine n_iload_n (n := 2) (by decide +kernel) rfl ?_
  refine n_iload_n (n := 3) (by decide +kernel) rfl ?_
  obtain ⟨v3, h3, hr⟩ := bso hr
  refine n_callSNi G [_, _] (x := v3) (B_X9_cellAt G  h3) (by decide) mX9_cellAt ml_RX3_130 rfl rfl (Nat.le_of_ble_eq_true rfl) (by decide +kernel) ?_
  cases hr
  exact n_ireturn (by decide +kernel)
set_option maxRecDepth 100000 in
theorem B_X3_readNumbers (G : GG l s0 b L xs D cy ad)  {a0 : Nat} {a2 : Nat} {x3 : Int32} {M : Mm} {r : Mm} (hp0 : P a0) (hs0 : SH a0 = 3) (hp1 : P 1) (hp2 : P a2) (hs2 : SH a2 = 8) (hr : f_X3_readNumbers a0 a2 x3 M = some r) : Cl l s0 D cy ad P 13 KX3_readNumbers [.ref a0, .ref 1, .ref a2, .int x3] M (.inl none) (r) := by
  refine cl_ofN (by decide +kernel) rfl rfl rfl (lo0 := [_, _, _, _, .null, .null, .null, .null]) rfl ?_
  unfold f_X3_readNumbers at hr
  refine n_iload_n (n := 3) (by decide +kernel) rfl ?_
  by_cases hc1 : x3 = 0
  · rw [if_pos hc1] at hr
    refine n_tabIn (dflt := 195) (lw := 0) (hi := 4) (offs := #[35, 60, 87, 123, 159]) (len := 35) (off := 35) (tgt := 36) (by decide +kernel) (by rw [hc1]; decide) (by rw [hc1]; decide) (by rw [hc1]; decide) (by decide) ?_
    refine n_aload_n (n := 0) (by decide +kernel) rfl ?_
    refine n_aload_n (n := 1) (by decide +kernel) rfl ?_
    refine n_iconst (n := 1) (v := 1) (by decide +kernel) rfl ?_
    refine n_bipush (n := 8) (v := 8) (by decide +kernel) rfl ?_
    obtain ⟨⟨v2, M2⟩, h2, hr⟩ := bso hr
    try dsimp only at hr
    refine n_callVi G [_, _] (x := v2) (M1 := M2) (B_X7_readNumber G hp1 h2) (by decide) mX7_readNumber ml_RX3_119 hp1 (by decide +kernel) rfl rfl (Nat.le_of_ble_eq_true rfl) (by decide +kernel) ?_
    refine n_putI G fl_RX3_28 hp0 hs0 (by decide +kernel) ?_
    refine n_aload_n (n := 0) (by decide +kernel) rfl ?_
    refine n_aload_n (n := 1) (by decide +kernel) rfl ?_
    refine n_iconst (n := 1) (v := 1) (by decide +kernel) rfl ?_
    refine n_bipush (n := 6) (v := 6) (by decide +kernel) rfl ?_
    obtain ⟨⟨v3, M3⟩, h3, hr⟩ := bso hr
    try dsimp only at hr
    refine n_callVi G [_, _] (x := v3) (M1 := M3) (B_X7_readNumber G hp1 h3) (by decide) mX7_readNumber ml_RX3_119 hp1 (by decide +kernel) rfl rfl (Nat.le_of_ble_eq_true rfl) (by decide +kernel) ?_
    refine n_putI G fl_RX3_32 hp0 hs0 (by decide +kernel) ?_
    refine n_goto (off := 149) (tgt := 207) (by decide +kernel) (by decide) ?_
    cases hr
    exact n_return (by decide +kernel)
  rw [if_neg hc1] at hr
  by_cases hc4 : x3 = 1
  · rw [if_pos hc4] at hr
    refine n_tabIn (dflt := 195) (lw := 0) (hi := 4) (offs := #[35, 60, 87, 123, 159]) (len := 35) (off := 60) (tgt := 61) (by decide +kernel) (by rw [hc4]; decide) (by rw [hc4]; decide) (by rw [hc4]; decide) (by decide) ?_
    refine n_aload_n (n := 0) (by decide +kernel) rfl ?_
    refine n_aload_n (n := 1) (by decide +kernel) rfl ?_
    obtain ⟨⟨v5, M5⟩, h5, hr⟩ := bso hr
    try dsimp only at hr
    refine n_callVi G [_] (x := v5) (M1 := M5) (B_X3_readCell G hp0 hs0 hp1 h5) (by decide) mX3_readCell ml_RX3_123 hp0 hs0 rfl rfl (Nat.le_of_ble_eq_true rfl) (by decide +kernel) ?_
    refine n_istore (n := 4) (lo2 := [_, _, _, _, _, _, _, _]) (by decide +kernel) (Nat.le_of_ble_eq_true rfl) rfl ?_
    refine n_aload_n (n := 1) (by decide +kernel) rfl ?_
    refine n_iconst (n := 1) (v := 1) (by decide +kernel) rfl ?_
    refine n_bipush (n := 9) (v := 9) (by decide +kernel) rfl ?_
    obtain ⟨⟨v6, M6⟩, h6, hr⟩ := bso hr
    try dsimp only at hr
    refine n_callVi G [_, _] (x := v6) (M1 := M6) (B_X7_readNumber G hp1 h6) (by decide) mX7_readNumber ml_RX3_119 hp1 (by decide +kernel) rfl rfl (Nat.le_of_ble_eq_true rfl) (by decide +kernel) ?_
    refine n_istore (n := 5) (lo2 := [_, _, _, _, _, _, _, _]) (by decide +kernel) (Nat.le_of_ble_eq_true rfl) rfl ?_
    refine n_aload_n (n := 2) (by decide +kernel) rfl ?_
    refine n_iload (n := 4) (by decide +kernel) rfl ?_
    refine n_iload (n := 5) (by decide +kernel) rfl ?_
    obtain ⟨M7, h7, hr⟩ := bso hr
    refine n_callVv G [_, _] (M1 := M7) (B_X8_addStone G hp2 hs2 h7) (by decide) mX8_addStone ml_RX3_127 hp2 hs2 rfl rfl (Nat.le_of_ble_eq_true rfl) (by decide +kernel) ?_
    refine n_goto (off := 122) (tgt := 207) (by decide +kernel) (by decide) ?_
    cases hr
    exact n_return (by decide +kernel)
  rw [if_neg hc4] at hr
  by_cases hc8 : x3 = 2
  · rw [if_pos hc8] at hr
    refine n_tabIn (dflt := 195) (lw := 0) (hi := 4) (offs := #[35, 60, 87, 123, 159]) (len := 35) (off := 87) (tgt := 88) (by decide +kernel) (by rw [hc8]; decide) (by rw [hc8]; decide) (by rw [hc8]; decide) (by decide) ?_
    refine n_aload_n (n := 0) (by decide +kernel) rfl ?_
    refine n_aload_n (n := 1) (by decide +kernel) rfl ?_
    obtain ⟨⟨v9, M9⟩, h9, hr⟩ := bso hr
    try dsimp only at hr
    refine n_callVi G [_] (x := v9) (M1 := M9) (B_X3_readCell G hp0 hs0 hp1 h9) (by decide) mX3_readCell ml_RX3_123 hp0 hs0 rfl rfl (Nat.le_of_ble_eq_true rfl) (by decide +kernel) ?_
    refine n_istore (n := 6) (lo2 := [_, _, _, _, _, _, _, _]) (by decide +kernel) (Nat.le_of_ble_eq_true rfl) rfl ?_
    refine n_aload_n (n := 1) (by decide +kernel) rfl ?_
    refine n_iconst (n := 0) (v := 0) (by decide +kernel) rfl ?_
    refine n_bipush (n := 99) (v := 99) (by decide +kernel) rfl ?_
    obtain ⟨⟨v10, M10⟩, h10, hr⟩ := bso hr
    try dsimp only at hr
    refine n_callVi G [_, _] (x := v10) (M1 := M10) (B_X7_readNumber G hp1 h10) (by decide) mX7_readNumber ml_RX3_119 hp1 (by decide +kernel) rfl rfl (Nat.le_of_ble_eq_true rfl) (by decide +kernel) ?_
    refine n_istore (n := 7) (lo2 := [_, _, _, _, _, _, _, _]) (by decide +kernel) (Nat.le_of_ble_eq_true rfl) rfl ?_
    refine n_iload (n := 6) (by decide +kernel) rfl ?_
    obtain ⟨v11, h11, hr⟩ := bso hr
    refine n_callSNi G [_] (x := v11) (B_X9_isCell G  h11) (by decide) mX9_isCell ml_RX3_68 rfl rfl (Nat.le_of_ble_eq_true rfl) (by decide +kernel) ?_
    refine n_if_eq (off := 98) (tgt := 207) (by decide +kernel) (by decide) (fun hc12 => ?_) (fun hc12 => ?_)
    · rw [if_pos hc12] at hr
      cases hr
      exact n_return (by decide +kernel)
    · rw [if_neg hc12] at hr
      refine n_aload_n (n := 0) (by decide +kernel) rfl ?_
      refine n_getF (q := (a0 + 1)) G fl_RX3_9 hp0 hs0 (fr_3_0 hs0).1 (by decide +kernel) (fun hp13q => ?_)
      refine n_iload (n := 6) (by decide +kernel) rfl ?_
      refine n_iload (n := 7) (by decide +kernel) rfl ?_
      obtain ⟨M14, h14, hr⟩ := bso hr
      refine n_iast G h14 hp13q (fr_3_0 hs0).2.1 (fr_3_0 hs0).2.2 (by decide +kernel) ?_
      refine n_goto (off := 86) (tgt := 207) (by decide +kernel) (by decide) ?_
      cases hr
      exact n_return (by decide +kernel)
  rw [if_neg hc8] at hr
  by_cases hc15 : x3 = 3
  · rw [if_pos hc15] at hr
    refine n_tabIn (dflt := 195) (lw := 0) (hi := 4) (offs := #[35, 60, 87, 123, 159]) (len := 35) (off := 123) (tgt := 124) (by decide +kernel) (by rw [hc15]; decide) (by rw [hc15]; decide) (by rw [hc15]; decide) (by decide) ?_
    refine n_aload_n (n := 0) (by decide +kernel) rfl ?_
    refine n_aload_n (n := 1) (by decide +kernel) rfl ?_
    refine n_iconst (n := 1) (v := 1) (by decide +kernel) rfl ?_
    refine n_bipush (n := 6) (v := 6) (by decide +kernel) rfl ?_
    obtain ⟨⟨v16, M16⟩, h16, hr⟩ := bso hr
    try dsimp only at hr
    refine n_callVi G [_, _] (x := v16) (M1 := M16) (B_X7_readNumber G hp1 h16) (by decide) mX7_readNumber ml_RX3_119 hp1 (by decide +kernel) rfl rfl (Nat.le_of_ble_eq_true rfl) (by decide +kernel) ?_
    refine n_putI G fl_RX3_41 hp0 hs0 (by decide +kernel) ?_
    refine n_aload_n (n := 0) (by decide +kernel) rfl ?_
    refine n_aload_n (n := 1) (by decide +kernel) rfl ?_
    refine n_iconst (n := 1) (v := 1) (by decide +kernel) rfl ?_
    refine n_bipush (n := 9) (v := 9) (by decide +kernel) rfl ?_
    obtain ⟨⟨v17, M17⟩, h17, hr⟩ := bso hr
    try dsimp only at hr
    refine n_callVi G [_, _] (x := v17) (M1 := M17) (B_X7_readNumber G hp1 h17) (by decide) mX7_readNumber ml_RX3_119 hp1 (by decide +kernel) rfl rfl (Nat.le_of_ble_eq_true rfl) (by decide +kernel) ?_
    refine n_putI G fl_RX3_44 hp0 hs0 (by decide +kernel) ?_
    refine n_aload_n (n := 0) (by decide +kernel) rfl ?_
    refine n_aload_n (n := 1) (by decide +kernel) rfl ?_
    refine n_iconst (n := 1) (v := 1) (by decide +kernel) rfl ?_
    refine n_bipush (n := 9) (v := 9) (by decide +kernel) rfl ?_
    obtain ⟨⟨v18, M18⟩, h18, hr⟩ := bso hr
    try dsimp only at hr
    refine n_callVi G [_, _] (x := v18) (M1 := M18) (B_X7_readNumber G hp1 h18) (by decide) mX7_readNumber ml_RX3_119 hp1 (by decide +kernel) rfl rfl (Nat.le_of_ble_eq_true rfl) (by decide +kernel) ?_
    refine n_putI G fl_RX3_47 hp0 hs0 (by decide +kernel) ?_
    refine n_goto (off := 50) (tgt := 207) (by decide +kernel) (by decide) ?_
    cases hr
    exact n_return (by decide +kernel)
  rw [if_neg hc15] at hr
  by_cases hc19 : x3 = 4
  · rw [if_pos hc19] at hr
    refine n_tabIn (dflt := 195) (lw := 0) (hi := 4) (offs := #[35, 60, 87, 123, 159]) (len := 35) (off := 159) (tgt := 160) (by decide +kernel) (by rw [hc19]; decide) (by rw [hc19]; decide) (by rw [hc19]; decide) (by decide) ?_
    refine n_aload_n (n := 0) (by decide +kernel) rfl ?_
    refine n_aload_n (n := 1) (by decide +kernel) rfl ?_
    refine n_iconst (n := 0) (v := 0) (by decide +kernel) rfl ?_
    refine n_bipush (n := 60) (v := 60) (by decide +kernel) rfl ?_
    obtain ⟨⟨v20, M20⟩, h20, hr⟩ := bso hr
    try dsimp only at hr
    refine n_callVi G [_, _] (x := v20) (M1 := M20) (B_X7_readNumber G hp1 h20) (by decide) mX7_readNumber ml_RX3_119 hp1 (by decide +kernel) rfl rfl (Nat.le_of_ble_eq_true rfl) (by decide +kernel) ?_
    refine n_putI G fl_RX3_50 hp0 hs0 (by decide +kernel) ?_
    refine n_aload_n (n := 0) (by decide +kernel) rfl ?_
    refine n_aload_n (n := 1) (by decide +kernel) rfl ?_
    refine n_iconst (n := 1) (v := 1) (by decide +kernel) rfl ?_
    refine n_bipush (n := 9) (v := 9) (by decide +kernel) rfl ?_
    obtain ⟨⟨v21, M21⟩, h21, hr⟩ := bso hr
    try dsimp only at hr
    refine n_callVi G [_, _] (x := v21) (M1 := M21) (B_X7_readNumber G hp1 h21) (by decide) mX7_readNumber ml_RX3_119 hp1 (by decide +kernel) rfl rfl (Nat.le_of_ble_eq_true rfl) (by decide +kernel) ?_
    refine n_putI G fl_RX3_53 hp0 hs0 (by decide +kernel) ?_
    refine n_aload_n (n := 0) (by decide +kernel) rfl ?_
    refine n_aload_n (n := 1) (by decide +kernel) rfl ?_
    refine n_iconst (n := 1) (v := 1) (by decide +kernel) rfl ?_
    refine n_bipush (n := 99) (v := 99) (by decide +kernel) rfl ?_
    obtain ⟨⟨v22, M22⟩, h22, hr⟩ := bso hr
    try dsimp only at hr
    refine n_callVi G [_, _] (x := v22) (M1 := M22) (B_X7_readNumber G hp1 h22) (by decide) mX7_readNumber ml_RX3_119 hp1 (by decide +kernel) rfl rfl (Nat.le_of_ble_eq_true rfl) (by decide +kernel) ?_
    refine n_putI G fl_RX3_56 hp0 hs0 (by decide +kernel) ?_
    refine n_goto (off := 14) (tgt := 207) (by decide +kernel) (by decide) ?_
    cases hr
    exact n_return (by decide +kernel)
  rw [if_neg hc19] at hr
  have e1 := ne_toInt hc1 (n := 0) rfl
  have e4 := ne_toInt hc4 (n := 1) rfl
  have e8 := ne_toInt hc8 (n := 2) rfl
  have e15 := ne_toInt hc15 (n := 3) rfl
  have e19 := ne_toInt hc19 (n := 4) rfl
  refine n_tabOut (dflt := 195) (lw := 0) (hi := 4) (offs := #[35, 60, 87, 123, 159]) (len := 35) (tgt := 196) (by decide +kernel) (by omega) (by decide) ?_
  refine n_aload_n (n := 0) (by decide +kernel) rfl ?_
  refine n_aload_n (n := 1) (by decide +kernel) rfl ?_
  refine n_iconst (n := 1) (v := 1) (by decide +kernel) rfl ?_
  refine n_bipush (n := 30) (v := 30) (by decide +kernel) rfl ?_
  obtain ⟨⟨v23, M23⟩, h23, hr⟩ := bso hr
  try dsimp only at hr
  refine n_callVi G [_, _] (x := v23) (M1 := M23) (B_X7_readNumber G hp1 h23) (by decide) mX7_readNumber ml_RX3_119 hp1 (by decide +kernel) rfl rfl (Nat.le_of_ble_eq_true rfl) (by decide +kernel) ?_
  refine n_putI G fl_RX3_59 hp0 hs0 (by decide +kernel) ?_
  cases hr
  exact n_return (by decide +kernel)
set_option maxRecDepth 100000 in
theorem B_X3_readClause_j56 (G : GG l s0 b L xs D cy ad) {a0 : Nat} {a2 : Nat} {x4 : Int32} {M : Mm} {r : Mm} (hp0 : P a0) (hs0 : SH a0 = 3) (hp1 : P 1) (hp2 : P a2) (hs2 : SH a2 = 8) (hr : f_X3_readClause_j56 a0 a2 x4 M = some r) : Rn l s0 D cy ad P 14 KX3_readClause 56 [.ref a0, .ref 1, .ref a2, .null, .int x4] [] M (.inl none) (r) := by
  unfold f_X3_readClause_j56 at hr
  refine n_aload_n (n := 1) (by decide +kernel) rfl ?_
  obtain ⟨v5, h5, hr⟩ := bso hr
  refine n_callVi G [] (x := v5) (B_X7_isFine G hp1 h5) (by decide) mX7_isFine ml_RX3_82 hp1 (by decide +kernel) rfl rfl (Nat.le_of_ble_eq_true rfl) (by decide +kernel) ?_
  refine n_if_eq (off := 17) (tgt := 77) (by decide +kernel) (by decide) (fun hc6 => ?_) (fun hc6 => ?_)
  · rw [if_pos hc6] at hr
    cases hr
    exact n_return (by decide +kernel)
  · rw [if_neg hc6] at hr
    refine n_aload_n (n := 0) (by decide +kernel) rfl ?_
    refine n_aload_n (n := 1) (by decide +kernel) rfl ?_
    refine n_aload_n (n := 2) (by decide +kernel) rfl ?_
    refine n_iload (n := 4) (by decide +kernel) rfl ?_
    obtain ⟨M7, h7, hr⟩ := bso hr
    refine n_callVv G [_, _, _] (M1 := M7) (B_X3_readNumbers G hp0 hs0 hp1 hp2 hs2 h7) (by decide) mX3_readNumbers ml_RX3_112 hp0 hs0 rfl rfl (Nat.le_of_ble_eq_true rfl) (by decide +kernel) ?_
    refine n_aload_n (n := 1) (by decide +kernel) rfl ?_
    refine n_bipush (n := 59) (v := 59) (by decide +kernel) rfl ?_
    obtain ⟨M8, h8, hr⟩ := bso hr
    refine n_callVv G [_] (M1 := M8) (B_X7_readSign G hp1 h8) (by decide) mX7_readSign ml_RX3_115 hp1 (by decide +kernel) rfl rfl (Nat.le_of_ble_eq_true rfl) (by decide +kernel) ?_
    cases hr
    exact n_return (by decide +kernel)
set_option maxRecDepth 100000 in
theorem B_X3_readClause_j38 (G : GG l s0 b L xs D cy ad) {a0 : Nat} {a2 : Nat} {x3 : Int32} {x4 : Int32} {M : Mm} {r : Mm} (hp0 : P a0) (hs0 : SH a0 = 3) (hp1 : P 1) (hp2 : P a2) (hs2 : SH a2 = 8) (hr : f_X3_readClause_j38 a0 a2 x3 x4 M = some r) : Rn l s0 D cy ad P 14 KX3_readClause 38 [.ref a0, .ref 1, .ref a2, .int x3, .int x4] [] M (.inl none) (r) := by
  unfold f_X3_readClause_j38 at hr
  refine n_iload (n := 4) (by decide +kernel) rfl ?_
  refine n_if_ne (off := 16) (tgt := 56) (by decide +kernel) (by decide) (fun hc4 => ?_) (fun hc4 => ?_)
  · rw [if_neg hc4] at hr
    refine n_msk [true, true, true, false, true] (lo2 := [_, _, _, .null, _]) rfl rfl ?_
    exact B_X3_readClause_j56 G hp0 hs0 hp1 hp2 hs2 hr
  · rw [if_pos hc4] at hr
    refine n_iload_n (n := 3) (by decide +kernel) rfl ?_
    refine n_if_le (off := 12) (tgt := 56) (by decide +kernel) (by decide) (fun hc9 => ?_) (fun hc9 => ?_)
    · rw [if_pos hc9] at hr
      refine n_msk [true, true, true, false, true] (lo2 := [_, _, _, .null, _]) rfl rfl ?_
      exact B_X3_readClause_j56 G hp0 hs0 hp1 hp2 hs2 hr
    · rw [if_neg hc9] at hr
      refine n_aload_n (n := 1) (by decide +kernel) rfl ?_
      refine n_iconst (n := 4) (v := 4) (by decide +kernel) rfl ?_
      refine n_aload_n (n := 1) (by decide +kernel) rfl ?_
      refine n_getI G fl_RX3_105 hp1 (by decide +kernel) (by decide +kernel) ?_
      obtain ⟨M10, h10, hr⟩ := bso hr
      refine n_callVv G [_, _] (M1 := M10) (B_X7_fail G hp1 h10) (by decide) mX7_fail ml_RX3_108 hp1 (by decide +kernel) rfl rfl (Nat.le_of_ble_eq_true rfl) (by decide +kernel) ?_
      refine n_msk [true, true, true, false, true] (lo2 := [_, _, _, .null, _]) rfl rfl ?_
      exact B_X3_readClause_j56 G hp0 hs0 hp1 hp2 hs2 hr
set_option maxRecDepth 100000 in
theorem B_X3_readClause_j29 (G : GG l s0 b L xs D cy ad) {a0 : Nat} {a2 : Nat} {x3 : Int32} {x4 : Int32} {M : Mm} {r : Mm} (hp0 : P a0) (hs0 : SH a0 = 3) (hp1 : P 1) (hp2 : P a2) (hs2 : SH a2 = 8) (hr : f_X3_readClause_j29 a0 a2 x3 x4 M = some r) : Rn l s0 D cy ad P 14 KX3_readClause 29 [.ref a0, .ref 1, .ref a2, .int x3, .int x4] [] M (.inl none) (r) := by
  unfold f_X3_readClause_j29 at hr
  refine n_aload_n (n := 1) (by decide +kernel) rfl ?_
  refine n_iconst (n := 3) (v := 3) (by decide +kernel) rfl ?_
  refine n_aload_n (n := 1) (by decide +kernel) rfl ?_
  refine n_getI G fl_RX3_105 hp1 (by decide +kernel) (by decide +kernel) ?_
  obtain ⟨M3, h3, hr⟩ := bso hr
  refine n_callVv G [_, _] (M1 := M3) (B_X7_fail G hp1 h3) (by decide) mX7_fail ml_RX3_108 hp1 (by decide +kernel) rfl rfl (Nat.le_of_ble_eq_true rfl) (by decide +kernel) ?_
  exact B_X3_readClause_j38 G hp0 hs0 hp1 hp2 hs2 hr
set_option maxRecDepth 100000 in
theorem B_X3_readClause (G : GG l s0 b L xs D cy ad)  {a0 : Nat} {a2 : Nat} {x3 : Int32} {M : Mm} {r : Mm} (hp0 : P a0) (hs0 : SH a0 = 3) (hp1 : P 1) (hp2 : P a2) (hs2 : SH a2 = 8) (hr : f_X3_readClause a0 a2 x3 M = some r) : Cl l s0 D cy ad P 14 KX3_readClause [.ref a0, .ref 1, .ref a2, .int x3] M (.inl none) (r) := by
  refine cl_ofN (by decide +kernel) rfl rfl rfl (lo0 := [_, _, _, _, .null]) rfl ?_
  unfold f_X3_readClause at hr
  refine n_aload_n (n := 1) (by decide +kernel) rfl ?_
  refine n_ldcS G si_RX3_96 (by decide +kernel) ?_
  obtain ⟨⟨v1, M1⟩, h1, hr⟩ := bso hr
  try dsimp only at hr
  refine n_callVi G [_] (x := v1) (M1 := M1) (B_X7_readWord G hp1 (by decide) h1) (by decide) mX7_readWord ml_RX3_98 hp1 (by decide +kernel) rfl rfl (Nat.le_of_ble_eq_true rfl) (by decide +kernel) ?_
  refine n_istore (n := 4) (lo2 := [_, _, _, _, _]) (by decide +kernel) (Nat.le_of_ble_eq_true rfl) rfl ?_
  refine n_iload_n (n := 3) (by decide +kernel) rfl ?_
  refine n_bipush (n := 60) (v := 60) (by decide +kernel) rfl ?_
  refine n_icmp_ge (off := 18) (tgt := 29) (by decide +kernel) (by decide) (fun hc2 => ?_) (fun hc2 => ?_)
  · rw [if_pos hc2] at hr
    exact B_X3_readClause_j29 G hp0 hs0 hp1 hp2 hs2 hr
  · rw [if_neg hc2] at hr
    refine n_iload (n := 4) (by decide +kernel) rfl ?_
    refine n_iconst (n := 1) (v := 1) (by decide +kernel) rfl ?_
    refine n_icmp_ne (off := 21) (tgt := 38) (by decide +kernel) (by decide) (fun hc11 => ?_) (fun hc11 => ?_)
    · rw [if_neg hc11] at hr
      exact B_X3_readClause_j38 G hp0 hs0 hp1 hp2 hs2 hr
    · rw [if_pos hc11] at hr
      refine n_aload_n (n := 2) (by decide +kernel) rfl ?_
      refine n_getI G fl_RX3_102 hp2 hs2 (by decide +kernel) ?_
      refine n_bipush (n := 30) (v := 30) (by decide +kernel) rfl ?_
      refine n_icmp_lt (off := 12) (tgt := 38) (by decide +kernel) (by decide) (fun hc12 => ?_) (fun hc12 => ?_)
      · rw [if_pos hc12] at hr
        exact B_X3_readClause_j38 G hp0 hs0 hp1 hp2 hs2 hr
      · rw [if_neg hc12] at hr
        exact B_X3_readClause_j29 G hp0 hs0 hp1 hp2 hs2 hr
abbrev P_X3_readField_b10 (l : Launch) (s0 : State) (D : va_G) (cy : Nat → ClassId) (ad : Nat → Nat) (P : Nat → Prop) (a0 : Nat) (a2 : Nat)  (res : Rs) (M' : Mm) (s : (Int32 × Mm)) : Prop := Rn l s0 D cy ad P 15 KX3_readField 10 [.ref a0, .ref 1, .ref a2, .int (s.1)] [] (s.2) res M'
abbrev Q_X3_readField_b10 (l : Launch) (s0 : State) (D : va_G) (cy : Nat → ClassId) (ad : Nat → Nat) (P : Nat → Prop) (a0 : Nat) (a2 : Nat)  (res : Rs) (M' : Mm) (e : Mm) : Prop := Rn l s0 D cy ad P 15 KX3_readField 44 [.null, .null, .null, .null] [] (e) res M'
set_option maxRecDepth 100000 in
theorem B_X3_readField_b10 (G : GG l s0 b L xs D cy ad) {a0 : Nat} {a2 : Nat}  {res : Rs} {M' : Mm} (hp0 : P a0) (hs0 : SH a0 = 3) (hp1 : P 1) (hp2 : P a2) (hs2 : SH a2 = 8) : ∀ (s : (Int32 × Mm)) (r : (Int32 × Mm) ⊕ Mm), f_X3_readField_b10 a0 a2 s = some r → mtc (P_X3_readField_b10 l s0 D cy ad P a0 a2 res M') (Q_X3_readField_b10 l s0 D cy ad P a0 a2 res M') r → P_X3_readField_b10 l s0 D cy ad P a0 a2 res M' s := by
  intro s r hr hk
  obtain ⟨x3, M⟩ := s
  unfold f_X3_readField_b10 at hr
  try dsimp only at hr
  dsimp only [P_X3_readField_b10]
  refine n_iload_n (n := 3) (by decide +kernel) rfl ?_
  refine n_bipush (n := 60) (v := 60) (by decide +kernel) rfl ?_
  refine n_icmp_gt (off := 31) (tgt := 44) (by decide +kernel) (by decide) (fun hc3 => ?_) (fun hc3 => ?_)
  · rw [if_pos hc3] at hr
    cases hr
    refine n_msk [false, false, false, false] (lo2 := [.null, .null, .null, .null]) rfl rfl ?_
    exact hk
  · rw [if_neg hc3] at hr
    refine n_aload_n (n := 1) (by decide +kernel) rfl ?_
    obtain ⟨v4, h4, hr⟩ := bso hr
    refine n_callVi G [] (x := v4) (B_X7_isFine G hp1 h4) (by decide) mX7_isFine ml_RX3_82 hp1 (by decide +kernel) rfl rfl (Nat.le_of_ble_eq_true rfl) (by decide +kernel) ?_
    refine n_if_eq (off := 24) (tgt := 44) (by decide +kernel) (by decide) (fun hc5 => ?_) (fun hc5 => ?_)
    · rw [if_pos hc5] at hr
      cases hr
      refine n_msk [false, false, false, false] (lo2 := [.null, .null, .null, .null]) rfl rfl ?_
      exact hk
    · rw [if_neg hc5] at hr
      refine n_aload_n (n := 1) (by decide +kernel) rfl ?_
      obtain ⟨⟨v6, M6⟩, h6, hr⟩ := bso hr
      try dsimp only at hr
      refine n_callVi G [] (x := v6) (M1 := M6) (B_X7_next G hp1 h6) (by decide) mX7_next ml_RX3_88 hp1 (by decide +kernel) rfl rfl (Nat.le_of_ble_eq_true rfl) (by decide +kernel) ?_
      refine n_iconst (n := -1) (v := -1) (by decide +kernel) rfl ?_
      refine n_icmp_eq (off := 16) (tgt := 44) (by decide +kernel) (by decide) (fun hc7 => ?_) (fun hc7 => ?_)
      · rw [if_pos hc7] at hr
        cases hr
        refine n_msk [false, false, false, false] (lo2 := [.null, .null, .null, .null]) rfl rfl ?_
        exact hk
      · rw [if_neg hc7] at hr
        refine n_aload_n (n := 0) (by decide +kernel) rfl ?_
        refine n_aload_n (n := 1) (by decide +kernel) rfl ?_
        refine n_aload_n (n := 2) (by decide +kernel) rfl ?_
        refine n_iload_n (n := 3) (by decide +kernel) rfl ?_
        obtain ⟨M8, h8, hr⟩ := bso hr
        refine n_callVv G [_, _, _] (M1 := M8) (B_X3_readClause G hp0 hs0 hp1 hp2 hs2 h8) (by decide) mX3_readClause ml_RX3_92 hp0 hs0 rfl rfl (Nat.le_of_ble_eq_true rfl) (by decide +kernel) ?_
        refine n_iincK (n := 3) (j := 1) (w := 1) (lo2 := [_, _, _, _]) (by decide +kernel) rfl rfl rfl ?_
        refine n_goto (off := -31) (tgt := 10) (by decide +kernel) (by decide) ?_
        cases hr
        exact hk
set_option maxRecDepth 100000 in
theorem W_X3_readField_b10 (G : GG l s0 b L xs D cy ad) {a0 : Nat} {a2 : Nat}  (hp0 : P a0) (hs0 : SH a0 = 3) (hp1 : P 1) (hp2 : P a2) (hs2 : SH a2 = 8) {s : (Int32 × Mm)} {e : Mm} (h : whl fu (f_X3_readField_b10 a0 a2) s = some e) (res : Rs) (M' : Mm) : Q_X3_readField_b10 l s0 D cy ad P a0 a2 res M' e → P_X3_readField_b10 l s0 D cy ad P a0 a2 res M' s := whl_run (P := fun s => P_X3_readField_b10 l s0 D cy ad P a0 a2 res M' s) (Q := fun e => Q_X3_readField_b10 l s0 D cy ad P a0 a2 res M' e) (B_X3_readField_b10 G (res := res) (M' := M') (a0 := a0) (a2 := a2) hp0 hs0 hp1 hp2 hs2) fu s h
set_option maxRecDepth 100000 in
theorem B_X3_readField (G : GG l s0 b L xs D cy ad)  {a0 : Nat} {a2 : Nat} {M : Mm} {r : Mm} (hp0 : P a0) (hs0 : SH a0 = 3) (hp1 : P 1) (hp2 : P a2) (hs2 : SH a2 = 8) (hr : f_X3_readField a0 a2 M = some r) : Cl l s0 D cy ad P 15 KX3_readField [.ref a0, .ref 1, .ref a2] M (.inl none) (r) := by
  refine cl_ofN (by decide +kernel) rfl rfl rfl (lo0 := [_, _, _, .null]) rfl ?_
  unfold f_X3_readField at hr
  refine n_aload_n (n := 0) (by decide +kernel) rfl ?_
  obtain ⟨M1, h1, hr⟩ := bso hr
  refine n_callVv G [] (M1 := M1) (B_X3_forget G hp0 hs0 h1) (by decide) mX3_forget ml_RX3_25 hp0 hs0 rfl rfl (Nat.le_of_ble_eq_true rfl) (by decide +kernel) ?_
  refine n_aload_n (n := 2) (by decide +kernel) rfl ?_
  obtain ⟨M2, h2, hr⟩ := bso hr
  refine n_callVv G [] (M1 := M2) (B_X8_forget G hp2 hs2 h2) (by decide) mX8_forget ml_RX3_79 hp2 hs2 rfl rfl (Nat.le_of_ble_eq_true rfl) (by decide +kernel) ?_
  refine n_iconst (n := 0) (v := 0) (by decide +kernel) rfl ?_
  refine n_istore_n (n := 3) (lo2 := [_, _, _, _]) (by decide +kernel) (Nat.le_of_ble_eq_true rfl) rfl ?_
  obtain ⟨M9, h9, hr⟩ := bso hr
  refine (W_X3_readField_b10 G hp0 hs0 hp1 hp2 hs2 h9 _ _) ?_
  dsimp only [Q_X3_readField_b10]
  cases hr
  exact n_return (by decide +kernel)
set_option maxRecDepth 100000 in
theorem B_X7_isNext (G : GG l s0 b L xs D cy ad)  {x1 : Int32} {M : Mm} {r : (Int32 × Mm)} (hp0 : P 1) (hr : f_X7_isNext x1 M = some r) : Cl l s0 D cy ad P 11 KX7_isNext [.ref 1, .int x1] M (.inl (some (.int r.1))) (r.2) := by
  unfold f_X7_isNext at hr
  obtain ⟨⟨v0, M0⟩, h0, h1⟩ := bso hr
  clear hr
  obtain ⟨v1, h2, h3⟩ := bso h1
  obtain ⟨hb, rfl⟩ := rB_in h2
  cases h3
  have hr := h0
  clear h0
  refine cl_ofN (by decide +kernel) rfl rfl (okB hb) (lo0 := [_, _]) rfl ?_
  unfold g_X7_isNext at hr
  refine n_aload_n (n := 0) (by decide +kernel) rfl ?_
  obtain ⟨v1, h1, hr⟩ := bso hr
  refine n_callVi G [] (x := v1) (B_X7_isFine G hp0 h1) (by decide) mX7_isFine ml_RX7_45 hp0 (by decide +kernel) rfl rfl (Nat.le_of_ble_eq_true rfl) (by decide +kernel) ?_
  refine n_if_eq (off := 15) (tgt := 19) (by decide +kernel) (by decide) (fun hc2 => ?_) (fun hc2 => ?_)
  · rw [if_pos hc2] at hr
    refine n_iconst (n := 0) (v := 0) (by decide +kernel) rfl ?_
    cases hr
    exact n_ireturn (by decide +kernel)
  · rw [if_neg hc2] at hr
    refine n_aload_n (n := 0) (by decide +kernel) rfl ?_
    obtain ⟨⟨v3, M3⟩, h3, hr⟩ := bso hr
    try dsimp only at hr
    refine n_callVi G [] (x := v3) (M1 := M3) (B_X7_next G hp0 h3) (by decide) mX7_next ml_RX7_49 hp0 (by decide +kernel) rfl rfl (Nat.le_of_ble_eq_true rfl) (by decide +kernel) ?_
    refine n_iload_n (n := 1) (by decide +kernel) rfl ?_
    refine n_icmp_ne (off := 7) (tgt := 19) (by decide +kernel) (by decide) (fun hc4 => ?_) (fun hc4 => ?_)
    · rw [if_neg hc4] at hr
      refine n_iconst (n := 0) (v := 0) (by decide +kernel) rfl ?_
      cases hr
      exact n_ireturn (by decide +kernel)
    · rw [if_pos hc4] at hr
      refine n_iconst (n := 1) (v := 1) (by decide +kernel) rfl ?_
      refine n_goto (off := 4) (tgt := 20) (by decide +kernel) (by decide) ?_
      cases hr
      exact n_ireturn (by decide +kernel)
set_option maxRecDepth 100000 in
theorem B_X7_skipSign (G : GG l s0 b L xs D cy ad)   {M : Mm} {r : Mm} (hp0 : P 1) (hr : f_X7_skipSign  M = some r) : Cl l s0 D cy ad P 9 KX7_skipSign [.ref 1] M (.inl none) (r) := by
  refine cl_ofN (by decide +kernel) rfl rfl rfl (lo0 := [_]) rfl ?_
  unfold f_X7_skipSign at hr
  refine n_aload_n (n := 0) (by decide +kernel) rfl ?_
  refine n_getI G fl_RX7_35 hp0 (by decide +kernel) (by decide +kernel) ?_
  refine n_aload_n (n := 0) (by decide +kernel) rfl ?_
  refine n_getI G fl_RX7_32 hp0 (by decide +kernel) (by decide +kernel) ?_
  refine n_icmp_ge (off := 13) (tgt := 21) (by decide +kernel) (by decide) (fun hc1 => ?_) (fun hc1 => ?_)
  · rw [if_pos hc1] at hr
    cases hr
    exact n_return (by decide +kernel)
  · rw [if_neg hc1] at hr
    refine n_aload_n (n := 0) (by decide +kernel) rfl ?_
    refine n_dup rfl (by decide +kernel) ?_
    refine n_getI G fl_RX7_35 hp0 (by decide +kernel) (by decide +kernel) ?_
    refine n_iconst (n := 1) (v := 1) (by decide +kernel) rfl ?_
    refine n_iadd (by decide +kernel) ?_
    refine n_putI G fl_RX7_35 hp0 (by decide +kernel) (by decide +kernel) ?_
    cases hr
    exact n_return (by decide +kernel)
set_option maxRecDepth 100000 in
theorem B_X4_isProductSign (G : GG l s0 b L xs D cy ad)   {M : Mm} {r : (Int32 × Mm)} (hp0 : P 1) (hr : f_X4_isProductSign  M = some r) : Cl l s0 D cy ad P 12 KX4_isProductSign [.ref 1] M (.inl (some (.int r.1))) (r.2) := by
  unfold f_X4_isProductSign at hr
  obtain ⟨⟨v0, M0⟩, h0, h1⟩ := bso hr
  clear hr
  obtain ⟨v1, h2, h3⟩ := bso h1
  obtain ⟨hb, rfl⟩ := rB_in h2
  cases h3
  have hr := h0
  clear h0
  refine cl_ofN (by decide +kernel) rfl rfl (okB hb) (lo0 := [_]) rfl ?_
  unfold g_X4_isProductSign at hr
  refine n_aload_n (n := 0) (by decide +kernel) rfl ?_
  refine n_bipush (n := 42) (v := 42) (by decide +kernel) rfl ?_
  obtain ⟨⟨v1, M1⟩, h1, hr⟩ := bso hr
  try dsimp only at hr
  refine n_callVi G [_] (x := v1) (M1 := M1) (B_X7_isNext G hp0 h1) (by decide) mX7_isNext ml_RX4_49 hp0 (by decide +kernel) rfl rfl (Nat.le_of_ble_eq_true rfl) (by decide +kernel) ?_
  refine n_if_ne (off := 21) (tgt := 27) (by decide +kernel) (by decide) (fun hc2 => ?_) (fun hc2 => ?_)
  · rw [if_neg hc2] at hr
    refine n_iconst (n := 1) (v := 1) (by decide +kernel) rfl ?_
    refine n_goto (off := 4) (tgt := 32) (by decide +kernel) (by decide) ?_
    cases hr
    exact n_ireturn (by decide +kernel)
  · rw [if_pos hc2] at hr
    refine n_aload_n (n := 0) (by decide +kernel) rfl ?_
    refine n_bipush (n := 47) (v := 47) (by decide +kernel) rfl ?_
    obtain ⟨⟨v3, M3⟩, h3, hr⟩ := bso hr
    try dsimp only at hr
    refine n_callVi G [_] (x := v3) (M1 := M3) (B_X7_isNext G hp0 h3) (by decide) mX7_isNext ml_RX4_49 hp0 (by decide +kernel) rfl rfl (Nat.le_of_ble_eq_true rfl) (by decide +kernel) ?_
    refine n_if_ne (off := 12) (tgt := 27) (by decide +kernel) (by decide) (fun hc4 => ?_) (fun hc4 => ?_)
    · rw [if_neg hc4] at hr
      refine n_iconst (n := 1) (v := 1) (by decide +kernel) rfl ?_
      refine n_goto (off := 4) (tgt := 32) (by decide +kernel) (by decide) ?_
      cases hr
      exact n_ireturn (by decide +kernel)
    · rw [if_pos hc4] at hr
      refine n_aload_n (n := 0) (by decide +kernel) rfl ?_
      refine n_bipush (n := 37) (v := 37) (by decide +kernel) rfl ?_
      obtain ⟨⟨v5, M5⟩, h5, hr⟩ := bso hr
      try dsimp only at hr
      refine n_callVi G [_] (x := v5) (M1 := M5) (B_X7_isNext G hp0 h5) (by decide) mX7_isNext ml_RX4_49 hp0 (by decide +kernel) rfl rfl (Nat.le_of_ble_eq_true rfl) (by decide +kernel) ?_
      refine n_if_eq (off := 7) (tgt := 31) (by decide +kernel) (by decide) (fun hc6 => ?_) (fun hc6 => ?_)
      · rw [if_pos hc6] at hr
        refine n_iconst (n := 0) (v := 0) (by decide +kernel) rfl ?_
        cases hr
        exact n_ireturn (by decide +kernel)
      · rw [if_neg hc6] at hr
        refine n_iconst (n := 1) (v := 1) (by decide +kernel) rfl ?_
        refine n_goto (off := 4) (tgt := 32) (by decide +kernel) (by decide) ?_
        cases hr
        exact n_ireturn (by decide +kernel)
abbrev P_X4_readSum_b8 (l : Launch) (s0 : State) (D : va_G) (cy : Nat → ClassId) (ad : Nat → Nat) (P : Nat → Prop) (n : Nat) (a0 : Nat) (x2 : Int32)  (res : Rs) (M' : Mm) (s : (Int32 × Mm)) : Prop := Rn l s0 D cy ad P (12 + (n + 1)) KX4_readSum 8 [.ref a0, .ref 1, .int x2, .int (s.1), .null] [] (s.2) res M'
abbrev Q_X4_readSum_b8 (l : Launch) (s0 : State) (D : va_G) (cy : Nat → ClassId) (ad : Nat → Nat) (P : Nat → Prop) (n : Nat) (a0 : Nat) (x2 : Int32)  (res : Rs) (M' : Mm) (e : Mm) : Prop := Rn l s0 D cy ad P (12 + (n + 1)) KX4_readSum 62 [.null, .null, .null, .null, .null] [] (e) res M'
set_option maxRecDepth 100000 in
theorem B_X4_readSum_j33 (G : GG l s0 b L xs D cy ad) {n : Nat} {rec : Nat → Nat → Int32 → Mm → Option Mm} {a0 : Nat} {x2 : Int32} {x3 : Int32} {M : Mm}  {res : Rs} {M' : Mm} {r : ((Int32 × Mm) ⊕ Mm)} (hrec0 : ∀ (a0 : Nat) (x2 : Int32) (M r : Mm) (hp0 : P a0) (hs0 : SH a0 = 4) (hp1 : P 1), rec 0 a0 x2 M = some r → Cl l s0 D cy ad P (12 + n) KX4_readSum [.ref a0, .ref 1, .int x2] M (.inl none) r) (hrec1 : ∀ (a0 : Nat) (x2 : Int32) (M r : Mm) (hp0 : P a0) (hs0 : SH a0 = 4) (hp1 : P 1), rec 1 a0 x2 M = some r → Cl l s0 D cy ad P (12 + n) KX4_readProduct [.ref a0, .ref 1, .int x2] M (.inl none) r) (hrec2 : ∀ (a0 : Nat) (x2 : Int32) (M r : Mm) (hp0 : P a0) (hs0 : SH a0 = 4) (hp1 : P 1), rec 2 a0 x2 M = some r → Cl l s0 D cy ad P (12 + n) KX4_readPart [.ref a0, .ref 1, .int x2] M (.inl none) r) (hrec3 : ∀ (a0 : Nat) (x2 : Int32) (M r : Mm) (hp0 : P a0) (hs0 : SH a0 = 4) (hp1 : P 1), rec 3 a0 x2 M = some r → Cl l s0 D cy ad P (12 + n) KX4_readBracket [.ref a0, .ref 1, .int x2] M (.inl none) r) (hrec4 : ∀ (a0 : Nat) (x2 : Int32) (M r : Mm) (hp0 : P a0) (hs0 : SH a0 = 4) (hp1 : P 1), rec 4 a0 x2 M = some r → Cl l s0 D cy ad P (12 + n) KX4_readName [.ref a0, .ref 1, .int x2] M (.inl none) r) (hrec5 : ∀ (a0 : Nat) (x2 : Int32) (M r : Mm) (hp0 : P a0) (hs0 : SH a0 = 4) (hp1 : P 1), rec 5 a0 x2 M = some r → Cl l s0 D cy ad P (12 + n) KX4_readChoice [.ref a0, .ref 1, .int x2] M (.inl none) r) (hp0 : P a0) (hs0 : SH a0 = 4) (hp1 : P 1) (hr : f_X4_readSum_j33 rec a0 x2 x3 M = some r) (hk : mtc (P_X4_readSum_b8 l s0 D cy ad P n a0 x2 res M') (Q_X4_readSum_b8 l s0 D cy ad P n a0 x2 res M') r) : Rn l s0 D cy ad P (12 + (n + 1)) KX4_readSum 33 [.ref a0, .ref 1, .int x2, .int x3, .null] [] M res M' := by
  unfold f_X4_readSum_j33 at hr
  refine n_aload_n (n := 1) (by decide +kernel) rfl ?_
  obtain ⟨⟨v5, M5⟩, h5, hr⟩ := bso hr
  try dsimp only at hr
  refine n_callVi G [] (x := v5) (M1 := M5) (B_X7_next G hp1 h5) (by omega) mX7_next ml_RX4_33 hp1 (by decide +kernel) rfl rfl (Nat.le_of_ble_eq_true rfl) (by decide +kernel) ?_
  refine n_istore (n := 4) (lo2 := [_, _, _, _, _]) (by decide +kernel) (Nat.le_of_ble_eq_true rfl) rfl ?_
  refine n_aload_n (n := 1) (by decide +kernel) rfl ?_
  obtain ⟨M6, h6, hr⟩ := bso hr
  refine n_callVv G [] (M1 := M6) (B_X7_skipSign G hp1 h6) (by omega) mX7_skipSign ml_RX4_53 hp1 (by decide +kernel) rfl rfl (Nat.le_of_ble_eq_true rfl) (by decide +kernel) ?_
  refine n_aload_n (n := 0) (by decide +kernel) rfl ?_
  refine n_aload_n (n := 1) (by decide +kernel) rfl ?_
  refine n_iload_n (n := 2) (by decide +kernel) rfl ?_
  obtain ⟨M7, h7, hr⟩ := bso hr
  refine n_callVv G [_, _] (M1 := M7) (hrec1 _ _ _ _ hp0 hs0 hp1 h7) (by omega) mX4_readProduct ml_RX4_46 hp0 hs0 rfl rfl (Nat.le_of_ble_eq_true rfl) (by decide +kernel) ?_
  refine n_aload_n (n := 0) (by decide +kernel) rfl ?_
  refine n_iload (n := 4) (by decide +kernel) rfl ?_
  refine n_ineg (by decide +kernel) ?_
  obtain ⟨M8, h8, hr⟩ := bso hr
  refine n_callVv G [_] (M1 := M8) (B_X4_put G hp0 hs0 h8) (by omega) mX4_put ml_RX4_25 hp0 hs0 rfl rfl (Nat.le_of_ble_eq_true rfl) (by decide +kernel) ?_
  refine n_iincK (n := 3) (j := 1) (w := 1) (lo2 := [_, _, _, _, _]) (by decide +kernel) rfl rfl rfl ?_
  refine n_goto (off := -51) (tgt := 8) (by decide +kernel) (by decide) ?_
  cases hr
  refine n_msk [true, true, true, true, false] (lo2 := [_, _, _, _, .null]) rfl rfl ?_
  exact hk
set_option maxRecDepth 100000 in
theorem B_X4_readSum_b8 (G : GG l s0 b L xs D cy ad) {n : Nat} {rec : Nat → Nat → Int32 → Mm → Option Mm} {a0 : Nat} {x2 : Int32}  {res : Rs} {M' : Mm} (hrec0 : ∀ (a0 : Nat) (x2 : Int32) (M r : Mm) (hp0 : P a0) (hs0 : SH a0 = 4) (hp1 : P 1), rec 0 a0 x2 M = some r → Cl l s0 D cy ad P (12 + n) KX4_readSum [.ref a0, .ref 1, .int x2] M (.inl none) r) (hrec1 : ∀ (a0 : Nat) (x2 : Int32) (M r : Mm) (hp0 : P a0) (hs0 : SH a0 = 4) (hp1 : P 1), rec 1 a0 x2 M = some r → Cl l s0 D cy ad P (12 + n) KX4_readProduct [.ref a0, .ref 1, .int x2] M (.inl none) r) (hrec2 : ∀ (a0 : Nat) (x2 : Int32) (M r : Mm) (hp0 : P a0) (hs0 : SH a0 = 4) (hp1 : P 1), rec 2 a0 x2 M = some r → Cl l s0 D cy ad P (12 + n) KX4_readPart [.ref a0, .ref 1, .int x2] M (.inl none) r) (hrec3 : ∀ (a0 : Nat) (x2 : Int32) (M r : Mm) (hp0 : P a0) (hs0 : SH a0 = 4) (hp1 : P 1), rec 3 a0 x2 M = some r → Cl l s0 D cy ad P (12 + n) KX4_readBracket [.ref a0, .ref 1, .int x2] M (.inl none) r) (hrec4 : ∀ (a0 : Nat) (x2 : Int32) (M r : Mm) (hp0 : P a0) (hs0 : SH a0 = 4) (hp1 : P 1), rec 4 a0 x2 M = some r → Cl l s0 D cy ad P (12 + n) KX4_readName [.ref a0, .ref 1, .int x2] M (.inl none) r) (hrec5 : ∀ (a0 : Nat) (x2 : Int32) (M r : Mm) (hp0 : P a0) (hs0 : SH a0 = 4) (hp1 : P 1), rec 5 a0 x2 M = some r → Cl l s0 D cy ad P (12 + n) KX4_readChoice [.ref a0, .ref 1, .int x2] M (.inl none) r) (hp0 : P a0) (hs0 : SH a0 = 4) (hp1 : P 1) : ∀ (s : (Int32 × Mm)) (r : (Int32 × Mm) ⊕ Mm), f_X4_readSum_b8 rec a0 x2 s = some r → mtc (P_X4_readSum_b8 l s0 D cy ad P n a0 x2 res M') (Q_X4_readSum_b8 l s0 D cy ad P n a0 x2 res M') r → P_X4_readSum_b8 l s0 D cy ad P n a0 x2 res M' s := by
  intro s r hr hk
  obtain ⟨x3, M⟩ := s
  unfold f_X4_readSum_b8 at hr
  try dsimp only at hr
  dsimp only [P_X4_readSum_b8]
  refine n_iload_n (n := 3) (by decide +kernel) rfl ?_
  refine n_sipush (n := 150) (v := 150) (by decide +kernel) (by decide +kernel) ?_
  refine n_icmp_ge (off := 50) (tgt := 62) (by decide +kernel) (by decide) (fun hc2 => ?_) (fun hc2 => ?_)
  · rw [if_pos hc2] at hr
    cases hr
    refine n_msk [false, false, false, false, false] (lo2 := [.null, .null, .null, .null, .null]) rfl rfl ?_
    exact hk
  · rw [if_neg hc2] at hr
    refine n_aload_n (n := 1) (by decide +kernel) rfl ?_
    refine n_bipush (n := 43) (v := 43) (by decide +kernel) rfl ?_
    obtain ⟨⟨v3, M3⟩, h3, hr⟩ := bso hr
    try dsimp only at hr
    refine n_callVi G [_] (x := v3) (M1 := M3) (B_X7_isNext G hp1 h3) (by omega) mX7_isNext ml_RX4_49 hp1 (by decide +kernel) rfl rfl (Nat.le_of_ble_eq_true rfl) (by decide +kernel) ?_
    refine n_if_ne (off := 12) (tgt := 33) (by decide +kernel) (by decide) (fun hc4 => ?_) (fun hc4 => ?_)
    · rw [if_neg hc4] at hr
      exact B_X4_readSum_j33 G hrec0 hrec1 hrec2 hrec3 hrec4 hrec5 hp0 hs0 hp1 hr hk
    · rw [if_pos hc4] at hr
      refine n_aload_n (n := 1) (by decide +kernel) rfl ?_
      refine n_bipush (n := 45) (v := 45) (by decide +kernel) rfl ?_
      obtain ⟨⟨v9, M9⟩, h9, hr⟩ := bso hr
      try dsimp only at hr
      refine n_callVi G [_] (x := v9) (M1 := M9) (B_X7_isNext G hp1 h9) (by omega) mX7_isNext ml_RX4_49 hp1 (by decide +kernel) rfl rfl (Nat.le_of_ble_eq_true rfl) (by decide +kernel) ?_
      refine n_if_eq (off := 32) (tgt := 62) (by decide +kernel) (by decide) (fun hc10 => ?_) (fun hc10 => ?_)
      · rw [if_pos hc10] at hr
        cases hr
        refine n_msk [false, false, false, false, false] (lo2 := [.null, .null, .null, .null, .null]) rfl rfl ?_
        exact hk
      · rw [if_neg hc10] at hr
        exact B_X4_readSum_j33 G hrec0 hrec1 hrec2 hrec3 hrec4 hrec5 hp0 hs0 hp1 hr hk
set_option maxRecDepth 100000 in
theorem W_X4_readSum_b8 (G : GG l s0 b L xs D cy ad) {n : Nat} {rec : Nat → Nat → Int32 → Mm → Option Mm} {a0 : Nat} {x2 : Int32}  (hrec0 : ∀ (a0 : Nat) (x2 : Int32) (M r : Mm) (hp0 : P a0) (hs0 : SH a0 = 4) (hp1 : P 1), rec 0 a0 x2 M = some r → Cl l s0 D cy ad P (12 + n) KX4_readSum [.ref a0, .ref 1, .int x2] M (.inl none) r) (hrec1 : ∀ (a0 : Nat) (x2 : Int32) (M r : Mm) (hp0 : P a0) (hs0 : SH a0 = 4) (hp1 : P 1), rec 1 a0 x2 M = some r → Cl l s0 D cy ad P (12 + n) KX4_readProduct [.ref a0, .ref 1, .int x2] M (.inl none) r) (hrec2 : ∀ (a0 : Nat) (x2 : Int32) (M r : Mm) (hp0 : P a0) (hs0 : SH a0 = 4) (hp1 : P 1), rec 2 a0 x2 M = some r → Cl l s0 D cy ad P (12 + n) KX4_readPart [.ref a0, .ref 1, .int x2] M (.inl none) r) (hrec3 : ∀ (a0 : Nat) (x2 : Int32) (M r : Mm) (hp0 : P a0) (hs0 : SH a0 = 4) (hp1 : P 1), rec 3 a0 x2 M = some r → Cl l s0 D cy ad P (12 + n) KX4_readBracket [.ref a0, .ref 1, .int x2] M (.inl none) r) (hrec4 : ∀ (a0 : Nat) (x2 : Int32) (M r : Mm) (hp0 : P a0) (hs0 : SH a0 = 4) (hp1 : P 1), rec 4 a0 x2 M = some r → Cl l s0 D cy ad P (12 + n) KX4_readName [.ref a0, .ref 1, .int x2] M (.inl none) r) (hrec5 : ∀ (a0 : Nat) (x2 : Int32) (M r : Mm) (hp0 : P a0) (hs0 : SH a0 = 4) (hp1 : P 1), rec 5 a0 x2 M = some r → Cl l s0 D cy ad P (12 + n) KX4_readChoice [.ref a0, .ref 1, .int x2] M (.inl none) r) (hp0 : P a0) (hs0 : SH a0 = 4) (hp1 : P 1) {s : (Int32 × Mm)} {e : Mm} (h : whl fu (f_X4_readSum_b8 rec a0 x2) s = some e) (res : Rs) (M' : Mm) : Q_X4_readSum_b8 l s0 D cy ad P n a0 x2 res M' e → P_X4_readSum_b8 l s0 D cy ad P n a0 x2 res M' s := whl_run (P := fun s => P_X4_readSum_b8 l s0 D cy ad P n a0 x2 res M' s) (Q := fun e => Q_X4_readSum_b8 l s0 D cy ad P n a0 x2 res M' e) (B_X4_readSum_b8 G (res := res) (M' := M') (n := n) (rec := rec) (a0 := a0) (x2 := x2) hrec0 hrec1 hrec2 hrec3 hrec4 hrec5 hp0 hs0 hp1) fu s h
set_option maxRecDepth 100000 in
theorem Bb_X4_readSum (G : GG l s0 b L xs D cy ad) {n : Nat} {rec : Nat → Nat → Int32 → Mm → Option Mm} {a0 : Nat} {x2 : Int32} {M : Mm} {r : Mm} (hrec0 : ∀ (a0 : Nat) (x2 : Int32) (M r : Mm) (hp0 : P a0) (hs0 : SH a0 = 4) (hp1 : P 1), rec 0 a0 x2 M = some r → Cl l s0 D cy ad P (12 + n) KX4_readSum [.ref a0, .ref 1, .int x2] M (.inl none) r) (hrec1 : ∀ (a0 : Nat) (x2 : Int32) (M r : Mm) (hp0 : P a0) (hs0 : SH a0 = 4) (hp1 : P 1), rec 1 a0 x2 M = some r → Cl l s0 D cy ad P (12 + n) KX4_readProduct [.ref a0, .ref 1, .int x2] M (.inl none) r) (hrec2 : ∀ (a0 : Nat) (x2 : Int32) (M r : Mm) (hp0 : P a0) (hs0 : SH a0 = 4) (hp1 : P 1), rec 2 a0 x2 M = some r → Cl l s0 D cy ad P (12 + n) KX4_readPart [.ref a0, .ref 1, .int x2] M (.inl none) r) (hrec3 : ∀ (a0 : Nat) (x2 : Int32) (M r : Mm) (hp0 : P a0) (hs0 : SH a0 = 4) (hp1 : P 1), rec 3 a0 x2 M = some r → Cl l s0 D cy ad P (12 + n) KX4_readBracket [.ref a0, .ref 1, .int x2] M (.inl none) r) (hrec4 : ∀ (a0 : Nat) (x2 : Int32) (M r : Mm) (hp0 : P a0) (hs0 : SH a0 = 4) (hp1 : P 1), rec 4 a0 x2 M = some r → Cl l s0 D cy ad P (12 + n) KX4_readName [.ref a0, .ref 1, .int x2] M (.inl none) r) (hrec5 : ∀ (a0 : Nat) (x2 : Int32) (M r : Mm) (hp0 : P a0) (hs0 : SH a0 = 4) (hp1 : P 1), rec 5 a0 x2 M = some r → Cl l s0 D cy ad P (12 + n) KX4_readChoice [.ref a0, .ref 1, .int x2] M (.inl none) r) (hp0 : P a0) (hs0 : SH a0 = 4) (hp1 : P 1) (hr : fb_X4_readSum rec a0 x2 M = some r) : Cl l s0 D cy ad P (12 + (n + 1)) KX4_readSum [.ref a0, .ref 1, .int x2] M (.inl none) (r) := by
  refine cl_ofN (by decide +kernel) rfl rfl rfl (lo0 := [_, _, _, .null, .null]) rfl ?_
  unfold fb_X4_readSum at hr
  refine n_aload_n (n := 0) (by decide +kernel) rfl ?_
  refine n_aload_n (n := 1) (by decide +kernel) rfl ?_
  refine n_iload_n (n := 2) (by decide +kernel) rfl ?_
  obtain ⟨M1, h1, hr⟩ := bso hr
  refine n_callVv G [_, _] (M1 := M1) (hrec1 _ _ _ _ hp0 hs0 hp1 h1) (by omega) mX4_readProduct ml_RX4_46 hp0 hs0 rfl rfl (Nat.le_of_ble_eq_true rfl) (by decide +kernel) ?_
  refine n_iconst (n := 0) (v := 0) (by decide +kernel) rfl ?_
  refine n_istore_n (n := 3) (lo2 := [_, _, _, _, _]) (by decide +kernel) (Nat.le_of_ble_eq_true rfl) rfl ?_
  obtain ⟨M11, h11, hr⟩ := bso hr
  refine (W_X4_readSum_b8 G hrec0 hrec1 hrec2 hrec3 hrec4 hrec5 hp0 hs0 hp1 h11 _ _) ?_
  dsimp only [Q_X4_readSum_b8]
  cases hr
  exact n_return (by decide +kernel)
abbrev P_X4_readProduct_b8 (l : Launch) (s0 : State) (D : va_G) (cy : Nat → ClassId) (ad : Nat → Nat) (P : Nat → Prop) (n : Nat) (a0 : Nat) (x2 : Int32)  (res : Rs) (M' : Mm) (s : (Int32 × Mm)) : Prop := Rn l s0 D cy ad P (12 + (n + 1)) KX4_readProduct 8 [.ref a0, .ref 1, .int x2, .int (s.1), .null] [] (s.2) res M'
abbrev Q_X4_readProduct_b8 (l : Launch) (s0 : State) (D : va_G) (cy : Nat → ClassId) (ad : Nat → Nat) (P : Nat → Prop) (n : Nat) (a0 : Nat) (x2 : Int32)  (res : Rs) (M' : Mm) (e : Mm) : Prop := Rn l s0 D cy ad P (12 + (n + 1)) KX4_readProduct 51 [.null, .null, .null, .null, .null] [] (e) res M'
set_option maxRecDepth 100000 in
theorem B_X4_readProduct_b8 (G : GG l s0 b L xs D cy ad) {n : Nat} {rec : Nat → Nat → Int32 → Mm → Option Mm} {a0 : Nat} {x2 : Int32}  {res : Rs} {M' : Mm} (hrec0 : ∀ (a0 : Nat) (x2 : Int32) (M r : Mm) (hp0 : P a0) (hs0 : SH a0 = 4) (hp1 : P 1), rec 0 a0 x2 M = some r → Cl l s0 D cy ad P (12 + n) KX4_readSum [.ref a0, .ref 1, .int x2] M (.inl none) r) (hrec1 : ∀ (a0 : Nat) (x2 : Int32) (M r : Mm) (hp0 : P a0) (hs0 : SH a0 = 4) (hp1 : P 1), rec 1 a0 x2 M = some r → Cl l s0 D cy ad P (12 + n) KX4_readProduct [.ref a0, .ref 1, .int x2] M (.inl none) r) (hrec2 : ∀ (a0 : Nat) (x2 : Int32) (M r : Mm) (hp0 : P a0) (hs0 : SH a0 = 4) (hp1 : P 1), rec 2 a0 x2 M = some r → Cl l s0 D cy ad P (12 + n) KX4_readPart [.ref a0, .ref 1, .int x2] M (.inl none) r) (hrec3 : ∀ (a0 : Nat) (x2 : Int32) (M r : Mm) (hp0 : P a0) (hs0 : SH a0 = 4) (hp1 : P 1), rec 3 a0 x2 M = some r → Cl l s0 D cy ad P (12 + n) KX4_readBracket [.ref a0, .ref 1, .int x2] M (.inl none) r) (hrec4 : ∀ (a0 : Nat) (x2 : Int32) (M r : Mm) (hp0 : P a0) (hs0 : SH a0 = 4) (hp1 : P 1), rec 4 a0 x2 M = some r → Cl l s0 D cy ad P (12 + n) KX4_readName [.ref a0, .ref 1, .int x2] M (.inl none) r) (hrec5 : ∀ (a0 : Nat) (x2 : Int32) (M r : Mm) (hp0 : P a0) (hs0 : SH a0 = 4) (hp1 : P 1), rec 5 a0 x2 M = some r → Cl l s0 D cy ad P (12 + n) KX4_readChoice [.ref a0, .ref 1, .int x2] M (.inl none) r) (hp0 : P a0) (hs0 : SH a0 = 4) (hp1 : P 1) : ∀ (s : (Int32 × Mm)) (r : (Int32 × Mm) ⊕ Mm), f_X4_readProduct_b8 rec a0 x2 s = some r → mtc (P_X4_readProduct_b8 l s0 D cy ad P n a0 x2 res M') (Q_X4_readProduct_b8 l s0 D cy ad P n a0 x2 res M') r → P_X4_readProduct_b8 l s0 D cy ad P n a0 x2 res M' s := by
  intro s r hr hk
  obtain ⟨x3, M⟩ := s
  unfold f_X4_readProduct_b8 at hr
  try dsimp only at hr
  dsimp only [P_X4_readProduct_b8]
  refine n_iload_n (n := 3) (by decide +kernel) rfl ?_
  refine n_sipush (n := 150) (v := 150) (by decide +kernel) (by decide +kernel) ?_
  refine n_icmp_ge (off := 39) (tgt := 51) (by decide +kernel) (by decide) (fun hc2 => ?_) (fun hc2 => ?_)
  · rw [if_pos hc2] at hr
    cases hr
    refine n_msk [false, false, false, false, false] (lo2 := [.null, .null, .null, .null, .null]) rfl rfl ?_
    exact hk
  · rw [if_neg hc2] at hr
    refine n_aload_n (n := 1) (by decide +kernel) rfl ?_
    obtain ⟨⟨v3, M3⟩, h3, hr⟩ := bso hr
    try dsimp only at hr
    refine n_callSi G [_] (x := v3) (M1 := M3) (B_X4_isProductSign G hp1 h3) (by omega) mX4_isProductSign ml_RX4_59 rfl rfl (Nat.le_of_ble_eq_true rfl) (by decide +kernel) ?_
    refine n_if_eq (off := 32) (tgt := 51) (by decide +kernel) (by decide) (fun hc4 => ?_) (fun hc4 => ?_)
    · rw [if_pos hc4] at hr
      cases hr
      refine n_msk [false, false, false, false, false] (lo2 := [.null, .null, .null, .null, .null]) rfl rfl ?_
      exact hk
    · rw [if_neg hc4] at hr
      refine n_aload_n (n := 1) (by decide +kernel) rfl ?_
      obtain ⟨⟨v5, M5⟩, h5, hr⟩ := bso hr
      try dsimp only at hr
      refine n_callVi G [] (x := v5) (M1 := M5) (B_X7_next G hp1 h5) (by omega) mX7_next ml_RX4_33 hp1 (by decide +kernel) rfl rfl (Nat.le_of_ble_eq_true rfl) (by decide +kernel) ?_
      refine n_istore (n := 4) (lo2 := [_, _, _, _, _]) (by decide +kernel) (Nat.le_of_ble_eq_true rfl) rfl ?_
      refine n_aload_n (n := 1) (by decide +kernel) rfl ?_
      obtain ⟨M6, h6, hr⟩ := bso hr
      refine n_callVv G [] (M1 := M6) (B_X7_skipSign G hp1 h6) (by omega) mX7_skipSign ml_RX4_53 hp1 (by decide +kernel) rfl rfl (Nat.le_of_ble_eq_true rfl) (by decide +kernel) ?_
      refine n_aload_n (n := 0) (by decide +kernel) rfl ?_
      refine n_aload_n (n := 1) (by decide +kernel) rfl ?_
      refine n_iload_n (n := 2) (by decide +kernel) rfl ?_
      obtain ⟨M7, h7, hr⟩ := bso hr
      refine n_callVv G [_, _] (M1 := M7) (hrec2 _ _ _ _ hp0 hs0 hp1 h7) (by omega) mX4_readPart ml_RX4_56 hp0 hs0 rfl rfl (Nat.le_of_ble_eq_true rfl) (by decide +kernel) ?_
      refine n_aload_n (n := 0) (by decide +kernel) rfl ?_
      refine n_iload (n := 4) (by decide +kernel) rfl ?_
      refine n_ineg (by decide +kernel) ?_
      obtain ⟨M8, h8, hr⟩ := bso hr
      refine n_callVv G [_] (M1 := M8) (B_X4_put G hp0 hs0 h8) (by omega) mX4_put ml_RX4_25 hp0 hs0 rfl rfl (Nat.le_of_ble_eq_true rfl) (by decide +kernel) ?_
      refine n_iincK (n := 3) (j := 1) (w := 1) (lo2 := [_, _, _, _, _]) (by decide +kernel) rfl rfl rfl ?_
      refine n_goto (off := -40) (tgt := 8) (by decide +kernel) (by decide) ?_
      cases hr
      refine n_msk [true, true, true, true, false] (lo2 := [_, _, _, _, .null]) rfl rfl ?_
      exact hk
set_option maxRecDepth 100000 in
theorem W_X4_readProduct_b8 (G : GG l s0 b L xs D cy ad) {n : Nat} {rec : Nat → Nat → Int32 → Mm → Option Mm} {a0 : Nat} {x2 : Int32}  (hrec0 : ∀ (a0 : Nat) (x2 : Int32) (M r : Mm) (hp0 : P a0) (hs0 : SH a0 = 4) (hp1 : P 1), rec 0 a0 x2 M = some r → Cl l s0 D cy ad P (12 + n) KX4_readSum [.ref a0, .ref 1, .int x2] M (.inl none) r) (hrec1 : ∀ (a0 : Nat) (x2 : Int32) (M r : Mm) (hp0 : P a0) (hs0 : SH a0 = 4) (hp1 : P 1), rec 1 a0 x2 M = some r → Cl l s0 D cy ad P (12 + n) KX4_readProduct [.ref a0, .ref 1, .int x2] M (.inl none) r) (hrec2 : ∀ (a0 : Nat) (x2 : Int32) (M r : Mm) (hp0 : P a0) (hs0 : SH a0 = 4) (hp1 : P 1), rec 2 a0 x2 M = some r → Cl l s0 D cy ad P (12 + n) KX4_readPart [.ref a0, .ref 1, .int x2] M (.inl none) r) (hrec3 : ∀ (a0 : Nat) (x2 : Int32) (M r : Mm) (hp0 : P a0) (hs0 : SH a0 = 4) (hp1 : P 1), rec 3 a0 x2 M = some r → Cl l s0 D cy ad P (12 + n) KX4_readBracket [.ref a0, .ref 1, .int x2] M (.inl none) r) (hrec4 : ∀ (a0 : Nat) (x2 : Int32) (M r : Mm) (hp0 : P a0) (hs0 : SH a0 = 4) (hp1 : P 1), rec 4 a0 x2 M = some r → Cl l s0 D cy ad P (12 + n) KX4_readName [.ref a0, .ref 1, .int x2] M (.inl none) r) (hrec5 : ∀ (a0 : Nat) (x2 : Int32) (M r : Mm) (hp0 : P a0) (hs0 : SH a0 = 4) (hp1 : P 1), rec 5 a0 x2 M = some r → Cl l s0 D cy ad P (12 + n) KX4_readChoice [.ref a0, .ref 1, .int x2] M (.inl none) r) (hp0 : P a0) (hs0 : SH a0 = 4) (hp1 : P 1) {s : (Int32 × Mm)} {e : Mm} (h : whl fu (f_X4_readProduct_b8 rec a0 x2) s = some e) (res : Rs) (M' : Mm) : Q_X4_readProduct_b8 l s0 D cy ad P n a0 x2 res M' e → P_X4_readProduct_b8 l s0 D cy ad P n a0 x2 res M' s := whl_run (P := fun s => P_X4_readProduct_b8 l s0 D cy ad P n a0 x2 res M' s) (Q := fun e => Q_X4_readProduct_b8 l s0 D cy ad P n a0 x2 res M' e) (B_X4_readProduct_b8 G (res := res) (M' := M') (n := n) (rec := rec) (a0 := a0) (x2 := x2) hrec0 hrec1 hrec2 hrec3 hrec4 hrec5 hp0 hs0 hp1) fu s h
set_option maxRecDepth 100000 in
theorem Bb_X4_readProduct (G : GG l s0 b L xs D cy ad) {n : Nat} {rec : Nat → Nat → Int32 → Mm → Option Mm} {a0 : Nat} {x2 : Int32} {M : Mm} {r : Mm} (hrec0 : ∀ (a0 : Nat) (x2 : Int32) (M r : Mm) (hp0 : P a0) (hs0 : SH a0 = 4) (hp1 : P 1), rec 0 a0 x2 M = some r → Cl l s0 D cy ad P (12 + n) KX4_readSum [.ref a0, .ref 1, .int x2] M (.inl none) r) (hrec1 : ∀ (a0 : Nat) (x2 : Int32) (M r : Mm) (hp0 : P a0) (hs0 : SH a0 = 4) (hp1 : P 1), rec 1 a0 x2 M = some r → Cl l s0 D cy ad P (12 + n) KX4_readProduct [.ref a0, .ref 1, .int x2] M (.inl none) r) (hrec2 : ∀ (a0 : Nat) (x2 : Int32) (M r : Mm) (hp0 : P a0) (hs0 : SH a0 = 4) (hp1 : P 1), rec 2 a0 x2 M = some r → Cl l s0 D cy ad P (12 + n) KX4_readPart [.ref a0, .ref 1, .int x2] M (.inl none) r) (hrec3 : ∀ (a0 : Nat) (x2 : Int32) (M r : Mm) (hp0 : P a0) (hs0 : SH a0 = 4) (hp1 : P 1), rec 3 a0 x2 M = some r → Cl l s0 D cy ad P (12 + n) KX4_readBracket [.ref a0, .ref 1, .int x2] M (.inl none) r) (hrec4 : ∀ (a0 : Nat) (x2 : Int32) (M r : Mm) (hp0 : P a0) (hs0 : SH a0 = 4) (hp1 : P 1), rec 4 a0 x2 M = some r → Cl l s0 D cy ad P (12 + n) KX4_readName [.ref a0, .ref 1, .int x2] M (.inl none) r) (hrec5 : ∀ (a0 : Nat) (x2 : Int32) (M r : Mm) (hp0 : P a0) (hs0 : SH a0 = 4) (hp1 : P 1), rec 5 a0 x2 M = some r → Cl l s0 D cy ad P (12 + n) KX4_readChoice [.ref a0, .ref 1, .int x2] M (.inl none) r) (hp0 : P a0) (hs0 : SH a0 = 4) (hp1 : P 1) (hr : fb_X4_readProduct rec a0 x2 M = some r) : Cl l s0 D cy ad P (12 + (n + 1)) KX4_readProduct [.ref a0, .ref 1, .int x2] M (.inl none) (r) := by
  refine cl_ofN (by decide +kernel) rfl rfl rfl (lo0 := [_, _, _, .null, .null]) rfl ?_
  unfold fb_X4_readProduct at hr
  refine n_aload_n (n := 0) (by decide +kernel) rfl ?_
  refine n_aload_n (n := 1) (by decide +kernel) rfl ?_
  refine n_iload_n (n := 2) (by decide +kernel) rfl ?_
  obtain ⟨M1, h1, hr⟩ := bso hr
  refine n_callVv G [_, _] (M1 := M1) (hrec2 _ _ _ _ hp0 hs0 hp1 h1) (by omega) mX4_readPart ml_RX4_56 hp0 hs0 rfl rfl (Nat.le_of_ble_eq_true rfl) (by decide +kernel) ?_
  refine n_iconst (n := 0) (v := 0) (by decide +kernel) rfl ?_
  refine n_istore_n (n := 3) (lo2 := [_, _, _, _, _]) (by decide +kernel) (Nat.le_of_ble_eq_true rfl) rfl ?_
  obtain ⟨M9, h9, hr⟩ := bso hr
  refine (W_X4_readProduct_b8 G hrec0 hrec1 hrec2 hrec3 hrec4 hrec5 hp0 hs0 hp1 h9 _ _) ?_
  dsimp only [Q_X4_readProduct_b8]
  cases hr
  exact n_return (by decide +kernel)
set_option maxRecDepth 100000 in
theorem Bb_X4_readPart (G : GG l s0 b L xs D cy ad) {n : Nat} {rec : Nat → Nat → Int32 → Mm → Option Mm} {a0 : Nat} {x2 : Int32} {M : Mm} {r : Mm} (hrec0 : ∀ (a0 : Nat) (x2 : Int32) (M r : Mm) (hp0 : P a0) (hs0 : SH a0 = 4) (hp1 : P 1), rec 0 a0 x2 M = some r → Cl l s0 D cy ad P (12 + n) KX4_readSum [.ref a0, .ref 1, .int x2] M (.inl none) r) (hrec1 : ∀ (a0 : Nat) (x2 : Int32) (M r : Mm) (hp0 : P a0) (hs0 : SH a0 = 4) (hp1 : P 1), rec 1 a0 x2 M = some r → Cl l s0 D cy ad P (12 + n) KX4_readProduct [.ref a0, .ref 1, .int x2] M (.inl none) r) (hrec2 : ∀ (a0 : Nat) (x2 : Int32) (M r : Mm) (hp0 : P a0) (hs0 : SH a0 = 4) (hp1 : P 1), rec 2 a0 x2 M = some r → Cl l s0 D cy ad P (12 + n) KX4_readPart [.ref a0, .ref 1, .int x2] M (.inl none) r) (hrec3 : ∀ (a0 : Nat) (x2 : Int32) (M r : Mm) (hp0 : P a0) (hs0 : SH a0 = 4) (hp1 : P 1), rec 3 a0 x2 M = some r → Cl l s0 D cy ad P (12 + n) KX4_readBracket [.ref a0, .ref 1, .int x2] M (.inl none) r) (hrec4 : ∀ (a0 : Nat) (x2 : Int32) (M r : Mm) (hp0 : P a0) (hs0 : SH a0 = 4) (hp1 : P 1), rec 4 a0 x2 M = some r → Cl l s0 D cy ad P (12 + n) KX4_readName [.ref a0, .ref 1, .int x2] M (.inl none) r) (hrec5 : ∀ (a0 : Nat) (x2 : Int32) (M r : Mm) (hp0 : P a0) (hs0 : SH a0 = 4) (hp1 : P 1), rec 5 a0 x2 M = some r → Cl l s0 D cy ad P (12 + n) KX4_readChoice [.ref a0, .ref 1, .int x2] M (.inl none) r) (hp0 : P a0) (hs0 : SH a0 = 4) (hp1 : P 1) (hr : fb_X4_readPart rec a0 x2 M = some r) : Cl l s0 D cy ad P (12 + (n + 1)) KX4_readPart [.ref a0, .ref 1, .int x2] M (.inl none) (r) := by
  refine cl_ofN (by decide +kernel) rfl rfl rfl (lo0 := [_, _, _]) rfl ?_
  unfold fb_X4_readPart at hr
  refine n_aload_n (n := 1) (by decide +kernel) rfl ?_
  obtain ⟨⟨v1, M1⟩, h1, hr⟩ := bso hr
  try dsimp only at hr
  refine n_callVi G [] (x := v1) (M1 := M1) (B_X7_next G hp1 h1) (by omega) mX7_next ml_RX4_33 hp1 (by decide +kernel) rfl rfl (Nat.le_of_ble_eq_true rfl) (by decide +kernel) ?_
  obtain ⟨v2, h2, hr⟩ := bso hr
  refine n_callSi G [_] (x := v2) (B_X7_isDigit G  h2) (by omega) mX7_isDigit ml_RX4_63 rfl rfl (Nat.le_of_ble_eq_true rfl) (by decide +kernel) ?_
  refine n_if_eq (off := 18) (tgt := 25) (by decide +kernel) (by decide) (fun hc3 => ?_) (fun hc3 => ?_)
  · rw [if_pos hc3] at hr
    refine n_aload_n (n := 1) (by decide +kernel) rfl ?_
    refine n_bipush (n := 40) (v := 40) (by decide +kernel) rfl ?_
    obtain ⟨⟨v4, M4⟩, h4, hr⟩ := bso hr
    try dsimp only at hr
    refine n_callVi G [_] (x := v4) (M1 := M4) (B_X7_isNext G hp1 h4) (by omega) mX7_isNext ml_RX4_49 hp1 (by decide +kernel) rfl rfl (Nat.le_of_ble_eq_true rfl) (by decide +kernel) ?_
    refine n_if_eq (off := 12) (tgt := 43) (by decide +kernel) (by decide) (fun hc5 => ?_) (fun hc5 => ?_)
    · rw [if_pos hc5] at hr
      refine n_aload_n (n := 0) (by decide +kernel) rfl ?_
      refine n_aload_n (n := 1) (by decide +kernel) rfl ?_
      refine n_iload_n (n := 2) (by decide +kernel) rfl ?_
      obtain ⟨M6, h6, hr⟩ := bso hr
      refine n_callVv G [_, _] (M1 := M6) (hrec4 _ _ _ _ hp0 hs0 hp1 h6) (by omega) mX4_readName ml_RX4_73 hp0 hs0 rfl rfl (Nat.le_of_ble_eq_true rfl) (by decide +kernel) ?_
      cases hr
      exact n_return (by decide +kernel)
    · rw [if_neg hc5] at hr
      refine n_aload_n (n := 0) (by decide +kernel) rfl ?_
      refine n_aload_n (n := 1) (by decide +kernel) rfl ?_
      refine n_iload_n (n := 2) (by decide +kernel) rfl ?_
      obtain ⟨M7, h7, hr⟩ := bso hr
      refine n_callVv G [_, _] (M1 := M7) (hrec3 _ _ _ _ hp0 hs0 hp1 h7) (by omega) mX4_readBracket ml_RX4_70 hp0 hs0 rfl rfl (Nat.le_of_ble_eq_true rfl) (by decide +kernel) ?_
      refine n_goto (off := 9) (tgt := 49) (by decide +kernel) (by decide) ?_
      cases hr
      exact n_return (by decide +kernel)
  · rw [if_neg hc3] at hr
    refine n_aload_n (n := 0) (by decide +kernel) rfl ?_
    refine n_aload_n (n := 1) (by decide +kernel) rfl ?_
    refine n_iconst (n := 0) (v := 0) (by decide +kernel) rfl ?_
    refine n_sipush (n := 999) (v := 999) (by decide +kernel) (by decide +kernel) ?_
    obtain ⟨⟨v8, M8⟩, h8, hr⟩ := bso hr
    try dsimp only at hr
    refine n_callVi G [_, _] (x := v8) (M1 := M8) (B_X7_readNumber G hp1 h8) (by omega) mX7_readNumber ml_RX4_66 hp1 (by decide +kernel) rfl rfl (Nat.le_of_ble_eq_true rfl) (by decide +kernel) ?_
    obtain ⟨M9, h9, hr⟩ := bso hr
    refine n_callVv G [_] (M1 := M9) (B_X4_put G hp0 hs0 h9) (by omega) mX4_put ml_RX4_25 hp0 hs0 rfl rfl (Nat.le_of_ble_eq_true rfl) (by decide +kernel) ?_
    refine n_goto (off := 27) (tgt := 49) (by decide +kernel) (by decide) ?_
    cases hr
    exact n_return (by decide +kernel)
end NB
