/-! printed rows: a method is its function -/
section NB
variable {l : Launch} {s0 : State} {b L : Nat} {xs : Nat → Int32} {D : va_G} {cy : Nat → ClassId} {ad : Nat → Nat} {P : Nat → Prop}
abbrev P_X7_pushNumber_b3 (l : Launch) (s0 : State) (D : va_G) (cy : Nat → ClassId) (ad : Nat → Nat) (P : Nat → Prop) (x1 : Int32)  (res : Rs) (M' : Mm) (s : (Int32 × Mm)) : Prop := Rn l s0 D cy ad P 9 KX7_pushNumber 3 [.ref 1, .int x1, .int (s.1)] [] (s.2) res M'
abbrev Q_X7_pushNumber_b3 (l : Launch) (s0 : State) (D : va_G) (cy : Nat → ClassId) (ad : Nat → Nat) (P : Nat → Prop) (x1 : Int32)  (res : Rs) (M' : Mm) (e : Mm) : Prop := Rn l s0 D cy ad P 9 KX7_pushNumber 46 [.null, .null, .null] [] (e) res M'
set_option maxRecDepth 100000 in
theorem B_X7_pushNumber_b3 (G : GG l s0 b L xs D cy ad) {x1 : Int32}  {res : Rs} {M' : Mm} (hp0 : P 1) : ∀ (s : (Int32 × Mm)) (r : (Int32 × Mm) ⊕ Mm), f_X7_pushNumber_b3 x1 s = some r → mtc (P_X7_pushNumber_b3 l s0 D cy ad P x1 res M') (Q_X7_pushNumber_b3 l s0 D cy ad P x1 res M') r → P_X7_pushNumber_b3 l s0 D cy ad P x1 res M' s := by
  intro s r hr hk
  obtain ⟨x2, M⟩ := s
  unfold f_X7_pushNumber_b3 at hr
  try dsimp only at hr
  dsimp only [P_X7_pushNumber_b3]
  refine n_iload_n (n := 2) (by decide +kernel) rfl ?_
  refine n_if_lt (off := 42) (tgt := 46) (by decide +kernel) (by decide) (fun hc1 => ?_) (fun hc1 => ?_)
  · rw [if_pos hc1] at hr
    cases hr
    refine n_msk [false, false, false] (lo2 := [.null, .null, .null]) rfl rfl ?_
    exact hk
  · rw [if_neg hc1] at hr
    refine n_aload_n (n := 0) (by decide +kernel) rfl ?_
    refine n_getI G fl_RX7_19 hp0 (by decide +kernel) (by decide +kernel) ?_
    refine n_sipush (n := 600) (v := 600) (by decide +kernel) (by decide +kernel) ?_
    refine n_icmp_ge (off := 32) (tgt := 46) (by decide +kernel) (by decide) (fun hc2 => ?_) (fun hc2 => ?_)
    · rw [if_pos hc2] at hr
      cases hr
      refine n_msk [false, false, false] (lo2 := [.null, .null, .null]) rfl rfl ?_
      exact hk
    · rw [if_neg hc2] at hr
      refine n_aload_n (n := 0) (by decide +kernel) rfl ?_
      refine n_getF (q := 2) G fl_RX7_11 hp0 (by decide +kernel) (by decide +kernel) (by decide +kernel) (fun hp3q => ?_)
      refine n_aload_n (n := 0) (by decide +kernel) rfl ?_
      refine n_getI G fl_RX7_19 hp0 (by decide +kernel) (by decide +kernel) ?_
      refine n_iload_n (n := 1) (by decide +kernel) rfl ?_
      refine n_iload_n (n := 2) (by decide +kernel) rfl ?_
      refine n_ishr (by decide +kernel) ?_
      refine n_i2b (by decide +kernel) ?_
      obtain ⟨M4, h4, hr⟩ := bso hr
      refine n_bast G h4 hp3q (by decide +kernel) (by decide +kernel) (by decide +kernel) ?_
      refine n_aload_n (n := 0) (by decide +kernel) rfl ?_
      refine n_dup rfl (by decide +kernel) ?_
      refine n_getI G fl_RX7_19 hp0 (by decide +kernel) (by decide +kernel) ?_
      refine n_iconst (n := 1) (v := 1) (by decide +kernel) rfl ?_
      refine n_iadd (by decide +kernel) ?_
      refine n_putI G fl_RX7_19 hp0 (by decide +kernel) (by decide +kernel) ?_
      refine n_iincK (n := 2) (j := -8) (w := -8) (lo2 := [_, _, _]) (by decide +kernel) rfl rfl rfl ?_
      refine n_goto (off := -40) (tgt := 3) (by decide +kernel) (by decide) ?_
      cases hr
      exact hk
set_option maxRecDepth 100000 in
theorem W_X7_pushNumber_b3 (G : GG l s0 b L xs D cy ad) {x1 : Int32}  (hp0 : P 1) {s : (Int32 × Mm)} {e : Mm} (h : whl fu (f_X7_pushNumber_b3 x1) s = some e) (res : Rs) (M' : Mm) : Q_X7_pushNumber_b3 l s0 D cy ad P x1 res M' e → P_X7_pushNumber_b3 l s0 D cy ad P x1 res M' s := whl_run (P := fun s => P_X7_pushNumber_b3 l s0 D cy ad P x1 res M' s) (Q := fun e => Q_X7_pushNumber_b3 l s0 D cy ad P x1 res M' e) (B_X7_pushNumber_b3 G (res := res) (M' := M') (x1 := x1) hp0) fu s h
set_option maxRecDepth 100000 in
theorem B_X7_pushNumber (G : GG l s0 b L xs D cy ad)  {x1 : Int32} {M : Mm} {r : Mm} (hp0 : P 1) (hr : f_X7_pushNumber x1 M = some r) : Cl l s0 D cy ad P 9 KX7_pushNumber [.ref 1, .int x1] M (.inl none) (r) := by
  refine cl_ofN (by decide +kernel) rfl rfl rfl (lo0 := [_, _, .null]) rfl ?_
  unfold f_X7_pushNumber at hr
  refine n_bipush (n := 24) (v := 24) (by decide +kernel) rfl ?_
  refine n_istore_n (n := 2) (lo2 := [_, _, _]) (by decide +kernel) (Nat.le_of_ble_eq_true rfl) rfl ?_
  obtain ⟨M5, h5, hr⟩ := bso hr
  refine (W_X7_pushNumber_b3 G hp0 h5 _ _) ?_
  dsimp only [Q_X7_pushNumber_b3]
  cases hr
  exact n_return (by decide +kernel)
set_option maxRecDepth 100000 in
theorem B_X7_push (G : GG l s0 b L xs D cy ad)  {x1 : Int32} {x2 : Int32} {x3 : Int32} {x4 : Int32} {x5 : Int32} {M : Mm} {r : (Int32 × Mm)} (hp0 : P 1) (hr : f_X7_push x1 x2 x3 x4 x5 M = some r) : Cl l s0 D cy ad P 10 KX7_push [.ref 1, .int x1, .int x2, .int x3, .int x4, .int x5] M (.inl (some (.int r.1))) (r.2) := by
  refine cl_ofN (by decide +kernel) rfl rfl okI (lo0 := [_, _, _, _, _, _]) rfl ?_
  unfold f_X7_push at hr
  refine n_aload_n (n := 0) (by decide +kernel) rfl ?_
  refine n_getI G fl_RX7_19 hp0 (by decide +kernel) (by decide +kernel) ?_
  refine n_bipush (n := 20) (v := 20) (by decide +kernel) rfl ?_
  refine n_iadd (by decide +kernel) ?_
  refine n_sipush (n := 600) (v := 600) (by decide +kernel) (by decide +kernel) ?_
  refine n_icmp_le (off := 5) (tgt := 15) (by decide +kernel) (by decide) (fun hc1 => ?_) (fun hc1 => ?_)
  · rw [if_pos hc1] at hr
    refine n_aload_n (n := 0) (by decide +kernel) rfl ?_
    refine n_iload_n (n := 1) (by decide +kernel) rfl ?_
    obtain ⟨M2, h2, hr⟩ := bso hr
    refine n_callVv G [_] (M1 := M2) (B_X7_pushNumber G hp0 h2) (by decide) mX7_pushNumber ml_RX7_22 hp0 (by decide +kernel) rfl rfl (Nat.le_of_ble_eq_true rfl) (by decide +kernel) ?_
    refine n_aload_n (n := 0) (by decide +kernel) rfl ?_
    refine n_iload_n (n := 2) (by decide +kernel) rfl ?_
    obtain ⟨M3, h3, hr⟩ := bso hr
    refine n_callVv G [_] (M1 := M3) (B_X7_pushNumber G hp0 h3) (by decide) mX7_pushNumber ml_RX7_22 hp0 (by decide +kernel) rfl rfl (Nat.le_of_ble_eq_true rfl) (by decide +kernel) ?_
    refine n_aload_n (n := 0) (by decide +kernel) rfl ?_
    refine n_iload_n (n := 3) (by decide +kernel) rfl ?_
    obtain ⟨M4, h4, hr⟩ := bso hr
    refine n_callVv G [_] (M1 := M4) (B_X7_pushNumber G hp0 h4) (by decide) mX7_pushNumber ml_RX7_22 hp0 (by decide +kernel) rfl rfl (Nat.le_of_ble_eq_true rfl) (by decide +kernel) ?_
    refine n_aload_n (n := 0) (by decide +kernel) rfl ?_
    refine n_iload (n := 4) (by decide +kernel) rfl ?_
    obtain ⟨M5, h5, hr⟩ := bso hr
    refine n_callVv G [_] (M1 := M5) (B_X7_pushNumber G hp0 h5) (by decide) mX7_pushNumber ml_RX7_22 hp0 (by decide +kernel) rfl rfl (Nat.le_of_ble_eq_true rfl) (by decide +kernel) ?_
    refine n_aload_n (n := 0) (by decide +kernel) rfl ?_
    refine n_iload (n := 5) (by decide +kernel) rfl ?_
    obtain ⟨M6, h6, hr⟩ := bso hr
    refine n_callVv G [_] (M1 := M6) (B_X7_pushNumber G hp0 h6) (by decide) mX7_pushNumber ml_RX7_22 hp0 (by decide +kernel) rfl rfl (Nat.le_of_ble_eq_true rfl) (by decide +kernel) ?_
    refine n_aload_n (n := 0) (by decide +kernel) rfl ?_
    refine n_getI G fl_RX7_19 hp0 (by decide +kernel) (by decide +kernel) ?_
    cases hr
    exact n_ireturn (by decide +kernel)
  · rw [if_neg hc1] at hr
    refine n_iconst (n := -1) (v := -1) (by decide +kernel) rfl ?_
    cases hr
    exact n_ireturn (by decide +kernel)
set_option maxRecDepth 100000 in
theorem B_X7_open (G : GG l s0 b L xs D cy ad)  {x1 : Int32} {M : Mm} {r : Mm} (hp0 : P 1) (hr : f_X7_open x1 M = some r) : Cl l s0 D cy ad P 9 KX7_open [.ref 1, .int x1] M (.inl none) (r) := by
  refine cl_ofN (by decide +kernel) rfl rfl rfl (lo0 := [_, _]) rfl ?_
  unfold f_X7_open at hr
  refine n_aload_n (n := 0) (by decide +kernel) rfl ?_
  refine n_iload_n (n := 1) (by decide +kernel) rfl ?_
  refine n_sipush (n := 600) (v := 600) (by decide +kernel) (by decide +kernel) ?_
  refine n_mmin G ml_RX7_26 (by decide) (Nat.le_of_ble_eq_true rfl) (by decide +kernel) ?_
  refine n_putI G fl_RX7_32 hp0 (by decide +kernel) (by decide +kernel) ?_
  refine n_aload_n (n := 0) (by decide +kernel) rfl ?_
  refine n_iconst (n := 0) (v := 0) (by decide +kernel) rfl ?_
  refine n_putI G fl_RX7_35 hp0 (by decide +kernel) (by decide +kernel) ?_
  refine n_aload_n (n := 0) (by decide +kernel) rfl ?_
  refine n_iconst (n := 0) (v := 0) (by decide +kernel) rfl ?_
  refine n_putI G fl_RX7_19 hp0 (by decide +kernel) (by decide +kernel) ?_
  refine n_aload_n (n := 0) (by decide +kernel) rfl ?_
  refine n_iconst (n := 0) (v := 0) (by decide +kernel) rfl ?_
  refine n_putI G fl_RX7_38 hp0 (by decide +kernel) (by decide +kernel) ?_
  refine n_aload_n (n := 0) (by decide +kernel) rfl ?_
  refine n_iconst (n := -1) (v := -1) (by decide +kernel) rfl ?_
  refine n_putI G fl_RX7_15 hp0 (by decide +kernel) (by decide +kernel) ?_
  cases hr
  exact n_return (by decide +kernel)
set_option maxRecDepth 100000 in
theorem B_X8_yearOf (G : GG l s0 b L xs D cy ad)  {a0 : Nat} {x1 : Int32} {M : Mm} {r : Int32} (hp0 : P a0) (hs0 : SH a0 = 8) (hr : f_X8_yearOf a0 x1 M = some r) : Cl l s0 D cy ad P 10 KX8_yearOf [.ref a0, .int x1] M (.inl (some (.int r))) (M) := by
  refine cl_ofN (by decide +kernel) rfl rfl okI (lo0 := [_, _]) rfl ?_
  unfold f_X8_yearOf at hr
  refine n_aload_n (n := 0) (by decide +kernel) rfl ?_
  refine n_iload_n (n := 1) (by decide +kernel) rfl ?_
  obtain ⟨v1, h1, hr⟩ := bso hr
  refine n_callVi G [_] (x := v1) (B_X8_isStone G hp0 hs0 h1) (by decide) mX8_isStone ml_RX8_73 hp0 hs0 rfl rfl (Nat.le_of_ble_eq_true rfl) (by decide +kernel) ?_
  refine n_if_eq (off := 12) (tgt := 17) (by decide +kernel) (by decide) (fun hc2 => ?_) (fun hc2 => ?_)
  · rw [if_pos hc2] at hr
    refine n_iconst (n := 0) (v := 0) (by decide +kernel) rfl ?_
    cases hr
    exact n_ireturn (by decide +kernel)
  · rw [if_neg hc2] at hr
    refine n_aload_n (n := 0) (by decide +kernel) rfl ?_
    refine n_getF (q := (a0 + 3)) G fl_RX8_18 hp0 hs0 (fr_8_2 hs0).1 (by decide +kernel) (fun hp3q => ?_)
    refine n_iload_n (n := 1) (by decide +kernel) rfl ?_
    obtain ⟨v4, h4, hr⟩ := bso hr
    refine n_iald G h4 hp3q (fr_8_2 hs0).2.1 (fr_8_2 hs0).2.2 (by decide +kernel) ?_
    refine n_goto (off := 4) (tgt := 18) (by decide +kernel) (by decide) ?_
    cases hr
    exact n_ireturn (by decide +kernel)
set_option maxRecDepth 100000 in
theorem B_X8_heapedIn (G : GG l s0 b L xs D cy ad)  {a0 : Nat} {x1 : Int32} {M : Mm} {r : Int32} (hp0 : P a0) (hs0 : SH a0 = 8) (hr : f_X8_heapedIn a0 x1 M = some r) : Cl l s0 D cy ad P 10 KX8_heapedIn [.ref a0, .int x1] M (.inl (some (.int r))) (M) := by
  refine cl_ofN (by decide +kernel) rfl rfl okI (lo0 := [_, _]) rfl ?_
  unfold f_X8_heapedIn at hr
  refine n_iload_n (n := 1) (by decide +kernel) rfl ?_
  obtain ⟨v1, h1, hr⟩ := bso hr
  refine n_callSNi G [_] (x := v1) (B_X9_isCell G  h1) (by decide) mX9_isCell ml_RX8_77 rfl rfl (Nat.le_of_ble_eq_true rfl) (by decide +kernel) ?_
  refine n_if_eq (off := 12) (tgt := 16) (by decide +kernel) (by decide) (fun hc2 => ?_) (fun hc2 => ?_)
  · rw [if_pos hc2] at hr
    refine n_iconst (n := 0) (v := 0) (by decide +kernel) rfl ?_
    cases hr
    exact n_ireturn (by decide +kernel)
  · rw [if_neg hc2] at hr
    refine n_aload_n (n := 0) (by decide +kernel) rfl ?_
    refine n_getF (q := (a0 + 6)) G fl_RX8_27 hp0 hs0 (fr_8_5 hs0).1 (by decide +kernel) (fun hp3q => ?_)
    refine n_iload_n (n := 1) (by decide +kernel) rfl ?_
    obtain ⟨v4, h4, hr⟩ := bso hr
    refine n_iald G h4 hp3q (fr_8_5 hs0).2.1 (fr_8_5 hs0).2.2 (by decide +kernel) ?_
    refine n_goto (off := 4) (tgt := 17) (by decide +kernel) (by decide) ?_
    cases hr
    exact n_ireturn (by decide +kernel)
abbrev P_X8_howMany_b4 (l : Launch) (s0 : State) (D : va_G) (cy : Nat → ClassId) (ad : Nat → Nat) (P : Nat → Prop) (a0 : Nat) (x1 : Int32) (M : Mm) (res : Rs) (M' : Mm) (s : (Int32 × Int32)) : Prop := Rn l s0 D cy ad P 11 KX8_howMany 4 [.ref a0, .int x1, .int (s.1), .int (s.2)] [] M res M'
abbrev Q_X8_howMany_b4 (l : Launch) (s0 : State) (D : va_G) (cy : Nat → ClassId) (ad : Nat → Nat) (P : Nat → Prop) (a0 : Nat) (x1 : Int32) (M : Mm) (res : Rs) (M' : Mm) (e : Int32) : Prop := Rn l s0 D cy ad P 11 KX8_howMany 35 [.null, .null, .int (e), .null] [] M res M'
set_option maxRecDepth 100000 in
theorem B_X8_howMany_b4 (G : GG l s0 b L xs D cy ad) {a0 : Nat} {x1 : Int32} {M : Mm} {res : Rs} {M' : Mm} (hp0 : P a0) (hs0 : SH a0 = 8) : ∀ (s : (Int32 × Int32)) (r : (Int32 × Int32) ⊕ Int32), f_X8_howMany_b4 a0 x1 M s = some r → mtc (P_X8_howMany_b4 l s0 D cy ad P a0 x1 M res M') (Q_X8_howMany_b4 l s0 D cy ad P a0 x1 M res M') r → P_X8_howMany_b4 l s0 D cy ad P a0 x1 M res M' s := by
  intro s r hr hk
  obtain ⟨x2, x3⟩ := s
  unfold f_X8_howMany_b4 at hr
  try dsimp only at hr
  dsimp only [P_X8_howMany_b4]
  refine n_iload_n (n := 3) (by decide +kernel) rfl ?_
  refine n_aload_n (n := 0) (by decide +kernel) rfl ?_
  refine n_getI G fl_RX8_43 hp0 hs0 (by decide +kernel) ?_
  refine n_icmp_ge (off := 26) (tgt := 35) (by decide +kernel) (by decide) (fun hc1 => ?_) (fun hc1 => ?_)
  · rw [if_pos hc1] at hr
    cases hr
    refine n_msk [false, false, true, false] (lo2 := [.null, .null, _, .null]) rfl rfl ?_
    exact hk
  · rw [if_neg hc1] at hr
    refine n_iload_n (n := 2) (by decide +kernel) rfl ?_
    refine n_aload_n (n := 0) (by decide +kernel) rfl ?_
    refine n_iload_n (n := 3) (by decide +kernel) rfl ?_
    obtain ⟨v2, h2, hr⟩ := bso hr
    refine n_callVi G [_] (x := v2) (B_X8_placeOf G hp0 hs0 h2) (by decide) mX8_placeOf ml_RX8_80 hp0 hs0 rfl rfl (Nat.le_of_ble_eq_true rfl) (by decide +kernel) ?_
    refine n_iload_n (n := 1) (by decide +kernel) rfl ?_
    refine n_dia2 (J := 27) (c := v2 = x1) (a := (1 : Int32)) (b := (0 : Int32)) (fun hJ => ?_) ?_
    · refine n_icmp_ne (off := 7) (tgt := 26) (by decide +kernel) (by decide) (fun hc3 => ?_) (fun hc3 => ?_)
      · refine n_iconst (n := 0) (v := 0) (by decide +kernel) rfl ?_
        exact hJ _ (if_neg hc3).symm
      · refine n_iconst (n := 1) (v := 1) (by decide +kernel) rfl ?_
        refine n_goto (off := 4) (tgt := 27) (by decide +kernel) (by decide) ?_
        exact hJ _ (if_pos hc3).symm
    refine n_iadd (by decide +kernel) ?_
    refine n_istore_n (n := 2) (lo2 := [_, _, _, _]) (by decide +kernel) (Nat.le_of_ble_eq_true rfl) rfl ?_
    refine n_iincK (n := 3) (j := 1) (w := 1) (lo2 := [_, _, _, _]) (by decide +kernel) rfl rfl rfl ?_
    refine n_goto (off := -28) (tgt := 4) (by decide +kernel) (by decide) ?_
    cases hr
    exact hk
set_option maxRecDepth 100000 in
theorem W_X8_howMany_b4 (G : GG l s0 b L xs D cy ad) {a0 : Nat} {x1 : Int32} {M : Mm} (hp0 : P a0) (hs0 : SH a0 = 8) {s : (Int32 × Int32)} {e : Int32} (h : whl fu (f_X8_howMany_b4 a0 x1 M) s = some e) (res : Rs) (M' : Mm) : Q_X8_howMany_b4 l s0 D cy ad P a0 x1 M res M' e → P_X8_howMany_b4 l s0 D cy ad P a0 x1 M res M' s := whl_run (P := fun s => P_X8_howMany_b4 l s0 D cy ad P a0 x1 M res M' s) (Q := fun e => Q_X8_howMany_b4 l s0 D cy ad P a0 x1 M res M' e) (B_X8_howMany_b4 G (res := res) (M' := M') (a0 := a0) (x1 := x1) (M := M) hp0 hs0) fu s h
set_option maxRecDepth 100000 in
theorem B_X8_howMany (G : GG l s0 b L xs D cy ad)  {a0 : Nat} {x1 : Int32} {M : Mm} {r : Int32} (hp0 : P a0) (hs0 : SH a0 = 8) (hr : f_X8_howMany a0 x1 M = some r) : Cl l s0 D cy ad P 11 KX8_howMany [.ref a0, .int x1] M (.inl (some (.int r))) (M) := by
  refine cl_ofN (by decide +kernel) rfl rfl okI (lo0 := [_, _, .null, .null]) rfl ?_
  unfold f_X8_howMany at hr
  refine n_iconst (n := 0) (v := 0) (by decide +kernel) rfl ?_
  refine n_istore_n (n := 2) (lo2 := [_, _, _, _]) (by decide +kernel) (Nat.le_of_ble_eq_true rfl) rfl ?_
  refine n_iconst (n := 0) (v := 0) (by decide +kernel) rfl ?_
  refine n_istore_n (n := 3) (lo2 := [_, _, _, _]) (by decide +kernel) (Nat.le_of_ble_eq_true rfl) rfl ?_
  obtain ⟨z2_4, h4, hr⟩ := bso hr
  refine (W_X8_howMany_b4 G hp0 hs0 h4 _ _) ?_
  dsimp only [Q_X8_howMany_b4]
  refine n_iload_n (n := 2) (by decide +kernel) rfl ?_
  cases hr
  exact n_ireturn (by decide +kernel)
abbrev P_X8_sizesIn_b4 (l : Launch) (s0 : State) (D : va_G) (cy : Nat → ClassId) (ad : Nat → Nat) (P : Nat → Prop) (a0 : Nat) (x1 : Int32) (M : Mm) (res : Rs) (M' : Mm) (s : (Int32 × Int32)) : Prop := Rn l s0 D cy ad P 12 KX8_sizesIn 4 [.ref a0, .int x1, .int (s.1), .int (s.2)] [] M res M'
abbrev Q_X8_sizesIn_b4 (l : Launch) (s0 : State) (D : va_G) (cy : Nat → ClassId) (ad : Nat → Nat) (P : Nat → Prop) (a0 : Nat) (x1 : Int32) (M : Mm) (res : Rs) (M' : Mm) (e : Int32) : Prop := Rn l s0 D cy ad P 12 KX8_sizesIn 39 [.null, .null, .int (e), .null] [] M res M'
set_option maxRecDepth 100000 in
theorem B_X8_sizesIn_b4 (G : GG l s0 b L xs D cy ad) {a0 : Nat} {x1 : Int32} {M : Mm} {res : Rs} {M' : Mm} (hp0 : P a0) (hs0 : SH a0 = 8) : ∀ (s : (Int32 × Int32)) (r : (Int32 × Int32) ⊕ Int32), f_X8_sizesIn_b4 a0 x1 M s = some r → mtc (P_X8_sizesIn_b4 l s0 D cy ad P a0 x1 M res M') (Q_X8_sizesIn_b4 l s0 D cy ad P a0 x1 M res M') r → P_X8_sizesIn_b4 l s0 D cy ad P a0 x1 M res M' s := by
  intro s r hr hk
  obtain ⟨x2, x3⟩ := s
  unfold f_X8_sizesIn_b4 at hr
  try dsimp only at hr
  dsimp only [P_X8_sizesIn_b4]
  refine n_iload_n (n := 3) (by decide +kernel) rfl ?_
  refine n_aload_n (n := 0) (by decide +kernel) rfl ?_
  refine n_getI G fl_RX8_43 hp0 hs0 (by decide +kernel) ?_
  refine n_icmp_ge (off := 30) (tgt := 39) (by decide +kernel) (by decide) (fun hc1 => ?_) (fun hc1 => ?_)
  · rw [if_pos hc1] at hr
    cases hr
    refine n_msk [false, false, true, false] (lo2 := [.null, .null, _, .null]) rfl rfl ?_
    exact hk
  · rw [if_neg hc1] at hr
    refine n_iload_n (n := 2) (by decide +kernel) rfl ?_
    refine n_aload_n (n := 0) (by decide +kernel) rfl ?_
    refine n_iload_n (n := 3) (by decide +kernel) rfl ?_
    refine n_iload_n (n := 1) (by decide +kernel) rfl ?_
    obtain ⟨v2, h2, hr⟩ := bso hr
    refine n_callVi G [_, _] (x := v2) (B_X8_liesIn G hp0 hs0 h2) (by decide) mX8_liesIn ml_RX8_96 hp0 hs0 rfl rfl (Nat.le_of_ble_eq_true rfl) (by decide +kernel) ?_
    refine n_if_eq (off := 11) (tgt := 30) (by decide +kernel) (by decide) (fun hc3 => ?_) (fun hc3 => ?_)
    · rw [if_pos hc3] at hr
      refine n_iconst (n := 0) (v := 0) (by decide +kernel) rfl ?_
      refine n_iadd (by decide +kernel) ?_
      refine n_istore_n (n := 2) (lo2 := [_, _, _, _]) (by decide +kernel) (Nat.le_of_ble_eq_true rfl) rfl ?_
      refine n_iincK (n := 3) (j := 1) (w := 1) (lo2 := [_, _, _, _]) (by decide +kernel) rfl rfl rfl ?_
      refine n_goto (off := -32) (tgt := 4) (by decide +kernel) (by decide) ?_
      cases hr
      exact hk
    · rw [if_neg hc3] at hr
      refine n_aload_n (n := 0) (by decide +kernel) rfl ?_
      refine n_iload_n (n := 3) (by decide +kernel) rfl ?_
      obtain ⟨v4, h4, hr⟩ := bso hr
      refine n_callVi G [_] (x := v4) (B_X8_sizeOf G hp0 hs0 h4) (by decide) mX8_sizeOf ml_RX8_93 hp0 hs0 rfl rfl (Nat.le_of_ble_eq_true rfl) (by decide +kernel) ?_
      refine n_goto (off := 4) (tgt := 31) (by decide +kernel) (by decide) ?_
      refine n_iadd (by decide +kernel) ?_
      refine n_istore_n (n := 2) (lo2 := [_, _, _, _]) (by decide +kernel) (Nat.le_of_ble_eq_true rfl) rfl ?_
      refine n_iincK (n := 3) (j := 1) (w := 1) (lo2 := [_, _, _, _]) (by decide +kernel) rfl rfl rfl ?_
      refine n_goto (off := -32) (tgt := 4) (by decide +kernel) (by decide) ?_
      cases hr
      exact hk
set_option maxRecDepth 100000 in
theorem W_X8_sizesIn_b4 (G : GG l s0 b L xs D cy ad) {a0 : Nat} {x1 : Int32} {M : Mm} (hp0 : P a0) (hs0 : SH a0 = 8) {s : (Int32 × Int32)} {e : Int32} (h : whl fu (f_X8_sizesIn_b4 a0 x1 M) s = some e) (res : Rs) (M' : Mm) : Q_X8_sizesIn_b4 l s0 D cy ad P a0 x1 M res M' e → P_X8_sizesIn_b4 l s0 D cy ad P a0 x1 M res M' s := whl_run (P := fun s => P_X8_sizesIn_b4 l s0 D cy ad P a0 x1 M res M' s) (Q := fun e => Q_X8_sizesIn_b4 l s0 D cy ad P a0 x1 M res M' e) (B_X8_sizesIn_b4 G (res := res) (M' := M') (a0 := a0) (x1 := x1) (M := M) hp0 hs0) fu s h
set_option maxRecDepth 100000 in
theorem B_X8_sizesIn (G : GG l s0 b L xs D cy ad)  {a0 : Nat} {x1 : Int32} {M : Mm} {r : Int32} (hp0 : P a0) (hs0 : SH a0 = 8) (hr : f_X8_sizesIn a0 x1 M = some r) : Cl l s0 D cy ad P 12 KX8_sizesIn [.ref a0, .int x1] M (.inl (some (.int r))) (M) := by
  refine cl_ofN (by decide +kernel) rfl rfl okI (lo0 := [_, _, .null, .null]) rfl ?_
  unfold f_X8_sizesIn at hr
  refine n_iconst (n := 0) (v := 0) (by decide +kernel) rfl ?_
  refine n_istore_n (n := 2) (lo2 := [_, _, _, _]) (by decide +kernel) (Nat.le_of_ble_eq_true rfl) rfl ?_
  refine n_iconst (n := 0) (v := 0) (by decide +kernel) rfl ?_
  refine n_istore_n (n := 3) (lo2 := [_, _, _, _]) (by decide +kernel) (Nat.le_of_ble_eq_true rfl) rfl ?_
  obtain ⟨z2_5, h5, hr⟩ := bso hr
  refine (W_X8_sizesIn_b4 G hp0 hs0 h5 _ _) ?_
  dsimp only [Q_X8_sizesIn_b4]
  refine n_iload_n (n := 2) (by decide +kernel) rfl ?_
  cases hr
  exact n_ireturn (by decide +kernel)
abbrev P_X8_largest_b4 (l : Launch) (s0 : State) (D : va_G) (cy : Nat → ClassId) (ad : Nat → Nat) (P : Nat → Prop) (a0 : Nat) (M : Mm) (res : Rs) (M' : Mm) (s : (Int32 × Int32)) : Prop := Rn l s0 D cy ad P 11 KX8_largest 4 [.ref a0, .int (s.1), .int (s.2)] [] M res M'
abbrev Q_X8_largest_b4 (l : Launch) (s0 : State) (D : va_G) (cy : Nat → ClassId) (ad : Nat → Nat) (P : Nat → Prop) (a0 : Nat) (M : Mm) (res : Rs) (M' : Mm) (e : Int32) : Prop := Rn l s0 D cy ad P 11 KX8_largest 46 [.null, .int (e), .null] [] M res M'
set_option maxRecDepth 100000 in
theorem B_X8_largest_j38 (G : GG l s0 b L xs D cy ad) {a0 : Nat} {x2 : Int32} {M : Mm}  {res : Rs} {M' : Mm} {r : ((Int32 × Int32) ⊕ Int32)} (hp0 : P a0) (hs0 : SH a0 = 8) (hr : f_X8_largest_j38 a0 x2 M = some r) (hk : mtc (P_X8_largest_b4 l s0 D cy ad P a0 M res M') (Q_X8_largest_b4 l s0 D cy ad P a0 M res M') r) : Rn l s0 D cy ad P 11 KX8_largest 38 [.ref a0, .null, .int x2] [] M res M' := by
  unfold f_X8_largest_j38 at hr
  refine n_iload_n (n := 2) (by decide +kernel) rfl ?_
  refine n_istore_n (n := 1) (lo2 := [_, _, _]) (by decide +kernel) (Nat.le_of_ble_eq_true rfl) rfl ?_
  refine n_iincK (n := 2) (j := 1) (w := 1) (lo2 := [_, _, _]) (by decide +kernel) rfl rfl rfl ?_
  refine n_goto (off := -39) (tgt := 4) (by decide +kernel) (by decide) ?_
  cases hr
  exact hk
set_option maxRecDepth 100000 in
theorem B_X8_largest_b4 (G : GG l s0 b L xs D cy ad) {a0 : Nat} {M : Mm} {res : Rs} {M' : Mm} (hp0 : P a0) (hs0 : SH a0 = 8) : ∀ (s : (Int32 × Int32)) (r : (Int32 × Int32) ⊕ Int32), f_X8_largest_b4 a0 M s = some r → mtc (P_X8_largest_b4 l s0 D cy ad P a0 M res M') (Q_X8_largest_b4 l s0 D cy ad P a0 M res M') r → P_X8_largest_b4 l s0 D cy ad P a0 M res M' s := by
  intro s r hr hk
  obtain ⟨x1, x2⟩ := s
  unfold f_X8_largest_b4 at hr
  try dsimp only at hr
  dsimp only [P_X8_largest_b4]
  refine n_iload_n (n := 2) (by decide +kernel) rfl ?_
  refine n_aload_n (n := 0) (by decide +kernel) rfl ?_
  refine n_getI G fl_RX8_43 hp0 hs0 (by decide +kernel) ?_
  refine n_icmp_ge (off := 37) (tgt := 46) (by decide +kernel) (by decide) (fun hc1 => ?_) (fun hc1 => ?_)
  · rw [if_pos hc1] at hr
    cases hr
    refine n_msk [false, true, false] (lo2 := [.null, _, .null]) rfl rfl ?_
    exact hk
  · rw [if_neg hc1] at hr
    refine n_aload_n (n := 0) (by decide +kernel) rfl ?_
    refine n_iload_n (n := 2) (by decide +kernel) rfl ?_
    obtain ⟨v2, h2, hr⟩ := bso hr
    refine n_callVi G [_] (x := v2) (B_X8_placeOf G hp0 hs0 h2) (by decide) mX8_placeOf ml_RX8_80 hp0 hs0 rfl rfl (Nat.le_of_ble_eq_true rfl) (by decide +kernel) ?_
    refine n_if_ne (off := 23) (tgt := 40) (by decide +kernel) (by decide) (fun hc3 => ?_) (fun hc3 => ?_)
    · rw [if_neg hc3] at hr
      refine n_iincK (n := 2) (j := 1) (w := 1) (lo2 := [_, _, _]) (by decide +kernel) rfl rfl rfl ?_
      refine n_goto (off := -39) (tgt := 4) (by decide +kernel) (by decide) ?_
      cases hr
      exact hk
    · rw [if_pos hc3] at hr
      refine n_iload_n (n := 1) (by decide +kernel) rfl ?_
      refine n_iconst (n := -1) (v := -1) (by decide +kernel) rfl ?_
      refine n_icmp_eq (off := 16) (tgt := 38) (by decide +kernel) (by decide) (fun hc4 => ?_) (fun hc4 => ?_)
      · rw [if_pos hc4] at hr
        refine n_msk [true, false, true] (lo2 := [_, .null, _]) rfl rfl ?_
        exact B_X8_largest_j38 G hp0 hs0 hr hk
      · rw [if_neg hc4] at hr
        refine n_aload_n (n := 0) (by decide +kernel) rfl ?_
        refine n_iload_n (n := 2) (by decide +kernel) rfl ?_
        obtain ⟨v5, h5, hr⟩ := bso hr
        refine n_callVi G [_] (x := v5) (B_X8_sizeOf G hp0 hs0 h5) (by decide) mX8_sizeOf ml_RX8_93 hp0 hs0 rfl rfl (Nat.le_of_ble_eq_true rfl) (by decide +kernel) ?_
        refine n_aload_n (n := 0) (by decide +kernel) rfl ?_
        refine n_iload_n (n := 1) (by decide +kernel) rfl ?_
        obtain ⟨v6, h6, hr⟩ := bso hr
        refine n_callVi G [_] (x := v6) (B_X8_sizeOf G hp0 hs0 h6) (by decide) mX8_sizeOf ml_RX8_93 hp0 hs0 rfl rfl (Nat.le_of_ble_eq_true rfl) (by decide +kernel) ?_
        refine n_icmp_le (off := 5) (tgt := 40) (by decide +kernel) (by decide) (fun hc7 => ?_) (fun hc7 => ?_)
        · rw [if_pos hc7] at hr
          refine n_iincK (n := 2) (j := 1) (w := 1) (lo2 := [_, _, _]) (by decide +kernel) rfl rfl rfl ?_
          refine n_goto (off := -39) (tgt := 4) (by decide +kernel) (by decide) ?_
          cases hr
          exact hk
        · rw [if_neg hc7] at hr
          refine n_msk [true, false, true] (lo2 := [_, .null, _]) rfl rfl ?_
          exact B_X8_largest_j38 G hp0 hs0 hr hk
set_option maxRecDepth 100000 in
theorem W_X8_largest_b4 (G : GG l s0 b L xs D cy ad) {a0 : Nat} {M : Mm} (hp0 : P a0) (hs0 : SH a0 = 8) {s : (Int32 × Int32)} {e : Int32} (h : whl fu (f_X8_largest_b4 a0 M) s = some e) (res : Rs) (M' : Mm) : Q_X8_largest_b4 l s0 D cy ad P a0 M res M' e → P_X8_largest_b4 l s0 D cy ad P a0 M res M' s := whl_run (P := fun s => P_X8_largest_b4 l s0 D cy ad P a0 M res M' s) (Q := fun e => Q_X8_largest_b4 l s0 D cy ad P a0 M res M' e) (B_X8_largest_b4 G (res := res) (M' := M') (a0 := a0) (M := M) hp0 hs0) fu s h
set_option maxRecDepth 100000 in
theorem B_X8_largest (G : GG l s0 b L xs D cy ad)  {a0 : Nat} {M : Mm} {r : Int32} (hp0 : P a0) (hs0 : SH a0 = 8) (hr : f_X8_largest a0 M = some r) : Cl l s0 D cy ad P 11 KX8_largest [.ref a0] M (.inl (some (.int r))) (M) := by
  refine cl_ofN (by decide +kernel) rfl rfl okI (lo0 := [_, .null, .null]) rfl ?_
  unfold f_X8_largest at hr
  refine n_iconst (n := -1) (v := -1) (by decide +kernel) rfl ?_
  refine n_istore_n (n := 1) (lo2 := [_, _, _]) (by decide +kernel) (Nat.le_of_ble_eq_true rfl) rfl ?_
  refine n_iconst (n := 0) (v := 0) (by decide +kernel) rfl ?_
  refine n_istore_n (n := 2) (lo2 := [_, _, _]) (by decide +kernel) (Nat.le_of_ble_eq_true rfl) rfl ?_
  obtain ⟨z1_8, h8, hr⟩ := bso hr
  refine (W_X8_largest_b4 G hp0 hs0 h8 _ _) ?_
  dsimp only [Q_X8_largest_b4]
  refine n_iload_n (n := 1) (by decide +kernel) rfl ?_
  cases hr
  exact n_ireturn (by decide +kernel)
abbrev P_X8_nearest_b4 (l : Launch) (s0 : State) (D : va_G) (cy : Nat → ClassId) (ad : Nat → Nat) (P : Nat → Prop) (a0 : Nat) (M : Mm) (res : Rs) (M' : Mm) (s : (Int32 × Int32)) : Prop := Rn l s0 D cy ad P 11 KX8_nearest 4 [.ref a0, .int (s.1), .int (s.2)] [] M res M'
abbrev Q_X8_nearest_b4 (l : Launch) (s0 : State) (D : va_G) (cy : Nat → ClassId) (ad : Nat → Nat) (P : Nat → Prop) (a0 : Nat) (M : Mm) (res : Rs) (M' : Mm) (e : Int32) : Prop := Rn l s0 D cy ad P 11 KX8_nearest 60 [.null, .int (e), .null] [] M res M'
set_option maxRecDepth 100000 in
theorem B_X8_nearest_j52 (G : GG l s0 b L xs D cy ad) {a0 : Nat} {x2 : Int32} {M : Mm}  {res : Rs} {M' : Mm} {r : ((Int32 × Int32) ⊕ Int32)} (hp0 : P a0) (hs0 : SH a0 = 8) (hr : f_X8_nearest_j52 a0 x2 M = some r) (hk : mtc (P_X8_nearest_b4 l s0 D cy ad P a0 M res M') (Q_X8_nearest_b4 l s0 D cy ad P a0 M res M') r) : Rn l s0 D cy ad P 11 KX8_nearest 52 [.ref a0, .null, .int x2] [] M res M' := by
  unfold f_X8_nearest_j52 at hr
  refine n_iload_n (n := 2) (by decide +kernel) rfl ?_
  refine n_istore_n (n := 1) (lo2 := [_, _, _]) (by decide +kernel) (Nat.le_of_ble_eq_true rfl) rfl ?_
  refine n_iincK (n := 2) (j := 1) (w := 1) (lo2 := [_, _, _]) (by decide +kernel) rfl rfl rfl ?_
  refine n_goto (off := -53) (tgt := 4) (by decide +kernel) (by decide) ?_
  cases hr
  exact hk
set_option maxRecDepth 100000 in
theorem B_X8_nearest_b4 (G : GG l s0 b L xs D cy ad) {a0 : Nat} {M : Mm} {res : Rs} {M' : Mm} (hp0 : P a0) (hs0 : SH a0 = 8) : ∀ (s : (Int32 × Int32)) (r : (Int32 × Int32) ⊕ Int32), f_X8_nearest_b4 a0 M s = some r → mtc (P_X8_nearest_b4 l s0 D cy ad P a0 M res M') (Q_X8_nearest_b4 l s0 D cy ad P a0 M res M') r → P_X8_nearest_b4 l s0 D cy ad P a0 M res M' s := by
  intro s r hr hk
  obtain ⟨x1, x2⟩ := s
  unfold f_X8_nearest_b4 at hr
  try dsimp only at hr
  dsimp only [P_X8_nearest_b4]
  refine n_iload_n (n := 2) (by decide +kernel) rfl ?_
  refine n_aload_n (n := 0) (by decide +kernel) rfl ?_
  refine n_getI G fl_RX8_43 hp0 hs0 (by decide +kernel) ?_
  refine n_icmp_ge (off := 51) (tgt := 60) (by decide +kernel) (by decide) (fun hc1 => ?_) (fun hc1 => ?_)
  · rw [if_pos hc1] at hr
    cases hr
    refine n_msk [false, true, false] (lo2 := [.null, _, .null]) rfl rfl ?_
    exact hk
  · rw [if_neg hc1] at hr
    refine n_aload_n (n := 0) (by decide +kernel) rfl ?_
    refine n_iload_n (n := 2) (by decide +kernel) rfl ?_
    obtain ⟨v2, h2, hr⟩ := bso hr
    refine n_callVi G [_] (x := v2) (B_X8_placeOf G hp0 hs0 h2) (by decide) mX8_placeOf ml_RX8_80 hp0 hs0 rfl rfl (Nat.le_of_ble_eq_true rfl) (by decide +kernel) ?_
    refine n_if_ne (off := 37) (tgt := 54) (by decide +kernel) (by decide) (fun hc3 => ?_) (fun hc3 => ?_)
    · rw [if_neg hc3] at hr
      refine n_iincK (n := 2) (j := 1) (w := 1) (lo2 := [_, _, _]) (by decide +kernel) rfl rfl rfl ?_
      refine n_goto (off := -53) (tgt := 4) (by decide +kernel) (by decide) ?_
      cases hr
      exact hk
    · rw [if_pos hc3] at hr
      refine n_iload_n (n := 1) (by decide +kernel) rfl ?_
      refine n_iconst (n := -1) (v := -1) (by decide +kernel) rfl ?_
      refine n_icmp_eq (off := 30) (tgt := 52) (by decide +kernel) (by decide) (fun hc4 => ?_) (fun hc4 => ?_)
      · rw [if_pos hc4] at hr
        refine n_msk [true, false, true] (lo2 := [_, .null, _]) rfl rfl ?_
        exact B_X8_nearest_j52 G hp0 hs0 hr hk
      · rw [if_neg hc4] at hr
        refine n_aload_n (n := 0) (by decide +kernel) rfl ?_
        refine n_iload_n (n := 2) (by decide +kernel) rfl ?_
        obtain ⟨v5, h5, hr⟩ := bso hr
        refine n_callVi G [_] (x := v5) (B_X8_cellOf G hp0 hs0 h5) (by decide) mX8_cellOf ml_RX8_84 hp0 hs0 rfl rfl (Nat.le_of_ble_eq_true rfl) (by decide +kernel) ?_
        refine n_aload_n (n := 0) (by decide +kernel) rfl ?_
        refine n_getI G fl_RX8_49 hp0 hs0 (by decide +kernel) ?_
        obtain ⟨v6, h6, hr⟩ := bso hr
        refine n_callSNi G [_, _] (x := v6) (B_X9_far G  h6) (by decide) mX9_far ml_RX8_100 rfl rfl (Nat.le_of_ble_eq_true rfl) (by decide +kernel) ?_
        refine n_aload_n (n := 0) (by decide +kernel) rfl ?_
        refine n_iload_n (n := 1) (by decide +kernel) rfl ?_
        obtain ⟨v7, h7, hr⟩ := bso hr
        refine n_callVi G [_] (x := v7) (B_X8_cellOf G hp0 hs0 h7) (by decide) mX8_cellOf ml_RX8_84 hp0 hs0 rfl rfl (Nat.le_of_ble_eq_true rfl) (by decide +kernel) ?_
        refine n_aload_n (n := 0) (by decide +kernel) rfl ?_
        refine n_getI G fl_RX8_49 hp0 hs0 (by decide +kernel) ?_
        obtain ⟨v8, h8, hr⟩ := bso hr
        refine n_callSNi G [_, _] (x := v8) (B_X9_far G  h8) (by decide) mX9_far ml_RX8_100 rfl rfl (Nat.le_of_ble_eq_true rfl) (by decide +kernel) ?_
        refine n_icmp_ge (off := 5) (tgt := 54) (by decide +kernel) (by decide) (fun hc9 => ?_) (fun hc9 => ?_)
        · rw [if_pos hc9] at hr
          refine n_iincK (n := 2) (j := 1) (w := 1) (lo2 := [_, _, _]) (by decide +kernel) rfl rfl rfl ?_
          refine n_goto (off := -53) (tgt := 4) (by decide +kernel) (by decide) ?_
          cases hr
          exact hk
        · rw [if_neg hc9] at hr
          refine n_msk [true, false, true] (lo2 := [_, .null, _]) rfl rfl ?_
          exact B_X8_nearest_j52 G hp0 hs0 hr hk
set_option maxRecDepth 100000 in
theorem W_X8_nearest_b4 (G : GG l s0 b L xs D cy ad) {a0 : Nat} {M : Mm} (hp0 : P a0) (hs0 : SH a0 = 8) {s : (Int32 × Int32)} {e : Int32} (h : whl fu (f_X8_nearest_b4 a0 M) s = some e) (res : Rs) (M' : Mm) : Q_X8_nearest_b4 l s0 D cy ad P a0 M res M' e → P_X8_nearest_b4 l s0 D cy ad P a0 M res M' s := whl_run (P := fun s => P_X8_nearest_b4 l s0 D cy ad P a0 M res M' s) (Q := fun e => Q_X8_nearest_b4 l s0 D cy ad P a0 M res M' e) (B_X8_nearest_b4 G (res := res) (M' := M') (a0 := a0) (M := M) hp0 hs0) fu s h
set_option maxRecDepth 100000 in
theorem B_X8_nearest (G : GG l s0 b L xs D cy ad)  {a0 : Nat} {M : Mm} {r : Int32} (hp0 : P a0) (hs0 : SH a0 = 8) (hr : f_X8_nearest a0 M = some r) : Cl l s0 D cy ad P 11 KX8_nearest [.ref a0] M (.inl (some (.int r))) (M) := by
  refine cl_ofN (by decide +kernel) rfl rfl okI (lo0 := [_, .null, .null]) rfl ?_
  unfold f_X8_nearest at hr
  refine n_iconst (n := -1) (v := -1) (by decide +kernel) rfl ?_
  refine n_istore_n (n := 1) (lo2 := [_, _, _]) (by decide +kernel) (Nat.le_of_ble_eq_true rfl) rfl ?_
  refine n_iconst (n := 0) (v := 0) (by decide +kernel) rfl ?_
  refine n_istore_n (n := 2) (lo2 := [_, _, _]) (by decide +kernel) (Nat.le_of_ble_eq_true rfl) rfl ?_
  obtain ⟨z1_10, h10, hr⟩ := bso hr
  refine (W_X8_nearest_b4 G hp0 hs0 h10 _ _) ?_
  dsimp only [Q_X8_nearest_b4]
  refine n_iload_n (n := 1) (by decide +kernel) rfl ?_
  cases hr
  exact n_ireturn (by decide +kernel)
set_option maxRecDepth 100000 in
theorem B_X9_feed (G : GG l s0 b L xs D cy ad)  {x1 : Int32} {x2 : Int32} {x3 : Int32} {x4 : Int32} {x5 : Int32} {M : Mm} {r : (Int32 × Mm)} (hp0 : P 0) (hr : f_X9_feed x1 x2 x3 x4 x5 M = some r) : Cl l s0 D cy ad P 11 KX9_feed [.ref 0, .int x1, .int x2, .int x3, .int x4, .int x5] M (.inl (some (.int r.1))) (r.2) := by
  refine cl_ofN (by decide +kernel) rfl rfl okI (lo0 := [_, _, _, _, _, _]) rfl ?_
  unfold f_X9_feed at hr
  refine n_aload_n (n := 0) (by decide +kernel) rfl ?_
  refine n_getF (q := 1) G fl_RX9_12 hp0 (by decide +kernel) (by decide +kernel) (by decide +kernel) (fun hp1q => ?_)
  refine n_iload_n (n := 1) (by decide +kernel) rfl ?_
  refine n_iload_n (n := 2) (by decide +kernel) rfl ?_
  refine n_iload_n (n := 3) (by decide +kernel) rfl ?_
  refine n_iload (n := 4) (by decide +kernel) rfl ?_
  refine n_iload (n := 5) (by decide +kernel) rfl ?_
  obtain ⟨⟨v2, M2⟩, h2, hr⟩ := bso hr
  try dsimp only at hr
  refine n_callVi G [_, _, _, _, _] (x := v2) (M1 := M2) (B_X7_push G hp1q h2) (by decide) mX7_push ml_RX9_81 hp1q (by decide +kernel) rfl rfl (Nat.le_of_ble_eq_true rfl) (by decide +kernel) ?_
  cases hr
  exact n_ireturn (by decide +kernel)
set_option maxRecDepth 100000 in
theorem B_X9_needArgument (G : GG l s0 b L xs D cy ad)  {x1 : Int32} {M : Mm} {r : ((Nat ⊕ Unit) × Mm)} (hp0 : P 0) (hr : f_X9_needArgument x1 M = some r) : Cl l s0 D cy ad P 9 KX9_needArgument [.ref 0, .int x1] M (rsV r.1) (r.2) := by
  refine cl_ofN (by decide +kernel) rfl rfl okRV (lo0 := [_, _]) rfl ?_
  unfold f_X9_needArgument at hr
  refine n_iload_n (n := 1) (by decide +kernel) rfl ?_
  refine n_if_ne (off := 24) (tgt := 25) (by decide +kernel) (by decide) (fun hc1 => ?_) (fun hc1 => ?_)
  · rw [if_neg hc1] at hr
    cases hr
    exact n_return (by decide +kernel)
  · rw [if_pos hc1] at hr
    refine n_aload_n (n := 0) (by decide +kernel) rfl ?_
    refine n_dup rfl (by decide +kernel) ?_
    refine n_getI G fl_RX9_353 hp0 (by decide +kernel) (by decide +kernel) ?_
    refine n_iconst (n := 1) (v := 1) (by decide +kernel) rfl ?_
    refine n_iadd (by decide +kernel) ?_
    refine n_putI G fl_RX9_353 hp0 (by decide +kernel) (by decide +kernel) ?_
    cases hr
    exact thr_X9_needArgument G (by decide)
set_option maxRecDepth 100000 in
theorem B_X9_openText_j26 (G : GG l s0 b L xs D cy ad) {x1 : Int32} {xs1 : Int32} {M : Mm} {r : ((Nat ⊕ Unit) × Mm)} (hp0 : P 0) (hp90 : P 0) (hr : f_X9_openText_j26 x1 xs1 M = some r) : Rn l s0 D cy ad P 10 KX9_openText 26 [.ref 0, .int x1, .null] [.int xs1, .ref 0] M (rsV r.1) (r.2) := by
  unfold f_X9_openText_j26 at hr
  obtain ⟨⟨e2 | v2, M2⟩, h2, hr⟩ := bso hr
  · (try dsimp only at hr); cases hr; exact n_callVx G [_] (E := X3 e2) (M1 := M2) (B_X9_needArgument G hp90 h2) (by decide) mX9_needArgument ml_RX9_111 hp90 (by decide +kernel) rfl rfl (Nat.le_of_ble_eq_true rfl) (by decide +kernel) (fun z hz => nomatch hz)
  try dsimp only at hr
  refine n_callVv G [_] (M1 := M2) (B_X9_needArgument G hp90 h2) (by decide) mX9_needArgument ml_RX9_111 hp90 (by decide +kernel) rfl rfl (Nat.le_of_ble_eq_true rfl) (by decide +kernel) ?_
  refine n_aload_n (n := 0) (by decide +kernel) rfl ?_
  refine n_getF (q := 1) G fl_RX9_12 hp0 (by decide +kernel) (by decide +kernel) (by decide +kernel) (fun hp3q => ?_)
  refine n_iload_n (n := 1) (by decide +kernel) rfl ?_
  obtain ⟨M4, h4, hr⟩ := bso hr
  refine n_callVv G [_] (M1 := M4) (B_X7_open G hp3q h4) (by decide) mX7_open ml_RX9_376 hp3q (by decide +kernel) rfl rfl (Nat.le_of_ble_eq_true rfl) (by decide +kernel) ?_
  cases hr
  exact n_return (by decide +kernel)
set_option maxRecDepth 100000 in
theorem B_X9_openText_j25 (G : GG l s0 b L xs D cy ad) {x1 : Int32} {M : Mm} {r : ((Nat ⊕ Unit) × Mm)} (hp0 : P 0) (hp90 : P 0) (hr : f_X9_openText_j25 x1 M = some r) : Rn l s0 D cy ad P 10 KX9_openText 25 [.ref 0, .int x1, .null] [.ref 0] M (rsV r.1) (r.2) := by
  unfold f_X9_openText_j25 at hr
  refine n_iconst (n := 0) (v := 0) (by decide +kernel) rfl ?_
  exact B_X9_openText_j26 G hp0 hp90 hr
set_option maxRecDepth 100000 in
theorem B_X9_openText (G : GG l s0 b L xs D cy ad)  {x1 : Int32} {x2 : Int32} {M : Mm} {r : ((Nat ⊕ Unit) × Mm)} (hp0 : P 0) (hr : f_X9_openText x1 x2 M = some r) : Cl l s0 D cy ad P 10 KX9_openText [.ref 0, .int x1, .int x2] M (rsV r.1) (r.2) := by
  refine cl_ofN (by decide +kernel) rfl rfl okRV (lo0 := [_, _, _]) rfl ?_
  unfold f_X9_openText at hr
  refine n_aload_n (n := 0) (by decide +kernel) rfl ?_
  refine n_iload_n (n := 1) (by decide +kernel) rfl ?_
  refine n_if_lt (off := 23) (tgt := 25) (by decide +kernel) (by decide) (fun hc1 => ?_) (fun hc1 => ?_)
  · rw [if_pos hc1] at hr
    refine n_msk [true, true, false] (lo2 := [_, _, .null]) rfl rfl ?_
    exact B_X9_openText_j25 G hp0 hp0 hr
  · rw [if_neg hc1] at hr
    refine n_iload_n (n := 1) (by decide +kernel) rfl ?_
    refine n_iload_n (n := 2) (by decide +kernel) rfl ?_
    refine n_icmp_gt (off := 18) (tgt := 25) (by decide +kernel) (by decide) (fun hc5 => ?_) (fun hc5 => ?_)
    · rw [if_pos hc5] at hr
      refine n_msk [true, true, false] (lo2 := [_, _, .null]) rfl rfl ?_
      exact B_X9_openText_j25 G hp0 hp0 hr
    · rw [if_neg hc5] at hr
      refine n_iload_n (n := 1) (by decide +kernel) rfl ?_
      refine n_aload_n (n := 0) (by decide +kernel) rfl ?_
      refine n_getF (q := 1) G fl_RX9_12 hp0 (by decide +kernel) (by decide +kernel) (by decide +kernel) (fun hp6q => ?_)
      refine n_getI G fl_RX9_356 hp6q (by decide +kernel) (by decide +kernel) ?_
      refine n_icmp_gt (off := 7) (tgt := 25) (by decide +kernel) (by decide) (fun hc7 => ?_) (fun hc7 => ?_)
      · rw [if_pos hc7] at hr
        refine n_msk [true, true, false] (lo2 := [_, _, .null]) rfl rfl ?_
        exact B_X9_openText_j25 G hp0 hp0 hr
      · rw [if_neg hc7] at hr
        refine n_iconst (n := 1) (v := 1) (by decide +kernel) rfl ?_
        refine n_goto (off := 4) (tgt := 26) (by decide +kernel) (by decide) ?_
        refine n_msk [true, true, false] (lo2 := [_, _, .null]) rfl rfl ?_
        exact B_X9_openText_j26 G hp0 hp0 hr
set_option maxRecDepth 100000 in
theorem B_X9_field (G : GG l s0 b L xs D cy ad)  {x1 : Int32} {M : Mm} {r : ((Nat ⊕ Int32) × Mm)} (hp0 : P 0) (hr : f_X9_field x1 M = some r) : Cl l s0 D cy ad P 16 KX9_field [.ref 0, .int x1] M (rsI r.1) (r.2) := by
  refine cl_ofN (by decide +kernel) rfl rfl okRI (lo0 := [_, _, .null, .null]) rfl ?_
  unfold f_X9_field at hr
  refine n_aload_n (n := 0) (by decide +kernel) rfl ?_
  refine n_iload_n (n := 1) (by decide +kernel) rfl ?_
  refine n_sipush (n := 600) (v := 600) (by decide +kernel) (by decide +kernel) ?_
  obtain ⟨⟨e1 | v1, M1⟩, h1, hr⟩ := bso hr
  · (try dsimp only at hr); cases hr; exact n_callVx G [_, _] (E := X3 e1) (M1 := M1) (B_X9_openText G hp0 h1) (by decide) mX9_openText ml_RX9_85 hp0 (by decide +kernel) rfl rfl (Nat.le_of_ble_eq_true rfl) (by decide +kernel) (fun z hz => nomatch hz)
  try dsimp only at hr
  refine n_callVv G [_, _] (M1 := M1) (B_X9_openText G hp0 h1) (by decide) mX9_openText ml_RX9_85 hp0 (by decide +kernel) rfl rfl (Nat.le_of_ble_eq_true rfl) (by decide +kernel) ?_
  refine n_aload_n (n := 0) (by decide +kernel) rfl ?_
  refine n_getD (t := 3) G fl_RX9_51 hp0 (by decide +kernel) (by decide +kernel) (by decide +kernel) (fun hp2q hs2q => ?_)
  refine n_aload_n (n := 0) (by decide +kernel) rfl ?_
  refine n_getF (q := 1) G fl_RX9_12 hp0 (by decide +kernel) (by decide +kernel) (by decide +kernel) (fun hp3q => ?_)
  refine n_aload_n (n := 0) (by decide +kernel) rfl ?_
  refine n_getD (t := 8) G fl_RX9_61 hp0 (by decide +kernel) (by decide +kernel) (by decide +kernel) (fun hp4q hs4q => ?_)
  obtain ⟨M5, h5, hr⟩ := bso hr
  refine n_callVv G [_, _] (M1 := M5) (B_X3_readField G hp2q hs2q hp3q hp4q hs4q h5) (by decide) mX3_readField ml_RX9_89 hp2q hs2q rfl rfl (Nat.le_of_ble_eq_true rfl) (by decide +kernel) ?_
  refine n_aload_n (n := 0) (by decide +kernel) rfl ?_
  refine n_getF (q := 1) G fl_RX9_12 hp0 (by decide +kernel) (by decide +kernel) (by decide +kernel) (fun hp6q => ?_)
  obtain ⟨v7, h7, hr⟩ := bso hr
  refine n_callVi G [] (x := v7) (B_X7_isFine G hp6q h7) (by decide) mX7_isFine ml_RX9_93 hp6q (by decide +kernel) rfl rfl (Nat.le_of_ble_eq_true rfl) (by decide +kernel) ?_
  refine n_if_ne (off := 14) (tgt := 44) (by decide +kernel) (by decide) (fun hc8 => ?_) (fun hc8 => ?_)
  · rw [if_neg hc8] at hr
    refine n_aload_n (n := 0) (by decide +kernel) rfl ?_
    refine n_getD (t := 3) G fl_RX9_47 hp0 (by decide +kernel) (by decide +kernel) (by decide +kernel) (fun hp9q hs9q => ?_)
    refine n_astore_n (n := 2) (lo2 := [_, _, _, _]) (by decide +kernel) (Nat.le_of_ble_eq_true rfl) rfl ?_
    refine n_aload_n (n := 0) (by decide +kernel) rfl ?_
    refine n_aload_n (n := 0) (by decide +kernel) rfl ?_
    refine n_getD (t := 3) G fl_RX9_51 hp0 (by decide +kernel) (by decide +kernel) (by decide +kernel) (fun hp10q hs10q => ?_)
    refine n_putD G fl_RX9_47 hp0 (by decide +kernel) hp10q hs10q (by decide +kernel) (by decide +kernel) (by decide +kernel) ?_
    refine n_aload_n (n := 0) (by decide +kernel) rfl ?_
    refine n_aload_n (n := 2) (by decide +kernel) rfl ?_
    refine n_putD G fl_RX9_51 hp0 (by decide +kernel) hp9q hs9q (by decide +kernel) (by decide +kernel) (by decide +kernel) ?_
    refine n_aload_n (n := 0) (by decide +kernel) rfl ?_
    refine n_getD (t := 8) G fl_RX9_57 hp0 (by decide +kernel) (by decide +kernel) (by decide +kernel) (fun hp11q hs11q => ?_)
    refine n_astore_n (n := 3) (lo2 := [_, _, _, _]) (by decide +kernel) (Nat.le_of_ble_eq_true rfl) rfl ?_
    refine n_aload_n (n := 0) (by decide +kernel) rfl ?_
    refine n_aload_n (n := 0) (by decide +kernel) rfl ?_
    refine n_getD (t := 8) G fl_RX9_61 hp0 (by decide +kernel) (by decide +kernel) (by decide +kernel) (fun hp12q hs12q => ?_)
    refine n_putD G fl_RX9_57 hp0 (by decide +kernel) hp12q hs12q (by decide +kernel) (by decide +kernel) (by decide +kernel) ?_
    refine n_aload_n (n := 0) (by decide +kernel) rfl ?_
    refine n_aload_n (n := 3) (by decide +kernel) rfl ?_
    refine n_putD G fl_RX9_61 hp0 (by decide +kernel) hp11q hs11q (by decide +kernel) (by decide +kernel) (by decide +kernel) ?_
    refine n_aload_n (n := 0) (by decide +kernel) rfl ?_
    refine n_getD (t := 1) G fl_RX9_67 hp0 (by decide +kernel) (by decide +kernel) (by decide +kernel) (fun hp13q hs13q => ?_)
    obtain ⟨M14, h14, hr⟩ := bso hr
    refine n_callVv G [] (M1 := M14) (B_X1_forget G hp13q hs13q h14) (by decide) mX1_forget ml_RX9_101 hp13q hs13q rfl rfl (Nat.le_of_ble_eq_true rfl) (by decide +kernel) ?_
    refine n_aload_n (n := 0) (by decide +kernel) rfl ?_
    refine n_getF (q := 8) G fl_RX9_26 hp0 (by decide +kernel) (by decide +kernel) (by decide +kernel) (fun hp15q => ?_)
    obtain ⟨M16, h16, hr⟩ := bso hr
    refine n_callVv G [] (M1 := M16) (B_X5_forget G hp15q h16) (by decide) mX5_forget ml_RX9_104 hp15q (by decide +kernel) rfl rfl (Nat.le_of_ble_eq_true rfl) (by decide +kernel) ?_
    refine n_aload_n (n := 0) (by decide +kernel) rfl ?_
    refine n_iconst (n := 0) (v := 0) (by decide +kernel) rfl ?_
    refine n_putI G fl_RX9_105 hp0 (by decide +kernel) (by decide +kernel) ?_
    refine n_aload_n (n := 0) (by decide +kernel) rfl ?_
    refine n_getD (t := 8) G fl_RX9_57 hp0 (by decide +kernel) (by decide +kernel) (by decide +kernel) (fun hp17q hs17q => ?_)
    refine n_getI G fl_RX9_108 hp17q hs17q (by decide +kernel) ?_
    cases hr
    exact n_ireturn (by decide +kernel)
  · rw [if_pos hc8] at hr
    refine n_bipush (n := -10) (v := -10) (by decide +kernel) rfl ?_
    refine n_aload_n (n := 0) (by decide +kernel) rfl ?_
    refine n_getF (q := 1) G fl_RX9_12 hp0 (by decide +kernel) (by decide +kernel) (by decide +kernel) (fun hp18q => ?_)
    refine n_getI G fl_RX9_97 hp18q (by decide +kernel) (by decide +kernel) ?_
    refine n_iadd (by decide +kernel) ?_
    cases hr
    exact n_ireturn (by decide +kernel)
set_option maxRecDepth 100000 in
theorem B_X9_law_j15 (G : GG l s0 b L xs D cy ad) {x1 : Int32} {x2 : Int32} {xs1 : Int32} {M : Mm} {r : ((Nat ⊕ Int32) × Mm)} (hp0 : P 0) (hp90 : P 0) (hr : f_X9_law_j15 x1 x2 xs1 M = some r) : Rn l s0 D cy ad P 74 KX9_law 15 [.ref 0, .int x1, .int x2] [.int xs1, .ref 0] M (rsI r.1) (r.2) := by
  unfold f_X9_law_j15 at hr
  obtain ⟨⟨e2 | v2, M2⟩, h2, hr⟩ := bso hr
  · (try dsimp only at hr); cases hr; exact n_callVx G [_] (E := X3 e2) (M1 := M2) (B_X9_needArgument G hp90 h2) (by decide) mX9_needArgument ml_RX9_111 hp90 (by decide +kernel) rfl rfl (Nat.le_of_ble_eq_true rfl) (by decide +kernel) (fun z hz => nomatch hz)
  try dsimp only at hr
  refine n_callVv G [_] (M1 := M2) (B_X9_needArgument G hp90 h2) (by decide) mX9_needArgument ml_RX9_111 hp90 (by decide +kernel) rfl rfl (Nat.le_of_ble_eq_true rfl) (by decide +kernel) ?_
  refine n_aload_n (n := 0) (by decide +kernel) rfl ?_
  refine n_iload_n (n := 2) (by decide +kernel) rfl ?_
  refine n_sipush (n := 150) (v := 150) (by decide +kernel) (by decide +kernel) ?_
  obtain ⟨⟨e3 | v3, M3⟩, h3, hr⟩ := bso hr
  · (try dsimp only at hr); cases hr; exact n_callVx G [_, _] (E := X3 e3) (M1 := M3) (B_X9_openText G hp0 h3) (by decide) mX9_openText ml_RX9_85 hp0 (by decide +kernel) rfl rfl (Nat.le_of_ble_eq_true rfl) (by decide +kernel) (fun z hz => nomatch hz)
  try dsimp only at hr
  refine n_callVv G [_, _] (M1 := M3) (B_X9_openText G hp0 h3) (by decide) mX9_openText ml_RX9_85 hp0 (by decide +kernel) rfl rfl (Nat.le_of_ble_eq_true rfl) (by decide +kernel) ?_
  refine n_aload_n (n := 0) (by decide +kernel) rfl ?_
  refine n_getD (t := 4) G fl_RX9_77 hp0 (by decide +kernel) (by decide +kernel) (by decide +kernel) (fun hp4q hs4q => ?_)
  refine n_aload_n (n := 0) (by decide +kernel) rfl ?_
  refine n_getF (q := 1) G fl_RX9_12 hp0 (by decide +kernel) (by decide +kernel) (by decide +kernel) (fun hp5q => ?_)
  obtain ⟨M6, h6, hr⟩ := bso hr
  refine n_callVv G [_] (M1 := M6) (B_X4_readLaw G hp4q hs4q hp5q h6) (by decide) mX4_readLaw ml_RX9_115 hp4q hs4q rfl rfl (Nat.le_of_ble_eq_true rfl) (by decide +kernel) ?_
  refine n_aload_n (n := 0) (by decide +kernel) rfl ?_
  refine n_getF (q := 1) G fl_RX9_12 hp0 (by decide +kernel) (by decide +kernel) (by decide +kernel) (fun hp7q => ?_)
  obtain ⟨v8, h8, hr⟩ := bso hr
  refine n_callVi G [] (x := v8) (B_X7_isFine G hp7q h8) (by decide) mX7_isFine ml_RX9_93 hp7q (by decide +kernel) rfl rfl (Nat.le_of_ble_eq_true rfl) (by decide +kernel) ?_
  refine n_if_ne (off := 14) (tgt := 58) (by decide +kernel) (by decide) (fun hc9 => ?_) (fun hc9 => ?_)
  · rw [if_neg hc9] at hr
    refine n_aload_n (n := 0) (by decide +kernel) rfl ?_
    refine n_iload_n (n := 1) (by decide +kernel) rfl ?_
    refine n_if_ne (off := 17) (tgt := 77) (by decide +kernel) (by decide) (fun hc10 => ?_) (fun hc10 => ?_)
    · rw [if_neg hc10] at hr
      refine n_aload_n (n := 0) (by decide +kernel) rfl ?_
      refine n_getD (t := 3) G fl_RX9_47 hp0 (by decide +kernel) (by decide +kernel) (by decide +kernel) (fun hp11q hs11q => ?_)
      refine n_aload_n (n := 0) (by decide +kernel) rfl ?_
      refine n_getD (t := 4) G fl_RX9_77 hp0 (by decide +kernel) (by decide +kernel) (by decide +kernel) (fun hp12q hs12q => ?_)
      obtain ⟨⟨v13, M13⟩, h13, hr⟩ := bso hr
      try dsimp only at hr
      refine n_callVrL G [_] (x := v13) (M1 := M13) (B_X3_swapRise G hp11q hs11q hp12q hs12q h13) (BR_X3_swapRise hp11q hs11q hp12q hs12q h13) (by decide) mX3_swapRise ml_RX9_123 hp11q hs11q rfl rfl (Nat.le_of_ble_eq_true rfl) (by decide +kernel) (fun hp13q hs13q => ?_)
      refine n_putD G fl_RX9_77 hp0 (by decide +kernel) hp13q hs13q (by decide +kernel) (by decide +kernel) (by decide +kernel) ?_
      refine n_iconst (n := 1) (v := 1) (by decide +kernel) rfl ?_
      cases hr
      exact n_ireturn (by decide +kernel)
    · rw [if_pos hc10] at hr
      refine n_aload_n (n := 0) (by decide +kernel) rfl ?_
      refine n_getD (t := 3) G fl_RX9_47 hp0 (by decide +kernel) (by decide +kernel) (by decide +kernel) (fun hp14q hs14q => ?_)
      refine n_aload_n (n := 0) (by decide +kernel) rfl ?_
      refine n_getD (t := 4) G fl_RX9_77 hp0 (by decide +kernel) (by decide +kernel) (by decide +kernel) (fun hp15q hs15q => ?_)
      obtain ⟨⟨v16, M16⟩, h16, hr⟩ := bso hr
      try dsimp only at hr
      refine n_callVrL G [_] (x := v16) (M1 := M16) (B_X3_swapHarm G hp14q hs14q hp15q hs15q h16) (BR_X3_swapHarm hp14q hs14q hp15q hs15q h16) (by decide) mX3_swapHarm ml_RX9_119 hp14q hs14q rfl rfl (Nat.le_of_ble_eq_true rfl) (by decide +kernel) (fun hp16q hs16q => ?_)
      refine n_goto (off := 14) (tgt := 88) (by decide +kernel) (by decide) ?_
      refine n_putD G fl_RX9_77 hp0 (by decide +kernel) hp16q hs16q (by decide +kernel) (by decide +kernel) (by decide +kernel) ?_
      refine n_iconst (n := 1) (v := 1) (by decide +kernel) rfl ?_
      cases hr
      exact n_ireturn (by decide +kernel)
  · rw [if_pos hc9] at hr
    refine n_bipush (n := -10) (v := -10) (by decide +kernel) rfl ?_
    refine n_aload_n (n := 0) (by decide +kernel) rfl ?_
    refine n_getF (q := 1) G fl_RX9_12 hp0 (by decide +kernel) (by decide +kernel) (by decide +kernel) (fun hp17q => ?_)
    refine n_getI G fl_RX9_97 hp17q (by decide +kernel) (by decide +kernel) ?_
    refine n_iadd (by decide +kernel) ?_
    cases hr
    exact n_ireturn (by decide +kernel)
set_option maxRecDepth 100000 in
theorem B_X9_law_j10 (G : GG l s0 b L xs D cy ad) {x1 : Int32} {x2 : Int32} {M : Mm} {r : ((Nat ⊕ Int32) × Mm)} (hp0 : P 0) (hp90 : P 0) (hr : f_X9_law_j10 x1 x2 M = some r) : Rn l s0 D cy ad P 74 KX9_law 10 [.ref 0, .int x1, .int x2] [.ref 0] M (rsI r.1) (r.2) := by
  unfold f_X9_law_j10 at hr
  refine n_iconst (n := 1) (v := 1) (by decide +kernel) rfl ?_
  refine n_goto (off := 4) (tgt := 15) (by decide +kernel) (by decide) ?_
  exact B_X9_law_j15 G hp0 hp90 hr
set_option maxRecDepth 100000 in
theorem B_X9_law (G : GG l s0 b L xs D cy ad)  {x1 : Int32} {x2 : Int32} {M : Mm} {r : ((Nat ⊕ Int32) × Mm)} (hp0 : P 0) (hr : f_X9_law x1 x2 M = some r) : Cl l s0 D cy ad P 74 KX9_law [.ref 0, .int x1, .int x2] M (rsI r.1) (r.2) := by
  refine cl_ofN (by decide +kernel) rfl rfl okRI (lo0 := [_, _, _]) rfl ?_
  unfold f_X9_law at hr
  refine n_aload_n (n := 0) (by decide +kernel) rfl ?_
  refine n_iload_n (n := 1) (by decide +kernel) rfl ?_
  refine n_if_eq (off := 8) (tgt := 10) (by decide +kernel) (by decide) (fun hc1 => ?_) (fun hc1 => ?_)
  · rw [if_pos hc1] at hr
    exact B_X9_law_j10 G hp0 hp0 hr
  · rw [if_neg hc1] at hr
    refine n_iload_n (n := 1) (by decide +kernel) rfl ?_
    refine n_iconst (n := 1) (v := 1) (by decide +kernel) rfl ?_
    refine n_icmp_ne (off := 7) (tgt := 14) (by decide +kernel) (by decide) (fun hc18 => ?_) (fun hc18 => ?_)
    · rw [if_neg hc18] at hr
      refine n_iconst (n := 0) (v := 0) (by decide +kernel) rfl ?_
      exact B_X9_law_j15 G hp0 hp0 hr
    · rw [if_pos hc18] at hr
      exact B_X9_law_j10 G hp0 hp0 hr
set_option maxRecDepth 100000 in
theorem B_X9_work (G : GG l s0 b L xs D cy ad)  {x1 : Int32} {M : Mm} {r : ((Nat ⊕ Int32) × Mm)} (hp0 : P 0) (hr : f_X9_work x1 M = some r) : Cl l s0 D cy ad P 74 KX9_work [.ref 0, .int x1] M (rsI r.1) (r.2) := by
  refine cl_ofN (by decide +kernel) rfl rfl okRI (lo0 := [_, _]) rfl ?_
  unfold f_X9_work at hr
  refine n_aload_n (n := 0) (by decide +kernel) rfl ?_
  refine n_iload_n (n := 1) (by decide +kernel) rfl ?_
  refine n_sipush (n := 200) (v := 200) (by decide +kernel) (by decide +kernel) ?_
  obtain ⟨⟨e1 | v1, M1⟩, h1, hr⟩ := bso hr
  · (try dsimp only at hr); cases hr; exact n_callVx G [_, _] (E := X3 e1) (M1 := M1) (B_X9_openText G hp0 h1) (by decide) mX9_openText ml_RX9_85 hp0 (by decide +kernel) rfl rfl (Nat.le_of_ble_eq_true rfl) (by decide +kernel) (fun z hz => nomatch hz)
  try dsimp only at hr
  refine n_callVv G [_, _] (M1 := M1) (B_X9_openText G hp0 h1) (by decide) mX9_openText ml_RX9_85 hp0 (by decide +kernel) rfl rfl (Nat.le_of_ble_eq_true rfl) (by decide +kernel) ?_
  refine n_aload_n (n := 0) (by decide +kernel) rfl ?_
  refine n_getF (q := 8) G fl_RX9_26 hp0 (by decide +kernel) (by decide +kernel) (by decide +kernel) (fun hp2q => ?_)
  obtain ⟨v3, h3, hr⟩ := bso hr
  refine n_callVi G [] (x := v3) (B_X5_isFull G hp2q h3) (by decide) mX5_isFull ml_RX9_126 hp2q (by decide +kernel) rfl rfl (Nat.le_of_ble_eq_true rfl) (by decide +kernel) ?_
  refine n_if_eq (off := 6) (tgt := 21) (by decide +kernel) (by decide) (fun hc4 => ?_) (fun hc4 => ?_)
  · rw [if_pos hc4] at hr
    refine n_aload_n (n := 0) (by decide +kernel) rfl ?_
    refine n_getF (q := 3) G fl_RX9_19 hp0 (by decide +kernel) (by decide +kernel) (by decide +kernel) (fun hp5q => ?_)
    refine n_aload_n (n := 0) (by decide +kernel) rfl ?_
    refine n_getF (q := 1) G fl_RX9_12 hp0 (by decide +kernel) (by decide +kernel) (by decide +kernel) (fun hp6q => ?_)
    refine n_aload_n (n := 0) (by decide +kernel) rfl ?_
    refine n_getD (t := 3) G fl_RX9_47 hp0 (by decide +kernel) (by decide +kernel) (by decide +kernel) (fun hp7q hs7q => ?_)
    obtain ⟨M8, h8, hr⟩ := bso hr
    refine n_callVv G [_, _] (M1 := M8) (B_X6_readWork G hp5q hp6q hp7q hs7q h8) (by decide) mX6_readWork ml_RX9_129 hp5q (by decide +kernel) rfl rfl (Nat.le_of_ble_eq_true rfl) (by decide +kernel) ?_
    refine n_aload_n (n := 0) (by decide +kernel) rfl ?_
    refine n_getF (q := 1) G fl_RX9_12 hp0 (by decide +kernel) (by decide +kernel) (by decide +kernel) (fun hp9q => ?_)
    obtain ⟨v10, h10, hr⟩ := bso hr
    refine n_callVi G [] (x := v10) (B_X7_isFine G hp9q h10) (by decide) mX7_isFine ml_RX9_93 hp9q (by decide +kernel) rfl rfl (Nat.le_of_ble_eq_true rfl) (by decide +kernel) ?_
    refine n_if_ne (off := 14) (tgt := 57) (by decide +kernel) (by decide) (fun hc11 => ?_) (fun hc11 => ?_)
    · rw [if_neg hc11] at hr
      refine n_aload_n (n := 0) (by decide +kernel) rfl ?_
      refine n_getF (q := 8) G fl_RX9_26 hp0 (by decide +kernel) (by decide +kernel) (by decide +kernel) (fun hp12q => ?_)
      refine n_aload_n (n := 0) (by decide +kernel) rfl ?_
      refine n_getD (t := 8) G fl_RX9_57 hp0 (by decide +kernel) (by decide +kernel) (by decide +kernel) (fun hp13q hs13q => ?_)
      obtain ⟨M14, h14, hr⟩ := bso hr
      refine n_callVv G [_] (M1 := M14) (B_X5_keepWork G hp12q hp13q hs13q h14) (by decide) mX5_keepWork ml_RX9_133 hp12q (by decide +kernel) rfl rfl (Nat.le_of_ble_eq_true rfl) (by decide +kernel) ?_
      refine n_aload_n (n := 0) (by decide +kernel) rfl ?_
      refine n_getF (q := 3) G fl_RX9_19 hp0 (by decide +kernel) (by decide +kernel) (by decide +kernel) (fun hp15q => ?_)
      refine n_aload_n (n := 0) (by decide +kernel) rfl ?_
      refine n_getD (t := 3) G fl_RX9_47 hp0 (by decide +kernel) (by decide +kernel) (by decide +kernel) (fun hp16q hs16q => ?_)
      refine n_aload_n (n := 0) (by decide +kernel) rfl ?_
      refine n_getD (t := 8) G fl_RX9_57 hp0 (by decide +kernel) (by decide +kernel) (by decide +kernel) (fun hp17q hs17q => ?_)
      obtain ⟨M18, h18, hr⟩ := bso hr
      refine n_callVv G [_, _] (M1 := M18) (B_X6_carryOut G hp15q hp16q hs16q hp17q hs17q h18) (by decide) mX6_carryOut ml_RX9_137 hp15q (by decide +kernel) rfl rfl (Nat.le_of_ble_eq_true rfl) (by decide +kernel) ?_
      refine n_aload_n (n := 0) (by decide +kernel) rfl ?_
      refine n_aload_n (n := 0) (by decide +kernel) rfl ?_
      refine n_getF (q := 3) G fl_RX9_19 hp0 (by decide +kernel) (by decide +kernel) (by decide +kernel) (fun hp19q => ?_)
      refine n_getI G fl_RX9_141 hp19q (by decide +kernel) (by decide +kernel) ?_
      refine n_putI G fl_RX9_105 hp0 (by decide +kernel) (by decide +kernel) ?_
      refine n_aload_n (n := 0) (by decide +kernel) rfl ?_
      refine n_getF (q := 3) G fl_RX9_19 hp0 (by decide +kernel) (by decide +kernel) (by decide +kernel) (fun hp20q => ?_)
      refine n_getI G fl_RX9_144 hp20q (by decide +kernel) (by decide +kernel) ?_
      cases hr
      exact n_ireturn (by decide +kernel)
    · rw [if_pos hc11] at hr
      refine n_bipush (n := -10) (v := -10) (by decide +kernel) rfl ?_
      refine n_aload_n (n := 0) (by decide +kernel) rfl ?_
      refine n_getF (q := 1) G fl_RX9_12 hp0 (by decide +kernel) (by decide +kernel) (by decide +kernel) (fun hp21q => ?_)
      refine n_getI G fl_RX9_97 hp21q (by decide +kernel) (by decide +kernel) ?_
      refine n_iadd (by decide +kernel) ?_
      cases hr
      exact n_ireturn (by decide +kernel)
  · rw [if_neg hc4] at hr
    refine n_bipush (n := -20) (v := -20) (by decide +kernel) rfl ?_
    cases hr
    exact n_ireturn (by decide +kernel)
set_option maxRecDepth 100000 in
theorem B_X9_book (G : GG l s0 b L xs D cy ad)  {x1 : Int32} {M : Mm} {r : ((Nat ⊕ Int32) × Mm)} (hp0 : P 0) (hr : f_X9_book x1 M = some r) : Cl l s0 D cy ad P 14 KX9_book [.ref 0, .int x1] M (rsI r.1) (r.2) := by
  refine cl_ofN (by decide +kernel) rfl rfl okRI (lo0 := [_, _, .null]) rfl ?_
  unfold f_X9_book at hr
  refine n_aload_n (n := 0) (by decide +kernel) rfl ?_
  refine n_iload_n (n := 1) (by decide +kernel) rfl ?_
  refine n_bipush (n := 100) (v := 100) (by decide +kernel) rfl ?_
  obtain ⟨⟨e1 | v1, M1⟩, h1, hr⟩ := bso hr
  · (try dsimp only at hr); cases hr; exact n_callVx G [_, _] (E := X3 e1) (M1 := M1) (B_X9_openText G hp0 h1) (by decide) mX9_openText ml_RX9_85 hp0 (by decide +kernel) rfl rfl (Nat.le_of_ble_eq_true rfl) (by decide +kernel) (fun z hz => nomatch hz)
  try dsimp only at hr
  refine n_callVv G [_, _] (M1 := M1) (B_X9_openText G hp0 h1) (by decide) mX9_openText ml_RX9_85 hp0 (by decide +kernel) rfl rfl (Nat.le_of_ble_eq_true rfl) (by decide +kernel) ?_
  refine n_aload_n (n := 0) (by decide +kernel) rfl ?_
  refine n_getD (t := 1) G fl_RX9_71 hp0 (by decide +kernel) (by decide +kernel) (by decide +kernel) (fun hp2q hs2q => ?_)
  refine n_aload_n (n := 0) (by decide +kernel) rfl ?_
  refine n_getF (q := 1) G fl_RX9_12 hp0 (by decide +kernel) (by decide +kernel) (by decide +kernel) (fun hp3q => ?_)
  refine n_aload_n (n := 0) (by decide +kernel) rfl ?_
  refine n_getD (t := 3) G fl_RX9_47 hp0 (by decide +kernel) (by decide +kernel) (by decide +kernel) (fun hp4q hs4q => ?_)
  obtain ⟨M5, h5, hr⟩ := bso hr
  refine n_callVv G [_, _] (M1 := M5) (B_X1_readBook G hp2q hs2q hp3q hp4q hs4q h5) (by decide) mX1_readBook ml_RX9_147 hp2q hs2q rfl rfl (Nat.le_of_ble_eq_true rfl) (by decide +kernel) ?_
  refine n_aload_n (n := 0) (by decide +kernel) rfl ?_
  refine n_getF (q := 1) G fl_RX9_12 hp0 (by decide +kernel) (by decide +kernel) (by decide +kernel) (fun hp6q => ?_)
  obtain ⟨v7, h7, hr⟩ := bso hr
  refine n_callVi G [] (x := v7) (B_X7_isFine G hp6q h7) (by decide) mX7_isFine ml_RX9_93 hp6q (by decide +kernel) rfl rfl (Nat.le_of_ble_eq_true rfl) (by decide +kernel) ?_
  refine n_if_ne (off := 14) (tgt := 43) (by decide +kernel) (by decide) (fun hc8 => ?_) (fun hc8 => ?_)
  · rw [if_neg hc8] at hr
    refine n_aload_n (n := 0) (by decide +kernel) rfl ?_
    refine n_getD (t := 1) G fl_RX9_67 hp0 (by decide +kernel) (by decide +kernel) (by decide +kernel) (fun hp9q hs9q => ?_)
    refine n_astore_n (n := 2) (lo2 := [_, _, _]) (by decide +kernel) (Nat.le_of_ble_eq_true rfl) rfl ?_
    refine n_aload_n (n := 0) (by decide +kernel) rfl ?_
    refine n_aload_n (n := 0) (by decide +kernel) rfl ?_
    refine n_getD (t := 1) G fl_RX9_71 hp0 (by decide +kernel) (by decide +kernel) (by decide +kernel) (fun hp10q hs10q => ?_)
    refine n_putD G fl_RX9_67 hp0 (by decide +kernel) hp10q hs10q (by decide +kernel) (by decide +kernel) (by decide +kernel) ?_
    refine n_aload_n (n := 0) (by decide +kernel) rfl ?_
    refine n_aload_n (n := 2) (by decide +kernel) rfl ?_
    refine n_putD G fl_RX9_71 hp0 (by decide +kernel) hp9q hs9q (by decide +kernel) (by decide +kernel) (by decide +kernel) ?_
    refine n_aload_n (n := 0) (by decide +kernel) rfl ?_
    refine n_getD (t := 1) G fl_RX9_67 hp0 (by decide +kernel) (by decide +kernel) (by decide +kernel) (fun hp11q hs11q => ?_)
    refine n_getI G fl_RX9_150 hp11q hs11q (by decide +kernel) ?_
    cases hr
    exact n_ireturn (by decide +kernel)
  · rw [if_pos hc8] at hr
    refine n_bipush (n := -10) (v := -10) (by decide +kernel) rfl ?_
    refine n_aload_n (n := 0) (by decide +kernel) rfl ?_
    refine n_getF (q := 1) G fl_RX9_12 hp0 (by decide +kernel) (by decide +kernel) (by decide +kernel) (fun hp12q => ?_)
    refine n_getI G fl_RX9_97 hp12q (by decide +kernel) (by decide +kernel) ?_
    refine n_iadd (by decide +kernel) ?_
    cases hr
    exact n_ireturn (by decide +kernel)
set_option maxRecDepth 100000 in
theorem B_X9_fault (G : GG l s0 b L xs D cy ad)   {M : Mm} {r : Int32} (hp0 : P 0) (hr : f_X9_fault  M = some r) : Cl l s0 D cy ad P 9 KX9_fault [.ref 0] M (.inl (some (.int r))) (M) := by
  refine cl_ofN (by decide +kernel) rfl rfl okI (lo0 := [_]) rfl ?_
  unfold f_X9_fault at hr
  refine n_aload_n (n := 0) (by decide +kernel) rfl ?_
  refine n_getF (q := 1) G fl_RX9_12 hp0 (by decide +kernel) (by decide +kernel) (by decide +kernel) (fun hp1q => ?_)
  refine n_getI G fl_RX9_153 hp1q (by decide +kernel) (by decide +kernel) ?_
  cases hr
  exact n_ireturn (by decide +kernel)
set_option maxRecDepth 100000 in
theorem B_X9_undo (G : GG l s0 b L xs D cy ad)   {M : Mm} {r : (Int32 × Mm)} (hp0 : P 0) (hr : f_X9_undo  M = some r) : Cl l s0 D cy ad P 11 KX9_undo [.ref 0] M (.inl (some (.int r.1))) (r.2) := by
  refine cl_ofN (by decide +kernel) rfl rfl okI (lo0 := [_]) rfl ?_
  unfold f_X9_undo at hr
  refine n_aload_n (n := 0) (by decide +kernel) rfl ?_
  refine n_getF (q := 8) G fl_RX9_26 hp0 (by decide +kernel) (by decide +kernel) (by decide +kernel) (fun hp1q => ?_)
  refine n_getI G fl_RX9_156 hp1q (by decide +kernel) (by decide +kernel) ?_
  refine n_if_ne (off := 5) (tgt := 12) (by decide +kernel) (by decide) (fun hc2 => ?_) (fun hc2 => ?_)
  · rw [if_neg hc2] at hr
    refine n_aload_n (n := 0) (by decide +kernel) rfl ?_
    refine n_getF (q := 8) G fl_RX9_26 hp0 (by decide +kernel) (by decide +kernel) (by decide +kernel) (fun hp3q => ?_)
    refine n_aload_n (n := 0) (by decide +kernel) rfl ?_
    refine n_getD (t := 8) G fl_RX9_57 hp0 (by decide +kernel) (by decide +kernel) (by decide +kernel) (fun hp4q hs4q => ?_)
    obtain ⟨M5, h5, hr⟩ := bso hr
    refine n_callVv G [_] (M1 := M5) (B_X5_takeBackWork G hp3q hp4q hs4q h5) (by decide) mX5_takeBackWork ml_RX9_159 hp3q (by decide +kernel) rfl rfl (Nat.le_of_ble_eq_true rfl) (by decide +kernel) ?_
    refine n_aload_n (n := 0) (by decide +kernel) rfl ?_
    refine n_iconst (n := 0) (v := 0) (by decide +kernel) rfl ?_
    refine n_putI G fl_RX9_105 hp0 (by decide +kernel) (by decide +kernel) ?_
    refine n_aload_n (n := 0) (by decide +kernel) rfl ?_
    refine n_getF (q := 8) G fl_RX9_26 hp0 (by decide +kernel) (by decide +kernel) (by decide +kernel) (fun hp6q => ?_)
    refine n_getI G fl_RX9_156 hp6q (by decide +kernel) (by decide +kernel) ?_
    cases hr
    exact n_ireturn (by decide +kernel)
  · rw [if_pos hc2] at hr
    refine n_iconst (n := -1) (v := -1) (by decide +kernel) rfl ?_
    cases hr
    exact n_ireturn (by decide +kernel)
set_option maxRecDepth 100000 in
theorem tabD_X9_told_20 (x : Int32) (h0 : x.toInt ≠ 0) (h1 : x.toInt ≠ 1) (h2 : x.toInt ≠ 2) (h7 : x.toInt ≠ 7) (h8 : x.toInt ≠ 8) (h9 : x.toInt ≠ 9) : tabDef 0 9 101 #[56, 64, 72, 101, 101, 101, 101, 80, 88, 96] x := by
  unfold tabDef
  by_cases h1 : x.toInt < 0
  · exact Or.inl (Or.inl h1)
  by_cases h2 : 9 < x.toInt
  · exact Or.inl (Or.inr h2)
  refine Or.inr ⟨h1, h2, ?_⟩
  have : x.toInt = 3 ∨ x.toInt = 4 ∨ x.toInt = 5 ∨ x.toInt = 6 := by omega
  rcases this with h | h | h | h <;> (rw [h]; decide)
set_option maxRecDepth 100000 in
theorem B_X9_told_j16 (G : GG l s0 b L xs D cy ad) {x1 : Int32} {xs1 : Int32} {M : Mm} {r : ((Nat ⊕ Int32) × Mm)} (hp0 : P 0) (hp90 : P 0) (hr : f_X9_told_j16 x1 xs1 M = some r) : Rn l s0 D cy ad P 12 KX9_told 16 [.ref 0, .int x1] [.int xs1, .ref 0] M (rsI r.1) (r.2) := by
  unfold f_X9_told_j16 at hr
  obtain ⟨⟨e2 | v2, M2⟩, h2, hr⟩ := bso hr
  · (try dsimp only at hr); cases hr; exact n_callVx G [_] (E := X3 e2) (M1 := M2) (B_X9_needArgument G hp90 h2) (by decide) mX9_needArgument ml_RX9_111 hp90 (by decide +kernel) rfl rfl (Nat.le_of_ble_eq_true rfl) (by decide +kernel) (fun z hz => nomatch hz)
  try dsimp only at hr
  refine n_callVv G [_] (M1 := M2) (B_X9_needArgument G hp90 h2) (by decide) mX9_needArgument ml_RX9_111 hp90 (by decide +kernel) rfl rfl (Nat.le_of_ble_eq_true rfl) (by decide +kernel) ?_
  refine n_iload_n (n := 1) (by decide +kernel) rfl ?_
  by_cases hc3 : x1 = 0
  · rw [if_pos hc3] at hr
    refine n_tabIn (dflt := 101) (lw := 0) (hi := 9) (offs := #[56, 64, 72, 101, 101, 101, 101, 80, 88, 96]) (len := 56) (off := 56) (tgt := 76) (by decide +kernel) (by rw [hc3]; decide) (by rw [hc3]; decide) (by rw [hc3]; decide) (by decide) ?_
    refine n_aload_n (n := 0) (by decide +kernel) rfl ?_
    refine n_getD (t := 3) G fl_RX9_47 hp0 (by decide +kernel) (by decide +kernel) (by decide +kernel) (fun hp4q hs4q => ?_)
    refine n_getI G fl_RX9_162 hp4q hs4q (by decide +kernel) ?_
    cases hr
    exact n_ireturn (by decide +kernel)
  rw [if_neg hc3] at hr
  by_cases hc5 : x1 = 1
  · rw [if_pos hc5] at hr
    refine n_tabIn (dflt := 101) (lw := 0) (hi := 9) (offs := #[56, 64, 72, 101, 101, 101, 101, 80, 88, 96]) (len := 56) (off := 64) (tgt := 84) (by decide +kernel) (by rw [hc5]; decide) (by rw [hc5]; decide) (by rw [hc5]; decide) (by decide) ?_
    refine n_aload_n (n := 0) (by decide +kernel) rfl ?_
    refine n_getD (t := 3) G fl_RX9_47 hp0 (by decide +kernel) (by decide +kernel) (by decide +kernel) (fun hp6q hs6q => ?_)
    refine n_getI G fl_RX9_165 hp6q hs6q (by decide +kernel) ?_
    cases hr
    exact n_ireturn (by decide +kernel)
  rw [if_neg hc5] at hr
  by_cases hc7 : x1 = 2
  · rw [if_pos hc7] at hr
    refine n_tabIn (dflt := 101) (lw := 0) (hi := 9) (offs := #[56, 64, 72, 101, 101, 101, 101, 80, 88, 96]) (len := 56) (off := 72) (tgt := 92) (by decide +kernel) (by rw [hc7]; decide) (by rw [hc7]; decide) (by rw [hc7]; decide) (by decide) ?_
    refine n_aload_n (n := 0) (by decide +kernel) rfl ?_
    refine n_getD (t := 8) G fl_RX9_57 hp0 (by decide +kernel) (by decide +kernel) (by decide +kernel) (fun hp8q hs8q => ?_)
    refine n_getI G fl_RX9_108 hp8q hs8q (by decide +kernel) ?_
    cases hr
    exact n_ireturn (by decide +kernel)
  rw [if_neg hc7] at hr
  by_cases hc9 : x1 = 7
  · rw [if_pos hc9] at hr
    refine n_tabIn (dflt := 101) (lw := 0) (hi := 9) (offs := #[56, 64, 72, 101, 101, 101, 101, 80, 88, 96]) (len := 56) (off := 80) (tgt := 100) (by decide +kernel) (by rw [hc9]; decide) (by rw [hc9]; decide) (by rw [hc9]; decide) (by decide) ?_
    refine n_aload_n (n := 0) (by decide +kernel) rfl ?_
    refine n_getD (t := 8) G fl_RX9_57 hp0 (by decide +kernel) (by decide +kernel) (by decide +kernel) (fun hp10q hs10q => ?_)
    refine n_getI G fl_RX9_168 hp10q hs10q (by decide +kernel) ?_
    cases hr
    exact n_ireturn (by decide +kernel)
  rw [if_neg hc9] at hr
  by_cases hc11 : x1 = 8
  · rw [if_pos hc11] at hr
    refine n_tabIn (dflt := 101) (lw := 0) (hi := 9) (offs := #[56, 64, 72, 101, 101, 101, 101, 80, 88, 96]) (len := 56) (off := 88) (tgt := 108) (by decide +kernel) (by rw [hc11]; decide) (by rw [hc11]; decide) (by rw [hc11]; decide) (by decide) ?_
    refine n_aload_n (n := 0) (by decide +kernel) rfl ?_
    refine n_getD (t := 1) G fl_RX9_67 hp0 (by decide +kernel) (by decide +kernel) (by decide +kernel) (fun hp12q hs12q => ?_)
    refine n_getI G fl_RX9_150 hp12q hs12q (by decide +kernel) ?_
    cases hr
    exact n_ireturn (by decide +kernel)
  rw [if_neg hc11] at hr
  by_cases hc13 : x1 = 9
  · rw [if_pos hc13] at hr
    refine n_tabIn (dflt := 101) (lw := 0) (hi := 9) (offs := #[56, 64, 72, 101, 101, 101, 101, 80, 88, 96]) (len := 56) (off := 96) (tgt := 116) (by decide +kernel) (by rw [hc13]; decide) (by rw [hc13]; decide) (by rw [hc13]; decide) (by decide) ?_
    refine n_aload_n (n := 0) (by decide +kernel) rfl ?_
    refine n_getI G fl_RX9_105 hp0 (by decide +kernel) (by decide +kernel) ?_
    cases hr
    exact n_ireturn (by decide +kernel)
  rw [if_neg hc13] at hr
  have e3 := ne_toInt hc3 (n := 0) rfl
  have e5 := ne_toInt hc5 (n := 1) rfl
  have e7 := ne_toInt hc7 (n := 2) rfl
  have e9 := ne_toInt hc9 (n := 7) rfl
  have e11 := ne_toInt hc11 (n := 8) rfl
  have e13 := ne_toInt hc13 (n := 9) rfl
  refine n_tabD (dflt := 101) (lw := 0) (hi := 9) (offs := #[56, 64, 72, 101, 101, 101, 101, 80, 88, 96]) (len := 56) (tgt := 121) (by decide +kernel) (by decide) (tabD_X9_told_20 _ e3 e5 e7 e9 e11 e13) ?_
  refine n_aload_n (n := 0) (by decide +kernel) rfl ?_
  refine n_getD (t := 8) G fl_RX9_57 hp0 (by decide +kernel) (by decide +kernel) (by decide +kernel) (fun hp14q hs14q => ?_)
  refine n_iload_n (n := 1) (by decide +kernel) rfl ?_
  refine n_iconst (n := 3) (v := 3) (by decide +kernel) rfl ?_
  refine n_isub (by decide +kernel) ?_
  obtain ⟨v15, h15, hr⟩ := bso hr
  refine n_callVi G [_] (x := v15) (B_X8_howMany G hp14q hs14q h15) (by decide) mX8_howMany ml_RX9_171 hp14q hs14q rfl rfl (Nat.le_of_ble_eq_true rfl) (by decide +kernel) ?_
  cases hr
  exact n_ireturn (by decide +kernel)
set_option maxRecDepth 100000 in
theorem B_X9_told_j15 (G : GG l s0 b L xs D cy ad) {x1 : Int32} {M : Mm} {r : ((Nat ⊕ Int32) × Mm)} (hp0 : P 0) (hp90 : P 0) (hr : f_X9_told_j15 x1 M = some r) : Rn l s0 D cy ad P 12 KX9_told 15 [.ref 0, .int x1] [.ref 0] M (rsI r.1) (r.2) := by
  unfold f_X9_told_j15 at hr
  refine n_iconst (n := 0) (v := 0) (by decide +kernel) rfl ?_
  exact B_X9_told_j16 G hp0 hp90 hr
set_option maxRecDepth 100000 in
theorem B_X9_told (G : GG l s0 b L xs D cy ad)  {x1 : Int32} {M : Mm} {r : ((Nat ⊕ Int32) × Mm)} (hp0 : P 0) (hr : f_X9_told x1 M = some r) : Cl l s0 D cy ad P 12 KX9_told [.ref 0, .int x1] M (rsI r.1) (r.2) := by
  refine cl_ofN (by decide +kernel) rfl rfl okRI (lo0 := [_, _]) rfl ?_
  unfold f_X9_told at hr
  refine n_aload_n (n := 0) (by decide +kernel) rfl ?_
  refine n_iload_n (n := 1) (by decide +kernel) rfl ?_
  refine n_if_lt (off := 13) (tgt := 15) (by decide +kernel) (by decide) (fun hc1 => ?_) (fun hc1 => ?_)
  · rw [if_pos hc1] at hr
    exact B_X9_told_j15 G hp0 hp0 hr
  · rw [if_neg hc1] at hr
    refine n_iload_n (n := 1) (by decide +kernel) rfl ?_
    refine n_bipush (n := 9) (v := 9) (by decide +kernel) rfl ?_
    refine n_icmp_gt (off := 7) (tgt := 15) (by decide +kernel) (by decide) (fun hc16 => ?_) (fun hc16 => ?_)
    · rw [if_pos hc16] at hr
      exact B_X9_told_j15 G hp0 hp0 hr
    · rw [if_neg hc16] at hr
      refine n_iconst (n := 1) (v := 1) (by decide +kernel) rfl ?_
      refine n_goto (off := 4) (tgt := 16) (by decide +kernel) (by decide) ?_
      exact B_X9_told_j16 G hp0 hp0 hr
set_option maxRecDepth 100000 in
theorem B_X9_needStone_j15 (G : GG l s0 b L xs D cy ad)  {M : Mm} {r : ((Nat ⊕ Unit) × Mm)} (hp0 : P 0) (hr : f_X9_needStone_j15  M = some r) : Rn l s0 D cy ad P 9 KX9_needStone 15 [.ref 0, .null] [] M (rsV r.1) (r.2) := by
  unfold f_X9_needStone_j15 at hr
  refine n_aload_n (n := 0) (by decide +kernel) rfl ?_
  refine n_dup rfl (by decide +kernel) ?_
  refine n_getI G fl_RX9_350 hp0 (by decide +kernel) (by decide +kernel) ?_
  refine n_iconst (n := 1) (v := 1) (by decide +kernel) rfl ?_
  refine n_iadd (by decide +kernel) ?_
  refine n_putI G fl_RX9_350 hp0 (by decide +kernel) (by decide +kernel) ?_
  cases hr
  exact thr_X9_needStone G (by decide)
set_option maxRecDepth 100000 in
theorem B_X9_needStone (G : GG l s0 b L xs D cy ad)  {x1 : Int32} {M : Mm} {r : ((Nat ⊕ Unit) × Mm)} (hp0 : P 0) (hr : f_X9_needStone x1 M = some r) : Cl l s0 D cy ad P 9 KX9_needStone [.ref 0, .int x1] M (rsV r.1) (r.2) := by
  refine cl_ofN (by decide +kernel) rfl rfl okRV (lo0 := [_, _]) rfl ?_
  unfold f_X9_needStone at hr
  refine n_iload_n (n := 1) (by decide +kernel) rfl ?_
  refine n_if_lt (off := 14) (tgt := 15) (by decide +kernel) (by decide) (fun hc1 => ?_) (fun hc1 => ?_)
  · rw [if_pos hc1] at hr
    refine n_msk [true, false] (lo2 := [_, .null]) rfl rfl ?_
    exact B_X9_needStone_j15 G hp0 hr
  · rw [if_neg hc1] at hr
    refine n_iload_n (n := 1) (by decide +kernel) rfl ?_
    refine n_aload_n (n := 0) (by decide +kernel) rfl ?_
    refine n_getD (t := 8) G fl_RX9_57 hp0 (by decide +kernel) (by decide +kernel) (by decide +kernel) (fun hp2q hs2q => ?_)
    refine n_getI G fl_RX9_108 hp2q hs2q (by decide +kernel) ?_
    refine n_icmp_lt (off := 24) (tgt := 36) (by decide +kernel) (by decide) (fun hc3 => ?_) (fun hc3 => ?_)
    · rw [if_pos hc3] at hr
      cases hr
      exact n_return (by decide +kernel)
    · rw [if_neg hc3] at hr
      refine n_msk [true, false] (lo2 := [_, .null]) rfl rfl ?_
      exact B_X9_needStone_j15 G hp0 hr
set_option maxRecDepth 100000 in
theorem B_X9_stone_j20 (G : GG l s0 b L xs D cy ad) {x1 : Int32} {x2 : Int32} {xs1 : Int32} {M : Mm} {r : ((Nat ⊕ Int32) × Mm)} (hp0 : P 0) (hp90 : P 0) (hr : f_X9_stone_j20 x1 x2 xs1 M = some r) : Rn l s0 D cy ad P 11 KX9_stone 20 [.ref 0, .int x1, .int x2] [.int xs1, .ref 0] M (rsI r.1) (r.2) := by
  unfold f_X9_stone_j20 at hr
  obtain ⟨⟨e3 | v3, M3⟩, h3, hr⟩ := bso hr
  · (try dsimp only at hr); cases hr; exact n_callVx G [_] (E := X3 e3) (M1 := M3) (B_X9_needArgument G hp90 h3) (by decide) mX9_needArgument ml_RX9_111 hp90 (by decide +kernel) rfl rfl (Nat.le_of_ble_eq_true rfl) (by decide +kernel) (fun z hz => nomatch hz)
  try dsimp only at hr
  refine n_callVv G [_] (M1 := M3) (B_X9_needArgument G hp90 h3) (by decide) mX9_needArgument ml_RX9_111 hp90 (by decide +kernel) rfl rfl (Nat.le_of_ble_eq_true rfl) (by decide +kernel) ?_
  refine n_iload_n (n := 2) (by decide +kernel) rfl ?_
  by_cases hc4 : x2 = 0
  · rw [if_pos hc4] at hr
    refine n_tabIn (dflt := 74) (lw := 0) (hi := 3) (offs := #[32, 44, 56, 65]) (len := 32) (off := 32) (tgt := 56) (by decide +kernel) (by rw [hc4]; decide) (by rw [hc4]; decide) (by rw [hc4]; decide) (by decide) ?_
    refine n_aload_n (n := 0) (by decide +kernel) rfl ?_
    refine n_getD (t := 8) G fl_RX9_57 hp0 (by decide +kernel) (by decide +kernel) (by decide +kernel) (fun hp5q hs5q => ?_)
    refine n_iload_n (n := 1) (by decide +kernel) rfl ?_
    obtain ⟨v6, h6, hr⟩ := bso hr
    refine n_callVi G [_] (x := v6) (B_X8_cellOf G hp5q hs5q h6) (by decide) mX8_cellOf ml_RX9_179 hp5q hs5q rfl rfl (Nat.le_of_ble_eq_true rfl) (by decide +kernel) ?_
    obtain ⟨v7, h7, hr⟩ := bso hr
    refine n_callSi G [_] (x := v7) (B_X9_column G  h7) (by decide) mX9_column ml_RX9_182 rfl rfl (Nat.le_of_ble_eq_true rfl) (by decide +kernel) ?_
    cases hr
    exact n_ireturn (by decide +kernel)
  rw [if_neg hc4] at hr
  by_cases hc8 : x2 = 1
  · rw [if_pos hc8] at hr
    refine n_tabIn (dflt := 74) (lw := 0) (hi := 3) (offs := #[32, 44, 56, 65]) (len := 32) (off := 44) (tgt := 68) (by decide +kernel) (by rw [hc8]; decide) (by rw [hc8]; decide) (by rw [hc8]; decide) (by decide) ?_
    refine n_aload_n (n := 0) (by decide +kernel) rfl ?_
    refine n_getD (t := 8) G fl_RX9_57 hp0 (by decide +kernel) (by decide +kernel) (by decide +kernel) (fun hp9q hs9q => ?_)
    refine n_iload_n (n := 1) (by decide +kernel) rfl ?_
    obtain ⟨v10, h10, hr⟩ := bso hr
    refine n_callVi G [_] (x := v10) (B_X8_cellOf G hp9q hs9q h10) (by decide) mX8_cellOf ml_RX9_179 hp9q hs9q rfl rfl (Nat.le_of_ble_eq_true rfl) (by decide +kernel) ?_
    obtain ⟨v11, h11, hr⟩ := bso hr
    refine n_callSi G [_] (x := v11) (B_X9_row G  h11) (by decide) mX9_row ml_RX9_185 rfl rfl (Nat.le_of_ble_eq_true rfl) (by decide +kernel) ?_
    cases hr
    exact n_ireturn (by decide +kernel)
  rw [if_neg hc8] at hr
  by_cases hc12 : x2 = 2
  · rw [if_pos hc12] at hr
    refine n_tabIn (dflt := 74) (lw := 0) (hi := 3) (offs := #[32, 44, 56, 65]) (len := 32) (off := 56) (tgt := 80) (by decide +kernel) (by rw [hc12]; decide) (by rw [hc12]; decide) (by rw [hc12]; decide) (by decide) ?_
    refine n_aload_n (n := 0) (by decide +kernel) rfl ?_
    refine n_getD (t := 8) G fl_RX9_57 hp0 (by decide +kernel) (by decide +kernel) (by decide +kernel) (fun hp13q hs13q => ?_)
    refine n_iload_n (n := 1) (by decide +kernel) rfl ?_
    obtain ⟨v14, h14, hr⟩ := bso hr
    refine n_callVi G [_] (x := v14) (B_X8_sizeOf G hp13q hs13q h14) (by decide) mX8_sizeOf ml_RX9_188 hp13q hs13q rfl rfl (Nat.le_of_ble_eq_true rfl) (by decide +kernel) ?_
    cases hr
    exact n_ireturn (by decide +kernel)
  rw [if_neg hc12] at hr
  by_cases hc15 : x2 = 3
  · rw [if_pos hc15] at hr
    refine n_tabIn (dflt := 74) (lw := 0) (hi := 3) (offs := #[32, 44, 56, 65]) (len := 32) (off := 65) (tgt := 89) (by decide +kernel) (by rw [hc15]; decide) (by rw [hc15]; decide) (by rw [hc15]; decide) (by decide) ?_
    refine n_aload_n (n := 0) (by decide +kernel) rfl ?_
    refine n_getD (t := 8) G fl_RX9_57 hp0 (by decide +kernel) (by decide +kernel) (by decide +kernel) (fun hp16q hs16q => ?_)
    refine n_iload_n (n := 1) (by decide +kernel) rfl ?_
    obtain ⟨v17, h17, hr⟩ := bso hr
    refine n_callVi G [_] (x := v17) (B_X8_yearOf G hp16q hs16q h17) (by decide) mX8_yearOf ml_RX9_191 hp16q hs16q rfl rfl (Nat.le_of_ble_eq_true rfl) (by decide +kernel) ?_
    cases hr
    exact n_ireturn (by decide +kernel)
  rw [if_neg hc15] at hr
  have e4 := ne_toInt hc4 (n := 0) rfl
  have e8 := ne_toInt hc8 (n := 1) rfl
  have e12 := ne_toInt hc12 (n := 2) rfl
  have e15 := ne_toInt hc15 (n := 3) rfl
  refine n_tabOut (dflt := 74) (lw := 0) (hi := 3) (offs := #[32, 44, 56, 65]) (len := 32) (tgt := 98) (by decide +kernel) (by omega) (by decide) ?_
  refine n_aload_n (n := 0) (by decide +kernel) rfl ?_
  refine n_getD (t := 8) G fl_RX9_57 hp0 (by decide +kernel) (by decide +kernel) (by decide +kernel) (fun hp18q hs18q => ?_)
  refine n_iload_n (n := 1) (by decide +kernel) rfl ?_
  obtain ⟨v19, h19, hr⟩ := bso hr
  refine n_callVi G [_] (x := v19) (B_X8_placeOf G hp18q hs18q h19) (by decide) mX8_placeOf ml_RX9_194 hp18q hs18q rfl rfl (Nat.le_of_ble_eq_true rfl) (by decide +kernel) ?_
  cases hr
  exact n_ireturn (by decide +kernel)
set_option maxRecDepth 100000 in
theorem B_X9_stone_j19 (G : GG l s0 b L xs D cy ad) {x1 : Int32} {x2 : Int32} {M : Mm} {r : ((Nat ⊕ Int32) × Mm)} (hp0 : P 0) (hp90 : P 0) (hr : f_X9_stone_j19 x1 x2 M = some r) : Rn l s0 D cy ad P 11 KX9_stone 19 [.ref 0, .int x1, .int x2] [.ref 0] M (rsI r.1) (r.2) := by
  unfold f_X9_stone_j19 at hr
  refine n_iconst (n := 0) (v := 0) (by decide +kernel) rfl ?_
  exact B_X9_stone_j20 G hp0 hp90 hr
set_option maxRecDepth 100000 in
theorem B_X9_stone (G : GG l s0 b L xs D cy ad)  {x1 : Int32} {x2 : Int32} {M : Mm} {r : ((Nat ⊕ Int32) × Mm)} (hp0 : P 0) (hr : f_X9_stone x1 x2 M = some r) : Cl l s0 D cy ad P 11 KX9_stone [.ref 0, .int x1, .int x2] M (rsI r.1) (r.2) := by
  refine cl_ofN (by decide +kernel) rfl rfl okRI (lo0 := [_, _, _]) rfl ?_
  unfold f_X9_stone at hr
  refine n_aload_n (n := 0) (by decide +kernel) rfl ?_
  refine n_iload_n (n := 1) (by decide +kernel) rfl ?_
  obtain ⟨⟨e1 | v1, M1⟩, h1, hr⟩ := bso hr
  · (try dsimp only at hr); cases hr; exact n_callVx G [_] (E := X3 e1) (M1 := M1) (B_X9_needStone G hp0 h1) (by decide) mX9_needStone ml_RX9_175 hp0 (by decide +kernel) rfl rfl (Nat.le_of_ble_eq_true rfl) (by decide +kernel) (fun z hz => nomatch hz)
  try dsimp only at hr
  refine n_callVv G [_] (M1 := M1) (B_X9_needStone G hp0 h1) (by decide) mX9_needStone ml_RX9_175 hp0 (by decide +kernel) rfl rfl (Nat.le_of_ble_eq_true rfl) (by decide +kernel) ?_
  refine n_aload_n (n := 0) (by decide +kernel) rfl ?_
  refine n_iload_n (n := 2) (by decide +kernel) rfl ?_
  refine n_if_lt (off := 12) (tgt := 19) (by decide +kernel) (by decide) (fun hc2 => ?_) (fun hc2 => ?_)
  · rw [if_pos hc2] at hr
    exact B_X9_stone_j19 G hp0 hp0 hr
  · rw [if_neg hc2] at hr
    refine n_iload_n (n := 2) (by decide +kernel) rfl ?_
    refine n_iconst (n := 4) (v := 4) (by decide +kernel) rfl ?_
    refine n_icmp_gt (off := 7) (tgt := 19) (by decide +kernel) (by decide) (fun hc20 => ?_) (fun hc20 => ?_)
    · rw [if_pos hc20] at hr
      exact B_X9_stone_j19 G hp0 hp0 hr
    · rw [if_neg hc20] at hr
      refine n_iconst (n := 1) (v := 1) (by decide +kernel) rfl ?_
      refine n_goto (off := 4) (tgt := 20) (by decide +kernel) (by decide) ?_
      exact B_X9_stone_j20 G hp0 hp0 hr
set_option maxRecDepth 100000 in
theorem B_X9_needCell_j30 (G : GG l s0 b L xs D cy ad)  {M : Mm} {r : ((Nat ⊕ Unit) × Mm)} (hp0 : P 0) (hr : f_X9_needCell_j30  M = some r) : Rn l s0 D cy ad P 9 KX9_needCell 30 [.ref 0, .null, .null] [] M (rsV r.1) (r.2) := by
  unfold f_X9_needCell_j30 at hr
  refine n_aload_n (n := 0) (by decide +kernel) rfl ?_
  refine n_dup rfl (by decide +kernel) ?_
  refine n_getI G fl_RX9_347 hp0 (by decide +kernel) (by decide +kernel) ?_
  refine n_iconst (n := 1) (v := 1) (by decide +kernel) rfl ?_
  refine n_iadd (by decide +kernel) ?_
  refine n_putI G fl_RX9_347 hp0 (by decide +kernel) (by decide +kernel) ?_
  cases hr
  exact thr_X9_needCell G (by decide)
set_option maxRecDepth 100000 in
theorem B_X9_needCell (G : GG l s0 b L xs D cy ad)  {x1 : Int32} {x2 : Int32} {M : Mm} {r : ((Nat ⊕ Unit) × Mm)} (hp0 : P 0) (hr : f_X9_needCell x1 x2 M = some r) : Cl l s0 D cy ad P 9 KX9_needCell [.ref 0, .int x1, .int x2] M (rsV r.1) (r.2) := by
  refine cl_ofN (by decide +kernel) rfl rfl okRV (lo0 := [_, _, _]) rfl ?_
  unfold f_X9_needCell at hr
  refine n_iload_n (n := 1) (by decide +kernel) rfl ?_
  refine n_if_lt (off := 29) (tgt := 30) (by decide +kernel) (by decide) (fun hc1 => ?_) (fun hc1 => ?_)
  · rw [if_pos hc1] at hr
    refine n_msk [true, false, false] (lo2 := [_, .null, .null]) rfl rfl ?_
    exact B_X9_needCell_j30 G hp0 hr
  · rw [if_neg hc1] at hr
    refine n_iload_n (n := 2) (by decide +kernel) rfl ?_
    refine n_if_lt (off := 25) (tgt := 30) (by decide +kernel) (by decide) (fun hc2 => ?_) (fun hc2 => ?_)
    · rw [if_pos hc2] at hr
      refine n_msk [true, false, false] (lo2 := [_, .null, .null]) rfl rfl ?_
      exact B_X9_needCell_j30 G hp0 hr
    · rw [if_neg hc2] at hr
      refine n_iload_n (n := 1) (by decide +kernel) rfl ?_
      refine n_aload_n (n := 0) (by decide +kernel) rfl ?_
      refine n_getD (t := 3) G fl_RX9_47 hp0 (by decide +kernel) (by decide +kernel) (by decide +kernel) (fun hp3q hs3q => ?_)
      refine n_getI G fl_RX9_162 hp3q hs3q (by decide +kernel) ?_
      refine n_icmp_ge (off := 14) (tgt := 30) (by decide +kernel) (by decide) (fun hc4 => ?_) (fun hc4 => ?_)
      · rw [if_pos hc4] at hr
        refine n_msk [true, false, false] (lo2 := [_, .null, .null]) rfl rfl ?_
        exact B_X9_needCell_j30 G hp0 hr
      · rw [if_neg hc4] at hr
        refine n_iload_n (n := 2) (by decide +kernel) rfl ?_
        refine n_aload_n (n := 0) (by decide +kernel) rfl ?_
        refine n_getD (t := 3) G fl_RX9_47 hp0 (by decide +kernel) (by decide +kernel) (by decide +kernel) (fun hp5q hs5q => ?_)
        refine n_getI G fl_RX9_165 hp5q hs5q (by decide +kernel) ?_
        refine n_icmp_lt (off := 24) (tgt := 51) (by decide +kernel) (by decide) (fun hc6 => ?_) (fun hc6 => ?_)
        · rw [if_pos hc6] at hr
          cases hr
          exact n_return (by decide +kernel)
        · rw [if_neg hc6] at hr
          refine n_msk [true, false, false] (lo2 := [_, .null, .null]) rfl rfl ?_
          exact B_X9_needCell_j30 G hp0 hr
set_option maxRecDepth 100000 in
theorem B_X9_cell_j21 (G : GG l s0 b L xs D cy ad) {x1 : Int32} {x2 : Int32} {x3 : Int32} {xs1 : Int32} {M : Mm} {r : ((Nat ⊕ Int32) × Mm)} (hp0 : P 0) (hp90 : P 0) (hr : f_X9_cell_j21 x1 x2 x3 xs1 M = some r) : Rn l s0 D cy ad P 13 KX9_cell 21 [.ref 0, .int x1, .int x2, .int x3, .null] [.int xs1, .ref 0] M (rsI r.1) (r.2) := by
  unfold f_X9_cell_j21 at hr
  obtain ⟨⟨e3 | v3, M3⟩, h3, hr⟩ := bso hr
  · (try dsimp only at hr); cases hr; exact n_callVx G [_] (E := X3 e3) (M1 := M3) (B_X9_needArgument G hp90 h3) (by decide) mX9_needArgument ml_RX9_111 hp90 (by decide +kernel) rfl rfl (Nat.le_of_ble_eq_true rfl) (by decide +kernel) (fun z hz => nomatch hz)
  try dsimp only at hr
  refine n_callVv G [_] (M1 := M3) (B_X9_needArgument G hp90 h3) (by decide) mX9_needArgument ml_RX9_111 hp90 (by decide +kernel) rfl rfl (Nat.le_of_ble_eq_true rfl) (by decide +kernel) ?_
  refine n_iload_n (n := 1) (by decide +kernel) rfl ?_
  refine n_iload_n (n := 2) (by decide +kernel) rfl ?_
  obtain ⟨v4, h4, hr⟩ := bso hr
  refine n_callSi G [_, _] (x := v4) (B_X9_cellAt G  h4) (by decide) mX9_cellAt ml_RX9_200 rfl rfl (Nat.le_of_ble_eq_true rfl) (by decide +kernel) ?_
  refine n_istore (n := 4) (lo2 := [_, _, _, _, _]) (by decide +kernel) (Nat.le_of_ble_eq_true rfl) rfl ?_
  refine n_iload_n (n := 3) (by decide +kernel) rfl ?_
  by_cases hc5 : x3 = 0
  · rw [if_pos hc5] at hr
    refine n_tabIn (dflt := 80) (lw := 0) (hi := 3) (offs := #[32, 42, 52, 62]) (len := 32) (off := 32) (tgt := 64) (by decide +kernel) (by rw [hc5]; decide) (by rw [hc5]; decide) (by rw [hc5]; decide) (by decide) ?_
    refine n_aload_n (n := 0) (by decide +kernel) rfl ?_
    refine n_getD (t := 3) G fl_RX9_47 hp0 (by decide +kernel) (by decide +kernel) (by decide +kernel) (fun hp6q hs6q => ?_)
    refine n_iload (n := 4) (by decide +kernel) rfl ?_
    obtain ⟨v7, h7, hr⟩ := bso hr
    refine n_callVi G [_] (x := v7) (B_X3_soilOf G hp6q hs6q h7) (by decide) mX3_soilOf ml_RX9_204 hp6q hs6q rfl rfl (Nat.le_of_ble_eq_true rfl) (by decide +kernel) ?_
    cases hr
    exact n_ireturn (by decide +kernel)
  rw [if_neg hc5] at hr
  by_cases hc8 : x3 = 1
  · rw [if_pos hc8] at hr
    refine n_tabIn (dflt := 80) (lw := 0) (hi := 3) (offs := #[32, 42, 52, 62]) (len := 32) (off := 42) (tgt := 74) (by decide +kernel) (by rw [hc8]; decide) (by rw [hc8]; decide) (by rw [hc8]; decide) (by decide) ?_
    refine n_aload_n (n := 0) (by decide +kernel) rfl ?_
    refine n_getD (t := 8) G fl_RX9_57 hp0 (by decide +kernel) (by decide +kernel) (by decide +kernel) (fun hp9q hs9q => ?_)
    refine n_iload (n := 4) (by decide +kernel) rfl ?_
    obtain ⟨v10, h10, hr⟩ := bso hr
    refine n_callVi G [_] (x := v10) (B_X8_lyingIn G hp9q hs9q h10) (by decide) mX8_lyingIn ml_RX9_207 hp9q hs9q rfl rfl (Nat.le_of_ble_eq_true rfl) (by decide +kernel) ?_
    cases hr
    exact n_ireturn (by decide +kernel)
  rw [if_neg hc8] at hr
  by_cases hc11 : x3 = 2
  · rw [if_pos hc11] at hr
    refine n_tabIn (dflt := 80) (lw := 0) (hi := 3) (offs := #[32, 42, 52, 62]) (len := 32) (off := 52) (tgt := 84) (by decide +kernel) (by rw [hc11]; decide) (by rw [hc11]; decide) (by rw [hc11]; decide) (by decide) ?_
    refine n_aload_n (n := 0) (by decide +kernel) rfl ?_
    refine n_getD (t := 8) G fl_RX9_57 hp0 (by decide +kernel) (by decide +kernel) (by decide +kernel) (fun hp12q hs12q => ?_)
    refine n_iload (n := 4) (by decide +kernel) rfl ?_
    obtain ⟨v13, h13, hr⟩ := bso hr
    refine n_callVi G [_] (x := v13) (B_X8_sizesIn G hp12q hs12q h13) (by decide) mX8_sizesIn ml_RX9_210 hp12q hs12q rfl rfl (Nat.le_of_ble_eq_true rfl) (by decide +kernel) ?_
    cases hr
    exact n_ireturn (by decide +kernel)
  rw [if_neg hc11] at hr
  by_cases hc14 : x3 = 3
  · rw [if_pos hc14] at hr
    refine n_tabIn (dflt := 80) (lw := 0) (hi := 3) (offs := #[32, 42, 52, 62]) (len := 32) (off := 62) (tgt := 94) (by decide +kernel) (by rw [hc14]; decide) (by rw [hc14]; decide) (by rw [hc14]; decide) (by decide) ?_
    refine n_aload_n (n := 0) (by decide +kernel) rfl ?_
    refine n_getD (t := 8) G fl_RX9_57 hp0 (by decide +kernel) (by decide +kernel) (by decide +kernel) (fun hp15q hs15q => ?_)
    refine n_iload (n := 4) (by decide +kernel) rfl ?_
    obtain ⟨v16, h16, hr⟩ := bso hr
    refine n_callVi G [_] (x := v16) (B_X8_isLost G hp15q hs15q h16) (by decide) mX8_isLost ml_RX9_213 hp15q hs15q rfl rfl (Nat.le_of_ble_eq_true rfl) (by decide +kernel) ?_
    refine n_dia1 (J := 111) (c := v16 = 0) (a := (0 : Int32)) (b := (1 : Int32)) (fun hJ => ?_) ?_
    · refine n_if_eq (off := 7) (tgt := 110) (by decide +kernel) (by decide) (fun hc17 => ?_) (fun hc17 => ?_)
      · refine n_iconst (n := 0) (v := 0) (by decide +kernel) rfl ?_
        exact hJ _ (if_pos hc17).symm
      · refine n_iconst (n := 1) (v := 1) (by decide +kernel) rfl ?_
        refine n_goto (off := 4) (tgt := 111) (by decide +kernel) (by decide) ?_
        exact hJ _ (if_neg hc17).symm
    cases hr
    exact n_ireturn (by decide +kernel)
  rw [if_neg hc14] at hr
  have e5 := ne_toInt hc5 (n := 0) rfl
  have e8 := ne_toInt hc8 (n := 1) rfl
  have e11 := ne_toInt hc11 (n := 2) rfl
  have e14 := ne_toInt hc14 (n := 3) rfl
  refine n_tabOut (dflt := 80) (lw := 0) (hi := 3) (offs := #[32, 42, 52, 62]) (len := 32) (tgt := 112) (by decide +kernel) (by omega) (by decide) ?_
  refine n_aload_n (n := 0) (by decide +kernel) rfl ?_
  refine n_getD (t := 8) G fl_RX9_57 hp0 (by decide +kernel) (by decide +kernel) (by decide +kernel) (fun hp18q hs18q => ?_)
  refine n_iload (n := 4) (by decide +kernel) rfl ?_
  obtain ⟨v19, h19, hr⟩ := bso hr
  refine n_callVi G [_] (x := v19) (B_X8_heapedIn G hp18q hs18q h19) (by decide) mX8_heapedIn ml_RX9_217 hp18q hs18q rfl rfl (Nat.le_of_ble_eq_true rfl) (by decide +kernel) ?_
  cases hr
  exact n_ireturn (by decide +kernel)
set_option maxRecDepth 100000 in
theorem B_X9_cell_j20 (G : GG l s0 b L xs D cy ad) {x1 : Int32} {x2 : Int32} {x3 : Int32} {M : Mm} {r : ((Nat ⊕ Int32) × Mm)} (hp0 : P 0) (hp90 : P 0) (hr : f_X9_cell_j20 x1 x2 x3 M = some r) : Rn l s0 D cy ad P 13 KX9_cell 20 [.ref 0, .int x1, .int x2, .int x3, .null] [.ref 0] M (rsI r.1) (r.2) := by
  unfold f_X9_cell_j20 at hr
  refine n_iconst (n := 0) (v := 0) (by decide +kernel) rfl ?_
  exact B_X9_cell_j21 G hp0 hp90 hr
set_option maxRecDepth 100000 in
theorem B_X9_cell (G : GG l s0 b L xs D cy ad)  {x1 : Int32} {x2 : Int32} {x3 : Int32} {M : Mm} {r : ((Nat ⊕ Int32) × Mm)} (hp0 : P 0) (hr : f_X9_cell x1 x2 x3 M = some r) : Cl l s0 D cy ad P 13 KX9_cell [.ref 0, .int x1, .int x2, .int x3] M (rsI r.1) (r.2) := by
  refine cl_ofN (by decide +kernel) rfl rfl okRI (lo0 := [_, _, _, _, .null]) rfl ?_
  unfold f_X9_cell at hr
  refine n_aload_n (n := 0) (by decide +kernel) rfl ?_
  refine n_iload_n (n := 1) (by decide +kernel) rfl ?_
  refine n_iload_n (n := 2) (by decide +kernel) rfl ?_
  obtain ⟨⟨e1 | v1, M1⟩, h1, hr⟩ := bso hr
  · (try dsimp only at hr); cases hr; exact n_callVx G [_, _] (E := X3 e1) (M1 := M1) (B_X9_needCell G hp0 h1) (by decide) mX9_needCell ml_RX9_197 hp0 (by decide +kernel) rfl rfl (Nat.le_of_ble_eq_true rfl) (by decide +kernel) (fun z hz => nomatch hz)
  try dsimp only at hr
  refine n_callVv G [_, _] (M1 := M1) (B_X9_needCell G hp0 h1) (by decide) mX9_needCell ml_RX9_197 hp0 (by decide +kernel) rfl rfl (Nat.le_of_ble_eq_true rfl) (by decide +kernel) ?_
  refine n_aload_n (n := 0) (by decide +kernel) rfl ?_
  refine n_iload_n (n := 3) (by decide +kernel) rfl ?_
  refine n_if_lt (off := 12) (tgt := 20) (by decide +kernel) (by decide) (fun hc2 => ?_) (fun hc2 => ?_)
  · rw [if_pos hc2] at hr
    exact B_X9_cell_j20 G hp0 hp0 hr
  · rw [if_neg hc2] at hr
    refine n_iload_n (n := 3) (by decide +kernel) rfl ?_
    refine n_iconst (n := 4) (v := 4) (by decide +kernel) rfl ?_
    refine n_icmp_gt (off := 7) (tgt := 20) (by decide +kernel) (by decide) (fun hc20 => ?_) (fun hc20 => ?_)
    · rw [if_pos hc20] at hr
      exact B_X9_cell_j20 G hp0 hp0 hr
    · rw [if_neg hc20] at hr
      refine n_iconst (n := 1) (v := 1) (by decide +kernel) rfl ?_
      refine n_goto (off := 4) (tgt := 21) (by decide +kernel) (by decide) ?_
      exact B_X9_cell_j21 G hp0 hp0 hr
set_option maxRecDepth 100000 in
theorem B_X9_sledge_j15 (G : GG l s0 b L xs D cy ad) {x1 : Int32} {xs1 : Int32} {M : Mm} {r : ((Nat ⊕ Int32) × Mm)} (hp0 : P 0) (hp90 : P 0) (hr : f_X9_sledge_j15 x1 xs1 M = some r) : Rn l s0 D cy ad P 10 KX9_sledge 15 [.ref 0, .int x1] [.int xs1, .ref 0] M (rsI r.1) (r.2) := by
  unfold f_X9_sledge_j15 at hr
  obtain ⟨⟨e2 | v2, M2⟩, h2, hr⟩ := bso hr
  · (try dsimp only at hr); cases hr; exact n_callVx G [_] (E := X3 e2) (M1 := M2) (B_X9_needArgument G hp90 h2) (by decide) mX9_needArgument ml_RX9_111 hp90 (by decide +kernel) rfl rfl (Nat.le_of_ble_eq_true rfl) (by decide +kernel) (fun z hz => nomatch hz)
  try dsimp only at hr
  refine n_callVv G [_] (M1 := M2) (B_X9_needArgument G hp90 h2) (by decide) mX9_needArgument ml_RX9_111 hp90 (by decide +kernel) rfl rfl (Nat.le_of_ble_eq_true rfl) (by decide +kernel) ?_
  refine n_iload_n (n := 1) (by decide +kernel) rfl ?_
  by_cases hc3 : x1 = 0
  · rw [if_pos hc3] at hr
    refine n_look (dflt := 47) (ps := #[(0, 25), (1, 36)]) (len := 25) (off := 25) (tgt := 44) (by decide +kernel) (by decide) (by rw [hc3]; decide) (by decide) ?_
    refine n_aload_n (n := 0) (by decide +kernel) rfl ?_
    refine n_getD (t := 8) G fl_RX9_57 hp0 (by decide +kernel) (by decide +kernel) (by decide +kernel) (fun hp4q hs4q => ?_)
    refine n_getI G fl_RX9_220 hp4q hs4q (by decide +kernel) ?_
    obtain ⟨v5, h5, hr⟩ := bso hr
    refine n_callSi G [_] (x := v5) (B_X9_column G  h5) (by decide) mX9_column ml_RX9_182 rfl rfl (Nat.le_of_ble_eq_true rfl) (by decide +kernel) ?_
    cases hr
    exact n_ireturn (by decide +kernel)
  rw [if_neg hc3] at hr
  by_cases hc6 : x1 = 1
  · rw [if_pos hc6] at hr
    refine n_look (dflt := 47) (ps := #[(0, 25), (1, 36)]) (len := 25) (off := 36) (tgt := 55) (by decide +kernel) (by decide) (by rw [hc6]; decide) (by decide) ?_
    refine n_aload_n (n := 0) (by decide +kernel) rfl ?_
    refine n_getD (t := 8) G fl_RX9_57 hp0 (by decide +kernel) (by decide +kernel) (by decide +kernel) (fun hp7q hs7q => ?_)
    refine n_getI G fl_RX9_220 hp7q hs7q (by decide +kernel) ?_
    obtain ⟨v8, h8, hr⟩ := bso hr
    refine n_callSi G [_] (x := v8) (B_X9_row G  h8) (by decide) mX9_row ml_RX9_185 rfl rfl (Nat.le_of_ble_eq_true rfl) (by decide +kernel) ?_
    cases hr
    exact n_ireturn (by decide +kernel)
  rw [if_neg hc6] at hr
  have e3 := ne_toInt hc3 (n := 0) rfl
  have e6 := ne_toInt hc6 (n := 1) rfl
  refine n_look (dflt := 47) (ps := #[(0, 25), (1, 36)]) (len := 25) (off := 47) (tgt := 66) (by decide +kernel) (by decide) (by simp [Op.lookupswitch.offset, e3, e6, Ne.symm e3, Ne.symm e6]) (by decide) ?_
  refine n_aload_n (n := 0) (by decide +kernel) rfl ?_
  refine n_getD (t := 8) G fl_RX9_57 hp0 (by decide +kernel) (by decide +kernel) (by decide +kernel) (fun hp9q hs9q => ?_)
  refine n_getI G fl_RX9_223 hp9q hs9q (by decide +kernel) ?_
  cases hr
  exact n_ireturn (by decide +kernel)
set_option maxRecDepth 100000 in
theorem B_X9_sledge_j14 (G : GG l s0 b L xs D cy ad) {x1 : Int32} {M : Mm} {r : ((Nat ⊕ Int32) × Mm)} (hp0 : P 0) (hp90 : P 0) (hr : f_X9_sledge_j14 x1 M = some r) : Rn l s0 D cy ad P 10 KX9_sledge 14 [.ref 0, .int x1] [.ref 0] M (rsI r.1) (r.2) := by
  unfold f_X9_sledge_j14 at hr
  refine n_iconst (n := 0) (v := 0) (by decide +kernel) rfl ?_
  exact B_X9_sledge_j15 G hp0 hp90 hr
set_option maxRecDepth 100000 in
theorem B_X9_sledge (G : GG l s0 b L xs D cy ad)  {x1 : Int32} {M : Mm} {r : ((Nat ⊕ Int32) × Mm)} (hp0 : P 0) (hr : f_X9_sledge x1 M = some r) : Cl l s0 D cy ad P 10 KX9_sledge [.ref 0, .int x1] M (rsI r.1) (r.2) := by
  refine cl_ofN (by decide +kernel) rfl rfl okRI (lo0 := [_, _]) rfl ?_
  unfold f_X9_sledge at hr
  refine n_aload_n (n := 0) (by decide +kernel) rfl ?_
  refine n_iload_n (n := 1) (by decide +kernel) rfl ?_
  refine n_if_lt (off := 12) (tgt := 14) (by decide +kernel) (by decide) (fun hc1 => ?_) (fun hc1 => ?_)
  · rw [if_pos hc1] at hr
    exact B_X9_sledge_j14 G hp0 hp0 hr
  · rw [if_neg hc1] at hr
    refine n_iload_n (n := 1) (by decide +kernel) rfl ?_
    refine n_iconst (n := 2) (v := 2) (by decide +kernel) rfl ?_
    refine n_icmp_gt (off := 7) (tgt := 14) (by decide +kernel) (by decide) (fun hc10 => ?_) (fun hc10 => ?_)
    · rw [if_pos hc10] at hr
      exact B_X9_sledge_j14 G hp0 hp0 hr
    · rw [if_neg hc10] at hr
      refine n_iconst (n := 1) (v := 1) (by decide +kernel) rfl ?_
      refine n_goto (off := 4) (tgt := 15) (by decide +kernel) (by decide) ?_
      exact B_X9_sledge_j15 G hp0 hp0 hr
set_option maxRecDepth 100000 in
theorem B_X9_sums_j15 (G : GG l s0 b L xs D cy ad) {x1 : Int32} {xs1 : Int32} {M : Mm} {r : ((Nat ⊕ Int32) × Mm)} (hp0 : P 0) (hp90 : P 0) (hr : f_X9_sums_j15 x1 xs1 M = some r) : Rn l s0 D cy ad P 10 KX9_sums 15 [.ref 0, .int x1] [.int xs1, .ref 0] M (rsI r.1) (r.2) := by
  unfold f_X9_sums_j15 at hr
  obtain ⟨⟨e2 | v2, M2⟩, h2, hr⟩ := bso hr
  · (try dsimp only at hr); cases hr; exact n_callVx G [_] (E := X3 e2) (M1 := M2) (B_X9_needArgument G hp90 h2) (by decide) mX9_needArgument ml_RX9_111 hp90 (by decide +kernel) rfl rfl (Nat.le_of_ble_eq_true rfl) (by decide +kernel) (fun z hz => nomatch hz)
  try dsimp only at hr
  refine n_callVv G [_] (M1 := M2) (B_X9_needArgument G hp90 h2) (by decide) mX9_needArgument ml_RX9_111 hp90 (by decide +kernel) rfl rfl (Nat.le_of_ble_eq_true rfl) (by decide +kernel) ?_
  refine n_iload_n (n := 1) (by decide +kernel) rfl ?_
  by_cases hc3 : x1 = 0
  · rw [if_pos hc3] at hr
    refine n_tabIn (dflt := 49) (lw := 0) (hi := 2) (offs := #[25, 33, 41]) (len := 25) (off := 25) (tgt := 44) (by decide +kernel) (by rw [hc3]; decide) (by rw [hc3]; decide) (by rw [hc3]; decide) (by decide) ?_
    refine n_aload_n (n := 0) (by decide +kernel) rfl ?_
    refine n_getD (t := 8) G fl_RX9_57 hp0 (by decide +kernel) (by decide +kernel) (by decide +kernel) (fun hp4q hs4q => ?_)
    refine n_getI G fl_RX9_226 hp4q hs4q (by decide +kernel) ?_
    cases hr
    exact n_ireturn (by decide +kernel)
  rw [if_neg hc3] at hr
  by_cases hc5 : x1 = 1
  · rw [if_pos hc5] at hr
    refine n_tabIn (dflt := 49) (lw := 0) (hi := 2) (offs := #[25, 33, 41]) (len := 25) (off := 33) (tgt := 52) (by decide +kernel) (by rw [hc5]; decide) (by rw [hc5]; decide) (by rw [hc5]; decide) (by decide) ?_
    refine n_aload_n (n := 0) (by decide +kernel) rfl ?_
    refine n_getD (t := 8) G fl_RX9_57 hp0 (by decide +kernel) (by decide +kernel) (by decide +kernel) (fun hp6q hs6q => ?_)
    refine n_getI G fl_RX9_229 hp6q hs6q (by decide +kernel) ?_
    cases hr
    exact n_ireturn (by decide +kernel)
  rw [if_neg hc5] at hr
  by_cases hc7 : x1 = 2
  · rw [if_pos hc7] at hr
    refine n_tabIn (dflt := 49) (lw := 0) (hi := 2) (offs := #[25, 33, 41]) (len := 25) (off := 41) (tgt := 60) (by decide +kernel) (by rw [hc7]; decide) (by rw [hc7]; decide) (by rw [hc7]; decide) (by decide) ?_
    refine n_aload_n (n := 0) (by decide +kernel) rfl ?_
    refine n_getD (t := 8) G fl_RX9_57 hp0 (by decide +kernel) (by decide +kernel) (by decide +kernel) (fun hp8q hs8q => ?_)
    refine n_getI G fl_RX9_232 hp8q hs8q (by decide +kernel) ?_
    cases hr
    exact n_ireturn (by decide +kernel)
  rw [if_neg hc7] at hr
  have e3 := ne_toInt hc3 (n := 0) rfl
  have e5 := ne_toInt hc5 (n := 1) rfl
  have e7 := ne_toInt hc7 (n := 2) rfl
  refine n_tabOut (dflt := 49) (lw := 0) (hi := 2) (offs := #[25, 33, 41]) (len := 25) (tgt := 68) (by decide +kernel) (by omega) (by decide) ?_
  refine n_aload_n (n := 0) (by decide +kernel) rfl ?_
  refine n_getD (t := 8) G fl_RX9_57 hp0 (by decide +kernel) (by decide +kernel) (by decide +kernel) (fun hp9q hs9q => ?_)
  refine n_getI G fl_RX9_235 hp9q hs9q (by decide +kernel) ?_
  cases hr
  exact n_ireturn (by decide +kernel)
set_option maxRecDepth 100000 in
theorem B_X9_sums_j14 (G : GG l s0 b L xs D cy ad) {x1 : Int32} {M : Mm} {r : ((Nat ⊕ Int32) × Mm)} (hp0 : P 0) (hp90 : P 0) (hr : f_X9_sums_j14 x1 M = some r) : Rn l s0 D cy ad P 10 KX9_sums 14 [.ref 0, .int x1] [.ref 0] M (rsI r.1) (r.2) := by
  unfold f_X9_sums_j14 at hr
  refine n_iconst (n := 0) (v := 0) (by decide +kernel) rfl ?_
  exact B_X9_sums_j15 G hp0 hp90 hr
set_option maxRecDepth 100000 in
theorem B_X9_sums (G : GG l s0 b L xs D cy ad)  {x1 : Int32} {M : Mm} {r : ((Nat ⊕ Int32) × Mm)} (hp0 : P 0) (hr : f_X9_sums x1 M = some r) : Cl l s0 D cy ad P 10 KX9_sums [.ref 0, .int x1] M (rsI r.1) (r.2) := by
  refine cl_ofN (by decide +kernel) rfl rfl okRI (lo0 := [_, _]) rfl ?_
  unfold f_X9_sums at hr
  refine n_aload_n (n := 0) (by decide +kernel) rfl ?_
  refine n_iload_n (n := 1) (by decide +kernel) rfl ?_
  refine n_if_lt (off := 12) (tgt := 14) (by decide +kernel) (by decide) (fun hc1 => ?_) (fun hc1 => ?_)
  · rw [if_pos hc1] at hr
    exact B_X9_sums_j14 G hp0 hp0 hr
  · rw [if_neg hc1] at hr
    refine n_iload_n (n := 1) (by decide +kernel) rfl ?_
    refine n_iconst (n := 3) (v := 3) (by decide +kernel) rfl ?_
    refine n_icmp_gt (off := 7) (tgt := 14) (by decide +kernel) (by decide) (fun hc10 => ?_) (fun hc10 => ?_)
    · rw [if_pos hc10] at hr
      exact B_X9_sums_j14 G hp0 hp0 hr
    · rw [if_neg hc10] at hr
      refine n_iconst (n := 1) (v := 1) (by decide +kernel) rfl ?_
      refine n_goto (off := 4) (tgt := 15) (by decide +kernel) (by decide) ?_
      exact B_X9_sums_j15 G hp0 hp0 hr
set_option maxRecDepth 100000 in
theorem B_X9_damage_j23 (G : GG l s0 b L xs D cy ad) {x1 : Int32} {x2 : Int32} {x3 : Int32} {xs1 : Int32} {M : Mm} {r : ((Nat ⊕ Int32) × Mm)} (hp0 : P 0) (hp90 : P 0) (hr : f_X9_damage_j23 x1 x2 x3 xs1 M = some r) : Rn l s0 D cy ad P 12 KX9_damage 23 [.ref 0, .int x1, .int x2, .int x3] [.int xs1, .ref 0] M (rsI r.1) (r.2) := by
  unfold f_X9_damage_j23 at hr
  obtain ⟨⟨e3 | v3, M3⟩, h3, hr⟩ := bso hr
  · (try dsimp only at hr); cases hr; exact n_callVx G [_] (E := X3 e3) (M1 := M3) (B_X9_needArgument G hp90 h3) (by decide) mX9_needArgument ml_RX9_111 hp90 (by decide +kernel) rfl rfl (Nat.le_of_ble_eq_true rfl) (by decide +kernel) (fun z hz => nomatch hz)
  try dsimp only at hr
  refine n_callVv G [_] (M1 := M3) (B_X9_needArgument G hp90 h3) (by decide) mX9_needArgument ml_RX9_111 hp90 (by decide +kernel) rfl rfl (Nat.le_of_ble_eq_true rfl) (by decide +kernel) ?_
  refine n_aload_n (n := 0) (by decide +kernel) rfl ?_
  refine n_getD (t := 8) G fl_RX9_57 hp0 (by decide +kernel) (by decide +kernel) (by decide +kernel) (fun hp4q hs4q => ?_)
  refine n_aload_n (n := 0) (by decide +kernel) rfl ?_
  refine n_getD (t := 3) G fl_RX9_47 hp0 (by decide +kernel) (by decide +kernel) (by decide +kernel) (fun hp5q hs5q => ?_)
  refine n_iload_n (n := 1) (by decide +kernel) rfl ?_
  refine n_iload_n (n := 2) (by decide +kernel) rfl ?_
  obtain ⟨v6, h6, hr⟩ := bso hr
  refine n_callSi G [_, _] (x := v6) (B_X9_cellAt G  h6) (by decide) mX9_cellAt ml_RX9_200 rfl rfl (Nat.le_of_ble_eq_true rfl) (by decide +kernel) ?_
  refine n_iload_n (n := 3) (by decide +kernel) rfl ?_
  obtain ⟨⟨v7, M7⟩, h7, hr⟩ := bso hr
  try dsimp only at hr
  refine n_callVi G [_, _, _] (x := v7) (M1 := M7) (B_X8_harmOf G hp4q hs4q hp5q hs5q h7) (by decide) mX8_harmOf ml_RX9_238 hp4q hs4q rfl rfl (Nat.le_of_ble_eq_true rfl) (by decide +kernel) ?_
  cases hr
  exact n_ireturn (by decide +kernel)
set_option maxRecDepth 100000 in
theorem B_X9_damage_j22 (G : GG l s0 b L xs D cy ad) {x1 : Int32} {x2 : Int32} {x3 : Int32} {M : Mm} {r : ((Nat ⊕ Int32) × Mm)} (hp0 : P 0) (hp90 : P 0) (hr : f_X9_damage_j22 x1 x2 x3 M = some r) : Rn l s0 D cy ad P 12 KX9_damage 22 [.ref 0, .int x1, .int x2, .int x3] [.ref 0] M (rsI r.1) (r.2) := by
  unfold f_X9_damage_j22 at hr
  refine n_iconst (n := 0) (v := 0) (by decide +kernel) rfl ?_
  exact B_X9_damage_j23 G hp0 hp90 hr
set_option maxRecDepth 100000 in
theorem B_X9_damage (G : GG l s0 b L xs D cy ad)  {x1 : Int32} {x2 : Int32} {x3 : Int32} {M : Mm} {r : ((Nat ⊕ Int32) × Mm)} (hp0 : P 0) (hr : f_X9_damage x1 x2 x3 M = some r) : Cl l s0 D cy ad P 12 KX9_damage [.ref 0, .int x1, .int x2, .int x3] M (rsI r.1) (r.2) := by
  refine cl_ofN (by decide +kernel) rfl rfl okRI (lo0 := [_, _, _, _]) rfl ?_
  unfold f_X9_damage at hr
  refine n_aload_n (n := 0) (by decide +kernel) rfl ?_
  refine n_iload_n (n := 1) (by decide +kernel) rfl ?_
  refine n_iload_n (n := 2) (by decide +kernel) rfl ?_
  obtain ⟨⟨e1 | v1, M1⟩, h1, hr⟩ := bso hr
  · (try dsimp only at hr); cases hr; exact n_callVx G [_, _] (E := X3 e1) (M1 := M1) (B_X9_needCell G hp0 h1) (by decide) mX9_needCell ml_RX9_197 hp0 (by decide +kernel) rfl rfl (Nat.le_of_ble_eq_true rfl) (by decide +kernel) (fun z hz => nomatch hz)
  try dsimp only at hr
  refine n_callVv G [_, _] (M1 := M1) (B_X9_needCell G hp0 h1) (by decide) mX9_needCell ml_RX9_197 hp0 (by decide +kernel) rfl rfl (Nat.le_of_ble_eq_true rfl) (by decide +kernel) ?_
  refine n_aload_n (n := 0) (by decide +kernel) rfl ?_
  refine n_iload_n (n := 3) (by decide +kernel) rfl ?_
  refine n_iconst (n := 1) (v := 1) (by decide +kernel) rfl ?_
  refine n_icmp_lt (off := 13) (tgt := 22) (by decide +kernel) (by decide) (fun hc2 => ?_) (fun hc2 => ?_)
  · rw [if_pos hc2] at hr
    exact B_X9_damage_j22 G hp0 hp0 hr
  · rw [if_neg hc2] at hr
    refine n_iload_n (n := 3) (by decide +kernel) rfl ?_
    refine n_bipush (n := 9) (v := 9) (by decide +kernel) rfl ?_
    refine n_icmp_gt (off := 7) (tgt := 22) (by decide +kernel) (by decide) (fun hc8 => ?_) (fun hc8 => ?_)
    · rw [if_pos hc8] at hr
      exact B_X9_damage_j22 G hp0 hp0 hr
    · rw [if_neg hc8] at hr
      refine n_iconst (n := 1) (v := 1) (by decide +kernel) rfl ?_
      refine n_goto (off := 4) (tgt := 23) (by decide +kernel) (by decide) ?_
      exact B_X9_damage_j23 G hp0 hp0 hr
set_option maxRecDepth 100000 in
theorem B_X9_rises (G : GG l s0 b L xs D cy ad)  {x1 : Int32} {x2 : Int32} {M : Mm} {r : ((Nat ⊕ Int32) × Mm)} (hp0 : P 0) (hr : f_X9_rises x1 x2 M = some r) : Cl l s0 D cy ad P 12 KX9_rises [.ref 0, .int x1, .int x2] M (rsI r.1) (r.2) := by
  refine cl_ofN (by decide +kernel) rfl rfl okRI (lo0 := [_, _, _]) rfl ?_
  unfold f_X9_rises at hr
  refine n_aload_n (n := 0) (by decide +kernel) rfl ?_
  refine n_iload_n (n := 1) (by decide +kernel) rfl ?_
  refine n_iload_n (n := 2) (by decide +kernel) rfl ?_
  obtain ⟨⟨e1 | v1, M1⟩, h1, hr⟩ := bso hr
  · (try dsimp only at hr); cases hr; exact n_callVx G [_, _] (E := X3 e1) (M1 := M1) (B_X9_needCell G hp0 h1) (by decide) mX9_needCell ml_RX9_197 hp0 (by decide +kernel) rfl rfl (Nat.le_of_ble_eq_true rfl) (by decide +kernel) (fun z hz => nomatch hz)
  try dsimp only at hr
  refine n_callVv G [_, _] (M1 := M1) (B_X9_needCell G hp0 h1) (by decide) mX9_needCell ml_RX9_197 hp0 (by decide +kernel) rfl rfl (Nat.le_of_ble_eq_true rfl) (by decide +kernel) ?_
  refine n_aload_n (n := 0) (by decide +kernel) rfl ?_
  refine n_getD (t := 8) G fl_RX9_57 hp0 (by decide +kernel) (by decide +kernel) (by decide +kernel) (fun hp2q hs2q => ?_)
  refine n_aload_n (n := 0) (by decide +kernel) rfl ?_
  refine n_getD (t := 3) G fl_RX9_47 hp0 (by decide +kernel) (by decide +kernel) (by decide +kernel) (fun hp3q hs3q => ?_)
  refine n_iload_n (n := 1) (by decide +kernel) rfl ?_
  refine n_iload_n (n := 2) (by decide +kernel) rfl ?_
  obtain ⟨v4, h4, hr⟩ := bso hr
  refine n_callSi G [_, _] (x := v4) (B_X9_cellAt G  h4) (by decide) mX9_cellAt ml_RX9_200 rfl rfl (Nat.le_of_ble_eq_true rfl) (by decide +kernel) ?_
  refine n_aload_n (n := 0) (by decide +kernel) rfl ?_
  refine n_getD (t := 8) G fl_RX9_57 hp0 (by decide +kernel) (by decide +kernel) (by decide +kernel) (fun hp5q hs5q => ?_)
  refine n_getI G fl_RX9_168 hp5q hs5q (by decide +kernel) ?_
  refine n_iconst (n := 1) (v := 1) (by decide +kernel) rfl ?_
  refine n_iadd (by decide +kernel) ?_
  refine n_aload_n (n := 0) (by decide +kernel) rfl ?_
  refine n_getD (t := 8) G fl_RX9_57 hp0 (by decide +kernel) (by decide +kernel) (by decide +kernel) (fun hp6q hs6q => ?_)
  refine n_getI G fl_RX9_242 hp6q hs6q (by decide +kernel) ?_
  obtain ⟨⟨v7, M7⟩, h7, hr⟩ := bso hr
  try dsimp only at hr
  refine n_callVi G [_, _, _, _] (x := v7) (M1 := M7) (B_X8_risingIn G hp2q hs2q hp3q hs3q h7) (by decide) mX8_risingIn ml_RX9_245 hp2q hs2q rfl rfl (Nat.le_of_ble_eq_true rfl) (by decide +kernel) ?_
  cases hr
  exact n_ireturn (by decide +kernel)
set_option maxRecDepth 100000 in
theorem B_X9_clear (G : GG l s0 b L xs D cy ad)  {x1 : Int32} {M : Mm} {r : ((Nat ⊕ Int32) × Mm)} (hp0 : P 0) (hr : f_X9_clear x1 M = some r) : Cl l s0 D cy ad P 12 KX9_clear [.ref 0, .int x1] M (rsI r.1) (r.2) := by
  refine cl_ofN (by decide +kernel) rfl rfl okRI (lo0 := [_, _]) rfl ?_
  unfold f_X9_clear at hr
  refine n_aload_n (n := 0) (by decide +kernel) rfl ?_
  refine n_iload_n (n := 1) (by decide +kernel) rfl ?_
  obtain ⟨⟨e1 | v1, M1⟩, h1, hr⟩ := bso hr
  · (try dsimp only at hr); cases hr; exact n_callVx G [_] (E := X3 e1) (M1 := M1) (B_X9_needStone G hp0 h1) (by decide) mX9_needStone ml_RX9_175 hp0 (by decide +kernel) rfl rfl (Nat.le_of_ble_eq_true rfl) (by decide +kernel) (fun z hz => nomatch hz)
  try dsimp only at hr
  refine n_callVv G [_] (M1 := M1) (B_X9_needStone G hp0 h1) (by decide) mX9_needStone ml_RX9_175 hp0 (by decide +kernel) rfl rfl (Nat.le_of_ble_eq_true rfl) (by decide +kernel) ?_
  refine n_aload_n (n := 0) (by decide +kernel) rfl ?_
  refine n_getD (t := 8) G fl_RX9_57 hp0 (by decide +kernel) (by decide +kernel) (by decide +kernel) (fun hp2q hs2q => ?_)
  refine n_iload_n (n := 1) (by decide +kernel) rfl ?_
  obtain ⟨v3, h3, hr⟩ := bso hr
  refine n_callVi G [_] (x := v3) (B_X8_placeOf G hp2q hs2q h3) (by decide) mX8_placeOf ml_RX9_194 hp2q hs2q rfl rfl (Nat.le_of_ble_eq_true rfl) (by decide +kernel) ?_
  refine n_if_ne (off := 18) (tgt := 31) (by decide +kernel) (by decide) (fun hc4 => ?_) (fun hc4 => ?_)
  · rw [if_neg hc4] at hr
    refine n_iconst (n := 0) (v := 0) (by decide +kernel) rfl ?_
    cases hr
    exact n_ireturn (by decide +kernel)
  · rw [if_pos hc4] at hr
    refine n_aload_n (n := 0) (by decide +kernel) rfl ?_
    refine n_getD (t := 8) G fl_RX9_57 hp0 (by decide +kernel) (by decide +kernel) (by decide +kernel) (fun hp5q hs5q => ?_)
    refine n_aload_n (n := 0) (by decide +kernel) rfl ?_
    refine n_getD (t := 3) G fl_RX9_47 hp0 (by decide +kernel) (by decide +kernel) (by decide +kernel) (fun hp6q hs6q => ?_)
    refine n_iload_n (n := 1) (by decide +kernel) rfl ?_
    obtain ⟨v7, h7, hr⟩ := bso hr
    refine n_callVi G [_, _] (x := v7) (B_X8_clearingOf G hp5q hs5q hp6q hs6q h7) (by decide) mX8_clearingOf ml_RX9_249 hp5q hs5q rfl rfl (Nat.le_of_ble_eq_true rfl) (by decide +kernel) ?_
    refine n_goto (off := 4) (tgt := 32) (by decide +kernel) (by decide) ?_
    cases hr
    exact n_ireturn (by decide +kernel)
set_option maxRecDepth 100000 in
theorem B_X9_stops_j30 (G : GG l s0 b L xs D cy ad) {x1 : Int32} {x2 : Int32} {xs1 : Int32} {M : Mm} {r : ((Nat ⊕ Int32) × Mm)} (hp0 : P 0) (hp90 : P 0) (hr : f_X9_stops_j30 x1 x2 xs1 M = some r) : Rn l s0 D cy ad P 14 KX9_stops 30 [.ref 0, .int x1, .int x2] [.int xs1, .ref 0] M (rsI r.1) (r.2) := by
  unfold f_X9_stops_j30 at hr
  obtain ⟨⟨e2 | v2, M2⟩, h2, hr⟩ := bso hr
  · (try dsimp only at hr); cases hr; exact n_callVx G [_] (E := X3 e2) (M1 := M2) (B_X9_needArgument G hp90 h2) (by decide) mX9_needArgument ml_RX9_111 hp90 (by decide +kernel) rfl rfl (Nat.le_of_ble_eq_true rfl) (by decide +kernel) (fun z hz => nomatch hz)
  try dsimp only at hr
  refine n_callVv G [_] (M1 := M2) (B_X9_needArgument G hp90 h2) (by decide) mX9_needArgument ml_RX9_111 hp90 (by decide +kernel) rfl rfl (Nat.le_of_ble_eq_true rfl) (by decide +kernel) ?_
  refine n_aload_n (n := 0) (by decide +kernel) rfl ?_
  refine n_getF (q := 12) G fl_RX9_33 hp0 (by decide +kernel) (by decide +kernel) (by decide +kernel) (fun hp3q => ?_)
  refine n_aload_n (n := 0) (by decide +kernel) rfl ?_
  refine n_getD (t := 3) G fl_RX9_47 hp0 (by decide +kernel) (by decide +kernel) (by decide +kernel) (fun hp4q hs4q => ?_)
  refine n_aload_n (n := 0) (by decide +kernel) rfl ?_
  refine n_getD (t := 8) G fl_RX9_57 hp0 (by decide +kernel) (by decide +kernel) (by decide +kernel) (fun hp5q hs5q => ?_)
  refine n_iload_n (n := 1) (by decide +kernel) rfl ?_
  obtain ⟨M6, h6, hr⟩ := bso hr
  refine n_callVv G [_, _, _] (M1 := M6) (B_X0_planStops G hp3q hp4q hs4q hp5q hs5q h6) (by decide) mX0_planStops ml_RX9_253 hp3q (by decide +kernel) rfl rfl (Nat.le_of_ble_eq_true rfl) (by decide +kernel) ?_
  refine n_aload_n (n := 0) (by decide +kernel) rfl ?_
  refine n_getF (q := 12) G fl_RX9_33 hp0 (by decide +kernel) (by decide +kernel) (by decide +kernel) (fun hp7q => ?_)
  refine n_iload_n (n := 2) (by decide +kernel) rfl ?_
  obtain ⟨v8, h8, hr⟩ := bso hr
  refine n_callVl G [_] (x := v8) (B_X0_answerTo G hp7q h8) (by decide) mX0_answerTo ml_RX9_257 hp7q (by decide +kernel) rfl rfl (Nat.le_of_ble_eq_true rfl) (by decide +kernel) ?_
  refine n_l2i (by decide +kernel) ?_
  cases hr
  exact n_ireturn (by decide +kernel)
set_option maxRecDepth 100000 in
theorem B_X9_stops_j29 (G : GG l s0 b L xs D cy ad) {x1 : Int32} {x2 : Int32} {M : Mm} {r : ((Nat ⊕ Int32) × Mm)} (hp0 : P 0) (hp90 : P 0) (hr : f_X9_stops_j29 x1 x2 M = some r) : Rn l s0 D cy ad P 14 KX9_stops 29 [.ref 0, .int x1, .int x2] [.ref 0] M (rsI r.1) (r.2) := by
  unfold f_X9_stops_j29 at hr
  refine n_iconst (n := 0) (v := 0) (by decide +kernel) rfl ?_
  exact B_X9_stops_j30 G hp0 hp90 hr
set_option maxRecDepth 100000 in
theorem B_X9_stops (G : GG l s0 b L xs D cy ad)  {x1 : Int32} {x2 : Int32} {M : Mm} {r : ((Nat ⊕ Int32) × Mm)} (hp0 : P 0) (hr : f_X9_stops x1 x2 M = some r) : Cl l s0 D cy ad P 14 KX9_stops [.ref 0, .int x1, .int x2] M (rsI r.1) (r.2) := by
  refine cl_ofN (by decide +kernel) rfl rfl okRI (lo0 := [_, _, _]) rfl ?_
  unfold f_X9_stops at hr
  refine n_aload_n (n := 0) (by decide +kernel) rfl ?_
  refine n_iload_n (n := 1) (by decide +kernel) rfl ?_
  refine n_if_lt (off := 27) (tgt := 29) (by decide +kernel) (by decide) (fun hc1 => ?_) (fun hc1 => ?_)
  · rw [if_pos hc1] at hr
    exact B_X9_stops_j29 G hp0 hp0 hr
  · rw [if_neg hc1] at hr
    refine n_iload_n (n := 1) (by decide +kernel) rfl ?_
    refine n_aload_n (n := 0) (by decide +kernel) rfl ?_
    refine n_getD (t := 3) G fl_RX9_47 hp0 (by decide +kernel) (by decide +kernel) (by decide +kernel) (fun hp9q hs9q => ?_)
    refine n_getI G fl_RX9_165 hp9q hs9q (by decide +kernel) ?_
    refine n_icmp_ge (off := 16) (tgt := 29) (by decide +kernel) (by decide) (fun hc10 => ?_) (fun hc10 => ?_)
    · rw [if_pos hc10] at hr
      exact B_X9_stops_j29 G hp0 hp0 hr
    · rw [if_neg hc10] at hr
      refine n_iload_n (n := 2) (by decide +kernel) rfl ?_
      refine n_if_lt (off := 12) (tgt := 29) (by decide +kernel) (by decide) (fun hc11 => ?_) (fun hc11 => ?_)
      · rw [if_pos hc11] at hr
        exact B_X9_stops_j29 G hp0 hp0 hr
      · rw [if_neg hc11] at hr
        refine n_iload_n (n := 2) (by decide +kernel) rfl ?_
        refine n_iconst (n := 2) (v := 2) (by decide +kernel) rfl ?_
        refine n_icmp_gt (off := 7) (tgt := 29) (by decide +kernel) (by decide) (fun hc12 => ?_) (fun hc12 => ?_)
        · rw [if_pos hc12] at hr
          exact B_X9_stops_j29 G hp0 hp0 hr
        · rw [if_neg hc12] at hr
          refine n_iconst (n := 1) (v := 1) (by decide +kernel) rfl ?_
          refine n_goto (off := 4) (tgt := 30) (by decide +kernel) (by decide) ?_
          exact B_X9_stops_j30 G hp0 hp0 hr
set_option maxRecDepth 100000 in
theorem B_X9_way_j15 (G : GG l s0 b L xs D cy ad) {x1 : Int32} {xs1 : Int32} {M : Mm} {r : ((Nat ⊕ Int64) × Mm)} (hp0 : P 0) (hp90 : P 0) (hr : f_X9_way_j15 x1 xs1 M = some r) : Rn l s0 D cy ad P 14 KX9_way 15 [.ref 0, .int x1] [.int xs1, .ref 0] M (rsL r.1) (r.2) := by
  unfold f_X9_way_j15 at hr
  obtain ⟨⟨e2 | v2, M2⟩, h2, hr⟩ := bso hr
  · (try dsimp only at hr); cases hr; exact n_callVx G [_] (E := X3 e2) (M1 := M2) (B_X9_needArgument G hp90 h2) (by decide) mX9_needArgument ml_RX9_111 hp90 (by decide +kernel) rfl rfl (Nat.le_of_ble_eq_true rfl) (by decide +kernel) (fun z hz => nomatch hz)
  try dsimp only at hr
  refine n_callVv G [_] (M1 := M2) (B_X9_needArgument G hp90 h2) (by decide) mX9_needArgument ml_RX9_111 hp90 (by decide +kernel) rfl rfl (Nat.le_of_ble_eq_true rfl) (by decide +kernel) ?_
  refine n_aload_n (n := 0) (by decide +kernel) rfl ?_
  refine n_getF (q := 12) G fl_RX9_33 hp0 (by decide +kernel) (by decide +kernel) (by decide +kernel) (fun hp3q => ?_)
  refine n_aload_n (n := 0) (by decide +kernel) rfl ?_
  refine n_getD (t := 3) G fl_RX9_47 hp0 (by decide +kernel) (by decide +kernel) (by decide +kernel) (fun hp4q hs4q => ?_)
  refine n_aload_n (n := 0) (by decide +kernel) rfl ?_
  refine n_getD (t := 8) G fl_RX9_57 hp0 (by decide +kernel) (by decide +kernel) (by decide +kernel) (fun hp5q hs5q => ?_)
  obtain ⟨M6, h6, hr⟩ := bso hr
  refine n_callVv G [_, _] (M1 := M6) (B_X0_planWay G hp3q hp4q hs4q hp5q hs5q h6) (by decide) mX0_planWay ml_RX9_261 hp3q (by decide +kernel) rfl rfl (Nat.le_of_ble_eq_true rfl) (by decide +kernel) ?_
  refine n_aload_n (n := 0) (by decide +kernel) rfl ?_
  refine n_getF (q := 12) G fl_RX9_33 hp0 (by decide +kernel) (by decide +kernel) (by decide +kernel) (fun hp7q => ?_)
  refine n_iload_n (n := 1) (by decide +kernel) rfl ?_
  obtain ⟨v8, h8, hr⟩ := bso hr
  refine n_callVl G [_] (x := v8) (B_X0_answerTo G hp7q h8) (by decide) mX0_answerTo ml_RX9_257 hp7q (by decide +kernel) rfl rfl (Nat.le_of_ble_eq_true rfl) (by decide +kernel) ?_
  cases hr
  exact n_lreturn (by decide +kernel)
set_option maxRecDepth 100000 in
theorem B_X9_way_j10 (G : GG l s0 b L xs D cy ad) {x1 : Int32} {M : Mm} {r : ((Nat ⊕ Int64) × Mm)} (hp0 : P 0) (hp90 : P 0) (hr : f_X9_way_j10 x1 M = some r) : Rn l s0 D cy ad P 14 KX9_way 10 [.ref 0, .int x1] [.ref 0] M (rsL r.1) (r.2) := by
  unfold f_X9_way_j10 at hr
  refine n_iconst (n := 1) (v := 1) (by decide +kernel) rfl ?_
  refine n_goto (off := 4) (tgt := 15) (by decide +kernel) (by decide) ?_
  exact B_X9_way_j15 G hp0 hp90 hr
set_option maxRecDepth 100000 in
theorem B_X9_way (G : GG l s0 b L xs D cy ad)  {x1 : Int32} {M : Mm} {r : ((Nat ⊕ Int64) × Mm)} (hp0 : P 0) (hr : f_X9_way x1 M = some r) : Cl l s0 D cy ad P 14 KX9_way [.ref 0, .int x1] M (rsL r.1) (r.2) := by
  refine cl_ofN (by decide +kernel) rfl rfl okRL (lo0 := [_, _]) rfl ?_
  unfold f_X9_way at hr
  refine n_aload_n (n := 0) (by decide +kernel) rfl ?_
  refine n_iload_n (n := 1) (by decide +kernel) rfl ?_
  refine n_if_eq (off := 8) (tgt := 10) (by decide +kernel) (by decide) (fun hc1 => ?_) (fun hc1 => ?_)
  · rw [if_pos hc1] at hr
    exact B_X9_way_j10 G hp0 hp0 hr
  · rw [if_neg hc1] at hr
    refine n_iload_n (n := 1) (by decide +kernel) rfl ?_
    refine n_iconst (n := 1) (v := 1) (by decide +kernel) rfl ?_
    refine n_icmp_ne (off := 7) (tgt := 14) (by decide +kernel) (by decide) (fun hc9 => ?_) (fun hc9 => ?_)
    · rw [if_neg hc9] at hr
      refine n_iconst (n := 0) (v := 0) (by decide +kernel) rfl ?_
      exact B_X9_way_j15 G hp0 hp0 hr
    · rw [if_pos hc9] at hr
      exact B_X9_way_j10 G hp0 hp0 hr
set_option maxRecDepth 100000 in
theorem B_X9_heaps_j25 (G : GG l s0 b L xs D cy ad) {x1 : Int32} {x2 : Int32} {xs1 : Int32} {M : Mm} {r : ((Nat ⊕ Int32) × Mm)} (hp0 : P 0) (hp90 : P 0) (hr : f_X9_heaps_j25 x1 x2 xs1 M = some r) : Rn l s0 D cy ad P 14 KX9_heaps 25 [.ref 0, .int x1, .int x2] [.int xs1, .ref 0] M (rsI r.1) (r.2) := by
  unfold f_X9_heaps_j25 at hr
  obtain ⟨⟨e2 | v2, M2⟩, h2, hr⟩ := bso hr
  · (try dsimp only at hr); cases hr; exact n_callVx G [_] (E := X3 e2) (M1 := M2) (B_X9_needArgument G hp90 h2) (by decide) mX9_needArgument ml_RX9_111 hp90 (by decide +kernel) rfl rfl (Nat.le_of_ble_eq_true rfl) (by decide +kernel) (fun z hz => nomatch hz)
  try dsimp only at hr
  refine n_callVv G [_] (M1 := M2) (B_X9_needArgument G hp90 h2) (by decide) mX9_needArgument ml_RX9_111 hp90 (by decide +kernel) rfl rfl (Nat.le_of_ble_eq_true rfl) (by decide +kernel) ?_
  refine n_aload_n (n := 0) (by decide +kernel) rfl ?_
  refine n_getF (q := 12) G fl_RX9_33 hp0 (by decide +kernel) (by decide +kernel) (by decide +kernel) (fun hp3q => ?_)
  refine n_aload_n (n := 0) (by decide +kernel) rfl ?_
  refine n_getD (t := 3) G fl_RX9_47 hp0 (by decide +kernel) (by decide +kernel) (by decide +kernel) (fun hp4q hs4q => ?_)
  refine n_aload_n (n := 0) (by decide +kernel) rfl ?_
  refine n_getD (t := 8) G fl_RX9_57 hp0 (by decide +kernel) (by decide +kernel) (by decide +kernel) (fun hp5q hs5q => ?_)
  refine n_iload_n (n := 1) (by decide +kernel) rfl ?_
  obtain ⟨M6, h6, hr⟩ := bso hr
  refine n_callVv G [_, _, _] (M1 := M6) (B_X0_planHeaps G hp3q hp4q hs4q hp5q hs5q h6) (by decide) mX0_planHeaps ml_RX9_264 hp3q (by decide +kernel) rfl rfl (Nat.le_of_ble_eq_true rfl) (by decide +kernel) ?_
  refine n_aload_n (n := 0) (by decide +kernel) rfl ?_
  refine n_getF (q := 12) G fl_RX9_33 hp0 (by decide +kernel) (by decide +kernel) (by decide +kernel) (fun hp7q => ?_)
  refine n_iload_n (n := 2) (by decide +kernel) rfl ?_
  obtain ⟨v8, h8, hr⟩ := bso hr
  refine n_callVl G [_] (x := v8) (B_X0_answerTo G hp7q h8) (by decide) mX0_answerTo ml_RX9_257 hp7q (by decide +kernel) rfl rfl (Nat.le_of_ble_eq_true rfl) (by decide +kernel) ?_
  refine n_l2i (by decide +kernel) ?_
  cases hr
  exact n_ireturn (by decide +kernel)
set_option maxRecDepth 100000 in
theorem B_X9_heaps_j24 (G : GG l s0 b L xs D cy ad) {x1 : Int32} {x2 : Int32} {M : Mm} {r : ((Nat ⊕ Int32) × Mm)} (hp0 : P 0) (hp90 : P 0) (hr : f_X9_heaps_j24 x1 x2 M = some r) : Rn l s0 D cy ad P 14 KX9_heaps 24 [.ref 0, .int x1, .int x2] [.ref 0] M (rsI r.1) (r.2) := by
  unfold f_X9_heaps_j24 at hr
  refine n_iconst (n := 0) (v := 0) (by decide +kernel) rfl ?_
  exact B_X9_heaps_j25 G hp0 hp90 hr
set_option maxRecDepth 100000 in
theorem B_X9_heaps_j20 (G : GG l s0 b L xs D cy ad) {x1 : Int32} {x2 : Int32} {M : Mm} {r : ((Nat ⊕ Int32) × Mm)} (hp0 : P 0) (hp90 : P 0) (hr : f_X9_heaps_j20 x1 x2 M = some r) : Rn l s0 D cy ad P 14 KX9_heaps 20 [.ref 0, .int x1, .int x2] [.ref 0] M (rsI r.1) (r.2) := by
  unfold f_X9_heaps_j20 at hr
  refine n_iconst (n := 1) (v := 1) (by decide +kernel) rfl ?_
  refine n_goto (off := 4) (tgt := 25) (by decide +kernel) (by decide) ?_
  exact B_X9_heaps_j25 G hp0 hp90 hr
set_option maxRecDepth 100000 in
theorem B_X9_heaps (G : GG l s0 b L xs D cy ad)  {x1 : Int32} {x2 : Int32} {M : Mm} {r : ((Nat ⊕ Int32) × Mm)} (hp0 : P 0) (hr : f_X9_heaps x1 x2 M = some r) : Cl l s0 D cy ad P 14 KX9_heaps [.ref 0, .int x1, .int x2] M (rsI r.1) (r.2) := by
  refine cl_ofN (by decide +kernel) rfl rfl okRI (lo0 := [_, _, _]) rfl ?_
  unfold f_X9_heaps at hr
  refine n_aload_n (n := 0) (by decide +kernel) rfl ?_
  refine n_iload_n (n := 1) (by decide +kernel) rfl ?_
  refine n_if_lt (off := 22) (tgt := 24) (by decide +kernel) (by decide) (fun hc1 => ?_) (fun hc1 => ?_)
  · rw [if_pos hc1] at hr
    exact B_X9_heaps_j24 G hp0 hp0 hr
  · rw [if_neg hc1] at hr
    refine n_iload_n (n := 1) (by decide +kernel) rfl ?_
    refine n_bipush (n := 60) (v := 60) (by decide +kernel) rfl ?_
    refine n_icmp_gt (off := 16) (tgt := 24) (by decide +kernel) (by decide) (fun hc9 => ?_) (fun hc9 => ?_)
    · rw [if_pos hc9] at hr
      exact B_X9_heaps_j24 G hp0 hp0 hr
    · rw [if_neg hc9] at hr
      refine n_iload_n (n := 2) (by decide +kernel) rfl ?_
      refine n_if_eq (off := 8) (tgt := 20) (by decide +kernel) (by decide) (fun hc10 => ?_) (fun hc10 => ?_)
      · rw [if_pos hc10] at hr
        exact B_X9_heaps_j20 G hp0 hp0 hr
      · rw [if_neg hc10] at hr
        refine n_iload_n (n := 2) (by decide +kernel) rfl ?_
        refine n_iconst (n := 1) (v := 1) (by decide +kernel) rfl ?_
        refine n_icmp_ne (off := 7) (tgt := 24) (by decide +kernel) (by decide) (fun hc11 => ?_) (fun hc11 => ?_)
        · rw [if_neg hc11] at hr
          exact B_X9_heaps_j24 G hp0 hp0 hr
        · rw [if_pos hc11] at hr
          exact B_X9_heaps_j20 G hp0 hp0 hr
set_option maxRecDepth 100000 in
theorem B_X9_line_j25 (G : GG l s0 b L xs D cy ad) {x1 : Int32} {x2 : Int32} {xs1 : Int32} {M : Mm} {r : ((Nat ⊕ Int32) × Mm)} (hp0 : P 0) (hp90 : P 0) (hr : f_X9_line_j25 x1 x2 xs1 M = some r) : Rn l s0 D cy ad P 14 KX9_line 25 [.ref 0, .int x1, .int x2] [.int xs1, .ref 0] M (rsI r.1) (r.2) := by
  unfold f_X9_line_j25 at hr
  obtain ⟨⟨e2 | v2, M2⟩, h2, hr⟩ := bso hr
  · (try dsimp only at hr); cases hr; exact n_callVx G [_] (E := X3 e2) (M1 := M2) (B_X9_needArgument G hp90 h2) (by decide) mX9_needArgument ml_RX9_111 hp90 (by decide +kernel) rfl rfl (Nat.le_of_ble_eq_true rfl) (by decide +kernel) (fun z hz => nomatch hz)
  try dsimp only at hr
  refine n_callVv G [_] (M1 := M2) (B_X9_needArgument G hp90 h2) (by decide) mX9_needArgument ml_RX9_111 hp90 (by decide +kernel) rfl rfl (Nat.le_of_ble_eq_true rfl) (by decide +kernel) ?_
  refine n_aload_n (n := 0) (by decide +kernel) rfl ?_
  refine n_getF (q := 12) G fl_RX9_33 hp0 (by decide +kernel) (by decide +kernel) (by decide +kernel) (fun hp3q => ?_)
  refine n_aload_n (n := 0) (by decide +kernel) rfl ?_
  refine n_getD (t := 3) G fl_RX9_47 hp0 (by decide +kernel) (by decide +kernel) (by decide +kernel) (fun hp4q hs4q => ?_)
  refine n_aload_n (n := 0) (by decide +kernel) rfl ?_
  refine n_getD (t := 8) G fl_RX9_57 hp0 (by decide +kernel) (by decide +kernel) (by decide +kernel) (fun hp5q hs5q => ?_)
  refine n_iload_n (n := 1) (by decide +kernel) rfl ?_
  obtain ⟨M6, h6, hr⟩ := bso hr
  refine n_callVv G [_, _, _] (M1 := M6) (B_X0_planLine G hp3q hp4q hs4q hp5q hs5q h6) (by decide) mX0_planLine ml_RX9_267 hp3q (by decide +kernel) rfl rfl (Nat.le_of_ble_eq_true rfl) (by decide +kernel) ?_
  refine n_aload_n (n := 0) (by decide +kernel) rfl ?_
  refine n_getF (q := 12) G fl_RX9_33 hp0 (by decide +kernel) (by decide +kernel) (by decide +kernel) (fun hp7q => ?_)
  refine n_iload_n (n := 2) (by decide +kernel) rfl ?_
  obtain ⟨v8, h8, hr⟩ := bso hr
  refine n_callVl G [_] (x := v8) (B_X0_answerTo G hp7q h8) (by decide) mX0_answerTo ml_RX9_257 hp7q (by decide +kernel) rfl rfl (Nat.le_of_ble_eq_true rfl) (by decide +kernel) ?_
  refine n_l2i (by decide +kernel) ?_
  cases hr
  exact n_ireturn (by decide +kernel)
set_option maxRecDepth 100000 in
theorem B_X9_line_j24 (G : GG l s0 b L xs D cy ad) {x1 : Int32} {x2 : Int32} {M : Mm} {r : ((Nat ⊕ Int32) × Mm)} (hp0 : P 0) (hp90 : P 0) (hr : f_X9_line_j24 x1 x2 M = some r) : Rn l s0 D cy ad P 14 KX9_line 24 [.ref 0, .int x1, .int x2] [.ref 0] M (rsI r.1) (r.2) := by
  unfold f_X9_line_j24 at hr
  refine n_iconst (n := 0) (v := 0) (by decide +kernel) rfl ?_
  exact B_X9_line_j25 G hp0 hp90 hr
set_option maxRecDepth 100000 in
theorem B_X9_line_j20 (G : GG l s0 b L xs D cy ad) {x1 : Int32} {x2 : Int32} {M : Mm} {r : ((Nat ⊕ Int32) × Mm)} (hp0 : P 0) (hp90 : P 0) (hr : f_X9_line_j20 x1 x2 M = some r) : Rn l s0 D cy ad P 14 KX9_line 20 [.ref 0, .int x1, .int x2] [.ref 0] M (rsI r.1) (r.2) := by
  unfold f_X9_line_j20 at hr
  refine n_iconst (n := 1) (v := 1) (by decide +kernel) rfl ?_
  refine n_goto (off := 4) (tgt := 25) (by decide +kernel) (by decide) ?_
  exact B_X9_line_j25 G hp0 hp90 hr
set_option maxRecDepth 100000 in
theorem B_X9_line (G : GG l s0 b L xs D cy ad)  {x1 : Int32} {x2 : Int32} {M : Mm} {r : ((Nat ⊕ Int32) × Mm)} (hp0 : P 0) (hr : f_X9_line x1 x2 M = some r) : Cl l s0 D cy ad P 14 KX9_line [.ref 0, .int x1, .int x2] M (rsI r.1) (r.2) := by
  refine cl_ofN (by decide +kernel) rfl rfl okRI (lo0 := [_, _, _]) rfl ?_
  unfold f_X9_line at hr
  refine n_aload_n (n := 0) (by decide +kernel) rfl ?_
  refine n_iload_n (n := 1) (by decide +kernel) rfl ?_
  refine n_if_lt (off := 22) (tgt := 24) (by decide +kernel) (by decide) (fun hc1 => ?_) (fun hc1 => ?_)
  · rw [if_pos hc1] at hr
    exact B_X9_line_j24 G hp0 hp0 hr
  · rw [if_neg hc1] at hr
    refine n_iload_n (n := 1) (by decide +kernel) rfl ?_
    refine n_bipush (n := 60) (v := 60) (by decide +kernel) rfl ?_
    refine n_icmp_gt (off := 16) (tgt := 24) (by decide +kernel) (by decide) (fun hc9 => ?_) (fun hc9 => ?_)
    · rw [if_pos hc9] at hr
      exact B_X9_line_j24 G hp0 hp0 hr
    · rw [if_neg hc9] at hr
      refine n_iload_n (n := 2) (by decide +kernel) rfl ?_
      refine n_if_eq (off := 8) (tgt := 20) (by decide +kernel) (by decide) (fun hc10 => ?_) (fun hc10 => ?_)
      · rw [if_pos hc10] at hr
        exact B_X9_line_j20 G hp0 hp0 hr
      · rw [if_neg hc10] at hr
        refine n_iload_n (n := 2) (by decide +kernel) rfl ?_
        refine n_iconst (n := 1) (v := 1) (by decide +kernel) rfl ?_
        refine n_icmp_ne (off := 7) (tgt := 24) (by decide +kernel) (by decide) (fun hc11 => ?_) (fun hc11 => ?_)
        · rw [if_neg hc11] at hr
          exact B_X9_line_j24 G hp0 hp0 hr
        · rw [if_pos hc11] at hr
          exact B_X9_line_j20 G hp0 hp0 hr
set_option maxRecDepth 100000 in
theorem B_X9_first_j26 (G : GG l s0 b L xs D cy ad) {x1 : Int32} {x2 : Int32} {xs1 : Int32} {M : Mm} {r : ((Nat ⊕ Int64) × Mm)} (hp0 : P 0) (hp90 : P 0) (hr : f_X9_first_j26 x1 x2 xs1 M = some r) : Rn l s0 D cy ad P 14 KX9_first 26 [.ref 0, .int x1, .int x2] [.int xs1, .ref 0] M (rsL r.1) (r.2) := by
  unfold f_X9_first_j26 at hr
  obtain ⟨⟨e2 | v2, M2⟩, h2, hr⟩ := bso hr
  · (try dsimp only at hr); cases hr; exact n_callVx G [_] (E := X3 e2) (M1 := M2) (B_X9_needArgument G hp90 h2) (by decide) mX9_needArgument ml_RX9_111 hp90 (by decide +kernel) rfl rfl (Nat.le_of_ble_eq_true rfl) (by decide +kernel) (fun z hz => nomatch hz)
  try dsimp only at hr
  refine n_callVv G [_] (M1 := M2) (B_X9_needArgument G hp90 h2) (by decide) mX9_needArgument ml_RX9_111 hp90 (by decide +kernel) rfl rfl (Nat.le_of_ble_eq_true rfl) (by decide +kernel) ?_
  refine n_aload_n (n := 0) (by decide +kernel) rfl ?_
  refine n_getF (q := 12) G fl_RX9_33 hp0 (by decide +kernel) (by decide +kernel) (by decide +kernel) (fun hp3q => ?_)
  refine n_aload_n (n := 0) (by decide +kernel) rfl ?_
  refine n_getD (t := 3) G fl_RX9_47 hp0 (by decide +kernel) (by decide +kernel) (by decide +kernel) (fun hp4q hs4q => ?_)
  refine n_aload_n (n := 0) (by decide +kernel) rfl ?_
  refine n_getD (t := 8) G fl_RX9_57 hp0 (by decide +kernel) (by decide +kernel) (by decide +kernel) (fun hp5q hs5q => ?_)
  refine n_iload_n (n := 1) (by decide +kernel) rfl ?_
  obtain ⟨M6, h6, hr⟩ := bso hr
  refine n_callVv G [_, _, _] (M1 := M6) (B_X0_planFirst G hp3q hp4q hs4q hp5q hs5q h6) (by decide) mX0_planFirst ml_RX9_270 hp3q (by decide +kernel) rfl rfl (Nat.le_of_ble_eq_true rfl) (by decide +kernel) ?_
  refine n_aload_n (n := 0) (by decide +kernel) rfl ?_
  refine n_getF (q := 12) G fl_RX9_33 hp0 (by decide +kernel) (by decide +kernel) (by decide +kernel) (fun hp7q => ?_)
  refine n_iload_n (n := 2) (by decide +kernel) rfl ?_
  obtain ⟨v8, h8, hr⟩ := bso hr
  refine n_callVl G [_] (x := v8) (B_X0_answerTo G hp7q h8) (by decide) mX0_answerTo ml_RX9_257 hp7q (by decide +kernel) rfl rfl (Nat.le_of_ble_eq_true rfl) (by decide +kernel) ?_
  cases hr
  exact n_lreturn (by decide +kernel)
set_option maxRecDepth 100000 in
theorem B_X9_first_j25 (G : GG l s0 b L xs D cy ad) {x1 : Int32} {x2 : Int32} {M : Mm} {r : ((Nat ⊕ Int64) × Mm)} (hp0 : P 0) (hp90 : P 0) (hr : f_X9_first_j25 x1 x2 M = some r) : Rn l s0 D cy ad P 14 KX9_first 25 [.ref 0, .int x1, .int x2] [.ref 0] M (rsL r.1) (r.2) := by
  unfold f_X9_first_j25 at hr
  refine n_iconst (n := 0) (v := 0) (by decide +kernel) rfl ?_
  exact B_X9_first_j26 G hp0 hp90 hr
set_option maxRecDepth 100000 in
theorem B_X9_first (G : GG l s0 b L xs D cy ad)  {x1 : Int32} {x2 : Int32} {M : Mm} {r : ((Nat ⊕ Int64) × Mm)} (hp0 : P 0) (hr : f_X9_first x1 x2 M = some r) : Cl l s0 D cy ad P 14 KX9_first [.ref 0, .int x1, .int x2] M (rsL r.1) (r.2) := by
  refine cl_ofN (by decide +kernel) rfl rfl okRL (lo0 := [_, _, _]) rfl ?_
  unfold f_X9_first at hr
  refine n_aload_n (n := 0) (by decide +kernel) rfl ?_
  refine n_iload_n (n := 1) (by decide +kernel) rfl ?_
  refine n_if_lt (off := 23) (tgt := 25) (by decide +kernel) (by decide) (fun hc1 => ?_) (fun hc1 => ?_)
  · rw [if_pos hc1] at hr
    exact B_X9_first_j25 G hp0 hp0 hr
  · rw [if_neg hc1] at hr
    refine n_iload_n (n := 1) (by decide +kernel) rfl ?_
    refine n_sipush (n := 999) (v := 999) (by decide +kernel) (by decide +kernel) ?_
    refine n_icmp_gt (off := 16) (tgt := 25) (by decide +kernel) (by decide) (fun hc9 => ?_) (fun hc9 => ?_)
    · rw [if_pos hc9] at hr
      exact B_X9_first_j25 G hp0 hp0 hr
    · rw [if_neg hc9] at hr
      refine n_iload_n (n := 2) (by decide +kernel) rfl ?_
      refine n_if_lt (off := 12) (tgt := 25) (by decide +kernel) (by decide) (fun hc10 => ?_) (fun hc10 => ?_)
      · rw [if_pos hc10] at hr
        exact B_X9_first_j25 G hp0 hp0 hr
      · rw [if_neg hc10] at hr
        refine n_iload_n (n := 2) (by decide +kernel) rfl ?_
        refine n_iconst (n := 2) (v := 2) (by decide +kernel) rfl ?_
        refine n_icmp_gt (off := 7) (tgt := 25) (by decide +kernel) (by decide) (fun hc11 => ?_) (fun hc11 => ?_)
        · rw [if_pos hc11] at hr
          exact B_X9_first_j25 G hp0 hp0 hr
        · rw [if_neg hc11] at hr
          refine n_iconst (n := 1) (v := 1) (by decide +kernel) rfl ?_
          refine n_goto (off := 4) (tgt := 26) (by decide +kernel) (by decide) ?_
          exact B_X9_first_j26 G hp0 hp0 hr
set_option maxRecDepth 100000 in
theorem B_X9_mix_j58 (G : GG l s0 b L xs D cy ad) {x1 : Int32} {x2 : Int32} {x3 : Int32} {x4 : Int32} {xs1 : Int32} {M : Mm} {r : ((Nat ⊕ Int32) × Mm)} (hp0 : P 0) (hp90 : P 0) (hr : f_X9_mix_j58 x1 x2 x3 x4 xs1 M = some r) : Rn l s0 D cy ad P 13 KX9_mix 58 [.ref 0, .int x1, .int x2, .int x3, .int x4] [.int xs1, .ref 0] M (rsI r.1) (r.2) := by
  unfold f_X9_mix_j58 at hr
  obtain ⟨⟨e4 | v4, M4⟩, h4, hr⟩ := bso hr
  · (try dsimp only at hr); cases hr; exact n_callVx G [_] (E := X3 e4) (M1 := M4) (B_X9_needArgument G hp90 h4) (by decide) mX9_needArgument ml_RX9_111 hp90 (by decide +kernel) rfl rfl (Nat.le_of_ble_eq_true rfl) (by decide +kernel) (fun z hz => nomatch hz)
  try dsimp only at hr
  refine n_callVv G [_] (M1 := M4) (B_X9_needArgument G hp90 h4) (by decide) mX9_needArgument ml_RX9_111 hp90 (by decide +kernel) rfl rfl (Nat.le_of_ble_eq_true rfl) (by decide +kernel) ?_
  refine n_aload_n (n := 0) (by decide +kernel) rfl ?_
  refine n_getF (q := 12) G fl_RX9_33 hp0 (by decide +kernel) (by decide +kernel) (by decide +kernel) (fun hp5q => ?_)
  refine n_aload_n (n := 0) (by decide +kernel) rfl ?_
  refine n_getD (t := 8) G fl_RX9_57 hp0 (by decide +kernel) (by decide +kernel) (by decide +kernel) (fun hp6q hs6q => ?_)
  refine n_aload_n (n := 0) (by decide +kernel) rfl ?_
  refine n_getD (t := 3) G fl_RX9_47 hp0 (by decide +kernel) (by decide +kernel) (by decide +kernel) (fun hp7q hs7q => ?_)
  refine n_iconst (n := 1) (v := 1) (by decide +kernel) rfl ?_
  obtain ⟨v8, h8, hr⟩ := bso hr
  refine n_callVi G [_, _] (x := v8) (B_X8_clearingOfAll G hp6q hs6q hp7q hs7q h8) (by decide) mX8_clearingOfAll ml_RX9_273 hp6q hs6q rfl rfl (Nat.le_of_ble_eq_true rfl) (by decide +kernel) ?_
  refine n_iload_n (n := 1) (by decide +kernel) rfl ?_
  refine n_iload_n (n := 2) (by decide +kernel) rfl ?_
  refine n_iload_n (n := 3) (by decide +kernel) rfl ?_
  obtain ⟨M9, h9, hr⟩ := bso hr
  refine n_callVv G [_, _, _, _] (M1 := M9) (B_X0_planMix G hp5q h9) (by decide) mX0_planMix ml_RX9_276 hp5q (by decide +kernel) rfl rfl (Nat.le_of_ble_eq_true rfl) (by decide +kernel) ?_
  refine n_aload_n (n := 0) (by decide +kernel) rfl ?_
  refine n_getF (q := 12) G fl_RX9_33 hp0 (by decide +kernel) (by decide +kernel) (by decide +kernel) (fun hp10q => ?_)
  refine n_iload (n := 4) (by decide +kernel) rfl ?_
  obtain ⟨v11, h11, hr⟩ := bso hr
  refine n_callVl G [_] (x := v11) (B_X0_answerTo G hp10q h11) (by decide) mX0_answerTo ml_RX9_257 hp10q (by decide +kernel) rfl rfl (Nat.le_of_ble_eq_true rfl) (by decide +kernel) ?_
  refine n_l2i (by decide +kernel) ?_
  cases hr
  exact n_ireturn (by decide +kernel)
set_option maxRecDepth 100000 in
theorem B_X9_mix_j57 (G : GG l s0 b L xs D cy ad) {x1 : Int32} {x2 : Int32} {x3 : Int32} {x4 : Int32} {M : Mm} {r : ((Nat ⊕ Int32) × Mm)} (hp0 : P 0) (hp90 : P 0) (hr : f_X9_mix_j57 x1 x2 x3 x4 M = some r) : Rn l s0 D cy ad P 13 KX9_mix 57 [.ref 0, .int x1, .int x2, .int x3, .int x4] [.ref 0] M (rsI r.1) (r.2) := by
  unfold f_X9_mix_j57 at hr
  refine n_iconst (n := 0) (v := 0) (by decide +kernel) rfl ?_
  exact B_X9_mix_j58 G hp0 hp90 hr
set_option maxRecDepth 100000 in
theorem B_X9_mix_j29 (G : GG l s0 b L xs D cy ad) {x1 : Int32} {x2 : Int32} {x3 : Int32} {x4 : Int32} {xs1 : Int32} {M : Mm} {r : ((Nat ⊕ Int32) × Mm)} (hp0 : P 0) (hp90 : P 0) (hr : f_X9_mix_j29 x1 x2 x3 x4 xs1 M = some r) : Rn l s0 D cy ad P 13 KX9_mix 29 [.ref 0, .int x1, .int x2, .int x3, .int x4] [.int xs1, .ref 0] M (rsI r.1) (r.2) := by
  unfold f_X9_mix_j29 at hr
  obtain ⟨⟨e2 | v2, M2⟩, h2, hr⟩ := bso hr
  · (try dsimp only at hr); cases hr; exact n_callVx G [_] (E := X3 e2) (M1 := M2) (B_X9_needArgument G hp90 h2) (by decide) mX9_needArgument ml_RX9_111 hp90 (by decide +kernel) rfl rfl (Nat.le_of_ble_eq_true rfl) (by decide +kernel) (fun z hz => nomatch hz)
  try dsimp only at hr
  refine n_callVv G [_] (M1 := M2) (B_X9_needArgument G hp90 h2) (by decide) mX9_needArgument ml_RX9_111 hp90 (by decide +kernel) rfl rfl (Nat.le_of_ble_eq_true rfl) (by decide +kernel) ?_
  refine n_aload_n (n := 0) (by decide +kernel) rfl ?_
  refine n_iload_n (n := 2) (by decide +kernel) rfl ?_
  refine n_if_lt (off := 23) (tgt := 57) (by decide +kernel) (by decide) (fun hc3 => ?_) (fun hc3 => ?_)
  · rw [if_pos hc3] at hr
    exact B_X9_mix_j57 G hp0 hp0 hr
  · rw [if_neg hc3] at hr
    refine n_iload_n (n := 2) (by decide +kernel) rfl ?_
    refine n_bipush (n := 99) (v := 99) (by decide +kernel) rfl ?_
    refine n_icmp_gt (off := 17) (tgt := 57) (by decide +kernel) (by decide) (fun hc12 => ?_) (fun hc12 => ?_)
    · rw [if_pos hc12] at hr
      exact B_X9_mix_j57 G hp0 hp0 hr
    · rw [if_neg hc12] at hr
      refine n_iload_n (n := 3) (by decide +kernel) rfl ?_
      refine n_if_lt (off := 13) (tgt := 57) (by decide +kernel) (by decide) (fun hc13 => ?_) (fun hc13 => ?_)
      · rw [if_pos hc13] at hr
        exact B_X9_mix_j57 G hp0 hp0 hr
      · rw [if_neg hc13] at hr
        refine n_iload_n (n := 3) (by decide +kernel) rfl ?_
        refine n_bipush (n := 99) (v := 99) (by decide +kernel) rfl ?_
        refine n_icmp_gt (off := 7) (tgt := 57) (by decide +kernel) (by decide) (fun hc14 => ?_) (fun hc14 => ?_)
        · rw [if_pos hc14] at hr
          exact B_X9_mix_j57 G hp0 hp0 hr
        · rw [if_neg hc14] at hr
          refine n_iconst (n := 1) (v := 1) (by decide +kernel) rfl ?_
          refine n_goto (off := 4) (tgt := 58) (by decide +kernel) (by decide) ?_
          exact B_X9_mix_j58 G hp0 hp0 hr
set_option maxRecDepth 100000 in
theorem B_X9_mix_j28 (G : GG l s0 b L xs D cy ad) {x1 : Int32} {x2 : Int32} {x3 : Int32} {x4 : Int32} {M : Mm} {r : ((Nat ⊕ Int32) × Mm)} (hp0 : P 0) (hp90 : P 0) (hr : f_X9_mix_j28 x1 x2 x3 x4 M = some r) : Rn l s0 D cy ad P 13 KX9_mix 28 [.ref 0, .int x1, .int x2, .int x3, .int x4] [.ref 0] M (rsI r.1) (r.2) := by
  unfold f_X9_mix_j28 at hr
  refine n_iconst (n := 0) (v := 0) (by decide +kernel) rfl ?_
  exact B_X9_mix_j29 G hp0 hp90 hr
set_option maxRecDepth 100000 in
theorem B_X9_mix (G : GG l s0 b L xs D cy ad)  {x1 : Int32} {x2 : Int32} {x3 : Int32} {x4 : Int32} {M : Mm} {r : ((Nat ⊕ Int32) × Mm)} (hp0 : P 0) (hr : f_X9_mix x1 x2 x3 x4 M = some r) : Cl l s0 D cy ad P 13 KX9_mix [.ref 0, .int x1, .int x2, .int x3, .int x4] M (rsI r.1) (r.2) := by
  refine cl_ofN (by decide +kernel) rfl rfl okRI (lo0 := [_, _, _, _, _]) rfl ?_
  unfold f_X9_mix at hr
  refine n_aload_n (n := 0) (by decide +kernel) rfl ?_
  refine n_iload_n (n := 1) (by decide +kernel) rfl ?_
  refine n_iconst (n := 1) (v := 1) (by decide +kernel) rfl ?_
  refine n_icmp_lt (off := 25) (tgt := 28) (by decide +kernel) (by decide) (fun hc1 => ?_) (fun hc1 => ?_)
  · rw [if_pos hc1] at hr
    exact B_X9_mix_j28 G hp0 hp0 hr
  · rw [if_neg hc1] at hr
    refine n_iload_n (n := 1) (by decide +kernel) rfl ?_
    refine n_sipush (n := 9999) (v := 9999) (by decide +kernel) (by decide +kernel) ?_
    refine n_icmp_gt (off := 18) (tgt := 28) (by decide +kernel) (by decide) (fun hc15 => ?_) (fun hc15 => ?_)
    · rw [if_pos hc15] at hr
      exact B_X9_mix_j28 G hp0 hp0 hr
    · rw [if_neg hc15] at hr
      refine n_iload (n := 4) (by decide +kernel) rfl ?_
      refine n_if_lt (off := 13) (tgt := 28) (by decide +kernel) (by decide) (fun hc16 => ?_) (fun hc16 => ?_)
      · rw [if_pos hc16] at hr
        exact B_X9_mix_j28 G hp0 hp0 hr
      · rw [if_neg hc16] at hr
        refine n_iload (n := 4) (by decide +kernel) rfl ?_
        refine n_iconst (n := 2) (v := 2) (by decide +kernel) rfl ?_
        refine n_icmp_gt (off := 7) (tgt := 28) (by decide +kernel) (by decide) (fun hc17 => ?_) (fun hc17 => ?_)
        · rw [if_pos hc17] at hr
          exact B_X9_mix_j28 G hp0 hp0 hr
        · rw [if_neg hc17] at hr
          refine n_iconst (n := 1) (v := 1) (by decide +kernel) rfl ?_
          refine n_goto (off := 4) (tgt := 29) (by decide +kernel) (by decide) ?_
          exact B_X9_mix_j29 G hp0 hp0 hr
set_option maxRecDepth 100000 in
theorem B_X9_isLimit (G : GG l s0 b L xs D cy ad)  {x0 : Int32} {M : Mm} {r : Int32}  (hr : f_X9_isLimit x0 M = some r) : Cl l s0 D cy ad P 9 KX9_isLimit [.int x0] M (.inl (some (.int r))) (M) := by
  unfold f_X9_isLimit at hr
  obtain ⟨v0, h0, h1⟩ := bso hr
  clear hr
  obtain ⟨hb, rfl⟩ := rB_in h1
  have hr := h0
  clear h0
  refine cl_ofN (by decide +kernel) rfl rfl (okB hb) (lo0 := [_]) rfl ?_
  unfold g_X9_isLimit at hr
  refine n_iload_n (n := 0) (by decide +kernel) rfl ?_
  refine n_if_lt (off := 13) (tgt := 14) (by decide +kernel) (by decide) (fun hc1 => ?_) (fun hc1 => ?_)
  · rw [if_pos hc1] at hr
    refine n_iconst (n := 0) (v := 0) (by decide +kernel) rfl ?_
    cases hr
    exact n_ireturn (by decide +kernel)
  · rw [if_neg hc1] at hr
    refine n_iload_n (n := 0) (by decide +kernel) rfl ?_
    refine n_bipush (n := 60) (v := 60) (by decide +kernel) rfl ?_
    refine n_icmp_gt (off := 7) (tgt := 14) (by decide +kernel) (by decide) (fun hc2 => ?_) (fun hc2 => ?_)
    · rw [if_pos hc2] at hr
      refine n_iconst (n := 0) (v := 0) (by decide +kernel) rfl ?_
      cases hr
      exact n_ireturn (by decide +kernel)
    · rw [if_neg hc2] at hr
      refine n_iconst (n := 1) (v := 1) (by decide +kernel) rfl ?_
      refine n_goto (off := 4) (tgt := 15) (by decide +kernel) (by decide) ?_
      cases hr
      exact n_ireturn (by decide +kernel)
set_option maxRecDepth 100000 in
theorem B_X9_enough_j24 (G : GG l s0 b L xs D cy ad) {x1 : Int32} {x2 : Int32} {xs1 : Int32} {M : Mm} {r : ((Nat ⊕ Int32) × Mm)} (hp0 : P 0) (hp90 : P 0) (hr : f_X9_enough_j24 x1 x2 xs1 M = some r) : Rn l s0 D cy ad P 15 KX9_enough 24 [.ref 0, .int x1, .int x2] [.int xs1, .ref 0] M (rsI r.1) (r.2) := by
  unfold f_X9_enough_j24 at hr
  obtain ⟨⟨e2 | v2, M2⟩, h2, hr⟩ := bso hr
  · (try dsimp only at hr); cases hr; exact n_callVx G [_] (E := X3 e2) (M1 := M2) (B_X9_needArgument G hp90 h2) (by decide) mX9_needArgument ml_RX9_111 hp90 (by decide +kernel) rfl rfl (Nat.le_of_ble_eq_true rfl) (by decide +kernel) (fun z hz => nomatch hz)
  try dsimp only at hr
  refine n_callVv G [_] (M1 := M2) (B_X9_needArgument G hp90 h2) (by decide) mX9_needArgument ml_RX9_111 hp90 (by decide +kernel) rfl rfl (Nat.le_of_ble_eq_true rfl) (by decide +kernel) ?_
  refine n_aload_n (n := 0) (by decide +kernel) rfl ?_
  refine n_getF (q := 18) G fl_RX9_40 hp0 (by decide +kernel) (by decide +kernel) (by decide +kernel) (fun hp3q => ?_)
  refine n_aload_n (n := 0) (by decide +kernel) rfl ?_
  refine n_getD (t := 3) G fl_RX9_47 hp0 (by decide +kernel) (by decide +kernel) (by decide +kernel) (fun hp4q hs4q => ?_)
  refine n_aload_n (n := 0) (by decide +kernel) rfl ?_
  refine n_getD (t := 8) G fl_RX9_57 hp0 (by decide +kernel) (by decide +kernel) (by decide +kernel) (fun hp5q hs5q => ?_)
  refine n_iload_n (n := 1) (by decide +kernel) rfl ?_
  refine n_iload_n (n := 2) (by decide +kernel) rfl ?_
  obtain ⟨⟨v6, M6⟩, h6, hr⟩ := bso hr
  try dsimp only at hr
  refine n_callVi G [_, _, _, _] (x := v6) (M1 := M6) (B_X2_yearOfEnough G hp3q hp4q hs4q hp5q hs5q h6) (by decide) mX2_yearOfEnough ml_RX9_283 hp3q (by decide +kernel) rfl rfl (Nat.le_of_ble_eq_true rfl) (by decide +kernel) ?_
  cases hr
  exact n_ireturn (by decide +kernel)
set_option maxRecDepth 100000 in
theorem B_X9_enough_j23 (G : GG l s0 b L xs D cy ad) {x1 : Int32} {x2 : Int32} {M : Mm} {r : ((Nat ⊕ Int32) × Mm)} (hp0 : P 0) (hp90 : P 0) (hr : f_X9_enough_j23 x1 x2 M = some r) : Rn l s0 D cy ad P 15 KX9_enough 23 [.ref 0, .int x1, .int x2] [.ref 0] M (rsI r.1) (r.2) := by
  unfold f_X9_enough_j23 at hr
  refine n_iconst (n := 0) (v := 0) (by decide +kernel) rfl ?_
  exact B_X9_enough_j24 G hp0 hp90 hr
set_option maxRecDepth 100000 in
theorem B_X9_enough (G : GG l s0 b L xs D cy ad)  {x1 : Int32} {x2 : Int32} {M : Mm} {r : ((Nat ⊕ Int32) × Mm)} (hp0 : P 0) (hr : f_X9_enough x1 x2 M = some r) : Cl l s0 D cy ad P 15 KX9_enough [.ref 0, .int x1, .int x2] M (rsI r.1) (r.2) := by
  refine cl_ofN (by decide +kernel) rfl rfl okRI (lo0 := [_, _, _]) rfl ?_
  unfold f_X9_enough at hr
  refine n_aload_n (n := 0) (by decide +kernel) rfl ?_
  refine n_iload_n (n := 1) (by decide +kernel) rfl ?_
  refine n_if_lt (off := 21) (tgt := 23) (by decide +kernel) (by decide) (fun hc1 => ?_) (fun hc1 => ?_)
  · rw [if_pos hc1] at hr
    exact B_X9_enough_j23 G hp0 hp0 hr
  · rw [if_neg hc1] at hr
    refine n_iload_n (n := 1) (by decide +kernel) rfl ?_
    refine n_sipush (n := 9999) (v := 9999) (by decide +kernel) (by decide +kernel) ?_
    refine n_icmp_gt (off := 14) (tgt := 23) (by decide +kernel) (by decide) (fun hc7 => ?_) (fun hc7 => ?_)
    · rw [if_pos hc7] at hr
      exact B_X9_enough_j23 G hp0 hp0 hr
    · rw [if_neg hc7] at hr
      refine n_iload_n (n := 2) (by decide +kernel) rfl ?_
      obtain ⟨v8, h8, hr⟩ := bso hr
      refine n_callSi G [_] (x := v8) (B_X9_isLimit G  h8) (by decide) mX9_isLimit ml_RX9_280 rfl rfl (Nat.le_of_ble_eq_true rfl) (by decide +kernel) ?_
      refine n_if_eq (off := 7) (tgt := 23) (by decide +kernel) (by decide) (fun hc9 => ?_) (fun hc9 => ?_)
      · rw [if_pos hc9] at hr
        exact B_X9_enough_j23 G hp0 hp0 hr
      · rw [if_neg hc9] at hr
        refine n_iconst (n := 1) (v := 1) (by decide +kernel) rfl ?_
        refine n_goto (off := 4) (tgt := 24) (by decide +kernel) (by decide) ?_
        exact B_X9_enough_j24 G hp0 hp0 hr
set_option maxRecDepth 100000 in
theorem B_X9_left_j28 (G : GG l s0 b L xs D cy ad) {x1 : Int32} {x2 : Int32} {xs1 : Int32} {M : Mm} {r : ((Nat ⊕ Int32) × Mm)} (hp0 : P 0) (hp90 : P 0) (hr : f_X9_left_j28 x1 x2 xs1 M = some r) : Rn l s0 D cy ad P 15 KX9_left 28 [.ref 0, .int x1, .int x2] [.int xs1, .ref 0] M (rsI r.1) (r.2) := by
  unfold f_X9_left_j28 at hr
  obtain ⟨⟨e2 | v2, M2⟩, h2, hr⟩ := bso hr
  · (try dsimp only at hr); cases hr; exact n_callVx G [_] (E := X3 e2) (M1 := M2) (B_X9_needArgument G hp90 h2) (by decide) mX9_needArgument ml_RX9_111 hp90 (by decide +kernel) rfl rfl (Nat.le_of_ble_eq_true rfl) (by decide +kernel) (fun z hz => nomatch hz)
  try dsimp only at hr
  refine n_callVv G [_] (M1 := M2) (B_X9_needArgument G hp90 h2) (by decide) mX9_needArgument ml_RX9_111 hp90 (by decide +kernel) rfl rfl (Nat.le_of_ble_eq_true rfl) (by decide +kernel) ?_
  refine n_aload_n (n := 0) (by decide +kernel) rfl ?_
  refine n_getF (q := 18) G fl_RX9_40 hp0 (by decide +kernel) (by decide +kernel) (by decide +kernel) (fun hp3q => ?_)
  refine n_aload_n (n := 0) (by decide +kernel) rfl ?_
  refine n_getD (t := 3) G fl_RX9_47 hp0 (by decide +kernel) (by decide +kernel) (by decide +kernel) (fun hp4q hs4q => ?_)
  refine n_aload_n (n := 0) (by decide +kernel) rfl ?_
  refine n_getD (t := 8) G fl_RX9_57 hp0 (by decide +kernel) (by decide +kernel) (by decide +kernel) (fun hp5q hs5q => ?_)
  refine n_iload_n (n := 1) (by decide +kernel) rfl ?_
  refine n_iload_n (n := 2) (by decide +kernel) rfl ?_
  obtain ⟨⟨v6, M6⟩, h6, hr⟩ := bso hr
  try dsimp only at hr
  refine n_callVi G [_, _, _, _] (x := v6) (M1 := M6) (B_X2_leftBehind G hp3q hp4q hs4q hp5q hs5q h6) (by decide) mX2_leftBehind ml_RX9_287 hp3q (by decide +kernel) rfl rfl (Nat.le_of_ble_eq_true rfl) (by decide +kernel) ?_
  cases hr
  exact n_ireturn (by decide +kernel)
set_option maxRecDepth 100000 in
theorem B_X9_left_j27 (G : GG l s0 b L xs D cy ad) {x1 : Int32} {x2 : Int32} {M : Mm} {r : ((Nat ⊕ Int32) × Mm)} (hp0 : P 0) (hp90 : P 0) (hr : f_X9_left_j27 x1 x2 M = some r) : Rn l s0 D cy ad P 15 KX9_left 27 [.ref 0, .int x1, .int x2] [.ref 0] M (rsI r.1) (r.2) := by
  unfold f_X9_left_j27 at hr
  refine n_iconst (n := 0) (v := 0) (by decide +kernel) rfl ?_
  exact B_X9_left_j28 G hp0 hp90 hr
set_option maxRecDepth 100000 in
theorem B_X9_left (G : GG l s0 b L xs D cy ad)  {x1 : Int32} {x2 : Int32} {M : Mm} {r : ((Nat ⊕ Int32) × Mm)} (hp0 : P 0) (hr : f_X9_left x1 x2 M = some r) : Cl l s0 D cy ad P 15 KX9_left [.ref 0, .int x1, .int x2] M (rsI r.1) (r.2) := by
  refine cl_ofN (by decide +kernel) rfl rfl okRI (lo0 := [_, _, _]) rfl ?_
  unfold f_X9_left at hr
  refine n_aload_n (n := 0) (by decide +kernel) rfl ?_
  refine n_iload_n (n := 1) (by decide +kernel) rfl ?_
  refine n_if_lt (off := 25) (tgt := 27) (by decide +kernel) (by decide) (fun hc1 => ?_) (fun hc1 => ?_)
  · rw [if_pos hc1] at hr
    exact B_X9_left_j27 G hp0 hp0 hr
  · rw [if_neg hc1] at hr
    refine n_iload_n (n := 1) (by decide +kernel) rfl ?_
    refine n_sipush (n := 9999) (v := 9999) (by decide +kernel) (by decide +kernel) ?_
    refine n_icmp_gt (off := 18) (tgt := 27) (by decide +kernel) (by decide) (fun hc7 => ?_) (fun hc7 => ?_)
    · rw [if_pos hc7] at hr
      exact B_X9_left_j27 G hp0 hp0 hr
    · rw [if_neg hc7] at hr
      refine n_iload_n (n := 2) (by decide +kernel) rfl ?_
      refine n_iconst (n := 1) (v := 1) (by decide +kernel) rfl ?_
      refine n_icmp_lt (off := 13) (tgt := 27) (by decide +kernel) (by decide) (fun hc8 => ?_) (fun hc8 => ?_)
      · rw [if_pos hc8] at hr
        exact B_X9_left_j27 G hp0 hp0 hr
      · rw [if_neg hc8] at hr
        refine n_iload_n (n := 2) (by decide +kernel) rfl ?_
        refine n_bipush (n := 30) (v := 30) (by decide +kernel) rfl ?_
        refine n_icmp_gt (off := 7) (tgt := 27) (by decide +kernel) (by decide) (fun hc9 => ?_) (fun hc9 => ?_)
        · rw [if_pos hc9] at hr
          exact B_X9_left_j27 G hp0 hp0 hr
        · rw [if_neg hc9] at hr
          refine n_iconst (n := 1) (v := 1) (by decide +kernel) rfl ?_
          refine n_goto (off := 4) (tgt := 28) (by decide +kernel) (by decide) ?_
          exact B_X9_left_j28 G hp0 hp0 hr
end NB
