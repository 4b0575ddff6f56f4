/-! printed rows: a method is its function -/
section NB
variable {l : Launch} {s0 : State} {b L : Nat} {xs : Nat → Int32} {D : va_G} {cy : Nat → ClassId} {ad : Nat → Nat} {P : Nat → Prop}
set_option maxRecDepth 100000 in
theorem W_X10_fits_b17 (G : GG l s0 b L xs D cy ad) {x1 : Int32} {x2 : Int32}  (hp0 : P 76) {s : (Int32 × Mm)} {e : Mm} (h : whl fu (f_X10_fits_b17 x1 x2) s = some e) (res : Rs) (M' : Mm) : Q_X10_fits_b17 l s0 D cy ad P x1 x2 res M' e → P_X10_fits_b17 l s0 D cy ad P x1 x2 res M' s := whl_run (P := fun s => P_X10_fits_b17 l s0 D cy ad P x1 x2 res M' s) (Q := fun e => Q_X10_fits_b17 l s0 D cy ad P x1 x2 res M' e) (B_X10_fits_b17 G (res := res) (M' := M') (x1 := x1) (x2 := x2) hp0) fu s h
abbrev P_X10_fits_b40 (l : Launch) (s0 : State) (D : va_G) (cy : Nat → ClassId) (ad : Nat → Nat) (P : Nat → Prop) (x1 : Int32) (x2 : Int32)  (res : Rs) (M' : Mm) (s : (Int32 × Mm)) : Prop := Rn l s0 D cy ad P 12 KX10_fits 40 [.ref 76, .int x1, .int x2, .int (s.1), .null, .null] [] (s.2) res M'
abbrev Q_X10_fits_b40 (l : Launch) (s0 : State) (D : va_G) (cy : Nat → ClassId) (ad : Nat → Nat) (P : Nat → Prop) (x1 : Int32) (x2 : Int32)  (res : Rs) (M' : Mm) (e : Mm) : Prop := Rn l s0 D cy ad P 12 KX10_fits 214 [.ref 76, .int x1, .int x2, .null, .null, .null] [] (e) res M'
abbrev P_X10_fits_b92 (l : Launch) (s0 : State) (D : va_G) (cy : Nat → ClassId) (ad : Nat → Nat) (P : Nat → Prop) (x1 : Int32) (x2 : Int32) (x3 : Int32) (M : Mm) (res : Rs) (M' : Mm) (s : (Int32 × Int32)) : Prop := Rn l s0 D cy ad P 12 KX10_fits 92 [.ref 76, .int x1, .int x2, .int x3, .int (s.1), .int (s.2)] [] M res M'
abbrev Q_X10_fits_b92 (l : Launch) (s0 : State) (D : va_G) (cy : Nat → ClassId) (ad : Nat → Nat) (P : Nat → Prop) (x1 : Int32) (x2 : Int32) (x3 : Int32) (M : Mm) (res : Rs) (M' : Mm) (e : Int32) : Prop := Rn l s0 D cy ad P 12 KX10_fits 197 [.ref 76, .int x1, .int x2, .int x3, .int (e), .null] [] M res M'
set_option maxRecDepth 100000 in
theorem B_X10_fits_b92 (G : GG l s0 b L xs D cy ad) {x1 : Int32} {x2 : Int32} {x3 : Int32} {M : Mm} {res : Rs} {M' : Mm} (hp0 : P 76) : ∀ (s : (Int32 × Int32)) (r : (Int32 × Int32) ⊕ Int32), f_X10_fits_b92 x1 x2 x3 M s = some r → mtc (P_X10_fits_b92 l s0 D cy ad P x1 x2 x3 M res M') (Q_X10_fits_b92 l s0 D cy ad P x1 x2 x3 M res M') r → P_X10_fits_b92 l s0 D cy ad P x1 x2 x3 M res M' s := by
  intro s r hr hk
  obtain ⟨x4, x5⟩ := s
  unfold f_X10_fits_b92 at hr
  try dsimp only at hr
  dsimp only [P_X10_fits_b92]
  refine n_iload (n := 5) (by decide +kernel) rfl ?_
  refine n_aload_n (n := 0) (by decide +kernel) rfl ?_
  refine n_getI G fl_RX10_178 hp0 (by decide +kernel) (by decide +kernel) ?_
  refine n_icmp_ge (off := 99) (tgt := 197) (by decide +kernel) (by decide) (fun hc16 => ?_) (fun hc16 => ?_)
  · rw [if_pos hc16] at hr
    cases hr
    refine n_msk [true, true, true, true, true, false] (lo2 := [_, _, _, _, _, .null]) rfl rfl ?_
    exact hk
  · rw [if_neg hc16] at hr
    refine n_aload_n (n := 0) (by decide +kernel) rfl ?_
    refine n_getF (q := 196) G fl_RX10_61 hp0 (by decide +kernel) (by decide +kernel) (by decide +kernel) (fun hp17q => ?_)
    refine n_iload_n (n := 3) (by decide +kernel) rfl ?_
    refine n_iconst (n := 0) (v := 0) (by decide +kernel) rfl ?_
    obtain ⟨v18, h18, hr⟩ := bso hr
    refine n_callSi G [_, _, _] (x := v18) (B_X10_of G hp17q (by decide +kernel) h18) (by decide) mX10_of ml_RX10_222 rfl rfl (Nat.le_of_ble_eq_true rfl) (by decide +kernel) ?_
    refine n_aload_n (n := 0) (by decide +kernel) rfl ?_
    refine n_getF (q := 196) G fl_RX10_61 hp0 (by decide +kernel) (by decide +kernel) (by decide +kernel) (fun hp19q => ?_)
    refine n_iload_n (n := 3) (by decide +kernel) rfl ?_
    refine n_iconst (n := 1) (v := 1) (by decide +kernel) rfl ?_
    obtain ⟨v20, h20, hr⟩ := bso hr
    refine n_callSi G [_, _, _] (x := v20) (B_X10_of G hp19q (by decide +kernel) h20) (by decide) mX10_of ml_RX10_222 rfl rfl (Nat.le_of_ble_eq_true rfl) (by decide +kernel) ?_
    refine n_aload_n (n := 0) (by decide +kernel) rfl ?_
    refine n_getF (q := 120) G fl_RX10_49 hp0 (by decide +kernel) (by decide +kernel) (by decide +kernel) (fun hp21q => ?_)
    refine n_iload (n := 5) (by decide +kernel) rfl ?_
    obtain ⟨q22, h22, hr⟩ := bso hr
    refine n_aald G h22 hp21q (by decide +kernel) (by decide +kernel) (by decide +kernel) (fun hp22q => ?_)
    refine n_iconst (n := 0) (v := 0) (by decide +kernel) rfl ?_
    obtain ⟨v23, h23, hr⟩ := bso hr
    refine n_iald G h23 hp22q (row_120 h22).1 (row_120 h22).2 (by decide +kernel) ?_
    refine n_aload_n (n := 0) (by decide +kernel) rfl ?_
    refine n_getF (q := 120) G fl_RX10_49 hp0 (by decide +kernel) (by decide +kernel) (by decide +kernel) (fun hp24q => ?_)
    refine n_iload (n := 5) (by decide +kernel) rfl ?_
    obtain ⟨q25, h25, hr⟩ := bso hr
    refine n_aald G h25 hp24q (by decide +kernel) (by decide +kernel) (by decide +kernel) (fun hp25q => ?_)
    refine n_iconst (n := 1) (v := 1) (by decide +kernel) rfl ?_
    obtain ⟨v26, h26, hr⟩ := bso hr
    refine n_iald G h26 hp25q (row_120 h25).1 (row_120 h25).2 (by decide +kernel) ?_
    obtain ⟨v27, h27, hr⟩ := bso hr
    refine n_callSi G [_, _, _, _] (x := v27) (B_X10_farOf G  h27) (by decide) mX10_farOf ml_RX10_266 rfl rfl (Nat.le_of_ble_eq_true rfl) (by decide +kernel) ?_
    refine n_aload_n (n := 0) (by decide +kernel) rfl ?_
    refine n_getF (q := 196) G fl_RX10_61 hp0 (by decide +kernel) (by decide +kernel) (by decide +kernel) (fun hp28q => ?_)
    refine n_iload_n (n := 3) (by decide +kernel) rfl ?_
    refine n_iconst (n := 0) (v := 0) (by decide +kernel) rfl ?_
    obtain ⟨v29, h29, hr⟩ := bso hr
    refine n_callSi G [_, _, _] (x := v29) (B_X10_of G hp28q (by decide +kernel) h29) (by decide) mX10_of ml_RX10_222 rfl rfl (Nat.le_of_ble_eq_true rfl) (by decide +kernel) ?_
    refine n_aload_n (n := 0) (by decide +kernel) rfl ?_
    refine n_getF (q := 196) G fl_RX10_61 hp0 (by decide +kernel) (by decide +kernel) (by decide +kernel) (fun hp30q => ?_)
    refine n_iload_n (n := 3) (by decide +kernel) rfl ?_
    refine n_iconst (n := 1) (v := 1) (by decide +kernel) rfl ?_
    obtain ⟨v31, h31, hr⟩ := bso hr
    refine n_callSi G [_, _, _] (x := v31) (B_X10_of G hp30q (by decide +kernel) h31) (by decide) mX10_of ml_RX10_222 rfl rfl (Nat.le_of_ble_eq_true rfl) (by decide +kernel) ?_
    refine n_aload_n (n := 0) (by decide +kernel) rfl ?_
    refine n_getF (q := 120) G fl_RX10_49 hp0 (by decide +kernel) (by decide +kernel) (by decide +kernel) (fun hp32q => ?_)
    refine n_iload (n := 4) (by decide +kernel) rfl ?_
    obtain ⟨q33, h33, hr⟩ := bso hr
    refine n_aald G h33 hp32q (by decide +kernel) (by decide +kernel) (by decide +kernel) (fun hp33q => ?_)
    refine n_iconst (n := 0) (v := 0) (by decide +kernel) rfl ?_
    obtain ⟨v34, h34, hr⟩ := bso hr
    refine n_iald G h34 hp33q (row_120 h33).1 (row_120 h33).2 (by decide +kernel) ?_
    refine n_aload_n (n := 0) (by decide +kernel) rfl ?_
    refine n_getF (q := 120) G fl_RX10_49 hp0 (by decide +kernel) (by decide +kernel) (by decide +kernel) (fun hp35q => ?_)
    refine n_iload (n := 4) (by decide +kernel) rfl ?_
    obtain ⟨q36, h36, hr⟩ := bso hr
    refine n_aald G h36 hp35q (by decide +kernel) (by decide +kernel) (by decide +kernel) (fun hp36q => ?_)
    refine n_iconst (n := 1) (v := 1) (by decide +kernel) rfl ?_
    obtain ⟨v37, h37, hr⟩ := bso hr
    refine n_iald G h37 hp36q (row_120 h36).1 (row_120 h36).2 (by decide +kernel) ?_
    obtain ⟨v38, h38, hr⟩ := bso hr
    refine n_callSi G [_, _, _, _] (x := v38) (B_X10_farOf G  h38) (by decide) mX10_farOf ml_RX10_266 rfl rfl (Nat.le_of_ble_eq_true rfl) (by decide +kernel) ?_
    refine n_dia2 (J := 189) (c := v38 ≤ v27) (a := x4) (b := x5) (fun hJ => ?_) ?_
    · refine n_icmp_ge (off := 8) (tgt := 187) (by decide +kernel) (by decide) (fun hc39 => ?_) (fun hc39 => ?_)
      · refine n_iload (n := 4) (by decide +kernel) rfl ?_
        exact hJ _ (if_pos hc39).symm
      · refine n_iload (n := 5) (by decide +kernel) rfl ?_
        refine n_goto (off := 5) (tgt := 189) (by decide +kernel) (by decide) ?_
        exact hJ _ (if_neg hc39).symm
    refine n_istore (n := 4) (lo2 := [_, _, _, _, _, _]) (by decide +kernel) (Nat.le_of_ble_eq_true rfl) rfl ?_
    refine n_iincK (n := 5) (j := 1) (w := 1) (lo2 := [_, _, _, _, _, _]) (by decide +kernel) rfl rfl rfl ?_
    refine n_goto (off := -102) (tgt := 92) (by decide +kernel) (by decide) ?_
    cases hr
    exact hk
set_option maxRecDepth 100000 in
theorem W_X10_fits_b92 (G : GG l s0 b L xs D cy ad) {x1 : Int32} {x2 : Int32} {x3 : Int32} {M : Mm} (hp0 : P 76) {s : (Int32 × Int32)} {e : Int32} (h : whl fu (f_X10_fits_b92 x1 x2 x3 M) s = some e) (res : Rs) (M' : Mm) : Q_X10_fits_b92 l s0 D cy ad P x1 x2 x3 M res M' e → P_X10_fits_b92 l s0 D cy ad P x1 x2 x3 M res M' s := whl_run (P := fun s => P_X10_fits_b92 l s0 D cy ad P x1 x2 x3 M res M' s) (Q := fun e => Q_X10_fits_b92 l s0 D cy ad P x1 x2 x3 M res M' e) (B_X10_fits_b92 G (res := res) (M' := M') (x1 := x1) (x2 := x2) (x3 := x3) (M := M) hp0) fu s h
set_option maxRecDepth 100000 in
theorem B_X10_fits_b40 (G : GG l s0 b L xs D cy ad) {x1 : Int32} {x2 : Int32}  {res : Rs} {M' : Mm} (hp0 : P 76) : ∀ (s : (Int32 × Mm)) (r : (Int32 × Mm) ⊕ Mm), f_X10_fits_b40 x1 x2 s = some r → mtc (P_X10_fits_b40 l s0 D cy ad P x1 x2 res M') (Q_X10_fits_b40 l s0 D cy ad P x1 x2 res M') r → P_X10_fits_b40 l s0 D cy ad P x1 x2 res M' s := by
  intro s r hr hk
  obtain ⟨x3, M⟩ := s
  unfold f_X10_fits_b40 at hr
  try dsimp only at hr
  dsimp only [P_X10_fits_b40]
  refine n_iload_n (n := 3) (by decide +kernel) rfl ?_
  refine n_aload_n (n := 0) (by decide +kernel) rfl ?_
  refine n_getF (q := 196) G fl_RX10_61 hp0 (by decide +kernel) (by decide +kernel) (by decide +kernel) (fun hp6q => ?_)
  refine n_sipush (n := 360) (v := 360) (by decide +kernel) (by decide +kernel) ?_
  obtain ⟨v7, h7, hr⟩ := bso hr
  refine n_iald G h7 hp6q (by decide +kernel) (by decide +kernel) (by decide +kernel) ?_
  refine n_icmp_ge (off := 165) (tgt := 214) (by decide +kernel) (by decide) (fun hc8 => ?_) (fun hc8 => ?_)
  · rw [if_pos hc8] at hr
    cases hr
    refine n_msk [true, true, true, false, false, false] (lo2 := [_, _, _, .null, .null, .null]) rfl rfl ?_
    exact hk
  · rw [if_neg hc8] at hr
    refine n_aload_n (n := 0) (by decide +kernel) rfl ?_
    refine n_getI G fl_RX10_178 hp0 (by decide +kernel) (by decide +kernel) ?_
    refine n_if_le (off := 158) (tgt := 214) (by decide +kernel) (by decide) (fun hc9 => ?_) (fun hc9 => ?_)
    · rw [if_pos hc9] at hr
      cases hr
      refine n_msk [true, true, true, false, false, false] (lo2 := [_, _, _, .null, .null, .null]) rfl rfl ?_
      exact hk
    · rw [if_neg hc9] at hr
      refine n_aload_n (n := 0) (by decide +kernel) rfl ?_
      refine n_getF (q := 196) G fl_RX10_61 hp0 (by decide +kernel) (by decide +kernel) (by decide +kernel) (fun hp10q => ?_)
      refine n_iload_n (n := 3) (by decide +kernel) rfl ?_
      obtain ⟨v11, h11, hr⟩ := bso hr
      refine n_callSi G [_, _] (x := v11) (B_X10_isThere G hp10q (by decide +kernel) h11) (by decide) mX10_isThere ml_RX10_337 rfl rfl (Nat.le_of_ble_eq_true rfl) (by decide +kernel) ?_
      refine n_if_eq (off := 141) (tgt := 208) (by decide +kernel) (by decide) (fun hc12 => ?_) (fun hc12 => ?_)
      · rw [if_pos hc12] at hr
        refine n_iincK (n := 3) (j := 1) (w := 1) (lo2 := [_, _, _, _, _, _]) (by decide +kernel) rfl rfl rfl ?_
        refine n_goto (off := -171) (tgt := 40) (by decide +kernel) (by decide) ?_
        cases hr
        exact hk
      · rw [if_neg hc12] at hr
        refine n_aload_n (n := 0) (by decide +kernel) rfl ?_
        refine n_getF (q := 196) G fl_RX10_61 hp0 (by decide +kernel) (by decide +kernel) (by decide +kernel) (fun hp13q => ?_)
        refine n_iload_n (n := 3) (by decide +kernel) rfl ?_
        refine n_iconst (n := 2) (v := 2) (by decide +kernel) rfl ?_
        obtain ⟨v14, h14, hr⟩ := bso hr
        refine n_callSi G [_, _, _] (x := v14) (B_X10_of G hp13q (by decide +kernel) h14) (by decide) mX10_of ml_RX10_222 rfl rfl (Nat.le_of_ble_eq_true rfl) (by decide +kernel) ?_
        refine n_iload_n (n := 2) (by decide +kernel) rfl ?_
        refine n_icmp_ge (off := 6) (tgt := 86) (by decide +kernel) (by decide) (fun hc15 => ?_) (fun hc15 => ?_)
        · rw [if_pos hc15] at hr
          refine n_iconst (n := 0) (v := 0) (by decide +kernel) rfl ?_
          refine n_istore (n := 4) (lo2 := [_, _, _, _, _, _]) (by decide +kernel) (Nat.le_of_ble_eq_true rfl) rfl ?_
          refine n_iconst (n := 1) (v := 1) (by decide +kernel) rfl ?_
          refine n_istore (n := 5) (lo2 := [_, _, _, _, _, _]) (by decide +kernel) (Nat.le_of_ble_eq_true rfl) rfl ?_
          obtain ⟨z4_40, h40, hr⟩ := bso hr
          refine (W_X10_fits_b92 G hp0 h40 _ _) ?_
          dsimp only [Q_X10_fits_b92]
          refine n_aload_n (n := 0) (by decide +kernel) rfl ?_
          refine n_getF (q := 274) G fl_RX10_79 hp0 (by decide +kernel) (by decide +kernel) (by decide +kernel) (fun hp41q => ?_)
          refine n_iload (n := 4) (by decide +kernel) rfl ?_
          refine n_dup2 rfl rfl (by decide +kernel) ?_
          obtain ⟨v42, h42, hr⟩ := bso hr
          refine n_iald G h42 hp41q (by decide +kernel) (by decide +kernel) (by decide +kernel) ?_
          refine n_iconst (n := 1) (v := 1) (by decide +kernel) rfl ?_
          refine n_iadd (by decide +kernel) ?_
          obtain ⟨M43, h43, hr⟩ := bso hr
          refine n_iast G h43 hp41q (by decide +kernel) (by decide +kernel) (by decide +kernel) ?_
          refine n_iincK (n := 3) (j := 1) (w := 1) (lo2 := [_, _, _, _, _, _]) (by decide +kernel) rfl rfl rfl ?_
          refine n_goto (off := -171) (tgt := 40) (by decide +kernel) (by decide) ?_
          cases hr
          refine n_msk [true, true, true, true, false, false] (lo2 := [_, _, _, _, .null, .null]) rfl rfl ?_
          exact hk
        · rw [if_neg hc15] at hr
          refine n_goto (off := 125) (tgt := 208) (by decide +kernel) (by decide) ?_
          refine n_iincK (n := 3) (j := 1) (w := 1) (lo2 := [_, _, _, _, _, _]) (by decide +kernel) rfl rfl rfl ?_
          refine n_goto (off := -171) (tgt := 40) (by decide +kernel) (by decide) ?_
          cases hr
          exact hk
set_option maxRecDepth 100000 in
theorem W_X10_fits_b40 (G : GG l s0 b L xs D cy ad) {x1 : Int32} {x2 : Int32}  (hp0 : P 76) {s : (Int32 × Mm)} {e : Mm} (h : whl fu (f_X10_fits_b40 x1 x2) s = some e) (res : Rs) (M' : Mm) : Q_X10_fits_b40 l s0 D cy ad P x1 x2 res M' e → P_X10_fits_b40 l s0 D cy ad P x1 x2 res M' s := whl_run (P := fun s => P_X10_fits_b40 l s0 D cy ad P x1 x2 res M' s) (Q := fun e => Q_X10_fits_b40 l s0 D cy ad P x1 x2 res M' e) (B_X10_fits_b40 G (res := res) (M' := M') (x1 := x1) (x2 := x2) hp0) fu s h
abbrev P_X10_fits_b219 (l : Launch) (s0 : State) (D : va_G) (cy : Nat → ClassId) (ad : Nat → Nat) (P : Nat → Prop) (x1 : Int32) (x2 : Int32) (M : Mm) (res : Rs) (M' : Mm) (s : (Int32 × Int32)) : Prop := Rn l s0 D cy ad P 12 KX10_fits 219 [.ref 76, .int x1, .int x2, .int (s.1), .int (s.2), .null] [] M res M'
abbrev Q_X10_fits_b219 (l : Launch) (s0 : State) (D : va_G) (cy : Nat → ClassId) (ad : Nat → Nat) (P : Nat → Prop) (x1 : Int32) (x2 : Int32) (M : Mm) (res : Rs) (M' : Mm) (e : Int32) : Prop := Rn l s0 D cy ad P 12 KX10_fits 263 [.ref 76, .int x1, .int x2, .int (e), .null, .null] [] M res M'
set_option maxRecDepth 100000 in
theorem B_X10_fits_j255 (G : GG l s0 b L xs D cy ad) {x1 : Int32} {x2 : Int32} {x4 : Int32} {M : Mm}  {res : Rs} {M' : Mm} {r : ((Int32 × Int32) ⊕ Int32)} (hp0 : P 76) (hr : f_X10_fits_j255 x1 x2 x4 M = some r) (hk : mtc (P_X10_fits_b219 l s0 D cy ad P x1 x2 M res M') (Q_X10_fits_b219 l s0 D cy ad P x1 x2 M res M') r) : Rn l s0 D cy ad P 12 KX10_fits 255 [.ref 76, .int x1, .int x2, .null, .int x4, .null] [] M res M' := by
  unfold f_X10_fits_j255 at hr
  refine n_iconst (n := 0) (v := 0) (by decide +kernel) rfl ?_
  refine n_istore_n (n := 3) (lo2 := [_, _, _, _, _, _]) (by decide +kernel) (Nat.le_of_ble_eq_true rfl) rfl ?_
  refine n_iincK (n := 4) (j := 1) (w := 1) (lo2 := [_, _, _, _, _, _]) (by decide +kernel) rfl rfl rfl ?_
  refine n_goto (off := -41) (tgt := 219) (by decide +kernel) (by decide) ?_
  cases hr
  exact hk
set_option maxRecDepth 100000 in
theorem B_X10_fits_b219 (G : GG l s0 b L xs D cy ad) {x1 : Int32} {x2 : Int32} {M : Mm} {res : Rs} {M' : Mm} (hp0 : P 76) : ∀ (s : (Int32 × Int32)) (r : (Int32 × Int32) ⊕ Int32), f_X10_fits_b219 x1 x2 M s = some r → mtc (P_X10_fits_b219 l s0 D cy ad P x1 x2 M res M') (Q_X10_fits_b219 l s0 D cy ad P x1 x2 M res M') r → P_X10_fits_b219 l s0 D cy ad P x1 x2 M res M' s := by
  intro s r hr hk
  obtain ⟨x3, x4⟩ := s
  unfold f_X10_fits_b219 at hr
  try dsimp only at hr
  dsimp only [P_X10_fits_b219]
  refine n_iload (n := 4) (by decide +kernel) rfl ?_
  refine n_aload_n (n := 0) (by decide +kernel) rfl ?_
  refine n_getI G fl_RX10_178 hp0 (by decide +kernel) (by decide +kernel) ?_
  refine n_icmp_ge (off := 38) (tgt := 263) (by decide +kernel) (by decide) (fun hc45 => ?_) (fun hc45 => ?_)
  · rw [if_pos hc45] at hr
    cases hr
    refine n_msk [true, true, true, true, false, false] (lo2 := [_, _, _, _, .null, .null]) rfl rfl ?_
    exact hk
  · rw [if_neg hc45] at hr
    refine n_iload_n (n := 3) (by decide +kernel) rfl ?_
    refine n_if_eq (off := 26) (tgt := 255) (by decide +kernel) (by decide) (fun hc46 => ?_) (fun hc46 => ?_)
    · rw [if_pos hc46] at hr
      refine n_msk [true, true, true, false, true, false] (lo2 := [_, _, _, .null, _, .null]) rfl rfl ?_
      exact B_X10_fits_j255 G hp0 hr hk
    · rw [if_neg hc46] at hr
      refine n_aload_n (n := 0) (by decide +kernel) rfl ?_
      refine n_getF (q := 274) G fl_RX10_79 hp0 (by decide +kernel) (by decide +kernel) (by decide +kernel) (fun hp47q => ?_)
      refine n_iload (n := 4) (by decide +kernel) rfl ?_
      obtain ⟨v48, h48, hr⟩ := bso hr
      refine n_iald G h48 hp47q (by decide +kernel) (by decide +kernel) (by decide +kernel) ?_
      refine n_aload_n (n := 0) (by decide +kernel) rfl ?_
      refine n_getF (q := 120) G fl_RX10_49 hp0 (by decide +kernel) (by decide +kernel) (by decide +kernel) (fun hp49q => ?_)
      refine n_iload (n := 4) (by decide +kernel) rfl ?_
      obtain ⟨q50, h50, hr⟩ := bso hr
      refine n_aald G h50 hp49q (by decide +kernel) (by decide +kernel) (by decide +kernel) (fun hp50q => ?_)
      refine n_iconst (n := 2) (v := 2) (by decide +kernel) rfl ?_
      obtain ⟨v51, h51, hr⟩ := bso hr
      refine n_iald G h51 hp50q (row_120 h50).1 (row_120 h50).2 (by decide +kernel) ?_
      refine n_icmp_ne (off := 7) (tgt := 255) (by decide +kernel) (by decide) (fun hc52 => ?_) (fun hc52 => ?_)
      · rw [if_neg hc52] at hr
        refine n_msk [true, true, true, false, true, false] (lo2 := [_, _, _, .null, _, .null]) rfl rfl ?_
        exact B_X10_fits_j255 G hp0 hr hk
      · rw [if_pos hc52] at hr
        refine n_iconst (n := 1) (v := 1) (by decide +kernel) rfl ?_
        refine n_goto (off := 4) (tgt := 256) (by decide +kernel) (by decide) ?_
        refine n_istore_n (n := 3) (lo2 := [_, _, _, _, _, _]) (by decide +kernel) (Nat.le_of_ble_eq_true rfl) rfl ?_
        refine n_iincK (n := 4) (j := 1) (w := 1) (lo2 := [_, _, _, _, _, _]) (by decide +kernel) rfl rfl rfl ?_
        refine n_goto (off := -41) (tgt := 219) (by decide +kernel) (by decide) ?_
        cases hr
        exact hk
set_option maxRecDepth 100000 in
theorem W_X10_fits_b219 (G : GG l s0 b L xs D cy ad) {x1 : Int32} {x2 : Int32} {M : Mm} (hp0 : P 76) {s : (Int32 × Int32)} {e : Int32} (h : whl fu (f_X10_fits_b219 x1 x2 M) s = some e) (res : Rs) (M' : Mm) : Q_X10_fits_b219 l s0 D cy ad P x1 x2 M res M' e → P_X10_fits_b219 l s0 D cy ad P x1 x2 M res M' s := whl_run (P := fun s => P_X10_fits_b219 l s0 D cy ad P x1 x2 M res M' s) (Q := fun e => Q_X10_fits_b219 l s0 D cy ad P x1 x2 M res M' e) (B_X10_fits_b219 G (res := res) (M' := M') (x1 := x1) (x2 := x2) (M := M) hp0) fu s h
set_option maxRecDepth 100000 in
theorem B_X10_fits_j214 (G : GG l s0 b L xs D cy ad) {x1 : Int32} {x2 : Int32} {M : Mm}  {res : Rs} {M' : Mm} {r : ((Int32 × Int32 × Mm) ⊕ (Int32 × Mm))} (hp0 : P 76) (hr : f_X10_fits_j214 x1 x2 M = some r) (hk : mtc (P_X10_fits_b9 l s0 D cy ad P  res M') (Q_X10_fits_b9 l s0 D cy ad P  res M') r) : Rn l s0 D cy ad P 12 KX10_fits 214 [.ref 76, .int x1, .int x2, .null, .null, .null] [] M res M' := by
  unfold f_X10_fits_j214 at hr
  refine n_iconst (n := 1) (v := 1) (by decide +kernel) rfl ?_
  refine n_istore_n (n := 3) (lo2 := [_, _, _, _, _, _]) (by decide +kernel) (Nat.le_of_ble_eq_true rfl) rfl ?_
  refine n_iconst (n := 0) (v := 0) (by decide +kernel) rfl ?_
  refine n_istore (n := 4) (lo2 := [_, _, _, _, _, _]) (by decide +kernel) (Nat.le_of_ble_eq_true rfl) rfl ?_
  obtain ⟨z3_53, h53, hr⟩ := bso hr
  refine (W_X10_fits_b219 G hp0 h53 _ _) ?_
  dsimp only [Q_X10_fits_b219]
  refine n_iload_n (n := 1) (by decide +kernel) rfl ?_
  refine n_iload_n (n := 3) (by decide +kernel) rfl ?_
  refine n_dia1 (J := 277) (c := z3_53 = 0) (a := (0 : Int32)) (b := ((1 : Int32) <<< ((x2 - (1 : Int32)) &&& 31))) (fun hJ => ?_) ?_
  · refine n_if_eq (off := 11) (tgt := 276) (by decide +kernel) (by decide) (fun hc54 => ?_) (fun hc54 => ?_)
    · refine n_iconst (n := 0) (v := 0) (by decide +kernel) rfl ?_
      exact hJ _ (if_pos hc54).symm
    · refine n_iconst (n := 1) (v := 1) (by decide +kernel) rfl ?_
      refine n_iload_n (n := 2) (by decide +kernel) rfl ?_
      refine n_iconst (n := 1) (v := 1) (by decide +kernel) rfl ?_
      refine n_isub (by decide +kernel) ?_
      refine n_ishl (by decide +kernel) ?_
      refine n_goto (off := 4) (tgt := 277) (by decide +kernel) (by decide) ?_
      exact hJ _ (if_neg hc54).symm
  refine n_ior (by decide +kernel) ?_
  refine n_istore_n (n := 1) (lo2 := [_, _, _, _, _, _]) (by decide +kernel) (Nat.le_of_ble_eq_true rfl) rfl ?_
  refine n_iincK (n := 2) (j := 1) (w := 1) (lo2 := [_, _, _, _, _, _]) (by decide +kernel) rfl rfl rfl ?_
  refine n_goto (off := -273) (tgt := 9) (by decide +kernel) (by decide) ?_
  cases hr
  refine n_msk [true, true, true, false, false, false] (lo2 := [_, _, _, .null, .null, .null]) rfl rfl ?_
  exact hk
set_option maxRecDepth 100000 in
theorem B_X10_fits_b9 (G : GG l s0 b L xs D cy ad)   {res : Rs} {M' : Mm} (hp0 : P 76) : ∀ (s : (Int32 × Int32 × Mm)) (r : (Int32 × Int32 × Mm) ⊕ (Int32 × Mm)), f_X10_fits_b9  s = some r → mtc (P_X10_fits_b9 l s0 D cy ad P  res M') (Q_X10_fits_b9 l s0 D cy ad P  res M') r → P_X10_fits_b9 l s0 D cy ad P  res M' s := by
  intro s r hr hk
  obtain ⟨x1, x2, M⟩ := s
  unfold f_X10_fits_b9 at hr
  try dsimp only at hr
  dsimp only [P_X10_fits_b9]
  refine n_iload_n (n := 2) (by decide +kernel) rfl ?_
  refine n_bipush (n := 10) (v := 10) (by decide +kernel) rfl ?_
  refine n_icmp_ge (off := 273) (tgt := 285) (by decide +kernel) (by decide) (fun hc1 => ?_) (fun hc1 => ?_)
  · rw [if_pos hc1] at hr
    cases hr
    refine n_msk [false, true, false, false, false, false] (lo2 := [.null, _, .null, .null, .null, .null]) rfl rfl ?_
    exact hk
  · rw [if_neg hc1] at hr
    refine n_iconst (n := 0) (v := 0) (by decide +kernel) rfl ?_
    refine n_istore_n (n := 3) (lo2 := [_, _, _, _, _, _]) (by decide +kernel) (Nat.le_of_ble_eq_true rfl) rfl ?_
    obtain ⟨M5, h5, hr⟩ := bso hr
    refine (W_X10_fits_b17 G hp0 h5 _ _) ?_
    dsimp only [Q_X10_fits_b17]
    refine n_iconst (n := 0) (v := 0) (by decide +kernel) rfl ?_
    refine n_istore_n (n := 3) (lo2 := [_, _, _, _, _, _]) (by decide +kernel) (Nat.le_of_ble_eq_true rfl) rfl ?_
    obtain ⟨M44, h44, hr⟩ := bso hr
    refine (W_X10_fits_b40 G hp0 h44 _ _) ?_
    dsimp only [Q_X10_fits_b40]
    exact B_X10_fits_j214 G hp0 hr hk
set_option maxRecDepth 100000 in
theorem W_X10_fits_b9 (G : GG l s0 b L xs D cy ad)   (hp0 : P 76) {s : (Int32 × Int32 × Mm)} {e : (Int32 × Mm)} (h : whl fu (f_X10_fits_b9 ) s = some e) (res : Rs) (M' : Mm) : Q_X10_fits_b9 l s0 D cy ad P  res M' e → P_X10_fits_b9 l s0 D cy ad P  res M' s := whl_run (P := fun s => P_X10_fits_b9 l s0 D cy ad P  res M' s) (Q := fun e => Q_X10_fits_b9 l s0 D cy ad P  res M' e) (B_X10_fits_b9 G (res := res) (M' := M')  hp0) fu s h
set_option maxRecDepth 100000 in
theorem B_X10_fits (G : GG l s0 b L xs D cy ad)   {M : Mm} {r : (Int32 × Mm)} (hp0 : P 76) (hr : f_X10_fits  M = some r) : Cl l s0 D cy ad P 12 KX10_fits [.ref 76] M (.inl (some (.int r.1))) (r.2) := by
  refine cl_ofN (by decide +kernel) rfl rfl okI (lo0 := [_, .null, .null, .null, .null, .null]) rfl ?_
  unfold f_X10_fits at hr
  refine n_aload_n (n := 0) (by decide +kernel) rfl ?_
  refine n_iconst (n := 0) (v := 0) (by decide +kernel) rfl ?_
  refine n_putI G fl_RX10_88 hp0 (by decide +kernel) (by decide +kernel) ?_
  refine n_iconst (n := 0) (v := 0) (by decide +kernel) rfl ?_
  refine n_istore_n (n := 1) (lo2 := [_, _, _, _, _, _]) (by decide +kernel) (Nat.le_of_ble_eq_true rfl) rfl ?_
  refine n_iconst (n := 1) (v := 1) (by decide +kernel) rfl ?_
  refine n_istore_n (n := 2) (lo2 := [_, _, _, _, _, _]) (by decide +kernel) (Nat.le_of_ble_eq_true rfl) rfl ?_
  obtain ⟨e55, h55, hr⟩ := bso hr
  refine (W_X10_fits_b9 G hp0 h55 _ _) ?_
  obtain ⟨z1_55, M55⟩ := e55
  try dsimp only at hr
  dsimp only [Q_X10_fits_b9]
  refine n_iload_n (n := 1) (by decide +kernel) rfl ?_
  cases hr
  exact n_ireturn (by decide +kernel)
abbrev P_X10_frosts_b19 (l : Launch) (s0 : State) (D : va_G) (cy : Nat → ClassId) (ad : Nat → Nat) (P : Nat → Prop) (x2 : Int32) (x3 : Int32)  (res : Rs) (M' : Mm) (s : (Int32 × Mm)) : Prop := Rn l s0 D cy ad P 15 KX10_frosts 19 [.ref 76, .null, .int x2, .int x3, .int (s.1), .null] [] (s.2) res M'
abbrev Q_X10_frosts_b19 (l : Launch) (s0 : State) (D : va_G) (cy : Nat → ClassId) (ad : Nat → Nat) (P : Nat → Prop) (x2 : Int32) (x3 : Int32)  (res : Rs) (M' : Mm) (e : Mm) : Prop := Rn l s0 D cy ad P 15 KX10_frosts 119 [.null, .null, .null, .null, .null, .null] [] (e) res M'
abbrev P_X10_frosts_b36 (l : Launch) (s0 : State) (D : va_G) (cy : Nat → ClassId) (ad : Nat → Nat) (P : Nat → Prop) (x2 : Int32) (x3 : Int32) (x4 : Int32)  (res : Rs) (M' : Mm) (s : (Int32 × Mm)) : Prop := Rn l s0 D cy ad P 15 KX10_frosts 36 [.ref 76, .null, .int x2, .int x3, .int x4, .int (s.1)] [] (s.2) res M'
abbrev Q_X10_frosts_b36 (l : Launch) (s0 : State) (D : va_G) (cy : Nat → ClassId) (ad : Nat → Nat) (P : Nat → Prop) (x2 : Int32) (x3 : Int32) (x4 : Int32)  (res : Rs) (M' : Mm) (e : Mm) : Prop := Rn l s0 D cy ad P 15 KX10_frosts 113 [.ref 76, .null, .int x2, .int x3, .int x4, .null] [] (e) res M'
set_option maxRecDepth 100000 in
theorem B_X10_frosts_b36 (G : GG l s0 b L xs D cy ad) {x2 : Int32} {x3 : Int32} {x4 : Int32}  {res : Rs} {M' : Mm} (hp0 : P 76) : ∀ (s : (Int32 × Mm)) (r : (Int32 × Mm) ⊕ Mm), f_X10_frosts_b36 x2 x3 x4 s = some r → mtc (P_X10_frosts_b36 l s0 D cy ad P x2 x3 x4 res M') (Q_X10_frosts_b36 l s0 D cy ad P x2 x3 x4 res M') r → P_X10_frosts_b36 l s0 D cy ad P x2 x3 x4 res M' s := by
  intro s r hr hk
  obtain ⟨x5, M⟩ := s
  unfold f_X10_frosts_b36 at hr
  try dsimp only at hr
  dsimp only [P_X10_frosts_b36]
  refine n_iload (n := 5) (by decide +kernel) rfl ?_
  refine n_bipush (n := 48) (v := 48) (by decide +kernel) rfl ?_
  refine n_icmp_ge (off := 73) (tgt := 113) (by decide +kernel) (by decide) (fun hc7 => ?_) (fun hc7 => ?_)
  · rw [if_pos hc7] at hr
    cases hr
    refine n_msk [true, false, true, true, true, false] (lo2 := [_, .null, _, _, _, .null]) rfl rfl ?_
    exact hk
  · rw [if_neg hc7] at hr
    refine n_aload_n (n := 0) (by decide +kernel) rfl ?_
    refine n_aload_n (n := 0) (by decide +kernel) rfl ?_
    refine n_getF (q := 197) G fl_RX10_64 hp0 (by decide +kernel) (by decide +kernel) (by decide +kernel) (fun hp8q => ?_)
    refine n_iload (n := 5) (by decide +kernel) rfl ?_
    obtain ⟨v9, h9, hr⟩ := bso hr
    refine n_callVi G [_, _] (x := v9) (B_X10_isKept G hp0 hp8q (by decide +kernel) h9) (by decide) mX10_isKept ml_RX10_299 hp0 (by decide +kernel) rfl rfl (Nat.le_of_ble_eq_true rfl) (by decide +kernel) ?_
    refine n_if_ne (off := 6) (tgt := 59) (by decide +kernel) (by decide) (fun hc10 => ?_) (fun hc10 => ?_)
    · rw [if_neg hc10] at hr
      refine n_aload_n (n := 0) (by decide +kernel) rfl ?_
      refine n_aload_n (n := 0) (by decide +kernel) rfl ?_
      refine n_getI G fl_RX10_376 hp0 (by decide +kernel) (by decide +kernel) ?_
      refine n_ldcw G ct_RX10_379 (by decide +kernel) ?_
      refine n_imul (by decide +kernel) ?_
      refine n_sipush (n := 12345) (v := 12345) (by decide +kernel) (by decide +kernel) ?_
      refine n_iadd (by decide +kernel) ?_
      refine n_putI G fl_RX10_376 hp0 (by decide +kernel) (by decide +kernel) ?_
      refine n_aload_n (n := 0) (by decide +kernel) rfl ?_
      refine n_getI G fl_RX10_376 hp0 (by decide +kernel) (by decide +kernel) ?_
      refine n_bipush (n := 16) (v := 16) (by decide +kernel) rfl ?_
      refine n_ishr (by decide +kernel) ?_
      refine n_bipush (n := 15) (v := 15) (by decide +kernel) rfl ?_
      refine n_iand (by decide +kernel) ?_
      refine n_iload_n (n := 2) (by decide +kernel) rfl ?_
      refine n_icmp_ge (off := 21) (tgt := 107) (by decide +kernel) (by decide) (fun hc11 => ?_) (fun hc11 => ?_)
      · rw [if_pos hc11] at hr
        refine n_iincK (n := 5) (j := 1) (w := 1) (lo2 := [_, _, _, _, _, _]) (by decide +kernel) rfl rfl rfl ?_
        refine n_goto (off := -74) (tgt := 36) (by decide +kernel) (by decide) ?_
        cases hr
        exact hk
      · rw [if_neg hc11] at hr
        refine n_aload_n (n := 0) (by decide +kernel) rfl ?_
        refine n_getF (q := 197) G fl_RX10_64 hp0 (by decide +kernel) (by decide +kernel) (by decide +kernel) (fun hp12q => ?_)
        refine n_iload (n := 5) (by decide +kernel) rfl ?_
        refine n_bipush (n := 8) (v := 8) (by decide +kernel) rfl ?_
        refine n_irem (by decide) (by decide +kernel) ?_
        refine n_iload (n := 5) (by decide +kernel) rfl ?_
        refine n_bipush (n := 8) (v := 8) (by decide +kernel) rfl ?_
        refine n_idiv (by decide) (by decide +kernel) ?_
        refine n_iconst (n := 1) (v := 1) (by decide +kernel) rfl ?_
        obtain ⟨M13, h13, hr⟩ := bso hr
        refine n_callSv G [_, _, _, _] (M1 := M13) (B_X10_comes G hp12q (by decide +kernel) h13) (by decide) mX10_comes ml_RX10_174 rfl rfl (Nat.le_of_ble_eq_true rfl) (by decide +kernel) ?_
        refine n_iincK (n := 5) (j := 1) (w := 1) (lo2 := [_, _, _, _, _, _]) (by decide +kernel) rfl rfl rfl ?_
        refine n_goto (off := -74) (tgt := 36) (by decide +kernel) (by decide) ?_
        cases hr
        exact hk
    · rw [if_pos hc10] at hr
      refine n_goto (off := 51) (tgt := 107) (by decide +kernel) (by decide) ?_
      refine n_iincK (n := 5) (j := 1) (w := 1) (lo2 := [_, _, _, _, _, _]) (by decide +kernel) rfl rfl rfl ?_
      refine n_goto (off := -74) (tgt := 36) (by decide +kernel) (by decide) ?_
      cases hr
      exact hk
set_option maxRecDepth 100000 in
theorem W_X10_frosts_b36 (G : GG l s0 b L xs D cy ad) {x2 : Int32} {x3 : Int32} {x4 : Int32}  (hp0 : P 76) {s : (Int32 × Mm)} {e : Mm} (h : whl fu (f_X10_frosts_b36 x2 x3 x4) s = some e) (res : Rs) (M' : Mm) : Q_X10_frosts_b36 l s0 D cy ad P x2 x3 x4 res M' e → P_X10_frosts_b36 l s0 D cy ad P x2 x3 x4 res M' s := whl_run (P := fun s => P_X10_frosts_b36 l s0 D cy ad P x2 x3 x4 res M' s) (Q := fun e => Q_X10_frosts_b36 l s0 D cy ad P x2 x3 x4 res M' e) (B_X10_frosts_b36 G (res := res) (M' := M') (x2 := x2) (x3 := x3) (x4 := x4) hp0) fu s h
set_option maxRecDepth 100000 in
theorem B_X10_frosts_b19 (G : GG l s0 b L xs D cy ad) {x2 : Int32} {x3 : Int32}  {res : Rs} {M' : Mm} (hp0 : P 76) : ∀ (s : (Int32 × Mm)) (r : (Int32 × Mm) ⊕ Mm), f_X10_frosts_b19 x2 x3 s = some r → mtc (P_X10_frosts_b19 l s0 D cy ad P x2 x3 res M') (Q_X10_frosts_b19 l s0 D cy ad P x2 x3 res M') r → P_X10_frosts_b19 l s0 D cy ad P x2 x3 res M' s := by
  intro s r hr hk
  obtain ⟨x4, M⟩ := s
  unfold f_X10_frosts_b19 at hr
  try dsimp only at hr
  dsimp only [P_X10_frosts_b19]
  refine n_iload (n := 4) (by decide +kernel) rfl ?_
  refine n_iload_n (n := 3) (by decide +kernel) rfl ?_
  refine n_icmp_ge (off := 97) (tgt := 119) (by decide +kernel) (by decide) (fun hc4 => ?_) (fun hc4 => ?_)
  · rw [if_pos hc4] at hr
    cases hr
    refine n_msk [false, false, false, false, false, false] (lo2 := [.null, .null, .null, .null, .null, .null]) rfl rfl ?_
    exact hk
  · rw [if_neg hc4] at hr
    refine n_aload_n (n := 0) (by decide +kernel) rfl ?_
    refine n_aload_n (n := 0) (by decide +kernel) rfl ?_
    refine n_getF (q := 197) G fl_RX10_64 hp0 (by decide +kernel) (by decide +kernel) (by decide +kernel) (fun hp5q => ?_)
    obtain ⟨M6, h6, hr⟩ := bso hr
    refine n_callVv G [_] (M1 := M6) (B_X10_winters G hp0 hp5q (by decide +kernel) h6) (by decide) mX10_winters ml_RX10_288 hp0 (by decide +kernel) rfl rfl (Nat.le_of_ble_eq_true rfl) (by decide +kernel) ?_
    refine n_iconst (n := 0) (v := 0) (by decide +kernel) rfl ?_
    refine n_istore (n := 5) (lo2 := [_, _, _, _, _, _]) (by decide +kernel) (Nat.le_of_ble_eq_true rfl) rfl ?_
    obtain ⟨M14, h14, hr⟩ := bso hr
    refine (W_X10_frosts_b36 G hp0 h14 _ _) ?_
    dsimp only [Q_X10_frosts_b36]
    refine n_iincK (n := 4) (j := 1) (w := 1) (lo2 := [_, _, _, _, _, _]) (by decide +kernel) rfl rfl rfl ?_
    refine n_goto (off := -97) (tgt := 19) (by decide +kernel) (by decide) ?_
    cases hr
    exact hk
set_option maxRecDepth 100000 in
theorem W_X10_frosts_b19 (G : GG l s0 b L xs D cy ad) {x2 : Int32} {x3 : Int32}  (hp0 : P 76) {s : (Int32 × Mm)} {e : Mm} (h : whl fu (f_X10_frosts_b19 x2 x3) s = some e) (res : Rs) (M' : Mm) : Q_X10_frosts_b19 l s0 D cy ad P x2 x3 res M' e → P_X10_frosts_b19 l s0 D cy ad P x2 x3 res M' s := whl_run (P := fun s => P_X10_frosts_b19 l s0 D cy ad P x2 x3 res M' s) (Q := fun e => Q_X10_frosts_b19 l s0 D cy ad P x2 x3 res M' e) (B_X10_frosts_b19 G (res := res) (M' := M') (x2 := x2) (x3 := x3) hp0) fu s h
set_option maxRecDepth 100000 in
theorem B_X10_frosts (G : GG l s0 b L xs D cy ad)  {x1 : Int32} {x2 : Int32} {x3 : Int32} {M : Mm} {r : Mm} (hp0 : P 76) (hr : f_X10_frosts x1 x2 x3 M = some r) : Cl l s0 D cy ad P 15 KX10_frosts [.ref 76, .int x1, .int x2, .int x3] M (.inl none) (r) := by
  refine cl_ofN (by decide +kernel) rfl rfl rfl (lo0 := [_, _, _, _, .null, .null]) rfl ?_
  unfold f_X10_frosts at hr
  refine n_aload_n (n := 0) (by decide +kernel) rfl ?_
  refine n_getF (q := 196) G fl_RX10_61 hp0 (by decide +kernel) (by decide +kernel) (by decide +kernel) (fun hp1q => ?_)
  refine n_aload_n (n := 0) (by decide +kernel) rfl ?_
  refine n_getF (q := 197) G fl_RX10_64 hp0 (by decide +kernel) (by decide +kernel) (by decide +kernel) (fun hp2q => ?_)
  obtain ⟨M3, h3, hr⟩ := bso hr
  refine n_callSv G [_, _] (M1 := M3) (B_X10_copies G hp1q (by decide +kernel) hp2q (by decide +kernel) h3) (by decide) mX10_copies ml_RX10_318 rfl rfl (Nat.le_of_ble_eq_true rfl) (by decide +kernel) ?_
  refine n_aload_n (n := 0) (by decide +kernel) rfl ?_
  refine n_iload_n (n := 1) (by decide +kernel) rfl ?_
  refine n_putI G fl_RX10_376 hp0 (by decide +kernel) (by decide +kernel) ?_
  refine n_iconst (n := 0) (v := 0) (by decide +kernel) rfl ?_
  refine n_istore (n := 4) (lo2 := [_, _, _, _, _, _]) (by decide +kernel) (Nat.le_of_ble_eq_true rfl) rfl ?_
  obtain ⟨M15, h15, hr⟩ := bso hr
  refine n_msk [true, false, true, true, true, false] (lo2 := [_, .null, _, _, _, .null]) rfl rfl ?_
  refine (W_X10_frosts_b19 G hp0 h15 _ _) ?_
  dsimp only [Q_X10_frosts_b19]
  cases hr
  exact n_return (by decide +kernel)
set_option maxRecDepth 100000 in
theorem B_X10_frost_j41 (G : GG l s0 b L xs D cy ad) {x1 : Int32} {x2 : Int32} {x3 : Int32} {x4 : Int32} {xs1 : Int32} {M : Mm} {r : (Int32 × Mm)} (hp0 : P 76) (hp90 : P 76) (hr : f_X10_frost_j41 x1 x2 x3 x4 xs1 M = some r) : Rn l s0 D cy ad P 16 KX10_frost 41 [.ref 76, .int x1, .int x2, .int x3, .int x4] [.int xs1, .ref 76] M (.inl (some (.int r.1))) (r.2) := by
  unfold f_X10_frost_j41 at hr
  refine n_iconst (n := 1) (v := 1) (by decide +kernel) rfl ?_
  refine n_iconst (n := 2) (v := 2) (by decide +kernel) rfl ?_
  obtain ⟨⟨v3, M3⟩, h3, hr⟩ := bso hr
  try dsimp only at hr
  refine n_callVi G [_, _, _] (x := v3) (M1 := M3) (B_X10_bad G hp90 h3) (by decide) mX10_bad ml_RX10_161 hp90 (by decide +kernel) rfl rfl (Nat.le_of_ble_eq_true rfl) (by decide +kernel) ?_
  refine n_if_eq (off := 5) (tgt := 51) (by decide +kernel) (by decide) (fun hc4 => ?_) (fun hc4 => ?_)
  · rw [if_pos hc4] at hr
    refine n_aload_n (n := 0) (by decide +kernel) rfl ?_
    refine n_iload_n (n := 1) (by decide +kernel) rfl ?_
    refine n_iload_n (n := 2) (by decide +kernel) rfl ?_
    refine n_iload_n (n := 3) (by decide +kernel) rfl ?_
    obtain ⟨M5, h5, hr⟩ := bso hr
    refine n_callVv G [_, _, _] (M1 := M5) (B_X10_frosts G hp0 h5) (by decide) mX10_frosts ml_RX10_380 hp0 (by decide +kernel) rfl rfl (Nat.le_of_ble_eq_true rfl) (by decide +kernel) ?_
    refine n_iload (n := 4) (by decide +kernel) rfl ?_
    refine n_iconst (n := 2) (v := 2) (by decide +kernel) rfl ?_
    refine n_icmp_ge (off := 24) (tgt := 85) (by decide +kernel) (by decide) (fun hc6 => ?_) (fun hc6 => ?_)
    · rw [if_pos hc6] at hr
      refine n_aload_n (n := 0) (by decide +kernel) rfl ?_
      refine n_getF (q := 197) G fl_RX10_64 hp0 (by decide +kernel) (by decide +kernel) (by decide +kernel) (fun hp7q => ?_)
      refine n_sipush (n := 365) (v := 365) (by decide +kernel) (by decide +kernel) ?_
      obtain ⟨v8, h8, hr⟩ := bso hr
      refine n_iald G h8 hp7q (by decide +kernel) (by decide +kernel) (by decide +kernel) ?_
      refine n_aload_n (n := 0) (by decide +kernel) rfl ?_
      refine n_getF (q := 196) G fl_RX10_61 hp0 (by decide +kernel) (by decide +kernel) (by decide +kernel) (fun hp9q => ?_)
      refine n_sipush (n := 365) (v := 365) (by decide +kernel) (by decide +kernel) ?_
      obtain ⟨v10, h10, hr⟩ := bso hr
      refine n_iald G h10 hp9q (by decide +kernel) (by decide +kernel) (by decide +kernel) ?_
      refine n_isub (by decide +kernel) ?_
      cases hr
      exact n_ireturn (by decide +kernel)
    · rw [if_neg hc6] at hr
      refine n_aload_n (n := 0) (by decide +kernel) rfl ?_
      refine n_getF (q := 197) G fl_RX10_64 hp0 (by decide +kernel) (by decide +kernel) (by decide +kernel) (fun hp11q => ?_)
      refine n_iload (n := 4) (by decide +kernel) rfl ?_
      refine n_iconst (n := 1) (v := 1) (by decide +kernel) rfl ?_
      refine n_dia2 (J := 79) (c := x4 = (1 : Int32)) (a := (1 : Int32)) (b := (0 : Int32)) (fun hJ => ?_) ?_
      · refine n_icmp_ne (off := 7) (tgt := 78) (by decide +kernel) (by decide) (fun hc12 => ?_) (fun hc12 => ?_)
        · refine n_iconst (n := 0) (v := 0) (by decide +kernel) rfl ?_
          exact hJ _ (if_neg hc12).symm
        · refine n_iconst (n := 1) (v := 1) (by decide +kernel) rfl ?_
          refine n_goto (off := 4) (tgt := 79) (by decide +kernel) (by decide) ?_
          exact hJ _ (if_pos hc12).symm
      obtain ⟨v13, h13, hr⟩ := bso hr
      refine n_callSi G [_, _] (x := v13) (B_X10_thereMany G hp11q (by decide +kernel) h13) (by decide) mX10_thereMany ml_RX10_372 rfl rfl (Nat.le_of_ble_eq_true rfl) (by decide +kernel) ?_
      refine n_goto (off := 20) (tgt := 102) (by decide +kernel) (by decide) ?_
      cases hr
      exact n_ireturn (by decide +kernel)
  · rw [if_neg hc4] at hr
    refine n_iconst (n := 0) (v := 0) (by decide +kernel) rfl ?_
    cases hr
    exact n_ireturn (by decide +kernel)
set_option maxRecDepth 100000 in
theorem B_X10_frost_j36 (G : GG l s0 b L xs D cy ad) {x1 : Int32} {x2 : Int32} {x3 : Int32} {x4 : Int32} {M : Mm} {r : (Int32 × Mm)} (hp0 : P 76) (hp90 : P 76) (hr : f_X10_frost_j36 x1 x2 x3 x4 M = some r) : Rn l s0 D cy ad P 16 KX10_frost 36 [.ref 76, .int x1, .int x2, .int x3, .int x4] [.ref 76] M (.inl (some (.int r.1))) (r.2) := by
  unfold f_X10_frost_j36 at hr
  refine n_iconst (n := 1) (v := 1) (by decide +kernel) rfl ?_
  refine n_goto (off := 4) (tgt := 41) (by decide +kernel) (by decide) ?_
  exact B_X10_frost_j41 G hp0 hp90 hr
set_option maxRecDepth 100000 in
theorem B_X10_frost (G : GG l s0 b L xs D cy ad)  {x1 : Int32} {x2 : Int32} {x3 : Int32} {x4 : Int32} {M : Mm} {r : (Int32 × Mm)} (hp0 : P 76) (hr : f_X10_frost x1 x2 x3 x4 M = some r) : Cl l s0 D cy ad P 16 KX10_frost [.ref 76, .int x1, .int x2, .int x3, .int x4] M (.inl (some (.int r.1))) (r.2) := by
  refine cl_ofN (by decide +kernel) rfl rfl okI (lo0 := [_, _, _, _, _]) rfl ?_
  unfold f_X10_frost at hr
  refine n_aload_n (n := 0) (by decide +kernel) rfl ?_
  refine n_iconst (n := 0) (v := 0) (by decide +kernel) rfl ?_
  refine n_putI G fl_RX10_88 hp0 (by decide +kernel) (by decide +kernel) ?_
  refine n_aload_n (n := 0) (by decide +kernel) rfl ?_
  refine n_iload_n (n := 2) (by decide +kernel) rfl ?_
  refine n_iconst (n := 0) (v := 0) (by decide +kernel) rfl ?_
  refine n_bipush (n := 16) (v := 16) (by decide +kernel) rfl ?_
  obtain ⟨v1, h1, hr⟩ := bso hr
  refine n_callSi G [_, _, _] (x := v1) (B_X10_in G  h1) (by decide) mX10_in ml_RX10_122 rfl rfl (Nat.le_of_ble_eq_true rfl) (by decide +kernel) ?_
  refine n_if_eq (off := 23) (tgt := 36) (by decide +kernel) (by decide) (fun hc2 => ?_) (fun hc2 => ?_)
  · rw [if_pos hc2] at hr
    exact B_X10_frost_j36 G hp0 hp0 hr
  · rw [if_neg hc2] at hr
    refine n_iload_n (n := 3) (by decide +kernel) rfl ?_
    refine n_iconst (n := 1) (v := 1) (by decide +kernel) rfl ?_
    refine n_bipush (n := 20) (v := 20) (by decide +kernel) rfl ?_
    obtain ⟨v14, h14, hr⟩ := bso hr
    refine n_callSi G [_, _, _] (x := v14) (B_X10_in G  h14) (by decide) mX10_in ml_RX10_122 rfl rfl (Nat.le_of_ble_eq_true rfl) (by decide +kernel) ?_
    refine n_if_eq (off := 13) (tgt := 36) (by decide +kernel) (by decide) (fun hc15 => ?_) (fun hc15 => ?_)
    · rw [if_pos hc15] at hr
      exact B_X10_frost_j36 G hp0 hp0 hr
    · rw [if_neg hc15] at hr
      refine n_iload (n := 4) (by decide +kernel) rfl ?_
      refine n_iconst (n := 0) (v := 0) (by decide +kernel) rfl ?_
      refine n_iconst (n := 2) (v := 2) (by decide +kernel) rfl ?_
      obtain ⟨v16, h16, hr⟩ := bso hr
      refine n_callSi G [_, _, _] (x := v16) (B_X10_in G  h16) (by decide) mX10_in ml_RX10_122 rfl rfl (Nat.le_of_ble_eq_true rfl) (by decide +kernel) ?_
      refine n_if_ne (off := 7) (tgt := 40) (by decide +kernel) (by decide) (fun hc17 => ?_) (fun hc17 => ?_)
      · rw [if_neg hc17] at hr
        refine n_iconst (n := 0) (v := 0) (by decide +kernel) rfl ?_
        exact B_X10_frost_j41 G hp0 hp0 hr
      · rw [if_pos hc17] at hr
        exact B_X10_frost_j36 G hp0 hp0 hr
abbrev P_X10_span_b85 (l : Launch) (s0 : State) (D : va_G) (cy : Nat → ClassId) (ad : Nat → Nat) (P : Nat → Prop) (x1 : Int32) (x2 : Int32) (x3 : Int32) (x4 : Int32) (x5 : Int32) (x6 : Int32)  (res : Rs) (M' : Mm) (s : (Int32 × Int32 × Int32 × Int32 × Mm)) : Prop := Rn l s0 D cy ad P 16 KX10_span 85 [.ref 76, .int x1, .int x2, .int x3, .int x4, .int x5, .int x6, .int (s.1), .int (s.2.1), .int (s.2.2.1), .int (s.2.2.2.1), .null] [] (s.2.2.2.2) res M'
abbrev Q_X10_span_b85 (l : Launch) (s0 : State) (D : va_G) (cy : Nat → ClassId) (ad : Nat → Nat) (P : Nat → Prop) (x1 : Int32) (x2 : Int32) (x3 : Int32) (x4 : Int32) (x5 : Int32) (x6 : Int32)  (res : Rs) (M' : Mm) (e : (Int32 × Int32 × Int32 × Mm)) : Prop := Rn l s0 D cy ad P 16 KX10_span 164 [.null, .null, .null, .null, .null, .null, .int x6, .int (e.1), .int (e.2.1), .int (e.2.2.1), .null, .null] [] (e.2.2.2) res M'
set_option maxRecDepth 100000 in
theorem B_X10_span_j130 (G : GG l s0 b L xs D cy ad) {x1 : Int32} {x2 : Int32} {x3 : Int32} {x4 : Int32} {x5 : Int32} {x6 : Int32} {x8 : Int32} {x9 : Int32} {x10 : Int32} {x11 : Int32} {xs0 : Int32} {M : Mm}  {res : Rs} {M' : Mm} {r : ((Int32 × Int32 × Int32 × Int32 × Mm) ⊕ (Int32 × Int32 × Int32 × Mm))} (hp0 : P 76) (hr : f_X10_span_j130 x1 x2 x3 x4 x5 x6 x8 x9 x10 x11 xs0 M = some r) (hk : mtc (P_X10_span_b85 l s0 D cy ad P x1 x2 x3 x4 x5 x6 res M') (Q_X10_span_b85 l s0 D cy ad P x1 x2 x3 x4 x5 x6 res M') r) : Rn l s0 D cy ad P 16 KX10_span 130 [.ref 76, .int x1, .int x2, .int x3, .int x4, .int x5, .int x6, .null, .int x8, .int x9, .int x10, .int x11] [.int xs0] M res M' := by
  unfold f_X10_span_j130 at hr
  refine n_istore (n := 7) (lo2 := [_, _, _, _, _, _, _, _, _, _, _, _]) (by decide +kernel) (Nat.le_of_ble_eq_true rfl) rfl ?_
  refine n_iload (n := 8) (by decide +kernel) rfl ?_
  refine n_iload (n := 11) (by decide +kernel) rfl ?_
  obtain ⟨v11, h11, hr⟩ := bso hr
  refine n_callSi G [_, _] (x := v11) (B_X10_more G  h11) (by decide) mX10_more ml_RX10_251 rfl rfl (Nat.le_of_ble_eq_true rfl) (by decide +kernel) ?_
  refine n_istore (n := 8) (lo2 := [_, _, _, _, _, _, _, _, _, _, _, _]) (by decide +kernel) (Nat.le_of_ble_eq_true rfl) rfl ?_
  refine n_iload (n := 9) (by decide +kernel) rfl ?_
  refine n_iload (n := 11) (by decide +kernel) rfl ?_
  refine n_iload (n := 5) (by decide +kernel) rfl ?_
  refine n_dia2 (J := 155) (c := x5 < x11) (a := (0 : Int32)) (b := (1 : Int32)) (fun hJ => ?_) ?_
  · refine n_icmp_gt (off := 7) (tgt := 154) (by decide +kernel) (by decide) (fun hc12 => ?_) (fun hc12 => ?_)
    · refine n_iconst (n := 0) (v := 0) (by decide +kernel) rfl ?_
      exact hJ _ (if_pos hc12).symm
    · refine n_iconst (n := 1) (v := 1) (by decide +kernel) rfl ?_
      refine n_goto (off := 4) (tgt := 155) (by decide +kernel) (by decide) ?_
      exact hJ _ (if_neg hc12).symm
  refine n_iadd (by decide +kernel) ?_
  refine n_istore (n := 9) (lo2 := [_, _, _, _, _, _, _, _, _, _, _, _]) (by decide +kernel) (Nat.le_of_ble_eq_true rfl) rfl ?_
  refine n_iincK (n := 10) (j := 1) (w := 1) (lo2 := [_, _, _, _, _, _, _, _, _, _, _, _]) (by decide +kernel) rfl rfl rfl ?_
  refine n_goto (off := -76) (tgt := 85) (by decide +kernel) (by decide) ?_
  cases hr
  refine n_msk [true, true, true, true, true, true, true, true, true, true, true, false] (lo2 := [_, _, _, _, _, _, _, _, _, _, _, .null]) rfl rfl ?_
  exact hk
set_option maxRecDepth 100000 in
theorem B_X10_span_b85 (G : GG l s0 b L xs D cy ad) {x1 : Int32} {x2 : Int32} {x3 : Int32} {x4 : Int32} {x5 : Int32} {x6 : Int32}  {res : Rs} {M' : Mm} (hp0 : P 76) : ∀ (s : (Int32 × Int32 × Int32 × Int32 × Mm)) (r : (Int32 × Int32 × Int32 × Int32 × Mm) ⊕ (Int32 × Int32 × Int32 × Mm)), f_X10_span_b85 x1 x2 x3 x4 x5 x6 s = some r → mtc (P_X10_span_b85 l s0 D cy ad P x1 x2 x3 x4 x5 x6 res M') (Q_X10_span_b85 l s0 D cy ad P x1 x2 x3 x4 x5 x6 res M') r → P_X10_span_b85 l s0 D cy ad P x1 x2 x3 x4 x5 x6 res M' s := by
  intro s r hr hk
  obtain ⟨x7, x8, x9, x10, M⟩ := s
  unfold f_X10_span_b85 at hr
  try dsimp only at hr
  dsimp only [P_X10_span_b85]
  refine n_iload (n := 10) (by decide +kernel) rfl ?_
  refine n_iload_n (n := 2) (by decide +kernel) rfl ?_
  refine n_icmp_ge (off := 76) (tgt := 164) (by decide +kernel) (by decide) (fun hc5 => ?_) (fun hc5 => ?_)
  · rw [if_pos hc5] at hr
    cases hr
    refine n_msk [false, false, false, false, false, false, true, true, true, true, false, false] (lo2 := [.null, .null, .null, .null, .null, .null, _, _, _, _, .null, .null]) rfl rfl ?_
    exact hk
  · rw [if_neg hc5] at hr
    refine n_aload_n (n := 0) (by decide +kernel) rfl ?_
    refine n_iload_n (n := 1) (by decide +kernel) rfl ?_
    refine n_iload (n := 10) (by decide +kernel) rfl ?_
    refine n_iadd (by decide +kernel) ?_
    refine n_iload_n (n := 3) (by decide +kernel) rfl ?_
    refine n_iload (n := 4) (by decide +kernel) rfl ?_
    obtain ⟨M6, h6, hr⟩ := bso hr
    refine n_callVv G [_, _, _] (M1 := M6) (B_X10_frosts G hp0 h6) (by decide) mX10_frosts ml_RX10_380 hp0 (by decide +kernel) rfl rfl (Nat.le_of_ble_eq_true rfl) (by decide +kernel) ?_
    refine n_aload_n (n := 0) (by decide +kernel) rfl ?_
    refine n_getF (q := 197) G fl_RX10_64 hp0 (by decide +kernel) (by decide +kernel) (by decide +kernel) (fun hp7q => ?_)
    refine n_iconst (n := 0) (v := 0) (by decide +kernel) rfl ?_
    obtain ⟨v8, h8, hr⟩ := bso hr
    refine n_callSi G [_, _] (x := v8) (B_X10_thereMany G hp7q (by decide +kernel) h8) (by decide) mX10_thereMany ml_RX10_372 rfl rfl (Nat.le_of_ble_eq_true rfl) (by decide +kernel) ?_
    refine n_istore (n := 11) (lo2 := [_, _, _, _, _, _, _, _, _, _, _, _]) (by decide +kernel) (Nat.le_of_ble_eq_true rfl) rfl ?_
    refine n_iload (n := 7) (by decide +kernel) rfl ?_
    refine n_iconst (n := -1) (v := -1) (by decide +kernel) rfl ?_
    refine n_icmp_ne (off := 8) (tgt := 123) (by decide +kernel) (by decide) (fun hc9 => ?_) (fun hc9 => ?_)
    · rw [if_neg hc9] at hr
      refine n_iload (n := 7) (by decide +kernel) rfl ?_
      refine n_iload (n := 11) (by decide +kernel) rfl ?_
      obtain ⟨v10, h10, hr⟩ := bso hr
      refine n_callSi G [_, _] (x := v10) (B_X10_less G  h10) (by decide) mX10_less ml_RX10_248 rfl rfl (Nat.le_of_ble_eq_true rfl) (by decide +kernel) ?_
      refine n_msk [true, true, true, true, true, true, true, false, true, true, true, true] (lo2 := [_, _, _, _, _, _, _, .null, _, _, _, _]) rfl rfl ?_
      exact B_X10_span_j130 G hp0 hr hk
    · rw [if_pos hc9] at hr
      refine n_iload (n := 11) (by decide +kernel) rfl ?_
      refine n_goto (off := 10) (tgt := 130) (by decide +kernel) (by decide) ?_
      refine n_msk [true, true, true, true, true, true, true, false, true, true, true, true] (lo2 := [_, _, _, _, _, _, _, .null, _, _, _, _]) rfl rfl ?_
      exact B_X10_span_j130 G hp0 hr hk
set_option maxRecDepth 100000 in
theorem W_X10_span_b85 (G : GG l s0 b L xs D cy ad) {x1 : Int32} {x2 : Int32} {x3 : Int32} {x4 : Int32} {x5 : Int32} {x6 : Int32}  (hp0 : P 76) {s : (Int32 × Int32 × Int32 × Int32 × Mm)} {e : (Int32 × Int32 × Int32 × Mm)} (h : whl fu (f_X10_span_b85 x1 x2 x3 x4 x5 x6) s = some e) (res : Rs) (M' : Mm) : Q_X10_span_b85 l s0 D cy ad P x1 x2 x3 x4 x5 x6 res M' e → P_X10_span_b85 l s0 D cy ad P x1 x2 x3 x4 x5 x6 res M' s := whl_run (P := fun s => P_X10_span_b85 l s0 D cy ad P x1 x2 x3 x4 x5 x6 res M' s) (Q := fun e => Q_X10_span_b85 l s0 D cy ad P x1 x2 x3 x4 x5 x6 res M' e) (B_X10_span_b85 G (res := res) (M' := M') (x1 := x1) (x2 := x2) (x3 := x3) (x4 := x4) (x5 := x5) (x6 := x6) hp0) fu s h
set_option maxRecDepth 100000 in
theorem B_X10_span_j63 (G : GG l s0 b L xs D cy ad) {x1 : Int32} {x2 : Int32} {x3 : Int32} {x4 : Int32} {x5 : Int32} {x6 : Int32} {xs1 : Int32} {M : Mm} {r : (Int32 × Mm)} (hp0 : P 76) (hp90 : P 76) (hr : f_X10_span_j63 x1 x2 x3 x4 x5 x6 xs1 M = some r) : Rn l s0 D cy ad P 16 KX10_span 63 [.ref 76, .int x1, .int x2, .int x3, .int x4, .int x5, .int x6, .null, .null, .null, .null, .null] [.int xs1, .ref 76] M (.inl (some (.int r.1))) (r.2) := by
  unfold f_X10_span_j63 at hr
  refine n_iconst (n := 1) (v := 1) (by decide +kernel) rfl ?_
  refine n_iconst (n := 2) (v := 2) (by decide +kernel) rfl ?_
  obtain ⟨⟨v3, M3⟩, h3, hr⟩ := bso hr
  try dsimp only at hr
  refine n_callVi G [_, _, _] (x := v3) (M1 := M3) (B_X10_bad G hp90 h3) (by decide) mX10_bad ml_RX10_161 hp90 (by decide +kernel) rfl rfl (Nat.le_of_ble_eq_true rfl) (by decide +kernel) ?_
  refine n_if_eq (off := 5) (tgt := 73) (by decide +kernel) (by decide) (fun hc4 => ?_) (fun hc4 => ?_)
  · rw [if_pos hc4] at hr
    refine n_iconst (n := -1) (v := -1) (by decide +kernel) rfl ?_
    refine n_istore (n := 7) (lo2 := [_, _, _, _, _, _, _, _, _, _, _, _]) (by decide +kernel) (Nat.le_of_ble_eq_true rfl) rfl ?_
    refine n_iconst (n := 0) (v := 0) (by decide +kernel) rfl ?_
    refine n_istore (n := 8) (lo2 := [_, _, _, _, _, _, _, _, _, _, _, _]) (by decide +kernel) (Nat.le_of_ble_eq_true rfl) rfl ?_
    refine n_iconst (n := 0) (v := 0) (by decide +kernel) rfl ?_
    refine n_istore (n := 9) (lo2 := [_, _, _, _, _, _, _, _, _, _, _, _]) (by decide +kernel) (Nat.le_of_ble_eq_true rfl) rfl ?_
    refine n_iconst (n := 0) (v := 0) (by decide +kernel) rfl ?_
    refine n_istore (n := 10) (lo2 := [_, _, _, _, _, _, _, _, _, _, _, _]) (by decide +kernel) (Nat.le_of_ble_eq_true rfl) rfl ?_
    obtain ⟨e13, h13, hr⟩ := bso hr
    refine (W_X10_span_b85 G hp0 h13 _ _) ?_
    obtain ⟨z7_13, z8_13, z9_13, M13⟩ := e13
    try dsimp only at hr
    dsimp only [Q_X10_span_b85]
    refine n_iload (n := 6) (by decide +kernel) rfl ?_
    refine n_if_ne (off := 8) (tgt := 174) (by decide +kernel) (by decide) (fun hc14 => ?_) (fun hc14 => ?_)
    · rw [if_neg hc14] at hr
      refine n_iload (n := 6) (by decide +kernel) rfl ?_
      refine n_iconst (n := 1) (v := 1) (by decide +kernel) rfl ?_
      refine n_icmp_ne (off := 8) (tgt := 185) (by decide +kernel) (by decide) (fun hc15 => ?_) (fun hc15 => ?_)
      · rw [if_neg hc15] at hr
        refine n_iload (n := 9) (by decide +kernel) rfl ?_
        cases hr
        exact n_ireturn (by decide +kernel)
      · rw [if_pos hc15] at hr
        refine n_iload (n := 8) (by decide +kernel) rfl ?_
        refine n_goto (off := 5) (tgt := 187) (by decide +kernel) (by decide) ?_
        cases hr
        exact n_ireturn (by decide +kernel)
    · rw [if_pos hc14] at hr
      refine n_iload (n := 7) (by decide +kernel) rfl ?_
      refine n_goto (off := 16) (tgt := 187) (by decide +kernel) (by decide) ?_
      cases hr
      exact n_ireturn (by decide +kernel)
  · rw [if_neg hc4] at hr
    refine n_iconst (n := 0) (v := 0) (by decide +kernel) rfl ?_
    cases hr
    exact n_ireturn (by decide +kernel)
set_option maxRecDepth 100000 in
theorem B_X10_span_j58 (G : GG l s0 b L xs D cy ad) {x1 : Int32} {x2 : Int32} {x3 : Int32} {x4 : Int32} {x5 : Int32} {x6 : Int32} {M : Mm} {r : (Int32 × Mm)} (hp0 : P 76) (hp90 : P 76) (hr : f_X10_span_j58 x1 x2 x3 x4 x5 x6 M = some r) : Rn l s0 D cy ad P 16 KX10_span 58 [.ref 76, .int x1, .int x2, .int x3, .int x4, .int x5, .int x6, .null, .null, .null, .null, .null] [.ref 76] M (.inl (some (.int r.1))) (r.2) := by
  unfold f_X10_span_j58 at hr
  refine n_iconst (n := 1) (v := 1) (by decide +kernel) rfl ?_
  refine n_goto (off := 4) (tgt := 63) (by decide +kernel) (by decide) ?_
  exact B_X10_span_j63 G hp0 hp90 hr
set_option maxRecDepth 100000 in
theorem B_X10_span (G : GG l s0 b L xs D cy ad)  {x1 : Int32} {x2 : Int32} {x3 : Int32} {x4 : Int32} {x5 : Int32} {x6 : Int32} {M : Mm} {r : (Int32 × Mm)} (hp0 : P 76) (hr : f_X10_span x1 x2 x3 x4 x5 x6 M = some r) : Cl l s0 D cy ad P 16 KX10_span [.ref 76, .int x1, .int x2, .int x3, .int x4, .int x5, .int x6] M (.inl (some (.int r.1))) (r.2) := by
  refine cl_ofN (by decide +kernel) rfl rfl okI (lo0 := [_, _, _, _, _, _, _, .null, .null, .null, .null, .null]) rfl ?_
  unfold f_X10_span at hr
  refine n_aload_n (n := 0) (by decide +kernel) rfl ?_
  refine n_iconst (n := 0) (v := 0) (by decide +kernel) rfl ?_
  refine n_putI G fl_RX10_88 hp0 (by decide +kernel) (by decide +kernel) ?_
  refine n_aload_n (n := 0) (by decide +kernel) rfl ?_
  refine n_iload_n (n := 2) (by decide +kernel) rfl ?_
  refine n_iconst (n := 1) (v := 1) (by decide +kernel) rfl ?_
  refine n_bipush (n := 20) (v := 20) (by decide +kernel) rfl ?_
  obtain ⟨v1, h1, hr⟩ := bso hr
  refine n_callSi G [_, _, _] (x := v1) (B_X10_in G  h1) (by decide) mX10_in ml_RX10_122 rfl rfl (Nat.le_of_ble_eq_true rfl) (by decide +kernel) ?_
  refine n_if_eq (off := 45) (tgt := 58) (by decide +kernel) (by decide) (fun hc2 => ?_) (fun hc2 => ?_)
  · rw [if_pos hc2] at hr
    exact B_X10_span_j58 G hp0 hp0 hr
  · rw [if_neg hc2] at hr
    refine n_iload_n (n := 3) (by decide +kernel) rfl ?_
    refine n_iconst (n := 0) (v := 0) (by decide +kernel) rfl ?_
    refine n_bipush (n := 16) (v := 16) (by decide +kernel) rfl ?_
    obtain ⟨v16, h16, hr⟩ := bso hr
    refine n_callSi G [_, _, _] (x := v16) (B_X10_in G  h16) (by decide) mX10_in ml_RX10_122 rfl rfl (Nat.le_of_ble_eq_true rfl) (by decide +kernel) ?_
    refine n_if_eq (off := 35) (tgt := 58) (by decide +kernel) (by decide) (fun hc17 => ?_) (fun hc17 => ?_)
    · rw [if_pos hc17] at hr
      exact B_X10_span_j58 G hp0 hp0 hr
    · rw [if_neg hc17] at hr
      refine n_iload (n := 4) (by decide +kernel) rfl ?_
      refine n_iconst (n := 1) (v := 1) (by decide +kernel) rfl ?_
      refine n_bipush (n := 20) (v := 20) (by decide +kernel) rfl ?_
      obtain ⟨v18, h18, hr⟩ := bso hr
      refine n_callSi G [_, _, _] (x := v18) (B_X10_in G  h18) (by decide) mX10_in ml_RX10_122 rfl rfl (Nat.le_of_ble_eq_true rfl) (by decide +kernel) ?_
      refine n_if_eq (off := 24) (tgt := 58) (by decide +kernel) (by decide) (fun hc19 => ?_) (fun hc19 => ?_)
      · rw [if_pos hc19] at hr
        exact B_X10_span_j58 G hp0 hp0 hr
      · rw [if_neg hc19] at hr
        refine n_iload (n := 5) (by decide +kernel) rfl ?_
        refine n_iconst (n := 0) (v := 0) (by decide +kernel) rfl ?_
        refine n_bipush (n := 60) (v := 60) (by decide +kernel) rfl ?_
        obtain ⟨v20, h20, hr⟩ := bso hr
        refine n_callSi G [_, _, _] (x := v20) (B_X10_in G  h20) (by decide) mX10_in ml_RX10_122 rfl rfl (Nat.le_of_ble_eq_true rfl) (by decide +kernel) ?_
        refine n_if_eq (off := 13) (tgt := 58) (by decide +kernel) (by decide) (fun hc21 => ?_) (fun hc21 => ?_)
        · rw [if_pos hc21] at hr
          exact B_X10_span_j58 G hp0 hp0 hr
        · rw [if_neg hc21] at hr
          refine n_iload (n := 6) (by decide +kernel) rfl ?_
          refine n_iconst (n := 0) (v := 0) (by decide +kernel) rfl ?_
          refine n_iconst (n := 2) (v := 2) (by decide +kernel) rfl ?_
          obtain ⟨v22, h22, hr⟩ := bso hr
          refine n_callSi G [_, _, _] (x := v22) (B_X10_in G  h22) (by decide) mX10_in ml_RX10_122 rfl rfl (Nat.le_of_ble_eq_true rfl) (by decide +kernel) ?_
          refine n_if_ne (off := 7) (tgt := 62) (by decide +kernel) (by decide) (fun hc23 => ?_) (fun hc23 => ?_)
          · rw [if_neg hc23] at hr
            refine n_iconst (n := 0) (v := 0) (by decide +kernel) rfl ?_
            exact B_X10_span_j63 G hp0 hp0 hr
          · rw [if_pos hc23] at hr
            exact B_X10_span_j58 G hp0 hp0 hr
set_option maxRecDepth 100000 in
theorem B_X10_farNow (G : GG l s0 b L xs D cy ad)  {x1 : Int32} {M : Mm} {r : Int32} (hp0 : P 76) (hr : f_X10_farNow x1 M = some r) : Cl l s0 D cy ad P 10 KX10_farNow [.ref 76, .int x1] M (.inl (some (.int r))) (M) := by
  refine cl_ofN (by decide +kernel) rfl rfl okI (lo0 := [_, _]) rfl ?_
  unfold f_X10_farNow at hr
  refine n_aload_n (n := 0) (by decide +kernel) rfl ?_
  refine n_getF (q := 196) G fl_RX10_61 hp0 (by decide +kernel) (by decide +kernel) (by decide +kernel) (fun hp1q => ?_)
  refine n_iload_n (n := 1) (by decide +kernel) rfl ?_
  refine n_iconst (n := 0) (v := 0) (by decide +kernel) rfl ?_
  obtain ⟨v2, h2, hr⟩ := bso hr
  refine n_callSi G [_, _, _] (x := v2) (B_X10_of G hp1q (by decide +kernel) h2) (by decide) mX10_of ml_RX10_222 rfl rfl (Nat.le_of_ble_eq_true rfl) (by decide +kernel) ?_
  refine n_aload_n (n := 0) (by decide +kernel) rfl ?_
  refine n_getF (q := 196) G fl_RX10_61 hp0 (by decide +kernel) (by decide +kernel) (by decide +kernel) (fun hp3q => ?_)
  refine n_iload_n (n := 1) (by decide +kernel) rfl ?_
  refine n_iconst (n := 1) (v := 1) (by decide +kernel) rfl ?_
  obtain ⟨v4, h4, hr⟩ := bso hr
  refine n_callSi G [_, _, _] (x := v4) (B_X10_of G hp3q (by decide +kernel) h4) (by decide) mX10_of ml_RX10_222 rfl rfl (Nat.le_of_ble_eq_true rfl) (by decide +kernel) ?_
  refine n_aload_n (n := 0) (by decide +kernel) rfl ?_
  refine n_getF (q := 196) G fl_RX10_61 hp0 (by decide +kernel) (by decide +kernel) (by decide +kernel) (fun hp5q => ?_)
  refine n_sipush (n := 361) (v := 361) (by decide +kernel) (by decide +kernel) ?_
  obtain ⟨v6, h6, hr⟩ := bso hr
  refine n_iald G h6 hp5q (by decide +kernel) (by decide +kernel) (by decide +kernel) ?_
  refine n_aload_n (n := 0) (by decide +kernel) rfl ?_
  refine n_getF (q := 196) G fl_RX10_61 hp0 (by decide +kernel) (by decide +kernel) (by decide +kernel) (fun hp7q => ?_)
  refine n_sipush (n := 362) (v := 362) (by decide +kernel) (by decide +kernel) ?_
  obtain ⟨v8, h8, hr⟩ := bso hr
  refine n_iald G h8 hp7q (by decide +kernel) (by decide +kernel) (by decide +kernel) ?_
  obtain ⟨v9, h9, hr⟩ := bso hr
  refine n_callSi G [_, _, _, _] (x := v9) (B_X10_farOf G  h9) (by decide) mX10_farOf ml_RX10_266 rfl rfl (Nat.le_of_ble_eq_true rfl) (by decide +kernel) ?_
  cases hr
  exact n_ireturn (by decide +kernel)
abbrev P_X10_chosen_b34 (l : Launch) (s0 : State) (D : va_G) (cy : Nat → ClassId) (ad : Nat → Nat) (P : Nat → Prop) (x1 : Int32) (M : Mm) (res : Rs) (M' : Mm) (s : (Int32 × Int32)) : Prop := Rn l s0 D cy ad P 11 KX10_chosen 34 [.ref 76, .int x1, .int (s.1), .int (s.2)] [] M res M'
abbrev Q_X10_chosen_b34 (l : Launch) (s0 : State) (D : va_G) (cy : Nat → ClassId) (ad : Nat → Nat) (P : Nat → Prop) (x1 : Int32) (M : Mm) (res : Rs) (M' : Mm) (e : Int32) : Prop := Rn l s0 D cy ad P 11 KX10_chosen 111 [.null, .null, .int (e), .null] [] M res M'
set_option maxRecDepth 100000 in
theorem B_X10_chosen_j103 (G : GG l s0 b L xs D cy ad) {x1 : Int32} {x3 : Int32} {M : Mm}  {res : Rs} {M' : Mm} {r : ((Int32 × Int32) ⊕ Int32)} (hp0 : P 76) (hr : f_X10_chosen_j103 x1 x3 M = some r) (hk : mtc (P_X10_chosen_b34 l s0 D cy ad P x1 M res M') (Q_X10_chosen_b34 l s0 D cy ad P x1 M res M') r) : Rn l s0 D cy ad P 11 KX10_chosen 103 [.ref 76, .int x1, .null, .int x3] [] M res M' := by
  unfold f_X10_chosen_j103 at hr
  refine n_iload_n (n := 3) (by decide +kernel) rfl ?_
  refine n_istore_n (n := 2) (lo2 := [_, _, _, _]) (by decide +kernel) (Nat.le_of_ble_eq_true rfl) rfl ?_
  refine n_iincK (n := 3) (j := 1) (w := 1) (lo2 := [_, _, _, _]) (by decide +kernel) rfl rfl rfl ?_
  refine n_goto (off := -74) (tgt := 34) (by decide +kernel) (by decide) ?_
  cases hr
  exact hk
set_option maxRecDepth 100000 in
theorem B_X10_chosen_b34 (G : GG l s0 b L xs D cy ad) {x1 : Int32} {M : Mm} {res : Rs} {M' : Mm} (hp0 : P 76) : ∀ (s : (Int32 × Int32)) (r : (Int32 × Int32) ⊕ Int32), f_X10_chosen_b34 x1 M s = some r → mtc (P_X10_chosen_b34 l s0 D cy ad P x1 M res M') (Q_X10_chosen_b34 l s0 D cy ad P x1 M res M') r → P_X10_chosen_b34 l s0 D cy ad P x1 M res M' s := by
  intro s r hr hk
  obtain ⟨x2, x3⟩ := s
  unfold f_X10_chosen_b34 at hr
  try dsimp only at hr
  dsimp only [P_X10_chosen_b34]
  refine n_iload_n (n := 3) (by decide +kernel) rfl ?_
  refine n_aload_n (n := 0) (by decide +kernel) rfl ?_
  refine n_getF (q := 196) G fl_RX10_61 hp0 (by decide +kernel) (by decide +kernel) (by decide +kernel) (fun hp5q => ?_)
  refine n_sipush (n := 360) (v := 360) (by decide +kernel) (by decide +kernel) ?_
  obtain ⟨v6, h6, hr⟩ := bso hr
  refine n_iald G h6 hp5q (by decide +kernel) (by decide +kernel) (by decide +kernel) ?_
  refine n_icmp_ge (off := 68) (tgt := 111) (by decide +kernel) (by decide) (fun hc7 => ?_) (fun hc7 => ?_)
  · rw [if_pos hc7] at hr
    cases hr
    refine n_msk [false, false, true, false] (lo2 := [.null, .null, _, .null]) rfl rfl ?_
    exact hk
  · rw [if_neg hc7] at hr
    refine n_aload_n (n := 0) (by decide +kernel) rfl ?_
    refine n_getF (q := 196) G fl_RX10_61 hp0 (by decide +kernel) (by decide +kernel) (by decide +kernel) (fun hp8q => ?_)
    refine n_iload_n (n := 3) (by decide +kernel) rfl ?_
    obtain ⟨v9, h9, hr⟩ := bso hr
    refine n_callSi G [_, _] (x := v9) (B_X10_isLying G hp8q (by decide +kernel) h9) (by decide) mX10_isLying ml_RX10_226 rfl rfl (Nat.le_of_ble_eq_true rfl) (by decide +kernel) ?_
    refine n_if_eq (off := 51) (tgt := 105) (by decide +kernel) (by decide) (fun hc10 => ?_) (fun hc10 => ?_)
    · rw [if_pos hc10] at hr
      refine n_iincK (n := 3) (j := 1) (w := 1) (lo2 := [_, _, _, _]) (by decide +kernel) rfl rfl rfl ?_
      refine n_goto (off := -74) (tgt := 34) (by decide +kernel) (by decide) ?_
      cases hr
      exact hk
    · rw [if_neg hc10] at hr
      refine n_iload_n (n := 2) (by decide +kernel) rfl ?_
      refine n_iconst (n := -1) (v := -1) (by decide +kernel) rfl ?_
      refine n_icmp_eq (off := 44) (tgt := 103) (by decide +kernel) (by decide) (fun hc11 => ?_) (fun hc11 => ?_)
      · rw [if_pos hc11] at hr
        refine n_msk [true, true, false, true] (lo2 := [_, _, .null, _]) rfl rfl ?_
        exact B_X10_chosen_j103 G hp0 hr hk
      · rw [if_neg hc11] at hr
        refine n_iload_n (n := 1) (by decide +kernel) rfl ?_
        refine n_if_ne (off := 27) (tgt := 90) (by decide +kernel) (by decide) (fun hc12 => ?_) (fun hc12 => ?_)
        · rw [if_neg hc12] at hr
          refine n_aload_n (n := 0) (by decide +kernel) rfl ?_
          refine n_iload_n (n := 3) (by decide +kernel) rfl ?_
          obtain ⟨v13, h13, hr⟩ := bso hr
          refine n_callVi G [_] (x := v13) (B_X10_farNow G hp0 h13) (by decide) mX10_farNow ml_RX10_384 hp0 (by decide +kernel) rfl rfl (Nat.le_of_ble_eq_true rfl) (by decide +kernel) ?_
          refine n_aload_n (n := 0) (by decide +kernel) rfl ?_
          refine n_iload_n (n := 2) (by decide +kernel) rfl ?_
          obtain ⟨v14, h14, hr⟩ := bso hr
          refine n_callVi G [_] (x := v14) (B_X10_farNow G hp0 h14) (by decide) mX10_farNow ml_RX10_384 hp0 (by decide +kernel) rfl rfl (Nat.le_of_ble_eq_true rfl) (by decide +kernel) ?_
          refine n_icmp_ge (off := 5) (tgt := 105) (by decide +kernel) (by decide) (fun hc15 => ?_) (fun hc15 => ?_)
          · rw [if_pos hc15] at hr
            refine n_iincK (n := 3) (j := 1) (w := 1) (lo2 := [_, _, _, _]) (by decide +kernel) rfl rfl rfl ?_
            refine n_goto (off := -74) (tgt := 34) (by decide +kernel) (by decide) ?_
            cases hr
            exact hk
          · rw [if_neg hc15] at hr
            refine n_msk [true, true, false, true] (lo2 := [_, _, .null, _]) rfl rfl ?_
            exact B_X10_chosen_j103 G hp0 hr hk
        · rw [if_pos hc12] at hr
          refine n_aload_n (n := 0) (by decide +kernel) rfl ?_
          refine n_getF (q := 196) G fl_RX10_61 hp0 (by decide +kernel) (by decide +kernel) (by decide +kernel) (fun hp16q => ?_)
          refine n_iload_n (n := 3) (by decide +kernel) rfl ?_
          refine n_iconst (n := 2) (v := 2) (by decide +kernel) rfl ?_
          obtain ⟨v17, h17, hr⟩ := bso hr
          refine n_callSi G [_, _, _] (x := v17) (B_X10_of G hp16q (by decide +kernel) h17) (by decide) mX10_of ml_RX10_222 rfl rfl (Nat.le_of_ble_eq_true rfl) (by decide +kernel) ?_
          refine n_aload_n (n := 0) (by decide +kernel) rfl ?_
          refine n_getF (q := 196) G fl_RX10_61 hp0 (by decide +kernel) (by decide +kernel) (by decide +kernel) (fun hp18q => ?_)
          refine n_iload_n (n := 2) (by decide +kernel) rfl ?_
          refine n_iconst (n := 2) (v := 2) (by decide +kernel) rfl ?_
          obtain ⟨v19, h19, hr⟩ := bso hr
          refine n_callSi G [_, _, _] (x := v19) (B_X10_of G hp18q (by decide +kernel) h19) (by decide) mX10_of ml_RX10_222 rfl rfl (Nat.le_of_ble_eq_true rfl) (by decide +kernel) ?_
          refine n_icmp_le (off := 21) (tgt := 105) (by decide +kernel) (by decide) (fun hc20 => ?_) (fun hc20 => ?_)
          · rw [if_pos hc20] at hr
            refine n_iincK (n := 3) (j := 1) (w := 1) (lo2 := [_, _, _, _]) (by decide +kernel) rfl rfl rfl ?_
            refine n_goto (off := -74) (tgt := 34) (by decide +kernel) (by decide) ?_
            cases hr
            exact hk
          · rw [if_neg hc20] at hr
            refine n_goto (off := 16) (tgt := 103) (by decide +kernel) (by decide) ?_
            refine n_msk [true, true, false, true] (lo2 := [_, _, .null, _]) rfl rfl ?_
            exact B_X10_chosen_j103 G hp0 hr hk
set_option maxRecDepth 100000 in
theorem W_X10_chosen_b34 (G : GG l s0 b L xs D cy ad) {x1 : Int32} {M : Mm} (hp0 : P 76) {s : (Int32 × Int32)} {e : Int32} (h : whl fu (f_X10_chosen_b34 x1 M) s = some e) (res : Rs) (M' : Mm) : Q_X10_chosen_b34 l s0 D cy ad P x1 M res M' e → P_X10_chosen_b34 l s0 D cy ad P x1 M res M' s := whl_run (P := fun s => P_X10_chosen_b34 l s0 D cy ad P x1 M res M' s) (Q := fun e => Q_X10_chosen_b34 l s0 D cy ad P x1 M res M' e) (B_X10_chosen_b34 G (res := res) (M' := M') (x1 := x1) (M := M) hp0) fu s h
set_option maxRecDepth 100000 in
theorem B_X10_chosen (G : GG l s0 b L xs D cy ad)  {x1 : Int32} {M : Mm} {r : (Int32 × Mm)} (hp0 : P 76) (hr : f_X10_chosen x1 M = some r) : Cl l s0 D cy ad P 11 KX10_chosen [.ref 76, .int x1] M (.inl (some (.int r.1))) (r.2) := by
  refine cl_ofN (by decide +kernel) rfl rfl okI (lo0 := [_, _, .null, .null]) rfl ?_
  unfold f_X10_chosen at hr
  refine n_aload_n (n := 0) (by decide +kernel) rfl ?_
  refine n_iconst (n := 0) (v := 0) (by decide +kernel) rfl ?_
  refine n_putI G fl_RX10_88 hp0 (by decide +kernel) (by decide +kernel) ?_
  refine n_aload_n (n := 0) (by decide +kernel) rfl ?_
  refine n_iload_n (n := 1) (by decide +kernel) rfl ?_
  refine n_iconst (n := 0) (v := 0) (by decide +kernel) rfl ?_
  refine n_iconst (n := 1) (v := 1) (by decide +kernel) rfl ?_
  obtain ⟨v1, h1, hr⟩ := bso hr
  refine n_callSi G [_, _, _] (x := v1) (B_X10_in G  h1) (by decide) mX10_in ml_RX10_122 rfl rfl (Nat.le_of_ble_eq_true rfl) (by decide +kernel) ?_
  refine n_dia1 (J := 20) (c := v1 = 0) (a := (1 : Int32)) (b := (0 : Int32)) (fun hJ => ?_) ?_
  · refine n_if_ne (off := 7) (tgt := 19) (by decide +kernel) (by decide) (fun hc2 => ?_) (fun hc2 => ?_)
    · refine n_iconst (n := 0) (v := 0) (by decide +kernel) rfl ?_
      exact hJ _ (if_neg hc2).symm
    · refine n_iconst (n := 1) (v := 1) (by decide +kernel) rfl ?_
      refine n_goto (off := 4) (tgt := 20) (by decide +kernel) (by decide) ?_
      exact hJ _ (if_pos hc2).symm
  refine n_iconst (n := 1) (v := 1) (by decide +kernel) rfl ?_
  refine n_iconst (n := 2) (v := 2) (by decide +kernel) rfl ?_
  obtain ⟨⟨v3, M3⟩, h3, hr⟩ := bso hr
  try dsimp only at hr
  refine n_callVi G [_, _, _] (x := v3) (M1 := M3) (B_X10_bad G hp0 h3) (by decide) mX10_bad ml_RX10_161 hp0 (by decide +kernel) rfl rfl (Nat.le_of_ble_eq_true rfl) (by decide +kernel) ?_
  refine n_if_eq (off := 5) (tgt := 30) (by decide +kernel) (by decide) (fun hc4 => ?_) (fun hc4 => ?_)
  · rw [if_pos hc4] at hr
    refine n_iconst (n := -1) (v := -1) (by decide +kernel) rfl ?_
    refine n_istore_n (n := 2) (lo2 := [_, _, _, _]) (by decide +kernel) (Nat.le_of_ble_eq_true rfl) rfl ?_
    refine n_iconst (n := 0) (v := 0) (by decide +kernel) rfl ?_
    refine n_istore_n (n := 3) (lo2 := [_, _, _, _]) (by decide +kernel) (Nat.le_of_ble_eq_true rfl) rfl ?_
    obtain ⟨z2_21, h21, hr⟩ := bso hr
    refine (W_X10_chosen_b34 G hp0 h21 _ _) ?_
    dsimp only [Q_X10_chosen_b34]
    refine n_iload_n (n := 2) (by decide +kernel) rfl ?_
    cases hr
    exact n_ireturn (by decide +kernel)
  · rw [if_neg hc4] at hr
    refine n_iconst (n := 0) (v := 0) (by decide +kernel) rfl ?_
    cases hr
    exact n_ireturn (by decide +kernel)
set_option maxRecDepth 100000 in
theorem B_X10_lifts (G : GG l s0 b L xs D cy ad)  {x1 : Int32} {x2 : Int32} {M : Mm} {r : (Int32 × Mm)} (hp0 : P 76) (hr : f_X10_lifts x1 x2 M = some r) : Cl l s0 D cy ad P 12 KX10_lifts [.ref 76, .int x1, .int x2] M (.inl (some (.int r.1))) (r.2) := by
  refine cl_ofN (by decide +kernel) rfl rfl okI (lo0 := [_, _, _, .null, .null]) rfl ?_
  unfold f_X10_lifts at hr
  refine n_aload_n (n := 0) (by decide +kernel) rfl ?_
  refine n_iconst (n := 0) (v := 0) (by decide +kernel) rfl ?_
  refine n_putI G fl_RX10_88 hp0 (by decide +kernel) (by decide +kernel) ?_
  refine n_aload_n (n := 0) (by decide +kernel) rfl ?_
  refine n_aload_n (n := 0) (by decide +kernel) rfl ?_
  refine n_iload_n (n := 1) (by decide +kernel) rfl ?_
  refine n_iload_n (n := 2) (by decide +kernel) rfl ?_
  obtain ⟨v1, h1, hr⟩ := bso hr
  refine n_callVi G [_, _] (x := v1) (B_X10_isCell G hp0 h1) (by decide) mX10_isCell ml_RX10_292 hp0 (by decide +kernel) rfl rfl (Nat.le_of_ble_eq_true rfl) (by decide +kernel) ?_
  refine n_dia1 (J := 20) (c := v1 = 0) (a := (1 : Int32)) (b := (0 : Int32)) (fun hJ => ?_) ?_
  · refine n_if_ne (off := 7) (tgt := 19) (by decide +kernel) (by decide) (fun hc2 => ?_) (fun hc2 => ?_)
    · refine n_iconst (n := 0) (v := 0) (by decide +kernel) rfl ?_
      exact hJ _ (if_neg hc2).symm
    · refine n_iconst (n := 1) (v := 1) (by decide +kernel) rfl ?_
      refine n_goto (off := 4) (tgt := 20) (by decide +kernel) (by decide) ?_
      exact hJ _ (if_pos hc2).symm
  refine n_iconst (n := 1) (v := 1) (by decide +kernel) rfl ?_
  refine n_iconst (n := 0) (v := 0) (by decide +kernel) rfl ?_
  obtain ⟨⟨v3, M3⟩, h3, hr⟩ := bso hr
  try dsimp only at hr
  refine n_callVi G [_, _, _] (x := v3) (M1 := M3) (B_X10_bad G hp0 h3) (by decide) mX10_bad ml_RX10_161 hp0 (by decide +kernel) rfl rfl (Nat.le_of_ble_eq_true rfl) (by decide +kernel) ?_
  refine n_if_eq (off := 5) (tgt := 30) (by decide +kernel) (by decide) (fun hc4 => ?_) (fun hc4 => ?_)
  · rw [if_pos hc4] at hr
    refine n_aload_n (n := 0) (by decide +kernel) rfl ?_
    refine n_aload_n (n := 0) (by decide +kernel) rfl ?_
    refine n_getF (q := 196) G fl_RX10_61 hp0 (by decide +kernel) (by decide +kernel) (by decide +kernel) (fun hp5q => ?_)
    refine n_bipush (n := 8) (v := 8) (by decide +kernel) rfl ?_
    refine n_iload_n (n := 2) (by decide +kernel) rfl ?_
    refine n_imul (by decide +kernel) ?_
    refine n_iload_n (n := 1) (by decide +kernel) rfl ?_
    refine n_iadd (by decide +kernel) ?_
    refine n_iconst (n := 0) (v := 0) (by decide +kernel) rfl ?_
    obtain ⟨v6, h6, hr⟩ := bso hr
    refine n_callVl G [_, _, _] (x := v6) (B_X10_loadsOf G hp0 hp5q (by decide +kernel) h6) (by decide) mX10_loadsOf ml_RX10_270 hp0 (by decide +kernel) rfl rfl (Nat.le_of_ble_eq_true rfl) (by decide +kernel) ?_
    refine n_lstore_n (n := 3) (lo2 := [_, _, _, _, _]) (by decide +kernel) (Nat.le_of_ble_eq_true rfl) rfl ?_
    refine n_lload_n (n := 3) (by decide +kernel) rfl ?_
    refine n_lconst (n := 0) (v := 0) (by decide +kernel) rfl ?_
    refine n_lcmp (by decide +kernel) ?_
    refine n_if_ne (off := 7) (tgt := 56) (by decide +kernel) (by decide) (fun hc7 => ?_) (fun hc7 => ?_)
    · rw [if_neg hc7] at hr
      refine n_aload_n (n := 0) (by decide +kernel) rfl ?_
      refine n_aload_n (n := 0) (by decide +kernel) rfl ?_
      refine n_getF (q := 196) G fl_RX10_61 hp0 (by decide +kernel) (by decide +kernel) (by decide +kernel) (fun hp8q => ?_)
      refine n_bipush (n := 8) (v := 8) (by decide +kernel) rfl ?_
      refine n_iload_n (n := 2) (by decide +kernel) rfl ?_
      refine n_imul (by decide +kernel) ?_
      refine n_iload_n (n := 1) (by decide +kernel) rfl ?_
      refine n_iadd (by decide +kernel) ?_
      refine n_lload_n (n := 3) (by decide +kernel) rfl ?_
      obtain ⟨v9, h9, hr⟩ := bso hr
      refine n_callVi G [_, _, _] (x := v9) (B_X10_liftMinutes G hp0 hp8q (by decide +kernel) h9) (by decide) mX10_liftMinutes ml_RX10_274 hp0 (by decide +kernel) rfl rfl (Nat.le_of_ble_eq_true rfl) (by decide +kernel) ?_
      cases hr
      exact n_ireturn (by decide +kernel)
    · rw [if_pos hc7] at hr
      refine n_iconst (n := -1) (v := -1) (by decide +kernel) rfl ?_
      refine n_goto (off := 18) (tgt := 71) (by decide +kernel) (by decide) ?_
      cases hr
      exact n_ireturn (by decide +kernel)
  · rw [if_neg hc4] at hr
    refine n_iconst (n := 0) (v := 0) (by decide +kernel) rfl ?_
    cases hr
    exact n_ireturn (by decide +kernel)
set_option maxRecDepth 100000 in
theorem B_X10_loads (G : GG l s0 b L xs D cy ad)  {x1 : Int32} {x2 : Int32} {M : Mm} {r : (Int64 × Mm)} (hp0 : P 76) (hr : f_X10_loads x1 x2 M = some r) : Cl l s0 D cy ad P 12 KX10_loads [.ref 76, .int x1, .int x2] M (.inl (some (.long r.1))) (r.2) := by
  refine cl_ofN (by decide +kernel) rfl rfl rfl (lo0 := [_, _, _]) rfl ?_
  unfold f_X10_loads at hr
  refine n_aload_n (n := 0) (by decide +kernel) rfl ?_
  refine n_iconst (n := 0) (v := 0) (by decide +kernel) rfl ?_
  refine n_putI G fl_RX10_88 hp0 (by decide +kernel) (by decide +kernel) ?_
  refine n_aload_n (n := 0) (by decide +kernel) rfl ?_
  refine n_aload_n (n := 0) (by decide +kernel) rfl ?_
  refine n_iload_n (n := 1) (by decide +kernel) rfl ?_
  refine n_iload_n (n := 2) (by decide +kernel) rfl ?_
  obtain ⟨v1, h1, hr⟩ := bso hr
  refine n_callVi G [_, _] (x := v1) (B_X10_isCell G hp0 h1) (by decide) mX10_isCell ml_RX10_292 hp0 (by decide +kernel) rfl rfl (Nat.le_of_ble_eq_true rfl) (by decide +kernel) ?_
  refine n_dia1 (J := 20) (c := v1 = 0) (a := (1 : Int32)) (b := (0 : Int32)) (fun hJ => ?_) ?_
  · refine n_if_ne (off := 7) (tgt := 19) (by decide +kernel) (by decide) (fun hc2 => ?_) (fun hc2 => ?_)
    · refine n_iconst (n := 0) (v := 0) (by decide +kernel) rfl ?_
      exact hJ _ (if_neg hc2).symm
    · refine n_iconst (n := 1) (v := 1) (by decide +kernel) rfl ?_
      refine n_goto (off := 4) (tgt := 20) (by decide +kernel) (by decide) ?_
      exact hJ _ (if_pos hc2).symm
  refine n_iconst (n := 1) (v := 1) (by decide +kernel) rfl ?_
  refine n_iconst (n := 0) (v := 0) (by decide +kernel) rfl ?_
  obtain ⟨⟨v3, M3⟩, h3, hr⟩ := bso hr
  try dsimp only at hr
  refine n_callVi G [_, _, _] (x := v3) (M1 := M3) (B_X10_bad G hp0 h3) (by decide) mX10_bad ml_RX10_161 hp0 (by decide +kernel) rfl rfl (Nat.le_of_ble_eq_true rfl) (by decide +kernel) ?_
  refine n_if_eq (off := 5) (tgt := 30) (by decide +kernel) (by decide) (fun hc4 => ?_) (fun hc4 => ?_)
  · rw [if_pos hc4] at hr
    refine n_aload_n (n := 0) (by decide +kernel) rfl ?_
    refine n_aload_n (n := 0) (by decide +kernel) rfl ?_
    refine n_getF (q := 196) G fl_RX10_61 hp0 (by decide +kernel) (by decide +kernel) (by decide +kernel) (fun hp5q => ?_)
    refine n_bipush (n := 8) (v := 8) (by decide +kernel) rfl ?_
    refine n_iload_n (n := 2) (by decide +kernel) rfl ?_
    refine n_imul (by decide +kernel) ?_
    refine n_iload_n (n := 1) (by decide +kernel) rfl ?_
    refine n_iadd (by decide +kernel) ?_
    refine n_iconst (n := 0) (v := 0) (by decide +kernel) rfl ?_
    obtain ⟨v6, h6, hr⟩ := bso hr
    refine n_callVl G [_, _, _] (x := v6) (B_X10_loadsOf G hp0 hp5q (by decide +kernel) h6) (by decide) mX10_loadsOf ml_RX10_270 hp0 (by decide +kernel) rfl rfl (Nat.le_of_ble_eq_true rfl) (by decide +kernel) ?_
    cases hr
    exact n_lreturn (by decide +kernel)
  · rw [if_neg hc4] at hr
    refine n_lconst (n := 0) (v := 0) (by decide +kernel) rfl ?_
    cases hr
    exact n_lreturn (by decide +kernel)
abbrev P_X10_stoniest_b11 (l : Launch) (s0 : State) (D : va_G) (cy : Nat → ClassId) (ad : Nat → Nat) (P : Nat → Prop)  (M : Mm) (res : Rs) (M' : Mm) (s : (Int32 × Int32 × Int32)) : Prop := Rn l s0 D cy ad P 12 KX10_stoniest 11 [.ref 76, .int (s.1), .int (s.2.1), .int (s.2.2)] [] M res M'
abbrev Q_X10_stoniest_b11 (l : Launch) (s0 : State) (D : va_G) (cy : Nat → ClassId) (ad : Nat → Nat) (P : Nat → Prop)  (M : Mm) (res : Rs) (M' : Mm) (e : Int32) : Prop := Rn l s0 D cy ad P 12 KX10_stoniest 49 [.null, .int (e), .null, .null] [] M res M'
set_option maxRecDepth 100000 in
theorem B_X10_stoniest_b11 (G : GG l s0 b L xs D cy ad)  {M : Mm} {res : Rs} {M' : Mm} (hp0 : P 76) : ∀ (s : (Int32 × Int32 × Int32)) (r : (Int32 × Int32 × Int32) ⊕ Int32), f_X10_stoniest_b11  M s = some r → mtc (P_X10_stoniest_b11 l s0 D cy ad P  M res M') (Q_X10_stoniest_b11 l s0 D cy ad P  M res M') r → P_X10_stoniest_b11 l s0 D cy ad P  M res M' s := by
  intro s r hr hk
  obtain ⟨x1, x2, x3⟩ := s
  unfold f_X10_stoniest_b11 at hr
  try dsimp only at hr
  dsimp only [P_X10_stoniest_b11]
  refine n_iload_n (n := 3) (by decide +kernel) rfl ?_
  refine n_bipush (n := 48) (v := 48) (by decide +kernel) rfl ?_
  refine n_icmp_ge (off := 35) (tgt := 49) (by decide +kernel) (by decide) (fun hc1 => ?_) (fun hc1 => ?_)
  · rw [if_pos hc1] at hr
    cases hr
    refine n_msk [false, true, false, false] (lo2 := [.null, _, .null, .null]) rfl rfl ?_
    exact hk
  · rw [if_neg hc1] at hr
    refine n_aload_n (n := 0) (by decide +kernel) rfl ?_
    refine n_getF (q := 196) G fl_RX10_61 hp0 (by decide +kernel) (by decide +kernel) (by decide +kernel) (fun hp2q => ?_)
    refine n_iload_n (n := 3) (by decide +kernel) rfl ?_
    obtain ⟨v3, h3, hr⟩ := bso hr
    refine n_callSi G [_, _] (x := v3) (B_X10_sizesIn G hp2q (by decide +kernel) h3) (by decide) mX10_sizesIn ml_RX10_328 rfl rfl (Nat.le_of_ble_eq_true rfl) (by decide +kernel) ?_
    refine n_iload_n (n := 2) (by decide +kernel) rfl ?_
    refine n_icmp_gt (off := 6) (tgt := 32) (by decide +kernel) (by decide) (fun hc4 => ?_) (fun hc4 => ?_)
    · rw [if_pos hc4] at hr
      refine n_iload_n (n := 3) (by decide +kernel) rfl ?_
      refine n_istore_n (n := 1) (lo2 := [_, _, _, _]) (by decide +kernel) (Nat.le_of_ble_eq_true rfl) rfl ?_
      refine n_aload_n (n := 0) (by decide +kernel) rfl ?_
      refine n_getF (q := 196) G fl_RX10_61 hp0 (by decide +kernel) (by decide +kernel) (by decide +kernel) (fun hp5q => ?_)
      refine n_iload_n (n := 3) (by decide +kernel) rfl ?_
      obtain ⟨v6, h6, hr⟩ := bso hr
      refine n_callSi G [_, _] (x := v6) (B_X10_sizesIn G hp5q (by decide +kernel) h6) (by decide) mX10_sizesIn ml_RX10_328 rfl rfl (Nat.le_of_ble_eq_true rfl) (by decide +kernel) ?_
      refine n_istore_n (n := 2) (lo2 := [_, _, _, _]) (by decide +kernel) (Nat.le_of_ble_eq_true rfl) rfl ?_
      refine n_iincK (n := 3) (j := 1) (w := 1) (lo2 := [_, _, _, _]) (by decide +kernel) rfl rfl rfl ?_
      refine n_goto (off := -35) (tgt := 11) (by decide +kernel) (by decide) ?_
      cases hr
      exact hk
    · rw [if_neg hc4] at hr
      refine n_goto (off := 14) (tgt := 43) (by decide +kernel) (by decide) ?_
      refine n_iincK (n := 3) (j := 1) (w := 1) (lo2 := [_, _, _, _]) (by decide +kernel) rfl rfl rfl ?_
      refine n_goto (off := -35) (tgt := 11) (by decide +kernel) (by decide) ?_
      cases hr
      exact hk
set_option maxRecDepth 100000 in
theorem W_X10_stoniest_b11 (G : GG l s0 b L xs D cy ad)  {M : Mm} (hp0 : P 76) {s : (Int32 × Int32 × Int32)} {e : Int32} (h : whl fu (f_X10_stoniest_b11  M) s = some e) (res : Rs) (M' : Mm) : Q_X10_stoniest_b11 l s0 D cy ad P  M res M' e → P_X10_stoniest_b11 l s0 D cy ad P  M res M' s := whl_run (P := fun s => P_X10_stoniest_b11 l s0 D cy ad P  M res M' s) (Q := fun e => Q_X10_stoniest_b11 l s0 D cy ad P  M res M' e) (B_X10_stoniest_b11 G (res := res) (M' := M') (M := M) hp0) fu s h
set_option maxRecDepth 100000 in
theorem B_X10_stoniest (G : GG l s0 b L xs D cy ad)   {M : Mm} {r : (Int32 × Mm)} (hp0 : P 76) (hr : f_X10_stoniest  M = some r) : Cl l s0 D cy ad P 12 KX10_stoniest [.ref 76] M (.inl (some (.int r.1))) (r.2) := by
  refine cl_ofN (by decide +kernel) rfl rfl okI (lo0 := [_, .null, .null, .null]) rfl ?_
  unfold f_X10_stoniest at hr
  refine n_aload_n (n := 0) (by decide +kernel) rfl ?_
  refine n_iconst (n := 0) (v := 0) (by decide +kernel) rfl ?_
  refine n_putI G fl_RX10_88 hp0 (by decide +kernel) (by decide +kernel) ?_
  refine n_iconst (n := -1) (v := -1) (by decide +kernel) rfl ?_
  refine n_istore_n (n := 1) (lo2 := [_, _, _, _]) (by decide +kernel) (Nat.le_of_ble_eq_true rfl) rfl ?_
  refine n_iconst (n := 0) (v := 0) (by decide +kernel) rfl ?_
  refine n_istore_n (n := 2) (lo2 := [_, _, _, _]) (by decide +kernel) (Nat.le_of_ble_eq_true rfl) rfl ?_
  refine n_iconst (n := 0) (v := 0) (by decide +kernel) rfl ?_
  refine n_istore_n (n := 3) (lo2 := [_, _, _, _]) (by decide +kernel) (Nat.le_of_ble_eq_true rfl) rfl ?_
  obtain ⟨z1_7, h7, hr⟩ := bso hr
  refine (W_X10_stoniest_b11 G hp0 h7 _ _) ?_
  dsimp only [Q_X10_stoniest_b11]
  refine n_iload_n (n := 1) (by decide +kernel) rfl ?_
  cases hr
  exact n_ireturn (by decide +kernel)
abbrev P_X10_clean_b9 (l : Launch) (s0 : State) (D : va_G) (cy : Nat → ClassId) (ad : Nat → Nat) (P : Nat → Prop)  (M : Mm) (res : Rs) (M' : Mm) (s : (Int32 × Int32)) : Prop := Rn l s0 D cy ad P 12 KX10_clean 9 [.ref 76, .int (s.1), .int (s.2)] [] M res M'
abbrev Q_X10_clean_b9 (l : Launch) (s0 : State) (D : va_G) (cy : Nat → ClassId) (ad : Nat → Nat) (P : Nat → Prop)  (M : Mm) (res : Rs) (M' : Mm) (e : Int32) : Prop := Rn l s0 D cy ad P 12 KX10_clean 52 [.null, .int (e), .null] [] M res M'
set_option maxRecDepth 100000 in
theorem B_X10_clean_j43 (G : GG l s0 b L xs D cy ad) {x2 : Int32} {xs0 : Int32} {M : Mm}  {res : Rs} {M' : Mm} {r : ((Int32 × Int32) ⊕ Int32)} (hp0 : P 76) (hr : f_X10_clean_j43 x2 xs0 M = some r) (hk : mtc (P_X10_clean_b9 l s0 D cy ad P  M res M') (Q_X10_clean_b9 l s0 D cy ad P  M res M') r) : Rn l s0 D cy ad P 12 KX10_clean 43 [.ref 76, .null, .int x2] [.int xs0] M res M' := by
  unfold f_X10_clean_j43 at hr
  refine n_iconst (n := 0) (v := 0) (by decide +kernel) rfl ?_
  refine n_iadd (by decide +kernel) ?_
  refine n_istore_n (n := 1) (lo2 := [_, _, _]) (by decide +kernel) (Nat.le_of_ble_eq_true rfl) rfl ?_
  refine n_iincK (n := 2) (j := 1) (w := 1) (lo2 := [_, _, _]) (by decide +kernel) rfl rfl rfl ?_
  refine n_goto (off := -40) (tgt := 9) (by decide +kernel) (by decide) ?_
  cases hr
  exact hk
set_option maxRecDepth 100000 in
theorem B_X10_clean_b9 (G : GG l s0 b L xs D cy ad)  {M : Mm} {res : Rs} {M' : Mm} (hp0 : P 76) : ∀ (s : (Int32 × Int32)) (r : (Int32 × Int32) ⊕ Int32), f_X10_clean_b9  M s = some r → mtc (P_X10_clean_b9 l s0 D cy ad P  M res M') (Q_X10_clean_b9 l s0 D cy ad P  M res M') r → P_X10_clean_b9 l s0 D cy ad P  M res M' s := by
  intro s r hr hk
  obtain ⟨x1, x2⟩ := s
  unfold f_X10_clean_b9 at hr
  try dsimp only at hr
  dsimp only [P_X10_clean_b9]
  refine n_iload_n (n := 2) (by decide +kernel) rfl ?_
  refine n_bipush (n := 48) (v := 48) (by decide +kernel) rfl ?_
  refine n_icmp_ge (off := 40) (tgt := 52) (by decide +kernel) (by decide) (fun hc1 => ?_) (fun hc1 => ?_)
  · rw [if_pos hc1] at hr
    cases hr
    refine n_msk [false, true, false] (lo2 := [.null, _, .null]) rfl rfl ?_
    exact hk
  · rw [if_neg hc1] at hr
    refine n_iload_n (n := 1) (by decide +kernel) rfl ?_
    refine n_aload_n (n := 0) (by decide +kernel) rfl ?_
    refine n_aload_n (n := 0) (by decide +kernel) rfl ?_
    refine n_getF (q := 196) G fl_RX10_61 hp0 (by decide +kernel) (by decide +kernel) (by decide +kernel) (fun hp2q => ?_)
    refine n_iload_n (n := 2) (by decide +kernel) rfl ?_
    obtain ⟨v3, h3, hr⟩ := bso hr
    refine n_callVi G [_, _] (x := v3) (B_X10_isKept G hp0 hp2q (by decide +kernel) h3) (by decide) mX10_isKept ml_RX10_299 hp0 (by decide +kernel) rfl rfl (Nat.le_of_ble_eq_true rfl) (by decide +kernel) ?_
    refine n_if_eq (off := 18) (tgt := 43) (by decide +kernel) (by decide) (fun hc4 => ?_) (fun hc4 => ?_)
    · rw [if_pos hc4] at hr
      refine n_msk [true, false, true] (lo2 := [_, .null, _]) rfl rfl ?_
      exact B_X10_clean_j43 G hp0 hr hk
    · rw [if_neg hc4] at hr
      refine n_aload_n (n := 0) (by decide +kernel) rfl ?_
      refine n_getF (q := 196) G fl_RX10_61 hp0 (by decide +kernel) (by decide +kernel) (by decide +kernel) (fun hp5q => ?_)
      refine n_iload_n (n := 2) (by decide +kernel) rfl ?_
      obtain ⟨v6, h6, hr⟩ := bso hr
      refine n_callSi G [_, _] (x := v6) (B_X10_lyingIn G hp5q (by decide +kernel) h6) (by decide) mX10_lyingIn ml_RX10_234 rfl rfl (Nat.le_of_ble_eq_true rfl) (by decide +kernel) ?_
      refine n_if_ne (off := 7) (tgt := 43) (by decide +kernel) (by decide) (fun hc7 => ?_) (fun hc7 => ?_)
      · rw [if_neg hc7] at hr
        refine n_msk [true, false, true] (lo2 := [_, .null, _]) rfl rfl ?_
        exact B_X10_clean_j43 G hp0 hr hk
      · rw [if_pos hc7] at hr
        refine n_iconst (n := 1) (v := 1) (by decide +kernel) rfl ?_
        refine n_goto (off := 4) (tgt := 44) (by decide +kernel) (by decide) ?_
        refine n_iadd (by decide +kernel) ?_
        refine n_istore_n (n := 1) (lo2 := [_, _, _]) (by decide +kernel) (Nat.le_of_ble_eq_true rfl) rfl ?_
        refine n_iincK (n := 2) (j := 1) (w := 1) (lo2 := [_, _, _]) (by decide +kernel) rfl rfl rfl ?_
        refine n_goto (off := -40) (tgt := 9) (by decide +kernel) (by decide) ?_
        cases hr
        exact hk
set_option maxRecDepth 100000 in
theorem W_X10_clean_b9 (G : GG l s0 b L xs D cy ad)  {M : Mm} (hp0 : P 76) {s : (Int32 × Int32)} {e : Int32} (h : whl fu (f_X10_clean_b9  M) s = some e) (res : Rs) (M' : Mm) : Q_X10_clean_b9 l s0 D cy ad P  M res M' e → P_X10_clean_b9 l s0 D cy ad P  M res M' s := whl_run (P := fun s => P_X10_clean_b9 l s0 D cy ad P  M res M' s) (Q := fun e => Q_X10_clean_b9 l s0 D cy ad P  M res M' e) (B_X10_clean_b9 G (res := res) (M' := M') (M := M) hp0) fu s h
set_option maxRecDepth 100000 in
theorem B_X10_clean (G : GG l s0 b L xs D cy ad)   {M : Mm} {r : (Int32 × Mm)} (hp0 : P 76) (hr : f_X10_clean  M = some r) : Cl l s0 D cy ad P 12 KX10_clean [.ref 76] M (.inl (some (.int r.1))) (r.2) := by
  refine cl_ofN (by decide +kernel) rfl rfl okI (lo0 := [_, .null, .null]) rfl ?_
  unfold f_X10_clean at hr
  refine n_aload_n (n := 0) (by decide +kernel) rfl ?_
  refine n_iconst (n := 0) (v := 0) (by decide +kernel) rfl ?_
  refine n_putI G fl_RX10_88 hp0 (by decide +kernel) (by decide +kernel) ?_
  refine n_iconst (n := 0) (v := 0) (by decide +kernel) rfl ?_
  refine n_istore_n (n := 1) (lo2 := [_, _, _]) (by decide +kernel) (Nat.le_of_ble_eq_true rfl) rfl ?_
  refine n_iconst (n := 0) (v := 0) (by decide +kernel) rfl ?_
  refine n_istore_n (n := 2) (lo2 := [_, _, _]) (by decide +kernel) (Nat.le_of_ble_eq_true rfl) rfl ?_
  obtain ⟨z1_8, h8, hr⟩ := bso hr
  refine (W_X10_clean_b9 G hp0 h8 _ _) ?_
  dsimp only [Q_X10_clean_b9]
  refine n_iload_n (n := 1) (by decide +kernel) rfl ?_
  cases hr
  exact n_ireturn (by decide +kernel)
set_option maxRecDepth 100000 in
theorem B_X10_puts (G : GG l s0 b L xs D cy ad)  {a1 : Nat} {x2 : Int32} {x3 : Int32} {M : Mm} {r : (Int32 × Mm)} (hp0 : P 76) (hp1 : P a1) (hs1 : SH a1 = 12) (hr : f_X10_puts a1 x2 x3 M = some r) : Cl l s0 D cy ad P 9 KX10_puts [.ref 76, .ref a1, .int x2, .int x3] M (.inl (some (.int r.1))) (r.2) := by
  refine cl_ofN (by decide +kernel) rfl rfl okI (lo0 := [_, _, _, _]) rfl ?_
  unfold f_X10_puts at hr
  refine n_iload_n (n := 3) (by decide +kernel) rfl ?_
  refine n_if_ne (off := 10) (tgt := 11) (by decide +kernel) (by decide) (fun hc1 => ?_) (fun hc1 => ?_)
  · rw [if_neg hc1] at hr
    refine n_aload_n (n := 0) (by decide +kernel) rfl ?_
    refine n_dup rfl (by decide +kernel) ?_
    refine n_getI G fl_RX10_387 hp0 (by decide +kernel) (by decide +kernel) ?_
    refine n_iconst (n := 1) (v := 1) (by decide +kernel) rfl ?_
    refine n_iadd (by decide +kernel) ?_
    refine n_putI G fl_RX10_387 hp0 (by decide +kernel) (by decide +kernel) ?_
    refine n_aload_n (n := 1) (by decide +kernel) rfl ?_
    refine n_aload_n (n := 0) (by decide +kernel) rfl ?_
    refine n_getI G fl_RX10_387 hp0 (by decide +kernel) (by decide +kernel) ?_
    refine n_iconst (n := 1) (v := 1) (by decide +kernel) rfl ?_
    refine n_isub (by decide +kernel) ?_
    obtain ⟨v2, h2, hr⟩ := bso hr
    refine n_iald G h2 hp1 hs1 rfl (by decide +kernel) ?_
    cases hr
    exact n_ireturn (by decide +kernel)
  · rw [if_pos hc1] at hr
    refine n_aload_n (n := 1) (by decide +kernel) rfl ?_
    refine n_aload_n (n := 0) (by decide +kernel) rfl ?_
    refine n_getI G fl_RX10_387 hp0 (by decide +kernel) (by decide +kernel) ?_
    refine n_iload_n (n := 2) (by decide +kernel) rfl ?_
    obtain ⟨M3, h3, hr⟩ := bso hr
    refine n_iast G h3 hp1 hs1 rfl (by decide +kernel) ?_
    refine n_aload_n (n := 0) (by decide +kernel) rfl ?_
    refine n_dup rfl (by decide +kernel) ?_
    refine n_getI G fl_RX10_387 hp0 (by decide +kernel) (by decide +kernel) ?_
    refine n_iconst (n := 1) (v := 1) (by decide +kernel) rfl ?_
    refine n_iadd (by decide +kernel) ?_
    refine n_putI G fl_RX10_387 hp0 (by decide +kernel) (by decide +kernel) ?_
    refine n_aload_n (n := 1) (by decide +kernel) rfl ?_
    refine n_aload_n (n := 0) (by decide +kernel) rfl ?_
    refine n_getI G fl_RX10_387 hp0 (by decide +kernel) (by decide +kernel) ?_
    refine n_iconst (n := 1) (v := 1) (by decide +kernel) rfl ?_
    refine n_isub (by decide +kernel) ?_
    obtain ⟨v4, h4, hr⟩ := bso hr
    refine n_iald G h4 hp1 hs1 rfl (by decide +kernel) ?_
    cases hr
    exact n_ireturn (by decide +kernel)
abbrev P_X10_putsAll_b21 (l : Launch) (s0 : State) (D : va_G) (cy : Nat → ClassId) (ad : Nat → Nat) (P : Nat → Prop) (a1 : Nat) (x2 : Int32)  (res : Rs) (M' : Mm) (s : (Int32 × Mm)) : Prop := Rn l s0 D cy ad P 10 KX10_putsAll 21 [.ref 76, .ref a1, .int x2, .int (s.1), .null] [] (s.2) res M'
abbrev Q_X10_putsAll_b21 (l : Launch) (s0 : State) (D : va_G) (cy : Nat → ClassId) (ad : Nat → Nat) (P : Nat → Prop) (a1 : Nat) (x2 : Int32)  (res : Rs) (M' : Mm) (e : Mm) : Prop := Rn l s0 D cy ad P 10 KX10_putsAll 52 [.ref 76, .ref a1, .int x2, .null, .null] [] (e) res M'
set_option maxRecDepth 100000 in
theorem B_X10_putsAll_b21 (G : GG l s0 b L xs D cy ad) {a1 : Nat} {x2 : Int32}  {res : Rs} {M' : Mm} (hp0 : P 76) (hp1 : P a1) (hs1 : SH a1 = 12) : ∀ (s : (Int32 × Mm)) (r : (Int32 × Mm) ⊕ Mm), f_X10_putsAll_b21 a1 x2 s = some r → mtc (P_X10_putsAll_b21 l s0 D cy ad P a1 x2 res M') (Q_X10_putsAll_b21 l s0 D cy ad P a1 x2 res M') r → P_X10_putsAll_b21 l s0 D cy ad P a1 x2 res M' s := by
  intro s r hr hk
  obtain ⟨x3, M⟩ := s
  unfold f_X10_putsAll_b21 at hr
  try dsimp only at hr
  dsimp only [P_X10_putsAll_b21]
  refine n_iload_n (n := 3) (by decide +kernel) rfl ?_
  refine n_sipush (n := 415) (v := 415) (by decide +kernel) (by decide +kernel) ?_
  refine n_icmp_ge (off := 27) (tgt := 52) (by decide +kernel) (by decide) (fun hc2 => ?_) (fun hc2 => ?_)
  · rw [if_pos hc2] at hr
    cases hr
    refine n_msk [true, true, true, false, false] (lo2 := [_, _, _, .null, .null]) rfl rfl ?_
    exact hk
  · rw [if_neg hc2] at hr
    refine n_aload_n (n := 0) (by decide +kernel) rfl ?_
    refine n_getF (q := 196) G fl_RX10_61 hp0 (by decide +kernel) (by decide +kernel) (by decide +kernel) (fun hp3q => ?_)
    refine n_iload_n (n := 3) (by decide +kernel) rfl ?_
    refine n_aload_n (n := 0) (by decide +kernel) rfl ?_
    refine n_aload_n (n := 1) (by decide +kernel) rfl ?_
    refine n_aload_n (n := 0) (by decide +kernel) rfl ?_
    refine n_getF (q := 196) G fl_RX10_61 hp0 (by decide +kernel) (by decide +kernel) (by decide +kernel) (fun hp4q => ?_)
    refine n_iload_n (n := 3) (by decide +kernel) rfl ?_
    obtain ⟨v5, h5, hr⟩ := bso hr
    refine n_iald G h5 hp4q (by decide +kernel) (by decide +kernel) (by decide +kernel) ?_
    refine n_iload_n (n := 2) (by decide +kernel) rfl ?_
    obtain ⟨⟨v6, M6⟩, h6, hr⟩ := bso hr
    try dsimp only at hr
    refine n_callVi G [_, _, _] (x := v6) (M1 := M6) (B_X10_puts G hp0 hp1 hs1 h6) (by decide) mX10_puts ml_RX10_390 hp0 (by decide +kernel) rfl rfl (Nat.le_of_ble_eq_true rfl) (by decide +kernel) ?_
    obtain ⟨M7, h7, hr⟩ := bso hr
    refine n_iast G h7 hp3q (by decide +kernel) (by decide +kernel) (by decide +kernel) ?_
    refine n_iincK (n := 3) (j := 1) (w := 1) (lo2 := [_, _, _, _, _]) (by decide +kernel) rfl rfl rfl ?_
    refine n_goto (off := -28) (tgt := 21) (by decide +kernel) (by decide) ?_
    cases hr
    exact hk
set_option maxRecDepth 100000 in
theorem W_X10_putsAll_b21 (G : GG l s0 b L xs D cy ad) {a1 : Nat} {x2 : Int32}  (hp0 : P 76) (hp1 : P a1) (hs1 : SH a1 = 12) {s : (Int32 × Mm)} {e : Mm} (h : whl fu (f_X10_putsAll_b21 a1 x2) s = some e) (res : Rs) (M' : Mm) : Q_X10_putsAll_b21 l s0 D cy ad P a1 x2 res M' e → P_X10_putsAll_b21 l s0 D cy ad P a1 x2 res M' s := whl_run (P := fun s => P_X10_putsAll_b21 l s0 D cy ad P a1 x2 res M' s) (Q := fun e => Q_X10_putsAll_b21 l s0 D cy ad P a1 x2 res M' e) (B_X10_putsAll_b21 G (res := res) (M' := M') (a1 := a1) (x2 := x2) hp0 hp1 hs1) fu s h
abbrev P_X10_putsAll_b54 (l : Launch) (s0 : State) (D : va_G) (cy : Nat → ClassId) (ad : Nat → Nat) (P : Nat → Prop) (a1 : Nat) (x2 : Int32)  (res : Rs) (M' : Mm) (s : (Int32 × Mm)) : Prop := Rn l s0 D cy ad P 10 KX10_putsAll 54 [.ref 76, .ref a1, .int x2, .int (s.1), .null] [] (s.2) res M'
abbrev Q_X10_putsAll_b54 (l : Launch) (s0 : State) (D : va_G) (cy : Nat → ClassId) (ad : Nat → Nat) (P : Nat → Prop) (a1 : Nat) (x2 : Int32)  (res : Rs) (M' : Mm) (e : Mm) : Prop := Rn l s0 D cy ad P 10 KX10_putsAll 107 [.null, .null, .null, .null, .null] [] (e) res M'
abbrev P_X10_putsAll_b63 (l : Launch) (s0 : State) (D : va_G) (cy : Nat → ClassId) (ad : Nat → Nat) (P : Nat → Prop) (a1 : Nat) (x2 : Int32) (x3 : Int32)  (res : Rs) (M' : Mm) (s : (Int32 × Mm)) : Prop := Rn l s0 D cy ad P 10 KX10_putsAll 63 [.ref 76, .ref a1, .int x2, .int x3, .int (s.1)] [] (s.2) res M'
abbrev Q_X10_putsAll_b63 (l : Launch) (s0 : State) (D : va_G) (cy : Nat → ClassId) (ad : Nat → Nat) (P : Nat → Prop) (a1 : Nat) (x2 : Int32) (x3 : Int32)  (res : Rs) (M' : Mm) (e : Mm) : Prop := Rn l s0 D cy ad P 10 KX10_putsAll 101 [.ref 76, .ref a1, .int x2, .int x3, .null] [] (e) res M'
set_option maxRecDepth 100000 in
theorem B_X10_putsAll_b63 (G : GG l s0 b L xs D cy ad) {a1 : Nat} {x2 : Int32} {x3 : Int32}  {res : Rs} {M' : Mm} (hp0 : P 76) (hp1 : P a1) (hs1 : SH a1 = 12) : ∀ (s : (Int32 × Mm)) (r : (Int32 × Mm) ⊕ Mm), f_X10_putsAll_b63 a1 x2 x3 s = some r → mtc (P_X10_putsAll_b63 l s0 D cy ad P a1 x2 x3 res M') (Q_X10_putsAll_b63 l s0 D cy ad P a1 x2 x3 res M') r → P_X10_putsAll_b63 l s0 D cy ad P a1 x2 x3 res M' s := by
  intro s r hr hk
  obtain ⟨x4, M⟩ := s
  unfold f_X10_putsAll_b63 at hr
  try dsimp only at hr
  dsimp only [P_X10_putsAll_b63]
  refine n_iload (n := 4) (by decide +kernel) rfl ?_
  refine n_sipush (n := 415) (v := 415) (by decide +kernel) (by decide +kernel) ?_
  refine n_icmp_ge (off := 33) (tgt := 101) (by decide +kernel) (by decide) (fun hc10 => ?_) (fun hc10 => ?_)
  · rw [if_pos hc10] at hr
    cases hr
    refine n_msk [true, true, true, true, false] (lo2 := [_, _, _, _, .null]) rfl rfl ?_
    exact hk
  · rw [if_neg hc10] at hr
    refine n_aload_n (n := 0) (by decide +kernel) rfl ?_
    refine n_getF (q := 198) G fl_RX10_67 hp0 (by decide +kernel) (by decide +kernel) (by decide +kernel) (fun hp11q => ?_)
    refine n_iload_n (n := 3) (by decide +kernel) rfl ?_
    obtain ⟨q12, h12, hr⟩ := bso hr
    refine n_aald G h12 hp11q (by decide +kernel) (by decide +kernel) (by decide +kernel) (fun hp12q => ?_)
    refine n_iload (n := 4) (by decide +kernel) rfl ?_
    refine n_aload_n (n := 0) (by decide +kernel) rfl ?_
    refine n_aload_n (n := 1) (by decide +kernel) rfl ?_
    refine n_aload_n (n := 0) (by decide +kernel) rfl ?_
    refine n_getF (q := 198) G fl_RX10_67 hp0 (by decide +kernel) (by decide +kernel) (by decide +kernel) (fun hp13q => ?_)
    refine n_iload_n (n := 3) (by decide +kernel) rfl ?_
    obtain ⟨q14, h14, hr⟩ := bso hr
    refine n_aald G h14 hp13q (by decide +kernel) (by decide +kernel) (by decide +kernel) (fun hp14q => ?_)
    refine n_iload (n := 4) (by decide +kernel) rfl ?_
    obtain ⟨v15, h15, hr⟩ := bso hr
    refine n_iald G h15 hp14q (row_198 h14).1 (row_198 h14).2 (by decide +kernel) ?_
    refine n_iload_n (n := 2) (by decide +kernel) rfl ?_
    obtain ⟨⟨v16, M16⟩, h16, hr⟩ := bso hr
    try dsimp only at hr
    refine n_callVi G [_, _, _] (x := v16) (M1 := M16) (B_X10_puts G hp0 hp1 hs1 h16) (by decide) mX10_puts ml_RX10_390 hp0 (by decide +kernel) rfl rfl (Nat.le_of_ble_eq_true rfl) (by decide +kernel) ?_
    obtain ⟨M17, h17, hr⟩ := bso hr
    refine n_iast G h17 hp12q (row_198 h12).1 (row_198 h12).2 (by decide +kernel) ?_
    refine n_iincK (n := 4) (j := 1) (w := 1) (lo2 := [_, _, _, _, _]) (by decide +kernel) rfl rfl rfl ?_
    refine n_goto (off := -35) (tgt := 63) (by decide +kernel) (by decide) ?_
    cases hr
    exact hk
set_option maxRecDepth 100000 in
theorem W_X10_putsAll_b63 (G : GG l s0 b L xs D cy ad) {a1 : Nat} {x2 : Int32} {x3 : Int32}  (hp0 : P 76) (hp1 : P a1) (hs1 : SH a1 = 12) {s : (Int32 × Mm)} {e : Mm} (h : whl fu (f_X10_putsAll_b63 a1 x2 x3) s = some e) (res : Rs) (M' : Mm) : Q_X10_putsAll_b63 l s0 D cy ad P a1 x2 x3 res M' e → P_X10_putsAll_b63 l s0 D cy ad P a1 x2 x3 res M' s := whl_run (P := fun s => P_X10_putsAll_b63 l s0 D cy ad P a1 x2 x3 res M' s) (Q := fun e => Q_X10_putsAll_b63 l s0 D cy ad P a1 x2 x3 res M' e) (B_X10_putsAll_b63 G (res := res) (M' := M') (a1 := a1) (x2 := x2) (x3 := x3) hp0 hp1 hs1) fu s h
set_option maxRecDepth 100000 in
theorem B_X10_putsAll_b54 (G : GG l s0 b L xs D cy ad) {a1 : Nat} {x2 : Int32}  {res : Rs} {M' : Mm} (hp0 : P 76) (hp1 : P a1) (hs1 : SH a1 = 12) : ∀ (s : (Int32 × Mm)) (r : (Int32 × Mm) ⊕ Mm), f_X10_putsAll_b54 a1 x2 s = some r → mtc (P_X10_putsAll_b54 l s0 D cy ad P a1 x2 res M') (Q_X10_putsAll_b54 l s0 D cy ad P a1 x2 res M') r → P_X10_putsAll_b54 l s0 D cy ad P a1 x2 res M' s := by
  intro s r hr hk
  obtain ⟨x3, M⟩ := s
  unfold f_X10_putsAll_b54 at hr
  try dsimp only at hr
  dsimp only [P_X10_putsAll_b54]
  refine n_iload_n (n := 3) (by decide +kernel) rfl ?_
  refine n_bipush (n := 20) (v := 20) (by decide +kernel) rfl ?_
  refine n_icmp_ge (off := 50) (tgt := 107) (by decide +kernel) (by decide) (fun hc9 => ?_) (fun hc9 => ?_)
  · rw [if_pos hc9] at hr
    cases hr
    refine n_msk [false, false, false, false, false] (lo2 := [.null, .null, .null, .null, .null]) rfl rfl ?_
    exact hk
  · rw [if_neg hc9] at hr
    refine n_iconst (n := 0) (v := 0) (by decide +kernel) rfl ?_
    refine n_istore (n := 4) (lo2 := [_, _, _, _, _]) (by decide +kernel) (Nat.le_of_ble_eq_true rfl) rfl ?_
    obtain ⟨M18, h18, hr⟩ := bso hr
    refine (W_X10_putsAll_b63 G hp0 hp1 hs1 h18 _ _) ?_
    dsimp only [Q_X10_putsAll_b63]
    refine n_iincK (n := 3) (j := 1) (w := 1) (lo2 := [_, _, _, _, _]) (by decide +kernel) rfl rfl rfl ?_
    refine n_goto (off := -50) (tgt := 54) (by decide +kernel) (by decide) ?_
    cases hr
    exact hk
set_option maxRecDepth 100000 in
theorem W_X10_putsAll_b54 (G : GG l s0 b L xs D cy ad) {a1 : Nat} {x2 : Int32}  (hp0 : P 76) (hp1 : P a1) (hs1 : SH a1 = 12) {s : (Int32 × Mm)} {e : Mm} (h : whl fu (f_X10_putsAll_b54 a1 x2) s = some e) (res : Rs) (M' : Mm) : Q_X10_putsAll_b54 l s0 D cy ad P a1 x2 res M' e → P_X10_putsAll_b54 l s0 D cy ad P a1 x2 res M' s := whl_run (P := fun s => P_X10_putsAll_b54 l s0 D cy ad P a1 x2 res M' s) (Q := fun e => Q_X10_putsAll_b54 l s0 D cy ad P a1 x2 res M' e) (B_X10_putsAll_b54 G (res := res) (M' := M') (a1 := a1) (x2 := x2) hp0 hp1 hs1) fu s h
set_option maxRecDepth 100000 in
theorem B_X10_putsAll (G : GG l s0 b L xs D cy ad)  {a1 : Nat} {x2 : Int32} {M : Mm} {r : Mm} (hp0 : P 76) (hp1 : P a1) (hs1 : SH a1 = 12) (hr : f_X10_putsAll a1 x2 M = some r) : Cl l s0 D cy ad P 10 KX10_putsAll [.ref 76, .ref a1, .int x2] M (.inl none) (r) := by
  refine cl_ofN (by decide +kernel) rfl rfl rfl (lo0 := [_, _, _, .null, .null]) rfl ?_
  unfold f_X10_putsAll at hr
  refine n_aload_n (n := 0) (by decide +kernel) rfl ?_
  refine n_iconst (n := 0) (v := 0) (by decide +kernel) rfl ?_
  refine n_putI G fl_RX10_387 hp0 (by decide +kernel) (by decide +kernel) ?_
  refine n_aload_n (n := 0) (by decide +kernel) rfl ?_
  refine n_aload_n (n := 0) (by decide +kernel) rfl ?_
  refine n_aload_n (n := 1) (by decide +kernel) rfl ?_
  refine n_aload_n (n := 0) (by decide +kernel) rfl ?_
  refine n_getI G fl_RX10_181 hp0 (by decide +kernel) (by decide +kernel) ?_
  refine n_iload_n (n := 2) (by decide +kernel) rfl ?_
  obtain ⟨⟨v1, M1⟩, h1, hr⟩ := bso hr
  try dsimp only at hr
  refine n_callVi G [_, _, _] (x := v1) (M1 := M1) (B_X10_puts G hp0 hp1 hs1 h1) (by decide) mX10_puts ml_RX10_390 hp0 (by decide +kernel) rfl rfl (Nat.le_of_ble_eq_true rfl) (by decide +kernel) ?_
  refine n_putI G fl_RX10_181 hp0 (by decide +kernel) (by decide +kernel) ?_
  refine n_iconst (n := 0) (v := 0) (by decide +kernel) rfl ?_
  refine n_istore_n (n := 3) (lo2 := [_, _, _, _, _]) (by decide +kernel) (Nat.le_of_ble_eq_true rfl) rfl ?_
  obtain ⟨M8, h8, hr⟩ := bso hr
  refine (W_X10_putsAll_b21 G hp0 hp1 hs1 h8 _ _) ?_
  dsimp only [Q_X10_putsAll_b21]
  refine n_iconst (n := 0) (v := 0) (by decide +kernel) rfl ?_
  refine n_istore_n (n := 3) (lo2 := [_, _, _, _, _]) (by decide +kernel) (Nat.le_of_ble_eq_true rfl) rfl ?_
  obtain ⟨M19, h19, hr⟩ := bso hr
  refine (W_X10_putsAll_b54 G hp0 hp1 hs1 h19 _ _) ?_
  dsimp only [Q_X10_putsAll_b54]
  cases hr
  exact n_return (by decide +kernel)
set_option maxRecDepth 100000 in
theorem B_X10_image (G : GG l s0 b L xs D cy ad)   {M : Mm} {r : (Int32 × Mm)} (hp0 : P 76) (hr : f_X10_image  M = some r) : Cl l s0 D cy ad P 11 KX10_image [.ref 76] M (.inl (some (.int r.1))) (r.2) := by
  refine cl_ofN (by decide +kernel) rfl rfl okI (lo0 := [_]) rfl ?_
  unfold f_X10_image at hr
  refine n_aload_n (n := 0) (by decide +kernel) rfl ?_
  refine n_iconst (n := 0) (v := 0) (by decide +kernel) rfl ?_
  refine n_putI G fl_RX10_88 hp0 (by decide +kernel) (by decide +kernel) ?_
  refine n_aload_n (n := 0) (by decide +kernel) rfl ?_
  refine n_getI G fl_RX10_187 hp0 (by decide +kernel) (by decide +kernel) ?_
  refine n_iconst (n := 3) (v := 3) (by decide +kernel) rfl ?_
  refine n_icmp_ne (off := 5) (tgt := 15) (by decide +kernel) (by decide) (fun hc1 => ?_) (fun hc1 => ?_)
  · rw [if_neg hc1] at hr
    refine n_aload_n (n := 0) (by decide +kernel) rfl ?_
    refine n_aload_n (n := 0) (by decide +kernel) rfl ?_
    refine n_getF (q := 219) G fl_RX10_70 hp0 (by decide +kernel) (by decide +kernel) (by decide +kernel) (fun hp2q => ?_)
    refine n_aload_n (n := 0) (by decide +kernel) rfl ?_
    refine n_getI G fl_RX10_187 hp0 (by decide +kernel) (by decide +kernel) ?_
    obtain ⟨q3, h3, hr⟩ := bso hr
    refine n_aald G h3 hp2q (by decide +kernel) (by decide +kernel) (by decide +kernel) (fun hp3q => ?_)
    refine n_iconst (n := 0) (v := 0) (by decide +kernel) rfl ?_
    obtain ⟨M4, h4, hr⟩ := bso hr
    refine n_callVv G [_, _] (M1 := M4) (B_X10_putsAll G hp0 hp3q (row_219 h3).1 h4) (by decide) mX10_putsAll ml_RX10_394 hp0 (by decide +kernel) rfl rfl (Nat.le_of_ble_eq_true rfl) (by decide +kernel) ?_
    refine n_aload_n (n := 0) (by decide +kernel) rfl ?_
    refine n_dup rfl (by decide +kernel) ?_
    refine n_getI G fl_RX10_187 hp0 (by decide +kernel) (by decide +kernel) ?_
    refine n_iconst (n := 1) (v := 1) (by decide +kernel) rfl ?_
    refine n_iadd (by decide +kernel) ?_
    refine n_putI G fl_RX10_187 hp0 (by decide +kernel) (by decide +kernel) ?_
    refine n_aload_n (n := 0) (by decide +kernel) rfl ?_
    refine n_getI G fl_RX10_187 hp0 (by decide +kernel) (by decide +kernel) ?_
    cases hr
    exact n_ireturn (by decide +kernel)
  · rw [if_pos hc1] at hr
    refine n_iconst (n := -1) (v := -1) (by decide +kernel) rfl ?_
    cases hr
    exact n_ireturn (by decide +kernel)
set_option maxRecDepth 100000 in
theorem B_X10_restore (G : GG l s0 b L xs D cy ad)   {M : Mm} {r : (Int32 × Mm)} (hp0 : P 76) (hr : f_X10_restore  M = some r) : Cl l s0 D cy ad P 11 KX10_restore [.ref 76] M (.inl (some (.int r.1))) (r.2) := by
  refine cl_ofN (by decide +kernel) rfl rfl okI (lo0 := [_]) rfl ?_
  unfold f_X10_restore at hr
  refine n_aload_n (n := 0) (by decide +kernel) rfl ?_
  refine n_iconst (n := 0) (v := 0) (by decide +kernel) rfl ?_
  refine n_putI G fl_RX10_88 hp0 (by decide +kernel) (by decide +kernel) ?_
  refine n_aload_n (n := 0) (by decide +kernel) rfl ?_
  refine n_getI G fl_RX10_187 hp0 (by decide +kernel) (by decide +kernel) ?_
  refine n_if_ne (off := 5) (tgt := 14) (by decide +kernel) (by decide) (fun hc1 => ?_) (fun hc1 => ?_)
  · rw [if_neg hc1] at hr
    refine n_aload_n (n := 0) (by decide +kernel) rfl ?_
    refine n_dup rfl (by decide +kernel) ?_
    refine n_getI G fl_RX10_187 hp0 (by decide +kernel) (by decide +kernel) ?_
    refine n_iconst (n := 1) (v := 1) (by decide +kernel) rfl ?_
    refine n_isub (by decide +kernel) ?_
    refine n_putI G fl_RX10_187 hp0 (by decide +kernel) (by decide +kernel) ?_
    refine n_aload_n (n := 0) (by decide +kernel) rfl ?_
    refine n_aload_n (n := 0) (by decide +kernel) rfl ?_
    refine n_getF (q := 219) G fl_RX10_70 hp0 (by decide +kernel) (by decide +kernel) (by decide +kernel) (fun hp2q => ?_)
    refine n_aload_n (n := 0) (by decide +kernel) rfl ?_
    refine n_getI G fl_RX10_187 hp0 (by decide +kernel) (by decide +kernel) ?_
    obtain ⟨q3, h3, hr⟩ := bso hr
    refine n_aald G h3 hp2q (by decide +kernel) (by decide +kernel) (by decide +kernel) (fun hp3q => ?_)
    refine n_iconst (n := 1) (v := 1) (by decide +kernel) rfl ?_
    obtain ⟨M4, h4, hr⟩ := bso hr
    refine n_callVv G [_, _] (M1 := M4) (B_X10_putsAll G hp0 hp3q (row_219 h3).1 h4) (by decide) mX10_putsAll ml_RX10_394 hp0 (by decide +kernel) rfl rfl (Nat.le_of_ble_eq_true rfl) (by decide +kernel) ?_
    refine n_aload_n (n := 0) (by decide +kernel) rfl ?_
    refine n_iconst (n := 0) (v := 0) (by decide +kernel) rfl ?_
    refine n_putI G fl_RX10_184 hp0 (by decide +kernel) (by decide +kernel) ?_
    refine n_aload_n (n := 0) (by decide +kernel) rfl ?_
    refine n_getI G fl_RX10_187 hp0 (by decide +kernel) (by decide +kernel) ?_
    cases hr
    exact n_ireturn (by decide +kernel)
  · rw [if_pos hc1] at hr
    refine n_iconst (n := -1) (v := -1) (by decide +kernel) rfl ?_
    cases hr
    exact n_ireturn (by decide +kernel)
set_option maxRecDepth 100000 in
theorem B_X10_status (G : GG l s0 b L xs D cy ad)  {x1 : Int32} {M : Mm} {r : (Int32 × Mm)} (hp0 : P 76) (hr : f_X10_status x1 M = some r) : Cl l s0 D cy ad P 10 KX10_status [.ref 76, .int x1] M (.inl (some (.int r.1))) (r.2) := by
  refine cl_ofN (by decide +kernel) rfl rfl okI (lo0 := [_, _]) rfl ?_
  unfold f_X10_status at hr
  refine n_aload_n (n := 0) (by decide +kernel) rfl ?_
  refine n_iconst (n := 0) (v := 0) (by decide +kernel) rfl ?_
  refine n_putI G fl_RX10_88 hp0 (by decide +kernel) (by decide +kernel) ?_
  refine n_iload_n (n := 1) (by decide +kernel) rfl ?_
  refine n_iconst (n := 0) (v := 0) (by decide +kernel) rfl ?_
  refine n_iconst (n := 2) (v := 2) (by decide +kernel) rfl ?_
  obtain ⟨v1, h1, hr⟩ := bso hr
  refine n_callSi G [_, _, _] (x := v1) (B_X10_in G  h1) (by decide) mX10_in ml_RX10_122 rfl rfl (Nat.le_of_ble_eq_true rfl) (by decide +kernel) ?_
  refine n_if_eq (off := 12) (tgt := 23) (by decide +kernel) (by decide) (fun hc2 => ?_) (fun hc2 => ?_)
  · rw [if_pos hc2] at hr
    refine n_iconst (n := -1) (v := -1) (by decide +kernel) rfl ?_
    cases hr
    exact n_ireturn (by decide +kernel)
  · rw [if_neg hc2] at hr
    refine n_aload_n (n := 0) (by decide +kernel) rfl ?_
    refine n_getF (q := 78) G fl_RX10_17 hp0 (by decide +kernel) (by decide +kernel) (by decide +kernel) (fun hp3q => ?_)
    refine n_iload_n (n := 1) (by decide +kernel) rfl ?_
    obtain ⟨v4, h4, hr⟩ := bso hr
    refine n_iald G h4 hp3q (by decide +kernel) (by decide +kernel) (by decide +kernel) ?_
    refine n_goto (off := 4) (tgt := 24) (by decide +kernel) (by decide) ?_
    cases hr
    exact n_ireturn (by decide +kernel)
set_option maxRecDepth 100000 in
theorem B_X10_count (G : GG l s0 b L xs D cy ad)  {x1 : Int32} {M : Mm} {r : (Int32 × Mm)} (hp0 : P 76) (hr : f_X10_count x1 M = some r) : Cl l s0 D cy ad P 9 KX10_count [.ref 76, .int x1] M (.inl (some (.int r.1))) (r.2) := by
  refine cl_ofN (by decide +kernel) rfl rfl okI (lo0 := [_, _]) rfl ?_
  unfold f_X10_count at hr
  refine n_aload_n (n := 0) (by decide +kernel) rfl ?_
  refine n_iconst (n := 0) (v := 0) (by decide +kernel) rfl ?_
  refine n_putI G fl_RX10_88 hp0 (by decide +kernel) (by decide +kernel) ?_
  refine n_iload_n (n := 1) (by decide +kernel) rfl ?_
  refine n_if_ne (off := 10) (tgt := 16) (by decide +kernel) (by decide) (fun hc1 => ?_) (fun hc1 => ?_)
  · rw [if_neg hc1] at hr
    refine n_iload_n (n := 1) (by decide +kernel) rfl ?_
    refine n_iconst (n := 1) (v := 1) (by decide +kernel) rfl ?_
    refine n_icmp_ne (off := 10) (tgt := 28) (by decide +kernel) (by decide) (fun hc2 => ?_) (fun hc2 => ?_)
    · rw [if_neg hc2] at hr
      refine n_iload_n (n := 1) (by decide +kernel) rfl ?_
      refine n_iconst (n := 2) (v := 2) (by decide +kernel) rfl ?_
      refine n_icmp_ne (off := 10) (tgt := 40) (by decide +kernel) (by decide) (fun hc3 => ?_) (fun hc3 => ?_)
      · rw [if_neg hc3] at hr
        refine n_iconst (n := -1) (v := -1) (by decide +kernel) rfl ?_
        cases hr
        exact n_ireturn (by decide +kernel)
      · rw [if_pos hc3] at hr
        refine n_aload_n (n := 0) (by decide +kernel) rfl ?_
        refine n_getI G fl_RX10_181 hp0 (by decide +kernel) (by decide +kernel) ?_
        refine n_goto (off := 4) (tgt := 41) (by decide +kernel) (by decide) ?_
        cases hr
        exact n_ireturn (by decide +kernel)
    · rw [if_pos hc2] at hr
      refine n_aload_n (n := 0) (by decide +kernel) rfl ?_
      refine n_getI G fl_RX10_91 hp0 (by decide +kernel) (by decide +kernel) ?_
      refine n_goto (off := 16) (tgt := 41) (by decide +kernel) (by decide) ?_
      cases hr
      exact n_ireturn (by decide +kernel)
  · rw [if_pos hc1] at hr
    refine n_aload_n (n := 0) (by decide +kernel) rfl ?_
    refine n_getI G fl_RX10_187 hp0 (by decide +kernel) (by decide +kernel) ?_
    refine n_goto (off := 28) (tgt := 41) (by decide +kernel) (by decide) ?_
    cases hr
    exact n_ireturn (by decide +kernel)
end NB
