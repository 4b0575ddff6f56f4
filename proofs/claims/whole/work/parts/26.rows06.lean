/-! printed rows: a method is its function -/
section NB
variable {l : Launch} {s0 : State} {b L : Nat} {xs : Nat → Int32} {D : va_G} {cy : Nat → ClassId} {ad : Nat → Nat} {P : Nat → Prop}
set_option maxRecDepth 100000 in
theorem B_X9_fits (G : GG l s0 b L xs D cy ad)   {M : Mm} {r : (Int32 × Mm)} (hp0 : P 0) (hr : f_X9_fits  M = some r) : Cl l s0 D cy ad P 14 KX9_fits [.ref 0] M (.inl (some (.int r.1))) (r.2) := by
  refine cl_ofN (by decide +kernel) rfl rfl okI (lo0 := [_]) rfl ?_
  unfold f_X9_fits at hr
  refine n_aload_n (n := 0) (by decide +kernel) rfl ?_
  refine n_getD (t := 1) G fl_RX9_67 hp0 (by decide +kernel) (by decide +kernel) (by decide +kernel) (fun hp1q hs1q => ?_)
  refine n_aload_n (n := 0) (by decide +kernel) rfl ?_
  refine n_getD (t := 8) G fl_RX9_57 hp0 (by decide +kernel) (by decide +kernel) (by decide +kernel) (fun hp2q hs2q => ?_)
  obtain ⟨⟨v3, M3⟩, h3, hr⟩ := bso hr
  try dsimp only at hr
  refine n_callVi G [_] (x := v3) (M1 := M3) (B_X1_fittingSizes G hp1q hs1q hp2q hs2q h3) (by decide) mX1_fittingSizes ml_RX9_290 hp1q hs1q rfl rfl (Nat.le_of_ble_eq_true rfl) (by decide +kernel) ?_
  cases hr
  exact n_ireturn (by decide +kernel)
set_option maxRecDepth 100000 in
theorem B_X9_isFrost (G : GG l s0 b L xs D cy ad)  {x0 : Int32} {x1 : Int32} {M : Mm} {r : Int32}  (hr : f_X9_isFrost x0 x1 M = some r) : Cl l s0 D cy ad P 9 KX9_isFrost [.int x0, .int x1] M (.inl (some (.int r))) (M) := by
  unfold f_X9_isFrost at hr
  obtain ⟨v0, h0, h1⟩ := bso hr
  clear hr
  obtain ⟨hb, rfl⟩ := rB_in h1
  have hr := h0
  clear h0
  refine cl_ofN (by decide +kernel) rfl rfl (okB hb) (lo0 := [_, _]) rfl ?_
  unfold g_X9_isFrost at hr
  refine n_iload_n (n := 0) (by decide +kernel) rfl ?_
  refine n_if_lt (off := 24) (tgt := 25) (by decide +kernel) (by decide) (fun hc1 => ?_) (fun hc1 => ?_)
  · rw [if_pos hc1] at hr
    refine n_iconst (n := 0) (v := 0) (by decide +kernel) rfl ?_
    cases hr
    exact n_ireturn (by decide +kernel)
  · rw [if_neg hc1] at hr
    refine n_iload_n (n := 0) (by decide +kernel) rfl ?_
    refine n_bipush (n := 16) (v := 16) (by decide +kernel) rfl ?_
    refine n_icmp_gt (off := 18) (tgt := 25) (by decide +kernel) (by decide) (fun hc2 => ?_) (fun hc2 => ?_)
    · rw [if_pos hc2] at hr
      refine n_iconst (n := 0) (v := 0) (by decide +kernel) rfl ?_
      cases hr
      exact n_ireturn (by decide +kernel)
    · rw [if_neg hc2] at hr
      refine n_iload_n (n := 1) (by decide +kernel) rfl ?_
      refine n_iconst (n := 1) (v := 1) (by decide +kernel) rfl ?_
      refine n_icmp_lt (off := 13) (tgt := 25) (by decide +kernel) (by decide) (fun hc3 => ?_) (fun hc3 => ?_)
      · rw [if_pos hc3] at hr
        refine n_iconst (n := 0) (v := 0) (by decide +kernel) rfl ?_
        cases hr
        exact n_ireturn (by decide +kernel)
      · rw [if_neg hc3] at hr
        refine n_iload_n (n := 1) (by decide +kernel) rfl ?_
        refine n_bipush (n := 20) (v := 20) (by decide +kernel) rfl ?_
        refine n_icmp_gt (off := 7) (tgt := 25) (by decide +kernel) (by decide) (fun hc4 => ?_) (fun hc4 => ?_)
        · rw [if_pos hc4] at hr
          refine n_iconst (n := 0) (v := 0) (by decide +kernel) rfl ?_
          cases hr
          exact n_ireturn (by decide +kernel)
        · rw [if_neg hc4] at hr
          refine n_iconst (n := 1) (v := 1) (by decide +kernel) rfl ?_
          refine n_goto (off := 4) (tgt := 26) (by decide +kernel) (by decide) ?_
          cases hr
          exact n_ireturn (by decide +kernel)
set_option maxRecDepth 100000 in
theorem B_X9_frost_j25 (G : GG l s0 b L xs D cy ad) {x1 : Int32} {x2 : Int32} {x3 : Int32} {x4 : Int32} {xs1 : Int32} {M : Mm} {r : ((Nat ⊕ Int32) × Mm)} (hp0 : P 0) (hp90 : P 0) (hr : f_X9_frost_j25 x1 x2 x3 x4 xs1 M = some r) : Rn l s0 D cy ad P 15 KX9_frost 25 [.ref 0, .int x1, .int x2, .int x3, .int x4] [.int xs1, .ref 0] M (rsI r.1) (r.2) := by
  unfold f_X9_frost_j25 at hr
  obtain ⟨⟨e3 | v3, M3⟩, h3, hr⟩ := bso hr
  · (try dsimp only at hr); cases hr; exact n_callVx G [_] (E := X3 e3) (M1 := M3) (B_X9_needArgument G hp90 h3) (by decide) mX9_needArgument ml_RX9_111 hp90 (by decide +kernel) rfl rfl (Nat.le_of_ble_eq_true rfl) (by decide +kernel) (fun z hz => nomatch hz)
  try dsimp only at hr
  refine n_callVv G [_] (M1 := M3) (B_X9_needArgument G hp90 h3) (by decide) mX9_needArgument ml_RX9_111 hp90 (by decide +kernel) rfl rfl (Nat.le_of_ble_eq_true rfl) (by decide +kernel) ?_
  refine n_iload (n := 4) (by decide +kernel) rfl ?_
  refine n_iconst (n := 2) (v := 2) (by decide +kernel) rfl ?_
  refine n_icmp_ne (off := 22) (tgt := 53) (by decide +kernel) (by decide) (fun hc4 => ?_) (fun hc4 => ?_)
  · rw [if_neg hc4] at hr
    refine n_aload_n (n := 0) (by decide +kernel) rfl ?_
    refine n_getF (q := 18) G fl_RX9_40 hp0 (by decide +kernel) (by decide +kernel) (by decide +kernel) (fun hp5q => ?_)
    refine n_aload_n (n := 0) (by decide +kernel) rfl ?_
    refine n_getD (t := 3) G fl_RX9_47 hp0 (by decide +kernel) (by decide +kernel) (by decide +kernel) (fun hp6q hs6q => ?_)
    refine n_aload_n (n := 0) (by decide +kernel) rfl ?_
    refine n_getD (t := 8) G fl_RX9_57 hp0 (by decide +kernel) (by decide +kernel) (by decide +kernel) (fun hp7q hs7q => ?_)
    refine n_iload_n (n := 1) (by decide +kernel) rfl ?_
    refine n_iload_n (n := 2) (by decide +kernel) rfl ?_
    refine n_iload_n (n := 3) (by decide +kernel) rfl ?_
    obtain ⟨M8, h8, hr⟩ := bso hr
    refine n_callVv G [_, _, _, _, _] (M1 := M8) (B_X2_passFrost G hp5q hp6q hs6q hp7q hs7q h8) (by decide) mX2_passFrost ml_RX9_302 hp5q (by decide +kernel) rfl rfl (Nat.le_of_ble_eq_true rfl) (by decide +kernel) ?_
    refine n_iload (n := 4) (by decide +kernel) rfl ?_
    refine n_if_ne (off := 13) (tgt := 86) (by decide +kernel) (by decide) (fun hc9 => ?_) (fun hc9 => ?_)
    · rw [if_neg hc9] at hr
      refine n_aload_n (n := 0) (by decide +kernel) rfl ?_
      refine n_getF (q := 18) G fl_RX9_40 hp0 (by decide +kernel) (by decide +kernel) (by decide +kernel) (fun hp10q => ?_)
      obtain ⟨v11, h11, hr⟩ := bso hr
      refine n_callVi G [] (x := v11) (B_X2_allSizes G hp10q h11) (by decide) mX2_allSizes ml_RX9_309 hp10q (by decide +kernel) rfl rfl (Nat.le_of_ble_eq_true rfl) (by decide +kernel) ?_
      cases hr
      exact n_ireturn (by decide +kernel)
    · rw [if_pos hc9] at hr
      refine n_aload_n (n := 0) (by decide +kernel) rfl ?_
      refine n_getF (q := 18) G fl_RX9_40 hp0 (by decide +kernel) (by decide +kernel) (by decide +kernel) (fun hp12q => ?_)
      obtain ⟨v13, h13, hr⟩ := bso hr
      refine n_callVi G [] (x := v13) (B_X2_howMany G hp12q h13) (by decide) mX2_howMany ml_RX9_306 hp12q (by decide +kernel) rfl rfl (Nat.le_of_ble_eq_true rfl) (by decide +kernel) ?_
      refine n_goto (off := 10) (tgt := 93) (by decide +kernel) (by decide) ?_
      cases hr
      exact n_ireturn (by decide +kernel)
  · rw [if_pos hc4] at hr
    refine n_aload_n (n := 0) (by decide +kernel) rfl ?_
    refine n_getF (q := 18) G fl_RX9_40 hp0 (by decide +kernel) (by decide +kernel) (by decide +kernel) (fun hp14q => ?_)
    refine n_aload_n (n := 0) (by decide +kernel) rfl ?_
    refine n_getD (t := 3) G fl_RX9_47 hp0 (by decide +kernel) (by decide +kernel) (by decide +kernel) (fun hp15q hs15q => ?_)
    refine n_aload_n (n := 0) (by decide +kernel) rfl ?_
    refine n_getD (t := 8) G fl_RX9_57 hp0 (by decide +kernel) (by decide +kernel) (by decide +kernel) (fun hp16q hs16q => ?_)
    refine n_iload_n (n := 1) (by decide +kernel) rfl ?_
    refine n_iload_n (n := 2) (by decide +kernel) rfl ?_
    refine n_iload_n (n := 3) (by decide +kernel) rfl ?_
    obtain ⟨⟨v17, M17⟩, h17, hr⟩ := bso hr
    try dsimp only at hr
    refine n_callVi G [_, _, _, _, _] (x := v17) (M1 := M17) (B_X2_harmOfFrost G hp14q hp15q hs15q hp16q hs16q h17) (by decide) mX2_harmOfFrost ml_RX9_298 hp14q (by decide +kernel) rfl rfl (Nat.le_of_ble_eq_true rfl) (by decide +kernel) ?_
    cases hr
    exact n_ireturn (by decide +kernel)
set_option maxRecDepth 100000 in
theorem B_X9_frost_j24 (G : GG l s0 b L xs D cy ad) {x1 : Int32} {x2 : Int32} {x3 : Int32} {x4 : Int32} {M : Mm} {r : ((Nat ⊕ Int32) × Mm)} (hp0 : P 0) (hp90 : P 0) (hr : f_X9_frost_j24 x1 x2 x3 x4 M = some r) : Rn l s0 D cy ad P 15 KX9_frost 24 [.ref 0, .int x1, .int x2, .int x3, .int x4] [.ref 0] M (rsI r.1) (r.2) := by
  unfold f_X9_frost_j24 at hr
  refine n_iconst (n := 0) (v := 0) (by decide +kernel) rfl ?_
  exact B_X9_frost_j25 G hp0 hp90 hr
set_option maxRecDepth 100000 in
theorem B_X9_frost (G : GG l s0 b L xs D cy ad)  {x1 : Int32} {x2 : Int32} {x3 : Int32} {x4 : Int32} {M : Mm} {r : ((Nat ⊕ Int32) × Mm)} (hp0 : P 0) (hr : f_X9_frost x1 x2 x3 x4 M = some r) : Cl l s0 D cy ad P 15 KX9_frost [.ref 0, .int x1, .int x2, .int x3, .int x4] M (rsI r.1) (r.2) := by
  refine cl_ofN (by decide +kernel) rfl rfl okRI (lo0 := [_, _, _, _, _]) rfl ?_
  unfold f_X9_frost at hr
  refine n_aload_n (n := 0) (by decide +kernel) rfl ?_
  refine n_iload_n (n := 2) (by decide +kernel) rfl ?_
  refine n_iload_n (n := 3) (by decide +kernel) rfl ?_
  obtain ⟨v1, h1, hr⟩ := bso hr
  refine n_callSi G [_, _] (x := v1) (B_X9_isFrost G  h1) (by decide) mX9_isFrost ml_RX9_294 rfl rfl (Nat.le_of_ble_eq_true rfl) (by decide +kernel) ?_
  refine n_if_eq (off := 18) (tgt := 24) (by decide +kernel) (by decide) (fun hc2 => ?_) (fun hc2 => ?_)
  · rw [if_pos hc2] at hr
    exact B_X9_frost_j24 G hp0 hp0 hr
  · rw [if_neg hc2] at hr
    refine n_iload (n := 4) (by decide +kernel) rfl ?_
    refine n_if_lt (off := 13) (tgt := 24) (by decide +kernel) (by decide) (fun hc18 => ?_) (fun hc18 => ?_)
    · rw [if_pos hc18] at hr
      exact B_X9_frost_j24 G hp0 hp0 hr
    · rw [if_neg hc18] at hr
      refine n_iload (n := 4) (by decide +kernel) rfl ?_
      refine n_iconst (n := 2) (v := 2) (by decide +kernel) rfl ?_
      refine n_icmp_gt (off := 7) (tgt := 24) (by decide +kernel) (by decide) (fun hc19 => ?_) (fun hc19 => ?_)
      · rw [if_pos hc19] at hr
        exact B_X9_frost_j24 G hp0 hp0 hr
      · rw [if_neg hc19] at hr
        refine n_iconst (n := 1) (v := 1) (by decide +kernel) rfl ?_
        refine n_goto (off := 4) (tgt := 25) (by decide +kernel) (by decide) ?_
        exact B_X9_frost_j25 G hp0 hp0 hr
abbrev P_X9_span_b61 (l : Launch) (s0 : State) (D : va_G) (cy : Nat → ClassId) (ad : Nat → Nat) (P : Nat → Prop) (x1 : Int32) (x2 : Int32) (x3 : Int32) (x4 : Int32) (x5 : Int32) (x6 : Int32)  (res : Rs) (M' : Mm) (s : (Int32 × Int32 × Int32 × Int32 × Mm)) : Prop := Rn l s0 D cy ad P 15 KX9_span 61 [.ref 0, .int x1, .int x2, .int x3, .int x4, .int x5, .int x6, .int (s.1), .int (s.2.1), .int (s.2.2.1), .int (s.2.2.2.1), .null] [] (s.2.2.2.2) res M'
abbrev Q_X9_span_b61 (l : Launch) (s0 : State) (D : va_G) (cy : Nat → ClassId) (ad : Nat → Nat) (P : Nat → Prop) (x1 : Int32) (x2 : Int32) (x3 : Int32) (x4 : Int32) (x5 : Int32) (x6 : Int32)  (res : Rs) (M' : Mm) (e : (Int32 × Int32 × Int32 × Mm)) : Prop := Rn l s0 D cy ad P 15 KX9_span 139 [.null, .null, .null, .null, .null, .null, .int x6, .int (e.1), .int (e.2.1), .int (e.2.2.1), .null, .null] [] (e.2.2.2) res M'
set_option maxRecDepth 100000 in
theorem B_X9_span_b61 (G : GG l s0 b L xs D cy ad) {x1 : Int32} {x2 : Int32} {x3 : Int32} {x4 : Int32} {x5 : Int32} {x6 : Int32}  {res : Rs} {M' : Mm} (hp0 : P 0) : ∀ (s : (Int32 × Int32 × Int32 × Int32 × Mm)) (r : (Int32 × Int32 × Int32 × Int32 × Mm) ⊕ (Int32 × Int32 × Int32 × Mm)), f_X9_span_b61 x1 x2 x3 x4 x5 x6 s = some r → mtc (P_X9_span_b61 l s0 D cy ad P x1 x2 x3 x4 x5 x6 res M') (Q_X9_span_b61 l s0 D cy ad P x1 x2 x3 x4 x5 x6 res M') r → P_X9_span_b61 l s0 D cy ad P x1 x2 x3 x4 x5 x6 res M' s := by
  intro s r hr hk
  obtain ⟨x7, x8, x9, x10, M⟩ := s
  unfold f_X9_span_b61 at hr
  try dsimp only at hr
  dsimp only [P_X9_span_b61]
  refine n_iload (n := 10) (by decide +kernel) rfl ?_
  refine n_iload_n (n := 2) (by decide +kernel) rfl ?_
  refine n_icmp_ge (off := 75) (tgt := 139) (by decide +kernel) (by decide) (fun hc4 => ?_) (fun hc4 => ?_)
  · rw [if_pos hc4] at hr
    cases hr
    refine n_msk [false, false, false, false, false, false, true, true, true, true, false, false] (lo2 := [.null, .null, .null, .null, .null, .null, _, _, _, _, .null, .null]) rfl rfl ?_
    exact hk
  · rw [if_neg hc4] at hr
    refine n_aload_n (n := 0) (by decide +kernel) rfl ?_
    refine n_getF (q := 18) G fl_RX9_40 hp0 (by decide +kernel) (by decide +kernel) (by decide +kernel) (fun hp5q => ?_)
    refine n_aload_n (n := 0) (by decide +kernel) rfl ?_
    refine n_getD (t := 3) G fl_RX9_47 hp0 (by decide +kernel) (by decide +kernel) (by decide +kernel) (fun hp6q hs6q => ?_)
    refine n_aload_n (n := 0) (by decide +kernel) rfl ?_
    refine n_getD (t := 8) G fl_RX9_57 hp0 (by decide +kernel) (by decide +kernel) (by decide +kernel) (fun hp7q hs7q => ?_)
    refine n_iload_n (n := 1) (by decide +kernel) rfl ?_
    refine n_iload (n := 10) (by decide +kernel) rfl ?_
    refine n_iadd (by decide +kernel) ?_
    refine n_iload_n (n := 3) (by decide +kernel) rfl ?_
    refine n_iload (n := 4) (by decide +kernel) rfl ?_
    obtain ⟨M8, h8, hr⟩ := bso hr
    refine n_callVv G [_, _, _, _, _] (M1 := M8) (B_X2_passFrost G hp5q hp6q hs6q hp7q hs7q h8) (by decide) mX2_passFrost ml_RX9_302 hp5q (by decide +kernel) rfl rfl (Nat.le_of_ble_eq_true rfl) (by decide +kernel) ?_
    refine n_aload_n (n := 0) (by decide +kernel) rfl ?_
    refine n_getF (q := 18) G fl_RX9_40 hp0 (by decide +kernel) (by decide +kernel) (by decide +kernel) (fun hp9q => ?_)
    obtain ⟨v10, h10, hr⟩ := bso hr
    refine n_callVi G [] (x := v10) (B_X2_howMany G hp9q h10) (by decide) mX2_howMany ml_RX9_306 hp9q (by decide +kernel) rfl rfl (Nat.le_of_ble_eq_true rfl) (by decide +kernel) ?_
    refine n_istore (n := 11) (lo2 := [_, _, _, _, _, _, _, _, _, _, _, _]) (by decide +kernel) (Nat.le_of_ble_eq_true rfl) rfl ?_
    refine n_iload (n := 7) (by decide +kernel) rfl ?_
    refine n_iload (n := 11) (by decide +kernel) rfl ?_
    refine n_mmin G ml_RX9_312 (by decide) (Nat.le_of_ble_eq_true rfl) (by decide +kernel) ?_
    refine n_istore (n := 7) (lo2 := [_, _, _, _, _, _, _, _, _, _, _, _]) (by decide +kernel) (Nat.le_of_ble_eq_true rfl) rfl ?_
    refine n_iload (n := 8) (by decide +kernel) rfl ?_
    refine n_iload (n := 11) (by decide +kernel) rfl ?_
    refine n_mmax G ml_RX9_317 (by decide) (Nat.le_of_ble_eq_true rfl) (by decide +kernel) ?_
    refine n_istore (n := 8) (lo2 := [_, _, _, _, _, _, _, _, _, _, _, _]) (by decide +kernel) (Nat.le_of_ble_eq_true rfl) rfl ?_
    refine n_iload (n := 9) (by decide +kernel) rfl ?_
    refine n_iload (n := 11) (by decide +kernel) rfl ?_
    refine n_iload (n := 5) (by decide +kernel) rfl ?_
    refine n_dia2 (J := 130) (c := x5 < v10) (a := (0 : Int32)) (b := (1 : Int32)) (fun hJ => ?_) ?_
    · refine n_icmp_gt (off := 7) (tgt := 129) (by decide +kernel) (by decide) (fun hc11 => ?_) (fun hc11 => ?_)
      · refine n_iconst (n := 0) (v := 0) (by decide +kernel) rfl ?_
        exact hJ _ (if_pos hc11).symm
      · refine n_iconst (n := 1) (v := 1) (by decide +kernel) rfl ?_
        refine n_goto (off := 4) (tgt := 130) (by decide +kernel) (by decide) ?_
        exact hJ _ (if_neg hc11).symm
    refine n_iadd (by decide +kernel) ?_
    refine n_istore (n := 9) (lo2 := [_, _, _, _, _, _, _, _, _, _, _, _]) (by decide +kernel) (Nat.le_of_ble_eq_true rfl) rfl ?_
    refine n_iincK (n := 10) (j := 1) (w := 1) (lo2 := [_, _, _, _, _, _, _, _, _, _, _, _]) (by decide +kernel) rfl rfl rfl ?_
    refine n_goto (off := -75) (tgt := 61) (by decide +kernel) (by decide) ?_
    cases hr
    refine n_msk [true, true, true, true, true, true, true, true, true, true, true, false] (lo2 := [_, _, _, _, _, _, _, _, _, _, _, .null]) rfl rfl ?_
    exact hk
set_option maxRecDepth 100000 in
theorem W_X9_span_b61 (G : GG l s0 b L xs D cy ad) {x1 : Int32} {x2 : Int32} {x3 : Int32} {x4 : Int32} {x5 : Int32} {x6 : Int32}  (hp0 : P 0) {s : (Int32 × Int32 × Int32 × Int32 × Mm)} {e : (Int32 × Int32 × Int32 × Mm)} (h : whl fu (f_X9_span_b61 x1 x2 x3 x4 x5 x6) s = some e) (res : Rs) (M' : Mm) : Q_X9_span_b61 l s0 D cy ad P x1 x2 x3 x4 x5 x6 res M' e → P_X9_span_b61 l s0 D cy ad P x1 x2 x3 x4 x5 x6 res M' s := whl_run (P := fun s => P_X9_span_b61 l s0 D cy ad P x1 x2 x3 x4 x5 x6 res M' s) (Q := fun e => Q_X9_span_b61 l s0 D cy ad P x1 x2 x3 x4 x5 x6 res M' e) (B_X9_span_b61 G (res := res) (M' := M') (x1 := x1) (x2 := x2) (x3 := x3) (x4 := x4) (x5 := x5) (x6 := x6) hp0) fu s h
set_option maxRecDepth 100000 in
theorem B_X9_span_j45 (G : GG l s0 b L xs D cy ad) {x1 : Int32} {x2 : Int32} {x3 : Int32} {x4 : Int32} {x5 : Int32} {x6 : Int32} {xs1 : Int32} {M : Mm} {r : ((Nat ⊕ Int32) × Mm)} (hp0 : P 0) (hp90 : P 0) (hr : f_X9_span_j45 x1 x2 x3 x4 x5 x6 xs1 M = some r) : Rn l s0 D cy ad P 15 KX9_span 45 [.ref 0, .int x1, .int x2, .int x3, .int x4, .int x5, .int x6, .null, .null, .null, .null, .null] [.int xs1, .ref 0] M (rsI r.1) (r.2) := by
  unfold f_X9_span_j45 at hr
  obtain ⟨⟨e3 | v3, M3⟩, h3, hr⟩ := bso hr
  · (try dsimp only at hr); cases hr; exact n_callVx G [_] (E := X3 e3) (M1 := M3) (B_X9_needArgument G hp90 h3) (by decide) mX9_needArgument ml_RX9_111 hp90 (by decide +kernel) rfl rfl (Nat.le_of_ble_eq_true rfl) (by decide +kernel) (fun z hz => nomatch hz)
  try dsimp only at hr
  refine n_callVv G [_] (M1 := M3) (B_X9_needArgument G hp90 h3) (by decide) mX9_needArgument ml_RX9_111 hp90 (by decide +kernel) rfl rfl (Nat.le_of_ble_eq_true rfl) (by decide +kernel) ?_
  refine n_bipush (n := 60) (v := 60) (by decide +kernel) rfl ?_
  refine n_istore (n := 7) (lo2 := [_, _, _, _, _, _, _, _, _, _, _, _]) (by decide +kernel) (Nat.le_of_ble_eq_true rfl) rfl ?_
  refine n_iconst (n := 0) (v := 0) (by decide +kernel) rfl ?_
  refine n_istore (n := 8) (lo2 := [_, _, _, _, _, _, _, _, _, _, _, _]) (by decide +kernel) (Nat.le_of_ble_eq_true rfl) rfl ?_
  refine n_iconst (n := 0) (v := 0) (by decide +kernel) rfl ?_
  refine n_istore (n := 9) (lo2 := [_, _, _, _, _, _, _, _, _, _, _, _]) (by decide +kernel) (Nat.le_of_ble_eq_true rfl) rfl ?_
  refine n_iconst (n := 0) (v := 0) (by decide +kernel) rfl ?_
  refine n_istore (n := 10) (lo2 := [_, _, _, _, _, _, _, _, _, _, _, _]) (by decide +kernel) (Nat.le_of_ble_eq_true rfl) rfl ?_
  obtain ⟨e12, h12, hr⟩ := bso hr
  refine (W_X9_span_b61 G hp0 h12 _ _) ?_
  obtain ⟨z7_12, z8_12, z9_12, M12⟩ := e12
  try dsimp only at hr
  dsimp only [Q_X9_span_b61]
  refine n_iload (n := 6) (by decide +kernel) rfl ?_
  refine n_iconst (n := 2) (v := 2) (by decide +kernel) rfl ?_
  refine n_icmp_ne (off := 6) (tgt := 148) (by decide +kernel) (by decide) (fun hc13 => ?_) (fun hc13 => ?_)
  · rw [if_neg hc13] at hr
    refine n_iload (n := 6) (by decide +kernel) rfl ?_
    refine n_dia1 (J := 160) (c := x6 = 0) (a := z7_12) (b := z8_12) (fun hJ => ?_) ?_
    · refine n_if_ne (off := 8) (tgt := 158) (by decide +kernel) (by decide) (fun hc14 => ?_) (fun hc14 => ?_)
      · refine n_iload (n := 8) (by decide +kernel) rfl ?_
        exact hJ _ (if_neg hc14).symm
      · refine n_iload (n := 7) (by decide +kernel) rfl ?_
        refine n_goto (off := 5) (tgt := 160) (by decide +kernel) (by decide) ?_
        exact hJ _ (if_pos hc14).symm
    cases hr
    exact n_ireturn (by decide +kernel)
  · rw [if_pos hc13] at hr
    refine n_iload (n := 9) (by decide +kernel) rfl ?_
    cases hr
    exact n_ireturn (by decide +kernel)
set_option maxRecDepth 100000 in
theorem B_X9_span_j44 (G : GG l s0 b L xs D cy ad) {x1 : Int32} {x2 : Int32} {x3 : Int32} {x4 : Int32} {x5 : Int32} {x6 : Int32} {M : Mm} {r : ((Nat ⊕ Int32) × Mm)} (hp0 : P 0) (hp90 : P 0) (hr : f_X9_span_j44 x1 x2 x3 x4 x5 x6 M = some r) : Rn l s0 D cy ad P 15 KX9_span 44 [.ref 0, .int x1, .int x2, .int x3, .int x4, .int x5, .int x6, .null, .null, .null, .null, .null] [.ref 0] M (rsI r.1) (r.2) := by
  unfold f_X9_span_j44 at hr
  refine n_iconst (n := 0) (v := 0) (by decide +kernel) rfl ?_
  exact B_X9_span_j45 G hp0 hp90 hr
set_option maxRecDepth 100000 in
theorem B_X9_span (G : GG l s0 b L xs D cy ad)  {x1 : Int32} {x2 : Int32} {x3 : Int32} {x4 : Int32} {x5 : Int32} {x6 : Int32} {M : Mm} {r : ((Nat ⊕ Int32) × Mm)} (hp0 : P 0) (hr : f_X9_span x1 x2 x3 x4 x5 x6 M = some r) : Cl l s0 D cy ad P 15 KX9_span [.ref 0, .int x1, .int x2, .int x3, .int x4, .int x5, .int x6] M (rsI r.1) (r.2) := by
  refine cl_ofN (by decide +kernel) rfl rfl okRI (lo0 := [_, _, _, _, _, _, _, .null, .null, .null, .null, .null]) rfl ?_
  unfold f_X9_span at hr
  refine n_aload_n (n := 0) (by decide +kernel) rfl ?_
  refine n_iload_n (n := 3) (by decide +kernel) rfl ?_
  refine n_iload (n := 4) (by decide +kernel) rfl ?_
  obtain ⟨v1, h1, hr⟩ := bso hr
  refine n_callSi G [_, _] (x := v1) (B_X9_isFrost G  h1) (by decide) mX9_isFrost ml_RX9_294 rfl rfl (Nat.le_of_ble_eq_true rfl) (by decide +kernel) ?_
  refine n_if_eq (off := 37) (tgt := 44) (by decide +kernel) (by decide) (fun hc2 => ?_) (fun hc2 => ?_)
  · rw [if_pos hc2] at hr
    exact B_X9_span_j44 G hp0 hp0 hr
  · rw [if_neg hc2] at hr
    refine n_iload_n (n := 2) (by decide +kernel) rfl ?_
    refine n_iconst (n := 1) (v := 1) (by decide +kernel) rfl ?_
    refine n_icmp_lt (off := 32) (tgt := 44) (by decide +kernel) (by decide) (fun hc15 => ?_) (fun hc15 => ?_)
    · rw [if_pos hc15] at hr
      exact B_X9_span_j44 G hp0 hp0 hr
    · rw [if_neg hc15] at hr
      refine n_iload_n (n := 2) (by decide +kernel) rfl ?_
      refine n_bipush (n := 20) (v := 20) (by decide +kernel) rfl ?_
      refine n_icmp_gt (off := 26) (tgt := 44) (by decide +kernel) (by decide) (fun hc16 => ?_) (fun hc16 => ?_)
      · rw [if_pos hc16] at hr
        exact B_X9_span_j44 G hp0 hp0 hr
      · rw [if_neg hc16] at hr
        refine n_iload (n := 5) (by decide +kernel) rfl ?_
        obtain ⟨v17, h17, hr⟩ := bso hr
        refine n_callSi G [_] (x := v17) (B_X9_isLimit G  h17) (by decide) mX9_isLimit ml_RX9_280 rfl rfl (Nat.le_of_ble_eq_true rfl) (by decide +kernel) ?_
        refine n_if_eq (off := 18) (tgt := 44) (by decide +kernel) (by decide) (fun hc18 => ?_) (fun hc18 => ?_)
        · rw [if_pos hc18] at hr
          exact B_X9_span_j44 G hp0 hp0 hr
        · rw [if_neg hc18] at hr
          refine n_iload (n := 6) (by decide +kernel) rfl ?_
          refine n_if_lt (off := 13) (tgt := 44) (by decide +kernel) (by decide) (fun hc19 => ?_) (fun hc19 => ?_)
          · rw [if_pos hc19] at hr
            exact B_X9_span_j44 G hp0 hp0 hr
          · rw [if_neg hc19] at hr
            refine n_iload (n := 6) (by decide +kernel) rfl ?_
            refine n_iconst (n := 2) (v := 2) (by decide +kernel) rfl ?_
            refine n_icmp_gt (off := 7) (tgt := 44) (by decide +kernel) (by decide) (fun hc20 => ?_) (fun hc20 => ?_)
            · rw [if_pos hc20] at hr
              exact B_X9_span_j44 G hp0 hp0 hr
            · rw [if_neg hc20] at hr
              refine n_iconst (n := 1) (v := 1) (by decide +kernel) rfl ?_
              refine n_goto (off := 4) (tgt := 45) (by decide +kernel) (by decide) ?_
              exact B_X9_span_j45 G hp0 hp0 hr
set_option maxRecDepth 100000 in
theorem B_X9_chosen_j15 (G : GG l s0 b L xs D cy ad) {x1 : Int32} {xs1 : Int32} {M : Mm} {r : ((Nat ⊕ Int32) × Mm)} (hp0 : P 0) (hp90 : P 0) (hr : f_X9_chosen_j15 x1 xs1 M = some r) : Rn l s0 D cy ad P 12 KX9_chosen 15 [.ref 0, .int x1] [.int xs1, .ref 0] M (rsI r.1) (r.2) := by
  unfold f_X9_chosen_j15 at hr
  obtain ⟨⟨e2 | v2, M2⟩, h2, hr⟩ := bso hr
  · (try dsimp only at hr); cases hr; exact n_callVx G [_] (E := X3 e2) (M1 := M2) (B_X9_needArgument G hp90 h2) (by decide) mX9_needArgument ml_RX9_111 hp90 (by decide +kernel) rfl rfl (Nat.le_of_ble_eq_true rfl) (by decide +kernel) (fun z hz => nomatch hz)
  try dsimp only at hr
  refine n_callVv G [_] (M1 := M2) (B_X9_needArgument G hp90 h2) (by decide) mX9_needArgument ml_RX9_111 hp90 (by decide +kernel) rfl rfl (Nat.le_of_ble_eq_true rfl) (by decide +kernel) ?_
  refine n_iload_n (n := 1) (by decide +kernel) rfl ?_
  refine n_if_ne (off := 13) (tgt := 32) (by decide +kernel) (by decide) (fun hc3 => ?_) (fun hc3 => ?_)
  · rw [if_neg hc3] at hr
    refine n_aload_n (n := 0) (by decide +kernel) rfl ?_
    refine n_getD (t := 8) G fl_RX9_57 hp0 (by decide +kernel) (by decide +kernel) (by decide +kernel) (fun hp4q hs4q => ?_)
    obtain ⟨v5, h5, hr⟩ := bso hr
    refine n_callVi G [] (x := v5) (B_X8_nearest G hp4q hs4q h5) (by decide) mX8_nearest ml_RX9_323 hp4q hs4q rfl rfl (Nat.le_of_ble_eq_true rfl) (by decide +kernel) ?_
    cases hr
    exact n_ireturn (by decide +kernel)
  · rw [if_pos hc3] at hr
    refine n_aload_n (n := 0) (by decide +kernel) rfl ?_
    refine n_getD (t := 8) G fl_RX9_57 hp0 (by decide +kernel) (by decide +kernel) (by decide +kernel) (fun hp6q hs6q => ?_)
    obtain ⟨v7, h7, hr⟩ := bso hr
    refine n_callVi G [] (x := v7) (B_X8_largest G hp6q hs6q h7) (by decide) mX8_largest ml_RX9_320 hp6q hs6q rfl rfl (Nat.le_of_ble_eq_true rfl) (by decide +kernel) ?_
    refine n_goto (off := 10) (tgt := 39) (by decide +kernel) (by decide) ?_
    cases hr
    exact n_ireturn (by decide +kernel)
set_option maxRecDepth 100000 in
theorem B_X9_chosen_j10 (G : GG l s0 b L xs D cy ad) {x1 : Int32} {M : Mm} {r : ((Nat ⊕ Int32) × Mm)} (hp0 : P 0) (hp90 : P 0) (hr : f_X9_chosen_j10 x1 M = some r) : Rn l s0 D cy ad P 12 KX9_chosen 10 [.ref 0, .int x1] [.ref 0] M (rsI r.1) (r.2) := by
  unfold f_X9_chosen_j10 at hr
  refine n_iconst (n := 1) (v := 1) (by decide +kernel) rfl ?_
  refine n_goto (off := 4) (tgt := 15) (by decide +kernel) (by decide) ?_
  exact B_X9_chosen_j15 G hp0 hp90 hr
set_option maxRecDepth 100000 in
theorem B_X9_chosen (G : GG l s0 b L xs D cy ad)  {x1 : Int32} {M : Mm} {r : ((Nat ⊕ Int32) × Mm)} (hp0 : P 0) (hr : f_X9_chosen x1 M = some r) : Cl l s0 D cy ad P 12 KX9_chosen [.ref 0, .int x1] M (rsI r.1) (r.2) := by
  refine cl_ofN (by decide +kernel) rfl rfl okRI (lo0 := [_, _]) rfl ?_
  unfold f_X9_chosen at hr
  refine n_aload_n (n := 0) (by decide +kernel) rfl ?_
  refine n_iload_n (n := 1) (by decide +kernel) rfl ?_
  refine n_if_eq (off := 8) (tgt := 10) (by decide +kernel) (by decide) (fun hc1 => ?_) (fun hc1 => ?_)
  · rw [if_pos hc1] at hr
    exact B_X9_chosen_j10 G hp0 hp0 hr
  · rw [if_neg hc1] at hr
    refine n_iload_n (n := 1) (by decide +kernel) rfl ?_
    refine n_iconst (n := 1) (v := 1) (by decide +kernel) rfl ?_
    refine n_icmp_ne (off := 7) (tgt := 14) (by decide +kernel) (by decide) (fun hc8 => ?_) (fun hc8 => ?_)
    · rw [if_neg hc8] at hr
      refine n_iconst (n := 0) (v := 0) (by decide +kernel) rfl ?_
      exact B_X9_chosen_j15 G hp0 hp0 hr
    · rw [if_pos hc8] at hr
      exact B_X9_chosen_j10 G hp0 hp0 hr
set_option maxRecDepth 100000 in
theorem B_X9_lifts (G : GG l s0 b L xs D cy ad)  {x1 : Int32} {x2 : Int32} {M : Mm} {r : ((Nat ⊕ Int32) × Mm)} (hp0 : P 0) (hr : f_X9_lifts x1 x2 M = some r) : Cl l s0 D cy ad P 13 KX9_lifts [.ref 0, .int x1, .int x2] M (rsI r.1) (r.2) := by
  refine cl_ofN (by decide +kernel) rfl rfl okRI (lo0 := [_, _, _, .null, .null, .null]) rfl ?_
  unfold f_X9_lifts at hr
  refine n_aload_n (n := 0) (by decide +kernel) rfl ?_
  refine n_iload_n (n := 1) (by decide +kernel) rfl ?_
  refine n_iload_n (n := 2) (by decide +kernel) rfl ?_
  obtain ⟨⟨e1 | v1, M1⟩, h1, hr⟩ := bso hr
  · (try dsimp only at hr); cases hr; exact n_callVx G [_, _] (E := X3 e1) (M1 := M1) (B_X9_needCell G hp0 h1) (by decide) mX9_needCell ml_RX9_197 hp0 (by decide +kernel) rfl rfl (Nat.le_of_ble_eq_true rfl) (by decide +kernel) (fun z hz => nomatch hz)
  try dsimp only at hr
  refine n_callVv G [_, _] (M1 := M1) (B_X9_needCell G hp0 h1) (by decide) mX9_needCell ml_RX9_197 hp0 (by decide +kernel) rfl rfl (Nat.le_of_ble_eq_true rfl) (by decide +kernel) ?_
  refine n_iload_n (n := 1) (by decide +kernel) rfl ?_
  refine n_iload_n (n := 2) (by decide +kernel) rfl ?_
  obtain ⟨v2, h2, hr⟩ := bso hr
  refine n_callSi G [_, _] (x := v2) (B_X9_cellAt G  h2) (by decide) mX9_cellAt ml_RX9_200 rfl rfl (Nat.le_of_ble_eq_true rfl) (by decide +kernel) ?_
  refine n_istore_n (n := 3) (lo2 := [_, _, _, _, _, _]) (by decide +kernel) (Nat.le_of_ble_eq_true rfl) rfl ?_
  refine n_aload_n (n := 0) (by decide +kernel) rfl ?_
  refine n_getD (t := 8) G fl_RX9_57 hp0 (by decide +kernel) (by decide +kernel) (by decide +kernel) (fun hp3q hs3q => ?_)
  refine n_aload_n (n := 0) (by decide +kernel) rfl ?_
  refine n_getD (t := 3) G fl_RX9_47 hp0 (by decide +kernel) (by decide +kernel) (by decide +kernel) (fun hp4q hs4q => ?_)
  refine n_iload_n (n := 3) (by decide +kernel) rfl ?_
  refine n_iconst (n := 0) (v := 0) (by decide +kernel) rfl ?_
  obtain ⟨v5, h5, hr⟩ := bso hr
  refine n_callVl G [_, _, _] (x := v5) (B_X8_liftable G hp3q hs3q hp4q hs4q h5) (by decide) mX8_liftable ml_RX9_326 hp3q hs3q rfl rfl (Nat.le_of_ble_eq_true rfl) (by decide +kernel) ?_
  refine n_lstore (n := 4) (lo2 := [_, _, _, _, _, _]) (by decide +kernel) (Nat.le_of_ble_eq_true rfl) rfl ?_
  refine n_lload (n := 4) (by decide +kernel) rfl ?_
  refine n_lconst (n := 0) (v := 0) (by decide +kernel) rfl ?_
  refine n_lcmp (by decide +kernel) ?_
  refine n_if_ne (off := 7) (tgt := 38) (by decide +kernel) (by decide) (fun hc6 => ?_) (fun hc6 => ?_)
  · rw [if_neg hc6] at hr
    refine n_aload_n (n := 0) (by decide +kernel) rfl ?_
    refine n_getD (t := 8) G fl_RX9_57 hp0 (by decide +kernel) (by decide +kernel) (by decide +kernel) (fun hp7q hs7q => ?_)
    refine n_aload_n (n := 0) (by decide +kernel) rfl ?_
    refine n_getD (t := 3) G fl_RX9_47 hp0 (by decide +kernel) (by decide +kernel) (by decide +kernel) (fun hp8q hs8q => ?_)
    refine n_iload_n (n := 3) (by decide +kernel) rfl ?_
    refine n_lload (n := 4) (by decide +kernel) rfl ?_
    obtain ⟨v9, h9, hr⟩ := bso hr
    refine n_callVi G [_, _, _] (x := v9) (B_X8_liftMinutes G hp7q hs7q hp8q hs8q h9) (by decide) mX8_liftMinutes ml_RX9_330 hp7q hs7q rfl rfl (Nat.le_of_ble_eq_true rfl) (by decide +kernel) ?_
    cases hr
    exact n_ireturn (by decide +kernel)
  · rw [if_pos hc6] at hr
    refine n_iconst (n := -1) (v := -1) (by decide +kernel) rfl ?_
    refine n_goto (off := 17) (tgt := 52) (by decide +kernel) (by decide) ?_
    cases hr
    exact n_ireturn (by decide +kernel)
set_option maxRecDepth 100000 in
theorem B_X9_loads (G : GG l s0 b L xs D cy ad)  {x1 : Int32} {x2 : Int32} {M : Mm} {r : ((Nat ⊕ Int64) × Mm)} (hp0 : P 0) (hr : f_X9_loads x1 x2 M = some r) : Cl l s0 D cy ad P 13 KX9_loads [.ref 0, .int x1, .int x2] M (rsL r.1) (r.2) := by
  refine cl_ofN (by decide +kernel) rfl rfl okRL (lo0 := [_, _, _]) rfl ?_
  unfold f_X9_loads at hr
  refine n_aload_n (n := 0) (by decide +kernel) rfl ?_
  refine n_iload_n (n := 1) (by decide +kernel) rfl ?_
  refine n_iload_n (n := 2) (by decide +kernel) rfl ?_
  obtain ⟨⟨e1 | v1, M1⟩, h1, hr⟩ := bso hr
  · (try dsimp only at hr); cases hr; exact n_callVx G [_, _] (E := X3 e1) (M1 := M1) (B_X9_needCell G hp0 h1) (by decide) mX9_needCell ml_RX9_197 hp0 (by decide +kernel) rfl rfl (Nat.le_of_ble_eq_true rfl) (by decide +kernel) (fun z hz => nomatch hz)
  try dsimp only at hr
  refine n_callVv G [_, _] (M1 := M1) (B_X9_needCell G hp0 h1) (by decide) mX9_needCell ml_RX9_197 hp0 (by decide +kernel) rfl rfl (Nat.le_of_ble_eq_true rfl) (by decide +kernel) ?_
  refine n_aload_n (n := 0) (by decide +kernel) rfl ?_
  refine n_getD (t := 8) G fl_RX9_57 hp0 (by decide +kernel) (by decide +kernel) (by decide +kernel) (fun hp2q hs2q => ?_)
  refine n_aload_n (n := 0) (by decide +kernel) rfl ?_
  refine n_getD (t := 3) G fl_RX9_47 hp0 (by decide +kernel) (by decide +kernel) (by decide +kernel) (fun hp3q hs3q => ?_)
  refine n_iload_n (n := 1) (by decide +kernel) rfl ?_
  refine n_iload_n (n := 2) (by decide +kernel) rfl ?_
  obtain ⟨v4, h4, hr⟩ := bso hr
  refine n_callSi G [_, _] (x := v4) (B_X9_cellAt G  h4) (by decide) mX9_cellAt ml_RX9_200 rfl rfl (Nat.le_of_ble_eq_true rfl) (by decide +kernel) ?_
  refine n_iconst (n := 0) (v := 0) (by decide +kernel) rfl ?_
  obtain ⟨v5, h5, hr⟩ := bso hr
  refine n_callVl G [_, _, _] (x := v5) (B_X8_liftable G hp2q hs2q hp3q hs3q h5) (by decide) mX8_liftable ml_RX9_326 hp2q hs2q rfl rfl (Nat.le_of_ble_eq_true rfl) (by decide +kernel) ?_
  cases hr
  exact n_lreturn (by decide +kernel)
abbrev P_X9_stoniest_b6 (l : Launch) (s0 : State) (D : va_G) (cy : Nat → ClassId) (ad : Nat → Nat) (P : Nat → Prop)  (M : Mm) (res : Rs) (M' : Mm) (s : (Int32 × Int32 × Int32)) : Prop := Rn l s0 D cy ad P 13 KX9_stoniest 6 [.ref 0, .int (s.1), .int (s.2.1), .int (s.2.2), .null] [] M res M'
abbrev Q_X9_stoniest_b6 (l : Launch) (s0 : State) (D : va_G) (cy : Nat → ClassId) (ad : Nat → Nat) (P : Nat → Prop)  (M : Mm) (res : Rs) (M' : Mm) (e : Int32) : Prop := Rn l s0 D cy ad P 13 KX9_stoniest 39 [.null, .int (e), .null, .null, .null] [] M res M'
set_option maxRecDepth 100000 in
theorem B_X9_stoniest_b6 (G : GG l s0 b L xs D cy ad)  {M : Mm} {res : Rs} {M' : Mm} (hp0 : P 0) : ∀ (s : (Int32 × Int32 × Int32)) (r : (Int32 × Int32 × Int32) ⊕ Int32), f_X9_stoniest_b6  M s = some r → mtc (P_X9_stoniest_b6 l s0 D cy ad P  M res M') (Q_X9_stoniest_b6 l s0 D cy ad P  M res M') r → P_X9_stoniest_b6 l s0 D cy ad P  M res M' s := by
  intro s r hr hk
  obtain ⟨x1, x2, x3⟩ := s
  unfold f_X9_stoniest_b6 at hr
  try dsimp only at hr
  dsimp only [P_X9_stoniest_b6]
  refine n_iload_n (n := 3) (by decide +kernel) rfl ?_
  refine n_bipush (n := 48) (v := 48) (by decide +kernel) rfl ?_
  refine n_icmp_ge (off := 30) (tgt := 39) (by decide +kernel) (by decide) (fun hc1 => ?_) (fun hc1 => ?_)
  · rw [if_pos hc1] at hr
    cases hr
    refine n_msk [false, true, false, false, false] (lo2 := [.null, _, .null, .null, .null]) rfl rfl ?_
    exact hk
  · rw [if_neg hc1] at hr
    refine n_aload_n (n := 0) (by decide +kernel) rfl ?_
    refine n_getD (t := 8) G fl_RX9_57 hp0 (by decide +kernel) (by decide +kernel) (by decide +kernel) (fun hp2q hs2q => ?_)
    refine n_iload_n (n := 3) (by decide +kernel) rfl ?_
    obtain ⟨v3, h3, hr⟩ := bso hr
    refine n_callVi G [_] (x := v3) (B_X8_sizesIn G hp2q hs2q h3) (by decide) mX8_sizesIn ml_RX9_210 hp2q hs2q rfl rfl (Nat.le_of_ble_eq_true rfl) (by decide +kernel) ?_
    refine n_istore (n := 4) (lo2 := [_, _, _, _, _]) (by decide +kernel) (Nat.le_of_ble_eq_true rfl) rfl ?_
    refine n_iload (n := 4) (by decide +kernel) rfl ?_
    refine n_iload_n (n := 2) (by decide +kernel) rfl ?_
    refine n_icmp_le (off := 8) (tgt := 33) (by decide +kernel) (by decide) (fun hc4 => ?_) (fun hc4 => ?_)
    · rw [if_pos hc4] at hr
      refine n_iincK (n := 3) (j := 1) (w := 1) (lo2 := [_, _, _, _, _]) (by decide +kernel) rfl rfl rfl ?_
      refine n_goto (off := -30) (tgt := 6) (by decide +kernel) (by decide) ?_
      cases hr
      refine n_msk [true, true, true, true, false] (lo2 := [_, _, _, _, .null]) rfl rfl ?_
      exact hk
    · rw [if_neg hc4] at hr
      refine n_iload (n := 4) (by decide +kernel) rfl ?_
      refine n_istore_n (n := 2) (lo2 := [_, _, _, _, _]) (by decide +kernel) (Nat.le_of_ble_eq_true rfl) rfl ?_
      refine n_iload_n (n := 3) (by decide +kernel) rfl ?_
      refine n_istore_n (n := 1) (lo2 := [_, _, _, _, _]) (by decide +kernel) (Nat.le_of_ble_eq_true rfl) rfl ?_
      refine n_iincK (n := 3) (j := 1) (w := 1) (lo2 := [_, _, _, _, _]) (by decide +kernel) rfl rfl rfl ?_
      refine n_goto (off := -30) (tgt := 6) (by decide +kernel) (by decide) ?_
      cases hr
      refine n_msk [true, true, true, true, false] (lo2 := [_, _, _, _, .null]) rfl rfl ?_
      exact hk
set_option maxRecDepth 100000 in
theorem W_X9_stoniest_b6 (G : GG l s0 b L xs D cy ad)  {M : Mm} (hp0 : P 0) {s : (Int32 × Int32 × Int32)} {e : Int32} (h : whl fu (f_X9_stoniest_b6  M) s = some e) (res : Rs) (M' : Mm) : Q_X9_stoniest_b6 l s0 D cy ad P  M res M' e → P_X9_stoniest_b6 l s0 D cy ad P  M res M' s := whl_run (P := fun s => P_X9_stoniest_b6 l s0 D cy ad P  M res M' s) (Q := fun e => Q_X9_stoniest_b6 l s0 D cy ad P  M res M' e) (B_X9_stoniest_b6 G (res := res) (M' := M') (M := M) hp0) fu s h
set_option maxRecDepth 100000 in
theorem B_X9_stoniest (G : GG l s0 b L xs D cy ad)   {M : Mm} {r : Int32} (hp0 : P 0) (hr : f_X9_stoniest  M = some r) : Cl l s0 D cy ad P 13 KX9_stoniest [.ref 0] M (.inl (some (.int r))) (M) := by
  refine cl_ofN (by decide +kernel) rfl rfl okI (lo0 := [_, .null, .null, .null, .null]) rfl ?_
  unfold f_X9_stoniest at hr
  refine n_iconst (n := -1) (v := -1) (by decide +kernel) rfl ?_
  refine n_istore_n (n := 1) (lo2 := [_, _, _, _, _]) (by decide +kernel) (Nat.le_of_ble_eq_true rfl) rfl ?_
  refine n_iconst (n := 0) (v := 0) (by decide +kernel) rfl ?_
  refine n_istore_n (n := 2) (lo2 := [_, _, _, _, _]) (by decide +kernel) (Nat.le_of_ble_eq_true rfl) rfl ?_
  refine n_iconst (n := 0) (v := 0) (by decide +kernel) rfl ?_
  refine n_istore_n (n := 3) (lo2 := [_, _, _, _, _]) (by decide +kernel) (Nat.le_of_ble_eq_true rfl) rfl ?_
  obtain ⟨z1_5, h5, hr⟩ := bso hr
  refine (W_X9_stoniest_b6 G hp0 h5 _ _) ?_
  dsimp only [Q_X9_stoniest_b6]
  refine n_iload_n (n := 1) (by decide +kernel) rfl ?_
  cases hr
  exact n_ireturn (by decide +kernel)
abbrev P_X9_clean_b4 (l : Launch) (s0 : State) (D : va_G) (cy : Nat → ClassId) (ad : Nat → Nat) (P : Nat → Prop)  (M : Mm) (res : Rs) (M' : Mm) (s : (Int32 × Int32)) : Prop := Rn l s0 D cy ad P 11 KX9_clean 4 [.ref 0, .int (s.1), .int (s.2)] [] M res M'
abbrev Q_X9_clean_b4 (l : Launch) (s0 : State) (D : va_G) (cy : Nat → ClassId) (ad : Nat → Nat) (P : Nat → Prop)  (M : Mm) (res : Rs) (M' : Mm) (e : Int32) : Prop := Rn l s0 D cy ad P 11 KX9_clean 52 [.null, .int (e), .null] [] M res M'
set_option maxRecDepth 100000 in
theorem B_X9_clean_b4 (G : GG l s0 b L xs D cy ad)  {M : Mm} {res : Rs} {M' : Mm} (hp0 : P 0) : ∀ (s : (Int32 × Int32)) (r : (Int32 × Int32) ⊕ Int32), f_X9_clean_b4  M s = some r → mtc (P_X9_clean_b4 l s0 D cy ad P  M res M') (Q_X9_clean_b4 l s0 D cy ad P  M res M') r → P_X9_clean_b4 l s0 D cy ad P  M res M' s := by
  intro s r hr hk
  obtain ⟨x1, x2⟩ := s
  unfold f_X9_clean_b4 at hr
  try dsimp only at hr
  dsimp only [P_X9_clean_b4]
  refine n_iload_n (n := 2) (by decide +kernel) rfl ?_
  refine n_bipush (n := 48) (v := 48) (by decide +kernel) rfl ?_
  refine n_icmp_ge (off := 45) (tgt := 52) (by decide +kernel) (by decide) (fun hc1 => ?_) (fun hc1 => ?_)
  · rw [if_pos hc1] at hr
    cases hr
    refine n_msk [false, true, false] (lo2 := [.null, _, .null]) rfl rfl ?_
    exact hk
  · rw [if_neg hc1] at hr
    refine n_aload_n (n := 0) (by decide +kernel) rfl ?_
    refine n_getD (t := 3) G fl_RX9_47 hp0 (by decide +kernel) (by decide +kernel) (by decide +kernel) (fun hp2q hs2q => ?_)
    refine n_iload_n (n := 2) (by decide +kernel) rfl ?_
    obtain ⟨v3, h3, hr⟩ := bso hr
    refine n_callVi G [_] (x := v3) (B_X3_hasCell G hp2q hs2q h3) (by decide) mX3_hasCell ml_RX9_334 hp2q hs2q rfl rfl (Nat.le_of_ble_eq_true rfl) (by decide +kernel) ?_
    refine n_if_eq (off := 28) (tgt := 46) (by decide +kernel) (by decide) (fun hc4 => ?_) (fun hc4 => ?_)
    · rw [if_pos hc4] at hr
      refine n_iincK (n := 2) (j := 1) (w := 1) (lo2 := [_, _, _]) (by decide +kernel) rfl rfl rfl ?_
      refine n_goto (off := -45) (tgt := 4) (by decide +kernel) (by decide) ?_
      cases hr
      exact hk
    · rw [if_neg hc4] at hr
      refine n_aload_n (n := 0) (by decide +kernel) rfl ?_
      refine n_getD (t := 8) G fl_RX9_57 hp0 (by decide +kernel) (by decide +kernel) (by decide +kernel) (fun hp5q hs5q => ?_)
      refine n_iload_n (n := 2) (by decide +kernel) rfl ?_
      obtain ⟨v6, h6, hr⟩ := bso hr
      refine n_callVi G [_] (x := v6) (B_X8_isLost G hp5q hs5q h6) (by decide) mX8_isLost ml_RX9_213 hp5q hs5q rfl rfl (Nat.le_of_ble_eq_true rfl) (by decide +kernel) ?_
      refine n_if_ne (off := 17) (tgt := 46) (by decide +kernel) (by decide) (fun hc7 => ?_) (fun hc7 => ?_)
      · rw [if_neg hc7] at hr
        refine n_iincK (n := 2) (j := 1) (w := 1) (lo2 := [_, _, _]) (by decide +kernel) rfl rfl rfl ?_
        refine n_goto (off := -45) (tgt := 4) (by decide +kernel) (by decide) ?_
        cases hr
        exact hk
      · rw [if_pos hc7] at hr
        refine n_aload_n (n := 0) (by decide +kernel) rfl ?_
        refine n_getD (t := 8) G fl_RX9_57 hp0 (by decide +kernel) (by decide +kernel) (by decide +kernel) (fun hp8q hs8q => ?_)
        refine n_iload_n (n := 2) (by decide +kernel) rfl ?_
        obtain ⟨v9, h9, hr⟩ := bso hr
        refine n_callVi G [_] (x := v9) (B_X8_lyingIn G hp8q hs8q h9) (by decide) mX8_lyingIn ml_RX9_207 hp8q hs8q rfl rfl (Nat.le_of_ble_eq_true rfl) (by decide +kernel) ?_
        refine n_if_ne (off := 6) (tgt := 46) (by decide +kernel) (by decide) (fun hc10 => ?_) (fun hc10 => ?_)
        · rw [if_neg hc10] at hr
          refine n_iincK (n := 2) (j := 1) (w := 1) (lo2 := [_, _, _]) (by decide +kernel) rfl rfl rfl ?_
          refine n_goto (off := -45) (tgt := 4) (by decide +kernel) (by decide) ?_
          cases hr
          exact hk
        · rw [if_pos hc10] at hr
          refine n_iincK (n := 1) (j := 1) (w := 1) (lo2 := [_, _, _]) (by decide +kernel) rfl rfl rfl ?_
          refine n_iincK (n := 2) (j := 1) (w := 1) (lo2 := [_, _, _]) (by decide +kernel) rfl rfl rfl ?_
          refine n_goto (off := -45) (tgt := 4) (by decide +kernel) (by decide) ?_
          cases hr
          exact hk
set_option maxRecDepth 100000 in
theorem W_X9_clean_b4 (G : GG l s0 b L xs D cy ad)  {M : Mm} (hp0 : P 0) {s : (Int32 × Int32)} {e : Int32} (h : whl fu (f_X9_clean_b4  M) s = some e) (res : Rs) (M' : Mm) : Q_X9_clean_b4 l s0 D cy ad P  M res M' e → P_X9_clean_b4 l s0 D cy ad P  M res M' s := whl_run (P := fun s => P_X9_clean_b4 l s0 D cy ad P  M res M' s) (Q := fun e => Q_X9_clean_b4 l s0 D cy ad P  M res M' e) (B_X9_clean_b4 G (res := res) (M' := M') (M := M) hp0) fu s h
set_option maxRecDepth 100000 in
theorem B_X9_clean (G : GG l s0 b L xs D cy ad)   {M : Mm} {r : Int32} (hp0 : P 0) (hr : f_X9_clean  M = some r) : Cl l s0 D cy ad P 11 KX9_clean [.ref 0] M (.inl (some (.int r))) (M) := by
  refine cl_ofN (by decide +kernel) rfl rfl okI (lo0 := [_, .null, .null]) rfl ?_
  unfold f_X9_clean at hr
  refine n_iconst (n := 0) (v := 0) (by decide +kernel) rfl ?_
  refine n_istore_n (n := 1) (lo2 := [_, _, _]) (by decide +kernel) (Nat.le_of_ble_eq_true rfl) rfl ?_
  refine n_iconst (n := 0) (v := 0) (by decide +kernel) rfl ?_
  refine n_istore_n (n := 2) (lo2 := [_, _, _]) (by decide +kernel) (Nat.le_of_ble_eq_true rfl) rfl ?_
  obtain ⟨z1_11, h11, hr⟩ := bso hr
  refine (W_X9_clean_b4 G hp0 h11 _ _) ?_
  dsimp only [Q_X9_clean_b4]
  refine n_iload_n (n := 1) (by decide +kernel) rfl ?_
  cases hr
  exact n_ireturn (by decide +kernel)
set_option maxRecDepth 100000 in
theorem B_X9_image (G : GG l s0 b L xs D cy ad)   {M : Mm} {r : (Int32 × Mm)} (hp0 : P 0) (hr : f_X9_image  M = some r) : Cl l s0 D cy ad P 11 KX9_image [.ref 0] M (.inl (some (.int r.1))) (r.2) := by
  refine cl_ofN (by decide +kernel) rfl rfl okI (lo0 := [_]) rfl ?_
  unfold f_X9_image at hr
  refine n_aload_n (n := 0) (by decide +kernel) rfl ?_
  refine n_getF (q := 8) G fl_RX9_26 hp0 (by decide +kernel) (by decide +kernel) (by decide +kernel) (fun hp1q => ?_)
  refine n_aload_n (n := 0) (by decide +kernel) rfl ?_
  refine n_getD (t := 8) G fl_RX9_57 hp0 (by decide +kernel) (by decide +kernel) (by decide +kernel) (fun hp2q hs2q => ?_)
  obtain ⟨⟨v3, M3⟩, h3, hr⟩ := bso hr
  try dsimp only at hr
  refine n_callVi G [_] (x := v3) (M1 := M3) (B_X5_keepImage G hp1q hp2q hs2q h3) (by decide) mX5_keepImage ml_RX9_337 hp1q (by decide +kernel) rfl rfl (Nat.le_of_ble_eq_true rfl) (by decide +kernel) ?_
  refine n_if_eq (off := 13) (tgt := 24) (by decide +kernel) (by decide) (fun hc4 => ?_) (fun hc4 => ?_)
  · rw [if_pos hc4] at hr
    refine n_iconst (n := -1) (v := -1) (by decide +kernel) rfl ?_
    cases hr
    exact n_ireturn (by decide +kernel)
  · rw [if_neg hc4] at hr
    refine n_aload_n (n := 0) (by decide +kernel) rfl ?_
    refine n_getF (q := 8) G fl_RX9_26 hp0 (by decide +kernel) (by decide +kernel) (by decide +kernel) (fun hp5q => ?_)
    refine n_getI G fl_RX9_341 hp5q (by decide +kernel) (by decide +kernel) ?_
    refine n_goto (off := 4) (tgt := 25) (by decide +kernel) (by decide) ?_
    cases hr
    exact n_ireturn (by decide +kernel)
set_option maxRecDepth 100000 in
theorem B_X9_restore (G : GG l s0 b L xs D cy ad)   {M : Mm} {r : (Int32 × Mm)} (hp0 : P 0) (hr : f_X9_restore  M = some r) : Cl l s0 D cy ad P 11 KX9_restore [.ref 0] M (.inl (some (.int r.1))) (r.2) := by
  refine cl_ofN (by decide +kernel) rfl rfl okI (lo0 := [_]) rfl ?_
  unfold f_X9_restore at hr
  refine n_aload_n (n := 0) (by decide +kernel) rfl ?_
  refine n_getF (q := 8) G fl_RX9_26 hp0 (by decide +kernel) (by decide +kernel) (by decide +kernel) (fun hp1q => ?_)
  refine n_getI G fl_RX9_341 hp1q (by decide +kernel) (by decide +kernel) ?_
  refine n_if_ne (off := 5) (tgt := 12) (by decide +kernel) (by decide) (fun hc2 => ?_) (fun hc2 => ?_)
  · rw [if_neg hc2] at hr
    refine n_aload_n (n := 0) (by decide +kernel) rfl ?_
    refine n_getF (q := 8) G fl_RX9_26 hp0 (by decide +kernel) (by decide +kernel) (by decide +kernel) (fun hp3q => ?_)
    refine n_aload_n (n := 0) (by decide +kernel) rfl ?_
    refine n_getD (t := 8) G fl_RX9_57 hp0 (by decide +kernel) (by decide +kernel) (by decide +kernel) (fun hp4q hs4q => ?_)
    obtain ⟨M5, h5, hr⟩ := bso hr
    refine n_callVv G [_] (M1 := M5) (B_X5_takeBackImage G hp3q hp4q hs4q h5) (by decide) mX5_takeBackImage ml_RX9_344 hp3q (by decide +kernel) rfl rfl (Nat.le_of_ble_eq_true rfl) (by decide +kernel) ?_
    refine n_aload_n (n := 0) (by decide +kernel) rfl ?_
    refine n_iconst (n := 0) (v := 0) (by decide +kernel) rfl ?_
    refine n_putI G fl_RX9_105 hp0 (by decide +kernel) (by decide +kernel) ?_
    refine n_aload_n (n := 0) (by decide +kernel) rfl ?_
    refine n_getF (q := 8) G fl_RX9_26 hp0 (by decide +kernel) (by decide +kernel) (by decide +kernel) (fun hp6q => ?_)
    refine n_getI G fl_RX9_341 hp6q (by decide +kernel) (by decide +kernel) ?_
    cases hr
    exact n_ireturn (by decide +kernel)
  · rw [if_pos hc2] at hr
    refine n_iconst (n := -1) (v := -1) (by decide +kernel) rfl ?_
    cases hr
    exact n_ireturn (by decide +kernel)
set_option maxRecDepth 100000 in
theorem B_X9_status (G : GG l s0 b L xs D cy ad)  {x1 : Int32} {M : Mm} {r : Int32} (hp0 : P 0) (hr : f_X9_status x1 M = some r) : Cl l s0 D cy ad P 9 KX9_status [.ref 0, .int x1] M (.inl (some (.int r))) (M) := by
  refine cl_ofN (by decide +kernel) rfl rfl okI (lo0 := [_, _]) rfl ?_
  unfold f_X9_status at hr
  refine n_iload_n (n := 1) (by decide +kernel) rfl ?_
  by_cases hc1 : x1 = 0
  · rw [if_pos hc1] at hr
    refine n_tabIn (dflt := 42) (lw := 0) (hi := 2) (offs := #[27, 32, 37]) (len := 27) (off := 27) (tgt := 28) (by decide +kernel) (by rw [hc1]; decide) (by rw [hc1]; decide) (by rw [hc1]; decide) (by decide) ?_
    refine n_aload_n (n := 0) (by decide +kernel) rfl ?_
    refine n_getI G fl_RX9_347 hp0 (by decide +kernel) (by decide +kernel) ?_
    cases hr
    exact n_ireturn (by decide +kernel)
  rw [if_neg hc1] at hr
  by_cases hc2 : x1 = 1
  · rw [if_pos hc2] at hr
    refine n_tabIn (dflt := 42) (lw := 0) (hi := 2) (offs := #[27, 32, 37]) (len := 27) (off := 32) (tgt := 33) (by decide +kernel) (by rw [hc2]; decide) (by rw [hc2]; decide) (by rw [hc2]; decide) (by decide) ?_
    refine n_aload_n (n := 0) (by decide +kernel) rfl ?_
    refine n_getI G fl_RX9_350 hp0 (by decide +kernel) (by decide +kernel) ?_
    cases hr
    exact n_ireturn (by decide +kernel)
  rw [if_neg hc2] at hr
  by_cases hc3 : x1 = 2
  · rw [if_pos hc3] at hr
    refine n_tabIn (dflt := 42) (lw := 0) (hi := 2) (offs := #[27, 32, 37]) (len := 27) (off := 37) (tgt := 38) (by decide +kernel) (by rw [hc3]; decide) (by rw [hc3]; decide) (by rw [hc3]; decide) (by decide) ?_
    refine n_aload_n (n := 0) (by decide +kernel) rfl ?_
    refine n_getI G fl_RX9_353 hp0 (by decide +kernel) (by decide +kernel) ?_
    cases hr
    exact n_ireturn (by decide +kernel)
  rw [if_neg hc3] at hr
  have e1 := ne_toInt hc1 (n := 0) rfl
  have e2 := ne_toInt hc2 (n := 1) rfl
  have e3 := ne_toInt hc3 (n := 2) rfl
  refine n_tabOut (dflt := 42) (lw := 0) (hi := 2) (offs := #[27, 32, 37]) (len := 27) (tgt := 43) (by decide +kernel) (by omega) (by decide) ?_
  refine n_iconst (n := -1) (v := -1) (by decide +kernel) rfl ?_
  cases hr
  exact n_ireturn (by decide +kernel)
set_option maxRecDepth 100000 in
theorem B_X9_count (G : GG l s0 b L xs D cy ad)  {x1 : Int32} {M : Mm} {r : Int32} (hp0 : P 0) (hr : f_X9_count x1 M = some r) : Cl l s0 D cy ad P 9 KX9_count [.ref 0, .int x1] M (.inl (some (.int r))) (M) := by
  refine cl_ofN (by decide +kernel) rfl rfl okI (lo0 := [_, _]) rfl ?_
  unfold f_X9_count at hr
  refine n_iload_n (n := 1) (by decide +kernel) rfl ?_
  by_cases hc1 : x1 = 0
  · rw [if_pos hc1] at hr
    refine n_tabIn (dflt := 51) (lw := 0) (hi := 2) (offs := #[27, 35, 43]) (len := 27) (off := 27) (tgt := 28) (by decide +kernel) (by rw [hc1]; decide) (by rw [hc1]; decide) (by rw [hc1]; decide) (by decide) ?_
    refine n_aload_n (n := 0) (by decide +kernel) rfl ?_
    refine n_getF (q := 8) G fl_RX9_26 hp0 (by decide +kernel) (by decide +kernel) (by decide +kernel) (fun hp2q => ?_)
    refine n_getI G fl_RX9_341 hp2q (by decide +kernel) (by decide +kernel) ?_
    cases hr
    exact n_ireturn (by decide +kernel)
  rw [if_neg hc1] at hr
  by_cases hc3 : x1 = 1
  · rw [if_pos hc3] at hr
    refine n_tabIn (dflt := 51) (lw := 0) (hi := 2) (offs := #[27, 35, 43]) (len := 27) (off := 35) (tgt := 36) (by decide +kernel) (by rw [hc3]; decide) (by rw [hc3]; decide) (by rw [hc3]; decide) (by decide) ?_
    refine n_aload_n (n := 0) (by decide +kernel) rfl ?_
    refine n_getF (q := 1) G fl_RX9_12 hp0 (by decide +kernel) (by decide +kernel) (by decide +kernel) (fun hp4q => ?_)
    refine n_getI G fl_RX9_356 hp4q (by decide +kernel) (by decide +kernel) ?_
    cases hr
    exact n_ireturn (by decide +kernel)
  rw [if_neg hc3] at hr
  by_cases hc5 : x1 = 2
  · rw [if_pos hc5] at hr
    refine n_tabIn (dflt := 51) (lw := 0) (hi := 2) (offs := #[27, 35, 43]) (len := 27) (off := 43) (tgt := 44) (by decide +kernel) (by rw [hc5]; decide) (by rw [hc5]; decide) (by rw [hc5]; decide) (by decide) ?_
    refine n_aload_n (n := 0) (by decide +kernel) rfl ?_
    refine n_getF (q := 8) G fl_RX9_26 hp0 (by decide +kernel) (by decide +kernel) (by decide +kernel) (fun hp6q => ?_)
    refine n_getI G fl_RX9_156 hp6q (by decide +kernel) (by decide +kernel) ?_
    cases hr
    exact n_ireturn (by decide +kernel)
  rw [if_neg hc5] at hr
  have e1 := ne_toInt hc1 (n := 0) rfl
  have e3 := ne_toInt hc3 (n := 1) rfl
  have e5 := ne_toInt hc5 (n := 2) rfl
  refine n_tabOut (dflt := 51) (lw := 0) (hi := 2) (offs := #[27, 35, 43]) (len := 27) (tgt := 52) (by decide +kernel) (by omega) (by decide) ?_
  refine n_iconst (n := -1) (v := -1) (by decide +kernel) rfl ?_
  cases hr
  exact n_ireturn (by decide +kernel)
abbrev P_X10_tellsNothing_b78 (l : Launch) (s0 : State) (D : va_G) (cy : Nat → ClassId) (ad : Nat → Nat) (P : Nat → Prop)   (res : Rs) (M' : Mm) (s : (Int32 × Mm)) : Prop := Rn l s0 D cy ad P 9 KX10_tellsNothing 78 [.ref 76, .int (s.1)] [] (s.2) res M'
abbrev Q_X10_tellsNothing_b78 (l : Launch) (s0 : State) (D : va_G) (cy : Nat → ClassId) (ad : Nat → Nat) (P : Nat → Prop)   (res : Rs) (M' : Mm) (e : Mm) : Prop := Rn l s0 D cy ad P 9 KX10_tellsNothing 97 [.null, .null] [] (e) res M'
set_option maxRecDepth 100000 in
theorem B_X10_tellsNothing_b78 (G : GG l s0 b L xs D cy ad)   {res : Rs} {M' : Mm} (hp0 : P 76) : ∀ (s : (Int32 × Mm)) (r : (Int32 × Mm) ⊕ Mm), f_X10_tellsNothing_b78  s = some r → mtc (P_X10_tellsNothing_b78 l s0 D cy ad P  res M') (Q_X10_tellsNothing_b78 l s0 D cy ad P  res M') r → P_X10_tellsNothing_b78 l s0 D cy ad P  res M' s := by
  intro s r hr hk
  obtain ⟨x1, M⟩ := s
  unfold f_X10_tellsNothing_b78 at hr
  try dsimp only at hr
  dsimp only [P_X10_tellsNothing_b78]
  refine n_iload_n (n := 1) (by decide +kernel) rfl ?_
  refine n_bipush (n := 48) (v := 48) (by decide +kernel) rfl ?_
  refine n_icmp_ge (off := 16) (tgt := 97) (by decide +kernel) (by decide) (fun hc21 => ?_) (fun hc21 => ?_)
  · rw [if_pos hc21] at hr
    cases hr
    refine n_msk [false, false] (lo2 := [.null, .null]) rfl rfl ?_
    exact hk
  · rw [if_neg hc21] at hr
    refine n_aload_n (n := 0) (by decide +kernel) rfl ?_
    refine n_getF (q := 81) G fl_RX10_26 hp0 (by decide +kernel) (by decide +kernel) (by decide +kernel) (fun hp22q => ?_)
    refine n_iload_n (n := 1) (by decide +kernel) rfl ?_
    refine n_iconst (n := 5) (v := 5) (by decide +kernel) rfl ?_
    obtain ⟨M23, h23, hr⟩ := bso hr
    refine n_iast G h23 hp22q (by decide +kernel) (by decide +kernel) (by decide +kernel) ?_
    refine n_iincK (n := 1) (j := 1) (w := 1) (lo2 := [_, _]) (by decide +kernel) rfl rfl rfl ?_
    refine n_goto (off := -16) (tgt := 78) (by decide +kernel) (by decide) ?_
    cases hr
    exact hk
set_option maxRecDepth 100000 in
theorem W_X10_tellsNothing_b78 (G : GG l s0 b L xs D cy ad)   (hp0 : P 76) {s : (Int32 × Mm)} {e : Mm} (h : whl fu (f_X10_tellsNothing_b78 ) s = some e) (res : Rs) (M' : Mm) : Q_X10_tellsNothing_b78 l s0 D cy ad P  res M' e → P_X10_tellsNothing_b78 l s0 D cy ad P  res M' s := whl_run (P := fun s => P_X10_tellsNothing_b78 l s0 D cy ad P  res M' s) (Q := fun e => Q_X10_tellsNothing_b78 l s0 D cy ad P  res M' e) (B_X10_tellsNothing_b78 G (res := res) (M' := M')  hp0) fu s h
set_option maxRecDepth 100000 in
theorem B_X10_tellsNothing (G : GG l s0 b L xs D cy ad)   {M : Mm} {r : Mm} (hp0 : P 76) (hr : f_X10_tellsNothing  M = some r) : Cl l s0 D cy ad P 9 KX10_tellsNothing [.ref 76] M (.inl none) (r) := by
  refine cl_ofN (by decide +kernel) rfl rfl rfl (lo0 := [_, .null]) rfl ?_
  unfold f_X10_tellsNothing at hr
  refine n_aload_n (n := 0) (by decide +kernel) rfl ?_
  refine n_getF (q := 79) G fl_RX10_20 hp0 (by decide +kernel) (by decide +kernel) (by decide +kernel) (fun hp1q => ?_)
  refine n_iconst (n := 0) (v := 0) (by decide +kernel) rfl ?_
  refine n_bipush (n := 6) (v := 6) (by decide +kernel) rfl ?_
  obtain ⟨M2, h2, hr⟩ := bso hr
  refine n_iast G h2 hp1q (by decide +kernel) (by decide +kernel) (by decide +kernel) ?_
  refine n_aload_n (n := 0) (by decide +kernel) rfl ?_
  refine n_getF (q := 79) G fl_RX10_20 hp0 (by decide +kernel) (by decide +kernel) (by decide +kernel) (fun hp3q => ?_)
  refine n_iconst (n := 1) (v := 1) (by decide +kernel) rfl ?_
  refine n_iconst (n := 4) (v := 4) (by decide +kernel) rfl ?_
  obtain ⟨M4, h4, hr⟩ := bso hr
  refine n_iast G h4 hp3q (by decide +kernel) (by decide +kernel) (by decide +kernel) ?_
  refine n_aload_n (n := 0) (by decide +kernel) rfl ?_
  refine n_getF (q := 79) G fl_RX10_20 hp0 (by decide +kernel) (by decide +kernel) (by decide +kernel) (fun hp5q => ?_)
  refine n_iconst (n := 2) (v := 2) (by decide +kernel) rfl ?_
  refine n_iconst (n := 0) (v := 0) (by decide +kernel) rfl ?_
  obtain ⟨M6, h6, hr⟩ := bso hr
  refine n_iast G h6 hp5q (by decide +kernel) (by decide +kernel) (by decide +kernel) ?_
  refine n_aload_n (n := 0) (by decide +kernel) rfl ?_
  refine n_getF (q := 79) G fl_RX10_20 hp0 (by decide +kernel) (by decide +kernel) (by decide +kernel) (fun hp7q => ?_)
  refine n_iconst (n := 3) (v := 3) (by decide +kernel) rfl ?_
  refine n_iconst (n := 2) (v := 2) (by decide +kernel) rfl ?_
  obtain ⟨M8, h8, hr⟩ := bso hr
  refine n_iast G h8 hp7q (by decide +kernel) (by decide +kernel) (by decide +kernel) ?_
  refine n_aload_n (n := 0) (by decide +kernel) rfl ?_
  refine n_getF (q := 79) G fl_RX10_20 hp0 (by decide +kernel) (by decide +kernel) (by decide +kernel) (fun hp9q => ?_)
  refine n_iconst (n := 4) (v := 4) (by decide +kernel) rfl ?_
  refine n_iconst (n := 4) (v := 4) (by decide +kernel) rfl ?_
  obtain ⟨M10, h10, hr⟩ := bso hr
  refine n_iast G h10 hp9q (by decide +kernel) (by decide +kernel) (by decide +kernel) ?_
  refine n_aload_n (n := 0) (by decide +kernel) rfl ?_
  refine n_getF (q := 79) G fl_RX10_20 hp0 (by decide +kernel) (by decide +kernel) (by decide +kernel) (fun hp11q => ?_)
  refine n_iconst (n := 5) (v := 5) (by decide +kernel) rfl ?_
  refine n_iconst (n := 1) (v := 1) (by decide +kernel) rfl ?_
  obtain ⟨M12, h12, hr⟩ := bso hr
  refine n_iast G h12 hp11q (by decide +kernel) (by decide +kernel) (by decide +kernel) ?_
  refine n_aload_n (n := 0) (by decide +kernel) rfl ?_
  refine n_getF (q := 79) G fl_RX10_20 hp0 (by decide +kernel) (by decide +kernel) (by decide +kernel) (fun hp13q => ?_)
  refine n_bipush (n := 6) (v := 6) (by decide +kernel) rfl ?_
  refine n_iconst (n := 3) (v := 3) (by decide +kernel) rfl ?_
  obtain ⟨M14, h14, hr⟩ := bso hr
  refine n_iast G h14 hp13q (by decide +kernel) (by decide +kernel) (by decide +kernel) ?_
  refine n_aload_n (n := 0) (by decide +kernel) rfl ?_
  refine n_getF (q := 79) G fl_RX10_20 hp0 (by decide +kernel) (by decide +kernel) (by decide +kernel) (fun hp15q => ?_)
  refine n_bipush (n := 7) (v := 7) (by decide +kernel) rfl ?_
  refine n_iconst (n := 1) (v := 1) (by decide +kernel) rfl ?_
  obtain ⟨M16, h16, hr⟩ := bso hr
  refine n_iast G h16 hp15q (by decide +kernel) (by decide +kernel) (by decide +kernel) ?_
  refine n_aload_n (n := 0) (by decide +kernel) rfl ?_
  refine n_getF (q := 79) G fl_RX10_20 hp0 (by decide +kernel) (by decide +kernel) (by decide +kernel) (fun hp17q => ?_)
  refine n_bipush (n := 8) (v := 8) (by decide +kernel) rfl ?_
  refine n_bipush (n := 12) (v := 12) (by decide +kernel) rfl ?_
  obtain ⟨M18, h18, hr⟩ := bso hr
  refine n_iast G h18 hp17q (by decide +kernel) (by decide +kernel) (by decide +kernel) ?_
  refine n_aload_n (n := 0) (by decide +kernel) rfl ?_
  refine n_getF (q := 79) G fl_RX10_20 hp0 (by decide +kernel) (by decide +kernel) (by decide +kernel) (fun hp19q => ?_)
  refine n_bipush (n := 9) (v := 9) (by decide +kernel) rfl ?_
  refine n_iconst (n := 5) (v := 5) (by decide +kernel) rfl ?_
  obtain ⟨M20, h20, hr⟩ := bso hr
  refine n_iast G h20 hp19q (by decide +kernel) (by decide +kernel) (by decide +kernel) ?_
  refine n_iconst (n := 0) (v := 0) (by decide +kernel) rfl ?_
  refine n_istore_n (n := 1) (lo2 := [_, _]) (by decide +kernel) (Nat.le_of_ble_eq_true rfl) rfl ?_
  obtain ⟨M24, h24, hr⟩ := bso hr
  refine (W_X10_tellsNothing_b78 G hp0 h24 _ _) ?_
  dsimp only [Q_X10_tellsNothing_b78]
  cases hr
  exact n_return (by decide +kernel)
set_option maxRecDepth 100000 in
theorem B_X10_thrown (G : GG l s0 b L xs D cy ad)   {M : Mm} {r : Int32} (hp0 : P 76) (hr : f_X10_thrown  M = some r) : Cl l s0 D cy ad P 9 KX10_thrown [.ref 76] M (.inl (some (.int r))) (M) := by
  refine cl_ofN (by decide +kernel) rfl rfl okI (lo0 := [_]) rfl ?_
  unfold f_X10_thrown at hr
  refine n_aload_n (n := 0) (by decide +kernel) rfl ?_
  refine n_getI G fl_RX10_88 hp0 (by decide +kernel) (by decide +kernel) ?_
  cases hr
  exact n_ireturn (by decide +kernel)
set_option maxRecDepth 100000 in
theorem B_X10_bad_j26 (G : GG l s0 b L xs D cy ad)  {M : Mm} {r : (Int32 × Mm)} (hp0 : P 76) (hr : f_X10_bad_j26  M = some r) : Rn l s0 D cy ad P 9 KX10_bad 26 [.ref 76, .null, .null, .null] [] M (.inl (some (.int r.1))) (r.2) := by
  unfold f_X10_bad_j26 at hr
  refine n_aload_n (n := 0) (by decide +kernel) rfl ?_
  refine n_getI G fl_RX10_88 hp0 (by decide +kernel) (by decide +kernel) ?_
  refine n_dia1 (J := 38) (c := (mi M 76 0) = 0) (a := (0 : Int32)) (b := (1 : Int32)) (fun hJ => ?_) ?_
  · refine n_if_eq (off := 7) (tgt := 37) (by decide +kernel) (by decide) (fun hc2 => ?_) (fun hc2 => ?_)
    · refine n_iconst (n := 0) (v := 0) (by decide +kernel) rfl ?_
      exact hJ _ (if_pos hc2).symm
    · refine n_iconst (n := 1) (v := 1) (by decide +kernel) rfl ?_
      refine n_goto (off := 4) (tgt := 38) (by decide +kernel) (by decide) ?_
      exact hJ _ (if_neg hc2).symm
  cases hr
  exact n_ireturn (by decide +kernel)
set_option maxRecDepth 100000 in
theorem B_X10_bad (G : GG l s0 b L xs D cy ad)  {x1 : Int32} {x2 : Int32} {x3 : Int32} {M : Mm} {r : (Int32 × Mm)} (hp0 : P 76) (hr : f_X10_bad x1 x2 x3 M = some r) : Cl l s0 D cy ad P 9 KX10_bad [.ref 76, .int x1, .int x2, .int x3] M (.inl (some (.int r.1))) (r.2) := by
  unfold f_X10_bad at hr
  obtain ⟨⟨v0, M0⟩, h0, h1⟩ := bso hr
  clear hr
  obtain ⟨v1, h2, h3⟩ := bso h1
  obtain ⟨hb, rfl⟩ := rB_in h2
  cases h3
  have hr := h0
  clear h0
  refine cl_ofN (by decide +kernel) rfl rfl (okB hb) (lo0 := [_, _, _, _]) rfl ?_
  unfold g_X10_bad at hr
  refine n_iload_n (n := 1) (by decide +kernel) rfl ?_
  refine n_if_eq (off := 25) (tgt := 26) (by decide +kernel) (by decide) (fun hc1 => ?_) (fun hc1 => ?_)
  · rw [if_pos hc1] at hr
    refine n_msk [true, false, false, false] (lo2 := [_, .null, .null, .null]) rfl rfl ?_
    exact B_X10_bad_j26 G hp0 hr
  · rw [if_neg hc1] at hr
    refine n_aload_n (n := 0) (by decide +kernel) rfl ?_
    refine n_getI G fl_RX10_88 hp0 (by decide +kernel) (by decide +kernel) ?_
    refine n_if_ne (off := 18) (tgt := 26) (by decide +kernel) (by decide) (fun hc3 => ?_) (fun hc3 => ?_)
    · rw [if_neg hc3] at hr
      refine n_msk [true, false, false, false] (lo2 := [_, .null, .null, .null]) rfl rfl ?_
      exact B_X10_bad_j26 G hp0 hr
    · rw [if_pos hc3] at hr
      refine n_aload_n (n := 0) (by decide +kernel) rfl ?_
      refine n_iload_n (n := 2) (by decide +kernel) rfl ?_
      refine n_putI G fl_RX10_88 hp0 (by decide +kernel) (by decide +kernel) ?_
      refine n_aload_n (n := 0) (by decide +kernel) rfl ?_
      refine n_getF (q := 78) G fl_RX10_17 hp0 (by decide +kernel) (by decide +kernel) (by decide +kernel) (fun hp4q => ?_)
      refine n_iload_n (n := 3) (by decide +kernel) rfl ?_
      refine n_dup2 rfl rfl (by decide +kernel) ?_
      obtain ⟨v5, h5, hr⟩ := bso hr
      refine n_iald G h5 hp4q (by decide +kernel) (by decide +kernel) (by decide +kernel) ?_
      refine n_iconst (n := 1) (v := 1) (by decide +kernel) rfl ?_
      refine n_iadd (by decide +kernel) ?_
      obtain ⟨M6, h6, hr⟩ := bso hr
      refine n_iast G h6 hp4q (by decide +kernel) (by decide +kernel) (by decide +kernel) ?_
      refine n_msk [true, false, false, false] (lo2 := [_, .null, .null, .null]) rfl rfl ?_
      exact B_X10_bad_j26 G hp0 hr
set_option maxRecDepth 100000 in
theorem B_X10_in (G : GG l s0 b L xs D cy ad)  {x0 : Int32} {x1 : Int32} {x2 : Int32} {M : Mm} {r : Int32}  (hr : f_X10_in x0 x1 x2 M = some r) : Cl l s0 D cy ad P 9 KX10_in [.int x0, .int x1, .int x2] M (.inl (some (.int r))) (M) := by
  unfold f_X10_in at hr
  obtain ⟨v0, h0, h1⟩ := bso hr
  clear hr
  obtain ⟨hb, rfl⟩ := rB_in h1
  have hr := h0
  clear h0
  refine cl_ofN (by decide +kernel) rfl rfl (okB hb) (lo0 := [_, _, _]) rfl ?_
  unfold g_X10_in at hr
  refine n_iload_n (n := 0) (by decide +kernel) rfl ?_
  refine n_iload_n (n := 1) (by decide +kernel) rfl ?_
  refine n_icmp_lt (off := 12) (tgt := 14) (by decide +kernel) (by decide) (fun hc1 => ?_) (fun hc1 => ?_)
  · rw [if_pos hc1] at hr
    refine n_iconst (n := 0) (v := 0) (by decide +kernel) rfl ?_
    cases hr
    exact n_ireturn (by decide +kernel)
  · rw [if_neg hc1] at hr
    refine n_iload_n (n := 0) (by decide +kernel) rfl ?_
    refine n_iload_n (n := 2) (by decide +kernel) rfl ?_
    refine n_icmp_gt (off := 7) (tgt := 14) (by decide +kernel) (by decide) (fun hc2 => ?_) (fun hc2 => ?_)
    · rw [if_pos hc2] at hr
      refine n_iconst (n := 0) (v := 0) (by decide +kernel) rfl ?_
      cases hr
      exact n_ireturn (by decide +kernel)
    · rw [if_neg hc2] at hr
      refine n_iconst (n := 1) (v := 1) (by decide +kernel) rfl ?_
      refine n_goto (off := 4) (tgt := 15) (by decide +kernel) (by decide) ?_
      cases hr
      exact n_ireturn (by decide +kernel)
set_option maxRecDepth 100000 in
theorem B_X10_less (G : GG l s0 b L xs D cy ad)  {x0 : Int32} {x1 : Int32} {M : Mm} {r : Int32}  (hr : f_X10_less x0 x1 M = some r) : Cl l s0 D cy ad P 9 KX10_less [.int x0, .int x1] M (.inl (some (.int r))) (M) := by
  refine cl_ofN (by decide +kernel) rfl rfl okI (lo0 := [_, _]) rfl ?_
  unfold f_X10_less at hr
  refine n_iload_n (n := 0) (by decide +kernel) rfl ?_
  refine n_iload_n (n := 1) (by decide +kernel) rfl ?_
  refine n_dia2 (J := 10) (c := x1 ≤ x0) (a := x1) (b := x0) (fun hJ => ?_) ?_
  · refine n_icmp_ge (off := 7) (tgt := 9) (by decide +kernel) (by decide) (fun hc1 => ?_) (fun hc1 => ?_)
    · refine n_iload_n (n := 1) (by decide +kernel) rfl ?_
      exact hJ _ (if_pos hc1).symm
    · refine n_iload_n (n := 0) (by decide +kernel) rfl ?_
      refine n_goto (off := 4) (tgt := 10) (by decide +kernel) (by decide) ?_
      exact hJ _ (if_neg hc1).symm
  cases hr
  exact n_ireturn (by decide +kernel)
set_option maxRecDepth 100000 in
theorem B_X10_more (G : GG l s0 b L xs D cy ad)  {x0 : Int32} {x1 : Int32} {M : Mm} {r : Int32}  (hr : f_X10_more x0 x1 M = some r) : Cl l s0 D cy ad P 9 KX10_more [.int x0, .int x1] M (.inl (some (.int r))) (M) := by
  refine cl_ofN (by decide +kernel) rfl rfl okI (lo0 := [_, _]) rfl ?_
  unfold f_X10_more at hr
  refine n_iload_n (n := 0) (by decide +kernel) rfl ?_
  refine n_iload_n (n := 1) (by decide +kernel) rfl ?_
  refine n_dia2 (J := 10) (c := x0 ≤ x1) (a := x1) (b := x0) (fun hJ => ?_) ?_
  · refine n_icmp_le (off := 7) (tgt := 9) (by decide +kernel) (by decide) (fun hc1 => ?_) (fun hc1 => ?_)
    · refine n_iload_n (n := 1) (by decide +kernel) rfl ?_
      exact hJ _ (if_pos hc1).symm
    · refine n_iload_n (n := 0) (by decide +kernel) rfl ?_
      refine n_goto (off := 4) (tgt := 10) (by decide +kernel) (by decide) ?_
      exact hJ _ (if_neg hc1).symm
  cases hr
  exact n_ireturn (by decide +kernel)
abbrev P_X10_feed_b23 (l : Launch) (s0 : State) (D : va_G) (cy : Nat → ClassId) (ad : Nat → Nat) (P : Nat → Prop) (x1 : Int32) (x2 : Int32) (x3 : Int32) (x4 : Int32) (x5 : Int32)  (res : Rs) (M' : Mm) (s : (Int32 × Mm)) : Prop := Rn l s0 D cy ad P 9 KX10_feed 23 [.ref 76, .int x1, .int x2, .int x3, .int x4, .int x5, .int (s.1), .null] [] (s.2) res M'
abbrev Q_X10_feed_b23 (l : Launch) (s0 : State) (D : va_G) (cy : Nat → ClassId) (ad : Nat → Nat) (P : Nat → Prop) (x1 : Int32) (x2 : Int32) (x3 : Int32) (x4 : Int32) (x5 : Int32)  (res : Rs) (M' : Mm) (e : Mm) : Prop := Rn l s0 D cy ad P 9 KX10_feed 120 [.ref 76, .null, .null, .null, .null, .null, .null, .null] [] (e) res M'
set_option maxRecDepth 100000 in
theorem B_X10_feed_j76 (G : GG l s0 b L xs D cy ad) {x1 : Int32} {x2 : Int32} {x3 : Int32} {x4 : Int32} {x5 : Int32} {x6 : Int32} {xs0 : Int32} {M : Mm}  {res : Rs} {M' : Mm} {r : ((Int32 × Mm) ⊕ Mm)} (hp0 : P 76) (hr : f_X10_feed_j76 x1 x2 x3 x4 x5 x6 xs0 M = some r) (hk : mtc (P_X10_feed_b23 l s0 D cy ad P x1 x2 x3 x4 x5 res M') (Q_X10_feed_b23 l s0 D cy ad P x1 x2 x3 x4 x5 res M') r) : Rn l s0 D cy ad P 9 KX10_feed 76 [.ref 76, .int x1, .int x2, .int x3, .int x4, .int x5, .int x6, .null] [.int xs0] M res M' := by
  unfold f_X10_feed_j76 at hr
  refine n_istore (n := 7) (lo2 := [_, _, _, _, _, _, _, _]) (by decide +kernel) (Nat.le_of_ble_eq_true rfl) rfl ?_
  refine n_aload_n (n := 0) (by decide +kernel) rfl ?_
  refine n_getF (q := 77) G fl_RX10_13 hp0 (by decide +kernel) (by decide +kernel) (by decide +kernel) (fun hp7q => ?_)
  refine n_aload_n (n := 0) (by decide +kernel) rfl ?_
  refine n_getI G fl_RX10_91 hp0 (by decide +kernel) (by decide +kernel) ?_
  refine n_iload (n := 7) (by decide +kernel) rfl ?_
  refine n_bipush (n := 24) (v := 24) (by decide +kernel) rfl ?_
  refine n_bipush (n := 8) (v := 8) (by decide +kernel) rfl ?_
  refine n_iload (n := 6) (by decide +kernel) rfl ?_
  refine n_iconst (n := 4) (v := 4) (by decide +kernel) rfl ?_
  refine n_irem (by decide) (by decide +kernel) ?_
  refine n_imul (by decide +kernel) ?_
  refine n_isub (by decide +kernel) ?_
  refine n_ishr (by decide +kernel) ?_
  refine n_sipush (n := 255) (v := 255) (by decide +kernel) (by decide +kernel) ?_
  refine n_iand (by decide +kernel) ?_
  obtain ⟨M8, h8, hr⟩ := bso hr
  refine n_iast G h8 hp7q (by decide +kernel) (by decide +kernel) (by decide +kernel) ?_
  refine n_aload_n (n := 0) (by decide +kernel) rfl ?_
  refine n_dup rfl (by decide +kernel) ?_
  refine n_getI G fl_RX10_91 hp0 (by decide +kernel) (by decide +kernel) ?_
  refine n_iconst (n := 1) (v := 1) (by decide +kernel) rfl ?_
  refine n_iadd (by decide +kernel) ?_
  refine n_putI G fl_RX10_91 hp0 (by decide +kernel) (by decide +kernel) ?_
  refine n_iincK (n := 6) (j := 1) (w := 1) (lo2 := [_, _, _, _, _, _, _, _]) (by decide +kernel) rfl rfl rfl ?_
  refine n_goto (off := -94) (tgt := 23) (by decide +kernel) (by decide) ?_
  cases hr
  refine n_msk [true, true, true, true, true, true, true, false] (lo2 := [_, _, _, _, _, _, _, .null]) rfl rfl ?_
  exact hk
set_option maxRecDepth 100000 in
theorem B_X10_feed_b23 (G : GG l s0 b L xs D cy ad) {x1 : Int32} {x2 : Int32} {x3 : Int32} {x4 : Int32} {x5 : Int32}  {res : Rs} {M' : Mm} (hp0 : P 76) : ∀ (s : (Int32 × Mm)) (r : (Int32 × Mm) ⊕ Mm), f_X10_feed_b23 x1 x2 x3 x4 x5 s = some r → mtc (P_X10_feed_b23 l s0 D cy ad P x1 x2 x3 x4 x5 res M') (Q_X10_feed_b23 l s0 D cy ad P x1 x2 x3 x4 x5 res M') r → P_X10_feed_b23 l s0 D cy ad P x1 x2 x3 x4 x5 res M' s := by
  intro s r hr hk
  obtain ⟨x6, M⟩ := s
  unfold f_X10_feed_b23 at hr
  try dsimp only at hr
  dsimp only [P_X10_feed_b23]
  refine n_iload (n := 6) (by decide +kernel) rfl ?_
  refine n_bipush (n := 20) (v := 20) (by decide +kernel) rfl ?_
  refine n_icmp_ge (off := 93) (tgt := 120) (by decide +kernel) (by decide) (fun hc2 => ?_) (fun hc2 => ?_)
  · rw [if_pos hc2] at hr
    cases hr
    refine n_msk [true, false, false, false, false, false, false, false] (lo2 := [_, .null, .null, .null, .null, .null, .null, .null]) rfl rfl ?_
    exact hk
  · rw [if_neg hc2] at hr
    refine n_iload (n := 6) (by decide +kernel) rfl ?_
    refine n_iconst (n := 4) (v := 4) (by decide +kernel) rfl ?_
    refine n_icmp_ge (off := 7) (tgt := 40) (by decide +kernel) (by decide) (fun hc3 => ?_) (fun hc3 => ?_)
    · rw [if_pos hc3] at hr
      refine n_iload (n := 6) (by decide +kernel) rfl ?_
      refine n_bipush (n := 8) (v := 8) (by decide +kernel) rfl ?_
      refine n_icmp_ge (off := 7) (tgt := 51) (by decide +kernel) (by decide) (fun hc4 => ?_) (fun hc4 => ?_)
      · rw [if_pos hc4] at hr
        refine n_iload (n := 6) (by decide +kernel) rfl ?_
        refine n_bipush (n := 12) (v := 12) (by decide +kernel) rfl ?_
        refine n_icmp_ge (off := 7) (tgt := 62) (by decide +kernel) (by decide) (fun hc5 => ?_) (fun hc5 => ?_)
        · rw [if_pos hc5] at hr
          refine n_iload (n := 6) (by decide +kernel) rfl ?_
          refine n_bipush (n := 16) (v := 16) (by decide +kernel) rfl ?_
          refine n_icmp_ge (off := 8) (tgt := 74) (by decide +kernel) (by decide) (fun hc6 => ?_) (fun hc6 => ?_)
          · rw [if_pos hc6] at hr
            refine n_iload (n := 5) (by decide +kernel) rfl ?_
            exact B_X10_feed_j76 G hp0 hr hk
          · rw [if_neg hc6] at hr
            refine n_iload (n := 4) (by decide +kernel) rfl ?_
            refine n_goto (off := 5) (tgt := 76) (by decide +kernel) (by decide) ?_
            exact B_X10_feed_j76 G hp0 hr hk
        · rw [if_neg hc5] at hr
          refine n_iload_n (n := 3) (by decide +kernel) rfl ?_
          refine n_goto (off := 17) (tgt := 76) (by decide +kernel) (by decide) ?_
          exact B_X10_feed_j76 G hp0 hr hk
      · rw [if_neg hc4] at hr
        refine n_iload_n (n := 2) (by decide +kernel) rfl ?_
        refine n_goto (off := 28) (tgt := 76) (by decide +kernel) (by decide) ?_
        exact B_X10_feed_j76 G hp0 hr hk
    · rw [if_neg hc3] at hr
      refine n_iload_n (n := 1) (by decide +kernel) rfl ?_
      refine n_goto (off := 39) (tgt := 76) (by decide +kernel) (by decide) ?_
      exact B_X10_feed_j76 G hp0 hr hk
set_option maxRecDepth 100000 in
theorem W_X10_feed_b23 (G : GG l s0 b L xs D cy ad) {x1 : Int32} {x2 : Int32} {x3 : Int32} {x4 : Int32} {x5 : Int32}  (hp0 : P 76) {s : (Int32 × Mm)} {e : Mm} (h : whl fu (f_X10_feed_b23 x1 x2 x3 x4 x5) s = some e) (res : Rs) (M' : Mm) : Q_X10_feed_b23 l s0 D cy ad P x1 x2 x3 x4 x5 res M' e → P_X10_feed_b23 l s0 D cy ad P x1 x2 x3 x4 x5 res M' s := whl_run (P := fun s => P_X10_feed_b23 l s0 D cy ad P x1 x2 x3 x4 x5 res M' s) (Q := fun e => Q_X10_feed_b23 l s0 D cy ad P x1 x2 x3 x4 x5 res M' e) (B_X10_feed_b23 G (res := res) (M' := M') (x1 := x1) (x2 := x2) (x3 := x3) (x4 := x4) (x5 := x5) hp0) fu s h
set_option maxRecDepth 100000 in
theorem B_X10_feed (G : GG l s0 b L xs D cy ad)  {x1 : Int32} {x2 : Int32} {x3 : Int32} {x4 : Int32} {x5 : Int32} {M : Mm} {r : (Int32 × Mm)} (hp0 : P 76) (hr : f_X10_feed x1 x2 x3 x4 x5 M = some r) : Cl l s0 D cy ad P 9 KX10_feed [.ref 76, .int x1, .int x2, .int x3, .int x4, .int x5] M (.inl (some (.int r.1))) (r.2) := by
  refine cl_ofN (by decide +kernel) rfl rfl okI (lo0 := [_, _, _, _, _, _, .null, .null]) rfl ?_
  unfold f_X10_feed at hr
  refine n_aload_n (n := 0) (by decide +kernel) rfl ?_
  refine n_iconst (n := 0) (v := 0) (by decide +kernel) rfl ?_
  refine n_putI G fl_RX10_88 hp0 (by decide +kernel) (by decide +kernel) ?_
  refine n_aload_n (n := 0) (by decide +kernel) rfl ?_
  refine n_getI G fl_RX10_91 hp0 (by decide +kernel) (by decide +kernel) ?_
  refine n_bipush (n := 20) (v := 20) (by decide +kernel) rfl ?_
  refine n_iadd (by decide +kernel) ?_
  refine n_sipush (n := 600) (v := 600) (by decide +kernel) (by decide +kernel) ?_
  refine n_icmp_le (off := 5) (tgt := 20) (by decide +kernel) (by decide) (fun hc1 => ?_) (fun hc1 => ?_)
  · rw [if_pos hc1] at hr
    refine n_iconst (n := 0) (v := 0) (by decide +kernel) rfl ?_
    refine n_istore (n := 6) (lo2 := [_, _, _, _, _, _, _, _]) (by decide +kernel) (Nat.le_of_ble_eq_true rfl) rfl ?_
    obtain ⟨M9, h9, hr⟩ := bso hr
    refine (W_X10_feed_b23 G hp0 h9 _ _) ?_
    dsimp only [Q_X10_feed_b23]
    refine n_aload_n (n := 0) (by decide +kernel) rfl ?_
    refine n_getI G fl_RX10_91 hp0 (by decide +kernel) (by decide +kernel) ?_
    cases hr
    exact n_ireturn (by decide +kernel)
  · rw [if_neg hc1] at hr
    refine n_iconst (n := -1) (v := -1) (by decide +kernel) rfl ?_
    cases hr
    exact n_ireturn (by decide +kernel)
set_option maxRecDepth 100000 in
theorem B_X10_byteAt (G : GG l s0 b L xs D cy ad)  {x1 : Int32} {M : Mm} {r : Int32} (hp0 : P 76) (hr : f_X10_byteAt x1 M = some r) : Cl l s0 D cy ad P 9 KX10_byteAt [.ref 76, .int x1] M (.inl (some (.int r))) (M) := by
  refine cl_ofN (by decide +kernel) rfl rfl okI (lo0 := [_, _]) rfl ?_
  unfold f_X10_byteAt at hr
  refine n_iload_n (n := 1) (by decide +kernel) rfl ?_
  refine n_aload_n (n := 0) (by decide +kernel) rfl ?_
  refine n_getI G fl_RX10_94 hp0 (by decide +kernel) (by decide +kernel) ?_
  refine n_icmp_lt (off := 7) (tgt := 12) (by decide +kernel) (by decide) (fun hc1 => ?_) (fun hc1 => ?_)
  · rw [if_pos hc1] at hr
    refine n_aload_n (n := 0) (by decide +kernel) rfl ?_
    refine n_getF (q := 77) G fl_RX10_13 hp0 (by decide +kernel) (by decide +kernel) (by decide +kernel) (fun hp2q => ?_)
    refine n_iload_n (n := 1) (by decide +kernel) rfl ?_
    obtain ⟨v3, h3, hr⟩ := bso hr
    refine n_iald G h3 hp2q (by decide +kernel) (by decide +kernel) (by decide +kernel) ?_
    cases hr
    exact n_ireturn (by decide +kernel)
  · rw [if_neg hc1] at hr
    refine n_iconst (n := -1) (v := -1) (by decide +kernel) rfl ?_
    refine n_goto (off := 9) (tgt := 18) (by decide +kernel) (by decide) ?_
    cases hr
    exact n_ireturn (by decide +kernel)
abbrev P_X10_blanks_b0 (l : Launch) (s0 : State) (D : va_G) (cy : Nat → ClassId) (ad : Nat → Nat) (P : Nat → Prop)   (res : Rs) (M' : Mm) (s : Mm) : Prop := Rn l s0 D cy ad P 10 KX10_blanks 0 [.ref 76] [] (s) res M'
abbrev Q_X10_blanks_b0 (l : Launch) (s0 : State) (D : va_G) (cy : Nat → ClassId) (ad : Nat → Nat) (P : Nat → Prop)   (res : Rs) (M' : Mm) (e : Mm) : Prop := Rn l s0 D cy ad P 10 KX10_blanks 26 [.null] [] (e) res M'
set_option maxRecDepth 100000 in
theorem B_X10_blanks_b0 (G : GG l s0 b L xs D cy ad)   {res : Rs} {M' : Mm} (hp0 : P 76) : ∀ (s : Mm) (r : Mm ⊕ Mm), f_X10_blanks_b0  s = some r → mtc (P_X10_blanks_b0 l s0 D cy ad P  res M') (Q_X10_blanks_b0 l s0 D cy ad P  res M') r → P_X10_blanks_b0 l s0 D cy ad P  res M' s := by
  intro M r hr hk
  unfold f_X10_blanks_b0 at hr
  try dsimp only at hr
  dsimp only [P_X10_blanks_b0]
  refine n_aload_n (n := 0) (by decide +kernel) rfl ?_
  refine n_aload_n (n := 0) (by decide +kernel) rfl ?_
  refine n_getI G fl_RX10_97 hp0 (by decide +kernel) (by decide +kernel) ?_
  obtain ⟨v1, h1, hr⟩ := bso hr
  refine n_callVi G [_] (x := v1) (B_X10_byteAt G hp0 h1) (by decide) mX10_byteAt ml_RX10_100 hp0 (by decide +kernel) rfl rfl (Nat.le_of_ble_eq_true rfl) (by decide +kernel) ?_
  refine n_bipush (n := 32) (v := 32) (by decide +kernel) rfl ?_
  refine n_icmp_ne (off := 16) (tgt := 26) (by decide +kernel) (by decide) (fun hc2 => ?_) (fun hc2 => ?_)
  · rw [if_neg hc2] at hr
    cases hr
    refine n_msk [false] (lo2 := [.null]) rfl rfl ?_
    exact hk
  · rw [if_pos hc2] at hr
    refine n_aload_n (n := 0) (by decide +kernel) rfl ?_
    refine n_dup rfl (by decide +kernel) ?_
    refine n_getI G fl_RX10_97 hp0 (by decide +kernel) (by decide +kernel) ?_
    refine n_iconst (n := 1) (v := 1) (by decide +kernel) rfl ?_
    refine n_iadd (by decide +kernel) ?_
    refine n_putI G fl_RX10_97 hp0 (by decide +kernel) (by decide +kernel) ?_
    refine n_goto (off := -23) (tgt := 0) (by decide +kernel) (by decide) ?_
    cases hr
    exact hk
set_option maxRecDepth 100000 in
theorem W_X10_blanks_b0 (G : GG l s0 b L xs D cy ad)   (hp0 : P 76) {s : Mm} {e : Mm} (h : whl fu (f_X10_blanks_b0 ) s = some e) (res : Rs) (M' : Mm) : Q_X10_blanks_b0 l s0 D cy ad P  res M' e → P_X10_blanks_b0 l s0 D cy ad P  res M' s := whl_run (P := fun s => P_X10_blanks_b0 l s0 D cy ad P  res M' s) (Q := fun e => Q_X10_blanks_b0 l s0 D cy ad P  res M' e) (B_X10_blanks_b0 G (res := res) (M' := M')  hp0) fu s h
set_option maxRecDepth 100000 in
theorem B_X10_blanks (G : GG l s0 b L xs D cy ad)   {M : Mm} {r : Mm} (hp0 : P 76) (hr : f_X10_blanks  M = some r) : Cl l s0 D cy ad P 10 KX10_blanks [.ref 76] M (.inl none) (r) := by
  refine cl_ofN (by decide +kernel) rfl rfl rfl (lo0 := [_]) rfl ?_
  unfold f_X10_blanks at hr
  obtain ⟨M3, h3, hr⟩ := bso hr
  refine (W_X10_blanks_b0 G hp0 h3 _ _) ?_
  dsimp only [Q_X10_blanks_b0]
  cases hr
  exact n_return (by decide +kernel)
set_option maxRecDepth 100000 in
theorem B_X10_wrong (G : GG l s0 b L xs D cy ad)  {x1 : Int32} {x2 : Int32} {M : Mm} {r : Mm} (hp0 : P 76) (hr : f_X10_wrong x1 x2 M = some r) : Cl l s0 D cy ad P 9 KX10_wrong [.ref 76, .int x1, .int x2] M (.inl none) (r) := by
  refine cl_ofN (by decide +kernel) rfl rfl rfl (lo0 := [_, _, _]) rfl ?_
  unfold f_X10_wrong at hr
  refine n_aload_n (n := 0) (by decide +kernel) rfl ?_
  refine n_getI G fl_RX10_104 hp0 (by decide +kernel) (by decide +kernel) ?_
  refine n_if_ne (off := 13) (tgt := 17) (by decide +kernel) (by decide) (fun hc1 => ?_) (fun hc1 => ?_)
  · rw [if_neg hc1] at hr
    cases hr
    exact n_return (by decide +kernel)
  · rw [if_pos hc1] at hr
    refine n_aload_n (n := 0) (by decide +kernel) rfl ?_
    refine n_iload_n (n := 1) (by decide +kernel) rfl ?_
    refine n_putI G fl_RX10_104 hp0 (by decide +kernel) (by decide +kernel) ?_
    refine n_aload_n (n := 0) (by decide +kernel) rfl ?_
    refine n_iload_n (n := 2) (by decide +kernel) rfl ?_
    refine n_putI G fl_RX10_107 hp0 (by decide +kernel) (by decide +kernel) ?_
    cases hr
    exact n_return (by decide +kernel)
set_option maxRecDepth 100000 in
theorem B_X10_isDigit (G : GG l s0 b L xs D cy ad)  {x0 : Int32} {M : Mm} {r : Int32}  (hr : f_X10_isDigit x0 M = some r) : Cl l s0 D cy ad P 9 KX10_isDigit [.int x0] M (.inl (some (.int r))) (M) := by
  unfold f_X10_isDigit at hr
  obtain ⟨v0, h0, h1⟩ := bso hr
  clear hr
  obtain ⟨hb, rfl⟩ := rB_in h1
  have hr := h0
  clear h0
  refine cl_ofN (by decide +kernel) rfl rfl (okB hb) (lo0 := [_]) rfl ?_
  unfold g_X10_isDigit at hr
  refine n_iload_n (n := 0) (by decide +kernel) rfl ?_
  refine n_bipush (n := 48) (v := 48) (by decide +kernel) rfl ?_
  refine n_icmp_lt (off := 13) (tgt := 16) (by decide +kernel) (by decide) (fun hc1 => ?_) (fun hc1 => ?_)
  · rw [if_pos hc1] at hr
    refine n_iconst (n := 0) (v := 0) (by decide +kernel) rfl ?_
    cases hr
    exact n_ireturn (by decide +kernel)
  · rw [if_neg hc1] at hr
    refine n_iload_n (n := 0) (by decide +kernel) rfl ?_
    refine n_bipush (n := 57) (v := 57) (by decide +kernel) rfl ?_
    refine n_icmp_gt (off := 7) (tgt := 16) (by decide +kernel) (by decide) (fun hc2 => ?_) (fun hc2 => ?_)
    · rw [if_pos hc2] at hr
      refine n_iconst (n := 0) (v := 0) (by decide +kernel) rfl ?_
      cases hr
      exact n_ireturn (by decide +kernel)
    · rw [if_neg hc2] at hr
      refine n_iconst (n := 1) (v := 1) (by decide +kernel) rfl ?_
      refine n_goto (off := 4) (tgt := 17) (by decide +kernel) (by decide) ?_
      cases hr
      exact n_ireturn (by decide +kernel)
set_option maxRecDepth 100000 in
theorem B_X10_isSmall (G : GG l s0 b L xs D cy ad)  {x0 : Int32} {M : Mm} {r : Int32}  (hr : f_X10_isSmall x0 M = some r) : Cl l s0 D cy ad P 9 KX10_isSmall [.int x0] M (.inl (some (.int r))) (M) := by
  unfold f_X10_isSmall at hr
  obtain ⟨v0, h0, h1⟩ := bso hr
  clear hr
  obtain ⟨hb, rfl⟩ := rB_in h1
  have hr := h0
  clear h0
  refine cl_ofN (by decide +kernel) rfl rfl (okB hb) (lo0 := [_]) rfl ?_
  unfold g_X10_isSmall at hr
  refine n_iload_n (n := 0) (by decide +kernel) rfl ?_
  refine n_bipush (n := 97) (v := 97) (by decide +kernel) rfl ?_
  refine n_icmp_lt (off := 13) (tgt := 16) (by decide +kernel) (by decide) (fun hc1 => ?_) (fun hc1 => ?_)
  · rw [if_pos hc1] at hr
    refine n_iconst (n := 0) (v := 0) (by decide +kernel) rfl ?_
    cases hr
    exact n_ireturn (by decide +kernel)
  · rw [if_neg hc1] at hr
    refine n_iload_n (n := 0) (by decide +kernel) rfl ?_
    refine n_bipush (n := 122) (v := 122) (by decide +kernel) rfl ?_
    refine n_icmp_gt (off := 7) (tgt := 16) (by decide +kernel) (by decide) (fun hc2 => ?_) (fun hc2 => ?_)
    · rw [if_pos hc2] at hr
      refine n_iconst (n := 0) (v := 0) (by decide +kernel) rfl ?_
      cases hr
      exact n_ireturn (by decide +kernel)
    · rw [if_neg hc2] at hr
      refine n_iconst (n := 1) (v := 1) (by decide +kernel) rfl ?_
      refine n_goto (off := 4) (tgt := 17) (by decide +kernel) (by decide) ?_
      cases hr
      exact n_ireturn (by decide +kernel)
abbrev P_X10_number_b44 (l : Launch) (s0 : State) (D : va_G) (cy : Nat → ClassId) (ad : Nat → Nat) (P : Nat → Prop) (x1 : Int32) (x2 : Int32) (x3 : Int32)  (res : Rs) (M' : Mm) (s : (Int32 × Mm)) : Prop := Rn l s0 D cy ad P 11 KX10_number 44 [.ref 76, .int x1, .int x2, .int x3, .int (s.1)] [] (s.2) res M'
abbrev Q_X10_number_b44 (l : Launch) (s0 : State) (D : va_G) (cy : Nat → ClassId) (ad : Nat → Nat) (P : Nat → Prop) (x1 : Int32) (x2 : Int32) (x3 : Int32)  (res : Rs) (M' : Mm) (e : (Int32 × Mm)) : Prop := Rn l s0 D cy ad P 11 KX10_number 106 [.ref 76, .int x1, .int x2, .int x3, .int (e.1)] [] (e.2) res M'
set_option maxRecDepth 100000 in
theorem B_X10_number_b44 (G : GG l s0 b L xs D cy ad) {x1 : Int32} {x2 : Int32} {x3 : Int32}  {res : Rs} {M' : Mm} (hp0 : P 76) : ∀ (s : (Int32 × Mm)) (r : (Int32 × Mm) ⊕ (Int32 × Mm)), f_X10_number_b44 x1 x2 x3 s = some r → mtc (P_X10_number_b44 l s0 D cy ad P x1 x2 x3 res M') (Q_X10_number_b44 l s0 D cy ad P x1 x2 x3 res M') r → P_X10_number_b44 l s0 D cy ad P x1 x2 x3 res M' s := by
  intro s r hr hk
  obtain ⟨x4, M⟩ := s
  unfold f_X10_number_b44 at hr
  try dsimp only at hr
  dsimp only [P_X10_number_b44]
  refine n_aload_n (n := 0) (by decide +kernel) rfl ?_
  refine n_aload_n (n := 0) (by decide +kernel) rfl ?_
  refine n_getI G fl_RX10_97 hp0 (by decide +kernel) (by decide +kernel) ?_
  obtain ⟨v6, h6, hr⟩ := bso hr
  refine n_callVi G [_] (x := v6) (B_X10_byteAt G hp0 h6) (by decide) mX10_byteAt ml_RX10_100 hp0 (by decide +kernel) rfl rfl (Nat.le_of_ble_eq_true rfl) (by decide +kernel) ?_
  obtain ⟨v7, h7, hr⟩ := bso hr
  refine n_callSi G [_] (x := v7) (B_X10_isDigit G  h7) (by decide) mX10_isDigit ml_RX10_113 rfl rfl (Nat.le_of_ble_eq_true rfl) (by decide +kernel) ?_
  refine n_if_eq (off := 51) (tgt := 106) (by decide +kernel) (by decide) (fun hc8 => ?_) (fun hc8 => ?_)
  · rw [if_pos hc8] at hr
    cases hr
    exact hk
  · rw [if_neg hc8] at hr
    refine n_bipush (n := 10) (v := 10) (by decide +kernel) rfl ?_
    refine n_iload (n := 4) (by decide +kernel) rfl ?_
    refine n_imul (by decide +kernel) ?_
    refine n_aload_n (n := 0) (by decide +kernel) rfl ?_
    refine n_aload_n (n := 0) (by decide +kernel) rfl ?_
    refine n_getI G fl_RX10_97 hp0 (by decide +kernel) (by decide +kernel) ?_
    obtain ⟨v9, h9, hr⟩ := bso hr
    refine n_callVi G [_] (x := v9) (B_X10_byteAt G hp0 h9) (by decide) mX10_byteAt ml_RX10_100 hp0 (by decide +kernel) rfl rfl (Nat.le_of_ble_eq_true rfl) (by decide +kernel) ?_
    refine n_iadd (by decide +kernel) ?_
    refine n_bipush (n := 48) (v := 48) (by decide +kernel) rfl ?_
    refine n_isub (by decide +kernel) ?_
    refine n_istore (n := 4) (lo2 := [_, _, _, _, _]) (by decide +kernel) (Nat.le_of_ble_eq_true rfl) rfl ?_
    refine n_iload (n := 4) (by decide +kernel) rfl ?_
    refine n_ldc G ct_RX10_121 (by decide +kernel) ?_
    refine n_icmp_le (off := 8) (tgt := 89) (by decide +kernel) (by decide) (fun hc10 => ?_) (fun hc10 => ?_)
    · rw [if_pos hc10] at hr
      refine n_iload (n := 4) (by decide +kernel) rfl ?_
      refine n_istore (n := 4) (lo2 := [_, _, _, _, _]) (by decide +kernel) (Nat.le_of_ble_eq_true rfl) rfl ?_
      refine n_aload_n (n := 0) (by decide +kernel) rfl ?_
      refine n_dup rfl (by decide +kernel) ?_
      refine n_getI G fl_RX10_97 hp0 (by decide +kernel) (by decide +kernel) ?_
      refine n_iconst (n := 1) (v := 1) (by decide +kernel) rfl ?_
      refine n_iadd (by decide +kernel) ?_
      refine n_putI G fl_RX10_97 hp0 (by decide +kernel) (by decide +kernel) ?_
      refine n_goto (off := -59) (tgt := 44) (by decide +kernel) (by decide) ?_
      cases hr
      exact hk
    · rw [if_neg hc10] at hr
      refine n_ldc G ct_RX10_121 (by decide +kernel) ?_
      refine n_goto (off := 5) (tgt := 91) (by decide +kernel) (by decide) ?_
      refine n_istore (n := 4) (lo2 := [_, _, _, _, _]) (by decide +kernel) (Nat.le_of_ble_eq_true rfl) rfl ?_
      refine n_aload_n (n := 0) (by decide +kernel) rfl ?_
      refine n_dup rfl (by decide +kernel) ?_
      refine n_getI G fl_RX10_97 hp0 (by decide +kernel) (by decide +kernel) ?_
      refine n_iconst (n := 1) (v := 1) (by decide +kernel) rfl ?_
      refine n_iadd (by decide +kernel) ?_
      refine n_putI G fl_RX10_97 hp0 (by decide +kernel) (by decide +kernel) ?_
      refine n_goto (off := -59) (tgt := 44) (by decide +kernel) (by decide) ?_
      cases hr
      exact hk
set_option maxRecDepth 100000 in
theorem W_X10_number_b44 (G : GG l s0 b L xs D cy ad) {x1 : Int32} {x2 : Int32} {x3 : Int32}  (hp0 : P 76) {s : (Int32 × Mm)} {e : (Int32 × Mm)} (h : whl fu (f_X10_number_b44 x1 x2 x3) s = some e) (res : Rs) (M' : Mm) : Q_X10_number_b44 l s0 D cy ad P x1 x2 x3 res M' e → P_X10_number_b44 l s0 D cy ad P x1 x2 x3 res M' s := whl_run (P := fun s => P_X10_number_b44 l s0 D cy ad P x1 x2 x3 res M' s) (Q := fun e => Q_X10_number_b44 l s0 D cy ad P x1 x2 x3 res M' e) (B_X10_number_b44 G (res := res) (M' := M') (x1 := x1) (x2 := x2) (x3 := x3) hp0) fu s h
set_option maxRecDepth 100000 in
theorem B_X10_number_j122 (G : GG l s0 b L xs D cy ad) {x4 : Int32} {M : Mm} {r : (Int32 × Mm)} (hp0 : P 76) (hr : f_X10_number_j122 x4 M = some r) : Rn l s0 D cy ad P 11 KX10_number 122 [.ref 76, .null, .null, .null, .int x4] [] M (.inl (some (.int r.1))) (r.2) := by
  unfold f_X10_number_j122 at hr
  refine n_aload_n (n := 0) (by decide +kernel) rfl ?_
  refine n_getI G fl_RX10_104 hp0 (by decide +kernel) (by decide +kernel) ?_
  refine n_dia1 (J := 135) (c := (mi M 76 5) = 0) (a := x4) (b := (0 : Int32)) (fun hJ => ?_) ?_
  · refine n_if_ne (off := 8) (tgt := 134) (by decide +kernel) (by decide) (fun hc14 => ?_) (fun hc14 => ?_)
    · refine n_iconst (n := 0) (v := 0) (by decide +kernel) rfl ?_
      exact hJ _ (if_neg hc14).symm
    · refine n_iload (n := 4) (by decide +kernel) rfl ?_
      refine n_goto (off := 4) (tgt := 135) (by decide +kernel) (by decide) ?_
      exact hJ _ (if_pos hc14).symm
  cases hr
  exact n_ireturn (by decide +kernel)
set_option maxRecDepth 100000 in
theorem B_X10_number (G : GG l s0 b L xs D cy ad)  {x1 : Int32} {x2 : Int32} {M : Mm} {r : (Int32 × Mm)} (hp0 : P 76) (hr : f_X10_number x1 x2 M = some r) : Cl l s0 D cy ad P 11 KX10_number [.ref 76, .int x1, .int x2] M (.inl (some (.int r.1))) (r.2) := by
  refine cl_ofN (by decide +kernel) rfl rfl okI (lo0 := [_, _, _, .null, .null]) rfl ?_
  unfold f_X10_number at hr
  refine n_aload_n (n := 0) (by decide +kernel) rfl ?_
  refine n_getI G fl_RX10_104 hp0 (by decide +kernel) (by decide +kernel) ?_
  refine n_if_eq (off := 5) (tgt := 9) (by decide +kernel) (by decide) (fun hc1 => ?_) (fun hc1 => ?_)
  · rw [if_pos hc1] at hr
    refine n_aload_n (n := 0) (by decide +kernel) rfl ?_
    obtain ⟨M2, h2, hr⟩ := bso hr
    refine n_callVv G [] (M1 := M2) (B_X10_blanks G hp0 h2) (by decide) mX10_blanks ml_RX10_110 hp0 (by decide +kernel) rfl rfl (Nat.le_of_ble_eq_true rfl) (by decide +kernel) ?_
    refine n_aload_n (n := 0) (by decide +kernel) rfl ?_
    refine n_getI G fl_RX10_97 hp0 (by decide +kernel) (by decide +kernel) ?_
    refine n_istore_n (n := 3) (lo2 := [_, _, _, _, _]) (by decide +kernel) (Nat.le_of_ble_eq_true rfl) rfl ?_
    refine n_iconst (n := 0) (v := 0) (by decide +kernel) rfl ?_
    refine n_istore (n := 4) (lo2 := [_, _, _, _, _]) (by decide +kernel) (Nat.le_of_ble_eq_true rfl) rfl ?_
    refine n_aload_n (n := 0) (by decide +kernel) rfl ?_
    refine n_aload_n (n := 0) (by decide +kernel) rfl ?_
    refine n_getI G fl_RX10_97 hp0 (by decide +kernel) (by decide +kernel) ?_
    obtain ⟨v3, h3, hr⟩ := bso hr
    refine n_callVi G [_] (x := v3) (B_X10_byteAt G hp0 h3) (by decide) mX10_byteAt ml_RX10_100 hp0 (by decide +kernel) rfl rfl (Nat.le_of_ble_eq_true rfl) (by decide +kernel) ?_
    obtain ⟨v4, h4, hr⟩ := bso hr
    refine n_callSi G [_] (x := v4) (B_X10_isDigit G  h4) (by decide) mX10_isDigit ml_RX10_113 rfl rfl (Nat.le_of_ble_eq_true rfl) (by decide +kernel) ?_
    refine n_if_ne (off := 12) (tgt := 44) (by decide +kernel) (by decide) (fun hc5 => ?_) (fun hc5 => ?_)
    · rw [if_neg hc5] at hr
      obtain ⟨e11, h11, hr⟩ := bso hr
      refine (W_X10_number_b44 G hp0 h11 _ _) ?_
      obtain ⟨z4_11, M11⟩ := e11
      try dsimp only at hr
      dsimp only [Q_X10_number_b44]
      refine n_iload (n := 4) (by decide +kernel) rfl ?_
      refine n_iload_n (n := 1) (by decide +kernel) rfl ?_
      refine n_iload_n (n := 2) (by decide +kernel) rfl ?_
      obtain ⟨v12, h12, hr⟩ := bso hr
      refine n_callSi G [_, _, _] (x := v12) (B_X10_in G  h12) (by decide) mX10_in ml_RX10_122 rfl rfl (Nat.le_of_ble_eq_true rfl) (by decide +kernel) ?_
      refine n_if_ne (off := 9) (tgt := 122) (by decide +kernel) (by decide) (fun hc13 => ?_) (fun hc13 => ?_)
      · rw [if_neg hc13] at hr
        refine n_msk [true, false, false, false, true] (lo2 := [_, .null, .null, .null, _]) rfl rfl ?_
        exact B_X10_number_j122 G hp0 hr
      · rw [if_pos hc13] at hr
        refine n_aload_n (n := 0) (by decide +kernel) rfl ?_
        refine n_iconst (n := 2) (v := 2) (by decide +kernel) rfl ?_
        refine n_iload_n (n := 3) (by decide +kernel) rfl ?_
        obtain ⟨M15, h15, hr⟩ := bso hr
        refine n_callVv G [_, _] (M1 := M15) (B_X10_wrong G hp0 h15) (by decide) mX10_wrong ml_RX10_117 hp0 (by decide +kernel) rfl rfl (Nat.le_of_ble_eq_true rfl) (by decide +kernel) ?_
        refine n_msk [true, false, false, false, true] (lo2 := [_, .null, .null, .null, _]) rfl rfl ?_
        exact B_X10_number_j122 G hp0 hr
    · rw [if_pos hc5] at hr
      refine n_aload_n (n := 0) (by decide +kernel) rfl ?_
      refine n_iconst (n := 1) (v := 1) (by decide +kernel) rfl ?_
      refine n_aload_n (n := 0) (by decide +kernel) rfl ?_
      refine n_getI G fl_RX10_97 hp0 (by decide +kernel) (by decide +kernel) ?_
      obtain ⟨M16, h16, hr⟩ := bso hr
      refine n_callVv G [_, _] (M1 := M16) (B_X10_wrong G hp0 h16) (by decide) mX10_wrong ml_RX10_117 hp0 (by decide +kernel) rfl rfl (Nat.le_of_ble_eq_true rfl) (by decide +kernel) ?_
      obtain ⟨e17, h17, hr⟩ := bso hr
      refine (W_X10_number_b44 G hp0 h17 _ _) ?_
      obtain ⟨z4_17, M17⟩ := e17
      try dsimp only at hr
      dsimp only [Q_X10_number_b44]
      refine n_iload (n := 4) (by decide +kernel) rfl ?_
      refine n_iload_n (n := 1) (by decide +kernel) rfl ?_
      refine n_iload_n (n := 2) (by decide +kernel) rfl ?_
      obtain ⟨v18, h18, hr⟩ := bso hr
      refine n_callSi G [_, _, _] (x := v18) (B_X10_in G  h18) (by decide) mX10_in ml_RX10_122 rfl rfl (Nat.le_of_ble_eq_true rfl) (by decide +kernel) ?_
      refine n_if_ne (off := 9) (tgt := 122) (by decide +kernel) (by decide) (fun hc19 => ?_) (fun hc19 => ?_)
      · rw [if_neg hc19] at hr
        refine n_msk [true, false, false, false, true] (lo2 := [_, .null, .null, .null, _]) rfl rfl ?_
        exact B_X10_number_j122 G hp0 hr
      · rw [if_pos hc19] at hr
        refine n_aload_n (n := 0) (by decide +kernel) rfl ?_
        refine n_iconst (n := 2) (v := 2) (by decide +kernel) rfl ?_
        refine n_iload_n (n := 3) (by decide +kernel) rfl ?_
        obtain ⟨M20, h20, hr⟩ := bso hr
        refine n_callVv G [_, _] (M1 := M20) (B_X10_wrong G hp0 h20) (by decide) mX10_wrong ml_RX10_117 hp0 (by decide +kernel) rfl rfl (Nat.le_of_ble_eq_true rfl) (by decide +kernel) ?_
        refine n_msk [true, false, false, false, true] (lo2 := [_, .null, .null, .null, _]) rfl rfl ?_
        exact B_X10_number_j122 G hp0 hr
  · rw [if_neg hc1] at hr
    refine n_iconst (n := 0) (v := 0) (by decide +kernel) rfl ?_
    cases hr
    exact n_ireturn (by decide +kernel)
abbrev P_X10_wordHere_b8 (l : Launch) (s0 : State) (D : va_G) (cy : Nat → ClassId) (ad : Nat → Nat) (P : Nat → Prop)  (M : Mm) (res : Rs) (M' : Mm) (s : (Int32 × Int32)) : Prop := Rn l s0 D cy ad P 11 KX10_wordHere 8 [.ref 76, .int (s.1), .int (s.2)] [] M res M'
abbrev Q_X10_wordHere_b8 (l : Launch) (s0 : State) (D : va_G) (cy : Nat → ClassId) (ad : Nat → Nat) (P : Nat → Prop)  (M : Mm) (res : Rs) (M' : Mm) (e : (Int32 × Int32)) : Prop := Rn l s0 D cy ad P 11 KX10_wordHere 61 [.null, .int (e.1), .int (e.2)] [] M res M'
set_option maxRecDepth 100000 in
theorem B_X10_wordHere_b8 (G : GG l s0 b L xs D cy ad)  {M : Mm} {res : Rs} {M' : Mm} (hp0 : P 76) : ∀ (s : (Int32 × Int32)) (r : (Int32 × Int32) ⊕ (Int32 × Int32)), f_X10_wordHere_b8  M s = some r → mtc (P_X10_wordHere_b8 l s0 D cy ad P  M res M') (Q_X10_wordHere_b8 l s0 D cy ad P  M res M') r → P_X10_wordHere_b8 l s0 D cy ad P  M res M' s := by
  intro s r hr hk
  obtain ⟨x1, x2⟩ := s
  unfold f_X10_wordHere_b8 at hr
  try dsimp only at hr
  dsimp only [P_X10_wordHere_b8]
  refine n_aload_n (n := 0) (by decide +kernel) rfl ?_
  refine n_aload_n (n := 0) (by decide +kernel) rfl ?_
  refine n_getI G fl_RX10_97 hp0 (by decide +kernel) (by decide +kernel) ?_
  refine n_iload_n (n := 2) (by decide +kernel) rfl ?_
  refine n_iadd (by decide +kernel) ?_
  obtain ⟨v2, h2, hr⟩ := bso hr
  refine n_callVi G [_] (x := v2) (B_X10_byteAt G hp0 h2) (by decide) mX10_byteAt ml_RX10_100 hp0 (by decide +kernel) rfl rfl (Nat.le_of_ble_eq_true rfl) (by decide +kernel) ?_
  obtain ⟨v3, h3, hr⟩ := bso hr
  refine n_callSi G [_] (x := v3) (B_X10_isSmall G  h3) (by decide) mX10_isSmall ml_RX10_126 rfl rfl (Nat.le_of_ble_eq_true rfl) (by decide +kernel) ?_
  refine n_if_eq (off := 40) (tgt := 61) (by decide +kernel) (by decide) (fun hc4 => ?_) (fun hc4 => ?_)
  · rw [if_pos hc4] at hr
    cases hr
    refine n_msk [false, true, true] (lo2 := [.null, _, _]) rfl rfl ?_
    exact hk
  · rw [if_neg hc4] at hr
    refine n_iload_n (n := 2) (by decide +kernel) rfl ?_
    refine n_bipush (n := 6) (v := 6) (by decide +kernel) rfl ?_
    refine n_icmp_ge (off := 26) (tgt := 53) (by decide +kernel) (by decide) (fun hc5 => ?_) (fun hc5 => ?_)
    · rw [if_pos hc5] at hr
      refine n_iload_n (n := 1) (by decide +kernel) rfl ?_
      refine n_istore_n (n := 1) (lo2 := [_, _, _]) (by decide +kernel) (Nat.le_of_ble_eq_true rfl) rfl ?_
      refine n_iincK (n := 2) (j := 1) (w := 1) (lo2 := [_, _, _]) (by decide +kernel) rfl rfl rfl ?_
      refine n_goto (off := -50) (tgt := 8) (by decide +kernel) (by decide) ?_
      cases hr
      exact hk
    · rw [if_neg hc5] at hr
      refine n_bipush (n := 27) (v := 27) (by decide +kernel) rfl ?_
      refine n_iload_n (n := 1) (by decide +kernel) rfl ?_
      refine n_imul (by decide +kernel) ?_
      refine n_aload_n (n := 0) (by decide +kernel) rfl ?_
      refine n_aload_n (n := 0) (by decide +kernel) rfl ?_
      refine n_getI G fl_RX10_97 hp0 (by decide +kernel) (by decide +kernel) ?_
      refine n_iload_n (n := 2) (by decide +kernel) rfl ?_
      refine n_iadd (by decide +kernel) ?_
      obtain ⟨v6, h6, hr⟩ := bso hr
      refine n_callVi G [_] (x := v6) (B_X10_byteAt G hp0 h6) (by decide) mX10_byteAt ml_RX10_100 hp0 (by decide +kernel) rfl rfl (Nat.le_of_ble_eq_true rfl) (by decide +kernel) ?_
      refine n_iadd (by decide +kernel) ?_
      refine n_bipush (n := 97) (v := 97) (by decide +kernel) rfl ?_
      refine n_isub (by decide +kernel) ?_
      refine n_iconst (n := 1) (v := 1) (by decide +kernel) rfl ?_
      refine n_iadd (by decide +kernel) ?_
      refine n_goto (off := 4) (tgt := 54) (by decide +kernel) (by decide) ?_
      refine n_istore_n (n := 1) (lo2 := [_, _, _]) (by decide +kernel) (Nat.le_of_ble_eq_true rfl) rfl ?_
      refine n_iincK (n := 2) (j := 1) (w := 1) (lo2 := [_, _, _]) (by decide +kernel) rfl rfl rfl ?_
      refine n_goto (off := -50) (tgt := 8) (by decide +kernel) (by decide) ?_
      cases hr
      exact hk
set_option maxRecDepth 100000 in
theorem W_X10_wordHere_b8 (G : GG l s0 b L xs D cy ad)  {M : Mm} (hp0 : P 76) {s : (Int32 × Int32)} {e : (Int32 × Int32)} (h : whl fu (f_X10_wordHere_b8  M) s = some e) (res : Rs) (M' : Mm) : Q_X10_wordHere_b8 l s0 D cy ad P  M res M' e → P_X10_wordHere_b8 l s0 D cy ad P  M res M' s := whl_run (P := fun s => P_X10_wordHere_b8 l s0 D cy ad P  M res M' s) (Q := fun e => Q_X10_wordHere_b8 l s0 D cy ad P  M res M' e) (B_X10_wordHere_b8 G (res := res) (M' := M') (M := M) hp0) fu s h
set_option maxRecDepth 100000 in
theorem B_X10_wordHere (G : GG l s0 b L xs D cy ad)   {M : Mm} {r : (Int32 × Mm)} (hp0 : P 76) (hr : f_X10_wordHere  M = some r) : Cl l s0 D cy ad P 11 KX10_wordHere [.ref 76] M (.inl (some (.int r.1))) (r.2) := by
  refine cl_ofN (by decide +kernel) rfl rfl okI (lo0 := [_, .null, .null]) rfl ?_
  unfold f_X10_wordHere at hr
  refine n_aload_n (n := 0) (by decide +kernel) rfl ?_
  obtain ⟨M1, h1, hr⟩ := bso hr
  refine n_callVv G [] (M1 := M1) (B_X10_blanks G hp0 h1) (by decide) mX10_blanks ml_RX10_110 hp0 (by decide +kernel) rfl rfl (Nat.le_of_ble_eq_true rfl) (by decide +kernel) ?_
  refine n_iconst (n := 0) (v := 0) (by decide +kernel) rfl ?_
  refine n_istore_n (n := 1) (lo2 := [_, _, _]) (by decide +kernel) (Nat.le_of_ble_eq_true rfl) rfl ?_
  refine n_iconst (n := 0) (v := 0) (by decide +kernel) rfl ?_
  refine n_istore_n (n := 2) (lo2 := [_, _, _]) (by decide +kernel) (Nat.le_of_ble_eq_true rfl) rfl ?_
  obtain ⟨e7, h7, hr⟩ := bso hr
  refine (W_X10_wordHere_b8 G hp0 h7 _ _) ?_
  obtain ⟨z1_7, z2_7⟩ := e7
  try dsimp only at hr
  dsimp only [Q_X10_wordHere_b8]
  refine n_iload_n (n := 2) (by decide +kernel) rfl ?_
  refine n_bipush (n := 6) (v := 6) (by decide +kernel) rfl ?_
  refine n_dia2 (J := 72) (c := z2_7 ≤ (6 : Int32)) (a := z1_7) (b := (-1 : Int32)) (fun hJ => ?_) ?_
  · refine n_icmp_le (off := 7) (tgt := 71) (by decide +kernel) (by decide) (fun hc8 => ?_) (fun hc8 => ?_)
    · refine n_iload_n (n := 1) (by decide +kernel) rfl ?_
      exact hJ _ (if_pos hc8).symm
    · refine n_iconst (n := -1) (v := -1) (by decide +kernel) rfl ?_
      refine n_goto (off := 4) (tgt := 72) (by decide +kernel) (by decide) ?_
      exact hJ _ (if_neg hc8).symm
  cases hr
  exact n_ireturn (by decide +kernel)
set_option maxRecDepth 100000 in
theorem B_X10_six (G : GG l s0 b L xs D cy ad)  {x0 : Int32} {x1 : Int32} {x2 : Int32} {x3 : Int32} {x4 : Int32} {x5 : Int32} {M : Mm} {r : Int32}  (hr : f_X10_six x0 x1 x2 x3 x4 x5 M = some r) : Cl l s0 D cy ad P 9 KX10_six [.int x0, .int x1, .int x2, .int x3, .int x4, .int x5] M (.inl (some (.int r))) (M) := by
  refine cl_ofN (by decide +kernel) rfl rfl okI (lo0 := [_, _, _, _, _, _, .null]) rfl ?_
  unfold f_X10_six at hr
  refine n_iload_n (n := 0) (by decide +kernel) rfl ?_
  refine n_istore (n := 6) (lo2 := [_, _, _, _, _, _, _]) (by decide +kernel) (Nat.le_of_ble_eq_true rfl) rfl ?_
  refine n_iload_n (n := 1) (by decide +kernel) rfl ?_
  refine n_dia1 (J := 19) (c := x1 = 0) (a := x0) (b := (((27 : Int32) * x0) + x1)) (fun hJ => ?_) ?_
  · refine n_if_ne (off := 8) (tgt := 12) (by decide +kernel) (by decide) (fun hc1 => ?_) (fun hc1 => ?_)
    · refine n_bipush (n := 27) (v := 27) (by decide +kernel) rfl ?_
      refine n_iload (n := 6) (by decide +kernel) rfl ?_
      refine n_imul (by decide +kernel) ?_
      refine n_iload_n (n := 1) (by decide +kernel) rfl ?_
      refine n_iadd (by decide +kernel) ?_
      exact hJ _ (if_neg hc1).symm
    · refine n_iload (n := 6) (by decide +kernel) rfl ?_
      refine n_goto (off := 10) (tgt := 19) (by decide +kernel) (by decide) ?_
      exact hJ _ (if_pos hc1).symm
  refine n_istore (n := 6) (lo2 := [_, _, _, _, _, _, _]) (by decide +kernel) (Nat.le_of_ble_eq_true rfl) rfl ?_
  refine n_iload_n (n := 2) (by decide +kernel) rfl ?_
  refine n_dia1 (J := 37) (c := x2 = 0) (a := (if x1 = 0 then x0 else (((27 : Int32) * x0) + x1))) (b := (((27 : Int32) * (if x1 = 0 then x0 else (((27 : Int32) * x0) + x1))) + x2)) (fun hJ => ?_) ?_
  · refine n_if_ne (off := 8) (tgt := 30) (by decide +kernel) (by decide) (fun hc2 => ?_) (fun hc2 => ?_)
    · refine n_bipush (n := 27) (v := 27) (by decide +kernel) rfl ?_
      refine n_iload (n := 6) (by decide +kernel) rfl ?_
      refine n_imul (by decide +kernel) ?_
      refine n_iload_n (n := 2) (by decide +kernel) rfl ?_
      refine n_iadd (by decide +kernel) ?_
      exact hJ _ (if_neg hc2).symm
    · refine n_iload (n := 6) (by decide +kernel) rfl ?_
      refine n_goto (off := 10) (tgt := 37) (by decide +kernel) (by decide) ?_
      exact hJ _ (if_pos hc2).symm
  refine n_istore (n := 6) (lo2 := [_, _, _, _, _, _, _]) (by decide +kernel) (Nat.le_of_ble_eq_true rfl) rfl ?_
  refine n_iload_n (n := 3) (by decide +kernel) rfl ?_
  refine n_dia1 (J := 55) (c := x3 = 0) (a := (if x2 = 0 then (if x1 = 0 then x0 else (((27 : Int32) * x0) + x1)) else (((27 : Int32) * (if x1 = 0 then x0 else (((27 : Int32) * x0) + x1))) + x2))) (b := (((27 : Int32) * (if x2 = 0 then (if x1 = 0 then x0 else (((27 : Int32) * x0) + x1)) else (((27 : Int32) * (if x1 = 0 then x0 else (((27 : Int32) * x0) + x1))) + x2))) + x3)) (fun hJ => ?_) ?_
  · refine n_if_ne (off := 8) (tgt := 48) (by decide +kernel) (by decide) (fun hc3 => ?_) (fun hc3 => ?_)
    · refine n_bipush (n := 27) (v := 27) (by decide +kernel) rfl ?_
      refine n_iload (n := 6) (by decide +kernel) rfl ?_
      refine n_imul (by decide +kernel) ?_
      refine n_iload_n (n := 3) (by decide +kernel) rfl ?_
      refine n_iadd (by decide +kernel) ?_
      exact hJ _ (if_neg hc3).symm
    · refine n_iload (n := 6) (by decide +kernel) rfl ?_
      refine n_goto (off := 10) (tgt := 55) (by decide +kernel) (by decide) ?_
      exact hJ _ (if_pos hc3).symm
  refine n_istore (n := 6) (lo2 := [_, _, _, _, _, _, _]) (by decide +kernel) (Nat.le_of_ble_eq_true rfl) rfl ?_
  refine n_iload (n := 4) (by decide +kernel) rfl ?_
  refine n_dia1 (J := 75) (c := x4 = 0) (a := (if x3 = 0 then (if x2 = 0 then (if x1 = 0 then x0 else (((27 : Int32) * x0) + x1)) else (((27 : Int32) * (if x1 = 0 then x0 else (((27 : Int32) * x0) + x1))) + x2)) else (((27 : Int32) * (if x2 = 0 then (if x1 = 0 then x0 else (((27 : Int32) * x0) + x1)) else (((27 : Int32) * (if x1 = 0 then x0 else (((27 : Int32) * x0) + x1))) + x2))) + x3))) (b := (((27 : Int32) * (if x3 = 0 then (if x2 = 0 then (if x1 = 0 then x0 else (((27 : Int32) * x0) + x1)) else (((27 : Int32) * (if x1 = 0 then x0 else (((27 : Int32) * x0) + x1))) + x2)) else (((27 : Int32) * (if x2 = 0 then (if x1 = 0 then x0 else (((27 : Int32) * x0) + x1)) else (((27 : Int32) * (if x1 = 0 then x0 else (((27 : Int32) * x0) + x1))) + x2))) + x3))) + x4)) (fun hJ => ?_) ?_
  · refine n_if_ne (off := 8) (tgt := 67) (by decide +kernel) (by decide) (fun hc4 => ?_) (fun hc4 => ?_)
    · refine n_bipush (n := 27) (v := 27) (by decide +kernel) rfl ?_
      refine n_iload (n := 6) (by decide +kernel) rfl ?_
      refine n_imul (by decide +kernel) ?_
      refine n_iload (n := 4) (by decide +kernel) rfl ?_
      refine n_iadd (by decide +kernel) ?_
      exact hJ _ (if_neg hc4).symm
    · refine n_iload (n := 6) (by decide +kernel) rfl ?_
      refine n_goto (off := 11) (tgt := 75) (by decide +kernel) (by decide) ?_
      exact hJ _ (if_pos hc4).symm
  refine n_istore (n := 6) (lo2 := [_, _, _, _, _, _, _]) (by decide +kernel) (Nat.le_of_ble_eq_true rfl) rfl ?_
  refine n_iload (n := 5) (by decide +kernel) rfl ?_
  refine n_dia1 (J := 95) (c := x5 = 0) (a := (if x4 = 0 then (if x3 = 0 then (if x2 = 0 then (if x1 = 0 then x0 else (((27 : Int32) * x0) + x1)) else (((27 : Int32) * (if x1 = 0 then x0 else (((27 : Int32) * x0) + x1))) + x2)) else (((27 : Int32) * (if x2 = 0 then (if x1 = 0 then x0 else (((27 : Int32) * x0) + x1)) else (((27 : Int32) * (if x1 = 0 then x0 else (((27 : Int32) * x0) + x1))) + x2))) + x3)) else (((27 : Int32) * (if x3 = 0 then (if x2 = 0 then (if x1 = 0 then x0 else (((27 : Int32) * x0) + x1)) else (((27 : Int32) * (if x1 = 0 then x0 else (((27 : Int32) * x0) + x1))) + x2)) else (((27 : Int32) * (if x2 = 0 then (if x1 = 0 then x0 else (((27 : Int32) * x0) + x1)) else (((27 : Int32) * (if x1 = 0 then x0 else (((27 : Int32) * x0) + x1))) + x2))) + x3))) + x4))) (b := (((27 : Int32) * (if x4 = 0 then (if x3 = 0 then (if x2 = 0 then (if x1 = 0 then x0 else (((27 : Int32) * x0) + x1)) else (((27 : Int32) * (if x1 = 0 then x0 else (((27 : Int32) * x0) + x1))) + x2)) else (((27 : Int32) * (if x2 = 0 then (if x1 = 0 then x0 else (((27 : Int32) * x0) + x1)) else (((27 : Int32) * (if x1 = 0 then x0 else (((27 : Int32) * x0) + x1))) + x2))) + x3)) else (((27 : Int32) * (if x3 = 0 then (if x2 = 0 then (if x1 = 0 then x0 else (((27 : Int32) * x0) + x1)) else (((27 : Int32) * (if x1 = 0 then x0 else (((27 : Int32) * x0) + x1))) + x2)) else (((27 : Int32) * (if x2 = 0 then (if x1 = 0 then x0 else (((27 : Int32) * x0) + x1)) else (((27 : Int32) * (if x1 = 0 then x0 else (((27 : Int32) * x0) + x1))) + x2))) + x3))) + x4))) + x5)) (fun hJ => ?_) ?_
  · refine n_if_ne (off := 8) (tgt := 87) (by decide +kernel) (by decide) (fun hc5 => ?_) (fun hc5 => ?_)
    · refine n_bipush (n := 27) (v := 27) (by decide +kernel) rfl ?_
      refine n_iload (n := 6) (by decide +kernel) rfl ?_
      refine n_imul (by decide +kernel) ?_
      refine n_iload (n := 5) (by decide +kernel) rfl ?_
      refine n_iadd (by decide +kernel) ?_
      exact hJ _ (if_neg hc5).symm
    · refine n_iload (n := 6) (by decide +kernel) rfl ?_
      refine n_goto (off := 11) (tgt := 95) (by decide +kernel) (by decide) ?_
      exact hJ _ (if_pos hc5).symm
  cases hr
  exact n_ireturn (by decide +kernel)
set_option maxRecDepth 100000 in
theorem B_X10_isWord (G : GG l s0 b L xs D cy ad)  {x1 : Int32} {x2 : Int32} {x3 : Int32} {x4 : Int32} {x5 : Int32} {x6 : Int32} {M : Mm} {r : (Int32 × Mm)} (hp0 : P 76) (hr : f_X10_isWord x1 x2 x3 x4 x5 x6 M = some r) : Cl l s0 D cy ad P 12 KX10_isWord [.ref 76, .int x1, .int x2, .int x3, .int x4, .int x5, .int x6] M (.inl (some (.int r.1))) (r.2) := by
  unfold f_X10_isWord at hr
  obtain ⟨⟨v0, M0⟩, h0, h1⟩ := bso hr
  clear hr
  obtain ⟨v1, h2, h3⟩ := bso h1
  obtain ⟨hb, rfl⟩ := rB_in h2
  cases h3
  have hr := h0
  clear h0
  refine cl_ofN (by decide +kernel) rfl rfl (okB hb) (lo0 := [_, _, _, _, _, _, _]) rfl ?_
  unfold g_X10_isWord at hr
  refine n_aload_n (n := 0) (by decide +kernel) rfl ?_
  refine n_getI G fl_RX10_104 hp0 (by decide +kernel) (by decide +kernel) ?_
  refine n_if_ne (off := 26) (tgt := 30) (by decide +kernel) (by decide) (fun hc1 => ?_) (fun hc1 => ?_)
  · rw [if_neg hc1] at hr
    refine n_iconst (n := 0) (v := 0) (by decide +kernel) rfl ?_
    cases hr
    exact n_ireturn (by decide +kernel)
  · rw [if_pos hc1] at hr
    refine n_aload_n (n := 0) (by decide +kernel) rfl ?_
    obtain ⟨⟨v2, M2⟩, h2, hr⟩ := bso hr
    try dsimp only at hr
    refine n_callVi G [] (x := v2) (M1 := M2) (B_X10_wordHere G hp0 h2) (by decide) mX10_wordHere ml_RX10_129 hp0 (by decide +kernel) rfl rfl (Nat.le_of_ble_eq_true rfl) (by decide +kernel) ?_
    refine n_iload_n (n := 1) (by decide +kernel) rfl ?_
    refine n_iload_n (n := 2) (by decide +kernel) rfl ?_
    refine n_iload_n (n := 3) (by decide +kernel) rfl ?_
    refine n_iload (n := 4) (by decide +kernel) rfl ?_
    refine n_iload (n := 5) (by decide +kernel) rfl ?_
    refine n_iload (n := 6) (by decide +kernel) rfl ?_
    obtain ⟨v3, h3, hr⟩ := bso hr
    refine n_callSi G [_, _, _, _, _, _] (x := v3) (B_X10_six G  h3) (by decide) mX10_six ml_RX10_133 rfl rfl (Nat.le_of_ble_eq_true rfl) (by decide +kernel) ?_
    refine n_icmp_ne (off := 7) (tgt := 30) (by decide +kernel) (by decide) (fun hc4 => ?_) (fun hc4 => ?_)
    · rw [if_neg hc4] at hr
      refine n_iconst (n := 0) (v := 0) (by decide +kernel) rfl ?_
      cases hr
      exact n_ireturn (by decide +kernel)
    · rw [if_pos hc4] at hr
      refine n_iconst (n := 1) (v := 1) (by decide +kernel) rfl ?_
      refine n_goto (off := 4) (tgt := 31) (by decide +kernel) (by decide) ?_
      cases hr
      exact n_ireturn (by decide +kernel)
abbrev P_X10_skipWord_b0 (l : Launch) (s0 : State) (D : va_G) (cy : Nat → ClassId) (ad : Nat → Nat) (P : Nat → Prop)   (res : Rs) (M' : Mm) (s : Mm) : Prop := Rn l s0 D cy ad P 10 KX10_skipWord 0 [.ref 76] [] (s) res M'
abbrev Q_X10_skipWord_b0 (l : Launch) (s0 : State) (D : va_G) (cy : Nat → ClassId) (ad : Nat → Nat) (P : Nat → Prop)   (res : Rs) (M' : Mm) (e : Mm) : Prop := Rn l s0 D cy ad P 10 KX10_skipWord 27 [.null] [] (e) res M'
set_option maxRecDepth 100000 in
theorem B_X10_skipWord_b0 (G : GG l s0 b L xs D cy ad)   {res : Rs} {M' : Mm} (hp0 : P 76) : ∀ (s : Mm) (r : Mm ⊕ Mm), f_X10_skipWord_b0  s = some r → mtc (P_X10_skipWord_b0 l s0 D cy ad P  res M') (Q_X10_skipWord_b0 l s0 D cy ad P  res M') r → P_X10_skipWord_b0 l s0 D cy ad P  res M' s := by
  intro M r hr hk
  unfold f_X10_skipWord_b0 at hr
  try dsimp only at hr
  dsimp only [P_X10_skipWord_b0]
  refine n_aload_n (n := 0) (by decide +kernel) rfl ?_
  refine n_aload_n (n := 0) (by decide +kernel) rfl ?_
  refine n_getI G fl_RX10_97 hp0 (by decide +kernel) (by decide +kernel) ?_
  obtain ⟨v1, h1, hr⟩ := bso hr
  refine n_callVi G [_] (x := v1) (B_X10_byteAt G hp0 h1) (by decide) mX10_byteAt ml_RX10_100 hp0 (by decide +kernel) rfl rfl (Nat.le_of_ble_eq_true rfl) (by decide +kernel) ?_
  obtain ⟨v2, h2, hr⟩ := bso hr
  refine n_callSi G [_] (x := v2) (B_X10_isSmall G  h2) (by decide) mX10_isSmall ml_RX10_126 rfl rfl (Nat.le_of_ble_eq_true rfl) (by decide +kernel) ?_
  refine n_if_eq (off := 16) (tgt := 27) (by decide +kernel) (by decide) (fun hc3 => ?_) (fun hc3 => ?_)
  · rw [if_pos hc3] at hr
    cases hr
    refine n_msk [false] (lo2 := [.null]) rfl rfl ?_
    exact hk
  · rw [if_neg hc3] at hr
    refine n_aload_n (n := 0) (by decide +kernel) rfl ?_
    refine n_dup rfl (by decide +kernel) ?_
    refine n_getI G fl_RX10_97 hp0 (by decide +kernel) (by decide +kernel) ?_
    refine n_iconst (n := 1) (v := 1) (by decide +kernel) rfl ?_
    refine n_iadd (by decide +kernel) ?_
    refine n_putI G fl_RX10_97 hp0 (by decide +kernel) (by decide +kernel) ?_
    refine n_goto (off := -24) (tgt := 0) (by decide +kernel) (by decide) ?_
    cases hr
    exact hk
set_option maxRecDepth 100000 in
theorem W_X10_skipWord_b0 (G : GG l s0 b L xs D cy ad)   (hp0 : P 76) {s : Mm} {e : Mm} (h : whl fu (f_X10_skipWord_b0 ) s = some e) (res : Rs) (M' : Mm) : Q_X10_skipWord_b0 l s0 D cy ad P  res M' e → P_X10_skipWord_b0 l s0 D cy ad P  res M' s := whl_run (P := fun s => P_X10_skipWord_b0 l s0 D cy ad P  res M' s) (Q := fun e => Q_X10_skipWord_b0 l s0 D cy ad P  res M' e) (B_X10_skipWord_b0 G (res := res) (M' := M')  hp0) fu s h
set_option maxRecDepth 100000 in
theorem B_X10_skipWord (G : GG l s0 b L xs D cy ad)   {M : Mm} {r : Mm} (hp0 : P 76) (hr : f_X10_skipWord  M = some r) : Cl l s0 D cy ad P 10 KX10_skipWord [.ref 76] M (.inl none) (r) := by
  refine cl_ofN (by decide +kernel) rfl rfl rfl (lo0 := [_]) rfl ?_
  unfold f_X10_skipWord at hr
  obtain ⟨M4, h4, hr⟩ := bso hr
  refine (W_X10_skipWord_b0 G hp0 h4 _ _) ?_
  dsimp only [Q_X10_skipWord_b0]
  cases hr
  exact n_return (by decide +kernel)
set_option maxRecDepth 100000 in
theorem B_X10_takes (G : GG l s0 b L xs D cy ad)  {x1 : Int32} {x2 : Int32} {x3 : Int32} {x4 : Int32} {x5 : Int32} {x6 : Int32} {M : Mm} {r : (Int32 × Mm)} (hp0 : P 76) (hr : f_X10_takes x1 x2 x3 x4 x5 x6 M = some r) : Cl l s0 D cy ad P 13 KX10_takes [.ref 76, .int x1, .int x2, .int x3, .int x4, .int x5, .int x6] M (.inl (some (.int r.1))) (r.2) := by
  unfold f_X10_takes at hr
  obtain ⟨⟨v0, M0⟩, h0, h1⟩ := bso hr
  clear hr
  obtain ⟨v1, h2, h3⟩ := bso h1
  obtain ⟨hb, rfl⟩ := rB_in h2
  cases h3
  have hr := h0
  clear h0
  refine cl_ofN (by decide +kernel) rfl rfl (okB hb) (lo0 := [_, _, _, _, _, _, _, .null]) rfl ?_
  unfold g_X10_takes at hr
  refine n_aload_n (n := 0) (by decide +kernel) rfl ?_
  refine n_iload_n (n := 1) (by decide +kernel) rfl ?_
  refine n_iload_n (n := 2) (by decide +kernel) rfl ?_
  refine n_iload_n (n := 3) (by decide +kernel) rfl ?_
  refine n_iload (n := 4) (by decide +kernel) rfl ?_
  refine n_iload (n := 5) (by decide +kernel) rfl ?_
  refine n_iload (n := 6) (by decide +kernel) rfl ?_
  obtain ⟨⟨v1, M1⟩, h1, hr⟩ := bso hr
  try dsimp only at hr
  refine n_callVi G [_, _, _, _, _, _] (x := v1) (M1 := M1) (B_X10_isWord G hp0 h1) (by decide) mX10_isWord ml_RX10_137 hp0 (by decide +kernel) rfl rfl (Nat.le_of_ble_eq_true rfl) (by decide +kernel) ?_
  refine n_istore (n := 7) (lo2 := [_, _, _, _, _, _, _, _]) (by decide +kernel) (Nat.le_of_ble_eq_true rfl) rfl ?_
  refine n_iload (n := 7) (by decide +kernel) rfl ?_
  refine n_if_eq (off := 7) (tgt := 24) (by decide +kernel) (by decide) (fun hc2 => ?_) (fun hc2 => ?_)
  · rw [if_pos hc2] at hr
    refine n_iload (n := 7) (by decide +kernel) rfl ?_
    cases hr
    exact n_ireturn (by decide +kernel)
  · rw [if_neg hc2] at hr
    refine n_aload_n (n := 0) (by decide +kernel) rfl ?_
    obtain ⟨M3, h3, hr⟩ := bso hr
    refine n_callVv G [] (M1 := M3) (B_X10_skipWord G hp0 h3) (by decide) mX10_skipWord ml_RX10_141 hp0 (by decide +kernel) rfl rfl (Nat.le_of_ble_eq_true rfl) (by decide +kernel) ?_
    refine n_iload (n := 7) (by decide +kernel) rfl ?_
    cases hr
    exact n_ireturn (by decide +kernel)
set_option maxRecDepth 100000 in
theorem B_X10_sign (G : GG l s0 b L xs D cy ad)  {x1 : Int32} {M : Mm} {r : Mm} (hp0 : P 76) (hr : f_X10_sign x1 M = some r) : Cl l s0 D cy ad P 11 KX10_sign [.ref 76, .int x1] M (.inl none) (r) := by
  refine cl_ofN (by decide +kernel) rfl rfl rfl (lo0 := [_, _]) rfl ?_
  unfold f_X10_sign at hr
  refine n_aload_n (n := 0) (by decide +kernel) rfl ?_
  refine n_getI G fl_RX10_104 hp0 (by decide +kernel) (by decide +kernel) ?_
  refine n_if_eq (off := 4) (tgt := 8) (by decide +kernel) (by decide) (fun hc1 => ?_) (fun hc1 => ?_)
  · rw [if_pos hc1] at hr
    refine n_aload_n (n := 0) (by decide +kernel) rfl ?_
    obtain ⟨M2, h2, hr⟩ := bso hr
    refine n_callVv G [] (M1 := M2) (B_X10_blanks G hp0 h2) (by decide) mX10_blanks ml_RX10_110 hp0 (by decide +kernel) rfl rfl (Nat.le_of_ble_eq_true rfl) (by decide +kernel) ?_
    refine n_aload_n (n := 0) (by decide +kernel) rfl ?_
    refine n_aload_n (n := 0) (by decide +kernel) rfl ?_
    refine n_getI G fl_RX10_97 hp0 (by decide +kernel) (by decide +kernel) ?_
    obtain ⟨v3, h3, hr⟩ := bso hr
    refine n_callVi G [_] (x := v3) (B_X10_byteAt G hp0 h3) (by decide) mX10_byteAt ml_RX10_100 hp0 (by decide +kernel) rfl rfl (Nat.le_of_ble_eq_true rfl) (by decide +kernel) ?_
    refine n_iload_n (n := 1) (by decide +kernel) rfl ?_
    refine n_icmp_ne (off := 16) (tgt := 37) (by decide +kernel) (by decide) (fun hc4 => ?_) (fun hc4 => ?_)
    · rw [if_neg hc4] at hr
      refine n_aload_n (n := 0) (by decide +kernel) rfl ?_
      refine n_iconst (n := 1) (v := 1) (by decide +kernel) rfl ?_
      refine n_aload_n (n := 0) (by decide +kernel) rfl ?_
      refine n_getI G fl_RX10_97 hp0 (by decide +kernel) (by decide +kernel) ?_
      obtain ⟨M5, h5, hr⟩ := bso hr
      refine n_callVv G [_, _] (M1 := M5) (B_X10_wrong G hp0 h5) (by decide) mX10_wrong ml_RX10_117 hp0 (by decide +kernel) rfl rfl (Nat.le_of_ble_eq_true rfl) (by decide +kernel) ?_
      cases hr
      exact n_return (by decide +kernel)
    · rw [if_pos hc4] at hr
      refine n_aload_n (n := 0) (by decide +kernel) rfl ?_
      refine n_dup rfl (by decide +kernel) ?_
      refine n_getI G fl_RX10_97 hp0 (by decide +kernel) (by decide +kernel) ?_
      refine n_iconst (n := 1) (v := 1) (by decide +kernel) rfl ?_
      refine n_iadd (by decide +kernel) ?_
      refine n_putI G fl_RX10_97 hp0 (by decide +kernel) (by decide +kernel) ?_
      refine n_goto (off := 12) (tgt := 46) (by decide +kernel) (by decide) ?_
      cases hr
      exact n_return (by decide +kernel)
  · rw [if_neg hc1] at hr
    cases hr
    exact n_return (by decide +kernel)
set_option maxRecDepth 100000 in
theorem B_X10_takesSign (G : GG l s0 b L xs D cy ad)  {x1 : Int32} {M : Mm} {r : (Int32 × Mm)} (hp0 : P 76) (hr : f_X10_takesSign x1 M = some r) : Cl l s0 D cy ad P 11 KX10_takesSign [.ref 76, .int x1] M (.inl (some (.int r.1))) (r.2) := by
  unfold f_X10_takesSign at hr
  obtain ⟨⟨v0, M0⟩, h0, h1⟩ := bso hr
  clear hr
  obtain ⟨v1, h2, h3⟩ := bso h1
  obtain ⟨hb, rfl⟩ := rB_in h2
  cases h3
  have hr := h0
  clear h0
  refine cl_ofN (by decide +kernel) rfl rfl (okB hb) (lo0 := [_, _, .null]) rfl ?_
  unfold g_X10_takesSign at hr
  refine n_aload_n (n := 0) (by decide +kernel) rfl ?_
  refine n_getI G fl_RX10_104 hp0 (by decide +kernel) (by decide +kernel) ?_
  refine n_if_eq (off := 5) (tgt := 9) (by decide +kernel) (by decide) (fun hc1 => ?_) (fun hc1 => ?_)
  · rw [if_pos hc1] at hr
    refine n_aload_n (n := 0) (by decide +kernel) rfl ?_
    obtain ⟨M2, h2, hr⟩ := bso hr
    refine n_callVv G [] (M1 := M2) (B_X10_blanks G hp0 h2) (by decide) mX10_blanks ml_RX10_110 hp0 (by decide +kernel) rfl rfl (Nat.le_of_ble_eq_true rfl) (by decide +kernel) ?_
    refine n_aload_n (n := 0) (by decide +kernel) rfl ?_
    refine n_aload_n (n := 0) (by decide +kernel) rfl ?_
    refine n_getI G fl_RX10_97 hp0 (by decide +kernel) (by decide +kernel) ?_
    obtain ⟨v3, h3, hr⟩ := bso hr
    refine n_callVi G [_] (x := v3) (B_X10_byteAt G hp0 h3) (by decide) mX10_byteAt ml_RX10_100 hp0 (by decide +kernel) rfl rfl (Nat.le_of_ble_eq_true rfl) (by decide +kernel) ?_
    refine n_iload_n (n := 1) (by decide +kernel) rfl ?_
    refine n_dia2 (J := 30) (c := v3 = x1) (a := (1 : Int32)) (b := (0 : Int32)) (fun hJ => ?_) ?_
    · refine n_icmp_ne (off := 7) (tgt := 29) (by decide +kernel) (by decide) (fun hc4 => ?_) (fun hc4 => ?_)
      · refine n_iconst (n := 0) (v := 0) (by decide +kernel) rfl ?_
        exact hJ _ (if_neg hc4).symm
      · refine n_iconst (n := 1) (v := 1) (by decide +kernel) rfl ?_
        refine n_goto (off := 4) (tgt := 30) (by decide +kernel) (by decide) ?_
        exact hJ _ (if_pos hc4).symm
    refine n_istore_n (n := 2) (lo2 := [_, _, _]) (by decide +kernel) (Nat.le_of_ble_eq_true rfl) rfl ?_
    refine n_iload_n (n := 2) (by decide +kernel) rfl ?_
    refine n_if_eq (off := 13) (tgt := 45) (by decide +kernel) (by decide) (fun hc5 => ?_) (fun hc5 => ?_)
    · rw [if_pos hc5] at hr
      refine n_iload_n (n := 2) (by decide +kernel) rfl ?_
      cases hr
      exact n_ireturn (by decide +kernel)
    · rw [if_neg hc5] at hr
      refine n_aload_n (n := 0) (by decide +kernel) rfl ?_
      refine n_dup rfl (by decide +kernel) ?_
      refine n_getI G fl_RX10_97 hp0 (by decide +kernel) (by decide +kernel) ?_
      refine n_iconst (n := 1) (v := 1) (by decide +kernel) rfl ?_
      refine n_iadd (by decide +kernel) ?_
      refine n_putI G fl_RX10_97 hp0 (by decide +kernel) (by decide +kernel) ?_
      refine n_iload_n (n := 2) (by decide +kernel) rfl ?_
      cases hr
      exact n_ireturn (by decide +kernel)
  · rw [if_neg hc1] at hr
    refine n_iconst (n := 0) (v := 0) (by decide +kernel) rfl ?_
    cases hr
    exact n_ireturn (by decide +kernel)
set_option maxRecDepth 100000 in
theorem B_X10_starts (G : GG l s0 b L xs D cy ad)  {x1 : Int32} {M : Mm} {r : Mm} (hp0 : P 76) (hr : f_X10_starts x1 M = some r) : Cl l s0 D cy ad P 11 KX10_starts [.ref 76, .int x1] M (.inl none) (r) := by
  refine cl_ofN (by decide +kernel) rfl rfl rfl (lo0 := [_, _]) rfl ?_
  unfold f_X10_starts at hr
  refine n_aload_n (n := 0) (by decide +kernel) rfl ?_
  refine n_iconst (n := 0) (v := 0) (by decide +kernel) rfl ?_
  refine n_putI G fl_RX10_91 hp0 (by decide +kernel) (by decide +kernel) ?_
  refine n_aload_n (n := 0) (by decide +kernel) rfl ?_
  refine n_iload_n (n := 1) (by decide +kernel) rfl ?_
  refine n_putI G fl_RX10_94 hp0 (by decide +kernel) (by decide +kernel) ?_
  refine n_aload_n (n := 0) (by decide +kernel) rfl ?_
  refine n_iconst (n := 0) (v := 0) (by decide +kernel) rfl ?_
  refine n_putI G fl_RX10_97 hp0 (by decide +kernel) (by decide +kernel) ?_
  refine n_aload_n (n := 0) (by decide +kernel) rfl ?_
  refine n_iconst (n := 0) (v := 0) (by decide +kernel) rfl ?_
  refine n_putI G fl_RX10_104 hp0 (by decide +kernel) (by decide +kernel) ?_
  refine n_aload_n (n := 0) (by decide +kernel) rfl ?_
  refine n_iconst (n := -1) (v := -1) (by decide +kernel) rfl ?_
  refine n_putI G fl_RX10_107 hp0 (by decide +kernel) (by decide +kernel) ?_
  refine n_aload_n (n := 0) (by decide +kernel) rfl ?_
  refine n_iconst (n := 0) (v := 0) (by decide +kernel) rfl ?_
  refine n_putI G fl_RX10_144 hp0 (by decide +kernel) (by decide +kernel) ?_
  refine n_aload_n (n := 0) (by decide +kernel) rfl ?_
  refine n_iconst (n := 0) (v := 0) (by decide +kernel) rfl ?_
  refine n_putI G fl_RX10_147 hp0 (by decide +kernel) (by decide +kernel) ?_
  refine n_aload_n (n := 0) (by decide +kernel) rfl ?_
  obtain ⟨M1, h1, hr⟩ := bso hr
  refine n_callVv G [] (M1 := M1) (B_X10_blanks G hp0 h1) (by decide) mX10_blanks ml_RX10_110 hp0 (by decide +kernel) rfl rfl (Nat.le_of_ble_eq_true rfl) (by decide +kernel) ?_
  cases hr
  exact n_return (by decide +kernel)
set_option maxRecDepth 100000 in
theorem B_X10_ends (G : GG l s0 b L xs D cy ad)   {M : Mm} {r : (Int32 × Mm)} (hp0 : P 76) (hr : f_X10_ends  M = some r) : Cl l s0 D cy ad P 9 KX10_ends [.ref 76] M (.inl (some (.int r.1))) (r.2) := by
  refine cl_ofN (by decide +kernel) rfl rfl okI (lo0 := [_]) rfl ?_
  unfold f_X10_ends at hr
  refine n_aload_n (n := 0) (by decide +kernel) rfl ?_
  refine n_aload_n (n := 0) (by decide +kernel) rfl ?_
  refine n_getI G fl_RX10_107 hp0 (by decide +kernel) (by decide +kernel) ?_
  refine n_putI G fl_RX10_9 hp0 (by decide +kernel) (by decide +kernel) ?_
  refine n_aload_n (n := 0) (by decide +kernel) rfl ?_
  refine n_getI G fl_RX10_104 hp0 (by decide +kernel) (by decide +kernel) ?_
  refine n_bipush (n := 10) (v := 10) (by decide +kernel) rfl ?_
  refine n_isub (by decide +kernel) ?_
  cases hr
  exact n_ireturn (by decide +kernel)
set_option maxRecDepth 100000 in
theorem B_X10_cellHere (G : GG l s0 b L xs D cy ad)  {x1 : Int32} {x2 : Int32} {M : Mm} {r : (Int32 × Mm)} (hp0 : P 76) (hr : f_X10_cellHere x1 x2 M = some r) : Cl l s0 D cy ad P 12 KX10_cellHere [.ref 76, .int x1, .int x2] M (.inl (some (.int r.1))) (r.2) := by
  refine cl_ofN (by decide +kernel) rfl rfl okI (lo0 := [_, _, _, .null, .null]) rfl ?_
  unfold f_X10_cellHere at hr
  refine n_aload_n (n := 0) (by decide +kernel) rfl ?_
  refine n_iconst (n := 0) (v := 0) (by decide +kernel) rfl ?_
  refine n_iload_n (n := 1) (by decide +kernel) rfl ?_
  refine n_iconst (n := 1) (v := 1) (by decide +kernel) rfl ?_
  refine n_isub (by decide +kernel) ?_
  obtain ⟨⟨v1, M1⟩, h1, hr⟩ := bso hr
  try dsimp only at hr
  refine n_callVi G [_, _] (x := v1) (M1 := M1) (B_X10_number G hp0 h1) (by decide) mX10_number ml_RX10_150 hp0 (by decide +kernel) rfl rfl (Nat.le_of_ble_eq_true rfl) (by decide +kernel) ?_
  refine n_istore_n (n := 3) (lo2 := [_, _, _, _, _]) (by decide +kernel) (Nat.le_of_ble_eq_true rfl) rfl ?_
  refine n_aload_n (n := 0) (by decide +kernel) rfl ?_
  refine n_iconst (n := 0) (v := 0) (by decide +kernel) rfl ?_
  refine n_iload_n (n := 2) (by decide +kernel) rfl ?_
  refine n_iconst (n := 1) (v := 1) (by decide +kernel) rfl ?_
  refine n_isub (by decide +kernel) ?_
  obtain ⟨⟨v2, M2⟩, h2, hr⟩ := bso hr
  try dsimp only at hr
  refine n_callVi G [_, _] (x := v2) (M1 := M2) (B_X10_number G hp0 h2) (by decide) mX10_number ml_RX10_150 hp0 (by decide +kernel) rfl rfl (Nat.le_of_ble_eq_true rfl) (by decide +kernel) ?_
  refine n_istore (n := 4) (lo2 := [_, _, _, _, _]) (by decide +kernel) (Nat.le_of_ble_eq_true rfl) rfl ?_
  refine n_bipush (n := 8) (v := 8) (by decide +kernel) rfl ?_
  refine n_iload (n := 4) (by decide +kernel) rfl ?_
  refine n_imul (by decide +kernel) ?_
  refine n_iload_n (n := 3) (by decide +kernel) rfl ?_
  refine n_iadd (by decide +kernel) ?_
  cases hr
  exact n_ireturn (by decide +kernel)
set_option maxRecDepth 100000 in
theorem B_X10_clause_j195 (G : GG l s0 b L xs D cy ad) {x1 : Int32} {M : Mm} {r : Mm} (hp0 : P 76) (hr : f_X10_clause_j195 x1 M = some r) : Rn l s0 D cy ad P 13 KX10_clause 195 [.ref 76, .int x1, .null, .null] [] M (.inl none) (r) := by
  unfold f_X10_clause_j195 at hr
  refine n_aload_n (n := 0) (by decide +kernel) rfl ?_
  refine n_getI G fl_RX10_104 hp0 (by decide +kernel) (by decide +kernel) ?_
  refine n_if_eq (off := 4) (tgt := 203) (by decide +kernel) (by decide) (fun hc16 => ?_) (fun hc16 => ?_)
  · rw [if_pos hc16] at hr
    refine n_aload_n (n := 0) (by decide +kernel) rfl ?_
    obtain ⟨M17, h17, hr⟩ := bso hr
    refine n_callVv G [] (M1 := M17) (B_X10_skipWord G hp0 h17) (by decide) mX10_skipWord ml_RX10_141 hp0 (by decide +kernel) rfl rfl (Nat.le_of_ble_eq_true rfl) (by decide +kernel) ?_
    refine n_aload_n (n := 0) (by decide +kernel) rfl ?_
    refine n_dup rfl (by decide +kernel) ?_
    refine n_getI G fl_RX10_144 hp0 (by decide +kernel) (by decide +kernel) ?_
    refine n_iconst (n := 1) (v := 1) (by decide +kernel) rfl ?_
    refine n_iadd (by decide +kernel) ?_
    refine n_putI G fl_RX10_144 hp0 (by decide +kernel) (by decide +kernel) ?_
    refine n_iload_n (n := 1) (by decide +kernel) rfl ?_
    by_cases hc18 : x1 = 0
    · rw [if_pos hc18] at hr
      refine n_tabIn (dflt := 269) (lw := 0) (hi := 4) (offs := #[34, 63, 140, 182, 224]) (len := 34) (off := 34) (tgt := 252) (by decide +kernel) (by rw [hc18]; decide) (by rw [hc18]; decide) (by rw [hc18]; decide) (by decide) ?_
      refine n_aload_n (n := 0) (by decide +kernel) rfl ?_
      refine n_getF (q := 79) G fl_RX10_20 hp0 (by decide +kernel) (by decide +kernel) (by decide +kernel) (fun hp19q => ?_)
      refine n_iconst (n := 0) (v := 0) (by decide +kernel) rfl ?_
      refine n_aload_n (n := 0) (by decide +kernel) rfl ?_
      refine n_iconst (n := 1) (v := 1) (by decide +kernel) rfl ?_
      refine n_bipush (n := 8) (v := 8) (by decide +kernel) rfl ?_
      obtain ⟨⟨v20, M20⟩, h20, hr⟩ := bso hr
      try dsimp only at hr
      refine n_callVi G [_, _] (x := v20) (M1 := M20) (B_X10_number G hp0 h20) (by decide) mX10_number ml_RX10_150 hp0 (by decide +kernel) rfl rfl (Nat.le_of_ble_eq_true rfl) (by decide +kernel) ?_
      obtain ⟨M21, h21, hr⟩ := bso hr
      refine n_iast G h21 hp19q (by decide +kernel) (by decide +kernel) (by decide +kernel) ?_
      refine n_aload_n (n := 0) (by decide +kernel) rfl ?_
      refine n_getF (q := 79) G fl_RX10_20 hp0 (by decide +kernel) (by decide +kernel) (by decide +kernel) (fun hp22q => ?_)
      refine n_iconst (n := 1) (v := 1) (by decide +kernel) rfl ?_
      refine n_aload_n (n := 0) (by decide +kernel) rfl ?_
      refine n_iconst (n := 1) (v := 1) (by decide +kernel) rfl ?_
      refine n_bipush (n := 6) (v := 6) (by decide +kernel) rfl ?_
      obtain ⟨⟨v23, M23⟩, h23, hr⟩ := bso hr
      try dsimp only at hr
      refine n_callVi G [_, _] (x := v23) (M1 := M23) (B_X10_number G hp0 h23) (by decide) mX10_number ml_RX10_150 hp0 (by decide +kernel) rfl rfl (Nat.le_of_ble_eq_true rfl) (by decide +kernel) ?_
      obtain ⟨M24, h24, hr⟩ := bso hr
      refine n_iast G h24 hp22q (by decide +kernel) (by decide +kernel) (by decide +kernel) ?_
      refine n_goto (off := 223) (tgt := 501) (by decide +kernel) (by decide) ?_
      refine n_aload_n (n := 0) (by decide +kernel) rfl ?_
      refine n_bipush (n := 59) (v := 59) (by decide +kernel) rfl ?_
      obtain ⟨M25, h25, hr⟩ := bso hr
      refine n_callVv G [_] (M1 := M25) (B_X10_sign G hp0 h25) (by decide) mX10_sign ml_RX10_157 hp0 (by decide +kernel) rfl rfl (Nat.le_of_ble_eq_true rfl) (by decide +kernel) ?_
      cases hr
      exact n_return (by decide +kernel)
    rw [if_neg hc18] at hr
    by_cases hc26 : x1 = 1
    · rw [if_pos hc26] at hr
      refine n_tabIn (dflt := 269) (lw := 0) (hi := 4) (offs := #[34, 63, 140, 182, 224]) (len := 34) (off := 63) (tgt := 281) (by decide +kernel) (by rw [hc26]; decide) (by rw [hc26]; decide) (by rw [hc26]; decide) (by decide) ?_
      refine n_aload_n (n := 0) (by decide +kernel) rfl ?_
      refine n_aload_n (n := 0) (by decide +kernel) rfl ?_
      refine n_getF (q := 79) G fl_RX10_20 hp0 (by decide +kernel) (by decide +kernel) (by decide +kernel) (fun hp27q => ?_)
      refine n_iconst (n := 0) (v := 0) (by decide +kernel) rfl ?_
      obtain ⟨v28, h28, hr⟩ := bso hr
      refine n_iald G h28 hp27q (by decide +kernel) (by decide +kernel) (by decide +kernel) ?_
      refine n_aload_n (n := 0) (by decide +kernel) rfl ?_
      refine n_getF (q := 79) G fl_RX10_20 hp0 (by decide +kernel) (by decide +kernel) (by decide +kernel) (fun hp29q => ?_)
      refine n_iconst (n := 1) (v := 1) (by decide +kernel) rfl ?_
      obtain ⟨v30, h30, hr⟩ := bso hr
      refine n_iald G h30 hp29q (by decide +kernel) (by decide +kernel) (by decide +kernel) ?_
      obtain ⟨⟨v31, M31⟩, h31, hr⟩ := bso hr
      try dsimp only at hr
      refine n_callVi G [_, _] (x := v31) (M1 := M31) (B_X10_cellHere G hp0 h31) (by decide) mX10_cellHere ml_RX10_154 hp0 (by decide +kernel) rfl rfl (Nat.le_of_ble_eq_true rfl) (by decide +kernel) ?_
      refine n_istore_n (n := 2) (lo2 := [_, _, _, _]) (by decide +kernel) (Nat.le_of_ble_eq_true rfl) rfl ?_
      refine n_aload_n (n := 0) (by decide +kernel) rfl ?_
      refine n_getF (q := 83) G fl_RX10_34 hp0 (by decide +kernel) (by decide +kernel) (by decide +kernel) (fun hp32q => ?_)
      refine n_aload_n (n := 0) (by decide +kernel) rfl ?_
      refine n_getF (q := 79) G fl_RX10_20 hp0 (by decide +kernel) (by decide +kernel) (by decide +kernel) (fun hp33q => ?_)
      refine n_iconst (n := 2) (v := 2) (by decide +kernel) rfl ?_
      obtain ⟨v34, h34, hr⟩ := bso hr
      refine n_iald G h34 hp33q (by decide +kernel) (by decide +kernel) (by decide +kernel) ?_
      obtain ⟨q35, h35, hr⟩ := bso hr
      refine n_aald G h35 hp32q (by decide +kernel) (by decide +kernel) (by decide +kernel) (fun hp35q => ?_)
      refine n_astore_n (n := 3) (lo2 := [_, _, _, _]) (by decide +kernel) (Nat.le_of_ble_eq_true rfl) rfl ?_
      refine n_aload_n (n := 3) (by decide +kernel) rfl ?_
      refine n_iconst (n := 0) (v := 0) (by decide +kernel) rfl ?_
      refine n_iload_n (n := 2) (by decide +kernel) rfl ?_
      refine n_bipush (n := 8) (v := 8) (by decide +kernel) rfl ?_
      refine n_irem (by decide) (by decide +kernel) ?_
      obtain ⟨M36, h36, hr⟩ := bso hr
      refine n_iast G h36 hp35q (row_83 h35).1 (row_83 h35).2 (by decide +kernel) ?_
      refine n_aload_n (n := 3) (by decide +kernel) rfl ?_
      refine n_iconst (n := 1) (v := 1) (by decide +kernel) rfl ?_
      refine n_iload_n (n := 2) (by decide +kernel) rfl ?_
      refine n_bipush (n := 8) (v := 8) (by decide +kernel) rfl ?_
      refine n_idiv (by decide) (by decide +kernel) ?_
      obtain ⟨M37, h37, hr⟩ := bso hr
      refine n_iast G h37 hp35q (row_83 h35).1 (row_83 h35).2 (by decide +kernel) ?_
      refine n_aload_n (n := 3) (by decide +kernel) rfl ?_
      refine n_iconst (n := 2) (v := 2) (by decide +kernel) rfl ?_
      refine n_aload_n (n := 0) (by decide +kernel) rfl ?_
      refine n_iconst (n := 1) (v := 1) (by decide +kernel) rfl ?_
      refine n_bipush (n := 9) (v := 9) (by decide +kernel) rfl ?_
      obtain ⟨⟨v38, M38⟩, h38, hr⟩ := bso hr
      try dsimp only at hr
      refine n_callVi G [_, _] (x := v38) (M1 := M38) (B_X10_number G hp0 h38) (by decide) mX10_number ml_RX10_150 hp0 (by decide +kernel) rfl rfl (Nat.le_of_ble_eq_true rfl) (by decide +kernel) ?_
      obtain ⟨M39, h39, hr⟩ := bso hr
      refine n_iast G h39 hp35q (row_83 h35).1 (row_83 h35).2 (by decide +kernel) ?_
      refine n_aload_n (n := 0) (by decide +kernel) rfl ?_
      refine n_getF (q := 79) G fl_RX10_20 hp0 (by decide +kernel) (by decide +kernel) (by decide +kernel) (fun hp40q => ?_)
      refine n_iconst (n := 2) (v := 2) (by decide +kernel) rfl ?_
      refine n_dup2 rfl rfl (by decide +kernel) ?_
      obtain ⟨v41, h41, hr⟩ := bso hr
      refine n_iald G h41 hp40q (by decide +kernel) (by decide +kernel) (by decide +kernel) ?_
      refine n_aload_n (n := 0) (by decide +kernel) rfl ?_
      refine n_getI G fl_RX10_104 hp0 (by decide +kernel) (by decide +kernel) ?_
      refine n_dia1 (J := 353) (c := (mi M39 76 5) = 0) (a := (1 : Int32)) (b := (0 : Int32)) (fun hJ => ?_) ?_
      · refine n_if_ne (off := 7) (tgt := 352) (by decide +kernel) (by decide) (fun hc42 => ?_) (fun hc42 => ?_)
        · refine n_iconst (n := 0) (v := 0) (by decide +kernel) rfl ?_
          exact hJ _ (if_neg hc42).symm
        · refine n_iconst (n := 1) (v := 1) (by decide +kernel) rfl ?_
          refine n_goto (off := 4) (tgt := 353) (by decide +kernel) (by decide) ?_
          exact hJ _ (if_pos hc42).symm
      refine n_iadd (by decide +kernel) ?_
      obtain ⟨M43, h43, hr⟩ := bso hr
      refine n_iast G h43 hp40q (by decide +kernel) (by decide +kernel) (by decide +kernel) ?_
      refine n_goto (off := 146) (tgt := 501) (by decide +kernel) (by decide) ?_
      refine n_aload_n (n := 0) (by decide +kernel) rfl ?_
      refine n_bipush (n := 59) (v := 59) (by decide +kernel) rfl ?_
      obtain ⟨M44, h44, hr⟩ := bso hr
      refine n_callVv G [_] (M1 := M44) (B_X10_sign G hp0 h44) (by decide) mX10_sign ml_RX10_157 hp0 (by decide +kernel) rfl rfl (Nat.le_of_ble_eq_true rfl) (by decide +kernel) ?_
      cases hr
      exact n_return (by decide +kernel)
    rw [if_neg hc26] at hr
    by_cases hc45 : x1 = 2
    · rw [if_pos hc45] at hr
      refine n_tabIn (dflt := 269) (lw := 0) (hi := 4) (offs := #[34, 63, 140, 182, 224]) (len := 34) (off := 140) (tgt := 358) (by decide +kernel) (by rw [hc45]; decide) (by rw [hc45]; decide) (by rw [hc45]; decide) (by decide) ?_
      refine n_aload_n (n := 0) (by decide +kernel) rfl ?_
      refine n_aload_n (n := 0) (by decide +kernel) rfl ?_
      refine n_getF (q := 79) G fl_RX10_20 hp0 (by decide +kernel) (by decide +kernel) (by decide +kernel) (fun hp46q => ?_)
      refine n_iconst (n := 0) (v := 0) (by decide +kernel) rfl ?_
      obtain ⟨v47, h47, hr⟩ := bso hr
      refine n_iald G h47 hp46q (by decide +kernel) (by decide +kernel) (by decide +kernel) ?_
      refine n_aload_n (n := 0) (by decide +kernel) rfl ?_
      refine n_getF (q := 79) G fl_RX10_20 hp0 (by decide +kernel) (by decide +kernel) (by decide +kernel) (fun hp48q => ?_)
      refine n_iconst (n := 1) (v := 1) (by decide +kernel) rfl ?_
      obtain ⟨v49, h49, hr⟩ := bso hr
      refine n_iald G h49 hp48q (by decide +kernel) (by decide +kernel) (by decide +kernel) ?_
      obtain ⟨⟨v50, M50⟩, h50, hr⟩ := bso hr
      try dsimp only at hr
      refine n_callVi G [_, _] (x := v50) (M1 := M50) (B_X10_cellHere G hp0 h50) (by decide) mX10_cellHere ml_RX10_154 hp0 (by decide +kernel) rfl rfl (Nat.le_of_ble_eq_true rfl) (by decide +kernel) ?_
      refine n_istore_n (n := 2) (lo2 := [_, _, _, _]) (by decide +kernel) (Nat.le_of_ble_eq_true rfl) rfl ?_
      refine n_aload_n (n := 0) (by decide +kernel) rfl ?_
      refine n_iconst (n := 0) (v := 0) (by decide +kernel) rfl ?_
      refine n_bipush (n := 99) (v := 99) (by decide +kernel) rfl ?_
      obtain ⟨⟨v51, M51⟩, h51, hr⟩ := bso hr
      try dsimp only at hr
      refine n_callVi G [_, _] (x := v51) (M1 := M51) (B_X10_number G hp0 h51) (by decide) mX10_number ml_RX10_150 hp0 (by decide +kernel) rfl rfl (Nat.le_of_ble_eq_true rfl) (by decide +kernel) ?_
      refine n_istore_n (n := 3) (lo2 := [_, _, _, _]) (by decide +kernel) (Nat.le_of_ble_eq_true rfl) rfl ?_
      refine n_aload_n (n := 0) (by decide +kernel) rfl ?_
      refine n_getI G fl_RX10_104 hp0 (by decide +kernel) (by decide +kernel) ?_
      refine n_if_ne (off := 114) (tgt := 501) (by decide +kernel) (by decide) (fun hc52 => ?_) (fun hc52 => ?_)
      · rw [if_neg hc52] at hr
        refine n_aload_n (n := 0) (by decide +kernel) rfl ?_
        refine n_bipush (n := 59) (v := 59) (by decide +kernel) rfl ?_
        obtain ⟨M53, h53, hr⟩ := bso hr
        refine n_callVv G [_] (M1 := M53) (B_X10_sign G hp0 h53) (by decide) mX10_sign ml_RX10_157 hp0 (by decide +kernel) rfl rfl (Nat.le_of_ble_eq_true rfl) (by decide +kernel) ?_
        cases hr
        exact n_return (by decide +kernel)
      · rw [if_pos hc52] at hr
        refine n_aload_n (n := 0) (by decide +kernel) rfl ?_
        refine n_getF (q := 81) G fl_RX10_26 hp0 (by decide +kernel) (by decide +kernel) (by decide +kernel) (fun hp54q => ?_)
        refine n_iload_n (n := 2) (by decide +kernel) rfl ?_
        refine n_iload_n (n := 3) (by decide +kernel) rfl ?_
        obtain ⟨M55, h55, hr⟩ := bso hr
        refine n_iast G h55 hp54q (by decide +kernel) (by decide +kernel) (by decide +kernel) ?_
        refine n_goto (off := 104) (tgt := 501) (by decide +kernel) (by decide) ?_
        refine n_aload_n (n := 0) (by decide +kernel) rfl ?_
        refine n_bipush (n := 59) (v := 59) (by decide +kernel) rfl ?_
        obtain ⟨M56, h56, hr⟩ := bso hr
        refine n_callVv G [_] (M1 := M56) (B_X10_sign G hp0 h56) (by decide) mX10_sign ml_RX10_157 hp0 (by decide +kernel) rfl rfl (Nat.le_of_ble_eq_true rfl) (by decide +kernel) ?_
        cases hr
        exact n_return (by decide +kernel)
    rw [if_neg hc45] at hr
    by_cases hc57 : x1 = 3
    · rw [if_pos hc57] at hr
      refine n_tabIn (dflt := 269) (lw := 0) (hi := 4) (offs := #[34, 63, 140, 182, 224]) (len := 34) (off := 182) (tgt := 400) (by decide +kernel) (by rw [hc57]; decide) (by rw [hc57]; decide) (by rw [hc57]; decide) (by decide) ?_
      refine n_aload_n (n := 0) (by decide +kernel) rfl ?_
      refine n_getF (q := 79) G fl_RX10_20 hp0 (by decide +kernel) (by decide +kernel) (by decide +kernel) (fun hp58q => ?_)
      refine n_iconst (n := 3) (v := 3) (by decide +kernel) rfl ?_
      refine n_aload_n (n := 0) (by decide +kernel) rfl ?_
      refine n_iconst (n := 1) (v := 1) (by decide +kernel) rfl ?_
      refine n_bipush (n := 6) (v := 6) (by decide +kernel) rfl ?_
      obtain ⟨⟨v59, M59⟩, h59, hr⟩ := bso hr
      try dsimp only at hr
      refine n_callVi G [_, _] (x := v59) (M1 := M59) (B_X10_number G hp0 h59) (by decide) mX10_number ml_RX10_150 hp0 (by decide +kernel) rfl rfl (Nat.le_of_ble_eq_true rfl) (by decide +kernel) ?_
      obtain ⟨M60, h60, hr⟩ := bso hr
      refine n_iast G h60 hp58q (by decide +kernel) (by decide +kernel) (by decide +kernel) ?_
      refine n_aload_n (n := 0) (by decide +kernel) rfl ?_
      refine n_getF (q := 79) G fl_RX10_20 hp0 (by decide +kernel) (by decide +kernel) (by decide +kernel) (fun hp61q => ?_)
      refine n_iconst (n := 4) (v := 4) (by decide +kernel) rfl ?_
      refine n_aload_n (n := 0) (by decide +kernel) rfl ?_
      refine n_iconst (n := 1) (v := 1) (by decide +kernel) rfl ?_
      refine n_bipush (n := 9) (v := 9) (by decide +kernel) rfl ?_
      obtain ⟨⟨v62, M62⟩, h62, hr⟩ := bso hr
      try dsimp only at hr
      refine n_callVi G [_, _] (x := v62) (M1 := M62) (B_X10_number G hp0 h62) (by decide) mX10_number ml_RX10_150 hp0 (by decide +kernel) rfl rfl (Nat.le_of_ble_eq_true rfl) (by decide +kernel) ?_
      obtain ⟨M63, h63, hr⟩ := bso hr
      refine n_iast G h63 hp61q (by decide +kernel) (by decide +kernel) (by decide +kernel) ?_
      refine n_aload_n (n := 0) (by decide +kernel) rfl ?_
      refine n_getF (q := 79) G fl_RX10_20 hp0 (by decide +kernel) (by decide +kernel) (by decide +kernel) (fun hp64q => ?_)
      refine n_iconst (n := 5) (v := 5) (by decide +kernel) rfl ?_
      refine n_aload_n (n := 0) (by decide +kernel) rfl ?_
      refine n_iconst (n := 1) (v := 1) (by decide +kernel) rfl ?_
      refine n_bipush (n := 9) (v := 9) (by decide +kernel) rfl ?_
      obtain ⟨⟨v65, M65⟩, h65, hr⟩ := bso hr
      try dsimp only at hr
      refine n_callVi G [_, _] (x := v65) (M1 := M65) (B_X10_number G hp0 h65) (by decide) mX10_number ml_RX10_150 hp0 (by decide +kernel) rfl rfl (Nat.le_of_ble_eq_true rfl) (by decide +kernel) ?_
      obtain ⟨M66, h66, hr⟩ := bso hr
      refine n_iast G h66 hp64q (by decide +kernel) (by decide +kernel) (by decide +kernel) ?_
      refine n_goto (off := 62) (tgt := 501) (by decide +kernel) (by decide) ?_
      refine n_aload_n (n := 0) (by decide +kernel) rfl ?_
      refine n_bipush (n := 59) (v := 59) (by decide +kernel) rfl ?_
      obtain ⟨M67, h67, hr⟩ := bso hr
      refine n_callVv G [_] (M1 := M67) (B_X10_sign G hp0 h67) (by decide) mX10_sign ml_RX10_157 hp0 (by decide +kernel) rfl rfl (Nat.le_of_ble_eq_true rfl) (by decide +kernel) ?_
      cases hr
      exact n_return (by decide +kernel)
    rw [if_neg hc57] at hr
    by_cases hc68 : x1 = 4
    · rw [if_pos hc68] at hr
      refine n_tabIn (dflt := 269) (lw := 0) (hi := 4) (offs := #[34, 63, 140, 182, 224]) (len := 34) (off := 224) (tgt := 442) (by decide +kernel) (by rw [hc68]; decide) (by rw [hc68]; decide) (by rw [hc68]; decide) (by decide) ?_
      refine n_aload_n (n := 0) (by decide +kernel) rfl ?_
      refine n_getF (q := 79) G fl_RX10_20 hp0 (by decide +kernel) (by decide +kernel) (by decide +kernel) (fun hp69q => ?_)
      refine n_bipush (n := 6) (v := 6) (by decide +kernel) rfl ?_
      refine n_aload_n (n := 0) (by decide +kernel) rfl ?_
      refine n_iconst (n := 0) (v := 0) (by decide +kernel) rfl ?_
      refine n_bipush (n := 60) (v := 60) (by decide +kernel) rfl ?_
      obtain ⟨⟨v70, M70⟩, h70, hr⟩ := bso hr
      try dsimp only at hr
      refine n_callVi G [_, _] (x := v70) (M1 := M70) (B_X10_number G hp0 h70) (by decide) mX10_number ml_RX10_150 hp0 (by decide +kernel) rfl rfl (Nat.le_of_ble_eq_true rfl) (by decide +kernel) ?_
      obtain ⟨M71, h71, hr⟩ := bso hr
      refine n_iast G h71 hp69q (by decide +kernel) (by decide +kernel) (by decide +kernel) ?_
      refine n_aload_n (n := 0) (by decide +kernel) rfl ?_
      refine n_getF (q := 79) G fl_RX10_20 hp0 (by decide +kernel) (by decide +kernel) (by decide +kernel) (fun hp72q => ?_)
      refine n_bipush (n := 7) (v := 7) (by decide +kernel) rfl ?_
      refine n_aload_n (n := 0) (by decide +kernel) rfl ?_
      refine n_iconst (n := 1) (v := 1) (by decide +kernel) rfl ?_
      refine n_bipush (n := 9) (v := 9) (by decide +kernel) rfl ?_
      obtain ⟨⟨v73, M73⟩, h73, hr⟩ := bso hr
      try dsimp only at hr
      refine n_callVi G [_, _] (x := v73) (M1 := M73) (B_X10_number G hp0 h73) (by decide) mX10_number ml_RX10_150 hp0 (by decide +kernel) rfl rfl (Nat.le_of_ble_eq_true rfl) (by decide +kernel) ?_
      obtain ⟨M74, h74, hr⟩ := bso hr
      refine n_iast G h74 hp72q (by decide +kernel) (by decide +kernel) (by decide +kernel) ?_
      refine n_aload_n (n := 0) (by decide +kernel) rfl ?_
      refine n_getF (q := 79) G fl_RX10_20 hp0 (by decide +kernel) (by decide +kernel) (by decide +kernel) (fun hp75q => ?_)
      refine n_bipush (n := 8) (v := 8) (by decide +kernel) rfl ?_
      refine n_aload_n (n := 0) (by decide +kernel) rfl ?_
      refine n_iconst (n := 1) (v := 1) (by decide +kernel) rfl ?_
      refine n_bipush (n := 99) (v := 99) (by decide +kernel) rfl ?_
      obtain ⟨⟨v76, M76⟩, h76, hr⟩ := bso hr
      try dsimp only at hr
      refine n_callVi G [_, _] (x := v76) (M1 := M76) (B_X10_number G hp0 h76) (by decide) mX10_number ml_RX10_150 hp0 (by decide +kernel) rfl rfl (Nat.le_of_ble_eq_true rfl) (by decide +kernel) ?_
      obtain ⟨M77, h77, hr⟩ := bso hr
      refine n_iast G h77 hp75q (by decide +kernel) (by decide +kernel) (by decide +kernel) ?_
      refine n_goto (off := 17) (tgt := 501) (by decide +kernel) (by decide) ?_
      refine n_aload_n (n := 0) (by decide +kernel) rfl ?_
      refine n_bipush (n := 59) (v := 59) (by decide +kernel) rfl ?_
      obtain ⟨M78, h78, hr⟩ := bso hr
      refine n_callVv G [_] (M1 := M78) (B_X10_sign G hp0 h78) (by decide) mX10_sign ml_RX10_157 hp0 (by decide +kernel) rfl rfl (Nat.le_of_ble_eq_true rfl) (by decide +kernel) ?_
      cases hr
      exact n_return (by decide +kernel)
    rw [if_neg hc68] at hr
    have e18 := ne_toInt hc18 (n := 0) rfl
    have e26 := ne_toInt hc26 (n := 1) rfl
    have e45 := ne_toInt hc45 (n := 2) rfl
    have e57 := ne_toInt hc57 (n := 3) rfl
    have e68 := ne_toInt hc68 (n := 4) rfl
    refine n_tabOut (dflt := 269) (lw := 0) (hi := 4) (offs := #[34, 63, 140, 182, 224]) (len := 34) (tgt := 487) (by decide +kernel) (by omega) (by decide) ?_
    refine n_aload_n (n := 0) (by decide +kernel) rfl ?_
    refine n_getF (q := 79) G fl_RX10_20 hp0 (by decide +kernel) (by decide +kernel) (by decide +kernel) (fun hp79q => ?_)
    refine n_bipush (n := 9) (v := 9) (by decide +kernel) rfl ?_
    refine n_aload_n (n := 0) (by decide +kernel) rfl ?_
    refine n_iconst (n := 1) (v := 1) (by decide +kernel) rfl ?_
    refine n_bipush (n := 30) (v := 30) (by decide +kernel) rfl ?_
    obtain ⟨⟨v80, M80⟩, h80, hr⟩ := bso hr
    try dsimp only at hr
    refine n_callVi G [_, _] (x := v80) (M1 := M80) (B_X10_number G hp0 h80) (by decide) mX10_number ml_RX10_150 hp0 (by decide +kernel) rfl rfl (Nat.le_of_ble_eq_true rfl) (by decide +kernel) ?_
    obtain ⟨M81, h81, hr⟩ := bso hr
    refine n_iast G h81 hp79q (by decide +kernel) (by decide +kernel) (by decide +kernel) ?_
    refine n_aload_n (n := 0) (by decide +kernel) rfl ?_
    refine n_bipush (n := 59) (v := 59) (by decide +kernel) rfl ?_
    obtain ⟨M82, h82, hr⟩ := bso hr
    refine n_callVv G [_] (M1 := M82) (B_X10_sign G hp0 h82) (by decide) mX10_sign ml_RX10_157 hp0 (by decide +kernel) rfl rfl (Nat.le_of_ble_eq_true rfl) (by decide +kernel) ?_
    cases hr
    exact n_return (by decide +kernel)
  · rw [if_neg hc16] at hr
    cases hr
    exact n_return (by decide +kernel)
set_option maxRecDepth 100000 in
theorem B_X10_clause_j163 (G : GG l s0 b L xs D cy ad) {x1 : Int32} {M : Mm} {r : Mm} (hp0 : P 76) (hr : f_X10_clause_j163 x1 M = some r) : Rn l s0 D cy ad P 13 KX10_clause 163 [.ref 76, .int x1, .null, .null] [] M (.inl none) (r) := by
  unfold f_X10_clause_j163 at hr
  refine n_aload_n (n := 0) (by decide +kernel) rfl ?_
  refine n_iconst (n := 3) (v := 3) (by decide +kernel) rfl ?_
  refine n_aload_n (n := 0) (by decide +kernel) rfl ?_
  refine n_getI G fl_RX10_97 hp0 (by decide +kernel) (by decide +kernel) ?_
  obtain ⟨M15, h15, hr⟩ := bso hr
  refine n_callVv G [_, _] (M1 := M15) (B_X10_wrong G hp0 h15) (by decide) mX10_wrong ml_RX10_117 hp0 (by decide +kernel) rfl rfl (Nat.le_of_ble_eq_true rfl) (by decide +kernel) ?_
  refine n_goto (off := 23) (tgt := 195) (by decide +kernel) (by decide) ?_
  exact B_X10_clause_j195 G hp0 hr
set_option maxRecDepth 100000 in
theorem B_X10_clause_j175 (G : GG l s0 b L xs D cy ad) {x1 : Int32} {M : Mm} {r : Mm} (hp0 : P 76) (hr : f_X10_clause_j175 x1 M = some r) : Rn l s0 D cy ad P 13 KX10_clause 175 [.ref 76, .int x1, .null, .null] [] M (.inl none) (r) := by
  unfold f_X10_clause_j175 at hr
  refine n_iload_n (n := 1) (by decide +kernel) rfl ?_
  refine n_if_ne (off := 19) (tgt := 195) (by decide +kernel) (by decide) (fun hc84 => ?_) (fun hc84 => ?_)
  · rw [if_neg hc84] at hr
    exact B_X10_clause_j195 G hp0 hr
  · rw [if_pos hc84] at hr
    refine n_aload_n (n := 0) (by decide +kernel) rfl ?_
    refine n_getI G fl_RX10_144 hp0 (by decide +kernel) (by decide +kernel) ?_
    refine n_if_le (off := 12) (tgt := 195) (by decide +kernel) (by decide) (fun hc85 => ?_) (fun hc85 => ?_)
    · rw [if_pos hc85] at hr
      exact B_X10_clause_j195 G hp0 hr
    · rw [if_neg hc85] at hr
      refine n_aload_n (n := 0) (by decide +kernel) rfl ?_
      refine n_iconst (n := 4) (v := 4) (by decide +kernel) rfl ?_
      refine n_aload_n (n := 0) (by decide +kernel) rfl ?_
      refine n_getI G fl_RX10_97 hp0 (by decide +kernel) (by decide +kernel) ?_
      obtain ⟨M86, h86, hr⟩ := bso hr
      refine n_callVv G [_, _] (M1 := M86) (B_X10_wrong G hp0 h86) (by decide) mX10_wrong ml_RX10_117 hp0 (by decide +kernel) rfl rfl (Nat.le_of_ble_eq_true rfl) (by decide +kernel) ?_
      exact B_X10_clause_j195 G hp0 hr
set_option maxRecDepth 100000 in
theorem B_X10_clause_j120 (G : GG l s0 b L xs D cy ad) {xs0 : Int32} {M : Mm} {r : Mm} (hp0 : P 76) (hr : f_X10_clause_j120 xs0 M = some r) : Rn l s0 D cy ad P 13 KX10_clause 120 [.ref 76, .null, .null, .null] [.int xs0] M (.inl none) (r) := by
  unfold f_X10_clause_j120 at hr
  refine n_istore_n (n := 1) (lo2 := [_, _, _, _]) (by decide +kernel) (Nat.le_of_ble_eq_true rfl) rfl ?_
  refine n_iload_n (n := 1) (by decide +kernel) rfl ?_
  refine n_iconst (n := -1) (v := -1) (by decide +kernel) rfl ?_
  refine n_icmp_ne (off := 15) (tgt := 138) (by decide +kernel) (by decide) (fun hc13 => ?_) (fun hc13 => ?_)
  · rw [if_neg hc13] at hr
    refine n_aload_n (n := 0) (by decide +kernel) rfl ?_
    refine n_getI G fl_RX10_144 hp0 (by decide +kernel) (by decide +kernel) ?_
    refine n_bipush (n := 60) (v := 60) (by decide +kernel) rfl ?_
    refine n_icmp_eq (off := 19) (tgt := 163) (by decide +kernel) (by decide) (fun hc14 => ?_) (fun hc14 => ?_)
    · rw [if_pos hc14] at hr
      exact B_X10_clause_j163 G hp0 hr
    · rw [if_neg hc14] at hr
      refine n_iload_n (n := 1) (by decide +kernel) rfl ?_
      refine n_iconst (n := 1) (v := 1) (by decide +kernel) rfl ?_
      refine n_icmp_ne (off := 26) (tgt := 175) (by decide +kernel) (by decide) (fun hc83 => ?_) (fun hc83 => ?_)
      · rw [if_neg hc83] at hr
        exact B_X10_clause_j175 G hp0 hr
      · rw [if_pos hc83] at hr
        refine n_aload_n (n := 0) (by decide +kernel) rfl ?_
        refine n_getF (q := 79) G fl_RX10_20 hp0 (by decide +kernel) (by decide +kernel) (by decide +kernel) (fun hp87q => ?_)
        refine n_iconst (n := 2) (v := 2) (by decide +kernel) rfl ?_
        obtain ⟨v88, h88, hr⟩ := bso hr
        refine n_iald G h88 hp87q (by decide +kernel) (by decide +kernel) (by decide +kernel) ?_
        refine n_bipush (n := 30) (v := 30) (by decide +kernel) rfl ?_
        refine n_icmp_ne (off := 15) (tgt := 175) (by decide +kernel) (by decide) (fun hc89 => ?_) (fun hc89 => ?_)
        · rw [if_neg hc89] at hr
          exact B_X10_clause_j175 G hp0 hr
        · rw [if_pos hc89] at hr
          exact B_X10_clause_j163 G hp0 hr
  · rw [if_pos hc13] at hr
    refine n_aload_n (n := 0) (by decide +kernel) rfl ?_
    refine n_iconst (n := 1) (v := 1) (by decide +kernel) rfl ?_
    refine n_aload_n (n := 0) (by decide +kernel) rfl ?_
    refine n_getI G fl_RX10_97 hp0 (by decide +kernel) (by decide +kernel) ?_
    obtain ⟨M90, h90, hr⟩ := bso hr
    refine n_callVv G [_, _] (M1 := M90) (B_X10_wrong G hp0 h90) (by decide) mX10_wrong ml_RX10_117 hp0 (by decide +kernel) rfl rfl (Nat.le_of_ble_eq_true rfl) (by decide +kernel) ?_
    refine n_goto (off := 60) (tgt := 195) (by decide +kernel) (by decide) ?_
    exact B_X10_clause_j195 G hp0 hr
end NB
