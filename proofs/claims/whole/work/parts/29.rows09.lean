/-! printed rows: a method is its function -/
section NB
variable {l : Launch} {s0 : State} {b L : Nat} {xs : Nat → Int32} {D : va_G} {cy : Nat → ClassId} {ad : Nat → Nat} {P : Nat → Prop}
set_option maxRecDepth 100000 in
theorem W_X10_book_b46 (G : GG l s0 b L xs D cy ad)   (hp0 : P 76) {s : (Int32 × Mm)} {e : (Int32 × Mm)} (h : whl fu (f_X10_book_b46 ) s = some e) (res : Rs) (M' : Mm) : Q_X10_book_b46 l s0 D cy ad P  res M' e → P_X10_book_b46 l s0 D cy ad P  res M' s := whl_run (P := fun s => P_X10_book_b46 l s0 D cy ad P  res M' s) (Q := fun e => Q_X10_book_b46 l s0 D cy ad P  res M' e) (B_X10_book_b46 G (res := res) (M' := M')  hp0) fu s h
abbrev P_X10_book_b269 (l : Launch) (s0 : State) (D : va_G) (cy : Nat → ClassId) (ad : Nat → Nat) (P : Nat → Prop) (x2 : Int32)  (res : Rs) (M' : Mm) (s : (Int32 × Mm)) : Prop := Rn l s0 D cy ad P 12 KX10_book 269 [.ref 76, .null, .int x2, .int (s.1), .null, .null, .null] [] (s.2) res M'
abbrev Q_X10_book_b269 (l : Launch) (s0 : State) (D : va_G) (cy : Nat → ClassId) (ad : Nat → Nat) (P : Nat → Prop) (x2 : Int32)  (res : Rs) (M' : Mm) (e : Mm) : Prop := Rn l s0 D cy ad P 12 KX10_book 313 [.null, .null, .int x2, .null, .null, .null, .null] [] (e) res M'
abbrev P_X10_book_b277 (l : Launch) (s0 : State) (D : va_G) (cy : Nat → ClassId) (ad : Nat → Nat) (P : Nat → Prop) (x2 : Int32) (x3 : Int32)  (res : Rs) (M' : Mm) (s : (Int32 × Mm)) : Prop := Rn l s0 D cy ad P 12 KX10_book 277 [.ref 76, .null, .int x2, .int x3, .int (s.1), .null, .null] [] (s.2) res M'
abbrev Q_X10_book_b277 (l : Launch) (s0 : State) (D : va_G) (cy : Nat → ClassId) (ad : Nat → Nat) (P : Nat → Prop) (x2 : Int32) (x3 : Int32)  (res : Rs) (M' : Mm) (e : Mm) : Prop := Rn l s0 D cy ad P 12 KX10_book 307 [.ref 76, .null, .int x2, .int x3, .null, .null, .null] [] (e) res M'
set_option maxRecDepth 100000 in
theorem B_X10_book_b277 (G : GG l s0 b L xs D cy ad) {x2 : Int32} {x3 : Int32}  {res : Rs} {M' : Mm} (hp0 : P 76) : ∀ (s : (Int32 × Mm)) (r : (Int32 × Mm) ⊕ Mm), f_X10_book_b277 x2 x3 s = some r → mtc (P_X10_book_b277 l s0 D cy ad P x2 x3 res M') (Q_X10_book_b277 l s0 D cy ad P x2 x3 res M') r → P_X10_book_b277 l s0 D cy ad P x2 x3 res M' s := by
  intro s r hr hk
  obtain ⟨x4, M⟩ := s
  unfold f_X10_book_b277 at hr
  try dsimp only at hr
  dsimp only [P_X10_book_b277]
  refine n_iload (n := 4) (by decide +kernel) rfl ?_
  refine n_iconst (n := 3) (v := 3) (by decide +kernel) rfl ?_
  refine n_icmp_ge (off := 27) (tgt := 307) (by decide +kernel) (by decide) (fun hc47 => ?_) (fun hc47 => ?_)
  · rw [if_pos hc47] at hr
    cases hr
    refine n_msk [true, false, true, true, false, false, false] (lo2 := [_, .null, _, _, .null, .null, .null]) rfl rfl ?_
    exact hk
  · rw [if_neg hc47] at hr
    refine n_aload_n (n := 0) (by decide +kernel) rfl ?_
    refine n_getF (q := 120) G fl_RX10_49 hp0 (by decide +kernel) (by decide +kernel) (by decide +kernel) (fun hp48q => ?_)
    refine n_iload_n (n := 3) (by decide +kernel) rfl ?_
    obtain ⟨q49, h49, hr⟩ := bso hr
    refine n_aald G h49 hp48q (by decide +kernel) (by decide +kernel) (by decide +kernel) (fun hp49q => ?_)
    refine n_iload (n := 4) (by decide +kernel) rfl ?_
    refine n_aload_n (n := 0) (by decide +kernel) rfl ?_
    refine n_getF (q := 127) G fl_RX10_52 hp0 (by decide +kernel) (by decide +kernel) (by decide +kernel) (fun hp50q => ?_)
    refine n_iload_n (n := 3) (by decide +kernel) rfl ?_
    obtain ⟨q51, h51, hr⟩ := bso hr
    refine n_aald G h51 hp50q (by decide +kernel) (by decide +kernel) (by decide +kernel) (fun hp51q => ?_)
    refine n_iload (n := 4) (by decide +kernel) rfl ?_
    obtain ⟨v52, h52, hr⟩ := bso hr
    refine n_iald G h52 hp51q (row_127 h51).1 (row_127 h51).2 (by decide +kernel) ?_
    obtain ⟨M53, h53, hr⟩ := bso hr
    refine n_iast G h53 hp49q (row_120 h49).1 (row_120 h49).2 (by decide +kernel) ?_
    refine n_iincK (n := 4) (j := 1) (w := 1) (lo2 := [_, _, _, _, _, _, _]) (by decide +kernel) rfl rfl rfl ?_
    refine n_goto (off := -27) (tgt := 277) (by decide +kernel) (by decide) ?_
    cases hr
    exact hk
set_option maxRecDepth 100000 in
theorem W_X10_book_b277 (G : GG l s0 b L xs D cy ad) {x2 : Int32} {x3 : Int32}  (hp0 : P 76) {s : (Int32 × Mm)} {e : Mm} (h : whl fu (f_X10_book_b277 x2 x3) s = some e) (res : Rs) (M' : Mm) : Q_X10_book_b277 l s0 D cy ad P x2 x3 res M' e → P_X10_book_b277 l s0 D cy ad P x2 x3 res M' s := whl_run (P := fun s => P_X10_book_b277 l s0 D cy ad P x2 x3 res M' s) (Q := fun e => Q_X10_book_b277 l s0 D cy ad P x2 x3 res M' e) (B_X10_book_b277 G (res := res) (M' := M') (x2 := x2) (x3 := x3) hp0) fu s h
set_option maxRecDepth 100000 in
theorem B_X10_book_b269 (G : GG l s0 b L xs D cy ad) {x2 : Int32}  {res : Rs} {M' : Mm} (hp0 : P 76) : ∀ (s : (Int32 × Mm)) (r : (Int32 × Mm) ⊕ Mm), f_X10_book_b269 x2 s = some r → mtc (P_X10_book_b269 l s0 D cy ad P x2 res M') (Q_X10_book_b269 l s0 D cy ad P x2 res M') r → P_X10_book_b269 l s0 D cy ad P x2 res M' s := by
  intro s r hr hk
  obtain ⟨x3, M⟩ := s
  unfold f_X10_book_b269 at hr
  try dsimp only at hr
  dsimp only [P_X10_book_b269]
  refine n_iload_n (n := 3) (by decide +kernel) rfl ?_
  refine n_iload_n (n := 2) (by decide +kernel) rfl ?_
  refine n_icmp_ge (off := 42) (tgt := 313) (by decide +kernel) (by decide) (fun hc46 => ?_) (fun hc46 => ?_)
  · rw [if_pos hc46] at hr
    cases hr
    refine n_msk [false, false, true, false, false, false, false] (lo2 := [.null, .null, _, .null, .null, .null, .null]) rfl rfl ?_
    exact hk
  · rw [if_neg hc46] at hr
    refine n_iconst (n := 0) (v := 0) (by decide +kernel) rfl ?_
    refine n_istore (n := 4) (lo2 := [_, _, _, _, _, _, _]) (by decide +kernel) (Nat.le_of_ble_eq_true rfl) rfl ?_
    obtain ⟨M54, h54, hr⟩ := bso hr
    refine (W_X10_book_b277 G hp0 h54 _ _) ?_
    dsimp only [Q_X10_book_b277]
    refine n_iincK (n := 3) (j := 1) (w := 1) (lo2 := [_, _, _, _, _, _, _]) (by decide +kernel) rfl rfl rfl ?_
    refine n_goto (off := -41) (tgt := 269) (by decide +kernel) (by decide) ?_
    cases hr
    exact hk
set_option maxRecDepth 100000 in
theorem W_X10_book_b269 (G : GG l s0 b L xs D cy ad) {x2 : Int32}  (hp0 : P 76) {s : (Int32 × Mm)} {e : Mm} (h : whl fu (f_X10_book_b269 x2) s = some e) (res : Rs) (M' : Mm) : Q_X10_book_b269 l s0 D cy ad P x2 res M' e → P_X10_book_b269 l s0 D cy ad P x2 res M' s := whl_run (P := fun s => P_X10_book_b269 l s0 D cy ad P x2 res M' s) (Q := fun e => Q_X10_book_b269 l s0 D cy ad P x2 res M' e) (B_X10_book_b269 G (res := res) (M' := M') (x2 := x2) hp0) fu s h
set_option maxRecDepth 100000 in
theorem B_X10_book_j245 (G : GG l s0 b L xs D cy ad) {x2 : Int32} {M : Mm} {r : (Int32 × Mm)} (hp0 : P 76) (hr : f_X10_book_j245 x2 M = some r) : Rn l s0 D cy ad P 12 KX10_book 245 [.ref 76, .null, .int x2, .null, .null, .null, .null] [] M (.inl (some (.int r.1))) (r.2) := by
  unfold f_X10_book_j245 at hr
  refine n_aload_n (n := 0) (by decide +kernel) rfl ?_
  refine n_getI G fl_RX10_104 hp0 (by decide +kernel) (by decide +kernel) ?_
  refine n_if_eq (off := 8) (tgt := 257) (by decide +kernel) (by decide) (fun hc45 => ?_) (fun hc45 => ?_)
  · rw [if_pos hc45] at hr
    refine n_aload_n (n := 0) (by decide +kernel) rfl ?_
    refine n_iconst (n := -1) (v := -1) (by decide +kernel) rfl ?_
    refine n_putI G fl_RX10_9 hp0 (by decide +kernel) (by decide +kernel) ?_
    refine n_aload_n (n := 0) (by decide +kernel) rfl ?_
    refine n_iload_n (n := 2) (by decide +kernel) rfl ?_
    refine n_putI G fl_RX10_178 hp0 (by decide +kernel) (by decide +kernel) ?_
    refine n_iconst (n := 0) (v := 0) (by decide +kernel) rfl ?_
    refine n_istore_n (n := 3) (lo2 := [_, _, _, _, _, _, _]) (by decide +kernel) (Nat.le_of_ble_eq_true rfl) rfl ?_
    obtain ⟨M55, h55, hr⟩ := bso hr
    refine (W_X10_book_b269 G hp0 h55 _ _) ?_
    dsimp only [Q_X10_book_b269]
    refine n_iload_n (n := 2) (by decide +kernel) rfl ?_
    cases hr
    exact n_ireturn (by decide +kernel)
  · rw [if_neg hc45] at hr
    refine n_aload_n (n := 0) (by decide +kernel) rfl ?_
    obtain ⟨⟨v56, M56⟩, h56, hr⟩ := bso hr
    try dsimp only at hr
    refine n_callVi G [] (x := v56) (M1 := M56) (B_X10_ends G hp0 h56) (by decide) mX10_ends ml_RX10_171 hp0 (by decide +kernel) rfl rfl (Nat.le_of_ble_eq_true rfl) (by decide +kernel) ?_
    cases hr
    exact n_ireturn (by decide +kernel)
set_option maxRecDepth 100000 in
theorem B_X10_book_j29 (G : GG l s0 b L xs D cy ad) {x1 : Int32} {xs1 : Int32} {M : Mm} {r : (Int32 × Mm)} (hp0 : P 76) (hp90 : P 76) (hr : f_X10_book_j29 x1 xs1 M = some r) : Rn l s0 D cy ad P 12 KX10_book 29 [.ref 76, .int x1, .null, .null, .null, .null, .null] [.int xs1, .ref 76] M (.inl (some (.int r.1))) (r.2) := by
  unfold f_X10_book_j29 at hr
  refine n_iconst (n := 1) (v := 1) (by decide +kernel) rfl ?_
  refine n_iconst (n := 2) (v := 2) (by decide +kernel) rfl ?_
  obtain ⟨⟨v3, M3⟩, h3, hr⟩ := bso hr
  try dsimp only at hr
  refine n_callVi G [_, _, _] (x := v3) (M1 := M3) (B_X10_bad G hp90 h3) (by decide) mX10_bad ml_RX10_161 hp90 (by decide +kernel) rfl rfl (Nat.le_of_ble_eq_true rfl) (by decide +kernel) ?_
  refine n_if_eq (off := 5) (tgt := 39) (by decide +kernel) (by decide) (fun hc4 => ?_) (fun hc4 => ?_)
  · rw [if_pos hc4] at hr
    refine n_aload_n (n := 0) (by decide +kernel) rfl ?_
    refine n_iload_n (n := 1) (by decide +kernel) rfl ?_
    obtain ⟨M5, h5, hr⟩ := bso hr
    refine n_callVv G [_] (M1 := M5) (B_X10_starts G hp0 h5) (by decide) mX10_starts ml_RX10_165 hp0 (by decide +kernel) rfl rfl (Nat.le_of_ble_eq_true rfl) (by decide +kernel) ?_
    refine n_iconst (n := 0) (v := 0) (by decide +kernel) rfl ?_
    refine n_istore_n (n := 2) (lo2 := [_, _, _, _, _, _, _]) (by decide +kernel) (Nat.le_of_ble_eq_true rfl) rfl ?_
    obtain ⟨e44, h44, hr⟩ := bso hr
    refine n_msk [true, false, true, false, false, false, false] (lo2 := [_, .null, _, .null, .null, .null, .null]) rfl rfl ?_
    refine (W_X10_book_b46 G hp0 h44 _ _) ?_
    obtain ⟨z2_44, M44⟩ := e44
    try dsimp only at hr
    dsimp only [Q_X10_book_b46]
    exact B_X10_book_j245 G hp0 hr
  · rw [if_neg hc4] at hr
    refine n_iconst (n := 0) (v := 0) (by decide +kernel) rfl ?_
    cases hr
    exact n_ireturn (by decide +kernel)
set_option maxRecDepth 100000 in
theorem B_X10_book_j24 (G : GG l s0 b L xs D cy ad) {x1 : Int32} {M : Mm} {r : (Int32 × Mm)} (hp0 : P 76) (hp90 : P 76) (hr : f_X10_book_j24 x1 M = some r) : Rn l s0 D cy ad P 12 KX10_book 24 [.ref 76, .int x1, .null, .null, .null, .null, .null] [.ref 76] M (.inl (some (.int r.1))) (r.2) := by
  unfold f_X10_book_j24 at hr
  refine n_iconst (n := 1) (v := 1) (by decide +kernel) rfl ?_
  refine n_goto (off := 4) (tgt := 29) (by decide +kernel) (by decide) ?_
  exact B_X10_book_j29 G hp0 hp90 hr
set_option maxRecDepth 100000 in
theorem B_X10_book (G : GG l s0 b L xs D cy ad)  {x1 : Int32} {M : Mm} {r : (Int32 × Mm)} (hp0 : P 76) (hr : f_X10_book x1 M = some r) : Cl l s0 D cy ad P 12 KX10_book [.ref 76, .int x1] M (.inl (some (.int r.1))) (r.2) := by
  refine cl_ofN (by decide +kernel) rfl rfl okI (lo0 := [_, _, .null, .null, .null, .null, .null]) rfl ?_
  unfold f_X10_book at hr
  refine n_aload_n (n := 0) (by decide +kernel) rfl ?_
  refine n_iconst (n := 0) (v := 0) (by decide +kernel) rfl ?_
  refine n_putI G fl_RX10_88 hp0 (by decide +kernel) (by decide +kernel) ?_
  refine n_aload_n (n := 0) (by decide +kernel) rfl ?_
  refine n_iload_n (n := 1) (by decide +kernel) rfl ?_
  refine n_iconst (n := 0) (v := 0) (by decide +kernel) rfl ?_
  refine n_aload_n (n := 0) (by decide +kernel) rfl ?_
  refine n_getI G fl_RX10_91 hp0 (by decide +kernel) (by decide +kernel) ?_
  obtain ⟨v1, h1, hr⟩ := bso hr
  refine n_callSi G [_, _, _] (x := v1) (B_X10_in G  h1) (by decide) mX10_in ml_RX10_122 rfl rfl (Nat.le_of_ble_eq_true rfl) (by decide +kernel) ?_
  refine n_if_eq (off := 9) (tgt := 24) (by decide +kernel) (by decide) (fun hc2 => ?_) (fun hc2 => ?_)
  · rw [if_pos hc2] at hr
    exact B_X10_book_j24 G hp0 hp0 hr
  · rw [if_neg hc2] at hr
    refine n_iload_n (n := 1) (by decide +kernel) rfl ?_
    refine n_bipush (n := 100) (v := 100) (by decide +kernel) rfl ?_
    refine n_icmp_le (off := 7) (tgt := 28) (by decide +kernel) (by decide) (fun hc57 => ?_) (fun hc57 => ?_)
    · rw [if_pos hc57] at hr
      refine n_iconst (n := 0) (v := 0) (by decide +kernel) rfl ?_
      exact B_X10_book_j29 G hp0 hp0 hr
    · rw [if_neg hc57] at hr
      exact B_X10_book_j24 G hp0 hp0 hr
set_option maxRecDepth 100000 in
theorem B_X10_fault (G : GG l s0 b L xs D cy ad)   {M : Mm} {r : (Int32 × Mm)} (hp0 : P 76) (hr : f_X10_fault  M = some r) : Cl l s0 D cy ad P 9 KX10_fault [.ref 76] M (.inl (some (.int r.1))) (r.2) := by
  refine cl_ofN (by decide +kernel) rfl rfl okI (lo0 := [_]) rfl ?_
  unfold f_X10_fault at hr
  refine n_aload_n (n := 0) (by decide +kernel) rfl ?_
  refine n_iconst (n := 0) (v := 0) (by decide +kernel) rfl ?_
  refine n_putI G fl_RX10_88 hp0 (by decide +kernel) (by decide +kernel) ?_
  refine n_aload_n (n := 0) (by decide +kernel) rfl ?_
  refine n_getI G fl_RX10_9 hp0 (by decide +kernel) (by decide +kernel) ?_
  cases hr
  exact n_ireturn (by decide +kernel)
abbrev P_X10_whereMany_b4 (l : Launch) (s0 : State) (D : va_G) (cy : Nat → ClassId) (ad : Nat → Nat) (P : Nat → Prop) (a0 : Nat) (x1 : Int32) (M : Mm) (res : Rs) (M' : Mm) (s : (Int32 × Int32)) : Prop := Rn l s0 D cy ad P 10 KX10_whereMany 4 [.ref a0, .int x1, .int (s.1), .int (s.2)] [] M res M'
abbrev Q_X10_whereMany_b4 (l : Launch) (s0 : State) (D : va_G) (cy : Nat → ClassId) (ad : Nat → Nat) (P : Nat → Prop) (a0 : Nat) (x1 : Int32) (M : Mm) (res : Rs) (M' : Mm) (e : Int32) : Prop := Rn l s0 D cy ad P 10 KX10_whereMany 37 [.null, .null, .int (e), .null] [] M res M'
set_option maxRecDepth 100000 in
theorem B_X10_whereMany_b4 (G : GG l s0 b L xs D cy ad) {a0 : Nat} {x1 : Int32} {M : Mm} {res : Rs} {M' : Mm} (hp0 : P a0) (hs0 : SH a0 = 12) : ∀ (s : (Int32 × Int32)) (r : (Int32 × Int32) ⊕ Int32), f_X10_whereMany_b4 a0 x1 M s = some r → mtc (P_X10_whereMany_b4 l s0 D cy ad P a0 x1 M res M') (Q_X10_whereMany_b4 l s0 D cy ad P a0 x1 M res M') r → P_X10_whereMany_b4 l s0 D cy ad P a0 x1 M res M' s := by
  intro s r hr hk
  obtain ⟨x2, x3⟩ := s
  unfold f_X10_whereMany_b4 at hr
  try dsimp only at hr
  dsimp only [P_X10_whereMany_b4]
  refine n_iload_n (n := 3) (by decide +kernel) rfl ?_
  refine n_aload_n (n := 0) (by decide +kernel) rfl ?_
  refine n_sipush (n := 360) (v := 360) (by decide +kernel) (by decide +kernel) ?_
  obtain ⟨v1, h1, hr⟩ := bso hr
  refine n_iald G h1 hp0 hs0 rfl (by decide +kernel) ?_
  refine n_icmp_ge (off := 27) (tgt := 37) (by decide +kernel) (by decide) (fun hc2 => ?_) (fun hc2 => ?_)
  · rw [if_pos hc2] at hr
    cases hr
    refine n_msk [false, false, true, false] (lo2 := [.null, .null, _, .null]) rfl rfl ?_
    exact hk
  · rw [if_neg hc2] at hr
    refine n_iload_n (n := 2) (by decide +kernel) rfl ?_
    refine n_aload_n (n := 0) (by decide +kernel) rfl ?_
    refine n_iload_n (n := 3) (by decide +kernel) rfl ?_
    refine n_iconst (n := 4) (v := 4) (by decide +kernel) rfl ?_
    obtain ⟨v3, h3, hr⟩ := bso hr
    refine n_callSi G [_, _, _] (x := v3) (B_X10_of G hp0 hs0 h3) (by decide) mX10_of ml_RX10_222 rfl rfl (Nat.le_of_ble_eq_true rfl) (by decide +kernel) ?_
    refine n_iload_n (n := 1) (by decide +kernel) rfl ?_
    refine n_dia2 (J := 29) (c := v3 = x1) (a := (1 : Int32)) (b := (0 : Int32)) (fun hJ => ?_) ?_
    · refine n_icmp_ne (off := 7) (tgt := 28) (by decide +kernel) (by decide) (fun hc4 => ?_) (fun hc4 => ?_)
      · refine n_iconst (n := 0) (v := 0) (by decide +kernel) rfl ?_
        exact hJ _ (if_neg hc4).symm
      · refine n_iconst (n := 1) (v := 1) (by decide +kernel) rfl ?_
        refine n_goto (off := 4) (tgt := 29) (by decide +kernel) (by decide) ?_
        exact hJ _ (if_pos hc4).symm
    refine n_iadd (by decide +kernel) ?_
    refine n_istore_n (n := 2) (lo2 := [_, _, _, _]) (by decide +kernel) (Nat.le_of_ble_eq_true rfl) rfl ?_
    refine n_iincK (n := 3) (j := 1) (w := 1) (lo2 := [_, _, _, _]) (by decide +kernel) rfl rfl rfl ?_
    refine n_goto (off := -30) (tgt := 4) (by decide +kernel) (by decide) ?_
    cases hr
    exact hk
set_option maxRecDepth 100000 in
theorem W_X10_whereMany_b4 (G : GG l s0 b L xs D cy ad) {a0 : Nat} {x1 : Int32} {M : Mm} (hp0 : P a0) (hs0 : SH a0 = 12) {s : (Int32 × Int32)} {e : Int32} (h : whl fu (f_X10_whereMany_b4 a0 x1 M) s = some e) (res : Rs) (M' : Mm) : Q_X10_whereMany_b4 l s0 D cy ad P a0 x1 M res M' e → P_X10_whereMany_b4 l s0 D cy ad P a0 x1 M res M' s := whl_run (P := fun s => P_X10_whereMany_b4 l s0 D cy ad P a0 x1 M res M' s) (Q := fun e => Q_X10_whereMany_b4 l s0 D cy ad P a0 x1 M res M' e) (B_X10_whereMany_b4 G (res := res) (M' := M') (a0 := a0) (x1 := x1) (M := M) hp0 hs0) fu s h
set_option maxRecDepth 100000 in
theorem B_X10_whereMany (G : GG l s0 b L xs D cy ad)  {a0 : Nat} {x1 : Int32} {M : Mm} {r : Int32} (hp0 : P a0) (hs0 : SH a0 = 12) (hr : f_X10_whereMany a0 x1 M = some r) : Cl l s0 D cy ad P 10 KX10_whereMany [.ref a0, .int x1] M (.inl (some (.int r))) (M) := by
  refine cl_ofN (by decide +kernel) rfl rfl okI (lo0 := [_, _, .null, .null]) rfl ?_
  unfold f_X10_whereMany at hr
  refine n_iconst (n := 0) (v := 0) (by decide +kernel) rfl ?_
  refine n_istore_n (n := 2) (lo2 := [_, _, _, _]) (by decide +kernel) (Nat.le_of_ble_eq_true rfl) rfl ?_
  refine n_iconst (n := 0) (v := 0) (by decide +kernel) rfl ?_
  refine n_istore_n (n := 3) (lo2 := [_, _, _, _]) (by decide +kernel) (Nat.le_of_ble_eq_true rfl) rfl ?_
  obtain ⟨z2_5, h5, hr⟩ := bso hr
  refine (W_X10_whereMany_b4 G hp0 hs0 h5 _ _) ?_
  dsimp only [Q_X10_whereMany_b4]
  refine n_iload_n (n := 2) (by decide +kernel) rfl ?_
  cases hr
  exact n_ireturn (by decide +kernel)
set_option maxRecDepth 100000 in
theorem B_X10_told (G : GG l s0 b L xs D cy ad)  {x1 : Int32} {M : Mm} {r : (Int32 × Mm)} (hp0 : P 76) (hr : f_X10_told x1 M = some r) : Cl l s0 D cy ad P 11 KX10_told [.ref 76, .int x1] M (.inl (some (.int r.1))) (r.2) := by
  refine cl_ofN (by decide +kernel) rfl rfl okI (lo0 := [_, _]) rfl ?_
  unfold f_X10_told at hr
  refine n_aload_n (n := 0) (by decide +kernel) rfl ?_
  refine n_iconst (n := 0) (v := 0) (by decide +kernel) rfl ?_
  refine n_putI G fl_RX10_88 hp0 (by decide +kernel) (by decide +kernel) ?_
  refine n_aload_n (n := 0) (by decide +kernel) rfl ?_
  refine n_iload_n (n := 1) (by decide +kernel) rfl ?_
  refine n_iconst (n := 0) (v := 0) (by decide +kernel) rfl ?_
  refine n_bipush (n := 9) (v := 9) (by decide +kernel) rfl ?_
  obtain ⟨v1, h1, hr⟩ := bso hr
  refine n_callSi G [_, _, _] (x := v1) (B_X10_in G  h1) (by decide) mX10_in ml_RX10_122 rfl rfl (Nat.le_of_ble_eq_true rfl) (by decide +kernel) ?_
  refine n_dia1 (J := 21) (c := v1 = 0) (a := (1 : Int32)) (b := (0 : Int32)) (fun hJ => ?_) ?_
  · refine n_if_ne (off := 7) (tgt := 20) (by decide +kernel) (by decide) (fun hc2 => ?_) (fun hc2 => ?_)
    · refine n_iconst (n := 0) (v := 0) (by decide +kernel) rfl ?_
      exact hJ _ (if_neg hc2).symm
    · refine n_iconst (n := 1) (v := 1) (by decide +kernel) rfl ?_
      refine n_goto (off := 4) (tgt := 21) (by decide +kernel) (by decide) ?_
      exact hJ _ (if_pos hc2).symm
  refine n_iconst (n := 1) (v := 1) (by decide +kernel) rfl ?_
  refine n_iconst (n := 2) (v := 2) (by decide +kernel) rfl ?_
  obtain ⟨⟨v3, M3⟩, h3, hr⟩ := bso hr
  try dsimp only at hr
  refine n_callVi G [_, _, _] (x := v3) (M1 := M3) (B_X10_bad G hp0 h3) (by decide) mX10_bad ml_RX10_161 hp0 (by decide +kernel) rfl rfl (Nat.le_of_ble_eq_true rfl) (by decide +kernel) ?_
  refine n_if_eq (off := 5) (tgt := 31) (by decide +kernel) (by decide) (fun hc4 => ?_) (fun hc4 => ?_)
  · rw [if_pos hc4] at hr
    refine n_iload_n (n := 1) (by decide +kernel) rfl ?_
    by_cases hc5 : x1 = 0
    · rw [if_pos hc5] at hr
      refine n_tabIn (dflt := 93) (lw := 0) (hi := 8) (offs := #[52, 52, 59, 68, 68, 68, 68, 79, 88]) (len := 52) (off := 52) (tgt := 84) (by decide +kernel) (by rw [hc5]; decide) (by rw [hc5]; decide) (by rw [hc5]; decide) (by decide) ?_
      refine n_aload_n (n := 0) (by decide +kernel) rfl ?_
      refine n_getF (q := 80) G fl_RX10_23 hp0 (by decide +kernel) (by decide +kernel) (by decide +kernel) (fun hp6q => ?_)
      refine n_iload_n (n := 1) (by decide +kernel) rfl ?_
      obtain ⟨v7, h7, hr⟩ := bso hr
      refine n_iald G h7 hp6q (by decide +kernel) (by decide +kernel) (by decide +kernel) ?_
      cases hr
      exact n_ireturn (by decide +kernel)
    rw [if_neg hc5] at hr
    by_cases hc8 : x1 = 1
    · rw [if_pos hc8] at hr
      refine n_tabIn (dflt := 93) (lw := 0) (hi := 8) (offs := #[52, 52, 59, 68, 68, 68, 68, 79, 88]) (len := 52) (off := 52) (tgt := 84) (by decide +kernel) (by rw [hc8]; decide) (by rw [hc8]; decide) (by rw [hc8]; decide) (by decide) ?_
      refine n_aload_n (n := 0) (by decide +kernel) rfl ?_
      refine n_getF (q := 80) G fl_RX10_23 hp0 (by decide +kernel) (by decide +kernel) (by decide +kernel) (fun hp9q => ?_)
      refine n_iload_n (n := 1) (by decide +kernel) rfl ?_
      obtain ⟨v10, h10, hr⟩ := bso hr
      refine n_iald G h10 hp9q (by decide +kernel) (by decide +kernel) (by decide +kernel) ?_
      cases hr
      exact n_ireturn (by decide +kernel)
    rw [if_neg hc8] at hr
    by_cases hc11 : x1 = 2
    · rw [if_pos hc11] at hr
      refine n_tabIn (dflt := 93) (lw := 0) (hi := 8) (offs := #[52, 52, 59, 68, 68, 68, 68, 79, 88]) (len := 52) (off := 59) (tgt := 91) (by decide +kernel) (by rw [hc11]; decide) (by rw [hc11]; decide) (by rw [hc11]; decide) (by decide) ?_
      refine n_aload_n (n := 0) (by decide +kernel) rfl ?_
      refine n_getF (q := 196) G fl_RX10_61 hp0 (by decide +kernel) (by decide +kernel) (by decide +kernel) (fun hp12q => ?_)
      refine n_sipush (n := 360) (v := 360) (by decide +kernel) (by decide +kernel) ?_
      obtain ⟨v13, h13, hr⟩ := bso hr
      refine n_iald G h13 hp12q (by decide +kernel) (by decide +kernel) (by decide +kernel) ?_
      cases hr
      exact n_ireturn (by decide +kernel)
    rw [if_neg hc11] at hr
    by_cases hc14 : x1 = 3
    · rw [if_pos hc14] at hr
      refine n_tabIn (dflt := 93) (lw := 0) (hi := 8) (offs := #[52, 52, 59, 68, 68, 68, 68, 79, 88]) (len := 52) (off := 68) (tgt := 100) (by decide +kernel) (by rw [hc14]; decide) (by rw [hc14]; decide) (by rw [hc14]; decide) (by decide) ?_
      refine n_aload_n (n := 0) (by decide +kernel) rfl ?_
      refine n_getF (q := 196) G fl_RX10_61 hp0 (by decide +kernel) (by decide +kernel) (by decide +kernel) (fun hp15q => ?_)
      refine n_iload_n (n := 1) (by decide +kernel) rfl ?_
      refine n_iconst (n := 3) (v := 3) (by decide +kernel) rfl ?_
      refine n_isub (by decide +kernel) ?_
      obtain ⟨v16, h16, hr⟩ := bso hr
      refine n_callSi G [_, _] (x := v16) (B_X10_whereMany G hp15q (by decide +kernel) h16) (by decide) mX10_whereMany ml_RX10_322 rfl rfl (Nat.le_of_ble_eq_true rfl) (by decide +kernel) ?_
      cases hr
      exact n_ireturn (by decide +kernel)
    rw [if_neg hc14] at hr
    by_cases hc17 : x1 = 4
    · rw [if_pos hc17] at hr
      refine n_tabIn (dflt := 93) (lw := 0) (hi := 8) (offs := #[52, 52, 59, 68, 68, 68, 68, 79, 88]) (len := 52) (off := 68) (tgt := 100) (by decide +kernel) (by rw [hc17]; decide) (by rw [hc17]; decide) (by rw [hc17]; decide) (by decide) ?_
      refine n_aload_n (n := 0) (by decide +kernel) rfl ?_
      refine n_getF (q := 196) G fl_RX10_61 hp0 (by decide +kernel) (by decide +kernel) (by decide +kernel) (fun hp18q => ?_)
      refine n_iload_n (n := 1) (by decide +kernel) rfl ?_
      refine n_iconst (n := 3) (v := 3) (by decide +kernel) rfl ?_
      refine n_isub (by decide +kernel) ?_
      obtain ⟨v19, h19, hr⟩ := bso hr
      refine n_callSi G [_, _] (x := v19) (B_X10_whereMany G hp18q (by decide +kernel) h19) (by decide) mX10_whereMany ml_RX10_322 rfl rfl (Nat.le_of_ble_eq_true rfl) (by decide +kernel) ?_
      cases hr
      exact n_ireturn (by decide +kernel)
    rw [if_neg hc17] at hr
    by_cases hc20 : x1 = 5
    · rw [if_pos hc20] at hr
      refine n_tabIn (dflt := 93) (lw := 0) (hi := 8) (offs := #[52, 52, 59, 68, 68, 68, 68, 79, 88]) (len := 52) (off := 68) (tgt := 100) (by decide +kernel) (by rw [hc20]; decide) (by rw [hc20]; decide) (by rw [hc20]; decide) (by decide) ?_
      refine n_aload_n (n := 0) (by decide +kernel) rfl ?_
      refine n_getF (q := 196) G fl_RX10_61 hp0 (by decide +kernel) (by decide +kernel) (by decide +kernel) (fun hp21q => ?_)
      refine n_iload_n (n := 1) (by decide +kernel) rfl ?_
      refine n_iconst (n := 3) (v := 3) (by decide +kernel) rfl ?_
      refine n_isub (by decide +kernel) ?_
      obtain ⟨v22, h22, hr⟩ := bso hr
      refine n_callSi G [_, _] (x := v22) (B_X10_whereMany G hp21q (by decide +kernel) h22) (by decide) mX10_whereMany ml_RX10_322 rfl rfl (Nat.le_of_ble_eq_true rfl) (by decide +kernel) ?_
      cases hr
      exact n_ireturn (by decide +kernel)
    rw [if_neg hc20] at hr
    by_cases hc23 : x1 = 6
    · rw [if_pos hc23] at hr
      refine n_tabIn (dflt := 93) (lw := 0) (hi := 8) (offs := #[52, 52, 59, 68, 68, 68, 68, 79, 88]) (len := 52) (off := 68) (tgt := 100) (by decide +kernel) (by rw [hc23]; decide) (by rw [hc23]; decide) (by rw [hc23]; decide) (by decide) ?_
      refine n_aload_n (n := 0) (by decide +kernel) rfl ?_
      refine n_getF (q := 196) G fl_RX10_61 hp0 (by decide +kernel) (by decide +kernel) (by decide +kernel) (fun hp24q => ?_)
      refine n_iload_n (n := 1) (by decide +kernel) rfl ?_
      refine n_iconst (n := 3) (v := 3) (by decide +kernel) rfl ?_
      refine n_isub (by decide +kernel) ?_
      obtain ⟨v25, h25, hr⟩ := bso hr
      refine n_callSi G [_, _] (x := v25) (B_X10_whereMany G hp24q (by decide +kernel) h25) (by decide) mX10_whereMany ml_RX10_322 rfl rfl (Nat.le_of_ble_eq_true rfl) (by decide +kernel) ?_
      cases hr
      exact n_ireturn (by decide +kernel)
    rw [if_neg hc23] at hr
    by_cases hc26 : x1 = 7
    · rw [if_pos hc26] at hr
      refine n_tabIn (dflt := 93) (lw := 0) (hi := 8) (offs := #[52, 52, 59, 68, 68, 68, 68, 79, 88]) (len := 52) (off := 79) (tgt := 111) (by decide +kernel) (by rw [hc26]; decide) (by rw [hc26]; decide) (by rw [hc26]; decide) (by decide) ?_
      refine n_aload_n (n := 0) (by decide +kernel) rfl ?_
      refine n_getF (q := 196) G fl_RX10_61 hp0 (by decide +kernel) (by decide +kernel) (by decide +kernel) (fun hp27q => ?_)
      refine n_sipush (n := 363) (v := 363) (by decide +kernel) (by decide +kernel) ?_
      obtain ⟨v28, h28, hr⟩ := bso hr
      refine n_iald G h28 hp27q (by decide +kernel) (by decide +kernel) (by decide +kernel) ?_
      cases hr
      exact n_ireturn (by decide +kernel)
    rw [if_neg hc26] at hr
    by_cases hc29 : x1 = 8
    · rw [if_pos hc29] at hr
      refine n_tabIn (dflt := 93) (lw := 0) (hi := 8) (offs := #[52, 52, 59, 68, 68, 68, 68, 79, 88]) (len := 52) (off := 88) (tgt := 120) (by decide +kernel) (by rw [hc29]; decide) (by rw [hc29]; decide) (by rw [hc29]; decide) (by decide) ?_
      refine n_aload_n (n := 0) (by decide +kernel) rfl ?_
      refine n_getI G fl_RX10_178 hp0 (by decide +kernel) (by decide +kernel) ?_
      cases hr
      exact n_ireturn (by decide +kernel)
    rw [if_neg hc29] at hr
    have e5 := ne_toInt hc5 (n := 0) rfl
    have e8 := ne_toInt hc8 (n := 1) rfl
    have e11 := ne_toInt hc11 (n := 2) rfl
    have e14 := ne_toInt hc14 (n := 3) rfl
    have e17 := ne_toInt hc17 (n := 4) rfl
    have e20 := ne_toInt hc20 (n := 5) rfl
    have e23 := ne_toInt hc23 (n := 6) rfl
    have e26 := ne_toInt hc26 (n := 7) rfl
    have e29 := ne_toInt hc29 (n := 8) rfl
    refine n_tabOut (dflt := 93) (lw := 0) (hi := 8) (offs := #[52, 52, 59, 68, 68, 68, 68, 79, 88]) (len := 52) (tgt := 125) (by decide +kernel) (by omega) (by decide) ?_
    refine n_aload_n (n := 0) (by decide +kernel) rfl ?_
    refine n_getI G fl_RX10_184 hp0 (by decide +kernel) (by decide +kernel) ?_
    cases hr
    exact n_ireturn (by decide +kernel)
  · rw [if_neg hc4] at hr
    refine n_iconst (n := 0) (v := 0) (by decide +kernel) rfl ?_
    cases hr
    exact n_ireturn (by decide +kernel)
set_option maxRecDepth 100000 in
theorem B_X10_isStone (G : GG l s0 b L xs D cy ad)  {x1 : Int32} {M : Mm} {r : Int32} (hp0 : P 76) (hr : f_X10_isStone x1 M = some r) : Cl l s0 D cy ad P 10 KX10_isStone [.ref 76, .int x1] M (.inl (some (.int r))) (M) := by
  unfold f_X10_isStone at hr
  obtain ⟨v0, h0, h1⟩ := bso hr
  clear hr
  obtain ⟨hb, rfl⟩ := rB_in h1
  have hr := h0
  clear h0
  refine cl_ofN (by decide +kernel) rfl rfl (okB hb) (lo0 := [_, _]) rfl ?_
  unfold g_X10_isStone at hr
  refine n_iload_n (n := 1) (by decide +kernel) rfl ?_
  refine n_iconst (n := 0) (v := 0) (by decide +kernel) rfl ?_
  refine n_aload_n (n := 0) (by decide +kernel) rfl ?_
  refine n_getF (q := 196) G fl_RX10_61 hp0 (by decide +kernel) (by decide +kernel) (by decide +kernel) (fun hp1q => ?_)
  refine n_sipush (n := 360) (v := 360) (by decide +kernel) (by decide +kernel) ?_
  obtain ⟨v2, h2, hr⟩ := bso hr
  refine n_iald G h2 hp1q (by decide +kernel) (by decide +kernel) (by decide +kernel) ?_
  refine n_iconst (n := 1) (v := 1) (by decide +kernel) rfl ?_
  refine n_isub (by decide +kernel) ?_
  obtain ⟨v3, h3, hr⟩ := bso hr
  refine n_callSi G [_, _, _] (x := v3) (B_X10_in G  h3) (by decide) mX10_in ml_RX10_122 rfl rfl (Nat.le_of_ble_eq_true rfl) (by decide +kernel) ?_
  cases hr
  exact n_ireturn (by decide +kernel)
set_option maxRecDepth 100000 in
theorem B_X10_stone (G : GG l s0 b L xs D cy ad)  {x1 : Int32} {x2 : Int32} {M : Mm} {r : (Int32 × Mm)} (hp0 : P 76) (hr : f_X10_stone x1 x2 M = some r) : Cl l s0 D cy ad P 11 KX10_stone [.ref 76, .int x1, .int x2] M (.inl (some (.int r.1))) (r.2) := by
  refine cl_ofN (by decide +kernel) rfl rfl okI (lo0 := [_, _, _]) rfl ?_
  unfold f_X10_stone at hr
  refine n_aload_n (n := 0) (by decide +kernel) rfl ?_
  refine n_iconst (n := 0) (v := 0) (by decide +kernel) rfl ?_
  refine n_putI G fl_RX10_88 hp0 (by decide +kernel) (by decide +kernel) ?_
  refine n_aload_n (n := 0) (by decide +kernel) rfl ?_
  refine n_aload_n (n := 0) (by decide +kernel) rfl ?_
  refine n_iload_n (n := 1) (by decide +kernel) rfl ?_
  obtain ⟨v1, h1, hr⟩ := bso hr
  refine n_callVi G [_] (x := v1) (B_X10_isStone G hp0 h1) (by decide) mX10_isStone ml_RX10_325 hp0 (by decide +kernel) rfl rfl (Nat.le_of_ble_eq_true rfl) (by decide +kernel) ?_
  refine n_dia1 (J := 19) (c := v1 = 0) (a := (1 : Int32)) (b := (0 : Int32)) (fun hJ => ?_) ?_
  · refine n_if_ne (off := 7) (tgt := 18) (by decide +kernel) (by decide) (fun hc2 => ?_) (fun hc2 => ?_)
    · refine n_iconst (n := 0) (v := 0) (by decide +kernel) rfl ?_
      exact hJ _ (if_neg hc2).symm
    · refine n_iconst (n := 1) (v := 1) (by decide +kernel) rfl ?_
      refine n_goto (off := 4) (tgt := 19) (by decide +kernel) (by decide) ?_
      exact hJ _ (if_pos hc2).symm
  refine n_iconst (n := 1) (v := 1) (by decide +kernel) rfl ?_
  refine n_iconst (n := 1) (v := 1) (by decide +kernel) rfl ?_
  obtain ⟨⟨v3, M3⟩, h3, hr⟩ := bso hr
  try dsimp only at hr
  refine n_callVi G [_, _, _] (x := v3) (M1 := M3) (B_X10_bad G hp0 h3) (by decide) mX10_bad ml_RX10_161 hp0 (by decide +kernel) rfl rfl (Nat.le_of_ble_eq_true rfl) (by decide +kernel) ?_
  refine n_if_ne (off := 26) (tgt := 50) (by decide +kernel) (by decide) (fun hc4 => ?_) (fun hc4 => ?_)
  · rw [if_neg hc4] at hr
    refine n_iconst (n := 0) (v := 0) (by decide +kernel) rfl ?_
    cases hr
    exact n_ireturn (by decide +kernel)
  · rw [if_pos hc4] at hr
    refine n_aload_n (n := 0) (by decide +kernel) rfl ?_
    refine n_iload_n (n := 2) (by decide +kernel) rfl ?_
    refine n_iconst (n := 0) (v := 0) (by decide +kernel) rfl ?_
    refine n_iconst (n := 4) (v := 4) (by decide +kernel) rfl ?_
    obtain ⟨v5, h5, hr⟩ := bso hr
    refine n_callSi G [_, _, _] (x := v5) (B_X10_in G  h5) (by decide) mX10_in ml_RX10_122 rfl rfl (Nat.le_of_ble_eq_true rfl) (by decide +kernel) ?_
    refine n_dia1 (J := 42) (c := v5 = 0) (a := (1 : Int32)) (b := (0 : Int32)) (fun hJ => ?_) ?_
    · refine n_if_ne (off := 7) (tgt := 41) (by decide +kernel) (by decide) (fun hc6 => ?_) (fun hc6 => ?_)
      · refine n_iconst (n := 0) (v := 0) (by decide +kernel) rfl ?_
        exact hJ _ (if_neg hc6).symm
      · refine n_iconst (n := 1) (v := 1) (by decide +kernel) rfl ?_
        refine n_goto (off := 4) (tgt := 42) (by decide +kernel) (by decide) ?_
        exact hJ _ (if_pos hc6).symm
    refine n_iconst (n := 2) (v := 2) (by decide +kernel) rfl ?_
    refine n_iconst (n := 2) (v := 2) (by decide +kernel) rfl ?_
    obtain ⟨⟨v7, M7⟩, h7, hr⟩ := bso hr
    try dsimp only at hr
    refine n_callVi G [_, _, _] (x := v7) (M1 := M7) (B_X10_bad G hp0 h7) (by decide) mX10_bad ml_RX10_161 hp0 (by decide +kernel) rfl rfl (Nat.le_of_ble_eq_true rfl) (by decide +kernel) ?_
    refine n_if_eq (off := 5) (tgt := 52) (by decide +kernel) (by decide) (fun hc8 => ?_) (fun hc8 => ?_)
    · rw [if_pos hc8] at hr
      refine n_aload_n (n := 0) (by decide +kernel) rfl ?_
      refine n_getF (q := 196) G fl_RX10_61 hp0 (by decide +kernel) (by decide +kernel) (by decide +kernel) (fun hp9q => ?_)
      refine n_iload_n (n := 1) (by decide +kernel) rfl ?_
      refine n_iload_n (n := 2) (by decide +kernel) rfl ?_
      obtain ⟨v10, h10, hr⟩ := bso hr
      refine n_callSi G [_, _, _] (x := v10) (B_X10_of G hp9q (by decide +kernel) h10) (by decide) mX10_of ml_RX10_222 rfl rfl (Nat.le_of_ble_eq_true rfl) (by decide +kernel) ?_
      cases hr
      exact n_ireturn (by decide +kernel)
    · rw [if_neg hc8] at hr
      refine n_iconst (n := 0) (v := 0) (by decide +kernel) rfl ?_
      cases hr
      exact n_ireturn (by decide +kernel)
abbrev P_X10_sizesIn_b4 (l : Launch) (s0 : State) (D : va_G) (cy : Nat → ClassId) (ad : Nat → Nat) (P : Nat → Prop) (a0 : Nat) (x1 : Int32) (M : Mm) (res : Rs) (M' : Mm) (s : (Int32 × Int32)) : Prop := Rn l s0 D cy ad P 11 KX10_sizesIn 4 [.ref a0, .int x1, .int (s.1), .int (s.2)] [] M res M'
abbrev Q_X10_sizesIn_b4 (l : Launch) (s0 : State) (D : va_G) (cy : Nat → ClassId) (ad : Nat → Nat) (P : Nat → Prop) (a0 : Nat) (x1 : Int32) (M : Mm) (res : Rs) (M' : Mm) (e : Int32) : Prop := Rn l s0 D cy ad P 11 KX10_sizesIn 49 [.null, .null, .int (e), .null] [] M res M'
set_option maxRecDepth 100000 in
theorem B_X10_sizesIn_j40 (G : GG l s0 b L xs D cy ad) {a0 : Nat} {x1 : Int32} {x3 : Int32} {xs0 : Int32} {M : Mm}  {res : Rs} {M' : Mm} {r : ((Int32 × Int32) ⊕ Int32)} (hp0 : P a0) (hs0 : SH a0 = 12) (hr : f_X10_sizesIn_j40 a0 x1 x3 xs0 M = some r) (hk : mtc (P_X10_sizesIn_b4 l s0 D cy ad P a0 x1 M res M') (Q_X10_sizesIn_b4 l s0 D cy ad P a0 x1 M res M') r) : Rn l s0 D cy ad P 11 KX10_sizesIn 40 [.ref a0, .int x1, .null, .int x3] [.int xs0] M res M' := by
  unfold f_X10_sizesIn_j40 at hr
  refine n_iconst (n := 0) (v := 0) (by decide +kernel) rfl ?_
  refine n_iadd (by decide +kernel) ?_
  refine n_istore_n (n := 2) (lo2 := [_, _, _, _]) (by decide +kernel) (Nat.le_of_ble_eq_true rfl) rfl ?_
  refine n_iincK (n := 3) (j := 1) (w := 1) (lo2 := [_, _, _, _]) (by decide +kernel) rfl rfl rfl ?_
  refine n_goto (off := -42) (tgt := 4) (by decide +kernel) (by decide) ?_
  cases hr
  exact hk
set_option maxRecDepth 100000 in
theorem B_X10_sizesIn_b4 (G : GG l s0 b L xs D cy ad) {a0 : Nat} {x1 : Int32} {M : Mm} {res : Rs} {M' : Mm} (hp0 : P a0) (hs0 : SH a0 = 12) : ∀ (s : (Int32 × Int32)) (r : (Int32 × Int32) ⊕ Int32), f_X10_sizesIn_b4 a0 x1 M s = some r → mtc (P_X10_sizesIn_b4 l s0 D cy ad P a0 x1 M res M') (Q_X10_sizesIn_b4 l s0 D cy ad P a0 x1 M res M') r → P_X10_sizesIn_b4 l s0 D cy ad P a0 x1 M res M' s := by
  intro s r hr hk
  obtain ⟨x2, x3⟩ := s
  unfold f_X10_sizesIn_b4 at hr
  try dsimp only at hr
  dsimp only [P_X10_sizesIn_b4]
  refine n_iload_n (n := 3) (by decide +kernel) rfl ?_
  refine n_aload_n (n := 0) (by decide +kernel) rfl ?_
  refine n_sipush (n := 360) (v := 360) (by decide +kernel) (by decide +kernel) ?_
  obtain ⟨v1, h1, hr⟩ := bso hr
  refine n_iald G h1 hp0 hs0 rfl (by decide +kernel) ?_
  refine n_icmp_ge (off := 39) (tgt := 49) (by decide +kernel) (by decide) (fun hc2 => ?_) (fun hc2 => ?_)
  · rw [if_pos hc2] at hr
    cases hr
    refine n_msk [false, false, true, false] (lo2 := [.null, .null, _, .null]) rfl rfl ?_
    exact hk
  · rw [if_neg hc2] at hr
    refine n_iload_n (n := 2) (by decide +kernel) rfl ?_
    refine n_aload_n (n := 0) (by decide +kernel) rfl ?_
    refine n_iload_n (n := 3) (by decide +kernel) rfl ?_
    obtain ⟨v3, h3, hr⟩ := bso hr
    refine n_callSi G [_, _] (x := v3) (B_X10_isLying G hp0 hs0 h3) (by decide) mX10_isLying ml_RX10_226 rfl rfl (Nat.le_of_ble_eq_true rfl) (by decide +kernel) ?_
    refine n_if_eq (off := 21) (tgt := 40) (by decide +kernel) (by decide) (fun hc4 => ?_) (fun hc4 => ?_)
    · rw [if_pos hc4] at hr
      refine n_msk [true, true, false, true] (lo2 := [_, _, .null, _]) rfl rfl ?_
      exact B_X10_sizesIn_j40 G hp0 hs0 hr hk
    · rw [if_neg hc4] at hr
      refine n_aload_n (n := 0) (by decide +kernel) rfl ?_
      refine n_iload_n (n := 3) (by decide +kernel) rfl ?_
      obtain ⟨v5, h5, hr⟩ := bso hr
      refine n_callSi G [_, _] (x := v5) (B_X10_cellOf G hp0 hs0 h5) (by decide) mX10_cellOf ml_RX10_230 rfl rfl (Nat.le_of_ble_eq_true rfl) (by decide +kernel) ?_
      refine n_iload_n (n := 1) (by decide +kernel) rfl ?_
      refine n_icmp_ne (off := 12) (tgt := 40) (by decide +kernel) (by decide) (fun hc6 => ?_) (fun hc6 => ?_)
      · rw [if_neg hc6] at hr
        refine n_msk [true, true, false, true] (lo2 := [_, _, .null, _]) rfl rfl ?_
        exact B_X10_sizesIn_j40 G hp0 hs0 hr hk
      · rw [if_pos hc6] at hr
        refine n_aload_n (n := 0) (by decide +kernel) rfl ?_
        refine n_iload_n (n := 3) (by decide +kernel) rfl ?_
        refine n_iconst (n := 2) (v := 2) (by decide +kernel) rfl ?_
        obtain ⟨v7, h7, hr⟩ := bso hr
        refine n_callSi G [_, _, _] (x := v7) (B_X10_of G hp0 hs0 h7) (by decide) mX10_of ml_RX10_222 rfl rfl (Nat.le_of_ble_eq_true rfl) (by decide +kernel) ?_
        refine n_goto (off := 4) (tgt := 41) (by decide +kernel) (by decide) ?_
        refine n_iadd (by decide +kernel) ?_
        refine n_istore_n (n := 2) (lo2 := [_, _, _, _]) (by decide +kernel) (Nat.le_of_ble_eq_true rfl) rfl ?_
        refine n_iincK (n := 3) (j := 1) (w := 1) (lo2 := [_, _, _, _]) (by decide +kernel) rfl rfl rfl ?_
        refine n_goto (off := -42) (tgt := 4) (by decide +kernel) (by decide) ?_
        cases hr
        exact hk
set_option maxRecDepth 100000 in
theorem W_X10_sizesIn_b4 (G : GG l s0 b L xs D cy ad) {a0 : Nat} {x1 : Int32} {M : Mm} (hp0 : P a0) (hs0 : SH a0 = 12) {s : (Int32 × Int32)} {e : Int32} (h : whl fu (f_X10_sizesIn_b4 a0 x1 M) s = some e) (res : Rs) (M' : Mm) : Q_X10_sizesIn_b4 l s0 D cy ad P a0 x1 M res M' e → P_X10_sizesIn_b4 l s0 D cy ad P a0 x1 M res M' s := whl_run (P := fun s => P_X10_sizesIn_b4 l s0 D cy ad P a0 x1 M res M' s) (Q := fun e => Q_X10_sizesIn_b4 l s0 D cy ad P a0 x1 M res M' e) (B_X10_sizesIn_b4 G (res := res) (M' := M') (a0 := a0) (x1 := x1) (M := M) hp0 hs0) fu s h
set_option maxRecDepth 100000 in
theorem B_X10_sizesIn (G : GG l s0 b L xs D cy ad)  {a0 : Nat} {x1 : Int32} {M : Mm} {r : Int32} (hp0 : P a0) (hs0 : SH a0 = 12) (hr : f_X10_sizesIn a0 x1 M = some r) : Cl l s0 D cy ad P 11 KX10_sizesIn [.ref a0, .int x1] M (.inl (some (.int r))) (M) := by
  refine cl_ofN (by decide +kernel) rfl rfl okI (lo0 := [_, _, .null, .null]) rfl ?_
  unfold f_X10_sizesIn at hr
  refine n_iconst (n := 0) (v := 0) (by decide +kernel) rfl ?_
  refine n_istore_n (n := 2) (lo2 := [_, _, _, _]) (by decide +kernel) (Nat.le_of_ble_eq_true rfl) rfl ?_
  refine n_iconst (n := 0) (v := 0) (by decide +kernel) rfl ?_
  refine n_istore_n (n := 3) (lo2 := [_, _, _, _]) (by decide +kernel) (Nat.le_of_ble_eq_true rfl) rfl ?_
  obtain ⟨z2_8, h8, hr⟩ := bso hr
  refine (W_X10_sizesIn_b4 G hp0 hs0 h8 _ _) ?_
  dsimp only [Q_X10_sizesIn_b4]
  refine n_iload_n (n := 2) (by decide +kernel) rfl ?_
  cases hr
  exact n_ireturn (by decide +kernel)
abbrev P_X10_cell_b67 (l : Launch) (s0 : State) (D : va_G) (cy : Nat → ClassId) (ad : Nat → Nat) (P : Nat → Prop) (x3 : Int32) (x4 : Int32) (M : Mm) (res : Rs) (M' : Mm) (s : (Int32 × Int32)) : Prop := Rn l s0 D cy ad P 12 KX10_cell 67 [.ref 76, .null, .null, .int x3, .int x4, .int (s.1), .int (s.2)] [] M res M'
abbrev Q_X10_cell_b67 (l : Launch) (s0 : State) (D : va_G) (cy : Nat → ClassId) (ad : Nat → Nat) (P : Nat → Prop) (x3 : Int32) (x4 : Int32) (M : Mm) (res : Rs) (M' : Mm) (e : Int32) : Prop := Rn l s0 D cy ad P 12 KX10_cell 125 [.ref 76, .null, .null, .int x3, .int x4, .int (e), .null] [] M res M'
set_option maxRecDepth 100000 in
theorem B_X10_cell_j115 (G : GG l s0 b L xs D cy ad) {x3 : Int32} {x4 : Int32} {x6 : Int32} {xs0 : Int32} {M : Mm}  {res : Rs} {M' : Mm} {r : ((Int32 × Int32) ⊕ Int32)} (hp0 : P 76) (hr : f_X10_cell_j115 x3 x4 x6 xs0 M = some r) (hk : mtc (P_X10_cell_b67 l s0 D cy ad P x3 x4 M res M') (Q_X10_cell_b67 l s0 D cy ad P x3 x4 M res M') r) : Rn l s0 D cy ad P 12 KX10_cell 115 [.ref 76, .null, .null, .int x3, .int x4, .null, .int x6] [.int xs0] M res M' := by
  unfold f_X10_cell_j115 at hr
  refine n_iconst (n := 0) (v := 0) (by decide +kernel) rfl ?_
  refine n_iadd (by decide +kernel) ?_
  refine n_istore (n := 5) (lo2 := [_, _, _, _, _, _, _]) (by decide +kernel) (Nat.le_of_ble_eq_true rfl) rfl ?_
  refine n_iincK (n := 6) (j := 1) (w := 1) (lo2 := [_, _, _, _, _, _, _]) (by decide +kernel) rfl rfl rfl ?_
  refine n_goto (off := -55) (tgt := 67) (by decide +kernel) (by decide) ?_
  cases hr
  exact hk
set_option maxRecDepth 100000 in
theorem B_X10_cell_b67 (G : GG l s0 b L xs D cy ad) {x3 : Int32} {x4 : Int32} {M : Mm} {res : Rs} {M' : Mm} (hp0 : P 76) : ∀ (s : (Int32 × Int32)) (r : (Int32 × Int32) ⊕ Int32), f_X10_cell_b67 x3 x4 M s = some r → mtc (P_X10_cell_b67 l s0 D cy ad P x3 x4 M res M') (Q_X10_cell_b67 l s0 D cy ad P x3 x4 M res M') r → P_X10_cell_b67 l s0 D cy ad P x3 x4 M res M' s := by
  intro s r hr hk
  obtain ⟨x5, x6⟩ := s
  unfold f_X10_cell_b67 at hr
  try dsimp only at hr
  dsimp only [P_X10_cell_b67]
  refine n_iload (n := 6) (by decide +kernel) rfl ?_
  refine n_aload_n (n := 0) (by decide +kernel) rfl ?_
  refine n_getF (q := 196) G fl_RX10_61 hp0 (by decide +kernel) (by decide +kernel) (by decide +kernel) (fun hp9q => ?_)
  refine n_sipush (n := 360) (v := 360) (by decide +kernel) (by decide +kernel) ?_
  obtain ⟨v10, h10, hr⟩ := bso hr
  refine n_iald G h10 hp9q (by decide +kernel) (by decide +kernel) (by decide +kernel) ?_
  refine n_icmp_ge (off := 48) (tgt := 125) (by decide +kernel) (by decide) (fun hc11 => ?_) (fun hc11 => ?_)
  · rw [if_pos hc11] at hr
    cases hr
    refine n_msk [true, false, false, true, true, true, false] (lo2 := [_, .null, .null, _, _, _, .null]) rfl rfl ?_
    exact hk
  · rw [if_neg hc11] at hr
    refine n_iload (n := 5) (by decide +kernel) rfl ?_
    refine n_aload_n (n := 0) (by decide +kernel) rfl ?_
    refine n_getF (q := 196) G fl_RX10_61 hp0 (by decide +kernel) (by decide +kernel) (by decide +kernel) (fun hp12q => ?_)
    refine n_iload (n := 6) (by decide +kernel) rfl ?_
    refine n_iconst (n := 4) (v := 4) (by decide +kernel) rfl ?_
    obtain ⟨v13, h13, hr⟩ := bso hr
    refine n_callSi G [_, _, _] (x := v13) (B_X10_of G hp12q (by decide +kernel) h13) (by decide) mX10_of ml_RX10_222 rfl rfl (Nat.le_of_ble_eq_true rfl) (by decide +kernel) ?_
    refine n_iconst (n := 3) (v := 3) (by decide +kernel) rfl ?_
    refine n_icmp_ne (off := 22) (tgt := 115) (by decide +kernel) (by decide) (fun hc14 => ?_) (fun hc14 => ?_)
    · rw [if_neg hc14] at hr
      refine n_msk [true, false, false, true, true, false, true] (lo2 := [_, .null, .null, _, _, .null, _]) rfl rfl ?_
      exact B_X10_cell_j115 G hp0 hr hk
    · rw [if_pos hc14] at hr
      refine n_aload_n (n := 0) (by decide +kernel) rfl ?_
      refine n_getF (q := 196) G fl_RX10_61 hp0 (by decide +kernel) (by decide +kernel) (by decide +kernel) (fun hp15q => ?_)
      refine n_iload (n := 6) (by decide +kernel) rfl ?_
      refine n_iconst (n := 5) (v := 5) (by decide +kernel) rfl ?_
      obtain ⟨v16, h16, hr⟩ := bso hr
      refine n_callSi G [_, _, _] (x := v16) (B_X10_of G hp15q (by decide +kernel) h16) (by decide) mX10_of ml_RX10_222 rfl rfl (Nat.le_of_ble_eq_true rfl) (by decide +kernel) ?_
      refine n_iload (n := 4) (by decide +kernel) rfl ?_
      refine n_icmp_ne (off := 7) (tgt := 115) (by decide +kernel) (by decide) (fun hc17 => ?_) (fun hc17 => ?_)
      · rw [if_neg hc17] at hr
        refine n_msk [true, false, false, true, true, false, true] (lo2 := [_, .null, .null, _, _, .null, _]) rfl rfl ?_
        exact B_X10_cell_j115 G hp0 hr hk
      · rw [if_pos hc17] at hr
        refine n_iconst (n := 1) (v := 1) (by decide +kernel) rfl ?_
        refine n_goto (off := 4) (tgt := 116) (by decide +kernel) (by decide) ?_
        refine n_iadd (by decide +kernel) ?_
        refine n_istore (n := 5) (lo2 := [_, _, _, _, _, _, _]) (by decide +kernel) (Nat.le_of_ble_eq_true rfl) rfl ?_
        refine n_iincK (n := 6) (j := 1) (w := 1) (lo2 := [_, _, _, _, _, _, _]) (by decide +kernel) rfl rfl rfl ?_
        refine n_goto (off := -55) (tgt := 67) (by decide +kernel) (by decide) ?_
        cases hr
        exact hk
set_option maxRecDepth 100000 in
theorem W_X10_cell_b67 (G : GG l s0 b L xs D cy ad) {x3 : Int32} {x4 : Int32} {M : Mm} (hp0 : P 76) {s : (Int32 × Int32)} {e : Int32} (h : whl fu (f_X10_cell_b67 x3 x4 M) s = some e) (res : Rs) (M' : Mm) : Q_X10_cell_b67 l s0 D cy ad P x3 x4 M res M' e → P_X10_cell_b67 l s0 D cy ad P x3 x4 M res M' s := whl_run (P := fun s => P_X10_cell_b67 l s0 D cy ad P x3 x4 M res M' s) (Q := fun e => Q_X10_cell_b67 l s0 D cy ad P x3 x4 M res M' e) (B_X10_cell_b67 G (res := res) (M' := M') (x3 := x3) (x4 := x4) (M := M) hp0) fu s h
set_option maxRecDepth 100000 in
theorem B_X10_cell (G : GG l s0 b L xs D cy ad)  {x1 : Int32} {x2 : Int32} {x3 : Int32} {M : Mm} {r : (Int32 × Mm)} (hp0 : P 76) (hr : f_X10_cell x1 x2 x3 M = some r) : Cl l s0 D cy ad P 12 KX10_cell [.ref 76, .int x1, .int x2, .int x3] M (.inl (some (.int r.1))) (r.2) := by
  refine cl_ofN (by decide +kernel) rfl rfl okI (lo0 := [_, _, _, _, .null, .null, .null]) rfl ?_
  unfold f_X10_cell at hr
  refine n_aload_n (n := 0) (by decide +kernel) rfl ?_
  refine n_iconst (n := 0) (v := 0) (by decide +kernel) rfl ?_
  refine n_putI G fl_RX10_88 hp0 (by decide +kernel) (by decide +kernel) ?_
  refine n_aload_n (n := 0) (by decide +kernel) rfl ?_
  refine n_aload_n (n := 0) (by decide +kernel) rfl ?_
  refine n_iload_n (n := 1) (by decide +kernel) rfl ?_
  refine n_iload_n (n := 2) (by decide +kernel) rfl ?_
  obtain ⟨v1, h1, hr⟩ := bso hr
  refine n_callVi G [_, _] (x := v1) (B_X10_isCell G hp0 h1) (by decide) mX10_isCell ml_RX10_292 hp0 (by decide +kernel) rfl rfl (Nat.le_of_ble_eq_true rfl) (by decide +kernel) ?_
  refine n_dia1 (J := 20) (c := v1 = 0) (a := (1 : Int32)) (b := (0 : Int32)) (fun hJ => ?_) ?_
  · refine n_if_ne (off := 7) (tgt := 19) (by decide +kernel) (by decide) (fun hc2 => ?_) (fun hc2 => ?_)
    · refine n_iconst (n := 0) (v := 0) (by decide +kernel) rfl ?_
      exact hJ _ (if_neg hc2).symm
    · refine n_iconst (n := 1) (v := 1) (by decide +kernel) rfl ?_
      refine n_goto (off := 4) (tgt := 20) (by decide +kernel) (by decide) ?_
      exact hJ _ (if_pos hc2).symm
  refine n_iconst (n := 1) (v := 1) (by decide +kernel) rfl ?_
  refine n_iconst (n := 0) (v := 0) (by decide +kernel) rfl ?_
  obtain ⟨⟨v3, M3⟩, h3, hr⟩ := bso hr
  try dsimp only at hr
  refine n_callVi G [_, _, _] (x := v3) (M1 := M3) (B_X10_bad G hp0 h3) (by decide) mX10_bad ml_RX10_161 hp0 (by decide +kernel) rfl rfl (Nat.le_of_ble_eq_true rfl) (by decide +kernel) ?_
  refine n_if_ne (off := 26) (tgt := 51) (by decide +kernel) (by decide) (fun hc4 => ?_) (fun hc4 => ?_)
  · rw [if_neg hc4] at hr
    refine n_iconst (n := 0) (v := 0) (by decide +kernel) rfl ?_
    cases hr
    exact n_ireturn (by decide +kernel)
  · rw [if_pos hc4] at hr
    refine n_aload_n (n := 0) (by decide +kernel) rfl ?_
    refine n_iload_n (n := 3) (by decide +kernel) rfl ?_
    refine n_iconst (n := 0) (v := 0) (by decide +kernel) rfl ?_
    refine n_iconst (n := 4) (v := 4) (by decide +kernel) rfl ?_
    obtain ⟨v5, h5, hr⟩ := bso hr
    refine n_callSi G [_, _, _] (x := v5) (B_X10_in G  h5) (by decide) mX10_in ml_RX10_122 rfl rfl (Nat.le_of_ble_eq_true rfl) (by decide +kernel) ?_
    refine n_dia1 (J := 43) (c := v5 = 0) (a := (1 : Int32)) (b := (0 : Int32)) (fun hJ => ?_) ?_
    · refine n_if_ne (off := 7) (tgt := 42) (by decide +kernel) (by decide) (fun hc6 => ?_) (fun hc6 => ?_)
      · refine n_iconst (n := 0) (v := 0) (by decide +kernel) rfl ?_
        exact hJ _ (if_neg hc6).symm
      · refine n_iconst (n := 1) (v := 1) (by decide +kernel) rfl ?_
        refine n_goto (off := 4) (tgt := 43) (by decide +kernel) (by decide) ?_
        exact hJ _ (if_pos hc6).symm
    refine n_iconst (n := 2) (v := 2) (by decide +kernel) rfl ?_
    refine n_iconst (n := 2) (v := 2) (by decide +kernel) rfl ?_
    obtain ⟨⟨v7, M7⟩, h7, hr⟩ := bso hr
    try dsimp only at hr
    refine n_callVi G [_, _, _] (x := v7) (M1 := M7) (B_X10_bad G hp0 h7) (by decide) mX10_bad ml_RX10_161 hp0 (by decide +kernel) rfl rfl (Nat.le_of_ble_eq_true rfl) (by decide +kernel) ?_
    refine n_if_eq (off := 5) (tgt := 53) (by decide +kernel) (by decide) (fun hc8 => ?_) (fun hc8 => ?_)
    · rw [if_pos hc8] at hr
      refine n_bipush (n := 8) (v := 8) (by decide +kernel) rfl ?_
      refine n_iload_n (n := 2) (by decide +kernel) rfl ?_
      refine n_imul (by decide +kernel) ?_
      refine n_iload_n (n := 1) (by decide +kernel) rfl ?_
      refine n_iadd (by decide +kernel) ?_
      refine n_istore (n := 4) (lo2 := [_, _, _, _, _, _, _]) (by decide +kernel) (Nat.le_of_ble_eq_true rfl) rfl ?_
      refine n_iconst (n := 0) (v := 0) (by decide +kernel) rfl ?_
      refine n_istore (n := 5) (lo2 := [_, _, _, _, _, _, _]) (by decide +kernel) (Nat.le_of_ble_eq_true rfl) rfl ?_
      refine n_iconst (n := 0) (v := 0) (by decide +kernel) rfl ?_
      refine n_istore (n := 6) (lo2 := [_, _, _, _, _, _, _]) (by decide +kernel) (Nat.le_of_ble_eq_true rfl) rfl ?_
      obtain ⟨z5_18, h18, hr⟩ := bso hr
      refine n_msk [true, false, false, true, true, true, true] (lo2 := [_, .null, .null, _, _, _, _]) rfl rfl ?_
      refine (W_X10_cell_b67 G hp0 h18 _ _) ?_
      dsimp only [Q_X10_cell_b67]
      refine n_iload_n (n := 3) (by decide +kernel) rfl ?_
      refine n_if_ne (off := 13) (tgt := 139) (by decide +kernel) (by decide) (fun hc19 => ?_) (fun hc19 => ?_)
      · rw [if_neg hc19] at hr
        refine n_iload_n (n := 3) (by decide +kernel) rfl ?_
        refine n_iconst (n := 1) (v := 1) (by decide +kernel) rfl ?_
        refine n_icmp_ne (off := 15) (tgt := 156) (by decide +kernel) (by decide) (fun hc20 => ?_) (fun hc20 => ?_)
        · rw [if_neg hc20] at hr
          refine n_iload_n (n := 3) (by decide +kernel) rfl ?_
          refine n_iconst (n := 2) (v := 2) (by decide +kernel) rfl ?_
          refine n_icmp_ne (off := 15) (tgt := 173) (by decide +kernel) (by decide) (fun hc21 => ?_) (fun hc21 => ?_)
          · rw [if_neg hc21] at hr
            refine n_iload_n (n := 3) (by decide +kernel) rfl ?_
            refine n_iconst (n := 3) (v := 3) (by decide +kernel) rfl ?_
            refine n_icmp_ne (off := 17) (tgt := 192) (by decide +kernel) (by decide) (fun hc22 => ?_) (fun hc22 => ?_)
            · rw [if_neg hc22] at hr
              refine n_iload (n := 5) (by decide +kernel) rfl ?_
              cases hr
              exact n_ireturn (by decide +kernel)
            · rw [if_pos hc22] at hr
              refine n_aload_n (n := 0) (by decide +kernel) rfl ?_
              refine n_getF (q := 196) G fl_RX10_61 hp0 (by decide +kernel) (by decide +kernel) (by decide +kernel) (fun hp23q => ?_)
              refine n_sipush (n := 367) (v := 367) (by decide +kernel) (by decide +kernel) ?_
              refine n_iload (n := 4) (by decide +kernel) rfl ?_
              refine n_iadd (by decide +kernel) ?_
              obtain ⟨v24, h24, hr⟩ := bso hr
              refine n_iald G h24 hp23q (by decide +kernel) (by decide +kernel) (by decide +kernel) ?_
              refine n_goto (off := 5) (tgt := 194) (by decide +kernel) (by decide) ?_
              cases hr
              exact n_ireturn (by decide +kernel)
          · rw [if_pos hc21] at hr
            refine n_aload_n (n := 0) (by decide +kernel) rfl ?_
            refine n_getF (q := 196) G fl_RX10_61 hp0 (by decide +kernel) (by decide +kernel) (by decide +kernel) (fun hp25q => ?_)
            refine n_iload (n := 4) (by decide +kernel) rfl ?_
            obtain ⟨v26, h26, hr⟩ := bso hr
            refine n_callSi G [_, _] (x := v26) (B_X10_sizesIn G hp25q (by decide +kernel) h26) (by decide) mX10_sizesIn ml_RX10_328 rfl rfl (Nat.le_of_ble_eq_true rfl) (by decide +kernel) ?_
            refine n_goto (off := 24) (tgt := 194) (by decide +kernel) (by decide) ?_
            cases hr
            exact n_ireturn (by decide +kernel)
        · rw [if_pos hc20] at hr
          refine n_aload_n (n := 0) (by decide +kernel) rfl ?_
          refine n_getF (q := 196) G fl_RX10_61 hp0 (by decide +kernel) (by decide +kernel) (by decide +kernel) (fun hp27q => ?_)
          refine n_iload (n := 4) (by decide +kernel) rfl ?_
          obtain ⟨v28, h28, hr⟩ := bso hr
          refine n_callSi G [_, _] (x := v28) (B_X10_lyingIn G hp27q (by decide +kernel) h28) (by decide) mX10_lyingIn ml_RX10_234 rfl rfl (Nat.le_of_ble_eq_true rfl) (by decide +kernel) ?_
          refine n_goto (off := 41) (tgt := 194) (by decide +kernel) (by decide) ?_
          cases hr
          exact n_ireturn (by decide +kernel)
      · rw [if_pos hc19] at hr
        refine n_aload_n (n := 0) (by decide +kernel) rfl ?_
        refine n_getF (q := 82) G fl_RX10_29 hp0 (by decide +kernel) (by decide +kernel) (by decide +kernel) (fun hp29q => ?_)
        refine n_iload (n := 4) (by decide +kernel) rfl ?_
        obtain ⟨v30, h30, hr⟩ := bso hr
        refine n_iald G h30 hp29q (by decide +kernel) (by decide +kernel) (by decide +kernel) ?_
        refine n_goto (off := 58) (tgt := 194) (by decide +kernel) (by decide) ?_
        cases hr
        exact n_ireturn (by decide +kernel)
    · rw [if_neg hc8] at hr
      refine n_iconst (n := 0) (v := 0) (by decide +kernel) rfl ?_
      cases hr
      exact n_ireturn (by decide +kernel)
set_option maxRecDepth 100000 in
theorem B_X10_sledge (G : GG l s0 b L xs D cy ad)  {x1 : Int32} {M : Mm} {r : (Int32 × Mm)} (hp0 : P 76) (hr : f_X10_sledge x1 M = some r) : Cl l s0 D cy ad P 11 KX10_sledge [.ref 76, .int x1] M (.inl (some (.int r.1))) (r.2) := by
  refine cl_ofN (by decide +kernel) rfl rfl okI (lo0 := [_, _]) rfl ?_
  unfold f_X10_sledge at hr
  refine n_aload_n (n := 0) (by decide +kernel) rfl ?_
  refine n_iconst (n := 0) (v := 0) (by decide +kernel) rfl ?_
  refine n_putI G fl_RX10_88 hp0 (by decide +kernel) (by decide +kernel) ?_
  refine n_aload_n (n := 0) (by decide +kernel) rfl ?_
  refine n_iload_n (n := 1) (by decide +kernel) rfl ?_
  refine n_iconst (n := 0) (v := 0) (by decide +kernel) rfl ?_
  refine n_iconst (n := 2) (v := 2) (by decide +kernel) rfl ?_
  obtain ⟨v1, h1, hr⟩ := bso hr
  refine n_callSi G [_, _, _] (x := v1) (B_X10_in G  h1) (by decide) mX10_in ml_RX10_122 rfl rfl (Nat.le_of_ble_eq_true rfl) (by decide +kernel) ?_
  refine n_dia1 (J := 20) (c := v1 = 0) (a := (1 : Int32)) (b := (0 : Int32)) (fun hJ => ?_) ?_
  · refine n_if_ne (off := 7) (tgt := 19) (by decide +kernel) (by decide) (fun hc2 => ?_) (fun hc2 => ?_)
    · refine n_iconst (n := 0) (v := 0) (by decide +kernel) rfl ?_
      exact hJ _ (if_neg hc2).symm
    · refine n_iconst (n := 1) (v := 1) (by decide +kernel) rfl ?_
      refine n_goto (off := 4) (tgt := 20) (by decide +kernel) (by decide) ?_
      exact hJ _ (if_pos hc2).symm
  refine n_iconst (n := 1) (v := 1) (by decide +kernel) rfl ?_
  refine n_iconst (n := 2) (v := 2) (by decide +kernel) rfl ?_
  obtain ⟨⟨v3, M3⟩, h3, hr⟩ := bso hr
  try dsimp only at hr
  refine n_callVi G [_, _, _] (x := v3) (M1 := M3) (B_X10_bad G hp0 h3) (by decide) mX10_bad ml_RX10_161 hp0 (by decide +kernel) rfl rfl (Nat.le_of_ble_eq_true rfl) (by decide +kernel) ?_
  refine n_if_eq (off := 5) (tgt := 30) (by decide +kernel) (by decide) (fun hc4 => ?_) (fun hc4 => ?_)
  · rw [if_pos hc4] at hr
    refine n_iload_n (n := 1) (by decide +kernel) rfl ?_
    refine n_iconst (n := 2) (v := 2) (by decide +kernel) rfl ?_
    refine n_icmp_ge (off := 16) (tgt := 48) (by decide +kernel) (by decide) (fun hc5 => ?_) (fun hc5 => ?_)
    · rw [if_pos hc5] at hr
      refine n_aload_n (n := 0) (by decide +kernel) rfl ?_
      refine n_getF (q := 196) G fl_RX10_61 hp0 (by decide +kernel) (by decide +kernel) (by decide +kernel) (fun hp6q => ?_)
      obtain ⟨v7, h7, hr⟩ := bso hr
      refine n_callSi G [_] (x := v7) (B_X10_onSledge G hp6q (by decide +kernel) h7) (by decide) mX10_onSledge ml_RX10_263 rfl rfl (Nat.le_of_ble_eq_true rfl) (by decide +kernel) ?_
      cases hr
      exact n_ireturn (by decide +kernel)
    · rw [if_neg hc5] at hr
      refine n_aload_n (n := 0) (by decide +kernel) rfl ?_
      refine n_getF (q := 196) G fl_RX10_61 hp0 (by decide +kernel) (by decide +kernel) (by decide +kernel) (fun hp8q => ?_)
      refine n_sipush (n := 361) (v := 361) (by decide +kernel) (by decide +kernel) ?_
      refine n_iload_n (n := 1) (by decide +kernel) rfl ?_
      refine n_iadd (by decide +kernel) ?_
      obtain ⟨v9, h9, hr⟩ := bso hr
      refine n_iald G h9 hp8q (by decide +kernel) (by decide +kernel) (by decide +kernel) ?_
      refine n_goto (off := 10) (tgt := 55) (by decide +kernel) (by decide) ?_
      cases hr
      exact n_ireturn (by decide +kernel)
  · rw [if_neg hc4] at hr
    refine n_iconst (n := 0) (v := 0) (by decide +kernel) rfl ?_
    cases hr
    exact n_ireturn (by decide +kernel)
abbrev P_X10_sums_b50 (l : Launch) (s0 : State) (D : va_G) (cy : Nat → ClassId) (ad : Nat → Nat) (P : Nat → Prop)  (M : Mm) (res : Rs) (M' : Mm) (s : (Int32 × Int32)) : Prop := Rn l s0 D cy ad P 10 KX10_sums 50 [.ref 76, .null, .int (s.1), .int (s.2)] [] M res M'
abbrev Q_X10_sums_b50 (l : Launch) (s0 : State) (D : va_G) (cy : Nat → ClassId) (ad : Nat → Nat) (P : Nat → Prop)  (M : Mm) (res : Rs) (M' : Mm) (e : Int32) : Prop := Rn l s0 D cy ad P 10 KX10_sums 97 [.null, .null, .int (e), .null] [] M res M'
set_option maxRecDepth 100000 in
theorem B_X10_sums_b50 (G : GG l s0 b L xs D cy ad)  {M : Mm} {res : Rs} {M' : Mm} (hp0 : P 76) : ∀ (s : (Int32 × Int32)) (r : (Int32 × Int32) ⊕ Int32), f_X10_sums_b50  M s = some r → mtc (P_X10_sums_b50 l s0 D cy ad P  M res M') (Q_X10_sums_b50 l s0 D cy ad P  M res M') r → P_X10_sums_b50 l s0 D cy ad P  M res M' s := by
  intro s r hr hk
  obtain ⟨x2, x3⟩ := s
  unfold f_X10_sums_b50 at hr
  try dsimp only at hr
  dsimp only [P_X10_sums_b50]
  refine n_iload_n (n := 3) (by decide +kernel) rfl ?_
  refine n_aload_n (n := 0) (by decide +kernel) rfl ?_
  refine n_getF (q := 196) G fl_RX10_61 hp0 (by decide +kernel) (by decide +kernel) (by decide +kernel) (fun hp6q => ?_)
  refine n_sipush (n := 360) (v := 360) (by decide +kernel) (by decide +kernel) ?_
  obtain ⟨v7, h7, hr⟩ := bso hr
  refine n_iald G h7 hp6q (by decide +kernel) (by decide +kernel) (by decide +kernel) ?_
  refine n_icmp_ge (off := 38) (tgt := 97) (by decide +kernel) (by decide) (fun hc8 => ?_) (fun hc8 => ?_)
  · rw [if_pos hc8] at hr
    cases hr
    refine n_msk [false, false, true, false] (lo2 := [.null, .null, _, .null]) rfl rfl ?_
    exact hk
  · rw [if_neg hc8] at hr
    refine n_iload_n (n := 2) (by decide +kernel) rfl ?_
    refine n_aload_n (n := 0) (by decide +kernel) rfl ?_
    refine n_getF (q := 196) G fl_RX10_61 hp0 (by decide +kernel) (by decide +kernel) (by decide +kernel) (fun hp9q => ?_)
    refine n_iload_n (n := 3) (by decide +kernel) rfl ?_
    refine n_iconst (n := 4) (v := 4) (by decide +kernel) rfl ?_
    obtain ⟨v10, h10, hr⟩ := bso hr
    refine n_callSi G [_, _, _] (x := v10) (B_X10_of G hp9q (by decide +kernel) h10) (by decide) mX10_of ml_RX10_222 rfl rfl (Nat.le_of_ble_eq_true rfl) (by decide +kernel) ?_
    refine n_iconst (n := 2) (v := 2) (by decide +kernel) rfl ?_
    refine n_icmp_ne (off := 15) (tgt := 88) (by decide +kernel) (by decide) (fun hc11 => ?_) (fun hc11 => ?_)
    · rw [if_neg hc11] at hr
      refine n_iconst (n := 0) (v := 0) (by decide +kernel) rfl ?_
      refine n_iadd (by decide +kernel) ?_
      refine n_istore_n (n := 2) (lo2 := [_, _, _, _]) (by decide +kernel) (Nat.le_of_ble_eq_true rfl) rfl ?_
      refine n_iincK (n := 3) (j := 1) (w := 1) (lo2 := [_, _, _, _]) (by decide +kernel) rfl rfl rfl ?_
      refine n_goto (off := -44) (tgt := 50) (by decide +kernel) (by decide) ?_
      cases hr
      exact hk
    · rw [if_pos hc11] at hr
      refine n_aload_n (n := 0) (by decide +kernel) rfl ?_
      refine n_getF (q := 196) G fl_RX10_61 hp0 (by decide +kernel) (by decide +kernel) (by decide +kernel) (fun hp12q => ?_)
      refine n_iload_n (n := 3) (by decide +kernel) rfl ?_
      refine n_iconst (n := 2) (v := 2) (by decide +kernel) rfl ?_
      obtain ⟨v13, h13, hr⟩ := bso hr
      refine n_callSi G [_, _, _] (x := v13) (B_X10_of G hp12q (by decide +kernel) h13) (by decide) mX10_of ml_RX10_222 rfl rfl (Nat.le_of_ble_eq_true rfl) (by decide +kernel) ?_
      refine n_goto (off := 4) (tgt := 89) (by decide +kernel) (by decide) ?_
      refine n_iadd (by decide +kernel) ?_
      refine n_istore_n (n := 2) (lo2 := [_, _, _, _]) (by decide +kernel) (Nat.le_of_ble_eq_true rfl) rfl ?_
      refine n_iincK (n := 3) (j := 1) (w := 1) (lo2 := [_, _, _, _]) (by decide +kernel) rfl rfl rfl ?_
      refine n_goto (off := -44) (tgt := 50) (by decide +kernel) (by decide) ?_
      cases hr
      exact hk
set_option maxRecDepth 100000 in
theorem W_X10_sums_b50 (G : GG l s0 b L xs D cy ad)  {M : Mm} (hp0 : P 76) {s : (Int32 × Int32)} {e : Int32} (h : whl fu (f_X10_sums_b50  M) s = some e) (res : Rs) (M' : Mm) : Q_X10_sums_b50 l s0 D cy ad P  M res M' e → P_X10_sums_b50 l s0 D cy ad P  M res M' s := whl_run (P := fun s => P_X10_sums_b50 l s0 D cy ad P  M res M' s) (Q := fun e => Q_X10_sums_b50 l s0 D cy ad P  M res M' e) (B_X10_sums_b50 G (res := res) (M' := M') (M := M) hp0) fu s h
set_option maxRecDepth 100000 in
theorem B_X10_sums (G : GG l s0 b L xs D cy ad)  {x1 : Int32} {M : Mm} {r : (Int32 × Mm)} (hp0 : P 76) (hr : f_X10_sums x1 M = some r) : Cl l s0 D cy ad P 10 KX10_sums [.ref 76, .int x1] M (.inl (some (.int r.1))) (r.2) := by
  refine cl_ofN (by decide +kernel) rfl rfl okI (lo0 := [_, _, .null, .null]) rfl ?_
  unfold f_X10_sums at hr
  refine n_aload_n (n := 0) (by decide +kernel) rfl ?_
  refine n_iconst (n := 0) (v := 0) (by decide +kernel) rfl ?_
  refine n_putI G fl_RX10_88 hp0 (by decide +kernel) (by decide +kernel) ?_
  refine n_aload_n (n := 0) (by decide +kernel) rfl ?_
  refine n_iload_n (n := 1) (by decide +kernel) rfl ?_
  refine n_iconst (n := 0) (v := 0) (by decide +kernel) rfl ?_
  refine n_iconst (n := 3) (v := 3) (by decide +kernel) rfl ?_
  obtain ⟨v1, h1, hr⟩ := bso hr
  refine n_callSi G [_, _, _] (x := v1) (B_X10_in G  h1) (by decide) mX10_in ml_RX10_122 rfl rfl (Nat.le_of_ble_eq_true rfl) (by decide +kernel) ?_
  refine n_dia1 (J := 20) (c := v1 = 0) (a := (1 : Int32)) (b := (0 : Int32)) (fun hJ => ?_) ?_
  · refine n_if_ne (off := 7) (tgt := 19) (by decide +kernel) (by decide) (fun hc2 => ?_) (fun hc2 => ?_)
    · refine n_iconst (n := 0) (v := 0) (by decide +kernel) rfl ?_
      exact hJ _ (if_neg hc2).symm
    · refine n_iconst (n := 1) (v := 1) (by decide +kernel) rfl ?_
      refine n_goto (off := 4) (tgt := 20) (by decide +kernel) (by decide) ?_
      exact hJ _ (if_pos hc2).symm
  refine n_iconst (n := 1) (v := 1) (by decide +kernel) rfl ?_
  refine n_iconst (n := 2) (v := 2) (by decide +kernel) rfl ?_
  obtain ⟨⟨v3, M3⟩, h3, hr⟩ := bso hr
  try dsimp only at hr
  refine n_callVi G [_, _, _] (x := v3) (M1 := M3) (B_X10_bad G hp0 h3) (by decide) mX10_bad ml_RX10_161 hp0 (by decide +kernel) rfl rfl (Nat.le_of_ble_eq_true rfl) (by decide +kernel) ?_
  refine n_if_eq (off := 5) (tgt := 30) (by decide +kernel) (by decide) (fun hc4 => ?_) (fun hc4 => ?_)
  · rw [if_pos hc4] at hr
    refine n_iload_n (n := 1) (by decide +kernel) rfl ?_
    refine n_iconst (n := 3) (v := 3) (by decide +kernel) rfl ?_
    refine n_icmp_ge (off := 14) (tgt := 46) (by decide +kernel) (by decide) (fun hc5 => ?_) (fun hc5 => ?_)
    · rw [if_pos hc5] at hr
      refine n_iconst (n := 0) (v := 0) (by decide +kernel) rfl ?_
      refine n_istore_n (n := 2) (lo2 := [_, _, _, _]) (by decide +kernel) (Nat.le_of_ble_eq_true rfl) rfl ?_
      refine n_iconst (n := 0) (v := 0) (by decide +kernel) rfl ?_
      refine n_istore_n (n := 3) (lo2 := [_, _, _, _]) (by decide +kernel) (Nat.le_of_ble_eq_true rfl) rfl ?_
      obtain ⟨z2_14, h14, hr⟩ := bso hr
      refine n_msk [true, false, true, true] (lo2 := [_, .null, _, _]) rfl rfl ?_
      refine (W_X10_sums_b50 G hp0 h14 _ _) ?_
      dsimp only [Q_X10_sums_b50]
      refine n_iload_n (n := 2) (by decide +kernel) rfl ?_
      cases hr
      exact n_ireturn (by decide +kernel)
    · rw [if_neg hc5] at hr
      refine n_aload_n (n := 0) (by decide +kernel) rfl ?_
      refine n_getF (q := 196) G fl_RX10_61 hp0 (by decide +kernel) (by decide +kernel) (by decide +kernel) (fun hp15q => ?_)
      refine n_sipush (n := 364) (v := 364) (by decide +kernel) (by decide +kernel) ?_
      refine n_iload_n (n := 1) (by decide +kernel) rfl ?_
      refine n_iadd (by decide +kernel) ?_
      obtain ⟨v16, h16, hr⟩ := bso hr
      refine n_iald G h16 hp15q (by decide +kernel) (by decide +kernel) (by decide +kernel) ?_
      cases hr
      exact n_ireturn (by decide +kernel)
  · rw [if_neg hc4] at hr
    refine n_iconst (n := 0) (v := 0) (by decide +kernel) rfl ?_
    cases hr
    exact n_ireturn (by decide +kernel)
set_option maxRecDepth 100000 in
theorem B_X10_damage (G : GG l s0 b L xs D cy ad)  {x1 : Int32} {x2 : Int32} {x3 : Int32} {M : Mm} {r : (Int32 × Mm)} (hp0 : P 76) (hr : f_X10_damage x1 x2 x3 M = some r) : Cl l s0 D cy ad P 14 KX10_damage [.ref 76, .int x1, .int x2, .int x3] M (.inl (some (.int r.1))) (r.2) := by
  refine cl_ofN (by decide +kernel) rfl rfl okI (lo0 := [_, _, _, _]) rfl ?_
  unfold f_X10_damage at hr
  refine n_aload_n (n := 0) (by decide +kernel) rfl ?_
  refine n_iconst (n := 0) (v := 0) (by decide +kernel) rfl ?_
  refine n_putI G fl_RX10_88 hp0 (by decide +kernel) (by decide +kernel) ?_
  refine n_aload_n (n := 0) (by decide +kernel) rfl ?_
  refine n_aload_n (n := 0) (by decide +kernel) rfl ?_
  refine n_iload_n (n := 1) (by decide +kernel) rfl ?_
  refine n_iload_n (n := 2) (by decide +kernel) rfl ?_
  obtain ⟨v1, h1, hr⟩ := bso hr
  refine n_callVi G [_, _] (x := v1) (B_X10_isCell G hp0 h1) (by decide) mX10_isCell ml_RX10_292 hp0 (by decide +kernel) rfl rfl (Nat.le_of_ble_eq_true rfl) (by decide +kernel) ?_
  refine n_dia1 (J := 20) (c := v1 = 0) (a := (1 : Int32)) (b := (0 : Int32)) (fun hJ => ?_) ?_
  · refine n_if_ne (off := 7) (tgt := 19) (by decide +kernel) (by decide) (fun hc2 => ?_) (fun hc2 => ?_)
    · refine n_iconst (n := 0) (v := 0) (by decide +kernel) rfl ?_
      exact hJ _ (if_neg hc2).symm
    · refine n_iconst (n := 1) (v := 1) (by decide +kernel) rfl ?_
      refine n_goto (off := 4) (tgt := 20) (by decide +kernel) (by decide) ?_
      exact hJ _ (if_pos hc2).symm
  refine n_iconst (n := 1) (v := 1) (by decide +kernel) rfl ?_
  refine n_iconst (n := 0) (v := 0) (by decide +kernel) rfl ?_
  obtain ⟨⟨v3, M3⟩, h3, hr⟩ := bso hr
  try dsimp only at hr
  refine n_callVi G [_, _, _] (x := v3) (M1 := M3) (B_X10_bad G hp0 h3) (by decide) mX10_bad ml_RX10_161 hp0 (by decide +kernel) rfl rfl (Nat.le_of_ble_eq_true rfl) (by decide +kernel) ?_
  refine n_if_ne (off := 27) (tgt := 52) (by decide +kernel) (by decide) (fun hc4 => ?_) (fun hc4 => ?_)
  · rw [if_neg hc4] at hr
    refine n_iconst (n := 0) (v := 0) (by decide +kernel) rfl ?_
    cases hr
    exact n_ireturn (by decide +kernel)
  · rw [if_pos hc4] at hr
    refine n_aload_n (n := 0) (by decide +kernel) rfl ?_
    refine n_iload_n (n := 3) (by decide +kernel) rfl ?_
    refine n_iconst (n := 1) (v := 1) (by decide +kernel) rfl ?_
    refine n_bipush (n := 9) (v := 9) (by decide +kernel) rfl ?_
    obtain ⟨v5, h5, hr⟩ := bso hr
    refine n_callSi G [_, _, _] (x := v5) (B_X10_in G  h5) (by decide) mX10_in ml_RX10_122 rfl rfl (Nat.le_of_ble_eq_true rfl) (by decide +kernel) ?_
    refine n_dia1 (J := 44) (c := v5 = 0) (a := (1 : Int32)) (b := (0 : Int32)) (fun hJ => ?_) ?_
    · refine n_if_ne (off := 7) (tgt := 43) (by decide +kernel) (by decide) (fun hc6 => ?_) (fun hc6 => ?_)
      · refine n_iconst (n := 0) (v := 0) (by decide +kernel) rfl ?_
        exact hJ _ (if_neg hc6).symm
      · refine n_iconst (n := 1) (v := 1) (by decide +kernel) rfl ?_
        refine n_goto (off := 4) (tgt := 44) (by decide +kernel) (by decide) ?_
        exact hJ _ (if_pos hc6).symm
    refine n_iconst (n := 2) (v := 2) (by decide +kernel) rfl ?_
    refine n_iconst (n := 2) (v := 2) (by decide +kernel) rfl ?_
    obtain ⟨⟨v7, M7⟩, h7, hr⟩ := bso hr
    try dsimp only at hr
    refine n_callVi G [_, _, _] (x := v7) (M1 := M7) (B_X10_bad G hp0 h7) (by decide) mX10_bad ml_RX10_161 hp0 (by decide +kernel) rfl rfl (Nat.le_of_ble_eq_true rfl) (by decide +kernel) ?_
    refine n_if_eq (off := 5) (tgt := 54) (by decide +kernel) (by decide) (fun hc8 => ?_) (fun hc8 => ?_)
    · rw [if_pos hc8] at hr
      refine n_aload_n (n := 0) (by decide +kernel) rfl ?_
      refine n_aload_n (n := 0) (by decide +kernel) rfl ?_
      refine n_getF (q := 196) G fl_RX10_61 hp0 (by decide +kernel) (by decide +kernel) (by decide +kernel) (fun hp9q => ?_)
      refine n_bipush (n := 8) (v := 8) (by decide +kernel) rfl ?_
      refine n_iload_n (n := 2) (by decide +kernel) rfl ?_
      refine n_imul (by decide +kernel) ?_
      refine n_iload_n (n := 1) (by decide +kernel) rfl ?_
      refine n_iadd (by decide +kernel) ?_
      refine n_iload_n (n := 3) (by decide +kernel) rfl ?_
      obtain ⟨⟨v10, M10⟩, h10, hr⟩ := bso hr
      try dsimp only at hr
      refine n_callVi G [_, _, _] (x := v10) (M1 := M10) (B_X10_damageOf G hp0 hp9q (by decide +kernel) h10) (by decide) mX10_damageOf ml_RX10_296 hp0 (by decide +kernel) rfl rfl (Nat.le_of_ble_eq_true rfl) (by decide +kernel) ?_
      cases hr
      exact n_ireturn (by decide +kernel)
    · rw [if_neg hc8] at hr
      refine n_iconst (n := 0) (v := 0) (by decide +kernel) rfl ?_
      cases hr
      exact n_ireturn (by decide +kernel)
set_option maxRecDepth 100000 in
theorem B_X10_rises (G : GG l s0 b L xs D cy ad)  {x1 : Int32} {x2 : Int32} {M : Mm} {r : (Int32 × Mm)} (hp0 : P 76) (hr : f_X10_rises x1 x2 M = some r) : Cl l s0 D cy ad P 14 KX10_rises [.ref 76, .int x1, .int x2] M (.inl (some (.int r.1))) (r.2) := by
  refine cl_ofN (by decide +kernel) rfl rfl okI (lo0 := [_, _, _]) rfl ?_
  unfold f_X10_rises at hr
  refine n_aload_n (n := 0) (by decide +kernel) rfl ?_
  refine n_iconst (n := 0) (v := 0) (by decide +kernel) rfl ?_
  refine n_putI G fl_RX10_88 hp0 (by decide +kernel) (by decide +kernel) ?_
  refine n_aload_n (n := 0) (by decide +kernel) rfl ?_
  refine n_aload_n (n := 0) (by decide +kernel) rfl ?_
  refine n_iload_n (n := 1) (by decide +kernel) rfl ?_
  refine n_iload_n (n := 2) (by decide +kernel) rfl ?_
  obtain ⟨v1, h1, hr⟩ := bso hr
  refine n_callVi G [_, _] (x := v1) (B_X10_isCell G hp0 h1) (by decide) mX10_isCell ml_RX10_292 hp0 (by decide +kernel) rfl rfl (Nat.le_of_ble_eq_true rfl) (by decide +kernel) ?_
  refine n_dia1 (J := 20) (c := v1 = 0) (a := (1 : Int32)) (b := (0 : Int32)) (fun hJ => ?_) ?_
  · refine n_if_ne (off := 7) (tgt := 19) (by decide +kernel) (by decide) (fun hc2 => ?_) (fun hc2 => ?_)
    · refine n_iconst (n := 0) (v := 0) (by decide +kernel) rfl ?_
      exact hJ _ (if_neg hc2).symm
    · refine n_iconst (n := 1) (v := 1) (by decide +kernel) rfl ?_
      refine n_goto (off := 4) (tgt := 20) (by decide +kernel) (by decide) ?_
      exact hJ _ (if_pos hc2).symm
  refine n_iconst (n := 1) (v := 1) (by decide +kernel) rfl ?_
  refine n_iconst (n := 0) (v := 0) (by decide +kernel) rfl ?_
  obtain ⟨⟨v3, M3⟩, h3, hr⟩ := bso hr
  try dsimp only at hr
  refine n_callVi G [_, _, _] (x := v3) (M1 := M3) (B_X10_bad G hp0 h3) (by decide) mX10_bad ml_RX10_161 hp0 (by decide +kernel) rfl rfl (Nat.le_of_ble_eq_true rfl) (by decide +kernel) ?_
  refine n_if_eq (off := 5) (tgt := 30) (by decide +kernel) (by decide) (fun hc4 => ?_) (fun hc4 => ?_)
  · rw [if_pos hc4] at hr
    refine n_aload_n (n := 0) (by decide +kernel) rfl ?_
    refine n_getF (q := 196) G fl_RX10_61 hp0 (by decide +kernel) (by decide +kernel) (by decide +kernel) (fun hp5q => ?_)
    refine n_aload_n (n := 0) (by decide +kernel) rfl ?_
    refine n_getF (q := 197) G fl_RX10_64 hp0 (by decide +kernel) (by decide +kernel) (by decide +kernel) (fun hp6q => ?_)
    obtain ⟨M7, h7, hr⟩ := bso hr
    refine n_callSv G [_, _] (M1 := M7) (B_X10_copies G hp5q (by decide +kernel) hp6q (by decide +kernel) h7) (by decide) mX10_copies ml_RX10_318 rfl rfl (Nat.le_of_ble_eq_true rfl) (by decide +kernel) ?_
    refine n_aload_n (n := 0) (by decide +kernel) rfl ?_
    refine n_getF (q := 197) G fl_RX10_64 hp0 (by decide +kernel) (by decide +kernel) (by decide +kernel) (fun hp8q => ?_)
    refine n_sipush (n := 363) (v := 363) (by decide +kernel) (by decide +kernel) ?_
    refine n_dup2 rfl rfl (by decide +kernel) ?_
    obtain ⟨v9, h9, hr⟩ := bso hr
    refine n_iald G h9 hp8q (by decide +kernel) (by decide +kernel) (by decide +kernel) ?_
    refine n_iconst (n := 1) (v := 1) (by decide +kernel) rfl ?_
    refine n_iadd (by decide +kernel) ?_
    obtain ⟨M10, h10, hr⟩ := bso hr
    refine n_iast G h10 hp8q (by decide +kernel) (by decide +kernel) (by decide +kernel) ?_
    refine n_aload_n (n := 0) (by decide +kernel) rfl ?_
    refine n_getF (q := 196) G fl_RX10_61 hp0 (by decide +kernel) (by decide +kernel) (by decide +kernel) (fun hp11q => ?_)
    refine n_bipush (n := 8) (v := 8) (by decide +kernel) rfl ?_
    refine n_iload_n (n := 2) (by decide +kernel) rfl ?_
    refine n_imul (by decide +kernel) ?_
    refine n_iload_n (n := 1) (by decide +kernel) rfl ?_
    refine n_iadd (by decide +kernel) ?_
    obtain ⟨v12, h12, hr⟩ := bso hr
    refine n_callSi G [_, _] (x := v12) (B_X10_isLost G hp11q (by decide +kernel) h12) (by decide) mX10_isLost ml_RX10_285 rfl rfl (Nat.le_of_ble_eq_true rfl) (by decide +kernel) ?_
    refine n_if_eq (off := 7) (tgt := 73) (by decide +kernel) (by decide) (fun hc13 => ?_) (fun hc13 => ?_)
    · rw [if_pos hc13] at hr
      refine n_aload_n (n := 0) (by decide +kernel) rfl ?_
      refine n_aload_n (n := 0) (by decide +kernel) rfl ?_
      refine n_getF (q := 197) G fl_RX10_64 hp0 (by decide +kernel) (by decide +kernel) (by decide +kernel) (fun hp14q => ?_)
      refine n_bipush (n := 8) (v := 8) (by decide +kernel) rfl ?_
      refine n_iload_n (n := 2) (by decide +kernel) rfl ?_
      refine n_imul (by decide +kernel) ?_
      refine n_iload_n (n := 1) (by decide +kernel) rfl ?_
      refine n_iadd (by decide +kernel) ?_
      obtain ⟨⟨v15, M15⟩, h15, hr⟩ := bso hr
      try dsimp only at hr
      refine n_callVi G [_, _] (x := v15) (M1 := M15) (B_X10_risesIn G hp0 hp14q (by decide +kernel) h15) (by decide) mX10_risesIn ml_RX10_302 hp0 (by decide +kernel) rfl rfl (Nat.le_of_ble_eq_true rfl) (by decide +kernel) ?_
      cases hr
      exact n_ireturn (by decide +kernel)
    · rw [if_neg hc13] at hr
      refine n_iconst (n := 0) (v := 0) (by decide +kernel) rfl ?_
      refine n_goto (off := 17) (tgt := 87) (by decide +kernel) (by decide) ?_
      cases hr
      exact n_ireturn (by decide +kernel)
  · rw [if_neg hc4] at hr
    refine n_iconst (n := 0) (v := 0) (by decide +kernel) rfl ?_
    cases hr
    exact n_ireturn (by decide +kernel)
set_option maxRecDepth 100000 in
theorem B_X10_isThere (G : GG l s0 b L xs D cy ad)  {a0 : Nat} {x1 : Int32} {M : Mm} {r : Int32} (hp0 : P a0) (hs0 : SH a0 = 12) (hr : f_X10_isThere a0 x1 M = some r) : Cl l s0 D cy ad P 11 KX10_isThere [.ref a0, .int x1] M (.inl (some (.int r))) (M) := by
  unfold f_X10_isThere at hr
  obtain ⟨v0, h0, h1⟩ := bso hr
  clear hr
  obtain ⟨hb, rfl⟩ := rB_in h1
  have hr := h0
  clear h0
  refine cl_ofN (by decide +kernel) rfl rfl (okB hb) (lo0 := [_, _]) rfl ?_
  unfold g_X10_isThere at hr
  refine n_aload_n (n := 0) (by decide +kernel) rfl ?_
  refine n_iload_n (n := 1) (by decide +kernel) rfl ?_
  obtain ⟨v1, h1, hr⟩ := bso hr
  refine n_callSi G [_, _] (x := v1) (B_X10_isLying G hp0 hs0 h1) (by decide) mX10_isLying ml_RX10_226 rfl rfl (Nat.le_of_ble_eq_true rfl) (by decide +kernel) ?_
  refine n_if_eq (off := 19) (tgt := 24) (by decide +kernel) (by decide) (fun hc2 => ?_) (fun hc2 => ?_)
  · rw [if_pos hc2] at hr
    refine n_iconst (n := 0) (v := 0) (by decide +kernel) rfl ?_
    cases hr
    exact n_ireturn (by decide +kernel)
  · rw [if_neg hc2] at hr
    refine n_aload_n (n := 0) (by decide +kernel) rfl ?_
    refine n_aload_n (n := 0) (by decide +kernel) rfl ?_
    refine n_iload_n (n := 1) (by decide +kernel) rfl ?_
    obtain ⟨v3, h3, hr⟩ := bso hr
    refine n_callSi G [_, _] (x := v3) (B_X10_cellOf G hp0 hs0 h3) (by decide) mX10_cellOf ml_RX10_230 rfl rfl (Nat.le_of_ble_eq_true rfl) (by decide +kernel) ?_
    obtain ⟨v4, h4, hr⟩ := bso hr
    refine n_callSi G [_, _] (x := v4) (B_X10_isLost G hp0 hs0 h4) (by decide) mX10_isLost ml_RX10_285 rfl rfl (Nat.le_of_ble_eq_true rfl) (by decide +kernel) ?_
    refine n_if_ne (off := 7) (tgt := 24) (by decide +kernel) (by decide) (fun hc5 => ?_) (fun hc5 => ?_)
    · rw [if_neg hc5] at hr
      refine n_iconst (n := 0) (v := 0) (by decide +kernel) rfl ?_
      cases hr
      exact n_ireturn (by decide +kernel)
    · rw [if_pos hc5] at hr
      refine n_iconst (n := 1) (v := 1) (by decide +kernel) rfl ?_
      refine n_goto (off := 4) (tgt := 25) (by decide +kernel) (by decide) ?_
      cases hr
      exact n_ireturn (by decide +kernel)
set_option maxRecDepth 100000 in
theorem B_X10_clearOf (G : GG l s0 b L xs D cy ad)  {a1 : Nat} {x2 : Int32} {M : Mm} {r : Int32} (hp0 : P 76) (hp1 : P a1) (hs1 : SH a1 = 12) (hr : f_X10_clearOf a1 x2 M = some r) : Cl l s0 D cy ad P 10 KX10_clearOf [.ref 76, .ref a1, .int x2] M (.inl (some (.int r))) (M) := by
  refine cl_ofN (by decide +kernel) rfl rfl okI (lo0 := [_, _, _]) rfl ?_
  unfold f_X10_clearOf at hr
  refine n_aload_n (n := 1) (by decide +kernel) rfl ?_
  refine n_iload_n (n := 2) (by decide +kernel) rfl ?_
  refine n_iconst (n := 2) (v := 2) (by decide +kernel) rfl ?_
  obtain ⟨v1, h1, hr⟩ := bso hr
  refine n_callSi G [_, _, _] (x := v1) (B_X10_of G hp1 hs1 h1) (by decide) mX10_of ml_RX10_222 rfl rfl (Nat.le_of_ble_eq_true rfl) (by decide +kernel) ?_
  refine n_aload_n (n := 0) (by decide +kernel) rfl ?_
  refine n_getF (q := 80) G fl_RX10_23 hp0 (by decide +kernel) (by decide +kernel) (by decide +kernel) (fun hp2q => ?_)
  refine n_iconst (n := 4) (v := 4) (by decide +kernel) rfl ?_
  obtain ⟨v3, h3, hr⟩ := bso hr
  refine n_iald G h3 hp2q (by decide +kernel) (by decide +kernel) (by decide +kernel) ?_
  refine n_icmp_gt (off := 30) (tgt := 42) (by decide +kernel) (by decide) (fun hc4 => ?_) (fun hc4 => ?_)
  · rw [if_pos hc4] at hr
    refine n_aload_n (n := 0) (by decide +kernel) rfl ?_
    refine n_getF (q := 80) G fl_RX10_23 hp0 (by decide +kernel) (by decide +kernel) (by decide +kernel) (fun hp5q => ?_)
    refine n_bipush (n := 9) (v := 9) (by decide +kernel) rfl ?_
    obtain ⟨v6, h6, hr⟩ := bso hr
    refine n_iald G h6 hp5q (by decide +kernel) (by decide +kernel) (by decide +kernel) ?_
    refine n_aload_n (n := 1) (by decide +kernel) rfl ?_
    refine n_iload_n (n := 2) (by decide +kernel) rfl ?_
    refine n_iconst (n := 2) (v := 2) (by decide +kernel) rfl ?_
    obtain ⟨v7, h7, hr⟩ := bso hr
    refine n_callSi G [_, _, _] (x := v7) (B_X10_of G hp1 hs1 h7) (by decide) mX10_of ml_RX10_222 rfl rfl (Nat.le_of_ble_eq_true rfl) (by decide +kernel) ?_
    refine n_imul (by decide +kernel) ?_
    cases hr
    exact n_ireturn (by decide +kernel)
  · rw [if_neg hc4] at hr
    refine n_iconst (n := 2) (v := 2) (by decide +kernel) rfl ?_
    refine n_aload_n (n := 0) (by decide +kernel) rfl ?_
    refine n_getF (q := 80) G fl_RX10_23 hp0 (by decide +kernel) (by decide +kernel) (by decide +kernel) (fun hp8q => ?_)
    refine n_iconst (n := 5) (v := 5) (by decide +kernel) rfl ?_
    obtain ⟨v9, h9, hr⟩ := bso hr
    refine n_iald G h9 hp8q (by decide +kernel) (by decide +kernel) (by decide +kernel) ?_
    refine n_imul (by decide +kernel) ?_
    refine n_aload_n (n := 1) (by decide +kernel) rfl ?_
    refine n_iload_n (n := 2) (by decide +kernel) rfl ?_
    refine n_iconst (n := 0) (v := 0) (by decide +kernel) rfl ?_
    obtain ⟨v10, h10, hr⟩ := bso hr
    refine n_callSi G [_, _, _] (x := v10) (B_X10_of G hp1 hs1 h10) (by decide) mX10_of ml_RX10_222 rfl rfl (Nat.le_of_ble_eq_true rfl) (by decide +kernel) ?_
    refine n_iconst (n := 1) (v := 1) (by decide +kernel) rfl ?_
    refine n_iadd (by decide +kernel) ?_
    refine n_imul (by decide +kernel) ?_
    refine n_aload_n (n := 1) (by decide +kernel) rfl ?_
    refine n_iload_n (n := 2) (by decide +kernel) rfl ?_
    refine n_iconst (n := 2) (v := 2) (by decide +kernel) rfl ?_
    obtain ⟨v11, h11, hr⟩ := bso hr
    refine n_callSi G [_, _, _] (x := v11) (B_X10_of G hp1 hs1 h11) (by decide) mX10_of ml_RX10_222 rfl rfl (Nat.le_of_ble_eq_true rfl) (by decide +kernel) ?_
    refine n_iadd (by decide +kernel) ?_
    refine n_goto (off := 17) (tgt := 56) (by decide +kernel) (by decide) ?_
    cases hr
    exact n_ireturn (by decide +kernel)
set_option maxRecDepth 100000 in
theorem B_X10_clear (G : GG l s0 b L xs D cy ad)  {x1 : Int32} {M : Mm} {r : (Int32 × Mm)} (hp0 : P 76) (hr : f_X10_clear x1 M = some r) : Cl l s0 D cy ad P 11 KX10_clear [.ref 76, .int x1] M (.inl (some (.int r.1))) (r.2) := by
  refine cl_ofN (by decide +kernel) rfl rfl okI (lo0 := [_, _]) rfl ?_
  unfold f_X10_clear at hr
  refine n_aload_n (n := 0) (by decide +kernel) rfl ?_
  refine n_iconst (n := 0) (v := 0) (by decide +kernel) rfl ?_
  refine n_putI G fl_RX10_88 hp0 (by decide +kernel) (by decide +kernel) ?_
  refine n_aload_n (n := 0) (by decide +kernel) rfl ?_
  refine n_aload_n (n := 0) (by decide +kernel) rfl ?_
  refine n_iload_n (n := 1) (by decide +kernel) rfl ?_
  obtain ⟨v1, h1, hr⟩ := bso hr
  refine n_callVi G [_] (x := v1) (B_X10_isStone G hp0 h1) (by decide) mX10_isStone ml_RX10_325 hp0 (by decide +kernel) rfl rfl (Nat.le_of_ble_eq_true rfl) (by decide +kernel) ?_
  refine n_dia1 (J := 19) (c := v1 = 0) (a := (1 : Int32)) (b := (0 : Int32)) (fun hJ => ?_) ?_
  · refine n_if_ne (off := 7) (tgt := 18) (by decide +kernel) (by decide) (fun hc2 => ?_) (fun hc2 => ?_)
    · refine n_iconst (n := 0) (v := 0) (by decide +kernel) rfl ?_
      exact hJ _ (if_neg hc2).symm
    · refine n_iconst (n := 1) (v := 1) (by decide +kernel) rfl ?_
      refine n_goto (off := 4) (tgt := 19) (by decide +kernel) (by decide) ?_
      exact hJ _ (if_pos hc2).symm
  refine n_iconst (n := 1) (v := 1) (by decide +kernel) rfl ?_
  refine n_iconst (n := 1) (v := 1) (by decide +kernel) rfl ?_
  obtain ⟨⟨v3, M3⟩, h3, hr⟩ := bso hr
  try dsimp only at hr
  refine n_callVi G [_, _, _] (x := v3) (M1 := M3) (B_X10_bad G hp0 h3) (by decide) mX10_bad ml_RX10_161 hp0 (by decide +kernel) rfl rfl (Nat.le_of_ble_eq_true rfl) (by decide +kernel) ?_
  refine n_if_eq (off := 5) (tgt := 29) (by decide +kernel) (by decide) (fun hc4 => ?_) (fun hc4 => ?_)
  · rw [if_pos hc4] at hr
    refine n_aload_n (n := 0) (by decide +kernel) rfl ?_
    refine n_getF (q := 196) G fl_RX10_61 hp0 (by decide +kernel) (by decide +kernel) (by decide +kernel) (fun hp5q => ?_)
    refine n_iload_n (n := 1) (by decide +kernel) rfl ?_
    obtain ⟨v6, h6, hr⟩ := bso hr
    refine n_callSi G [_, _] (x := v6) (B_X10_isLying G hp5q (by decide +kernel) h6) (by decide) mX10_isLying ml_RX10_226 rfl rfl (Nat.le_of_ble_eq_true rfl) (by decide +kernel) ?_
    refine n_if_eq (off := 15) (tgt := 52) (by decide +kernel) (by decide) (fun hc7 => ?_) (fun hc7 => ?_)
    · rw [if_pos hc7] at hr
      refine n_iconst (n := 0) (v := 0) (by decide +kernel) rfl ?_
      cases hr
      exact n_ireturn (by decide +kernel)
    · rw [if_neg hc7] at hr
      refine n_aload_n (n := 0) (by decide +kernel) rfl ?_
      refine n_aload_n (n := 0) (by decide +kernel) rfl ?_
      refine n_getF (q := 196) G fl_RX10_61 hp0 (by decide +kernel) (by decide +kernel) (by decide +kernel) (fun hp8q => ?_)
      refine n_iload_n (n := 1) (by decide +kernel) rfl ?_
      obtain ⟨v9, h9, hr⟩ := bso hr
      refine n_callVi G [_, _] (x := v9) (B_X10_clearOf G hp0 hp8q (by decide +kernel) h9) (by decide) mX10_clearOf ml_RX10_331 hp0 (by decide +kernel) rfl rfl (Nat.le_of_ble_eq_true rfl) (by decide +kernel) ?_
      refine n_goto (off := 4) (tgt := 53) (by decide +kernel) (by decide) ?_
      cases hr
      exact n_ireturn (by decide +kernel)
  · rw [if_neg hc4] at hr
    refine n_iconst (n := 0) (v := 0) (by decide +kernel) rfl ?_
    cases hr
    exact n_ireturn (by decide +kernel)
abbrev P_X10_ones_b4 (l : Launch) (s0 : State) (D : va_G) (cy : Nat → ClassId) (ad : Nat → Nat) (P : Nat → Prop) (x0 : Int32) (M : Mm) (res : Rs) (M' : Mm) (s : (Int32 × Int32)) : Prop := Rn l s0 D cy ad P 9 KX10_ones 4 [.int x0, .int (s.1), .int (s.2)] [] M res M'
abbrev Q_X10_ones_b4 (l : Launch) (s0 : State) (D : va_G) (cy : Nat → ClassId) (ad : Nat → Nat) (P : Nat → Prop) (x0 : Int32) (M : Mm) (res : Rs) (M' : Mm) (e : Int32) : Prop := Rn l s0 D cy ad P 9 KX10_ones 24 [.null, .int (e), .null] [] M res M'
set_option maxRecDepth 100000 in
theorem B_X10_ones_b4 (G : GG l s0 b L xs D cy ad) {x0 : Int32} {M : Mm} {res : Rs} {M' : Mm}  : ∀ (s : (Int32 × Int32)) (r : (Int32 × Int32) ⊕ Int32), f_X10_ones_b4 x0 M s = some r → mtc (P_X10_ones_b4 l s0 D cy ad P x0 M res M') (Q_X10_ones_b4 l s0 D cy ad P x0 M res M') r → P_X10_ones_b4 l s0 D cy ad P x0 M res M' s := by
  intro s r hr hk
  obtain ⟨x1, x2⟩ := s
  unfold f_X10_ones_b4 at hr
  try dsimp only at hr
  dsimp only [P_X10_ones_b4]
  refine n_iload_n (n := 2) (by decide +kernel) rfl ?_
  refine n_bipush (n := 16) (v := 16) (by decide +kernel) rfl ?_
  refine n_icmp_ge (off := 17) (tgt := 24) (by decide +kernel) (by decide) (fun hc1 => ?_) (fun hc1 => ?_)
  · rw [if_pos hc1] at hr
    cases hr
    refine n_msk [false, true, false] (lo2 := [.null, _, .null]) rfl rfl ?_
    exact hk
  · rw [if_neg hc1] at hr
    refine n_iload_n (n := 1) (by decide +kernel) rfl ?_
    refine n_iload_n (n := 0) (by decide +kernel) rfl ?_
    refine n_iload_n (n := 2) (by decide +kernel) rfl ?_
    refine n_ishr (by decide +kernel) ?_
    refine n_iconst (n := 1) (v := 1) (by decide +kernel) rfl ?_
    refine n_iand (by decide +kernel) ?_
    refine n_iadd (by decide +kernel) ?_
    refine n_istore_n (n := 1) (lo2 := [_, _, _]) (by decide +kernel) (Nat.le_of_ble_eq_true rfl) rfl ?_
    refine n_iincK (n := 2) (j := 1) (w := 1) (lo2 := [_, _, _]) (by decide +kernel) rfl rfl rfl ?_
    refine n_goto (off := -17) (tgt := 4) (by decide +kernel) (by decide) ?_
    cases hr
    exact hk
set_option maxRecDepth 100000 in
theorem W_X10_ones_b4 (G : GG l s0 b L xs D cy ad) {x0 : Int32} {M : Mm}  {s : (Int32 × Int32)} {e : Int32} (h : whl fu (f_X10_ones_b4 x0 M) s = some e) (res : Rs) (M' : Mm) : Q_X10_ones_b4 l s0 D cy ad P x0 M res M' e → P_X10_ones_b4 l s0 D cy ad P x0 M res M' s := whl_run (P := fun s => P_X10_ones_b4 l s0 D cy ad P x0 M res M' s) (Q := fun e => Q_X10_ones_b4 l s0 D cy ad P x0 M res M' e) (B_X10_ones_b4 G (res := res) (M' := M') (x0 := x0) (M := M) ) fu s h
set_option maxRecDepth 100000 in
theorem B_X10_ones (G : GG l s0 b L xs D cy ad)  {x0 : Int32} {M : Mm} {r : Int32}  (hr : f_X10_ones x0 M = some r) : Cl l s0 D cy ad P 9 KX10_ones [.int x0] M (.inl (some (.int r))) (M) := by
  refine cl_ofN (by decide +kernel) rfl rfl okI (lo0 := [_, .null, .null]) rfl ?_
  unfold f_X10_ones at hr
  refine n_iconst (n := 0) (v := 0) (by decide +kernel) rfl ?_
  refine n_istore_n (n := 1) (lo2 := [_, _, _]) (by decide +kernel) (Nat.le_of_ble_eq_true rfl) rfl ?_
  refine n_iconst (n := 0) (v := 0) (by decide +kernel) rfl ?_
  refine n_istore_n (n := 2) (lo2 := [_, _, _]) (by decide +kernel) (Nat.le_of_ble_eq_true rfl) rfl ?_
  obtain ⟨z1_2, h2, hr⟩ := bso hr
  refine (W_X10_ones_b4 G  h2 _ _) ?_
  dsimp only [Q_X10_ones_b4]
  refine n_iload_n (n := 1) (by decide +kernel) rfl ?_
  cases hr
  exact n_ireturn (by decide +kernel)
abbrev P_X10_stopsBy_b16 (l : Launch) (s0 : State) (D : va_G) (cy : Nat → ClassId) (ad : Nat → Nat) (P : Nat → Prop) (x1 : Int32) (x2 : Int32) (M : Mm) (res : Rs) (M' : Mm) (s : (Int32 × Int32)) : Prop := Rn l s0 D cy ad P 12 KX10_stopsBy 16 [.ref 76, .int x1, .int x2, .int (s.1), .int (s.2), .null, .null] [] M res M'
abbrev Q_X10_stopsBy_b16 (l : Launch) (s0 : State) (D : va_G) (cy : Nat → ClassId) (ad : Nat → Nat) (P : Nat → Prop) (x1 : Int32) (x2 : Int32) (M : Mm) (res : Rs) (M' : Mm) (e : (Unit ⊕ Int32)) : Prop := (match e with | .inl e => Rn l s0 D cy ad P 12 KX10_stopsBy 163 [.null, .null, .null, .null, .null, .null, .null] [] M res M' | .inr e => Rn l s0 D cy ad P 12 KX10_stopsBy 185 [.null, .null, .null, .int (e), .null, .null, .null] [] M res M')
abbrev P_X10_stopsBy_b83 (l : Launch) (s0 : State) (D : va_G) (cy : Nat → ClassId) (ad : Nat → Nat) (P : Nat → Prop) (x1 : Int32) (x2 : Int32) (x3 : Int32) (x4 : Int32) (M : Mm) (res : Rs) (M' : Mm) (s : (Int32 × Int32)) : Prop := Rn l s0 D cy ad P 12 KX10_stopsBy 83 [.ref 76, .int x1, .int x2, .int x3, .int x4, .int (s.1), .int (s.2)] [] M res M'
abbrev Q_X10_stopsBy_b83 (l : Launch) (s0 : State) (D : va_G) (cy : Nat → ClassId) (ad : Nat → Nat) (P : Nat → Prop) (x1 : Int32) (x2 : Int32) (x3 : Int32) (x4 : Int32) (M : Mm) (res : Rs) (M' : Mm) (e : Int32) : Prop := Rn l s0 D cy ad P 12 KX10_stopsBy 157 [.ref 76, .int x1, .int x2, .int x3, .int x4, .int (e), .null] [] M res M'
set_option maxRecDepth 100000 in
theorem B_X10_stopsBy_j132 (G : GG l s0 b L xs D cy ad) {x1 : Int32} {x2 : Int32} {x3 : Int32} {x4 : Int32} {x6 : Int32} {M : Mm}  {res : Rs} {M' : Mm} {r : ((Int32 × Int32) ⊕ Int32)} (hp0 : P 76) (hr : f_X10_stopsBy_j132 x1 x2 x3 x4 x6 M = some r) (hk : mtc (P_X10_stopsBy_b83 l s0 D cy ad P x1 x2 x3 x4 M res M') (Q_X10_stopsBy_b83 l s0 D cy ad P x1 x2 x3 x4 M res M') r) : Rn l s0 D cy ad P 12 KX10_stopsBy 132 [.ref 76, .int x1, .int x2, .int x3, .int x4, .null, .int x6] [] M res M' := by
  unfold f_X10_stopsBy_j132 at hr
  refine n_iload (n := 6) (by decide +kernel) rfl ?_
  refine n_iconst (n := 0) (v := 0) (by decide +kernel) rfl ?_
  refine n_aload_n (n := 0) (by decide +kernel) rfl ?_
  refine n_getF (q := 196) G fl_RX10_61 hp0 (by decide +kernel) (by decide +kernel) (by decide +kernel) (fun hp23q => ?_)
  refine n_iload (n := 4) (by decide +kernel) rfl ?_
  refine n_iconst (n := 0) (v := 0) (by decide +kernel) rfl ?_
  obtain ⟨v24, h24, hr⟩ := bso hr
  refine n_callSi G [_, _, _] (x := v24) (B_X10_of G hp23q (by decide +kernel) h24) (by decide) mX10_of ml_RX10_222 rfl rfl (Nat.le_of_ble_eq_true rfl) (by decide +kernel) ?_
  refine n_iconst (n := 0) (v := 0) (by decide +kernel) rfl ?_
  obtain ⟨v25, h25, hr⟩ := bso hr
  refine n_callSi G [_, _, _, _] (x := v25) (B_X10_farOf G  h25) (by decide) mX10_farOf ml_RX10_266 rfl rfl (Nat.le_of_ble_eq_true rfl) (by decide +kernel) ?_
  refine n_istore (n := 5) (lo2 := [_, _, _, _, _, _, _]) (by decide +kernel) (Nat.le_of_ble_eq_true rfl) rfl ?_
  refine n_iincK (n := 6) (j := 1) (w := 1) (lo2 := [_, _, _, _, _, _, _]) (by decide +kernel) rfl rfl rfl ?_
  refine n_goto (off := -71) (tgt := 83) (by decide +kernel) (by decide) ?_
  cases hr
  exact hk
set_option maxRecDepth 100000 in
theorem B_X10_stopsBy_b83 (G : GG l s0 b L xs D cy ad) {x1 : Int32} {x2 : Int32} {x3 : Int32} {x4 : Int32} {M : Mm} {res : Rs} {M' : Mm} (hp0 : P 76) : ∀ (s : (Int32 × Int32)) (r : (Int32 × Int32) ⊕ Int32), f_X10_stopsBy_b83 x1 x2 x3 x4 M s = some r → mtc (P_X10_stopsBy_b83 l s0 D cy ad P x1 x2 x3 x4 M res M') (Q_X10_stopsBy_b83 l s0 D cy ad P x1 x2 x3 x4 M res M') r → P_X10_stopsBy_b83 l s0 D cy ad P x1 x2 x3 x4 M res M' s := by
  intro s r hr hk
  obtain ⟨x5, x6⟩ := s
  unfold f_X10_stopsBy_b83 at hr
  try dsimp only at hr
  dsimp only [P_X10_stopsBy_b83]
  refine n_iload (n := 6) (by decide +kernel) rfl ?_
  refine n_aload_n (n := 0) (by decide +kernel) rfl ?_
  refine n_getF (q := 80) G fl_RX10_23 hp0 (by decide +kernel) (by decide +kernel) (by decide +kernel) (fun hp18q => ?_)
  refine n_iconst (n := 0) (v := 0) (by decide +kernel) rfl ?_
  obtain ⟨v19, h19, hr⟩ := bso hr
  refine n_iald G h19 hp18q (by decide +kernel) (by decide +kernel) (by decide +kernel) ?_
  refine n_icmp_ge (off := 66) (tgt := 157) (by decide +kernel) (by decide) (fun hc20 => ?_) (fun hc20 => ?_)
  · rw [if_pos hc20] at hr
    cases hr
    refine n_msk [true, true, true, true, true, true, false] (lo2 := [_, _, _, _, _, _, .null]) rfl rfl ?_
    exact hk
  · rw [if_neg hc20] at hr
    refine n_iload_n (n := 2) (by decide +kernel) rfl ?_
    refine n_iload (n := 6) (by decide +kernel) rfl ?_
    refine n_ishr (by decide +kernel) ?_
    refine n_iconst (n := 1) (v := 1) (by decide +kernel) rfl ?_
    refine n_iand (by decide +kernel) ?_
    refine n_iconst (n := 1) (v := 1) (by decide +kernel) rfl ?_
    refine n_icmp_ne (off := 50) (tgt := 151) (by decide +kernel) (by decide) (fun hc21 => ?_) (fun hc21 => ?_)
    · rw [if_neg hc21] at hr
      refine n_iincK (n := 6) (j := 1) (w := 1) (lo2 := [_, _, _, _, _, _, _]) (by decide +kernel) rfl rfl rfl ?_
      refine n_goto (off := -71) (tgt := 83) (by decide +kernel) (by decide) ?_
      cases hr
      exact hk
    · rw [if_pos hc21] at hr
      refine n_iload (n := 5) (by decide +kernel) rfl ?_
      refine n_iconst (n := -1) (v := -1) (by decide +kernel) rfl ?_
      refine n_icmp_eq (off := 25) (tgt := 132) (by decide +kernel) (by decide) (fun hc22 => ?_) (fun hc22 => ?_)
      · rw [if_pos hc22] at hr
        refine n_msk [true, true, true, true, true, false, true] (lo2 := [_, _, _, _, _, .null, _]) rfl rfl ?_
        exact B_X10_stopsBy_j132 G hp0 hr hk
      · rw [if_neg hc22] at hr
        refine n_iload (n := 6) (by decide +kernel) rfl ?_
        refine n_iconst (n := 0) (v := 0) (by decide +kernel) rfl ?_
        refine n_aload_n (n := 0) (by decide +kernel) rfl ?_
        refine n_getF (q := 196) G fl_RX10_61 hp0 (by decide +kernel) (by decide +kernel) (by decide +kernel) (fun hp26q => ?_)
        refine n_iload (n := 4) (by decide +kernel) rfl ?_
        refine n_iconst (n := 0) (v := 0) (by decide +kernel) rfl ?_
        obtain ⟨v27, h27, hr⟩ := bso hr
        refine n_callSi G [_, _, _] (x := v27) (B_X10_of G hp26q (by decide +kernel) h27) (by decide) mX10_of ml_RX10_222 rfl rfl (Nat.le_of_ble_eq_true rfl) (by decide +kernel) ?_
        refine n_iconst (n := 0) (v := 0) (by decide +kernel) rfl ?_
        obtain ⟨v28, h28, hr⟩ := bso hr
        refine n_callSi G [_, _, _, _] (x := v28) (B_X10_farOf G  h28) (by decide) mX10_farOf ml_RX10_266 rfl rfl (Nat.le_of_ble_eq_true rfl) (by decide +kernel) ?_
        refine n_iload (n := 5) (by decide +kernel) rfl ?_
        refine n_icmp_ge (off := 22) (tgt := 151) (by decide +kernel) (by decide) (fun hc29 => ?_) (fun hc29 => ?_)
        · rw [if_pos hc29] at hr
          refine n_iincK (n := 6) (j := 1) (w := 1) (lo2 := [_, _, _, _, _, _, _]) (by decide +kernel) rfl rfl rfl ?_
          refine n_goto (off := -71) (tgt := 83) (by decide +kernel) (by decide) ?_
          cases hr
          exact hk
        · rw [if_neg hc29] at hr
          refine n_msk [true, true, true, true, true, false, true] (lo2 := [_, _, _, _, _, .null, _]) rfl rfl ?_
          exact B_X10_stopsBy_j132 G hp0 hr hk
set_option maxRecDepth 100000 in
theorem W_X10_stopsBy_b83 (G : GG l s0 b L xs D cy ad) {x1 : Int32} {x2 : Int32} {x3 : Int32} {x4 : Int32} {M : Mm} (hp0 : P 76) {s : (Int32 × Int32)} {e : Int32} (h : whl fu (f_X10_stopsBy_b83 x1 x2 x3 x4 M) s = some e) (res : Rs) (M' : Mm) : Q_X10_stopsBy_b83 l s0 D cy ad P x1 x2 x3 x4 M res M' e → P_X10_stopsBy_b83 l s0 D cy ad P x1 x2 x3 x4 M res M' s := whl_run (P := fun s => P_X10_stopsBy_b83 l s0 D cy ad P x1 x2 x3 x4 M res M' s) (Q := fun e => Q_X10_stopsBy_b83 l s0 D cy ad P x1 x2 x3 x4 M res M' e) (B_X10_stopsBy_b83 G (res := res) (M' := M') (x1 := x1) (x2 := x2) (x3 := x3) (x4 := x4) (M := M) hp0) fu s h
set_option maxRecDepth 100000 in
theorem B_X10_stopsBy_b16 (G : GG l s0 b L xs D cy ad) {x1 : Int32} {x2 : Int32} {M : Mm} {res : Rs} {M' : Mm} (hp0 : P 76) : ∀ (s : (Int32 × Int32)) (r : (Int32 × Int32) ⊕ (Unit ⊕ Int32)), f_X10_stopsBy_b16 x1 x2 M s = some r → mtc (P_X10_stopsBy_b16 l s0 D cy ad P x1 x2 M res M') (Q_X10_stopsBy_b16 l s0 D cy ad P x1 x2 M res M') r → P_X10_stopsBy_b16 l s0 D cy ad P x1 x2 M res M' s := by
  intro s r hr hk
  obtain ⟨x3, x4⟩ := s
  unfold f_X10_stopsBy_b16 at hr
  try dsimp only at hr
  dsimp only [P_X10_stopsBy_b16]
  refine n_iload (n := 4) (by decide +kernel) rfl ?_
  refine n_aload_n (n := 0) (by decide +kernel) rfl ?_
  refine n_getF (q := 196) G fl_RX10_61 hp0 (by decide +kernel) (by decide +kernel) (by decide +kernel) (fun hp4q => ?_)
  refine n_sipush (n := 360) (v := 360) (by decide +kernel) (by decide +kernel) ?_
  obtain ⟨v5, h5, hr⟩ := bso hr
  refine n_iald G h5 hp4q (by decide +kernel) (by decide +kernel) (by decide +kernel) ?_
  refine n_icmp_ge (off := 159) (tgt := 185) (by decide +kernel) (by decide) (fun hc6 => ?_) (fun hc6 => ?_)
  · rw [if_pos hc6] at hr
    cases hr
    refine n_msk [false, false, false, true, false, false, false] (lo2 := [.null, .null, .null, _, .null, .null, .null]) rfl rfl ?_
    exact hk
  · rw [if_neg hc6] at hr
    refine n_aload_n (n := 0) (by decide +kernel) rfl ?_
    refine n_getF (q := 196) G fl_RX10_61 hp0 (by decide +kernel) (by decide +kernel) (by decide +kernel) (fun hp7q => ?_)
    refine n_iload (n := 4) (by decide +kernel) rfl ?_
    obtain ⟨v8, h8, hr⟩ := bso hr
    refine n_callSi G [_, _] (x := v8) (B_X10_isThere G hp7q (by decide +kernel) h8) (by decide) mX10_isThere ml_RX10_337 rfl rfl (Nat.le_of_ble_eq_true rfl) (by decide +kernel) ?_
    refine n_if_eq (off := 141) (tgt := 179) (by decide +kernel) (by decide) (fun hc9 => ?_) (fun hc9 => ?_)
    · rw [if_pos hc9] at hr
      refine n_iincK (n := 4) (j := 1) (w := 1) (lo2 := [_, _, _, _, _, _, _]) (by decide +kernel) rfl rfl rfl ?_
      refine n_goto (off := -166) (tgt := 16) (by decide +kernel) (by decide) ?_
      cases hr
      exact hk
    · rw [if_neg hc9] at hr
      refine n_aload_n (n := 0) (by decide +kernel) rfl ?_
      refine n_getF (q := 196) G fl_RX10_61 hp0 (by decide +kernel) (by decide +kernel) (by decide +kernel) (fun hp10q => ?_)
      refine n_iload (n := 4) (by decide +kernel) rfl ?_
      refine n_iconst (n := 1) (v := 1) (by decide +kernel) rfl ?_
      obtain ⟨v11, h11, hr⟩ := bso hr
      refine n_callSi G [_, _, _] (x := v11) (B_X10_of G hp10q (by decide +kernel) h11) (by decide) mX10_of ml_RX10_222 rfl rfl (Nat.le_of_ble_eq_true rfl) (by decide +kernel) ?_
      refine n_iload_n (n := 1) (by decide +kernel) rfl ?_
      refine n_icmp_ne (off := 127) (tgt := 179) (by decide +kernel) (by decide) (fun hc12 => ?_) (fun hc12 => ?_)
      · rw [if_neg hc12] at hr
        refine n_iincK (n := 4) (j := 1) (w := 1) (lo2 := [_, _, _, _, _, _, _]) (by decide +kernel) rfl rfl rfl ?_
        refine n_goto (off := -166) (tgt := 16) (by decide +kernel) (by decide) ?_
        cases hr
        exact hk
      · rw [if_pos hc12] at hr
        refine n_aload_n (n := 0) (by decide +kernel) rfl ?_
        refine n_getF (q := 196) G fl_RX10_61 hp0 (by decide +kernel) (by decide +kernel) (by decide +kernel) (fun hp13q => ?_)
        refine n_iload (n := 4) (by decide +kernel) rfl ?_
        refine n_iconst (n := 2) (v := 2) (by decide +kernel) rfl ?_
        obtain ⟨v14, h14, hr⟩ := bso hr
        refine n_callSi G [_, _, _] (x := v14) (B_X10_of G hp13q (by decide +kernel) h14) (by decide) mX10_of ml_RX10_222 rfl rfl (Nat.le_of_ble_eq_true rfl) (by decide +kernel) ?_
        refine n_aload_n (n := 0) (by decide +kernel) rfl ?_
        refine n_getF (q := 80) G fl_RX10_23 hp0 (by decide +kernel) (by decide +kernel) (by decide +kernel) (fun hp15q => ?_)
        refine n_iconst (n := 4) (v := 4) (by decide +kernel) rfl ?_
        obtain ⟨v16, h16, hr⟩ := bso hr
        refine n_iald G h16 hp15q (by decide +kernel) (by decide +kernel) (by decide +kernel) ?_
        refine n_icmp_le (off := 6) (tgt := 77) (by decide +kernel) (by decide) (fun hc17 => ?_) (fun hc17 => ?_)
        · rw [if_pos hc17] at hr
          refine n_iconst (n := -1) (v := -1) (by decide +kernel) rfl ?_
          refine n_istore (n := 5) (lo2 := [_, _, _, _, _, _, _]) (by decide +kernel) (Nat.le_of_ble_eq_true rfl) rfl ?_
          refine n_iconst (n := 0) (v := 0) (by decide +kernel) rfl ?_
          refine n_istore (n := 6) (lo2 := [_, _, _, _, _, _, _]) (by decide +kernel) (Nat.le_of_ble_eq_true rfl) rfl ?_
          obtain ⟨z5_30, h30, hr⟩ := bso hr
          refine (W_X10_stopsBy_b83 G hp0 h30 _ _) ?_
          dsimp only [Q_X10_stopsBy_b83]
          refine n_iload (n := 5) (by decide +kernel) rfl ?_
          refine n_iconst (n := -1) (v := -1) (by decide +kernel) rfl ?_
          refine n_icmp_ne (off := 5) (tgt := 165) (by decide +kernel) (by decide) (fun hc31 => ?_) (fun hc31 => ?_)
          · rw [if_neg hc31] at hr
            refine n_iload_n (n := 3) (by decide +kernel) rfl ?_
            refine n_iconst (n := 2) (v := 2) (by decide +kernel) rfl ?_
            refine n_aload_n (n := 0) (by decide +kernel) rfl ?_
            refine n_getF (q := 80) G fl_RX10_23 hp0 (by decide +kernel) (by decide +kernel) (by decide +kernel) (fun hp32q => ?_)
            refine n_iconst (n := 5) (v := 5) (by decide +kernel) rfl ?_
            obtain ⟨v33, h33, hr⟩ := bso hr
            refine n_iald G h33 hp32q (by decide +kernel) (by decide +kernel) (by decide +kernel) ?_
            refine n_imul (by decide +kernel) ?_
            refine n_iload (n := 5) (by decide +kernel) rfl ?_
            refine n_imul (by decide +kernel) ?_
            refine n_iadd (by decide +kernel) ?_
            refine n_istore_n (n := 3) (lo2 := [_, _, _, _, _, _, _]) (by decide +kernel) (Nat.le_of_ble_eq_true rfl) rfl ?_
            refine n_iincK (n := 4) (j := 1) (w := 1) (lo2 := [_, _, _, _, _, _, _]) (by decide +kernel) rfl rfl rfl ?_
            refine n_goto (off := -166) (tgt := 16) (by decide +kernel) (by decide) ?_
            cases hr
            refine n_msk [true, true, true, true, true, false, false] (lo2 := [_, _, _, _, _, .null, .null]) rfl rfl ?_
            exact hk
          · rw [if_pos hc31] at hr
            cases hr
            refine n_msk [false, false, false, false, false, false, false] (lo2 := [.null, .null, .null, .null, .null, .null, .null]) rfl rfl ?_
            exact hk
        · rw [if_neg hc17] at hr
          refine n_goto (off := 105) (tgt := 179) (by decide +kernel) (by decide) ?_
          refine n_iincK (n := 4) (j := 1) (w := 1) (lo2 := [_, _, _, _, _, _, _]) (by decide +kernel) rfl rfl rfl ?_
          refine n_goto (off := -166) (tgt := 16) (by decide +kernel) (by decide) ?_
          cases hr
          exact hk
set_option maxRecDepth 100000 in
theorem W_X10_stopsBy_b16 (G : GG l s0 b L xs D cy ad) {x1 : Int32} {x2 : Int32} {M : Mm} (hp0 : P 76) {s : (Int32 × Int32)} {e : (Unit ⊕ Int32)} (h : whl fu (f_X10_stopsBy_b16 x1 x2 M) s = some e) (res : Rs) (M' : Mm) : Q_X10_stopsBy_b16 l s0 D cy ad P x1 x2 M res M' e → P_X10_stopsBy_b16 l s0 D cy ad P x1 x2 M res M' s := whl_run (P := fun s => P_X10_stopsBy_b16 l s0 D cy ad P x1 x2 M res M' s) (Q := fun e => Q_X10_stopsBy_b16 l s0 D cy ad P x1 x2 M res M' e) (B_X10_stopsBy_b16 G (res := res) (M' := M') (x1 := x1) (x2 := x2) (M := M) hp0) fu s h
set_option maxRecDepth 100000 in
theorem B_X10_stopsBy (G : GG l s0 b L xs D cy ad)  {x1 : Int32} {x2 : Int32} {M : Mm} {r : Int32} (hp0 : P 76) (hr : f_X10_stopsBy x1 x2 M = some r) : Cl l s0 D cy ad P 12 KX10_stopsBy [.ref 76, .int x1, .int x2] M (.inl (some (.int r))) (M) := by
  refine cl_ofN (by decide +kernel) rfl rfl okI (lo0 := [_, _, _, .null, .null, .null, .null]) rfl ?_
  unfold f_X10_stopsBy at hr
  refine n_aload_n (n := 0) (by decide +kernel) rfl ?_
  refine n_getF (q := 80) G fl_RX10_23 hp0 (by decide +kernel) (by decide +kernel) (by decide +kernel) (fun hp1q => ?_)
  refine n_bipush (n := 6) (v := 6) (by decide +kernel) rfl ?_
  obtain ⟨v2, h2, hr⟩ := bso hr
  refine n_iald G h2 hp1q (by decide +kernel) (by decide +kernel) (by decide +kernel) ?_
  refine n_iload_n (n := 2) (by decide +kernel) rfl ?_
  obtain ⟨v3, h3, hr⟩ := bso hr
  refine n_callSi G [_] (x := v3) (B_X10_ones G  h3) (by decide) mX10_ones ml_RX10_334 rfl rfl (Nat.le_of_ble_eq_true rfl) (by decide +kernel) ?_
  refine n_imul (by decide +kernel) ?_
  refine n_istore_n (n := 3) (lo2 := [_, _, _, _, _, _, _]) (by decide +kernel) (Nat.le_of_ble_eq_true rfl) rfl ?_
  refine n_iconst (n := 0) (v := 0) (by decide +kernel) rfl ?_
  refine n_istore (n := 4) (lo2 := [_, _, _, _, _, _, _]) (by decide +kernel) (Nat.le_of_ble_eq_true rfl) rfl ?_
  obtain ⟨e34, h34, hr⟩ := bso hr
  refine (W_X10_stopsBy_b16 G hp0 h34 _ _) ?_
  rcases e34 with _ | z3_34
  · try dsimp only at hr
    dsimp only [Q_X10_stopsBy_b16]
    refine n_iconst (n := -1) (v := -1) (by decide +kernel) rfl ?_
    cases hr
    exact n_ireturn (by decide +kernel)
  · try dsimp only at hr
    dsimp only [Q_X10_stopsBy_b16]
    refine n_iload_n (n := 3) (by decide +kernel) rfl ?_
    cases hr
    exact n_ireturn (by decide +kernel)
abbrev P_X10_stops_b54 (l : Launch) (s0 : State) (D : va_G) (cy : Nat → ClassId) (ad : Nat → Nat) (P : Nat → Prop) (x1 : Int32) (x2 : Int32) (M : Mm) (res : Rs) (M' : Mm) (s : (Int32 × Int32 × Int32)) : Prop := Rn l s0 D cy ad P 13 KX10_stops 54 [.ref 76, .int x1, .int x2, .int (s.1), .int (s.2.1), .int (s.2.2), .null] [] M res M'
abbrev Q_X10_stops_b54 (l : Launch) (s0 : State) (D : va_G) (cy : Nat → ClassId) (ad : Nat → Nat) (P : Nat → Prop) (x1 : Int32) (x2 : Int32) (M : Mm) (res : Rs) (M' : Mm) (e : (Int32 × Int32)) : Prop := Rn l s0 D cy ad P 13 KX10_stops 129 [.null, .null, .int x2, .int (e.1), .int (e.2), .null, .null] [] M res M'
set_option maxRecDepth 100000 in
theorem B_X10_stops_j116 (G : GG l s0 b L xs D cy ad) {x1 : Int32} {x2 : Int32} {x5 : Int32} {x6 : Int32} {M : Mm}  {res : Rs} {M' : Mm} {r : ((Int32 × Int32 × Int32) ⊕ (Int32 × Int32))} (hp0 : P 76) (hr : f_X10_stops_j116 x1 x2 x5 x6 M = some r) (hk : mtc (P_X10_stops_b54 l s0 D cy ad P x1 x2 M res M') (Q_X10_stops_b54 l s0 D cy ad P x1 x2 M res M') r) : Rn l s0 D cy ad P 13 KX10_stops 116 [.ref 76, .int x1, .int x2, .null, .null, .int x5, .int x6] [] M res M' := by
  unfold f_X10_stops_j116 at hr
  refine n_iload (n := 5) (by decide +kernel) rfl ?_
  refine n_istore_n (n := 3) (lo2 := [_, _, _, _, _, _, _]) (by decide +kernel) (Nat.le_of_ble_eq_true rfl) rfl ?_
  refine n_iload (n := 6) (by decide +kernel) rfl ?_
  refine n_istore (n := 4) (lo2 := [_, _, _, _, _, _, _]) (by decide +kernel) (Nat.le_of_ble_eq_true rfl) rfl ?_
  refine n_iincK (n := 5) (j := 1) (w := 1) (lo2 := [_, _, _, _, _, _, _]) (by decide +kernel) rfl rfl rfl ?_
  refine n_goto (off := -72) (tgt := 54) (by decide +kernel) (by decide) ?_
  cases hr
  refine n_msk [true, true, true, true, true, true, false] (lo2 := [_, _, _, _, _, _, .null]) rfl rfl ?_
  exact hk
set_option maxRecDepth 100000 in
theorem B_X10_stops_b54 (G : GG l s0 b L xs D cy ad) {x1 : Int32} {x2 : Int32} {M : Mm} {res : Rs} {M' : Mm} (hp0 : P 76) : ∀ (s : (Int32 × Int32 × Int32)) (r : (Int32 × Int32 × Int32) ⊕ (Int32 × Int32)), f_X10_stops_b54 x1 x2 M s = some r → mtc (P_X10_stops_b54 l s0 D cy ad P x1 x2 M res M') (Q_X10_stops_b54 l s0 D cy ad P x1 x2 M res M') r → P_X10_stops_b54 l s0 D cy ad P x1 x2 M res M' s := by
  intro s r hr hk
  obtain ⟨x3, x4, x5⟩ := s
  unfold f_X10_stops_b54 at hr
  try dsimp only at hr
  dsimp only [P_X10_stops_b54]
  refine n_iload (n := 5) (by decide +kernel) rfl ?_
  refine n_iconst (n := 1) (v := 1) (by decide +kernel) rfl ?_
  refine n_aload_n (n := 0) (by decide +kernel) rfl ?_
  refine n_getF (q := 80) G fl_RX10_23 hp0 (by decide +kernel) (by decide +kernel) (by decide +kernel) (fun hp7q => ?_)
  refine n_iconst (n := 0) (v := 0) (by decide +kernel) rfl ?_
  obtain ⟨v8, h8, hr⟩ := bso hr
  refine n_iald G h8 hp7q (by decide +kernel) (by decide +kernel) (by decide +kernel) ?_
  refine n_ishl (by decide +kernel) ?_
  refine n_icmp_ge (off := 65) (tgt := 129) (by decide +kernel) (by decide) (fun hc9 => ?_) (fun hc9 => ?_)
  · rw [if_pos hc9] at hr
    cases hr
    refine n_msk [false, false, true, true, true, false, false] (lo2 := [.null, .null, _, _, _, .null, .null]) rfl rfl ?_
    exact hk
  · rw [if_neg hc9] at hr
    refine n_aload_n (n := 0) (by decide +kernel) rfl ?_
    refine n_iload_n (n := 1) (by decide +kernel) rfl ?_
    refine n_iload (n := 5) (by decide +kernel) rfl ?_
    obtain ⟨v10, h10, hr⟩ := bso hr
    refine n_callVi G [_, _] (x := v10) (B_X10_stopsBy G hp0 h10) (by decide) mX10_stopsBy ml_RX10_340 hp0 (by decide +kernel) rfl rfl (Nat.le_of_ble_eq_true rfl) (by decide +kernel) ?_
    refine n_istore (n := 6) (lo2 := [_, _, _, _, _, _, _]) (by decide +kernel) (Nat.le_of_ble_eq_true rfl) rfl ?_
    refine n_iload (n := 6) (by decide +kernel) rfl ?_
    refine n_iconst (n := -1) (v := -1) (by decide +kernel) rfl ?_
    refine n_icmp_eq (off := 44) (tgt := 123) (by decide +kernel) (by decide) (fun hc11 => ?_) (fun hc11 => ?_)
    · rw [if_pos hc11] at hr
      refine n_iincK (n := 5) (j := 1) (w := 1) (lo2 := [_, _, _, _, _, _, _]) (by decide +kernel) rfl rfl rfl ?_
      refine n_goto (off := -72) (tgt := 54) (by decide +kernel) (by decide) ?_
      cases hr
      refine n_msk [true, true, true, true, true, true, false] (lo2 := [_, _, _, _, _, _, .null]) rfl rfl ?_
      exact hk
    · rw [if_neg hc11] at hr
      refine n_iload_n (n := 3) (by decide +kernel) rfl ?_
      refine n_iconst (n := -1) (v := -1) (by decide +kernel) rfl ?_
      refine n_icmp_eq (off := 32) (tgt := 116) (by decide +kernel) (by decide) (fun hc12 => ?_) (fun hc12 => ?_)
      · rw [if_pos hc12] at hr
        refine n_msk [true, true, true, false, false, true, true] (lo2 := [_, _, _, .null, .null, _, _]) rfl rfl ?_
        exact B_X10_stops_j116 G hp0 hr hk
      · rw [if_neg hc12] at hr
        refine n_iload (n := 6) (by decide +kernel) rfl ?_
        refine n_iload (n := 4) (by decide +kernel) rfl ?_
        refine n_icmp_gt (off := 32) (tgt := 123) (by decide +kernel) (by decide) (fun hc13 => ?_) (fun hc13 => ?_)
        · rw [if_pos hc13] at hr
          refine n_iincK (n := 5) (j := 1) (w := 1) (lo2 := [_, _, _, _, _, _, _]) (by decide +kernel) rfl rfl rfl ?_
          refine n_goto (off := -72) (tgt := 54) (by decide +kernel) (by decide) ?_
          cases hr
          refine n_msk [true, true, true, true, true, true, false] (lo2 := [_, _, _, _, _, _, .null]) rfl rfl ?_
          exact hk
        · rw [if_neg hc13] at hr
          refine n_iload (n := 6) (by decide +kernel) rfl ?_
          refine n_iload (n := 4) (by decide +kernel) rfl ?_
          refine n_icmp_ne (off := 18) (tgt := 116) (by decide +kernel) (by decide) (fun hc14 => ?_) (fun hc14 => ?_)
          · rw [if_neg hc14] at hr
            refine n_msk [true, true, true, false, false, true, true] (lo2 := [_, _, _, .null, .null, _, _]) rfl rfl ?_
            exact B_X10_stops_j116 G hp0 hr hk
          · rw [if_pos hc14] at hr
            refine n_iload (n := 5) (by decide +kernel) rfl ?_
            obtain ⟨v15, h15, hr⟩ := bso hr
            refine n_callSi G [_] (x := v15) (B_X10_ones G  h15) (by decide) mX10_ones ml_RX10_334 rfl rfl (Nat.le_of_ble_eq_true rfl) (by decide +kernel) ?_
            refine n_iload_n (n := 3) (by decide +kernel) rfl ?_
            obtain ⟨v16, h16, hr⟩ := bso hr
            refine n_callSi G [_] (x := v16) (B_X10_ones G  h16) (by decide) mX10_ones ml_RX10_334 rfl rfl (Nat.le_of_ble_eq_true rfl) (by decide +kernel) ?_
            refine n_icmp_lt (off := 6) (tgt := 116) (by decide +kernel) (by decide) (fun hc17 => ?_) (fun hc17 => ?_)
            · rw [if_pos hc17] at hr
              refine n_msk [true, true, true, false, false, true, true] (lo2 := [_, _, _, .null, .null, _, _]) rfl rfl ?_
              exact B_X10_stops_j116 G hp0 hr hk
            · rw [if_neg hc17] at hr
              refine n_goto (off := 10) (tgt := 123) (by decide +kernel) (by decide) ?_
              refine n_iincK (n := 5) (j := 1) (w := 1) (lo2 := [_, _, _, _, _, _, _]) (by decide +kernel) rfl rfl rfl ?_
              refine n_goto (off := -72) (tgt := 54) (by decide +kernel) (by decide) ?_
              cases hr
              refine n_msk [true, true, true, true, true, true, false] (lo2 := [_, _, _, _, _, _, .null]) rfl rfl ?_
              exact hk
set_option maxRecDepth 100000 in
theorem W_X10_stops_b54 (G : GG l s0 b L xs D cy ad) {x1 : Int32} {x2 : Int32} {M : Mm} (hp0 : P 76) {s : (Int32 × Int32 × Int32)} {e : (Int32 × Int32)} (h : whl fu (f_X10_stops_b54 x1 x2 M) s = some e) (res : Rs) (M' : Mm) : Q_X10_stops_b54 l s0 D cy ad P x1 x2 M res M' e → P_X10_stops_b54 l s0 D cy ad P x1 x2 M res M' s := whl_run (P := fun s => P_X10_stops_b54 l s0 D cy ad P x1 x2 M res M' s) (Q := fun e => Q_X10_stops_b54 l s0 D cy ad P x1 x2 M res M' e) (B_X10_stops_b54 G (res := res) (M' := M') (x1 := x1) (x2 := x2) (M := M) hp0) fu s h
set_option maxRecDepth 100000 in
theorem B_X10_stops_j36 (G : GG l s0 b L xs D cy ad) {x1 : Int32} {x2 : Int32} {xs1 : Int32} {M : Mm} {r : (Int32 × Mm)} (hp0 : P 76) (hp90 : P 76) (hr : f_X10_stops_j36 x1 x2 xs1 M = some r) : Rn l s0 D cy ad P 13 KX10_stops 36 [.ref 76, .int x1, .int x2, .null, .null, .null, .null] [.int xs1, .ref 76] M (.inl (some (.int r.1))) (r.2) := by
  unfold f_X10_stops_j36 at hr
  refine n_iconst (n := 1) (v := 1) (by decide +kernel) rfl ?_
  refine n_iconst (n := 2) (v := 2) (by decide +kernel) rfl ?_
  obtain ⟨⟨v5, M5⟩, h5, hr⟩ := bso hr
  try dsimp only at hr
  refine n_callVi G [_, _, _] (x := v5) (M1 := M5) (B_X10_bad G hp90 h5) (by decide) mX10_bad ml_RX10_161 hp90 (by decide +kernel) rfl rfl (Nat.le_of_ble_eq_true rfl) (by decide +kernel) ?_
  refine n_if_eq (off := 5) (tgt := 46) (by decide +kernel) (by decide) (fun hc6 => ?_) (fun hc6 => ?_)
  · rw [if_pos hc6] at hr
    refine n_iconst (n := -1) (v := -1) (by decide +kernel) rfl ?_
    refine n_istore_n (n := 3) (lo2 := [_, _, _, _, _, _, _]) (by decide +kernel) (Nat.le_of_ble_eq_true rfl) rfl ?_
    refine n_iconst (n := 0) (v := 0) (by decide +kernel) rfl ?_
    refine n_istore (n := 4) (lo2 := [_, _, _, _, _, _, _]) (by decide +kernel) (Nat.le_of_ble_eq_true rfl) rfl ?_
    refine n_iconst (n := 0) (v := 0) (by decide +kernel) rfl ?_
    refine n_istore (n := 5) (lo2 := [_, _, _, _, _, _, _]) (by decide +kernel) (Nat.le_of_ble_eq_true rfl) rfl ?_
    obtain ⟨e18, h18, hr⟩ := bso hr
    refine (W_X10_stops_b54 G hp0 h18 _ _) ?_
    obtain ⟨z3_18, z4_18⟩ := e18
    try dsimp only at hr
    dsimp only [Q_X10_stops_b54]
    refine n_iload_n (n := 2) (by decide +kernel) rfl ?_
    refine n_if_ne (off := 8) (tgt := 138) (by decide +kernel) (by decide) (fun hc19 => ?_) (fun hc19 => ?_)
    · rw [if_neg hc19] at hr
      refine n_iload_n (n := 2) (by decide +kernel) rfl ?_
      refine n_iconst (n := 1) (v := 1) (by decide +kernel) rfl ?_
      refine n_icmp_ne (off := 10) (tgt := 150) (by decide +kernel) (by decide) (fun hc20 => ?_) (fun hc20 => ?_)
      · rw [if_neg hc20] at hr
        refine n_iload_n (n := 3) (by decide +kernel) rfl ?_
        cases hr
        exact n_ireturn (by decide +kernel)
      · rw [if_pos hc20] at hr
        refine n_iload_n (n := 3) (by decide +kernel) rfl ?_
        obtain ⟨v21, h21, hr⟩ := bso hr
        refine n_callSi G [_] (x := v21) (B_X10_ones G  h21) (by decide) mX10_ones ml_RX10_334 rfl rfl (Nat.le_of_ble_eq_true rfl) (by decide +kernel) ?_
        refine n_goto (off := 4) (tgt := 151) (by decide +kernel) (by decide) ?_
        cases hr
        exact n_ireturn (by decide +kernel)
    · rw [if_pos hc19] at hr
      refine n_iload (n := 4) (by decide +kernel) rfl ?_
      refine n_goto (off := 16) (tgt := 151) (by decide +kernel) (by decide) ?_
      cases hr
      exact n_ireturn (by decide +kernel)
  · rw [if_neg hc6] at hr
    refine n_iconst (n := 0) (v := 0) (by decide +kernel) rfl ?_
    cases hr
    exact n_ireturn (by decide +kernel)
set_option maxRecDepth 100000 in
theorem B_X10_stops_j31 (G : GG l s0 b L xs D cy ad) {x1 : Int32} {x2 : Int32} {M : Mm} {r : (Int32 × Mm)} (hp0 : P 76) (hp90 : P 76) (hr : f_X10_stops_j31 x1 x2 M = some r) : Rn l s0 D cy ad P 13 KX10_stops 31 [.ref 76, .int x1, .int x2, .null, .null, .null, .null] [.ref 76] M (.inl (some (.int r.1))) (r.2) := by
  unfold f_X10_stops_j31 at hr
  refine n_iconst (n := 1) (v := 1) (by decide +kernel) rfl ?_
  refine n_goto (off := 4) (tgt := 36) (by decide +kernel) (by decide) ?_
  exact B_X10_stops_j36 G hp0 hp90 hr
set_option maxRecDepth 100000 in
theorem B_X10_stops (G : GG l s0 b L xs D cy ad)  {x1 : Int32} {x2 : Int32} {M : Mm} {r : (Int32 × Mm)} (hp0 : P 76) (hr : f_X10_stops x1 x2 M = some r) : Cl l s0 D cy ad P 13 KX10_stops [.ref 76, .int x1, .int x2] M (.inl (some (.int r.1))) (r.2) := by
  refine cl_ofN (by decide +kernel) rfl rfl okI (lo0 := [_, _, _, .null, .null, .null, .null]) rfl ?_
  unfold f_X10_stops at hr
  refine n_aload_n (n := 0) (by decide +kernel) rfl ?_
  refine n_iconst (n := 0) (v := 0) (by decide +kernel) rfl ?_
  refine n_putI G fl_RX10_88 hp0 (by decide +kernel) (by decide +kernel) ?_
  refine n_aload_n (n := 0) (by decide +kernel) rfl ?_
  refine n_iload_n (n := 1) (by decide +kernel) rfl ?_
  refine n_iconst (n := 0) (v := 0) (by decide +kernel) rfl ?_
  refine n_aload_n (n := 0) (by decide +kernel) rfl ?_
  refine n_getF (q := 80) G fl_RX10_23 hp0 (by decide +kernel) (by decide +kernel) (by decide +kernel) (fun hp1q => ?_)
  refine n_iconst (n := 1) (v := 1) (by decide +kernel) rfl ?_
  obtain ⟨v2, h2, hr⟩ := bso hr
  refine n_iald G h2 hp1q (by decide +kernel) (by decide +kernel) (by decide +kernel) ?_
  refine n_iconst (n := 1) (v := 1) (by decide +kernel) rfl ?_
  refine n_isub (by decide +kernel) ?_
  obtain ⟨v3, h3, hr⟩ := bso hr
  refine n_callSi G [_, _, _] (x := v3) (B_X10_in G  h3) (by decide) mX10_in ml_RX10_122 rfl rfl (Nat.le_of_ble_eq_true rfl) (by decide +kernel) ?_
  refine n_if_eq (off := 12) (tgt := 31) (by decide +kernel) (by decide) (fun hc4 => ?_) (fun hc4 => ?_)
  · rw [if_pos hc4] at hr
    exact B_X10_stops_j31 G hp0 hp0 hr
  · rw [if_neg hc4] at hr
    refine n_iload_n (n := 2) (by decide +kernel) rfl ?_
    refine n_iconst (n := 0) (v := 0) (by decide +kernel) rfl ?_
    refine n_iconst (n := 2) (v := 2) (by decide +kernel) rfl ?_
    obtain ⟨v22, h22, hr⟩ := bso hr
    refine n_callSi G [_, _, _] (x := v22) (B_X10_in G  h22) (by decide) mX10_in ml_RX10_122 rfl rfl (Nat.le_of_ble_eq_true rfl) (by decide +kernel) ?_
    refine n_if_ne (off := 7) (tgt := 35) (by decide +kernel) (by decide) (fun hc23 => ?_) (fun hc23 => ?_)
    · rw [if_neg hc23] at hr
      refine n_iconst (n := 0) (v := 0) (by decide +kernel) rfl ?_
      exact B_X10_stops_j36 G hp0 hp0 hr
    · rw [if_pos hc23] at hr
      exact B_X10_stops_j31 G hp0 hp0 hr
abbrev P_X10_ways_b38 (l : Launch) (s0 : State) (D : va_G) (cy : Nat → ClassId) (ad : Nat → Nat) (P : Nat → Prop) (n : Nat) (x1 : Int32) (x2 : Int32) (x3 : Int32) (x4 : Int32) (y5 : Int64)  (res : Rs) (M' : Mm) (s : (Int32 × Mm)) : Prop := Rn l s0 D cy ad P (9 + (n + 1)) KX10_ways 38 [.ref 76, .int x1, .int x2, .int x3, .int x4, .long y5, .null, .int (s.1), .null, .null] [] (s.2) res M'
abbrev Q_X10_ways_b38 (l : Launch) (s0 : State) (D : va_G) (cy : Nat → ClassId) (ad : Nat → Nat) (P : Nat → Prop) (n : Nat) (x1 : Int32) (x2 : Int32) (x3 : Int32) (x4 : Int32) (y5 : Int64)  (res : Rs) (M' : Mm) (e : Mm) : Prop := Rn l s0 D cy ad P (9 + (n + 1)) KX10_ways 164 [.null, .null, .null, .null, .null, .null, .null, .null, .null, .null] [] (e) res M'
abbrev P_X10_ways_b64 (l : Launch) (s0 : State) (D : va_G) (cy : Nat → ClassId) (ad : Nat → Nat) (P : Nat → Prop) (n : Nat) (x1 : Int32) (x2 : Int32) (x3 : Int32) (x4 : Int32) (y5 : Int64) (x7 : Int32)  (res : Rs) (M' : Mm) (s : (Int32 × Mm)) : Prop := Rn l s0 D cy ad P (9 + (n + 1)) KX10_ways 64 [.ref 76, .int x1, .int x2, .int x3, .int x4, .long y5, .null, .int x7, .int (s.1), .null] [] (s.2) res M'
abbrev Q_X10_ways_b64 (l : Launch) (s0 : State) (D : va_G) (cy : Nat → ClassId) (ad : Nat → Nat) (P : Nat → Prop) (n : Nat) (x1 : Int32) (x2 : Int32) (x3 : Int32) (x4 : Int32) (y5 : Int64) (x7 : Int32)  (res : Rs) (M' : Mm) (e : Mm) : Prop := Rn l s0 D cy ad P (9 + (n + 1)) KX10_ways 158 [.ref 76, .int x1, .int x2, .int x3, .int x4, .long y5, .null, .int x7, .null, .null] [] (e) res M'
set_option maxRecDepth 100000 in
theorem B_X10_ways_j87 (G : GG l s0 b L xs D cy ad) {n : Nat} {rec : Nat → Int32 → Int32 → Int32 → Int32 → Int64 → Mm → Option Mm} {x1 : Int32} {x2 : Int32} {x3 : Int32} {x4 : Int32} {y5 : Int64} {x7 : Int32} {x8 : Int32} {xs0 : Int32} {M : Mm}  {res : Rs} {M' : Mm} {r : ((Int32 × Mm) ⊕ Mm)} (hrec0 : ∀ (x1 : Int32) (x2 : Int32) (x3 : Int32) (x4 : Int32) (y5 : Int64) (M r : Mm) (hp0 : P 76), rec 0 x1 x2 x3 x4 y5 M = some r → Cl l s0 D cy ad P (9 + n) KX10_ways [.ref 76, .int x1, .int x2, .int x3, .int x4, .long y5] M (.inl none) r) (hp0 : P 76) (hr : f_X10_ways_j87 rec x1 x2 x3 x4 y5 x7 x8 xs0 M = some r) (hk : mtc (P_X10_ways_b64 l s0 D cy ad P n x1 x2 x3 x4 y5 x7 res M') (Q_X10_ways_b64 l s0 D cy ad P n x1 x2 x3 x4 y5 x7 res M') r) : Rn l s0 D cy ad P (9 + (n + 1)) KX10_ways 87 [.ref 76, .int x1, .int x2, .int x3, .int x4, .long y5, .null, .int x7, .int x8, .null] [.int xs0] M res M' := by
  unfold f_X10_ways_j87 at hr
  refine n_istore (n := 9) (lo2 := [_, _, _, _, _, _, _, _, _, _]) (by decide +kernel) (Nat.le_of_ble_eq_true rfl) rfl ?_
  refine n_aload_n (n := 0) (by decide +kernel) rfl ?_
  refine n_iload_n (n := 1) (by decide +kernel) rfl ?_
  refine n_iconst (n := 1) (v := 1) (by decide +kernel) rfl ?_
  refine n_iload (n := 7) (by decide +kernel) rfl ?_
  refine n_ishl (by decide +kernel) ?_
  refine n_iconst (n := -1) (v := -1) (by decide +kernel) rfl ?_
  refine n_ixor (by decide +kernel) ?_
  refine n_iand (by decide +kernel) ?_
  refine n_aload_n (n := 0) (by decide +kernel) rfl ?_
  refine n_getF (q := 80) G fl_RX10_23 hp0 (by decide +kernel) (by decide +kernel) (by decide +kernel) (fun hp11q => ?_)
  refine n_iconst (n := 0) (v := 0) (by decide +kernel) rfl ?_
  obtain ⟨v12, h12, hr⟩ := bso hr
  refine n_iald G h12 hp11q (by decide +kernel) (by decide +kernel) (by decide +kernel) ?_
  refine n_iconst (n := 1) (v := 1) (by decide +kernel) rfl ?_
  refine n_isub (by decide +kernel) ?_
  refine n_iload (n := 9) (by decide +kernel) rfl ?_
  refine n_isub (by decide +kernel) ?_
  refine n_iload (n := 7) (by decide +kernel) rfl ?_
  refine n_iload (n := 4) (by decide +kernel) rfl ?_
  refine n_iload_n (n := 2) (by decide +kernel) rfl ?_
  refine n_iload_n (n := 3) (by decide +kernel) rfl ?_
  refine n_iload (n := 9) (by decide +kernel) rfl ?_
  refine n_iload (n := 7) (by decide +kernel) rfl ?_
  obtain ⟨v13, h13, hr⟩ := bso hr
  refine n_callSi G [_, _, _, _] (x := v13) (B_X10_farOf G  h13) (by omega) mX10_farOf ml_RX10_266 rfl rfl (Nat.le_of_ble_eq_true rfl) (by decide +kernel) ?_
  refine n_iadd (by decide +kernel) ?_
  refine n_aload_n (n := 0) (by decide +kernel) rfl ?_
  refine n_getF (q := 80) G fl_RX10_23 hp0 (by decide +kernel) (by decide +kernel) (by decide +kernel) (fun hp14q => ?_)
  refine n_iconst (n := 0) (v := 0) (by decide +kernel) rfl ?_
  obtain ⟨v15, h15, hr⟩ := bso hr
  refine n_iald G h15 hp14q (by decide +kernel) (by decide +kernel) (by decide +kernel) ?_
  refine n_iadd (by decide +kernel) ?_
  refine n_iconst (n := 1) (v := 1) (by decide +kernel) rfl ?_
  refine n_isub (by decide +kernel) ?_
  refine n_ldc2 G ct_RX10_350 (by decide +kernel) ?_
  refine n_lload (n := 5) (by decide +kernel) rfl ?_
  refine n_lmul (by decide +kernel) ?_
  refine n_iload (n := 7) (by decide +kernel) rfl ?_
  refine n_i2l (by decide +kernel) ?_
  refine n_ladd (by decide +kernel) ?_
  refine n_bipush (n := 6) (v := 6) (by decide +kernel) rfl ?_
  refine n_iload (n := 8) (by decide +kernel) rfl ?_
  refine n_imul (by decide +kernel) ?_
  refine n_i2l (by decide +kernel) ?_
  refine n_ladd (by decide +kernel) ?_
  obtain ⟨M16, h16, hr⟩ := bso hr
  refine n_callVv G [_, _, _, _, _] (M1 := M16) (hrec0 _ _ _ _ _ _ _ hp0 h16) (by omega) mX10_ways ml_RX10_352 hp0 (by decide +kernel) rfl rfl (Nat.le_of_ble_eq_true rfl) (by decide +kernel) ?_
  refine n_iincK (n := 8) (j := 1) (w := 1) (lo2 := [_, _, _, _, _, _, _, _, _, _]) (by decide +kernel) rfl rfl rfl ?_
  refine n_goto (off := -91) (tgt := 64) (by decide +kernel) (by decide) ?_
  cases hr
  refine n_msk [true, true, true, true, true, true, false, true, true, false] (lo2 := [_, _, _, _, _, _, .null, _, _, .null]) rfl rfl ?_
  exact hk
set_option maxRecDepth 100000 in
theorem B_X10_ways_b64 (G : GG l s0 b L xs D cy ad) {n : Nat} {rec : Nat → Int32 → Int32 → Int32 → Int32 → Int64 → Mm → Option Mm} {x1 : Int32} {x2 : Int32} {x3 : Int32} {x4 : Int32} {y5 : Int64} {x7 : Int32}  {res : Rs} {M' : Mm} (hrec0 : ∀ (x1 : Int32) (x2 : Int32) (x3 : Int32) (x4 : Int32) (y5 : Int64) (M r : Mm) (hp0 : P 76), rec 0 x1 x2 x3 x4 y5 M = some r → Cl l s0 D cy ad P (9 + n) KX10_ways [.ref 76, .int x1, .int x2, .int x3, .int x4, .long y5] M (.inl none) r) (hp0 : P 76) : ∀ (s : (Int32 × Mm)) (r : (Int32 × Mm) ⊕ Mm), f_X10_ways_b64 rec x1 x2 x3 x4 y5 x7 s = some r → mtc (P_X10_ways_b64 l s0 D cy ad P n x1 x2 x3 x4 y5 x7 res M') (Q_X10_ways_b64 l s0 D cy ad P n x1 x2 x3 x4 y5 x7 res M') r → P_X10_ways_b64 l s0 D cy ad P n x1 x2 x3 x4 y5 x7 res M' s := by
  intro s r hr hk
  obtain ⟨x8, M⟩ := s
  unfold f_X10_ways_b64 at hr
  try dsimp only at hr
  dsimp only [P_X10_ways_b64]
  refine n_iload (n := 8) (by decide +kernel) rfl ?_
  refine n_iconst (n := 2) (v := 2) (by decide +kernel) rfl ?_
  refine n_icmp_ge (off := 91) (tgt := 158) (by decide +kernel) (by decide) (fun hc7 => ?_) (fun hc7 => ?_)
  · rw [if_pos hc7] at hr
    cases hr
    refine n_msk [true, true, true, true, true, true, false, true, false, false] (lo2 := [_, _, _, _, _, _, .null, _, .null, .null]) rfl rfl ?_
    exact hk
  · rw [if_neg hc7] at hr
    refine n_iload (n := 8) (by decide +kernel) rfl ?_
    refine n_if_ne (off := 7) (tgt := 79) (by decide +kernel) (by decide) (fun hc8 => ?_) (fun hc8 => ?_)
    · rw [if_neg hc8] at hr
      refine n_aload_n (n := 0) (by decide +kernel) rfl ?_
      refine n_getF (q := 80) G fl_RX10_23 hp0 (by decide +kernel) (by decide +kernel) (by decide +kernel) (fun hp9q => ?_)
      refine n_iconst (n := 0) (v := 0) (by decide +kernel) rfl ?_
      obtain ⟨v10, h10, hr⟩ := bso hr
      refine n_iald G h10 hp9q (by decide +kernel) (by decide +kernel) (by decide +kernel) ?_
      refine n_iconst (n := 1) (v := 1) (by decide +kernel) rfl ?_
      refine n_isub (by decide +kernel) ?_
      exact B_X10_ways_j87 G hrec0 hp0 hr hk
    · rw [if_pos hc8] at hr
      refine n_iconst (n := 0) (v := 0) (by decide +kernel) rfl ?_
      refine n_goto (off := 11) (tgt := 87) (by decide +kernel) (by decide) ?_
      exact B_X10_ways_j87 G hrec0 hp0 hr hk
set_option maxRecDepth 100000 in
theorem W_X10_ways_b64 (G : GG l s0 b L xs D cy ad) {n : Nat} {rec : Nat → Int32 → Int32 → Int32 → Int32 → Int64 → Mm → Option Mm} {x1 : Int32} {x2 : Int32} {x3 : Int32} {x4 : Int32} {y5 : Int64} {x7 : Int32}  (hrec0 : ∀ (x1 : Int32) (x2 : Int32) (x3 : Int32) (x4 : Int32) (y5 : Int64) (M r : Mm) (hp0 : P 76), rec 0 x1 x2 x3 x4 y5 M = some r → Cl l s0 D cy ad P (9 + n) KX10_ways [.ref 76, .int x1, .int x2, .int x3, .int x4, .long y5] M (.inl none) r) (hp0 : P 76) {s : (Int32 × Mm)} {e : Mm} (h : whl fu (f_X10_ways_b64 rec x1 x2 x3 x4 y5 x7) s = some e) (res : Rs) (M' : Mm) : Q_X10_ways_b64 l s0 D cy ad P n x1 x2 x3 x4 y5 x7 res M' e → P_X10_ways_b64 l s0 D cy ad P n x1 x2 x3 x4 y5 x7 res M' s := whl_run (P := fun s => P_X10_ways_b64 l s0 D cy ad P n x1 x2 x3 x4 y5 x7 res M' s) (Q := fun e => Q_X10_ways_b64 l s0 D cy ad P n x1 x2 x3 x4 y5 x7 res M' e) (B_X10_ways_b64 G (res := res) (M' := M') (n := n) (rec := rec) (x1 := x1) (x2 := x2) (x3 := x3) (x4 := x4) (y5 := y5) (x7 := x7) hrec0 hp0) fu s h
set_option maxRecDepth 100000 in
theorem B_X10_ways_b38 (G : GG l s0 b L xs D cy ad) {n : Nat} {rec : Nat → Int32 → Int32 → Int32 → Int32 → Int64 → Mm → Option Mm} {x1 : Int32} {x2 : Int32} {x3 : Int32} {x4 : Int32} {y5 : Int64}  {res : Rs} {M' : Mm} (hrec0 : ∀ (x1 : Int32) (x2 : Int32) (x3 : Int32) (x4 : Int32) (y5 : Int64) (M r : Mm) (hp0 : P 76), rec 0 x1 x2 x3 x4 y5 M = some r → Cl l s0 D cy ad P (9 + n) KX10_ways [.ref 76, .int x1, .int x2, .int x3, .int x4, .long y5] M (.inl none) r) (hp0 : P 76) : ∀ (s : (Int32 × Mm)) (r : (Int32 × Mm) ⊕ Mm), f_X10_ways_b38 rec x1 x2 x3 x4 y5 s = some r → mtc (P_X10_ways_b38 l s0 D cy ad P n x1 x2 x3 x4 y5 res M') (Q_X10_ways_b38 l s0 D cy ad P n x1 x2 x3 x4 y5 res M') r → P_X10_ways_b38 l s0 D cy ad P n x1 x2 x3 x4 y5 res M' s := by
  intro s r hr hk
  obtain ⟨x7, M⟩ := s
  unfold f_X10_ways_b38 at hr
  try dsimp only at hr
  dsimp only [P_X10_ways_b38]
  refine n_iload (n := 7) (by decide +kernel) rfl ?_
  refine n_aload_n (n := 0) (by decide +kernel) rfl ?_
  refine n_getF (q := 80) G fl_RX10_23 hp0 (by decide +kernel) (by decide +kernel) (by decide +kernel) (fun hp3q => ?_)
  refine n_iconst (n := 1) (v := 1) (by decide +kernel) rfl ?_
  obtain ⟨v4, h4, hr⟩ := bso hr
  refine n_iald G h4 hp3q (by decide +kernel) (by decide +kernel) (by decide +kernel) ?_
  refine n_icmp_ge (off := 118) (tgt := 164) (by decide +kernel) (by decide) (fun hc5 => ?_) (fun hc5 => ?_)
  · rw [if_pos hc5] at hr
    cases hr
    refine n_msk [false, false, false, false, false, false, false, false, false, false] (lo2 := [.null, .null, .null, .null, .null, .null, .null, .null, .null, .null]) rfl rfl ?_
    exact hk
  · rw [if_neg hc5] at hr
    refine n_iload_n (n := 1) (by decide +kernel) rfl ?_
    refine n_iload (n := 7) (by decide +kernel) rfl ?_
    refine n_ishr (by decide +kernel) ?_
    refine n_iconst (n := 1) (v := 1) (by decide +kernel) rfl ?_
    refine n_iand (by decide +kernel) ?_
    refine n_if_ne (off := 6) (tgt := 61) (by decide +kernel) (by decide) (fun hc6 => ?_) (fun hc6 => ?_)
    · rw [if_neg hc6] at hr
      refine n_iconst (n := 0) (v := 0) (by decide +kernel) rfl ?_
      refine n_istore (n := 8) (lo2 := [_, _, _, _, _, _, _, _, _, _]) (by decide +kernel) (Nat.le_of_ble_eq_true rfl) rfl ?_
      obtain ⟨M17, h17, hr⟩ := bso hr
      refine (W_X10_ways_b64 G hrec0 hp0 h17 _ _) ?_
      dsimp only [Q_X10_ways_b64]
      refine n_iincK (n := 7) (j := 1) (w := 1) (lo2 := [_, _, _, _, _, _, _, _, _, _]) (by decide +kernel) rfl rfl rfl ?_
      refine n_goto (off := -123) (tgt := 38) (by decide +kernel) (by decide) ?_
      cases hr
      exact hk
    · rw [if_pos hc6] at hr
      refine n_goto (off := 100) (tgt := 158) (by decide +kernel) (by decide) ?_
      refine n_iincK (n := 7) (j := 1) (w := 1) (lo2 := [_, _, _, _, _, _, _, _, _, _]) (by decide +kernel) rfl rfl rfl ?_
      refine n_goto (off := -123) (tgt := 38) (by decide +kernel) (by decide) ?_
      cases hr
      exact hk
set_option maxRecDepth 100000 in
theorem W_X10_ways_b38 (G : GG l s0 b L xs D cy ad) {n : Nat} {rec : Nat → Int32 → Int32 → Int32 → Int32 → Int64 → Mm → Option Mm} {x1 : Int32} {x2 : Int32} {x3 : Int32} {x4 : Int32} {y5 : Int64}  (hrec0 : ∀ (x1 : Int32) (x2 : Int32) (x3 : Int32) (x4 : Int32) (y5 : Int64) (M r : Mm) (hp0 : P 76), rec 0 x1 x2 x3 x4 y5 M = some r → Cl l s0 D cy ad P (9 + n) KX10_ways [.ref 76, .int x1, .int x2, .int x3, .int x4, .long y5] M (.inl none) r) (hp0 : P 76) {s : (Int32 × Mm)} {e : Mm} (h : whl fu (f_X10_ways_b38 rec x1 x2 x3 x4 y5) s = some e) (res : Rs) (M' : Mm) : Q_X10_ways_b38 l s0 D cy ad P n x1 x2 x3 x4 y5 res M' e → P_X10_ways_b38 l s0 D cy ad P n x1 x2 x3 x4 y5 res M' s := whl_run (P := fun s => P_X10_ways_b38 l s0 D cy ad P n x1 x2 x3 x4 y5 res M' s) (Q := fun e => Q_X10_ways_b38 l s0 D cy ad P n x1 x2 x3 x4 y5 res M' e) (B_X10_ways_b38 G (res := res) (M' := M') (n := n) (rec := rec) (x1 := x1) (x2 := x2) (x3 := x3) (x4 := x4) (y5 := y5) hrec0 hp0) fu s h
set_option maxRecDepth 100000 in
theorem B_X10_ways_j18 (G : GG l s0 b L xs D cy ad) {n : Nat} {rec : Nat → Int32 → Int32 → Int32 → Int32 → Int64 → Mm → Option Mm} {x1 : Int32} {x2 : Int32} {x3 : Int32} {x4 : Int32} {y5 : Int64} {M : Mm} {r : Mm} (hrec0 : ∀ (x1 : Int32) (x2 : Int32) (x3 : Int32) (x4 : Int32) (y5 : Int64) (M r : Mm) (hp0 : P 76), rec 0 x1 x2 x3 x4 y5 M = some r → Cl l s0 D cy ad P (9 + n) KX10_ways [.ref 76, .int x1, .int x2, .int x3, .int x4, .long y5] M (.inl none) r) (hp0 : P 76) (hr : f_X10_ways_j18 rec x1 x2 x3 x4 y5 M = some r) : Rn l s0 D cy ad P (9 + (n + 1)) KX10_ways 18 [.ref 76, .int x1, .int x2, .int x3, .int x4, .long y5, .null, .null, .null, .null] [] M (.inl none) (r) := by
  unfold f_X10_ways_j18 at hr
  refine n_iload_n (n := 1) (by decide +kernel) rfl ?_
  refine n_if_ne (off := 16) (tgt := 35) (by decide +kernel) (by decide) (fun hc2 => ?_) (fun hc2 => ?_)
  · rw [if_neg hc2] at hr
    refine n_iconst (n := 0) (v := 0) (by decide +kernel) rfl ?_
    refine n_istore (n := 7) (lo2 := [_, _, _, _, _, _, _, _, _, _]) (by decide +kernel) (Nat.le_of_ble_eq_true rfl) rfl ?_
    obtain ⟨M18, h18, hr⟩ := bso hr
    refine (W_X10_ways_b38 G hrec0 hp0 h18 _ _) ?_
    dsimp only [Q_X10_ways_b38]
    cases hr
    exact n_return (by decide +kernel)
  · rw [if_pos hc2] at hr
    refine n_aload_n (n := 0) (by decide +kernel) rfl ?_
    refine n_iload (n := 4) (by decide +kernel) rfl ?_
    refine n_putI G fl_RX10_343 hp0 (by decide +kernel) (by decide +kernel) ?_
    refine n_aload_n (n := 0) (by decide +kernel) rfl ?_
    refine n_lload (n := 5) (by decide +kernel) rfl ?_
    refine n_putL G fl_RX10_346 hp0 (by decide +kernel) (by decide +kernel) ?_
    cases hr
    exact n_return (by decide +kernel)
set_option maxRecDepth 100000 in
theorem Bb_X10_ways (G : GG l s0 b L xs D cy ad) {n : Nat} {rec : Nat → Int32 → Int32 → Int32 → Int32 → Int64 → Mm → Option Mm} {x1 : Int32} {x2 : Int32} {x3 : Int32} {x4 : Int32} {y5 : Int64} {M : Mm} {r : Mm} (hrec0 : ∀ (x1 : Int32) (x2 : Int32) (x3 : Int32) (x4 : Int32) (y5 : Int64) (M r : Mm) (hp0 : P 76), rec 0 x1 x2 x3 x4 y5 M = some r → Cl l s0 D cy ad P (9 + n) KX10_ways [.ref 76, .int x1, .int x2, .int x3, .int x4, .long y5] M (.inl none) r) (hp0 : P 76) (hr : fb_X10_ways rec x1 x2 x3 x4 y5 M = some r) : Cl l s0 D cy ad P (9 + (n + 1)) KX10_ways [.ref 76, .int x1, .int x2, .int x3, .int x4, .long y5] M (.inl none) (r) := by
  refine cl_ofN (by decide +kernel) rfl rfl rfl (lo0 := [_, _, _, _, _, _, .null, .null, .null, .null]) rfl ?_
  unfold fb_X10_ways at hr
  refine n_aload_n (n := 0) (by decide +kernel) rfl ?_
  refine n_getI G fl_RX10_343 hp0 (by decide +kernel) (by decide +kernel) ?_
  refine n_iconst (n := -1) (v := -1) (by decide +kernel) rfl ?_
  refine n_icmp_eq (off := 13) (tgt := 18) (by decide +kernel) (by decide) (fun hc1 => ?_) (fun hc1 => ?_)
  · rw [if_pos hc1] at hr
    exact B_X10_ways_j18 G hrec0 hp0 hr
  · rw [if_neg hc1] at hr
    refine n_iload (n := 4) (by decide +kernel) rfl ?_
    refine n_aload_n (n := 0) (by decide +kernel) rfl ?_
    refine n_getI G fl_RX10_343 hp0 (by decide +kernel) (by decide +kernel) ?_
    refine n_icmp_lt (off := 4) (tgt := 18) (by decide +kernel) (by decide) (fun hc19 => ?_) (fun hc19 => ?_)
    · rw [if_pos hc19] at hr
      exact B_X10_ways_j18 G hrec0 hp0 hr
    · rw [if_neg hc19] at hr
      cases hr
      exact n_return (by decide +kernel)
set_option maxRecDepth 100000 in
theorem BR_X10_ways (G : GG l s0 b L xs D cy ad) : ∀ n : Nat, (∀ (x1 : Int32) (x2 : Int32) (x3 : Int32) (x4 : Int32) (y5 : Int64) (M r : Mm) (hp0 : P 76), R_X10_ways n 0 x1 x2 x3 x4 y5 M = some r → Cl l s0 D cy ad P (9 + n) KX10_ways [.ref 76, .int x1, .int x2, .int x3, .int x4, .long y5] M (.inl none) r) := by
  intro n
  induction n with
  | zero => exact fun _ _ _ _ _ _ _ _ h => (nomatch h)
  | succ n ih =>
    have ih0 := ih
    exact fun _ _ _ _ _ _ _ hp0 h => Bb_X10_ways G ih0 hp0 h
set_option maxRecDepth 100000 in
theorem B_X10_ways (G : GG l s0 b L xs D cy ad) {x1 : Int32} {x2 : Int32} {x3 : Int32} {x4 : Int32} {y5 : Int64} {M r : Mm} (hp0 : P 76) (hr : f_X10_ways x1 x2 x3 x4 y5 M = some r) : Cl l s0 D cy ad P 69 KX10_ways [.ref 76, .int x1, .int x2, .int x3, .int x4, .long y5] M (.inl none) r := (BR_X10_ways G 60) _ _ _ _ _ _ _ hp0 hr
abbrev P_X10_way_b34 (l : Launch) (s0 : State) (D : va_G) (cy : Nat → ClassId) (ad : Nat → Nat) (P : Nat → Prop) (x1 : Int32) (M : Mm) (res : Rs) (M' : Mm) (s : (Int32 × Int32)) : Prop := Rn l s0 D cy ad P 70 KX10_way 34 [.ref 76, .int x1, .int (s.1), .int (s.2)] [] M res M'
abbrev Q_X10_way_b34 (l : Launch) (s0 : State) (D : va_G) (cy : Nat → ClassId) (ad : Nat → Nat) (P : Nat → Prop) (x1 : Int32) (M : Mm) (res : Rs) (M' : Mm) (e : Int32) : Prop := Rn l s0 D cy ad P 70 KX10_way 81 [.ref 76, .int x1, .int (e), .null] [] M res M'
set_option maxRecDepth 100000 in
theorem B_X10_way_b34 (G : GG l s0 b L xs D cy ad) {x1 : Int32} {M : Mm} {res : Rs} {M' : Mm} (hp0 : P 76) : ∀ (s : (Int32 × Int32)) (r : (Int32 × Int32) ⊕ Int32), f_X10_way_b34 x1 M s = some r → mtc (P_X10_way_b34 l s0 D cy ad P x1 M res M') (Q_X10_way_b34 l s0 D cy ad P x1 M res M') r → P_X10_way_b34 l s0 D cy ad P x1 M res M' s := by
  intro s r hr hk
  obtain ⟨x2, x3⟩ := s
  unfold f_X10_way_b34 at hr
  try dsimp only at hr
  dsimp only [P_X10_way_b34]
  refine n_iload_n (n := 3) (by decide +kernel) rfl ?_
  refine n_aload_n (n := 0) (by decide +kernel) rfl ?_
  refine n_getF (q := 196) G fl_RX10_61 hp0 (by decide +kernel) (by decide +kernel) (by decide +kernel) (fun hp5q => ?_)
  refine n_sipush (n := 360) (v := 360) (by decide +kernel) (by decide +kernel) ?_
  obtain ⟨v6, h6, hr⟩ := bso hr
  refine n_iald G h6 hp5q (by decide +kernel) (by decide +kernel) (by decide +kernel) ?_
  refine n_icmp_ge (off := 38) (tgt := 81) (by decide +kernel) (by decide) (fun hc7 => ?_) (fun hc7 => ?_)
  · rw [if_pos hc7] at hr
    cases hr
    refine n_msk [true, true, true, false] (lo2 := [_, _, _, .null]) rfl rfl ?_
    exact hk
  · rw [if_neg hc7] at hr
    refine n_iload_n (n := 2) (by decide +kernel) rfl ?_
    refine n_aload_n (n := 0) (by decide +kernel) rfl ?_
    refine n_getF (q := 196) G fl_RX10_61 hp0 (by decide +kernel) (by decide +kernel) (by decide +kernel) (fun hp8q => ?_)
    refine n_iload_n (n := 3) (by decide +kernel) rfl ?_
    obtain ⟨v9, h9, hr⟩ := bso hr
    refine n_callSi G [_, _] (x := v9) (B_X10_isThere G hp8q (by decide +kernel) h9) (by decide) mX10_isThere ml_RX10_337 rfl rfl (Nat.le_of_ble_eq_true rfl) (by decide +kernel) ?_
    refine n_if_eq (off := 17) (tgt := 72) (by decide +kernel) (by decide) (fun hc10 => ?_) (fun hc10 => ?_)
    · rw [if_pos hc10] at hr
      refine n_iconst (n := 0) (v := 0) (by decide +kernel) rfl ?_
      refine n_ior (by decide +kernel) ?_
      refine n_istore_n (n := 2) (lo2 := [_, _, _, _]) (by decide +kernel) (Nat.le_of_ble_eq_true rfl) rfl ?_
      refine n_iincK (n := 3) (j := 1) (w := 1) (lo2 := [_, _, _, _]) (by decide +kernel) rfl rfl rfl ?_
      refine n_goto (off := -44) (tgt := 34) (by decide +kernel) (by decide) ?_
      cases hr
      exact hk
    · rw [if_neg hc10] at hr
      refine n_iconst (n := 1) (v := 1) (by decide +kernel) rfl ?_
      refine n_aload_n (n := 0) (by decide +kernel) rfl ?_
      refine n_getF (q := 196) G fl_RX10_61 hp0 (by decide +kernel) (by decide +kernel) (by decide +kernel) (fun hp11q => ?_)
      refine n_iload_n (n := 3) (by decide +kernel) rfl ?_
      refine n_iconst (n := 1) (v := 1) (by decide +kernel) rfl ?_
      obtain ⟨v12, h12, hr⟩ := bso hr
      refine n_callSi G [_, _, _] (x := v12) (B_X10_of G hp11q (by decide +kernel) h12) (by decide) mX10_of ml_RX10_222 rfl rfl (Nat.le_of_ble_eq_true rfl) (by decide +kernel) ?_
      refine n_ishl (by decide +kernel) ?_
      refine n_goto (off := 4) (tgt := 73) (by decide +kernel) (by decide) ?_
      refine n_ior (by decide +kernel) ?_
      refine n_istore_n (n := 2) (lo2 := [_, _, _, _]) (by decide +kernel) (Nat.le_of_ble_eq_true rfl) rfl ?_
      refine n_iincK (n := 3) (j := 1) (w := 1) (lo2 := [_, _, _, _]) (by decide +kernel) rfl rfl rfl ?_
      refine n_goto (off := -44) (tgt := 34) (by decide +kernel) (by decide) ?_
      cases hr
      exact hk
set_option maxRecDepth 100000 in
theorem W_X10_way_b34 (G : GG l s0 b L xs D cy ad) {x1 : Int32} {M : Mm} (hp0 : P 76) {s : (Int32 × Int32)} {e : Int32} (h : whl fu (f_X10_way_b34 x1 M) s = some e) (res : Rs) (M' : Mm) : Q_X10_way_b34 l s0 D cy ad P x1 M res M' e → P_X10_way_b34 l s0 D cy ad P x1 M res M' s := whl_run (P := fun s => P_X10_way_b34 l s0 D cy ad P x1 M res M' s) (Q := fun e => Q_X10_way_b34 l s0 D cy ad P x1 M res M' e) (B_X10_way_b34 G (res := res) (M' := M') (x1 := x1) (M := M) hp0) fu s h
set_option maxRecDepth 100000 in
theorem B_X10_way (G : GG l s0 b L xs D cy ad)  {x1 : Int32} {M : Mm} {r : (Int64 × Mm)} (hp0 : P 76) (hr : f_X10_way x1 M = some r) : Cl l s0 D cy ad P 70 KX10_way [.ref 76, .int x1] M (.inl (some (.long r.1))) (r.2) := by
  refine cl_ofN (by decide +kernel) rfl rfl rfl (lo0 := [_, _, .null, .null]) rfl ?_
  unfold f_X10_way at hr
  refine n_aload_n (n := 0) (by decide +kernel) rfl ?_
  refine n_iconst (n := 0) (v := 0) (by decide +kernel) rfl ?_
  refine n_putI G fl_RX10_88 hp0 (by decide +kernel) (by decide +kernel) ?_
  refine n_aload_n (n := 0) (by decide +kernel) rfl ?_
  refine n_iload_n (n := 1) (by decide +kernel) rfl ?_
  refine n_iconst (n := 0) (v := 0) (by decide +kernel) rfl ?_
  refine n_iconst (n := 1) (v := 1) (by decide +kernel) rfl ?_
  obtain ⟨v1, h1, hr⟩ := bso hr
  refine n_callSi G [_, _, _] (x := v1) (B_X10_in G  h1) (by decide) mX10_in ml_RX10_122 rfl rfl (Nat.le_of_ble_eq_true rfl) (by decide +kernel) ?_
  refine n_dia1 (J := 20) (c := v1 = 0) (a := (1 : Int32)) (b := (0 : Int32)) (fun hJ => ?_) ?_
  · refine n_if_ne (off := 7) (tgt := 19) (by decide +kernel) (by decide) (fun hc2 => ?_) (fun hc2 => ?_)
    · refine n_iconst (n := 0) (v := 0) (by decide +kernel) rfl ?_
      exact hJ _ (if_neg hc2).symm
    · refine n_iconst (n := 1) (v := 1) (by decide +kernel) rfl ?_
      refine n_goto (off := 4) (tgt := 20) (by decide +kernel) (by decide) ?_
      exact hJ _ (if_pos hc2).symm
  refine n_iconst (n := 1) (v := 1) (by decide +kernel) rfl ?_
  refine n_iconst (n := 2) (v := 2) (by decide +kernel) rfl ?_
  obtain ⟨⟨v3, M3⟩, h3, hr⟩ := bso hr
  try dsimp only at hr
  refine n_callVi G [_, _, _] (x := v3) (M1 := M3) (B_X10_bad G hp0 h3) (by decide) mX10_bad ml_RX10_161 hp0 (by decide +kernel) rfl rfl (Nat.le_of_ble_eq_true rfl) (by decide +kernel) ?_
  refine n_if_eq (off := 5) (tgt := 30) (by decide +kernel) (by decide) (fun hc4 => ?_) (fun hc4 => ?_)
  · rw [if_pos hc4] at hr
    refine n_iconst (n := 0) (v := 0) (by decide +kernel) rfl ?_
    refine n_istore_n (n := 2) (lo2 := [_, _, _, _]) (by decide +kernel) (Nat.le_of_ble_eq_true rfl) rfl ?_
    refine n_iconst (n := 0) (v := 0) (by decide +kernel) rfl ?_
    refine n_istore_n (n := 3) (lo2 := [_, _, _, _]) (by decide +kernel) (Nat.le_of_ble_eq_true rfl) rfl ?_
    obtain ⟨z2_13, h13, hr⟩ := bso hr
    refine (W_X10_way_b34 G hp0 h13 _ _) ?_
    dsimp only [Q_X10_way_b34]
    refine n_aload_n (n := 0) (by decide +kernel) rfl ?_
    refine n_iconst (n := -1) (v := -1) (by decide +kernel) rfl ?_
    refine n_putI G fl_RX10_343 hp0 (by decide +kernel) (by decide +kernel) ?_
    refine n_aload_n (n := 0) (by decide +kernel) rfl ?_
    refine n_iload_n (n := 2) (by decide +kernel) rfl ?_
    refine n_iconst (n := 0) (v := 0) (by decide +kernel) rfl ?_
    refine n_iconst (n := 0) (v := 0) (by decide +kernel) rfl ?_
    refine n_iconst (n := 0) (v := 0) (by decide +kernel) rfl ?_
    refine n_lconst (n := 0) (v := 0) (by decide +kernel) rfl ?_
    obtain ⟨M14, h14, hr⟩ := bso hr
    refine n_callVv G [_, _, _, _, _] (M1 := M14) (B_X10_ways G hp0 h14) (by decide) mX10_ways ml_RX10_352 hp0 (by decide +kernel) rfl rfl (Nat.le_of_ble_eq_true rfl) (by decide +kernel) ?_
    refine n_iload_n (n := 1) (by decide +kernel) rfl ?_
    refine n_if_ne (off := 19) (tgt := 115) (by decide +kernel) (by decide) (fun hc15 => ?_) (fun hc15 => ?_)
    · rw [if_neg hc15] at hr
      refine n_aload_n (n := 0) (by decide +kernel) rfl ?_
      refine n_getL G fl_RX10_346 hp0 (by decide +kernel) (by decide +kernel) ?_
      cases hr
      exact n_lreturn (by decide +kernel)
    · rw [if_pos hc15] at hr
      refine n_aload_n (n := 0) (by decide +kernel) rfl ?_
      refine n_getF (q := 80) G fl_RX10_23 hp0 (by decide +kernel) (by decide +kernel) (by decide +kernel) (fun hp16q => ?_)
      refine n_bipush (n := 7) (v := 7) (by decide +kernel) rfl ?_
      obtain ⟨v17, h17, hr⟩ := bso hr
      refine n_iald G h17 hp16q (by decide +kernel) (by decide +kernel) (by decide +kernel) ?_
      refine n_aload_n (n := 0) (by decide +kernel) rfl ?_
      refine n_getI G fl_RX10_343 hp0 (by decide +kernel) (by decide +kernel) ?_
      refine n_imul (by decide +kernel) ?_
      refine n_i2l (by decide +kernel) ?_
      refine n_goto (off := 7) (tgt := 119) (by decide +kernel) (by decide) ?_
      cases hr
      exact n_lreturn (by decide +kernel)
  · rw [if_neg hc4] at hr
    refine n_lconst (n := 0) (v := 0) (by decide +kernel) rfl ?_
    cases hr
    exact n_lreturn (by decide +kernel)
abbrev P_X10_heapsBy_b40 (l : Launch) (s0 : State) (D : va_G) (cy : Nat → ClassId) (ad : Nat → Nat) (P : Nat → Prop) (x1 : Int32) (x2 : Int32) (M : Mm) (res : Rs) (M' : Mm) (s : (Int32 × Int32)) : Prop := Rn l s0 D cy ad P 12 KX10_heapsBy 40 [.ref 76, .int x1, .int x2, .null, .int (s.1), .int (s.2), .null, .null, .null] [] M res M'
abbrev Q_X10_heapsBy_b40 (l : Launch) (s0 : State) (D : va_G) (cy : Nat → ClassId) (ad : Nat → Nat) (P : Nat → Prop) (x1 : Int32) (x2 : Int32) (M : Mm) (res : Rs) (M' : Mm) (e : Int32) : Prop := Rn l s0 D cy ad P 12 KX10_heapsBy 183 [.null, .null, .null, .null, .int (e), .null, .null, .null, .null] [] M res M'
set_option maxRecDepth 100000 in
theorem B_X10_heapsBy_j160 (G : GG l s0 b L xs D cy ad) {x1 : Int32} {x2 : Int32} {x4 : Int32} {x5 : Int32} {xs0 : Int32} {M : Mm}  {res : Rs} {M' : Mm} {r : ((Int32 × Int32) ⊕ Int32)} (hp0 : P 76) (hr : f_X10_heapsBy_j160 x1 x2 x4 x5 xs0 M = some r) (hk : mtc (P_X10_heapsBy_b40 l s0 D cy ad P x1 x2 M res M') (Q_X10_heapsBy_b40 l s0 D cy ad P x1 x2 M res M') r) : Rn l s0 D cy ad P 12 KX10_heapsBy 160 [.ref 76, .int x1, .int x2, .null, .int x4, .int x5, .null, .null, .null] [.int xs0] M res M' := by
  unfold f_X10_heapsBy_j160 at hr
  refine n_istore (n := 8) (lo2 := [_, _, _, _, _, _, _, _, _]) (by decide +kernel) (Nat.le_of_ble_eq_true rfl) rfl ?_
  refine n_iload (n := 4) (by decide +kernel) rfl ?_
  refine n_aload_n (n := 0) (by decide +kernel) rfl ?_
  refine n_getF (q := 80) G fl_RX10_23 hp0 (by decide +kernel) (by decide +kernel) (by decide +kernel) (fun hp23q => ?_)
  refine n_bipush (n := 7) (v := 7) (by decide +kernel) rfl ?_
  obtain ⟨v24, h24, hr⟩ := bso hr
  refine n_iald G h24 hp23q (by decide +kernel) (by decide +kernel) (by decide +kernel) ?_
  refine n_iload (n := 8) (by decide +kernel) rfl ?_
  refine n_imul (by decide +kernel) ?_
  refine n_iadd (by decide +kernel) ?_
  refine n_istore (n := 4) (lo2 := [_, _, _, _, _, _, _, _, _]) (by decide +kernel) (Nat.le_of_ble_eq_true rfl) rfl ?_
  refine n_iincK (n := 5) (j := 1) (w := 1) (lo2 := [_, _, _, _, _, _, _, _, _]) (by decide +kernel) rfl rfl rfl ?_
  refine n_goto (off := -140) (tgt := 40) (by decide +kernel) (by decide) ?_
  cases hr
  refine n_msk [true, true, true, false, true, true, false, false, false] (lo2 := [_, _, _, .null, _, _, .null, .null, .null]) rfl rfl ?_
  exact hk
set_option maxRecDepth 100000 in
theorem B_X10_heapsBy_j128 (G : GG l s0 b L xs D cy ad) {x1 : Int32} {x2 : Int32} {x4 : Int32} {x5 : Int32} {x6 : Int32} {x7 : Int32} {xs0 : Int32} {M : Mm}  {res : Rs} {M' : Mm} {r : ((Int32 × Int32) ⊕ Int32)} (hp0 : P 76) (hr : f_X10_heapsBy_j128 x1 x2 x4 x5 x6 x7 xs0 M = some r) (hk : mtc (P_X10_heapsBy_b40 l s0 D cy ad P x1 x2 M res M') (Q_X10_heapsBy_b40 l s0 D cy ad P x1 x2 M res M') r) : Rn l s0 D cy ad P 12 KX10_heapsBy 128 [.ref 76, .int x1, .int x2, .null, .int x4, .int x5, .int x6, .int x7, .null] [.int xs0] M res M' := by
  unfold f_X10_heapsBy_j128 at hr
  refine n_istore (n := 8) (lo2 := [_, _, _, _, _, _, _, _, _]) (by decide +kernel) (Nat.le_of_ble_eq_true rfl) rfl ?_
  refine n_iload_n (n := 2) (by decide +kernel) rfl ?_
  refine n_iconst (n := -1) (v := -1) (by decide +kernel) rfl ?_
  refine n_icmp_ne (off := 8) (tgt := 140) (by decide +kernel) (by decide) (fun hc20 => ?_) (fun hc20 => ?_)
  · rw [if_neg hc20] at hr
    refine n_iload (n := 8) (by decide +kernel) rfl ?_
    refine n_iload (n := 6) (by decide +kernel) rfl ?_
    refine n_iload (n := 7) (by decide +kernel) rfl ?_
    refine n_iload_n (n := 2) (by decide +kernel) rfl ?_
    refine n_bipush (n := 8) (v := 8) (by decide +kernel) rfl ?_
    refine n_irem (by decide) (by decide +kernel) ?_
    refine n_iload_n (n := 2) (by decide +kernel) rfl ?_
    refine n_bipush (n := 8) (v := 8) (by decide +kernel) rfl ?_
    refine n_idiv (by decide) (by decide +kernel) ?_
    obtain ⟨v21, h21, hr⟩ := bso hr
    refine n_callSi G [_, _, _, _] (x := v21) (B_X10_farOf G  h21) (by decide) mX10_farOf ml_RX10_266 rfl rfl (Nat.le_of_ble_eq_true rfl) (by decide +kernel) ?_
    obtain ⟨v22, h22, hr⟩ := bso hr
    refine n_callSi G [_, _] (x := v22) (B_X10_less G  h22) (by decide) mX10_less ml_RX10_248 rfl rfl (Nat.le_of_ble_eq_true rfl) (by decide +kernel) ?_
    refine n_msk [true, true, true, false, true, true, false, false, false] (lo2 := [_, _, _, .null, _, _, .null, .null, .null]) rfl rfl ?_
    exact B_X10_heapsBy_j160 G hp0 hr hk
  · rw [if_pos hc20] at hr
    refine n_iload (n := 8) (by decide +kernel) rfl ?_
    refine n_goto (off := 23) (tgt := 160) (by decide +kernel) (by decide) ?_
    refine n_msk [true, true, true, false, true, true, false, false, false] (lo2 := [_, _, _, .null, _, _, .null, .null, .null]) rfl rfl ?_
    exact B_X10_heapsBy_j160 G hp0 hr hk
end NB
