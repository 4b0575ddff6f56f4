/-! printed rows: a method is its function -/
section NB
variable {l : Launch} {s0 : State} {b L : Nat} {xs : Nat → Int32} {D : va_G} {cy : Nat → ClassId} {ad : Nat → Nat} {P : Nat → Prop}
set_option maxRecDepth 100000 in
theorem B_X10_readsStep_j79 (G : GG l s0 b L xs D cy ad) {n : Nat} {rec : Nat → Mm → Option Mm} {x1 : Int32} {a2 : Nat} {M : Mm} {r : Mm} (hrec0 : ∀  (M r : Mm) (hp0 : P 76), rec 0  M = some r → Cl l s0 D cy ad P (13 + n) KX10_readsStep [.ref 76] M (.inl none) r) (hp0 : P 76) (hp2 : P a2) (hs2 : SH a2 = 12) (hn2 : LN a2 = 3) (hr : f_X10_readsStep_j79 rec x1 a2 M = some r) : Rn l s0 D cy ad P (13 + (n + 1)) KX10_readsStep 79 [.ref 76, .int x1, .ref a2] [] M (.inl none) (r) := by
  unfold f_X10_readsStep_j79 at hr
  refine n_aload_n (n := 2) (by decide +kernel) rfl ?_
  refine n_iconst (n := 1) (v := 1) (by decide +kernel) rfl ?_
  refine n_aload_n (n := 0) (by decide +kernel) rfl ?_
  refine n_aload_n (n := 0) (by decide +kernel) rfl ?_
  refine n_getF (q := 80) G fl_RX10_23 hp0 (by decide +kernel) (by decide +kernel) (by decide +kernel) (fun hp10q => ?_)
  refine n_iconst (n := 0) (v := 0) (by decide +kernel) rfl ?_
  obtain ⟨v11, h11, hr⟩ := bso hr
  refine n_iald G h11 hp10q (by decide +kernel) (by decide +kernel) (by decide +kernel) ?_
  refine n_aload_n (n := 0) (by decide +kernel) rfl ?_
  refine n_getF (q := 80) G fl_RX10_23 hp0 (by decide +kernel) (by decide +kernel) (by decide +kernel) (fun hp12q => ?_)
  refine n_iconst (n := 1) (v := 1) (by decide +kernel) rfl ?_
  obtain ⟨v13, h13, hr⟩ := bso hr
  refine n_iald G h13 hp12q (by decide +kernel) (by decide +kernel) (by decide +kernel) ?_
  obtain ⟨⟨v14, M14⟩, h14, hr⟩ := bso hr
  try dsimp only at hr
  refine n_callVi G [_, _] (x := v14) (M1 := M14) (B_X10_cellHere G hp0 h14) (by omega) mX10_cellHere ml_RX10_154 hp0 (by decide +kernel) rfl rfl (Nat.le_of_ble_eq_true rfl) (by decide +kernel) ?_
  obtain ⟨M15, h15, hr⟩ := bso hr
  refine n_iast G h15 hp2 hs2 hn2 (by decide +kernel) ?_
  exact B_X10_readsStep_j98 G hrec0 hp0 hp2 hs2 hn2 hr
set_option maxRecDepth 100000 in
theorem B_X10_readsStep_j33 (G : GG l s0 b L xs D cy ad) {n : Nat} {rec : Nat → Mm → Option Mm} {x1 : Int32} {M : Mm} {r : Mm} (hrec0 : ∀  (M r : Mm) (hp0 : P 76), rec 0  M = some r → Cl l s0 D cy ad P (13 + n) KX10_readsStep [.ref 76] M (.inl none) r) (hp0 : P 76) (hr : f_X10_readsStep_j33 rec x1 M = some r) : Rn l s0 D cy ad P (13 + (n + 1)) KX10_readsStep 33 [.ref 76, .int x1, .null] [] M (.inl none) (r) := by
  unfold f_X10_readsStep_j33 at hr
  refine n_aload_n (n := 0) (by decide +kernel) rfl ?_
  refine n_getI G fl_RX10_104 hp0 (by decide +kernel) (by decide +kernel) ?_
  refine n_if_eq (off := 4) (tgt := 41) (by decide +kernel) (by decide) (fun hc4 => ?_) (fun hc4 => ?_)
  · rw [if_pos hc4] at hr
    refine n_aload_n (n := 0) (by decide +kernel) rfl ?_
    obtain ⟨M5, h5, hr⟩ := bso hr
    refine n_callVv G [] (M1 := M5) (B_X10_skipWord G hp0 h5) (by omega) mX10_skipWord ml_RX10_141 hp0 (by decide +kernel) rfl rfl (Nat.le_of_ble_eq_true rfl) (by decide +kernel) ?_
    refine n_aload_n (n := 0) (by decide +kernel) rfl ?_
    refine n_getF (q := 135) G fl_RX10_58 hp0 (by decide +kernel) (by decide +kernel) (by decide +kernel) (fun hp6q => ?_)
    refine n_aload_n (n := 0) (by decide +kernel) rfl ?_
    refine n_getI G fl_RX10_257 hp0 (by decide +kernel) (by decide +kernel) ?_
    obtain ⟨q7, h7, hr⟩ := bso hr
    refine n_aald G h7 hp6q (by decide +kernel) (by decide +kernel) (by decide +kernel) (fun hp7q => ?_)
    refine n_astore_n (n := 2) (lo2 := [_, _, _]) (by decide +kernel) (Nat.le_of_ble_eq_true rfl) rfl ?_
    refine n_aload_n (n := 0) (by decide +kernel) rfl ?_
    refine n_dup rfl (by decide +kernel) ?_
    refine n_getI G fl_RX10_257 hp0 (by decide +kernel) (by decide +kernel) ?_
    refine n_iconst (n := 1) (v := 1) (by decide +kernel) rfl ?_
    refine n_iadd (by decide +kernel) ?_
    refine n_putI G fl_RX10_257 hp0 (by decide +kernel) (by decide +kernel) ?_
    refine n_aload_n (n := 2) (by decide +kernel) rfl ?_
    refine n_iconst (n := 0) (v := 0) (by decide +kernel) rfl ?_
    refine n_iload_n (n := 1) (by decide +kernel) rfl ?_
    obtain ⟨M8, h8, hr⟩ := bso hr
    refine n_iast G h8 hp7q (row_135 h7).1 (row_135 h7).2 (by decide +kernel) ?_
    refine n_iload_n (n := 1) (by decide +kernel) rfl ?_
    refine n_iconst (n := 2) (v := 2) (by decide +kernel) rfl ?_
    refine n_icmp_lt (off := 8) (tgt := 79) (by decide +kernel) (by decide) (fun hc9 => ?_) (fun hc9 => ?_)
    · rw [if_pos hc9] at hr
      exact B_X10_readsStep_j79 G hrec0 hp0 hp7q (row_135 h7).1 (row_135 h7).2 hr
    · rw [if_neg hc9] at hr
      refine n_iload_n (n := 1) (by decide +kernel) rfl ?_
      refine n_iconst (n := 5) (v := 5) (by decide +kernel) rfl ?_
      refine n_icmp_ne (off := 22) (tgt := 98) (by decide +kernel) (by decide) (fun hc32 => ?_) (fun hc32 => ?_)
      · rw [if_neg hc32] at hr
        exact B_X10_readsStep_j98 G hrec0 hp0 hp7q (row_135 h7).1 (row_135 h7).2 hr
      · rw [if_pos hc32] at hr
        exact B_X10_readsStep_j79 G hrec0 hp0 hp7q (row_135 h7).1 (row_135 h7).2 hr
  · rw [if_neg hc4] at hr
    cases hr
    exact n_return (by decide +kernel)
set_option maxRecDepth 100000 in
theorem B_X10_readsStep_j19 (G : GG l s0 b L xs D cy ad) {n : Nat} {rec : Nat → Mm → Option Mm} {x1 : Int32} {M : Mm} {r : Mm} (hrec0 : ∀  (M r : Mm) (hp0 : P 76), rec 0  M = some r → Cl l s0 D cy ad P (13 + n) KX10_readsStep [.ref 76] M (.inl none) r) (hp0 : P 76) (hr : f_X10_readsStep_j19 rec x1 M = some r) : Rn l s0 D cy ad P (13 + (n + 1)) KX10_readsStep 19 [.ref 76, .int x1, .null] [] M (.inl none) (r) := by
  unfold f_X10_readsStep_j19 at hr
  refine n_iload_n (n := 1) (by decide +kernel) rfl ?_
  refine n_bipush (n := 7) (v := 7) (by decide +kernel) rfl ?_
  refine n_icmp_ne (off := 11) (tgt := 33) (by decide +kernel) (by decide) (fun hc3 => ?_) (fun hc3 => ?_)
  · rw [if_neg hc3] at hr
    exact B_X10_readsStep_j33 G hrec0 hp0 hr
  · rw [if_pos hc3] at hr
    refine n_aload_n (n := 0) (by decide +kernel) rfl ?_
    obtain ⟨⟨v33, M33⟩, h33, hr⟩ := bso hr
    try dsimp only at hr
    refine n_callVi G [] (x := v33) (M1 := M33) (B_X10_opens G hp0 h33) (by omega) mX10_opens ml_RX10_208 hp0 (by decide +kernel) rfl rfl (Nat.le_of_ble_eq_true rfl) (by decide +kernel) ?_
    refine n_if_ne (off := 4) (tgt := 33) (by decide +kernel) (by decide) (fun hc34 => ?_) (fun hc34 => ?_)
    · rw [if_neg hc34] at hr
      exact B_X10_readsStep_j33 G hrec0 hp0 hr
    · rw [if_pos hc34] at hr
      cases hr
      exact n_return (by decide +kernel)
set_option maxRecDepth 100000 in
theorem Bb_X10_readsStep (G : GG l s0 b L xs D cy ad) {n : Nat} {rec : Nat → Mm → Option Mm}  {M : Mm} {r : Mm} (hrec0 : ∀  (M r : Mm) (hp0 : P 76), rec 0  M = some r → Cl l s0 D cy ad P (13 + n) KX10_readsStep [.ref 76] M (.inl none) r) (hp0 : P 76) (hr : fb_X10_readsStep rec M = some r) : Cl l s0 D cy ad P (13 + (n + 1)) KX10_readsStep [.ref 76] M (.inl none) (r) := by
  refine cl_ofN (by decide +kernel) rfl rfl rfl (lo0 := [_, .null, .null]) rfl ?_
  unfold fb_X10_readsStep at hr
  refine n_aload_n (n := 0) (by decide +kernel) rfl ?_
  obtain ⟨⟨v1, M1⟩, h1, hr⟩ := bso hr
  try dsimp only at hr
  refine n_callVi G [] (x := v1) (M1 := M1) (B_X10_stepHere G hp0 h1) (by omega) mX10_stepHere ml_RX10_254 hp0 (by decide +kernel) rfl rfl (Nat.le_of_ble_eq_true rfl) (by decide +kernel) ?_
  refine n_istore_n (n := 1) (lo2 := [_, _, _]) (by decide +kernel) (Nat.le_of_ble_eq_true rfl) rfl ?_
  refine n_iload_n (n := 1) (by decide +kernel) rfl ?_
  refine n_iconst (n := -1) (v := -1) (by decide +kernel) rfl ?_
  refine n_icmp_ne (off := 12) (tgt := 19) (by decide +kernel) (by decide) (fun hc2 => ?_) (fun hc2 => ?_)
  · rw [if_neg hc2] at hr
    exact B_X10_readsStep_j19 G hrec0 hp0 hr
  · rw [if_pos hc2] at hr
    refine n_aload_n (n := 0) (by decide +kernel) rfl ?_
    refine n_iconst (n := 1) (v := 1) (by decide +kernel) rfl ?_
    refine n_aload_n (n := 0) (by decide +kernel) rfl ?_
    refine n_getI G fl_RX10_97 hp0 (by decide +kernel) (by decide +kernel) ?_
    obtain ⟨M35, h35, hr⟩ := bso hr
    refine n_callVv G [_, _] (M1 := M35) (B_X10_wrong G hp0 h35) (by omega) mX10_wrong ml_RX10_117 hp0 (by decide +kernel) rfl rfl (Nat.le_of_ble_eq_true rfl) (by decide +kernel) ?_
    exact B_X10_readsStep_j19 G hrec0 hp0 hr
set_option maxRecDepth 100000 in
theorem BR_X10_readsStep (G : GG l s0 b L xs D cy ad) : ∀ n : Nat, (∀  (M r : Mm) (hp0 : P 76), R_X10_readsStep n 0  M = some r → Cl l s0 D cy ad P (13 + n) KX10_readsStep [.ref 76] M (.inl none) r) := by
  intro n
  induction n with
  | zero => exact fun _ _ _ h => (nomatch h)
  | succ n ih =>
    have ih0 := ih
    exact fun  _ _ hp0 h => Bb_X10_readsStep G ih0 hp0 h
set_option maxRecDepth 100000 in
theorem B_X10_readsStep (G : GG l s0 b L xs D cy ad)  {M r : Mm} (hp0 : P 76) (hr : f_X10_readsStep  M = some r) : Cl l s0 D cy ad P 73 KX10_readsStep [.ref 76] M (.inl none) r := (BR_X10_readsStep G 60)  _ _ hp0 hr
set_option maxRecDepth 100000 in
theorem B_X10_farOf (G : GG l s0 b L xs D cy ad)  {x0 : Int32} {x1 : Int32} {x2 : Int32} {x3 : Int32} {M : Mm} {r : Int32}  (hr : f_X10_farOf x0 x1 x2 x3 M = some r) : Cl l s0 D cy ad P 9 KX10_farOf [.int x0, .int x1, .int x2, .int x3] M (.inl (some (.int r))) (M) := by
  refine cl_ofN (by decide +kernel) rfl rfl okI (lo0 := [_, _, _, _]) rfl ?_
  unfold f_X10_farOf at hr
  refine n_iload_n (n := 0) (by decide +kernel) rfl ?_
  refine n_iload_n (n := 2) (by decide +kernel) rfl ?_
  refine n_dia2 (J := 14) (c := x0 ≤ x2) (a := (x2 - x0)) (b := (x0 - x2)) (fun hJ => ?_) ?_
  · refine n_icmp_le (off := 9) (tgt := 11) (by decide +kernel) (by decide) (fun hc1 => ?_) (fun hc1 => ?_)
    · refine n_iload_n (n := 2) (by decide +kernel) rfl ?_
      refine n_iload_n (n := 0) (by decide +kernel) rfl ?_
      refine n_isub (by decide +kernel) ?_
      exact hJ _ (if_pos hc1).symm
    · refine n_iload_n (n := 0) (by decide +kernel) rfl ?_
      refine n_iload_n (n := 2) (by decide +kernel) rfl ?_
      refine n_isub (by decide +kernel) ?_
      refine n_goto (off := 6) (tgt := 14) (by decide +kernel) (by decide) ?_
      exact hJ _ (if_neg hc1).symm
  refine n_iload_n (n := 1) (by decide +kernel) rfl ?_
  refine n_iload_n (n := 3) (by decide +kernel) rfl ?_
  refine n_dia2 (J := 28) (c := x1 ≤ x3) (a := (x3 - x1)) (b := (x1 - x3)) (fun hJ => ?_) ?_
  · refine n_icmp_le (off := 9) (tgt := 25) (by decide +kernel) (by decide) (fun hc2 => ?_) (fun hc2 => ?_)
    · refine n_iload_n (n := 3) (by decide +kernel) rfl ?_
      refine n_iload_n (n := 1) (by decide +kernel) rfl ?_
      refine n_isub (by decide +kernel) ?_
      exact hJ _ (if_pos hc2).symm
    · refine n_iload_n (n := 1) (by decide +kernel) rfl ?_
      refine n_iload_n (n := 3) (by decide +kernel) rfl ?_
      refine n_isub (by decide +kernel) ?_
      refine n_goto (off := 6) (tgt := 28) (by decide +kernel) (by decide) ?_
      exact hJ _ (if_neg hc2).symm
  refine n_iadd (by decide +kernel) ?_
  cases hr
  exact n_ireturn (by decide +kernel)
abbrev P_X10_onSledge_b4 (l : Launch) (s0 : State) (D : va_G) (cy : Nat → ClassId) (ad : Nat → Nat) (P : Nat → Prop) (a0 : Nat) (M : Mm) (res : Rs) (M' : Mm) (s : (Int32 × Int32)) : Prop := Rn l s0 D cy ad P 10 KX10_onSledge 4 [.ref a0, .int (s.1), .int (s.2)] [] M res M'
abbrev Q_X10_onSledge_b4 (l : Launch) (s0 : State) (D : va_G) (cy : Nat → ClassId) (ad : Nat → Nat) (P : Nat → Prop) (a0 : Nat) (M : Mm) (res : Rs) (M' : Mm) (e : Int32) : Prop := Rn l s0 D cy ad P 10 KX10_onSledge 42 [.null, .int (e), .null] [] M res M'
set_option maxRecDepth 100000 in
theorem B_X10_onSledge_b4 (G : GG l s0 b L xs D cy ad) {a0 : Nat} {M : Mm} {res : Rs} {M' : Mm} (hp0 : P a0) (hs0 : SH a0 = 12) : ∀ (s : (Int32 × Int32)) (r : (Int32 × Int32) ⊕ Int32), f_X10_onSledge_b4 a0 M s = some r → mtc (P_X10_onSledge_b4 l s0 D cy ad P a0 M res M') (Q_X10_onSledge_b4 l s0 D cy ad P a0 M res M') r → P_X10_onSledge_b4 l s0 D cy ad P a0 M res M' s := by
  intro s r hr hk
  obtain ⟨x1, x2⟩ := s
  unfold f_X10_onSledge_b4 at hr
  try dsimp only at hr
  dsimp only [P_X10_onSledge_b4]
  refine n_iload_n (n := 2) (by decide +kernel) rfl ?_
  refine n_aload_n (n := 0) (by decide +kernel) rfl ?_
  refine n_sipush (n := 360) (v := 360) (by decide +kernel) (by decide +kernel) ?_
  obtain ⟨v1, h1, hr⟩ := bso hr
  refine n_iald G h1 hp0 hs0 rfl (by decide +kernel) ?_
  refine n_icmp_ge (off := 32) (tgt := 42) (by decide +kernel) (by decide) (fun hc2 => ?_) (fun hc2 => ?_)
  · rw [if_pos hc2] at hr
    cases hr
    refine n_msk [false, true, false] (lo2 := [.null, _, .null]) rfl rfl ?_
    exact hk
  · rw [if_neg hc2] at hr
    refine n_iload_n (n := 1) (by decide +kernel) rfl ?_
    refine n_aload_n (n := 0) (by decide +kernel) rfl ?_
    refine n_iload_n (n := 2) (by decide +kernel) rfl ?_
    refine n_iconst (n := 4) (v := 4) (by decide +kernel) rfl ?_
    obtain ⟨v3, h3, hr⟩ := bso hr
    refine n_callSi G [_, _, _] (x := v3) (B_X10_of G hp0 hs0 h3) (by decide) mX10_of ml_RX10_222 rfl rfl (Nat.le_of_ble_eq_true rfl) (by decide +kernel) ?_
    refine n_iconst (n := 1) (v := 1) (by decide +kernel) rfl ?_
    refine n_icmp_ne (off := 12) (tgt := 33) (by decide +kernel) (by decide) (fun hc4 => ?_) (fun hc4 => ?_)
    · rw [if_neg hc4] at hr
      refine n_iconst (n := 0) (v := 0) (by decide +kernel) rfl ?_
      refine n_iadd (by decide +kernel) ?_
      refine n_istore_n (n := 1) (lo2 := [_, _, _]) (by decide +kernel) (Nat.le_of_ble_eq_true rfl) rfl ?_
      refine n_iincK (n := 2) (j := 1) (w := 1) (lo2 := [_, _, _]) (by decide +kernel) rfl rfl rfl ?_
      refine n_goto (off := -35) (tgt := 4) (by decide +kernel) (by decide) ?_
      cases hr
      exact hk
    · rw [if_pos hc4] at hr
      refine n_aload_n (n := 0) (by decide +kernel) rfl ?_
      refine n_iload_n (n := 2) (by decide +kernel) rfl ?_
      refine n_iconst (n := 2) (v := 2) (by decide +kernel) rfl ?_
      obtain ⟨v5, h5, hr⟩ := bso hr
      refine n_callSi G [_, _, _] (x := v5) (B_X10_of G hp0 hs0 h5) (by decide) mX10_of ml_RX10_222 rfl rfl (Nat.le_of_ble_eq_true rfl) (by decide +kernel) ?_
      refine n_goto (off := 4) (tgt := 34) (by decide +kernel) (by decide) ?_
      refine n_iadd (by decide +kernel) ?_
      refine n_istore_n (n := 1) (lo2 := [_, _, _]) (by decide +kernel) (Nat.le_of_ble_eq_true rfl) rfl ?_
      refine n_iincK (n := 2) (j := 1) (w := 1) (lo2 := [_, _, _]) (by decide +kernel) rfl rfl rfl ?_
      refine n_goto (off := -35) (tgt := 4) (by decide +kernel) (by decide) ?_
      cases hr
      exact hk
set_option maxRecDepth 100000 in
theorem W_X10_onSledge_b4 (G : GG l s0 b L xs D cy ad) {a0 : Nat} {M : Mm} (hp0 : P a0) (hs0 : SH a0 = 12) {s : (Int32 × Int32)} {e : Int32} (h : whl fu (f_X10_onSledge_b4 a0 M) s = some e) (res : Rs) (M' : Mm) : Q_X10_onSledge_b4 l s0 D cy ad P a0 M res M' e → P_X10_onSledge_b4 l s0 D cy ad P a0 M res M' s := whl_run (P := fun s => P_X10_onSledge_b4 l s0 D cy ad P a0 M res M' s) (Q := fun e => Q_X10_onSledge_b4 l s0 D cy ad P a0 M res M' e) (B_X10_onSledge_b4 G (res := res) (M' := M') (a0 := a0) (M := M) hp0 hs0) fu s h
set_option maxRecDepth 100000 in
theorem B_X10_onSledge (G : GG l s0 b L xs D cy ad)  {a0 : Nat} {M : Mm} {r : Int32} (hp0 : P a0) (hs0 : SH a0 = 12) (hr : f_X10_onSledge a0 M = some r) : Cl l s0 D cy ad P 10 KX10_onSledge [.ref a0] M (.inl (some (.int r))) (M) := by
  refine cl_ofN (by decide +kernel) rfl rfl okI (lo0 := [_, .null, .null]) rfl ?_
  unfold f_X10_onSledge at hr
  refine n_iconst (n := 0) (v := 0) (by decide +kernel) rfl ?_
  refine n_istore_n (n := 1) (lo2 := [_, _, _]) (by decide +kernel) (Nat.le_of_ble_eq_true rfl) rfl ?_
  refine n_iconst (n := 0) (v := 0) (by decide +kernel) rfl ?_
  refine n_istore_n (n := 2) (lo2 := [_, _, _]) (by decide +kernel) (Nat.le_of_ble_eq_true rfl) rfl ?_
  obtain ⟨z1_6, h6, hr⟩ := bso hr
  refine (W_X10_onSledge_b4 G hp0 hs0 h6 _ _) ?_
  dsimp only [Q_X10_onSledge_b4]
  refine n_iload_n (n := 1) (by decide +kernel) rfl ?_
  cases hr
  exact n_ireturn (by decide +kernel)
abbrev P_X10_loadsOf_b12 (l : Launch) (s0 : State) (D : va_G) (cy : Nat → ClassId) (ad : Nat → Nat) (P : Nat → Prop) (a1 : Nat) (x2 : Int32) (x3 : Int32) (M : Mm) (res : Rs) (M' : Mm) (s : (Int64 × Int32 × Int32)) : Prop := Rn l s0 D cy ad P 11 KX10_loadsOf 12 [.ref 76, .ref a1, .int x2, .int x3, .long (s.1), .null, .int (s.2.1), .int (s.2.2)] [] M res M'
abbrev Q_X10_loadsOf_b12 (l : Launch) (s0 : State) (D : va_G) (cy : Nat → ClassId) (ad : Nat → Nat) (P : Nat → Prop) (a1 : Nat) (x2 : Int32) (x3 : Int32) (M : Mm) (res : Rs) (M' : Mm) (e : Int64) : Prop := Rn l s0 D cy ad P 11 KX10_loadsOf 116 [.null, .null, .null, .null, .long (e), .null, .null, .null] [] M res M'
set_option maxRecDepth 100000 in
theorem B_X10_loadsOf_b12 (G : GG l s0 b L xs D cy ad) {a1 : Nat} {x2 : Int32} {x3 : Int32} {M : Mm} {res : Rs} {M' : Mm} (hp0 : P 76) (hp1 : P a1) (hs1 : SH a1 = 12) : ∀ (s : (Int64 × Int32 × Int32)) (r : (Int64 × Int32 × Int32) ⊕ Int64), f_X10_loadsOf_b12 a1 x2 x3 M s = some r → mtc (P_X10_loadsOf_b12 l s0 D cy ad P a1 x2 x3 M res M') (Q_X10_loadsOf_b12 l s0 D cy ad P a1 x2 x3 M res M') r → P_X10_loadsOf_b12 l s0 D cy ad P a1 x2 x3 M res M' s := by
  intro s r hr hk
  obtain ⟨y4, x6, x7⟩ := s
  unfold f_X10_loadsOf_b12 at hr
  try dsimp only at hr
  dsimp only [P_X10_loadsOf_b12]
  refine n_iload (n := 7) (by decide +kernel) rfl ?_
  refine n_aload_n (n := 1) (by decide +kernel) rfl ?_
  refine n_sipush (n := 360) (v := 360) (by decide +kernel) (by decide +kernel) ?_
  obtain ⟨v2, h2, hr⟩ := bso hr
  refine n_iald G h2 hp1 hs1 rfl (by decide +kernel) ?_
  refine n_icmp_ge (off := 97) (tgt := 116) (by decide +kernel) (by decide) (fun hc3 => ?_) (fun hc3 => ?_)
  · rw [if_pos hc3] at hr
    cases hr
    refine n_msk [false, false, false, false, true, false, false, false] (lo2 := [.null, .null, .null, .null, _, .null, .null, .null]) rfl rfl ?_
    exact hk
  · rw [if_neg hc3] at hr
    refine n_aload_n (n := 1) (by decide +kernel) rfl ?_
    refine n_iload (n := 7) (by decide +kernel) rfl ?_
    obtain ⟨v4, h4, hr⟩ := bso hr
    refine n_callSi G [_, _] (x := v4) (B_X10_isLying G hp1 hs1 h4) (by decide) mX10_isLying ml_RX10_226 rfl rfl (Nat.le_of_ble_eq_true rfl) (by decide +kernel) ?_
    refine n_if_eq (off := 82) (tgt := 110) (by decide +kernel) (by decide) (fun hc5 => ?_) (fun hc5 => ?_)
    · rw [if_pos hc5] at hr
      refine n_iincK (n := 7) (j := 1) (w := 1) (lo2 := [_, _, _, _, _, _, _, _]) (by decide +kernel) rfl rfl rfl ?_
      refine n_goto (off := -101) (tgt := 12) (by decide +kernel) (by decide) ?_
      cases hr
      exact hk
    · rw [if_neg hc5] at hr
      refine n_aload_n (n := 1) (by decide +kernel) rfl ?_
      refine n_iload (n := 7) (by decide +kernel) rfl ?_
      obtain ⟨v6, h6, hr⟩ := bso hr
      refine n_callSi G [_, _] (x := v6) (B_X10_cellOf G hp1 hs1 h6) (by decide) mX10_cellOf ml_RX10_230 rfl rfl (Nat.le_of_ble_eq_true rfl) (by decide +kernel) ?_
      refine n_iload_n (n := 2) (by decide +kernel) rfl ?_
      refine n_icmp_ne (off := 72) (tgt := 110) (by decide +kernel) (by decide) (fun hc7 => ?_) (fun hc7 => ?_)
      · rw [if_neg hc7] at hr
        refine n_iincK (n := 7) (j := 1) (w := 1) (lo2 := [_, _, _, _, _, _, _, _]) (by decide +kernel) rfl rfl rfl ?_
        refine n_goto (off := -101) (tgt := 12) (by decide +kernel) (by decide) ?_
        cases hr
        exact hk
      · rw [if_pos hc7] at hr
        refine n_aload_n (n := 1) (by decide +kernel) rfl ?_
        refine n_iload (n := 7) (by decide +kernel) rfl ?_
        refine n_iconst (n := 2) (v := 2) (by decide +kernel) rfl ?_
        obtain ⟨v8, h8, hr⟩ := bso hr
        refine n_callSi G [_, _, _] (x := v8) (B_X10_of G hp1 hs1 h8) (by decide) mX10_of ml_RX10_222 rfl rfl (Nat.le_of_ble_eq_true rfl) (by decide +kernel) ?_
        refine n_aload_n (n := 0) (by decide +kernel) rfl ?_
        refine n_getF (q := 80) G fl_RX10_23 hp0 (by decide +kernel) (by decide +kernel) (by decide +kernel) (fun hp9q => ?_)
        refine n_iconst (n := 4) (v := 4) (by decide +kernel) rfl ?_
        obtain ⟨v10, h10, hr⟩ := bso hr
        refine n_iald G h10 hp9q (by decide +kernel) (by decide +kernel) (by decide +kernel) ?_
        refine n_dia2 (J := 62) (c := v8 ≤ v10) (a := (0 : Int32)) (b := (1 : Int32)) (fun hJ => ?_) ?_
        · refine n_icmp_le (off := 7) (tgt := 61) (by decide +kernel) (by decide) (fun hc11 => ?_) (fun hc11 => ?_)
          · refine n_iconst (n := 0) (v := 0) (by decide +kernel) rfl ?_
            exact hJ _ (if_pos hc11).symm
          · refine n_iconst (n := 1) (v := 1) (by decide +kernel) rfl ?_
            refine n_goto (off := 4) (tgt := 62) (by decide +kernel) (by decide) ?_
            exact hJ _ (if_neg hc11).symm
        refine n_iload_n (n := 3) (by decide +kernel) rfl ?_
        refine n_icmp_ne (off := 47) (tgt := 110) (by decide +kernel) (by decide) (fun hc12 => ?_) (fun hc12 => ?_)
        · rw [if_neg hc12] at hr
          refine n_iincK (n := 7) (j := 1) (w := 1) (lo2 := [_, _, _, _, _, _, _, _]) (by decide +kernel) rfl rfl rfl ?_
          refine n_goto (off := -101) (tgt := 12) (by decide +kernel) (by decide) ?_
          cases hr
          exact hk
        · rw [if_pos hc12] at hr
          refine n_iload (n := 6) (by decide +kernel) rfl ?_
          refine n_aload_n (n := 1) (by decide +kernel) rfl ?_
          refine n_iload (n := 7) (by decide +kernel) rfl ?_
          refine n_iconst (n := 2) (v := 2) (by decide +kernel) rfl ?_
          obtain ⟨v13, h13, hr⟩ := bso hr
          refine n_callSi G [_, _, _] (x := v13) (B_X10_of G hp1 hs1 h13) (by decide) mX10_of ml_RX10_222 rfl rfl (Nat.le_of_ble_eq_true rfl) (by decide +kernel) ?_
          refine n_iadd (by decide +kernel) ?_
          refine n_aload_n (n := 0) (by decide +kernel) rfl ?_
          refine n_getF (q := 80) G fl_RX10_23 hp0 (by decide +kernel) (by decide +kernel) (by decide +kernel) (fun hp14q => ?_)
          refine n_bipush (n := 8) (v := 8) (by decide +kernel) rfl ?_
          obtain ⟨v15, h15, hr⟩ := bso hr
          refine n_iald G h15 hp14q (by decide +kernel) (by decide +kernel) (by decide +kernel) ?_
          refine n_icmp_le (off := 6) (tgt := 89) (by decide +kernel) (by decide) (fun hc16 => ?_) (fun hc16 => ?_)
          · rw [if_pos hc16] at hr
            refine n_lload (n := 4) (by decide +kernel) rfl ?_
            refine n_lconst (n := 1) (v := 1) (by decide +kernel) rfl ?_
            refine n_iload (n := 7) (by decide +kernel) rfl ?_
            refine n_lshl (by decide +kernel) ?_
            refine n_lor (by decide +kernel) ?_
            refine n_lstore (n := 4) (lo2 := [_, _, _, _, _, _, _, _]) (by decide +kernel) (Nat.le_of_ble_eq_true rfl) rfl ?_
            refine n_iload (n := 6) (by decide +kernel) rfl ?_
            refine n_aload_n (n := 1) (by decide +kernel) rfl ?_
            refine n_iload (n := 7) (by decide +kernel) rfl ?_
            refine n_iconst (n := 2) (v := 2) (by decide +kernel) rfl ?_
            obtain ⟨v17, h17, hr⟩ := bso hr
            refine n_callSi G [_, _, _] (x := v17) (B_X10_of G hp1 hs1 h17) (by decide) mX10_of ml_RX10_222 rfl rfl (Nat.le_of_ble_eq_true rfl) (by decide +kernel) ?_
            refine n_iadd (by decide +kernel) ?_
            refine n_istore (n := 6) (lo2 := [_, _, _, _, _, _, _, _]) (by decide +kernel) (Nat.le_of_ble_eq_true rfl) rfl ?_
            refine n_iincK (n := 7) (j := 1) (w := 1) (lo2 := [_, _, _, _, _, _, _, _]) (by decide +kernel) rfl rfl rfl ?_
            refine n_goto (off := -101) (tgt := 12) (by decide +kernel) (by decide) ?_
            cases hr
            exact hk
          · rw [if_neg hc16] at hr
            refine n_goto (off := 24) (tgt := 110) (by decide +kernel) (by decide) ?_
            refine n_iincK (n := 7) (j := 1) (w := 1) (lo2 := [_, _, _, _, _, _, _, _]) (by decide +kernel) rfl rfl rfl ?_
            refine n_goto (off := -101) (tgt := 12) (by decide +kernel) (by decide) ?_
            cases hr
            exact hk
set_option maxRecDepth 100000 in
theorem W_X10_loadsOf_b12 (G : GG l s0 b L xs D cy ad) {a1 : Nat} {x2 : Int32} {x3 : Int32} {M : Mm} (hp0 : P 76) (hp1 : P a1) (hs1 : SH a1 = 12) {s : (Int64 × Int32 × Int32)} {e : Int64} (h : whl fu (f_X10_loadsOf_b12 a1 x2 x3 M) s = some e) (res : Rs) (M' : Mm) : Q_X10_loadsOf_b12 l s0 D cy ad P a1 x2 x3 M res M' e → P_X10_loadsOf_b12 l s0 D cy ad P a1 x2 x3 M res M' s := whl_run (P := fun s => P_X10_loadsOf_b12 l s0 D cy ad P a1 x2 x3 M res M' s) (Q := fun e => Q_X10_loadsOf_b12 l s0 D cy ad P a1 x2 x3 M res M' e) (B_X10_loadsOf_b12 G (res := res) (M' := M') (a1 := a1) (x2 := x2) (x3 := x3) (M := M) hp0 hp1 hs1) fu s h
set_option maxRecDepth 100000 in
theorem B_X10_loadsOf (G : GG l s0 b L xs D cy ad)  {a1 : Nat} {x2 : Int32} {x3 : Int32} {M : Mm} {r : Int64} (hp0 : P 76) (hp1 : P a1) (hs1 : SH a1 = 12) (hr : f_X10_loadsOf a1 x2 x3 M = some r) : Cl l s0 D cy ad P 11 KX10_loadsOf [.ref 76, .ref a1, .int x2, .int x3] M (.inl (some (.long r))) (M) := by
  refine cl_ofN (by decide +kernel) rfl rfl rfl (lo0 := [_, _, _, _, .null, .null, .null, .null]) rfl ?_
  unfold f_X10_loadsOf at hr
  refine n_lconst (n := 0) (v := 0) (by decide +kernel) rfl ?_
  refine n_lstore (n := 4) (lo2 := [_, _, _, _, _, _, _, _]) (by decide +kernel) (Nat.le_of_ble_eq_true rfl) rfl ?_
  refine n_aload_n (n := 1) (by decide +kernel) rfl ?_
  obtain ⟨v1, h1, hr⟩ := bso hr
  refine n_callSi G [_] (x := v1) (B_X10_onSledge G hp1 hs1 h1) (by decide) mX10_onSledge ml_RX10_263 rfl rfl (Nat.le_of_ble_eq_true rfl) (by decide +kernel) ?_
  refine n_istore (n := 6) (lo2 := [_, _, _, _, _, _, _, _]) (by decide +kernel) (Nat.le_of_ble_eq_true rfl) rfl ?_
  refine n_iconst (n := 0) (v := 0) (by decide +kernel) rfl ?_
  refine n_istore (n := 7) (lo2 := [_, _, _, _, _, _, _, _]) (by decide +kernel) (Nat.le_of_ble_eq_true rfl) rfl ?_
  obtain ⟨w4_18, h18, hr⟩ := bso hr
  refine (W_X10_loadsOf_b12 G hp0 hp1 hs1 h18 _ _) ?_
  dsimp only [Q_X10_loadsOf_b12]
  refine n_lload (n := 4) (by decide +kernel) rfl ?_
  cases hr
  exact n_lreturn (by decide +kernel)
abbrev P_X10_liftMinutes_b38 (l : Launch) (s0 : State) (D : va_G) (cy : Nat → ClassId) (ad : Nat → Nat) (P : Nat → Prop) (a1 : Nat) (y3 : Int64) (x6 : Int32) (M : Mm) (res : Rs) (M' : Mm) (s : (Int32 × Int32)) : Prop := Rn l s0 D cy ad P 10 KX10_liftMinutes 38 [.ref 76, .ref a1, .null, .long y3, .null, .int (s.1), .int x6, .int (s.2)] [] M res M'
abbrev Q_X10_liftMinutes_b38 (l : Launch) (s0 : State) (D : va_G) (cy : Nat → ClassId) (ad : Nat → Nat) (P : Nat → Prop) (a1 : Nat) (y3 : Int64) (x6 : Int32) (M : Mm) (res : Rs) (M' : Mm) (e : Int32) : Prop := Rn l s0 D cy ad P 10 KX10_liftMinutes 84 [.ref 76, .null, .null, .null, .null, .int (e), .null, .null] [] M res M'
set_option maxRecDepth 100000 in
theorem B_X10_liftMinutes_b38 (G : GG l s0 b L xs D cy ad) {a1 : Nat} {y3 : Int64} {x6 : Int32} {M : Mm} {res : Rs} {M' : Mm} (hp0 : P 76) (hp1 : P a1) (hs1 : SH a1 = 12) : ∀ (s : (Int32 × Int32)) (r : (Int32 × Int32) ⊕ Int32), f_X10_liftMinutes_b38 a1 y3 x6 M s = some r → mtc (P_X10_liftMinutes_b38 l s0 D cy ad P a1 y3 x6 M res M') (Q_X10_liftMinutes_b38 l s0 D cy ad P a1 y3 x6 M res M') r → P_X10_liftMinutes_b38 l s0 D cy ad P a1 y3 x6 M res M' s := by
  intro s r hr hk
  obtain ⟨x5, x7⟩ := s
  unfold f_X10_liftMinutes_b38 at hr
  try dsimp only at hr
  dsimp only [P_X10_liftMinutes_b38]
  refine n_iload (n := 7) (by decide +kernel) rfl ?_
  refine n_aload_n (n := 1) (by decide +kernel) rfl ?_
  refine n_sipush (n := 360) (v := 360) (by decide +kernel) (by decide +kernel) ?_
  obtain ⟨v6, h6, hr⟩ := bso hr
  refine n_iald G h6 hp1 hs1 rfl (by decide +kernel) ?_
  refine n_icmp_ge (off := 39) (tgt := 84) (by decide +kernel) (by decide) (fun hc7 => ?_) (fun hc7 => ?_)
  · rw [if_pos hc7] at hr
    cases hr
    refine n_msk [true, false, false, false, false, true, false, false] (lo2 := [_, .null, .null, .null, .null, _, .null, .null]) rfl rfl ?_
    exact hk
  · rw [if_neg hc7] at hr
    refine n_iload (n := 5) (by decide +kernel) rfl ?_
    refine n_lload_n (n := 3) (by decide +kernel) rfl ?_
    refine n_iload (n := 7) (by decide +kernel) rfl ?_
    refine n_lshr (by decide +kernel) ?_
    refine n_lconst (n := 1) (v := 1) (by decide +kernel) rfl ?_
    refine n_land (by decide +kernel) ?_
    refine n_lconst (n := 1) (v := 1) (by decide +kernel) rfl ?_
    refine n_lcmp (by decide +kernel) ?_
    refine n_if_ne (off := 16) (tgt := 74) (by decide +kernel) (by decide) (fun hc8 => ?_) (fun hc8 => ?_)
    · rw [if_neg hc8] at hr
      refine n_iconst (n := 0) (v := 0) (by decide +kernel) rfl ?_
      refine n_iadd (by decide +kernel) ?_
      refine n_istore (n := 5) (lo2 := [_, _, _, _, _, _, _, _]) (by decide +kernel) (Nat.le_of_ble_eq_true rfl) rfl ?_
      refine n_iincK (n := 7) (j := 1) (w := 1) (lo2 := [_, _, _, _, _, _, _, _]) (by decide +kernel) rfl rfl rfl ?_
      refine n_goto (off := -43) (tgt := 38) (by decide +kernel) (by decide) ?_
      cases hr
      exact hk
    · rw [if_pos hc8] at hr
      refine n_iload (n := 6) (by decide +kernel) rfl ?_
      refine n_aload_n (n := 1) (by decide +kernel) rfl ?_
      refine n_iload (n := 7) (by decide +kernel) rfl ?_
      refine n_iconst (n := 2) (v := 2) (by decide +kernel) rfl ?_
      obtain ⟨v9, h9, hr⟩ := bso hr
      refine n_callSi G [_, _, _] (x := v9) (B_X10_of G hp1 hs1 h9) (by decide) mX10_of ml_RX10_222 rfl rfl (Nat.le_of_ble_eq_true rfl) (by decide +kernel) ?_
      refine n_iadd (by decide +kernel) ?_
      refine n_goto (off := 4) (tgt := 75) (by decide +kernel) (by decide) ?_
      refine n_iadd (by decide +kernel) ?_
      refine n_istore (n := 5) (lo2 := [_, _, _, _, _, _, _, _]) (by decide +kernel) (Nat.le_of_ble_eq_true rfl) rfl ?_
      refine n_iincK (n := 7) (j := 1) (w := 1) (lo2 := [_, _, _, _, _, _, _, _]) (by decide +kernel) rfl rfl rfl ?_
      refine n_goto (off := -43) (tgt := 38) (by decide +kernel) (by decide) ?_
      cases hr
      exact hk
set_option maxRecDepth 100000 in
theorem W_X10_liftMinutes_b38 (G : GG l s0 b L xs D cy ad) {a1 : Nat} {y3 : Int64} {x6 : Int32} {M : Mm} (hp0 : P 76) (hp1 : P a1) (hs1 : SH a1 = 12) {s : (Int32 × Int32)} {e : Int32} (h : whl fu (f_X10_liftMinutes_b38 a1 y3 x6 M) s = some e) (res : Rs) (M' : Mm) : Q_X10_liftMinutes_b38 l s0 D cy ad P a1 y3 x6 M res M' e → P_X10_liftMinutes_b38 l s0 D cy ad P a1 y3 x6 M res M' s := whl_run (P := fun s => P_X10_liftMinutes_b38 l s0 D cy ad P a1 y3 x6 M res M' s) (Q := fun e => Q_X10_liftMinutes_b38 l s0 D cy ad P a1 y3 x6 M res M' e) (B_X10_liftMinutes_b38 G (res := res) (M' := M') (a1 := a1) (y3 := y3) (x6 := x6) (M := M) hp0 hp1 hs1) fu s h
set_option maxRecDepth 100000 in
theorem B_X10_liftMinutes (G : GG l s0 b L xs D cy ad)  {a1 : Nat} {x2 : Int32} {y3 : Int64} {M : Mm} {r : Int32} (hp0 : P 76) (hp1 : P a1) (hs1 : SH a1 = 12) (hr : f_X10_liftMinutes a1 x2 y3 M = some r) : Cl l s0 D cy ad P 10 KX10_liftMinutes [.ref 76, .ref a1, .int x2, .long y3] M (.inl (some (.int r))) (M) := by
  refine cl_ofN (by decide +kernel) rfl rfl okI (lo0 := [_, _, _, _, .null, .null, .null, .null]) rfl ?_
  unfold f_X10_liftMinutes at hr
  refine n_iconst (n := 0) (v := 0) (by decide +kernel) rfl ?_
  refine n_istore (n := 5) (lo2 := [_, _, _, _, _, _, _, _]) (by decide +kernel) (Nat.le_of_ble_eq_true rfl) rfl ?_
  refine n_iconst (n := 2) (v := 2) (by decide +kernel) rfl ?_
  refine n_aload_n (n := 0) (by decide +kernel) rfl ?_
  refine n_getF (q := 80) G fl_RX10_23 hp0 (by decide +kernel) (by decide +kernel) (by decide +kernel) (fun hp1q => ?_)
  refine n_iconst (n := 5) (v := 5) (by decide +kernel) rfl ?_
  obtain ⟨v2, h2, hr⟩ := bso hr
  refine n_iald G h2 hp1q (by decide +kernel) (by decide +kernel) (by decide +kernel) ?_
  refine n_imul (by decide +kernel) ?_
  refine n_iload_n (n := 2) (by decide +kernel) rfl ?_
  refine n_bipush (n := 8) (v := 8) (by decide +kernel) rfl ?_
  refine n_irem (by decide) (by decide +kernel) ?_
  refine n_iload_n (n := 2) (by decide +kernel) rfl ?_
  refine n_bipush (n := 8) (v := 8) (by decide +kernel) rfl ?_
  refine n_idiv (by decide) (by decide +kernel) ?_
  refine n_aload_n (n := 1) (by decide +kernel) rfl ?_
  refine n_sipush (n := 361) (v := 361) (by decide +kernel) (by decide +kernel) ?_
  obtain ⟨v3, h3, hr⟩ := bso hr
  refine n_iald G h3 hp1 hs1 rfl (by decide +kernel) ?_
  refine n_aload_n (n := 1) (by decide +kernel) rfl ?_
  refine n_sipush (n := 362) (v := 362) (by decide +kernel) (by decide +kernel) ?_
  obtain ⟨v4, h4, hr⟩ := bso hr
  refine n_iald G h4 hp1 hs1 rfl (by decide +kernel) ?_
  obtain ⟨v5, h5, hr⟩ := bso hr
  refine n_callSi G [_, _, _, _] (x := v5) (B_X10_farOf G  h5) (by decide) mX10_farOf ml_RX10_266 rfl rfl (Nat.le_of_ble_eq_true rfl) (by decide +kernel) ?_
  refine n_imul (by decide +kernel) ?_
  refine n_istore (n := 6) (lo2 := [_, _, _, _, _, _, _, _]) (by decide +kernel) (Nat.le_of_ble_eq_true rfl) rfl ?_
  refine n_iconst (n := 0) (v := 0) (by decide +kernel) rfl ?_
  refine n_istore (n := 7) (lo2 := [_, _, _, _, _, _, _, _]) (by decide +kernel) (Nat.le_of_ble_eq_true rfl) rfl ?_
  obtain ⟨z5_10, h10, hr⟩ := bso hr
  refine n_msk [true, true, false, true, false, true, true, true] (lo2 := [_, _, .null, _, .null, _, _, _]) rfl rfl ?_
  refine (W_X10_liftMinutes_b38 G hp0 hp1 hs1 h10 _ _) ?_
  dsimp only [Q_X10_liftMinutes_b38]
  refine n_iload (n := 5) (by decide +kernel) rfl ?_
  refine n_aload_n (n := 0) (by decide +kernel) rfl ?_
  refine n_getF (q := 80) G fl_RX10_23 hp0 (by decide +kernel) (by decide +kernel) (by decide +kernel) (fun hp11q => ?_)
  refine n_iconst (n := 3) (v := 3) (by decide +kernel) rfl ?_
  obtain ⟨v12, h12, hr⟩ := bso hr
  refine n_iald G h12 hp11q (by decide +kernel) (by decide +kernel) (by decide +kernel) ?_
  refine n_iadd (by decide +kernel) ?_
  refine n_iconst (n := 1) (v := 1) (by decide +kernel) rfl ?_
  refine n_isub (by decide +kernel) ?_
  refine n_aload_n (n := 0) (by decide +kernel) rfl ?_
  refine n_getF (q := 80) G fl_RX10_23 hp0 (by decide +kernel) (by decide +kernel) (by decide +kernel) (fun hp13q => ?_)
  refine n_iconst (n := 3) (v := 3) (by decide +kernel) rfl ?_
  obtain ⟨v14, h14, hr⟩ := bso hr
  refine n_iald G h14 hp13q (by decide +kernel) (by decide +kernel) (by decide +kernel) ?_
  by_cases hz15 : v14 = 0
  · rw [if_pos hz15] at hr; cases hr
  rw [if_neg hz15] at hr
  refine n_idiv hz15 (by decide +kernel) ?_
  cases hr
  exact n_ireturn (by decide +kernel)
abbrev P_X10_sledges_b2 (l : Launch) (s0 : State) (D : va_G) (cy : Nat → ClassId) (ad : Nat → Nat) (P : Nat → Prop) (a0 : Nat) (y1 : Int64)  (res : Rs) (M' : Mm) (s : (Int32 × Mm)) : Prop := Rn l s0 D cy ad P 9 KX10_sledges 2 [.ref a0, .long y1, .null, .int (s.1)] [] (s.2) res M'
abbrev Q_X10_sledges_b2 (l : Launch) (s0 : State) (D : va_G) (cy : Nat → ClassId) (ad : Nat → Nat) (P : Nat → Prop) (a0 : Nat) (y1 : Int64)  (res : Rs) (M' : Mm) (e : Mm) : Prop := Rn l s0 D cy ad P 9 KX10_sledges 36 [.null, .null, .null, .null] [] (e) res M'
set_option maxRecDepth 100000 in
theorem B_X10_sledges_b2 (G : GG l s0 b L xs D cy ad) {a0 : Nat} {y1 : Int64}  {res : Rs} {M' : Mm} (hp0 : P a0) (hs0 : SH a0 = 12) : ∀ (s : (Int32 × Mm)) (r : (Int32 × Mm) ⊕ Mm), f_X10_sledges_b2 a0 y1 s = some r → mtc (P_X10_sledges_b2 l s0 D cy ad P a0 y1 res M') (Q_X10_sledges_b2 l s0 D cy ad P a0 y1 res M') r → P_X10_sledges_b2 l s0 D cy ad P a0 y1 res M' s := by
  intro s r hr hk
  obtain ⟨x3, M⟩ := s
  unfold f_X10_sledges_b2 at hr
  try dsimp only at hr
  dsimp only [P_X10_sledges_b2]
  refine n_iload_n (n := 3) (by decide +kernel) rfl ?_
  refine n_aload_n (n := 0) (by decide +kernel) rfl ?_
  refine n_sipush (n := 360) (v := 360) (by decide +kernel) (by decide +kernel) ?_
  obtain ⟨v1, h1, hr⟩ := bso hr
  refine n_iald G h1 hp0 hs0 rfl (by decide +kernel) ?_
  refine n_icmp_ge (off := 28) (tgt := 36) (by decide +kernel) (by decide) (fun hc2 => ?_) (fun hc2 => ?_)
  · rw [if_pos hc2] at hr
    cases hr
    refine n_msk [false, false, false, false] (lo2 := [.null, .null, .null, .null]) rfl rfl ?_
    exact hk
  · rw [if_neg hc2] at hr
    refine n_lload_n (n := 1) (by decide +kernel) rfl ?_
    refine n_iload_n (n := 3) (by decide +kernel) rfl ?_
    refine n_lshr (by decide +kernel) ?_
    refine n_lconst (n := 1) (v := 1) (by decide +kernel) rfl ?_
    refine n_land (by decide +kernel) ?_
    refine n_lconst (n := 1) (v := 1) (by decide +kernel) rfl ?_
    refine n_lcmp (by decide +kernel) ?_
    refine n_if_ne (off := 12) (tgt := 30) (by decide +kernel) (by decide) (fun hc3 => ?_) (fun hc3 => ?_)
    · rw [if_neg hc3] at hr
      refine n_iincK (n := 3) (j := 1) (w := 1) (lo2 := [_, _, _, _]) (by decide +kernel) rfl rfl rfl ?_
      refine n_goto (off := -31) (tgt := 2) (by decide +kernel) (by decide) ?_
      cases hr
      exact hk
    · rw [if_pos hc3] at hr
      refine n_aload_n (n := 0) (by decide +kernel) rfl ?_
      refine n_bipush (n := 6) (v := 6) (by decide +kernel) rfl ?_
      refine n_iload_n (n := 3) (by decide +kernel) rfl ?_
      refine n_imul (by decide +kernel) ?_
      refine n_iconst (n := 4) (v := 4) (by decide +kernel) rfl ?_
      refine n_iadd (by decide +kernel) ?_
      refine n_iconst (n := 1) (v := 1) (by decide +kernel) rfl ?_
      obtain ⟨M4, h4, hr⟩ := bso hr
      refine n_iast G h4 hp0 hs0 rfl (by decide +kernel) ?_
      refine n_iincK (n := 3) (j := 1) (w := 1) (lo2 := [_, _, _, _]) (by decide +kernel) rfl rfl rfl ?_
      refine n_goto (off := -31) (tgt := 2) (by decide +kernel) (by decide) ?_
      cases hr
      exact hk
set_option maxRecDepth 100000 in
theorem W_X10_sledges_b2 (G : GG l s0 b L xs D cy ad) {a0 : Nat} {y1 : Int64}  (hp0 : P a0) (hs0 : SH a0 = 12) {s : (Int32 × Mm)} {e : Mm} (h : whl fu (f_X10_sledges_b2 a0 y1) s = some e) (res : Rs) (M' : Mm) : Q_X10_sledges_b2 l s0 D cy ad P a0 y1 res M' e → P_X10_sledges_b2 l s0 D cy ad P a0 y1 res M' s := whl_run (P := fun s => P_X10_sledges_b2 l s0 D cy ad P a0 y1 res M' s) (Q := fun e => Q_X10_sledges_b2 l s0 D cy ad P a0 y1 res M' e) (B_X10_sledges_b2 G (res := res) (M' := M') (a0 := a0) (y1 := y1) hp0 hs0) fu s h
set_option maxRecDepth 100000 in
theorem B_X10_sledges (G : GG l s0 b L xs D cy ad)  {a0 : Nat} {y1 : Int64} {M : Mm} {r : Mm} (hp0 : P a0) (hs0 : SH a0 = 12) (hr : f_X10_sledges a0 y1 M = some r) : Cl l s0 D cy ad P 9 KX10_sledges [.ref a0, .long y1] M (.inl none) (r) := by
  refine cl_ofN (by decide +kernel) rfl rfl rfl (lo0 := [_, _, .null, .null]) rfl ?_
  unfold f_X10_sledges at hr
  refine n_iconst (n := 0) (v := 0) (by decide +kernel) rfl ?_
  refine n_istore_n (n := 3) (lo2 := [_, _, _, _]) (by decide +kernel) (Nat.le_of_ble_eq_true rfl) rfl ?_
  obtain ⟨M5, h5, hr⟩ := bso hr
  refine (W_X10_sledges_b2 G hp0 hs0 h5 _ _) ?_
  dsimp only [Q_X10_sledges_b2]
  cases hr
  exact n_return (by decide +kernel)
abbrev P_X10_unloads_b5 (l : Launch) (s0 : State) (D : va_G) (cy : Nat → ClassId) (ad : Nat → Nat) (P : Nat → Prop) (a0 : Nat) (x1 : Int32) (x2 : Int32)  (res : Rs) (M' : Mm) (s : (Int32 × Int32 × Mm)) : Prop := Rn l s0 D cy ad P 10 KX10_unloads 5 [.ref a0, .int x1, .int x2, .int (s.1), .int (s.2.1)] [] (s.2.2) res M'
abbrev Q_X10_unloads_b5 (l : Launch) (s0 : State) (D : va_G) (cy : Nat → ClassId) (ad : Nat → Nat) (P : Nat → Prop) (a0 : Nat) (x1 : Int32) (x2 : Int32)  (res : Rs) (M' : Mm) (e : (Int32 × Mm)) : Prop := Rn l s0 D cy ad P 10 KX10_unloads 58 [.null, .null, .null, .int (e.1), .null] [] (e.2) res M'
set_option maxRecDepth 100000 in
theorem B_X10_unloads_b5 (G : GG l s0 b L xs D cy ad) {a0 : Nat} {x1 : Int32} {x2 : Int32}  {res : Rs} {M' : Mm} (hp0 : P a0) (hs0 : SH a0 = 12) : ∀ (s : (Int32 × Int32 × Mm)) (r : (Int32 × Int32 × Mm) ⊕ (Int32 × Mm)), f_X10_unloads_b5 a0 x1 x2 s = some r → mtc (P_X10_unloads_b5 l s0 D cy ad P a0 x1 x2 res M') (Q_X10_unloads_b5 l s0 D cy ad P a0 x1 x2 res M') r → P_X10_unloads_b5 l s0 D cy ad P a0 x1 x2 res M' s := by
  intro s r hr hk
  obtain ⟨x3, x4, M⟩ := s
  unfold f_X10_unloads_b5 at hr
  try dsimp only at hr
  dsimp only [P_X10_unloads_b5]
  refine n_iload (n := 4) (by decide +kernel) rfl ?_
  refine n_aload_n (n := 0) (by decide +kernel) rfl ?_
  refine n_sipush (n := 360) (v := 360) (by decide +kernel) (by decide +kernel) ?_
  obtain ⟨v1, h1, hr⟩ := bso hr
  refine n_iald G h1 hp0 hs0 rfl (by decide +kernel) ?_
  refine n_icmp_ge (off := 46) (tgt := 58) (by decide +kernel) (by decide) (fun hc2 => ?_) (fun hc2 => ?_)
  · rw [if_pos hc2] at hr
    cases hr
    refine n_msk [false, false, false, true, false] (lo2 := [.null, .null, .null, _, .null]) rfl rfl ?_
    exact hk
  · rw [if_neg hc2] at hr
    refine n_aload_n (n := 0) (by decide +kernel) rfl ?_
    refine n_iload (n := 4) (by decide +kernel) rfl ?_
    refine n_iconst (n := 4) (v := 4) (by decide +kernel) rfl ?_
    obtain ⟨v3, h3, hr⟩ := bso hr
    refine n_callSi G [_, _, _] (x := v3) (B_X10_of G hp0 hs0 h3) (by decide) mX10_of ml_RX10_222 rfl rfl (Nat.le_of_ble_eq_true rfl) (by decide +kernel) ?_
    refine n_iconst (n := 1) (v := 1) (by decide +kernel) rfl ?_
    refine n_icmp_eq (off := 6) (tgt := 29) (by decide +kernel) (by decide) (fun hc4 => ?_) (fun hc4 => ?_)
    · rw [if_pos hc4] at hr
      refine n_aload_n (n := 0) (by decide +kernel) rfl ?_
      refine n_bipush (n := 6) (v := 6) (by decide +kernel) rfl ?_
      refine n_iload (n := 4) (by decide +kernel) rfl ?_
      refine n_imul (by decide +kernel) ?_
      refine n_iconst (n := 4) (v := 4) (by decide +kernel) rfl ?_
      refine n_iadd (by decide +kernel) ?_
      refine n_iload_n (n := 1) (by decide +kernel) rfl ?_
      obtain ⟨M5, h5, hr⟩ := bso hr
      refine n_iast G h5 hp0 hs0 rfl (by decide +kernel) ?_
      refine n_aload_n (n := 0) (by decide +kernel) rfl ?_
      refine n_bipush (n := 6) (v := 6) (by decide +kernel) rfl ?_
      refine n_iload (n := 4) (by decide +kernel) rfl ?_
      refine n_imul (by decide +kernel) ?_
      refine n_iconst (n := 5) (v := 5) (by decide +kernel) rfl ?_
      refine n_iadd (by decide +kernel) ?_
      refine n_iload_n (n := 2) (by decide +kernel) rfl ?_
      obtain ⟨M6, h6, hr⟩ := bso hr
      refine n_iast G h6 hp0 hs0 rfl (by decide +kernel) ?_
      refine n_iincK (n := 3) (j := 1) (w := 1) (lo2 := [_, _, _, _, _]) (by decide +kernel) rfl rfl rfl ?_
      refine n_iincK (n := 4) (j := 1) (w := 1) (lo2 := [_, _, _, _, _]) (by decide +kernel) rfl rfl rfl ?_
      refine n_goto (off := -50) (tgt := 5) (by decide +kernel) (by decide) ?_
      cases hr
      exact hk
    · rw [if_neg hc4] at hr
      refine n_goto (off := 26) (tgt := 52) (by decide +kernel) (by decide) ?_
      refine n_iincK (n := 4) (j := 1) (w := 1) (lo2 := [_, _, _, _, _]) (by decide +kernel) rfl rfl rfl ?_
      refine n_goto (off := -50) (tgt := 5) (by decide +kernel) (by decide) ?_
      cases hr
      exact hk
set_option maxRecDepth 100000 in
theorem W_X10_unloads_b5 (G : GG l s0 b L xs D cy ad) {a0 : Nat} {x1 : Int32} {x2 : Int32}  (hp0 : P a0) (hs0 : SH a0 = 12) {s : (Int32 × Int32 × Mm)} {e : (Int32 × Mm)} (h : whl fu (f_X10_unloads_b5 a0 x1 x2) s = some e) (res : Rs) (M' : Mm) : Q_X10_unloads_b5 l s0 D cy ad P a0 x1 x2 res M' e → P_X10_unloads_b5 l s0 D cy ad P a0 x1 x2 res M' s := whl_run (P := fun s => P_X10_unloads_b5 l s0 D cy ad P a0 x1 x2 res M' s) (Q := fun e => Q_X10_unloads_b5 l s0 D cy ad P a0 x1 x2 res M' e) (B_X10_unloads_b5 G (res := res) (M' := M') (a0 := a0) (x1 := x1) (x2 := x2) hp0 hs0) fu s h
set_option maxRecDepth 100000 in
theorem B_X10_unloads (G : GG l s0 b L xs D cy ad)  {a0 : Nat} {x1 : Int32} {x2 : Int32} {M : Mm} {r : (Int32 × Mm)} (hp0 : P a0) (hs0 : SH a0 = 12) (hr : f_X10_unloads a0 x1 x2 M = some r) : Cl l s0 D cy ad P 10 KX10_unloads [.ref a0, .int x1, .int x2] M (.inl (some (.int r.1))) (r.2) := by
  refine cl_ofN (by decide +kernel) rfl rfl okI (lo0 := [_, _, _, .null, .null]) rfl ?_
  unfold f_X10_unloads at hr
  refine n_iconst (n := 0) (v := 0) (by decide +kernel) rfl ?_
  refine n_istore_n (n := 3) (lo2 := [_, _, _, _, _]) (by decide +kernel) (Nat.le_of_ble_eq_true rfl) rfl ?_
  refine n_iconst (n := 0) (v := 0) (by decide +kernel) rfl ?_
  refine n_istore (n := 4) (lo2 := [_, _, _, _, _]) (by decide +kernel) (Nat.le_of_ble_eq_true rfl) rfl ?_
  obtain ⟨e7, h7, hr⟩ := bso hr
  refine (W_X10_unloads_b5 G hp0 hs0 h7 _ _) ?_
  obtain ⟨z3_7, M7⟩ := e7
  try dsimp only at hr
  dsimp only [Q_X10_unloads_b5]
  refine n_iload_n (n := 3) (by decide +kernel) rfl ?_
  cases hr
  exact n_ireturn (by decide +kernel)
set_option maxRecDepth 100000 in
theorem B_X10_isCell (G : GG l s0 b L xs D cy ad)  {x1 : Int32} {x2 : Int32} {M : Mm} {r : Int32} (hp0 : P 76) (hr : f_X10_isCell x1 x2 M = some r) : Cl l s0 D cy ad P 10 KX10_isCell [.ref 76, .int x1, .int x2] M (.inl (some (.int r))) (M) := by
  unfold f_X10_isCell at hr
  obtain ⟨v0, h0, h1⟩ := bso hr
  clear hr
  obtain ⟨hb, rfl⟩ := rB_in h1
  have hr := h0
  clear h0
  refine cl_ofN (by decide +kernel) rfl rfl (okB hb) (lo0 := [_, _, _]) rfl ?_
  unfold g_X10_isCell at hr
  refine n_iload_n (n := 1) (by decide +kernel) rfl ?_
  refine n_iconst (n := 0) (v := 0) (by decide +kernel) rfl ?_
  refine n_aload_n (n := 0) (by decide +kernel) rfl ?_
  refine n_getF (q := 80) G fl_RX10_23 hp0 (by decide +kernel) (by decide +kernel) (by decide +kernel) (fun hp1q => ?_)
  refine n_iconst (n := 0) (v := 0) (by decide +kernel) rfl ?_
  obtain ⟨v2, h2, hr⟩ := bso hr
  refine n_iald G h2 hp1q (by decide +kernel) (by decide +kernel) (by decide +kernel) ?_
  refine n_iconst (n := 1) (v := 1) (by decide +kernel) rfl ?_
  refine n_isub (by decide +kernel) ?_
  obtain ⟨v3, h3, hr⟩ := bso hr
  refine n_callSi G [_, _, _] (x := v3) (B_X10_in G  h3) (by decide) mX10_in ml_RX10_122 rfl rfl (Nat.le_of_ble_eq_true rfl) (by decide +kernel) ?_
  refine n_if_eq (off := 23) (tgt := 36) (by decide +kernel) (by decide) (fun hc4 => ?_) (fun hc4 => ?_)
  · rw [if_pos hc4] at hr
    refine n_iconst (n := 0) (v := 0) (by decide +kernel) rfl ?_
    cases hr
    exact n_ireturn (by decide +kernel)
  · rw [if_neg hc4] at hr
    refine n_iload_n (n := 2) (by decide +kernel) rfl ?_
    refine n_iconst (n := 0) (v := 0) (by decide +kernel) rfl ?_
    refine n_aload_n (n := 0) (by decide +kernel) rfl ?_
    refine n_getF (q := 80) G fl_RX10_23 hp0 (by decide +kernel) (by decide +kernel) (by decide +kernel) (fun hp5q => ?_)
    refine n_iconst (n := 1) (v := 1) (by decide +kernel) rfl ?_
    obtain ⟨v6, h6, hr⟩ := bso hr
    refine n_iald G h6 hp5q (by decide +kernel) (by decide +kernel) (by decide +kernel) ?_
    refine n_iconst (n := 1) (v := 1) (by decide +kernel) rfl ?_
    refine n_isub (by decide +kernel) ?_
    obtain ⟨v7, h7, hr⟩ := bso hr
    refine n_callSi G [_, _, _] (x := v7) (B_X10_in G  h7) (by decide) mX10_in ml_RX10_122 rfl rfl (Nat.le_of_ble_eq_true rfl) (by decide +kernel) ?_
    refine n_if_eq (off := 7) (tgt := 36) (by decide +kernel) (by decide) (fun hc8 => ?_) (fun hc8 => ?_)
    · rw [if_pos hc8] at hr
      refine n_iconst (n := 0) (v := 0) (by decide +kernel) rfl ?_
      cases hr
      exact n_ireturn (by decide +kernel)
    · rw [if_neg hc8] at hr
      refine n_iconst (n := 1) (v := 1) (by decide +kernel) rfl ?_
      refine n_goto (off := 4) (tgt := 37) (by decide +kernel) (by decide) ?_
      cases hr
      exact n_ireturn (by decide +kernel)
set_option maxRecDepth 100000 in
theorem B_X10_isKept (G : GG l s0 b L xs D cy ad)  {a1 : Nat} {x2 : Int32} {M : Mm} {r : Int32} (hp0 : P 76) (hp1 : P a1) (hs1 : SH a1 = 12) (hr : f_X10_isKept a1 x2 M = some r) : Cl l s0 D cy ad P 11 KX10_isKept [.ref 76, .ref a1, .int x2] M (.inl (some (.int r))) (M) := by
  unfold f_X10_isKept at hr
  obtain ⟨v0, h0, h1⟩ := bso hr
  clear hr
  obtain ⟨hb, rfl⟩ := rB_in h1
  have hr := h0
  clear h0
  refine cl_ofN (by decide +kernel) rfl rfl (okB hb) (lo0 := [_, _, _]) rfl ?_
  unfold g_X10_isKept at hr
  refine n_aload_n (n := 0) (by decide +kernel) rfl ?_
  refine n_iload_n (n := 2) (by decide +kernel) rfl ?_
  refine n_bipush (n := 8) (v := 8) (by decide +kernel) rfl ?_
  refine n_irem (by decide) (by decide +kernel) ?_
  refine n_iload_n (n := 2) (by decide +kernel) rfl ?_
  refine n_bipush (n := 8) (v := 8) (by decide +kernel) rfl ?_
  refine n_idiv (by decide) (by decide +kernel) ?_
  obtain ⟨v1, h1, hr⟩ := bso hr
  refine n_callVi G [_, _] (x := v1) (B_X10_isCell G hp0 h1) (by decide) mX10_isCell ml_RX10_292 hp0 (by decide +kernel) rfl rfl (Nat.le_of_ble_eq_true rfl) (by decide +kernel) ?_
  refine n_if_eq (off := 15) (tgt := 27) (by decide +kernel) (by decide) (fun hc2 => ?_) (fun hc2 => ?_)
  · rw [if_pos hc2] at hr
    refine n_iconst (n := 0) (v := 0) (by decide +kernel) rfl ?_
    cases hr
    exact n_ireturn (by decide +kernel)
  · rw [if_neg hc2] at hr
    refine n_aload_n (n := 1) (by decide +kernel) rfl ?_
    refine n_iload_n (n := 2) (by decide +kernel) rfl ?_
    obtain ⟨v3, h3, hr⟩ := bso hr
    refine n_callSi G [_, _] (x := v3) (B_X10_isLost G hp1 hs1 h3) (by decide) mX10_isLost ml_RX10_285 rfl rfl (Nat.le_of_ble_eq_true rfl) (by decide +kernel) ?_
    refine n_if_ne (off := 7) (tgt := 27) (by decide +kernel) (by decide) (fun hc4 => ?_) (fun hc4 => ?_)
    · rw [if_neg hc4] at hr
      refine n_iconst (n := 0) (v := 0) (by decide +kernel) rfl ?_
      cases hr
      exact n_ireturn (by decide +kernel)
    · rw [if_pos hc4] at hr
      refine n_iconst (n := 1) (v := 1) (by decide +kernel) rfl ?_
      refine n_goto (off := 4) (tgt := 28) (by decide +kernel) (by decide) ?_
      cases hr
      exact n_ireturn (by decide +kernel)
abbrev P_X10_winters_b2 (l : Launch) (s0 : State) (D : va_G) (cy : Nat → ClassId) (ad : Nat → Nat) (P : Nat → Prop) (a1 : Nat)  (res : Rs) (M' : Mm) (s : (Int32 × Mm)) : Prop := Rn l s0 D cy ad P 14 KX10_winters 2 [.ref 76, .ref a1, .int (s.1), .null] [] (s.2) res M'
abbrev Q_X10_winters_b2 (l : Launch) (s0 : State) (D : va_G) (cy : Nat → ClassId) (ad : Nat → Nat) (P : Nat → Prop) (a1 : Nat)  (res : Rs) (M' : Mm) (e : Mm) : Prop := Rn l s0 D cy ad P 14 KX10_winters 65 [.ref 76, .ref a1, .null, .null] [] (e) res M'
set_option maxRecDepth 100000 in
theorem B_X10_winters_j56 (G : GG l s0 b L xs D cy ad) {a1 : Nat} {x2 : Int32} {a90 : Nat} {xs1 : Int32} {xs2 : Int32} {M : Mm}  {res : Rs} {M' : Mm} {r : ((Int32 × Mm) ⊕ Mm)} (hp0 : P 76) (hp1 : P a1) (hs1 : SH a1 = 12) (hp90 : P a90) (hs90 : SH a90 = 12) (hr : f_X10_winters_j56 a1 x2 a90 xs1 xs2 M = some r) (hk : mtc (P_X10_winters_b2 l s0 D cy ad P a1 res M') (Q_X10_winters_b2 l s0 D cy ad P a1 res M') r) : Rn l s0 D cy ad P 14 KX10_winters 56 [.ref 76, .ref a1, .int x2, .null] [.int xs2, .int xs1, .ref a90] M res M' := by
  unfold f_X10_winters_j56 at hr
  refine n_iconst (n := 0) (v := 0) (by decide +kernel) rfl ?_
  refine n_iadd (by decide +kernel) ?_
  obtain ⟨M6, h6, hr⟩ := bso hr
  refine n_iast G h6 hp90 hs90 rfl (by decide +kernel) ?_
  refine n_iincK (n := 2) (j := 1) (w := 1) (lo2 := [_, _, _, _]) (by decide +kernel) rfl rfl rfl ?_
  refine n_goto (off := -60) (tgt := 2) (by decide +kernel) (by decide) ?_
  cases hr
  exact hk
set_option maxRecDepth 100000 in
theorem B_X10_winters_b2 (G : GG l s0 b L xs D cy ad) {a1 : Nat}  {res : Rs} {M' : Mm} (hp0 : P 76) (hp1 : P a1) (hs1 : SH a1 = 12) : ∀ (s : (Int32 × Mm)) (r : (Int32 × Mm) ⊕ Mm), f_X10_winters_b2 a1 s = some r → mtc (P_X10_winters_b2 l s0 D cy ad P a1 res M') (Q_X10_winters_b2 l s0 D cy ad P a1 res M') r → P_X10_winters_b2 l s0 D cy ad P a1 res M' s := by
  intro s r hr hk
  obtain ⟨x2, M⟩ := s
  unfold f_X10_winters_b2 at hr
  try dsimp only at hr
  dsimp only [P_X10_winters_b2]
  refine n_iload_n (n := 2) (by decide +kernel) rfl ?_
  refine n_aload_n (n := 1) (by decide +kernel) rfl ?_
  refine n_sipush (n := 360) (v := 360) (by decide +kernel) (by decide +kernel) ?_
  obtain ⟨v1, h1, hr⟩ := bso hr
  refine n_iald G h1 hp1 hs1 rfl (by decide +kernel) ?_
  refine n_icmp_ge (off := 57) (tgt := 65) (by decide +kernel) (by decide) (fun hc2 => ?_) (fun hc2 => ?_)
  · rw [if_pos hc2] at hr
    cases hr
    refine n_msk [true, true, false, false] (lo2 := [_, _, .null, .null]) rfl rfl ?_
    exact hk
  · rw [if_neg hc2] at hr
    refine n_aload_n (n := 1) (by decide +kernel) rfl ?_
    refine n_sipush (n := 365) (v := 365) (by decide +kernel) (by decide +kernel) ?_
    refine n_dup2 rfl rfl (by decide +kernel) ?_
    obtain ⟨v3, h3, hr⟩ := bso hr
    refine n_iald G h3 hp1 hs1 rfl (by decide +kernel) ?_
    refine n_aload_n (n := 1) (by decide +kernel) rfl ?_
    refine n_iload_n (n := 2) (by decide +kernel) rfl ?_
    obtain ⟨v4, h4, hr⟩ := bso hr
    refine n_callSi G [_, _] (x := v4) (B_X10_isLying G hp1 hs1 h4) (by decide) mX10_isLying ml_RX10_226 rfl rfl (Nat.le_of_ble_eq_true rfl) (by decide +kernel) ?_
    refine n_if_eq (off := 34) (tgt := 56) (by decide +kernel) (by decide) (fun hc5 => ?_) (fun hc5 => ?_)
    · rw [if_pos hc5] at hr
      exact B_X10_winters_j56 G hp0 hp1 hs1 hp1 hs1 hr hk
    · rw [if_neg hc5] at hr
      refine n_aload_n (n := 1) (by decide +kernel) rfl ?_
      refine n_aload_n (n := 1) (by decide +kernel) rfl ?_
      refine n_iload_n (n := 2) (by decide +kernel) rfl ?_
      obtain ⟨v7, h7, hr⟩ := bso hr
      refine n_callSi G [_, _] (x := v7) (B_X10_cellOf G hp1 hs1 h7) (by decide) mX10_cellOf ml_RX10_230 rfl rfl (Nat.le_of_ble_eq_true rfl) (by decide +kernel) ?_
      obtain ⟨v8, h8, hr⟩ := bso hr
      refine n_callSi G [_, _] (x := v8) (B_X10_isLost G hp1 hs1 h8) (by decide) mX10_isLost ml_RX10_285 rfl rfl (Nat.le_of_ble_eq_true rfl) (by decide +kernel) ?_
      refine n_if_ne (off := 22) (tgt := 56) (by decide +kernel) (by decide) (fun hc9 => ?_) (fun hc9 => ?_)
      · rw [if_neg hc9] at hr
        exact B_X10_winters_j56 G hp0 hp1 hs1 hp1 hs1 hr hk
      · rw [if_pos hc9] at hr
        refine n_aload_n (n := 0) (by decide +kernel) rfl ?_
        refine n_aload_n (n := 1) (by decide +kernel) rfl ?_
        refine n_aload_n (n := 1) (by decide +kernel) rfl ?_
        refine n_iload_n (n := 2) (by decide +kernel) rfl ?_
        obtain ⟨v10, h10, hr⟩ := bso hr
        refine n_callSi G [_, _] (x := v10) (B_X10_cellOf G hp1 hs1 h10) (by decide) mX10_cellOf ml_RX10_230 rfl rfl (Nat.le_of_ble_eq_true rfl) (by decide +kernel) ?_
        refine n_aload_n (n := 1) (by decide +kernel) rfl ?_
        refine n_iload_n (n := 2) (by decide +kernel) rfl ?_
        refine n_iconst (n := 2) (v := 2) (by decide +kernel) rfl ?_
        obtain ⟨v11, h11, hr⟩ := bso hr
        refine n_callSi G [_, _, _] (x := v11) (B_X10_of G hp1 hs1 h11) (by decide) mX10_of ml_RX10_222 rfl rfl (Nat.le_of_ble_eq_true rfl) (by decide +kernel) ?_
        obtain ⟨⟨v12, M12⟩, h12, hr⟩ := bso hr
        try dsimp only at hr
        refine n_callVi G [_, _, _] (x := v12) (M1 := M12) (B_X10_damageOf G hp0 hp1 hs1 h12) (by decide) mX10_damageOf ml_RX10_296 hp0 (by decide +kernel) rfl rfl (Nat.le_of_ble_eq_true rfl) (by decide +kernel) ?_
        refine n_goto (off := 4) (tgt := 57) (by decide +kernel) (by decide) ?_
        refine n_iadd (by decide +kernel) ?_
        obtain ⟨M13, h13, hr⟩ := bso hr
        refine n_iast G h13 hp1 hs1 rfl (by decide +kernel) ?_
        refine n_iincK (n := 2) (j := 1) (w := 1) (lo2 := [_, _, _, _]) (by decide +kernel) rfl rfl rfl ?_
        refine n_goto (off := -60) (tgt := 2) (by decide +kernel) (by decide) ?_
        cases hr
        exact hk
set_option maxRecDepth 100000 in
theorem W_X10_winters_b2 (G : GG l s0 b L xs D cy ad) {a1 : Nat}  (hp0 : P 76) (hp1 : P a1) (hs1 : SH a1 = 12) {s : (Int32 × Mm)} {e : Mm} (h : whl fu (f_X10_winters_b2 a1) s = some e) (res : Rs) (M' : Mm) : Q_X10_winters_b2 l s0 D cy ad P a1 res M' e → P_X10_winters_b2 l s0 D cy ad P a1 res M' s := whl_run (P := fun s => P_X10_winters_b2 l s0 D cy ad P a1 res M' s) (Q := fun e => Q_X10_winters_b2 l s0 D cy ad P a1 res M' e) (B_X10_winters_b2 G (res := res) (M' := M') (a1 := a1) hp0 hp1 hs1) fu s h
abbrev P_X10_winters_b67 (l : Launch) (s0 : State) (D : va_G) (cy : Nat → ClassId) (ad : Nat → Nat) (P : Nat → Prop) (a1 : Nat)  (res : Rs) (M' : Mm) (s : (Int32 × Mm)) : Prop := Rn l s0 D cy ad P 14 KX10_winters 67 [.ref 76, .ref a1, .int (s.1), .null] [] (s.2) res M'
abbrev Q_X10_winters_b67 (l : Launch) (s0 : State) (D : va_G) (cy : Nat → ClassId) (ad : Nat → Nat) (P : Nat → Prop) (a1 : Nat)  (res : Rs) (M' : Mm) (e : Mm) : Prop := Rn l s0 D cy ad P 14 KX10_winters 106 [.ref 76, .ref a1, .null, .null] [] (e) res M'
set_option maxRecDepth 100000 in
theorem B_X10_winters_b67 (G : GG l s0 b L xs D cy ad) {a1 : Nat}  {res : Rs} {M' : Mm} (hp0 : P 76) (hp1 : P a1) (hs1 : SH a1 = 12) : ∀ (s : (Int32 × Mm)) (r : (Int32 × Mm) ⊕ Mm), f_X10_winters_b67 a1 s = some r → mtc (P_X10_winters_b67 l s0 D cy ad P a1 res M') (Q_X10_winters_b67 l s0 D cy ad P a1 res M') r → P_X10_winters_b67 l s0 D cy ad P a1 res M' s := by
  intro s r hr hk
  obtain ⟨x2, M⟩ := s
  unfold f_X10_winters_b67 at hr
  try dsimp only at hr
  dsimp only [P_X10_winters_b67]
  refine n_iload_n (n := 2) (by decide +kernel) rfl ?_
  refine n_bipush (n := 48) (v := 48) (by decide +kernel) rfl ?_
  refine n_icmp_ge (off := 36) (tgt := 106) (by decide +kernel) (by decide) (fun hc15 => ?_) (fun hc15 => ?_)
  · rw [if_pos hc15] at hr
    cases hr
    refine n_msk [true, true, false, false] (lo2 := [_, _, .null, .null]) rfl rfl ?_
    exact hk
  · rw [if_neg hc15] at hr
    refine n_aload_n (n := 1) (by decide +kernel) rfl ?_
    refine n_sipush (n := 366) (v := 366) (by decide +kernel) (by decide +kernel) ?_
    refine n_dup2 rfl rfl (by decide +kernel) ?_
    obtain ⟨v16, h16, hr⟩ := bso hr
    refine n_iald G h16 hp1 hs1 rfl (by decide +kernel) ?_
    refine n_aload_n (n := 0) (by decide +kernel) rfl ?_
    refine n_aload_n (n := 1) (by decide +kernel) rfl ?_
    refine n_iload_n (n := 2) (by decide +kernel) rfl ?_
    obtain ⟨v17, h17, hr⟩ := bso hr
    refine n_callVi G [_, _] (x := v17) (B_X10_isKept G hp0 hp1 hs1 h17) (by decide) mX10_isKept ml_RX10_299 hp0 (by decide +kernel) rfl rfl (Nat.le_of_ble_eq_true rfl) (by decide +kernel) ?_
    refine n_if_eq (off := 12) (tgt := 97) (by decide +kernel) (by decide) (fun hc18 => ?_) (fun hc18 => ?_)
    · rw [if_pos hc18] at hr
      refine n_iconst (n := 0) (v := 0) (by decide +kernel) rfl ?_
      refine n_iadd (by decide +kernel) ?_
      obtain ⟨M19, h19, hr⟩ := bso hr
      refine n_iast G h19 hp1 hs1 rfl (by decide +kernel) ?_
      refine n_iincK (n := 2) (j := 1) (w := 1) (lo2 := [_, _, _, _]) (by decide +kernel) rfl rfl rfl ?_
      refine n_goto (off := -36) (tgt := 67) (by decide +kernel) (by decide) ?_
      cases hr
      exact hk
    · rw [if_neg hc18] at hr
      refine n_aload_n (n := 0) (by decide +kernel) rfl ?_
      refine n_getF (q := 82) G fl_RX10_29 hp0 (by decide +kernel) (by decide +kernel) (by decide +kernel) (fun hp20q => ?_)
      refine n_iload_n (n := 2) (by decide +kernel) rfl ?_
      obtain ⟨v21, h21, hr⟩ := bso hr
      refine n_iald G h21 hp20q (by decide +kernel) (by decide +kernel) (by decide +kernel) ?_
      refine n_goto (off := 4) (tgt := 98) (by decide +kernel) (by decide) ?_
      refine n_iadd (by decide +kernel) ?_
      obtain ⟨M22, h22, hr⟩ := bso hr
      refine n_iast G h22 hp1 hs1 rfl (by decide +kernel) ?_
      refine n_iincK (n := 2) (j := 1) (w := 1) (lo2 := [_, _, _, _]) (by decide +kernel) rfl rfl rfl ?_
      refine n_goto (off := -36) (tgt := 67) (by decide +kernel) (by decide) ?_
      cases hr
      exact hk
set_option maxRecDepth 100000 in
theorem W_X10_winters_b67 (G : GG l s0 b L xs D cy ad) {a1 : Nat}  (hp0 : P 76) (hp1 : P a1) (hs1 : SH a1 = 12) {s : (Int32 × Mm)} {e : Mm} (h : whl fu (f_X10_winters_b67 a1) s = some e) (res : Rs) (M' : Mm) : Q_X10_winters_b67 l s0 D cy ad P a1 res M' e → P_X10_winters_b67 l s0 D cy ad P a1 res M' s := whl_run (P := fun s => P_X10_winters_b67 l s0 D cy ad P a1 res M' s) (Q := fun e => Q_X10_winters_b67 l s0 D cy ad P a1 res M' e) (B_X10_winters_b67 G (res := res) (M' := M') (a1 := a1) hp0 hp1 hs1) fu s h
abbrev P_X10_winters_b117 (l : Launch) (s0 : State) (D : va_G) (cy : Nat → ClassId) (ad : Nat → Nat) (P : Nat → Prop) (a1 : Nat)  (res : Rs) (M' : Mm) (s : (Int32 × Mm)) : Prop := Rn l s0 D cy ad P 14 KX10_winters 117 [.ref 76, .ref a1, .int (s.1), .null] [] (s.2) res M'
abbrev Q_X10_winters_b117 (l : Launch) (s0 : State) (D : va_G) (cy : Nat → ClassId) (ad : Nat → Nat) (P : Nat → Prop) (a1 : Nat)  (res : Rs) (M' : Mm) (e : Mm) : Prop := Rn l s0 D cy ad P 14 KX10_winters 154 [.ref 76, .ref a1, .null, .null] [] (e) res M'
set_option maxRecDepth 100000 in
theorem B_X10_winters_b117 (G : GG l s0 b L xs D cy ad) {a1 : Nat}  {res : Rs} {M' : Mm} (hp0 : P 76) (hp1 : P a1) (hs1 : SH a1 = 12) : ∀ (s : (Int32 × Mm)) (r : (Int32 × Mm) ⊕ Mm), f_X10_winters_b117 a1 s = some r → mtc (P_X10_winters_b117 l s0 D cy ad P a1 res M') (Q_X10_winters_b117 l s0 D cy ad P a1 res M') r → P_X10_winters_b117 l s0 D cy ad P a1 res M' s := by
  intro s r hr hk
  obtain ⟨x2, M⟩ := s
  unfold f_X10_winters_b117 at hr
  try dsimp only at hr
  dsimp only [P_X10_winters_b117]
  refine n_iload_n (n := 2) (by decide +kernel) rfl ?_
  refine n_bipush (n := 48) (v := 48) (by decide +kernel) rfl ?_
  refine n_icmp_ge (off := 34) (tgt := 154) (by decide +kernel) (by decide) (fun hc26 => ?_) (fun hc26 => ?_)
  · rw [if_pos hc26] at hr
    cases hr
    refine n_msk [true, true, false, false] (lo2 := [_, _, .null, .null]) rfl rfl ?_
    exact hk
  · rw [if_neg hc26] at hr
    refine n_aload_n (n := 0) (by decide +kernel) rfl ?_
    refine n_getF (q := 223) G fl_RX10_73 hp0 (by decide +kernel) (by decide +kernel) (by decide +kernel) (fun hp27q => ?_)
    refine n_iload_n (n := 2) (by decide +kernel) rfl ?_
    refine n_aload_n (n := 0) (by decide +kernel) rfl ?_
    refine n_aload_n (n := 1) (by decide +kernel) rfl ?_
    refine n_iload_n (n := 2) (by decide +kernel) rfl ?_
    obtain ⟨v28, h28, hr⟩ := bso hr
    refine n_callVi G [_, _] (x := v28) (B_X10_isKept G hp0 hp1 hs1 h28) (by decide) mX10_isKept ml_RX10_299 hp0 (by decide +kernel) rfl rfl (Nat.le_of_ble_eq_true rfl) (by decide +kernel) ?_
    refine n_if_eq (off := 12) (tgt := 146) (by decide +kernel) (by decide) (fun hc29 => ?_) (fun hc29 => ?_)
    · rw [if_pos hc29] at hr
      refine n_iconst (n := 0) (v := 0) (by decide +kernel) rfl ?_
      obtain ⟨M30, h30, hr⟩ := bso hr
      refine n_iast G h30 hp27q (by decide +kernel) (by decide +kernel) (by decide +kernel) ?_
      refine n_iincK (n := 2) (j := 1) (w := 1) (lo2 := [_, _, _, _]) (by decide +kernel) rfl rfl rfl ?_
      refine n_goto (off := -34) (tgt := 117) (by decide +kernel) (by decide) ?_
      cases hr
      exact hk
    · rw [if_neg hc29] at hr
      refine n_aload_n (n := 0) (by decide +kernel) rfl ?_
      refine n_aload_n (n := 1) (by decide +kernel) rfl ?_
      refine n_iload_n (n := 2) (by decide +kernel) rfl ?_
      obtain ⟨⟨v31, M31⟩, h31, hr⟩ := bso hr
      try dsimp only at hr
      refine n_callVi G [_, _] (x := v31) (M1 := M31) (B_X10_risesIn G hp0 hp1 hs1 h31) (by decide) mX10_risesIn ml_RX10_302 hp0 (by decide +kernel) rfl rfl (Nat.le_of_ble_eq_true rfl) (by decide +kernel) ?_
      refine n_goto (off := 4) (tgt := 147) (by decide +kernel) (by decide) ?_
      obtain ⟨M32, h32, hr⟩ := bso hr
      refine n_iast G h32 hp27q (by decide +kernel) (by decide +kernel) (by decide +kernel) ?_
      refine n_iincK (n := 2) (j := 1) (w := 1) (lo2 := [_, _, _, _]) (by decide +kernel) rfl rfl rfl ?_
      refine n_goto (off := -34) (tgt := 117) (by decide +kernel) (by decide) ?_
      cases hr
      exact hk
set_option maxRecDepth 100000 in
theorem W_X10_winters_b117 (G : GG l s0 b L xs D cy ad) {a1 : Nat}  (hp0 : P 76) (hp1 : P a1) (hs1 : SH a1 = 12) {s : (Int32 × Mm)} {e : Mm} (h : whl fu (f_X10_winters_b117 a1) s = some e) (res : Rs) (M' : Mm) : Q_X10_winters_b117 l s0 D cy ad P a1 res M' e → P_X10_winters_b117 l s0 D cy ad P a1 res M' s := whl_run (P := fun s => P_X10_winters_b117 l s0 D cy ad P a1 res M' s) (Q := fun e => Q_X10_winters_b117 l s0 D cy ad P a1 res M' e) (B_X10_winters_b117 G (res := res) (M' := M') (a1 := a1) hp0 hp1 hs1) fu s h
abbrev P_X10_winters_b156 (l : Launch) (s0 : State) (D : va_G) (cy : Nat → ClassId) (ad : Nat → Nat) (P : Nat → Prop) (a1 : Nat)  (res : Rs) (M' : Mm) (s : (Int32 × Mm)) : Prop := Rn l s0 D cy ad P 14 KX10_winters 156 [.ref 76, .ref a1, .int (s.1), .null] [] (s.2) res M'
abbrev Q_X10_winters_b156 (l : Launch) (s0 : State) (D : va_G) (cy : Nat → ClassId) (ad : Nat → Nat) (P : Nat → Prop) (a1 : Nat)  (res : Rs) (M' : Mm) (e : Mm) : Prop := Rn l s0 D cy ad P 14 KX10_winters 227 [.null, .null, .null, .null] [] (e) res M'
abbrev P_X10_winters_b164 (l : Launch) (s0 : State) (D : va_G) (cy : Nat → ClassId) (ad : Nat → Nat) (P : Nat → Prop) (a1 : Nat) (x2 : Int32)  (res : Rs) (M' : Mm) (s : (Int32 × Mm)) : Prop := Rn l s0 D cy ad P 14 KX10_winters 164 [.ref 76, .ref a1, .int x2, .int (s.1)] [] (s.2) res M'
abbrev Q_X10_winters_b164 (l : Launch) (s0 : State) (D : va_G) (cy : Nat → ClassId) (ad : Nat → Nat) (P : Nat → Prop) (a1 : Nat) (x2 : Int32)  (res : Rs) (M' : Mm) (e : Mm) : Prop := Rn l s0 D cy ad P 14 KX10_winters 221 [.ref 76, .ref a1, .int x2, .null] [] (e) res M'
set_option maxRecDepth 100000 in
theorem B_X10_winters_b164 (G : GG l s0 b L xs D cy ad) {a1 : Nat} {x2 : Int32}  {res : Rs} {M' : Mm} (hp0 : P 76) (hp1 : P a1) (hs1 : SH a1 = 12) : ∀ (s : (Int32 × Mm)) (r : (Int32 × Mm) ⊕ Mm), f_X10_winters_b164 a1 x2 s = some r → mtc (P_X10_winters_b164 l s0 D cy ad P a1 x2 res M') (Q_X10_winters_b164 l s0 D cy ad P a1 x2 res M') r → P_X10_winters_b164 l s0 D cy ad P a1 x2 res M' s := by
  intro s r hr hk
  obtain ⟨x3, M⟩ := s
  unfold f_X10_winters_b164 at hr
  try dsimp only at hr
  dsimp only [P_X10_winters_b164]
  refine n_iload_n (n := 3) (by decide +kernel) rfl ?_
  refine n_aload_n (n := 0) (by decide +kernel) rfl ?_
  refine n_getF (q := 223) G fl_RX10_73 hp0 (by decide +kernel) (by decide +kernel) (by decide +kernel) (fun hp35q => ?_)
  refine n_iload_n (n := 2) (by decide +kernel) rfl ?_
  obtain ⟨v36, h36, hr⟩ := bso hr
  refine n_iald G h36 hp35q (by decide +kernel) (by decide +kernel) (by decide +kernel) ?_
  refine n_icmp_ge (off := 50) (tgt := 221) (by decide +kernel) (by decide) (fun hc37 => ?_) (fun hc37 => ?_)
  · rw [if_pos hc37] at hr
    cases hr
    refine n_msk [true, true, true, false] (lo2 := [_, _, _, .null]) rfl rfl ?_
    exact hk
  · rw [if_neg hc37] at hr
    refine n_aload_n (n := 1) (by decide +kernel) rfl ?_
    refine n_iload_n (n := 2) (by decide +kernel) rfl ?_
    refine n_bipush (n := 8) (v := 8) (by decide +kernel) rfl ?_
    refine n_irem (by decide) (by decide +kernel) ?_
    refine n_iload_n (n := 2) (by decide +kernel) rfl ?_
    refine n_bipush (n := 8) (v := 8) (by decide +kernel) rfl ?_
    refine n_idiv (by decide) (by decide +kernel) ?_
    refine n_iconst (n := 1) (v := 1) (by decide +kernel) rfl ?_
    refine n_iconst (n := 3) (v := 3) (by decide +kernel) rfl ?_
    refine n_iload_n (n := 2) (by decide +kernel) rfl ?_
    refine n_bipush (n := 8) (v := 8) (by decide +kernel) rfl ?_
    refine n_irem (by decide) (by decide +kernel) ?_
    refine n_imul (by decide +kernel) ?_
    refine n_iconst (n := 5) (v := 5) (by decide +kernel) rfl ?_
    refine n_iload_n (n := 2) (by decide +kernel) rfl ?_
    refine n_bipush (n := 8) (v := 8) (by decide +kernel) rfl ?_
    refine n_idiv (by decide) (by decide +kernel) ?_
    refine n_imul (by decide +kernel) ?_
    refine n_iadd (by decide +kernel) ?_
    refine n_bipush (n := 7) (v := 7) (by decide +kernel) rfl ?_
    refine n_aload_n (n := 1) (by decide +kernel) rfl ?_
    refine n_sipush (n := 363) (v := 363) (by decide +kernel) (by decide +kernel) ?_
    obtain ⟨v38, h38, hr⟩ := bso hr
    refine n_iald G h38 hp1 hs1 rfl (by decide +kernel) ?_
    refine n_imul (by decide +kernel) ?_
    refine n_iadd (by decide +kernel) ?_
    refine n_iload_n (n := 3) (by decide +kernel) rfl ?_
    refine n_iadd (by decide +kernel) ?_
    refine n_bipush (n := 9) (v := 9) (by decide +kernel) rfl ?_
    refine n_irem (by decide) (by decide +kernel) ?_
    refine n_iadd (by decide +kernel) ?_
    obtain ⟨M39, h39, hr⟩ := bso hr
    refine n_callSv G [_, _, _, _] (M1 := M39) (B_X10_comes G hp1 hs1 h39) (by decide) mX10_comes ml_RX10_174 rfl rfl (Nat.le_of_ble_eq_true rfl) (by decide +kernel) ?_
    refine n_iincK (n := 3) (j := 1) (w := 1) (lo2 := [_, _, _, _]) (by decide +kernel) rfl rfl rfl ?_
    refine n_goto (off := -54) (tgt := 164) (by decide +kernel) (by decide) ?_
    cases hr
    exact hk
set_option maxRecDepth 100000 in
theorem W_X10_winters_b164 (G : GG l s0 b L xs D cy ad) {a1 : Nat} {x2 : Int32}  (hp0 : P 76) (hp1 : P a1) (hs1 : SH a1 = 12) {s : (Int32 × Mm)} {e : Mm} (h : whl fu (f_X10_winters_b164 a1 x2) s = some e) (res : Rs) (M' : Mm) : Q_X10_winters_b164 l s0 D cy ad P a1 x2 res M' e → P_X10_winters_b164 l s0 D cy ad P a1 x2 res M' s := whl_run (P := fun s => P_X10_winters_b164 l s0 D cy ad P a1 x2 res M' s) (Q := fun e => Q_X10_winters_b164 l s0 D cy ad P a1 x2 res M' e) (B_X10_winters_b164 G (res := res) (M' := M') (a1 := a1) (x2 := x2) hp0 hp1 hs1) fu s h
set_option maxRecDepth 100000 in
theorem B_X10_winters_b156 (G : GG l s0 b L xs D cy ad) {a1 : Nat}  {res : Rs} {M' : Mm} (hp0 : P 76) (hp1 : P a1) (hs1 : SH a1 = 12) : ∀ (s : (Int32 × Mm)) (r : (Int32 × Mm) ⊕ Mm), f_X10_winters_b156 a1 s = some r → mtc (P_X10_winters_b156 l s0 D cy ad P a1 res M') (Q_X10_winters_b156 l s0 D cy ad P a1 res M') r → P_X10_winters_b156 l s0 D cy ad P a1 res M' s := by
  intro s r hr hk
  obtain ⟨x2, M⟩ := s
  unfold f_X10_winters_b156 at hr
  try dsimp only at hr
  dsimp only [P_X10_winters_b156]
  refine n_iload_n (n := 2) (by decide +kernel) rfl ?_
  refine n_bipush (n := 48) (v := 48) (by decide +kernel) rfl ?_
  refine n_icmp_ge (off := 68) (tgt := 227) (by decide +kernel) (by decide) (fun hc34 => ?_) (fun hc34 => ?_)
  · rw [if_pos hc34] at hr
    cases hr
    refine n_msk [false, false, false, false] (lo2 := [.null, .null, .null, .null]) rfl rfl ?_
    exact hk
  · rw [if_neg hc34] at hr
    refine n_iconst (n := 0) (v := 0) (by decide +kernel) rfl ?_
    refine n_istore_n (n := 3) (lo2 := [_, _, _, _]) (by decide +kernel) (Nat.le_of_ble_eq_true rfl) rfl ?_
    obtain ⟨M40, h40, hr⟩ := bso hr
    refine (W_X10_winters_b164 G hp0 hp1 hs1 h40 _ _) ?_
    dsimp only [Q_X10_winters_b164]
    refine n_iincK (n := 2) (j := 1) (w := 1) (lo2 := [_, _, _, _]) (by decide +kernel) rfl rfl rfl ?_
    refine n_goto (off := -68) (tgt := 156) (by decide +kernel) (by decide) ?_
    cases hr
    exact hk
set_option maxRecDepth 100000 in
theorem W_X10_winters_b156 (G : GG l s0 b L xs D cy ad) {a1 : Nat}  (hp0 : P 76) (hp1 : P a1) (hs1 : SH a1 = 12) {s : (Int32 × Mm)} {e : Mm} (h : whl fu (f_X10_winters_b156 a1) s = some e) (res : Rs) (M' : Mm) : Q_X10_winters_b156 l s0 D cy ad P a1 res M' e → P_X10_winters_b156 l s0 D cy ad P a1 res M' s := whl_run (P := fun s => P_X10_winters_b156 l s0 D cy ad P a1 res M' s) (Q := fun e => Q_X10_winters_b156 l s0 D cy ad P a1 res M' e) (B_X10_winters_b156 G (res := res) (M' := M') (a1 := a1) hp0 hp1 hs1) fu s h
set_option maxRecDepth 100000 in
theorem B_X10_winters (G : GG l s0 b L xs D cy ad)  {a1 : Nat} {M : Mm} {r : Mm} (hp0 : P 76) (hp1 : P a1) (hs1 : SH a1 = 12) (hr : f_X10_winters a1 M = some r) : Cl l s0 D cy ad P 14 KX10_winters [.ref 76, .ref a1] M (.inl none) (r) := by
  refine cl_ofN (by decide +kernel) rfl rfl rfl (lo0 := [_, _, .null, .null]) rfl ?_
  unfold f_X10_winters at hr
  refine n_iconst (n := 0) (v := 0) (by decide +kernel) rfl ?_
  refine n_istore_n (n := 2) (lo2 := [_, _, _, _]) (by decide +kernel) (Nat.le_of_ble_eq_true rfl) rfl ?_
  obtain ⟨M14, h14, hr⟩ := bso hr
  refine (W_X10_winters_b2 G hp0 hp1 hs1 h14 _ _) ?_
  dsimp only [Q_X10_winters_b2]
  refine n_iconst (n := 0) (v := 0) (by decide +kernel) rfl ?_
  refine n_istore_n (n := 2) (lo2 := [_, _, _, _]) (by decide +kernel) (Nat.le_of_ble_eq_true rfl) rfl ?_
  obtain ⟨M23, h23, hr⟩ := bso hr
  refine (W_X10_winters_b67 G hp0 hp1 hs1 h23 _ _) ?_
  dsimp only [Q_X10_winters_b67]
  refine n_aload_n (n := 1) (by decide +kernel) rfl ?_
  refine n_sipush (n := 363) (v := 363) (by decide +kernel) (by decide +kernel) ?_
  refine n_dup2 rfl rfl (by decide +kernel) ?_
  obtain ⟨v24, h24, hr⟩ := bso hr
  refine n_iald G h24 hp1 hs1 rfl (by decide +kernel) ?_
  refine n_iconst (n := 1) (v := 1) (by decide +kernel) rfl ?_
  refine n_iadd (by decide +kernel) ?_
  obtain ⟨M25, h25, hr⟩ := bso hr
  refine n_iast G h25 hp1 hs1 rfl (by decide +kernel) ?_
  refine n_iconst (n := 0) (v := 0) (by decide +kernel) rfl ?_
  refine n_istore_n (n := 2) (lo2 := [_, _, _, _]) (by decide +kernel) (Nat.le_of_ble_eq_true rfl) rfl ?_
  obtain ⟨M33, h33, hr⟩ := bso hr
  refine (W_X10_winters_b117 G hp0 hp1 hs1 h33 _ _) ?_
  dsimp only [Q_X10_winters_b117]
  refine n_iconst (n := 0) (v := 0) (by decide +kernel) rfl ?_
  refine n_istore_n (n := 2) (lo2 := [_, _, _, _]) (by decide +kernel) (Nat.le_of_ble_eq_true rfl) rfl ?_
  obtain ⟨M41, h41, hr⟩ := bso hr
  refine (W_X10_winters_b156 G hp0 hp1 hs1 h41 _ _) ?_
  dsimp only [Q_X10_winters_b156]
  cases hr
  exact n_return (by decide +kernel)
abbrev P_X10_does_b207 (l : Launch) (s0 : State) (D : va_G) (cy : Nat → ClassId) (ad : Nat → Nat) (P : Nat → Prop) (a1 : Nat) (y5 : Int64)  (res : Rs) (M' : Mm) (s : (Int32 × Mm)) : Prop := Rn l s0 D cy ad P 15 KX10_does 207 [.ref 76, .ref a1, .null, .null, .null, .long y5, .null, .int (s.1)] [] (s.2) res M'
abbrev Q_X10_does_b207 (l : Launch) (s0 : State) (D : va_G) (cy : Nat → ClassId) (ad : Nat → Nat) (P : Nat → Prop) (a1 : Nat) (y5 : Int64)  (res : Rs) (M' : Mm) (e : Mm) : Prop := Rn l s0 D cy ad P 15 KX10_does 262 [.null, .ref a1, .null, .null, .null, .long y5, .null, .null] [] (e) res M'
set_option maxRecDepth 100000 in
theorem B_X10_does_b207 (G : GG l s0 b L xs D cy ad) {a1 : Nat} {y5 : Int64}  {res : Rs} {M' : Mm} (hp0 : P 76) (hp1 : P a1) (hs1 : SH a1 = 12) : ∀ (s : (Int32 × Mm)) (r : (Int32 × Mm) ⊕ Mm), f_X10_does_b207 a1 y5 s = some r → mtc (P_X10_does_b207 l s0 D cy ad P a1 y5 res M') (Q_X10_does_b207 l s0 D cy ad P a1 y5 res M') r → P_X10_does_b207 l s0 D cy ad P a1 y5 res M' s := by
  intro s r hr hk
  obtain ⟨x7, M⟩ := s
  unfold f_X10_does_b207 at hr
  try dsimp only at hr
  dsimp only [P_X10_does_b207]
  refine n_iload (n := 7) (by decide +kernel) rfl ?_
  refine n_aload_n (n := 1) (by decide +kernel) rfl ?_
  refine n_sipush (n := 360) (v := 360) (by decide +kernel) (by decide +kernel) ?_
  obtain ⟨v29, h29, hr⟩ := bso hr
  refine n_iald G h29 hp1 hs1 rfl (by decide +kernel) ?_
  refine n_icmp_ge (off := 48) (tgt := 262) (by decide +kernel) (by decide) (fun hc30 => ?_) (fun hc30 => ?_)
  · rw [if_pos hc30] at hr
    cases hr
    refine n_msk [false, true, false, false, false, true, false, false] (lo2 := [.null, _, .null, .null, .null, _, .null, .null]) rfl rfl ?_
    exact hk
  · rw [if_neg hc30] at hr
    refine n_aload_n (n := 1) (by decide +kernel) rfl ?_
    refine n_sipush (n := 364) (v := 364) (by decide +kernel) (by decide +kernel) ?_
    refine n_dup2 rfl rfl (by decide +kernel) ?_
    obtain ⟨v31, h31, hr⟩ := bso hr
    refine n_iald G h31 hp1 hs1 rfl (by decide +kernel) ?_
    refine n_lload (n := 5) (by decide +kernel) rfl ?_
    refine n_iload (n := 7) (by decide +kernel) rfl ?_
    refine n_lshr (by decide +kernel) ?_
    refine n_lconst (n := 1) (v := 1) (by decide +kernel) rfl ?_
    refine n_land (by decide +kernel) ?_
    refine n_lconst (n := 1) (v := 1) (by decide +kernel) rfl ?_
    refine n_lcmp (by decide +kernel) ?_
    refine n_if_ne (off := 21) (tgt := 253) (by decide +kernel) (by decide) (fun hc32 => ?_) (fun hc32 => ?_)
    · rw [if_neg hc32] at hr
      refine n_iconst (n := 0) (v := 0) (by decide +kernel) rfl ?_
      refine n_iadd (by decide +kernel) ?_
      obtain ⟨M33, h33, hr⟩ := bso hr
      refine n_iast G h33 hp1 hs1 rfl (by decide +kernel) ?_
      refine n_iincK (n := 7) (j := 1) (w := 1) (lo2 := [_, _, _, _, _, _, _, _]) (by decide +kernel) rfl rfl rfl ?_
      refine n_goto (off := -52) (tgt := 207) (by decide +kernel) (by decide) ?_
      cases hr
      exact hk
    · rw [if_pos hc32] at hr
      refine n_aload_n (n := 0) (by decide +kernel) rfl ?_
      refine n_getF (q := 80) G fl_RX10_23 hp0 (by decide +kernel) (by decide +kernel) (by decide +kernel) (fun hp34q => ?_)
      refine n_bipush (n := 9) (v := 9) (by decide +kernel) rfl ?_
      obtain ⟨v35, h35, hr⟩ := bso hr
      refine n_iald G h35 hp34q (by decide +kernel) (by decide +kernel) (by decide +kernel) ?_
      refine n_aload_n (n := 1) (by decide +kernel) rfl ?_
      refine n_iload (n := 7) (by decide +kernel) rfl ?_
      refine n_iconst (n := 2) (v := 2) (by decide +kernel) rfl ?_
      obtain ⟨v36, h36, hr⟩ := bso hr
      refine n_callSi G [_, _, _] (x := v36) (B_X10_of G hp1 hs1 h36) (by decide) mX10_of ml_RX10_222 rfl rfl (Nat.le_of_ble_eq_true rfl) (by decide +kernel) ?_
      refine n_imul (by decide +kernel) ?_
      refine n_goto (off := 4) (tgt := 254) (by decide +kernel) (by decide) ?_
      refine n_iadd (by decide +kernel) ?_
      obtain ⟨M37, h37, hr⟩ := bso hr
      refine n_iast G h37 hp1 hs1 rfl (by decide +kernel) ?_
      refine n_iincK (n := 7) (j := 1) (w := 1) (lo2 := [_, _, _, _, _, _, _, _]) (by decide +kernel) rfl rfl rfl ?_
      refine n_goto (off := -52) (tgt := 207) (by decide +kernel) (by decide) ?_
      cases hr
      exact hk
set_option maxRecDepth 100000 in
theorem W_X10_does_b207 (G : GG l s0 b L xs D cy ad) {a1 : Nat} {y5 : Int64}  (hp0 : P 76) (hp1 : P a1) (hs1 : SH a1 = 12) {s : (Int32 × Mm)} {e : Mm} (h : whl fu (f_X10_does_b207 a1 y5) s = some e) (res : Rs) (M' : Mm) : Q_X10_does_b207 l s0 D cy ad P a1 y5 res M' e → P_X10_does_b207 l s0 D cy ad P a1 y5 res M' s := whl_run (P := fun s => P_X10_does_b207 l s0 D cy ad P a1 y5 res M' s) (Q := fun e => Q_X10_does_b207 l s0 D cy ad P a1 y5 res M' e) (B_X10_does_b207 G (res := res) (M' := M') (a1 := a1) (y5 := y5) hp0 hp1 hs1) fu s h
set_option maxRecDepth 100000 in
theorem B_X10_does_j193 (G : GG l s0 b L xs D cy ad) {a1 : Nat} {ys0 : Int64} {M : Mm} {r : (Int32 × Mm)} (hp0 : P 76) (hp1 : P a1) (hs1 : SH a1 = 12) (hr : f_X10_does_j193 a1 ys0 M = some r) : Rn l s0 D cy ad P 15 KX10_does 193 [.ref 76, .ref a1, .null, .null, .null, .null, .null, .null] [.long ys0] M (.inl (some (.int r.1))) (r.2) := by
  unfold f_X10_does_j193 at hr
  refine n_lstore (n := 5) (lo2 := [_, _, _, _, _, _, _, _]) (by decide +kernel) (Nat.le_of_ble_eq_true rfl) rfl ?_
  refine n_lload (n := 5) (by decide +kernel) rfl ?_
  refine n_lconst (n := 0) (v := 0) (by decide +kernel) rfl ?_
  refine n_lcmp (by decide +kernel) ?_
  refine n_if_ne (off := 5) (tgt := 204) (by decide +kernel) (by decide) (fun hc28 => ?_) (fun hc28 => ?_)
  · rw [if_neg hc28] at hr
    refine n_iconst (n := 0) (v := 0) (by decide +kernel) rfl ?_
    refine n_istore (n := 7) (lo2 := [_, _, _, _, _, _, _, _]) (by decide +kernel) (Nat.le_of_ble_eq_true rfl) rfl ?_
    obtain ⟨M38, h38, hr⟩ := bso hr
    refine (W_X10_does_b207 G hp0 hp1 hs1 h38 _ _) ?_
    dsimp only [Q_X10_does_b207]
    refine n_aload_n (n := 1) (by decide +kernel) rfl ?_
    refine n_lload (n := 5) (by decide +kernel) rfl ?_
    obtain ⟨M39, h39, hr⟩ := bso hr
    refine n_callSv G [_, _] (M1 := M39) (B_X10_sledges G hp1 hs1 h39) (by decide) mX10_sledges ml_RX10_278 rfl rfl (Nat.le_of_ble_eq_true rfl) (by decide +kernel) ?_
    refine n_iconst (n := 1) (v := 1) (by decide +kernel) rfl ?_
    cases hr
    exact n_ireturn (by decide +kernel)
  · rw [if_pos hc28] at hr
    refine n_iconst (n := 0) (v := 0) (by decide +kernel) rfl ?_
    cases hr
    exact n_ireturn (by decide +kernel)
abbrev P_X10_does_b352 (l : Launch) (s0 : State) (D : va_G) (cy : Nat → ClassId) (ad : Nat → Nat) (P : Nat → Prop) (a1 : Nat) (x4 : Int32)  (res : Rs) (M' : Mm) (s : (Int32 × Mm)) : Prop := Rn l s0 D cy ad P 15 KX10_does 352 [.null, .ref a1, .null, .null, .int x4, .int (s.1), .null, .null] [] (s.2) res M'
abbrev Q_X10_does_b352 (l : Launch) (s0 : State) (D : va_G) (cy : Nat → ClassId) (ad : Nat → Nat) (P : Nat → Prop) (a1 : Nat) (x4 : Int32)  (res : Rs) (M' : Mm) (e : Mm) : Prop := Rn l s0 D cy ad P 15 KX10_does 412 [.null, .ref a1, .null, .null, .int x4, .null, .null, .null] [] (e) res M'
set_option maxRecDepth 100000 in
theorem B_X10_does_b352 (G : GG l s0 b L xs D cy ad) {a1 : Nat} {x4 : Int32}  {res : Rs} {M' : Mm} (hp1 : P a1) (hs1 : SH a1 = 12) : ∀ (s : (Int32 × Mm)) (r : (Int32 × Mm) ⊕ Mm), f_X10_does_b352 a1 x4 s = some r → mtc (P_X10_does_b352 l s0 D cy ad P a1 x4 res M') (Q_X10_does_b352 l s0 D cy ad P a1 x4 res M') r → P_X10_does_b352 l s0 D cy ad P a1 x4 res M' s := by
  intro s r hr hk
  obtain ⟨x5, M⟩ := s
  unfold f_X10_does_b352 at hr
  try dsimp only at hr
  dsimp only [P_X10_does_b352]
  refine n_iload (n := 5) (by decide +kernel) rfl ?_
  refine n_aload_n (n := 1) (by decide +kernel) rfl ?_
  refine n_sipush (n := 360) (v := 360) (by decide +kernel) (by decide +kernel) ?_
  obtain ⟨v58, h58, hr⟩ := bso hr
  refine n_iald G h58 hp1 hs1 rfl (by decide +kernel) ?_
  refine n_icmp_ge (off := 53) (tgt := 412) (by decide +kernel) (by decide) (fun hc59 => ?_) (fun hc59 => ?_)
  · rw [if_pos hc59] at hr
    cases hr
    refine n_msk [false, true, false, false, true, false, false, false] (lo2 := [.null, _, .null, .null, _, .null, .null, .null]) rfl rfl ?_
    exact hk
  · rw [if_neg hc59] at hr
    refine n_aload_n (n := 1) (by decide +kernel) rfl ?_
    refine n_iload (n := 5) (by decide +kernel) rfl ?_
    obtain ⟨v60, h60, hr⟩ := bso hr
    refine n_callSi G [_, _] (x := v60) (B_X10_isLying G hp1 hs1 h60) (by decide) mX10_isLying ml_RX10_226 rfl rfl (Nat.le_of_ble_eq_true rfl) (by decide +kernel) ?_
    refine n_if_eq (off := 38) (tgt := 406) (by decide +kernel) (by decide) (fun hc61 => ?_) (fun hc61 => ?_)
    · rw [if_pos hc61] at hr
      refine n_iincK (n := 5) (j := 1) (w := 1) (lo2 := [_, _, _, _, _, _, _, _]) (by decide +kernel) rfl rfl rfl ?_
      refine n_goto (off := -57) (tgt := 352) (by decide +kernel) (by decide) ?_
      cases hr
      exact hk
    · rw [if_neg hc61] at hr
      refine n_aload_n (n := 1) (by decide +kernel) rfl ?_
      refine n_iload (n := 5) (by decide +kernel) rfl ?_
      obtain ⟨v62, h62, hr⟩ := bso hr
      refine n_callSi G [_, _] (x := v62) (B_X10_cellOf G hp1 hs1 h62) (by decide) mX10_cellOf ml_RX10_230 rfl rfl (Nat.le_of_ble_eq_true rfl) (by decide +kernel) ?_
      refine n_iload (n := 4) (by decide +kernel) rfl ?_
      refine n_icmp_eq (off := 6) (tgt := 385) (by decide +kernel) (by decide) (fun hc63 => ?_) (fun hc63 => ?_)
      · rw [if_pos hc63] at hr
        refine n_aload_n (n := 1) (by decide +kernel) rfl ?_
        refine n_bipush (n := 6) (v := 6) (by decide +kernel) rfl ?_
        refine n_iload (n := 5) (by decide +kernel) rfl ?_
        refine n_imul (by decide +kernel) ?_
        refine n_iconst (n := 4) (v := 4) (by decide +kernel) rfl ?_
        refine n_iadd (by decide +kernel) ?_
        refine n_iconst (n := 3) (v := 3) (by decide +kernel) rfl ?_
        obtain ⟨M64, h64, hr⟩ := bso hr
        refine n_iast G h64 hp1 hs1 rfl (by decide +kernel) ?_
        refine n_aload_n (n := 1) (by decide +kernel) rfl ?_
        refine n_bipush (n := 6) (v := 6) (by decide +kernel) rfl ?_
        refine n_iload (n := 5) (by decide +kernel) rfl ?_
        refine n_imul (by decide +kernel) ?_
        refine n_iconst (n := 5) (v := 5) (by decide +kernel) rfl ?_
        refine n_iadd (by decide +kernel) ?_
        refine n_iload (n := 4) (by decide +kernel) rfl ?_
        obtain ⟨M65, h65, hr⟩ := bso hr
        refine n_iast G h65 hp1 hs1 rfl (by decide +kernel) ?_
        refine n_iincK (n := 5) (j := 1) (w := 1) (lo2 := [_, _, _, _, _, _, _, _]) (by decide +kernel) rfl rfl rfl ?_
        refine n_goto (off := -57) (tgt := 352) (by decide +kernel) (by decide) ?_
        cases hr
        exact hk
      · rw [if_neg hc63] at hr
        refine n_goto (off := 24) (tgt := 406) (by decide +kernel) (by decide) ?_
        refine n_iincK (n := 5) (j := 1) (w := 1) (lo2 := [_, _, _, _, _, _, _, _]) (by decide +kernel) rfl rfl rfl ?_
        refine n_goto (off := -57) (tgt := 352) (by decide +kernel) (by decide) ?_
        cases hr
        exact hk
set_option maxRecDepth 100000 in
theorem W_X10_does_b352 (G : GG l s0 b L xs D cy ad) {a1 : Nat} {x4 : Int32}  (hp1 : P a1) (hs1 : SH a1 = 12) {s : (Int32 × Mm)} {e : Mm} (h : whl fu (f_X10_does_b352 a1 x4) s = some e) (res : Rs) (M' : Mm) : Q_X10_does_b352 l s0 D cy ad P a1 x4 res M' e → P_X10_does_b352 l s0 D cy ad P a1 x4 res M' s := whl_run (P := fun s => P_X10_does_b352 l s0 D cy ad P a1 x4 res M' s) (Q := fun e => Q_X10_does_b352 l s0 D cy ad P a1 x4 res M' e) (B_X10_does_b352 G (res := res) (M' := M') (a1 := a1) (x4 := x4) hp1 hs1) fu s h
set_option maxRecDepth 100000 in
theorem B_X10_does (G : GG l s0 b L xs D cy ad)  {a1 : Nat} {x2 : Int32} {x3 : Int32} {M : Mm} {r : (Int32 × Mm)} (hp0 : P 76) (hp1 : P a1) (hs1 : SH a1 = 12) (hr : f_X10_does a1 x2 x3 M = some r) : Cl l s0 D cy ad P 15 KX10_does [.ref 76, .ref a1, .int x2, .int x3] M (.inl (some (.int r.1))) (r.2) := by
  unfold f_X10_does at hr
  obtain ⟨⟨v0, M0⟩, h0, h1⟩ := bso hr
  clear hr
  obtain ⟨v1, h2, h3⟩ := bso h1
  obtain ⟨hb, rfl⟩ := rB_in h2
  cases h3
  have hr := h0
  clear h0
  refine cl_ofN (by decide +kernel) rfl rfl (okB hb) (lo0 := [_, _, _, _, .null, .null, .null, .null]) rfl ?_
  unfold g_X10_does at hr
  refine n_bipush (n := 8) (v := 8) (by decide +kernel) rfl ?_
  refine n_aload_n (n := 1) (by decide +kernel) rfl ?_
  refine n_sipush (n := 362) (v := 362) (by decide +kernel) (by decide +kernel) ?_
  obtain ⟨v1, h1, hr⟩ := bso hr
  refine n_iald G h1 hp1 hs1 rfl (by decide +kernel) ?_
  refine n_imul (by decide +kernel) ?_
  refine n_aload_n (n := 1) (by decide +kernel) rfl ?_
  refine n_sipush (n := 361) (v := 361) (by decide +kernel) (by decide +kernel) ?_
  obtain ⟨v2, h2, hr⟩ := bso hr
  refine n_iald G h2 hp1 hs1 rfl (by decide +kernel) ?_
  refine n_iadd (by decide +kernel) ?_
  refine n_istore (n := 4) (lo2 := [_, _, _, _, _, _, _, _]) (by decide +kernel) (Nat.le_of_ble_eq_true rfl) rfl ?_
  refine n_iload_n (n := 2) (by decide +kernel) rfl ?_
  by_cases hc3 : x2 = 0
  · rw [if_pos hc3] at hr
    refine n_tabIn (dflt := 426) (lw := 0) (hi := 5) (offs := #[39, 112, 154, 253, 308, 406]) (len := 39) (off := 39) (tgt := 56) (by decide +kernel) (by rw [hc3]; decide) (by rw [hc3]; decide) (by rw [hc3]; decide) (by decide) ?_
    refine n_iload_n (n := 3) (by decide +kernel) rfl ?_
    refine n_iload (n := 4) (by decide +kernel) rfl ?_
    refine n_icmp_ne (off := 5) (tgt := 64) (by decide +kernel) (by decide) (fun hc4 => ?_) (fun hc4 => ?_)
    · rw [if_neg hc4] at hr
      refine n_aload_n (n := 1) (by decide +kernel) rfl ?_
      refine n_sipush (n := 364) (v := 364) (by decide +kernel) (by decide +kernel) ?_
      refine n_dup2 rfl rfl (by decide +kernel) ?_
      obtain ⟨v5, h5, hr⟩ := bso hr
      refine n_iald G h5 hp1 hs1 rfl (by decide +kernel) ?_
      refine n_aload_n (n := 0) (by decide +kernel) rfl ?_
      refine n_getF (q := 80) G fl_RX10_23 hp0 (by decide +kernel) (by decide +kernel) (by decide +kernel) (fun hp6q => ?_)
      refine n_bipush (n := 6) (v := 6) (by decide +kernel) rfl ?_
      obtain ⟨v7, h7, hr⟩ := bso hr
      refine n_iald G h7 hp6q (by decide +kernel) (by decide +kernel) (by decide +kernel) ?_
      refine n_aload_n (n := 0) (by decide +kernel) rfl ?_
      refine n_getF (q := 80) G fl_RX10_23 hp0 (by decide +kernel) (by decide +kernel) (by decide +kernel) (fun hp8q => ?_)
      refine n_bipush (n := 7) (v := 7) (by decide +kernel) rfl ?_
      obtain ⟨v9, h9, hr⟩ := bso hr
      refine n_iald G h9 hp8q (by decide +kernel) (by decide +kernel) (by decide +kernel) ?_
      refine n_iload_n (n := 3) (by decide +kernel) rfl ?_
      refine n_bipush (n := 8) (v := 8) (by decide +kernel) rfl ?_
      refine n_irem (by decide) (by decide +kernel) ?_
      refine n_iload_n (n := 3) (by decide +kernel) rfl ?_
      refine n_bipush (n := 8) (v := 8) (by decide +kernel) rfl ?_
      refine n_idiv (by decide) (by decide +kernel) ?_
      refine n_aload_n (n := 1) (by decide +kernel) rfl ?_
      refine n_sipush (n := 361) (v := 361) (by decide +kernel) (by decide +kernel) ?_
      obtain ⟨v10, h10, hr⟩ := bso hr
      refine n_iald G h10 hp1 hs1 rfl (by decide +kernel) ?_
      refine n_aload_n (n := 1) (by decide +kernel) rfl ?_
      refine n_sipush (n := 362) (v := 362) (by decide +kernel) (by decide +kernel) ?_
      obtain ⟨v11, h11, hr⟩ := bso hr
      refine n_iald G h11 hp1 hs1 rfl (by decide +kernel) ?_
      obtain ⟨v12, h12, hr⟩ := bso hr
      refine n_callSi G [_, _, _, _] (x := v12) (B_X10_farOf G  h12) (by decide) mX10_farOf ml_RX10_266 rfl rfl (Nat.le_of_ble_eq_true rfl) (by decide +kernel) ?_
      refine n_imul (by decide +kernel) ?_
      refine n_iadd (by decide +kernel) ?_
      refine n_iadd (by decide +kernel) ?_
      obtain ⟨M13, h13, hr⟩ := bso hr
      refine n_iast G h13 hp1 hs1 rfl (by decide +kernel) ?_
      refine n_aload_n (n := 1) (by decide +kernel) rfl ?_
      refine n_sipush (n := 361) (v := 361) (by decide +kernel) (by decide +kernel) ?_
      refine n_iload_n (n := 3) (by decide +kernel) rfl ?_
      refine n_bipush (n := 8) (v := 8) (by decide +kernel) rfl ?_
      refine n_irem (by decide) (by decide +kernel) ?_
      obtain ⟨M14, h14, hr⟩ := bso hr
      refine n_iast G h14 hp1 hs1 rfl (by decide +kernel) ?_
      refine n_aload_n (n := 1) (by decide +kernel) rfl ?_
      refine n_sipush (n := 362) (v := 362) (by decide +kernel) (by decide +kernel) ?_
      refine n_iload_n (n := 3) (by decide +kernel) rfl ?_
      refine n_bipush (n := 8) (v := 8) (by decide +kernel) rfl ?_
      refine n_idiv (by decide) (by decide +kernel) ?_
      obtain ⟨M15, h15, hr⟩ := bso hr
      refine n_iast G h15 hp1 hs1 rfl (by decide +kernel) ?_
      refine n_iconst (n := 1) (v := 1) (by decide +kernel) rfl ?_
      cases hr
      exact n_ireturn (by decide +kernel)
    · rw [if_pos hc4] at hr
      refine n_iconst (n := 0) (v := 0) (by decide +kernel) rfl ?_
      cases hr
      exact n_ireturn (by decide +kernel)
  rw [if_neg hc3] at hr
  by_cases hc16 : x2 = 1
  · rw [if_pos hc16] at hr
    refine n_tabIn (dflt := 426) (lw := 0) (hi := 5) (offs := #[39, 112, 154, 253, 308, 406]) (len := 39) (off := 112) (tgt := 129) (by decide +kernel) (by rw [hc16]; decide) (by rw [hc16]; decide) (by rw [hc16]; decide) (by decide) ?_
    refine n_aload_n (n := 0) (by decide +kernel) rfl ?_
    refine n_aload_n (n := 1) (by decide +kernel) rfl ?_
    refine n_iload_n (n := 3) (by decide +kernel) rfl ?_
    refine n_iconst (n := 0) (v := 0) (by decide +kernel) rfl ?_
    obtain ⟨v17, h17, hr⟩ := bso hr
    refine n_callVl G [_, _, _] (x := v17) (B_X10_loadsOf G hp0 hp1 hs1 h17) (by decide) mX10_loadsOf ml_RX10_270 hp0 (by decide +kernel) rfl rfl (Nat.le_of_ble_eq_true rfl) (by decide +kernel) ?_
    refine n_lstore (n := 5) (lo2 := [_, _, _, _, _, _, _, _]) (by decide +kernel) (Nat.le_of_ble_eq_true rfl) rfl ?_
    refine n_lload (n := 5) (by decide +kernel) rfl ?_
    refine n_lconst (n := 0) (v := 0) (by decide +kernel) rfl ?_
    refine n_lcmp (by decide +kernel) ?_
    refine n_if_ne (off := 5) (tgt := 147) (by decide +kernel) (by decide) (fun hc18 => ?_) (fun hc18 => ?_)
    · rw [if_neg hc18] at hr
      refine n_aload_n (n := 1) (by decide +kernel) rfl ?_
      refine n_sipush (n := 364) (v := 364) (by decide +kernel) (by decide +kernel) ?_
      refine n_dup2 rfl rfl (by decide +kernel) ?_
      obtain ⟨v19, h19, hr⟩ := bso hr
      refine n_iald G h19 hp1 hs1 rfl (by decide +kernel) ?_
      refine n_aload_n (n := 0) (by decide +kernel) rfl ?_
      refine n_aload_n (n := 1) (by decide +kernel) rfl ?_
      refine n_iload_n (n := 3) (by decide +kernel) rfl ?_
      refine n_lload (n := 5) (by decide +kernel) rfl ?_
      obtain ⟨v20, h20, hr⟩ := bso hr
      refine n_callVi G [_, _, _] (x := v20) (B_X10_liftMinutes G hp0 hp1 hs1 h20) (by decide) mX10_liftMinutes ml_RX10_274 hp0 (by decide +kernel) rfl rfl (Nat.le_of_ble_eq_true rfl) (by decide +kernel) ?_
      refine n_iadd (by decide +kernel) ?_
      obtain ⟨M21, h21, hr⟩ := bso hr
      refine n_iast G h21 hp1 hs1 rfl (by decide +kernel) ?_
      refine n_aload_n (n := 1) (by decide +kernel) rfl ?_
      refine n_lload (n := 5) (by decide +kernel) rfl ?_
      obtain ⟨M22, h22, hr⟩ := bso hr
      refine n_callSv G [_, _] (M1 := M22) (B_X10_sledges G hp1 hs1 h22) (by decide) mX10_sledges ml_RX10_278 rfl rfl (Nat.le_of_ble_eq_true rfl) (by decide +kernel) ?_
      refine n_iconst (n := 1) (v := 1) (by decide +kernel) rfl ?_
      cases hr
      exact n_ireturn (by decide +kernel)
    · rw [if_pos hc18] at hr
      refine n_iconst (n := 0) (v := 0) (by decide +kernel) rfl ?_
      cases hr
      exact n_ireturn (by decide +kernel)
  rw [if_neg hc16] at hr
  by_cases hc23 : x2 = 2
  · rw [if_pos hc23] at hr
    refine n_tabIn (dflt := 426) (lw := 0) (hi := 5) (offs := #[39, 112, 154, 253, 308, 406]) (len := 39) (off := 154) (tgt := 171) (by decide +kernel) (by rw [hc23]; decide) (by rw [hc23]; decide) (by rw [hc23]; decide) (by decide) ?_
    refine n_aload_n (n := 0) (by decide +kernel) rfl ?_
    refine n_getF (q := 80) G fl_RX10_23 hp0 (by decide +kernel) (by decide +kernel) (by decide +kernel) (fun hp24q => ?_)
    refine n_iconst (n := 3) (v := 3) (by decide +kernel) rfl ?_
    obtain ⟨v25, h25, hr⟩ := bso hr
    refine n_iald G h25 hp24q (by decide +kernel) (by decide +kernel) (by decide +kernel) ?_
    refine n_iconst (n := 1) (v := 1) (by decide +kernel) rfl ?_
    refine n_icmp_ne (off := 7) (tgt := 185) (by decide +kernel) (by decide) (fun hc26 => ?_) (fun hc26 => ?_)
    · rw [if_neg hc26] at hr
      refine n_aload_n (n := 0) (by decide +kernel) rfl ?_
      refine n_aload_n (n := 1) (by decide +kernel) rfl ?_
      refine n_iload (n := 4) (by decide +kernel) rfl ?_
      refine n_iconst (n := 1) (v := 1) (by decide +kernel) rfl ?_
      obtain ⟨v27, h27, hr⟩ := bso hr
      refine n_callVl G [_, _, _] (x := v27) (B_X10_loadsOf G hp0 hp1 hs1 h27) (by decide) mX10_loadsOf ml_RX10_270 hp0 (by decide +kernel) rfl rfl (Nat.le_of_ble_eq_true rfl) (by decide +kernel) ?_
      refine n_msk [true, true, false, false, false, false, false, false] (lo2 := [_, _, .null, .null, .null, .null, .null, .null]) rfl rfl ?_
      exact B_X10_does_j193 G hp0 hp1 hs1 hr
    · rw [if_pos hc26] at hr
      refine n_lconst (n := 0) (v := 0) (by decide +kernel) rfl ?_
      refine n_goto (off := 11) (tgt := 193) (by decide +kernel) (by decide) ?_
      refine n_msk [true, true, false, false, false, false, false, false] (lo2 := [_, _, .null, .null, .null, .null, .null, .null]) rfl rfl ?_
      exact B_X10_does_j193 G hp0 hp1 hs1 hr
  rw [if_neg hc23] at hr
  by_cases hc40 : x2 = 3
  · rw [if_pos hc40] at hr
    refine n_tabIn (dflt := 426) (lw := 0) (hi := 5) (offs := #[39, 112, 154, 253, 308, 406]) (len := 39) (off := 253) (tgt := 270) (by decide +kernel) (by rw [hc40]; decide) (by rw [hc40]; decide) (by rw [hc40]; decide) (by decide) ?_
    refine n_aload_n (n := 1) (by decide +kernel) rfl ?_
    obtain ⟨v41, h41, hr⟩ := bso hr
    refine n_callSi G [_] (x := v41) (B_X10_onSledge G hp1 hs1 h41) (by decide) mX10_onSledge ml_RX10_263 rfl rfl (Nat.le_of_ble_eq_true rfl) (by decide +kernel) ?_
    refine n_if_ne (off := 5) (tgt := 279) (by decide +kernel) (by decide) (fun hc42 => ?_) (fun hc42 => ?_)
    · rw [if_neg hc42] at hr
      refine n_aload_n (n := 1) (by decide +kernel) rfl ?_
      refine n_sipush (n := 364) (v := 364) (by decide +kernel) (by decide +kernel) ?_
      refine n_dup2 rfl rfl (by decide +kernel) ?_
      obtain ⟨v43, h43, hr⟩ := bso hr
      refine n_iald G h43 hp1 hs1 rfl (by decide +kernel) ?_
      refine n_aload_n (n := 0) (by decide +kernel) rfl ?_
      refine n_getF (q := 80) G fl_RX10_23 hp0 (by decide +kernel) (by decide +kernel) (by decide +kernel) (fun hp44q => ?_)
      refine n_bipush (n := 6) (v := 6) (by decide +kernel) rfl ?_
      obtain ⟨v45, h45, hr⟩ := bso hr
      refine n_iald G h45 hp44q (by decide +kernel) (by decide +kernel) (by decide +kernel) ?_
      refine n_aload_n (n := 0) (by decide +kernel) rfl ?_
      refine n_getF (q := 80) G fl_RX10_23 hp0 (by decide +kernel) (by decide +kernel) (by decide +kernel) (fun hp46q => ?_)
      refine n_bipush (n := 7) (v := 7) (by decide +kernel) rfl ?_
      obtain ⟨v47, h47, hr⟩ := bso hr
      refine n_iald G h47 hp46q (by decide +kernel) (by decide +kernel) (by decide +kernel) ?_
      refine n_aload_n (n := 1) (by decide +kernel) rfl ?_
      refine n_sipush (n := 361) (v := 361) (by decide +kernel) (by decide +kernel) ?_
      obtain ⟨v48, h48, hr⟩ := bso hr
      refine n_iald G h48 hp1 hs1 rfl (by decide +kernel) ?_
      refine n_iconst (n := 1) (v := 1) (by decide +kernel) rfl ?_
      refine n_iadd (by decide +kernel) ?_
      refine n_imul (by decide +kernel) ?_
      refine n_iadd (by decide +kernel) ?_
      refine n_iadd (by decide +kernel) ?_
      obtain ⟨M49, h49, hr⟩ := bso hr
      refine n_iast G h49 hp1 hs1 rfl (by decide +kernel) ?_
      refine n_aload_n (n := 1) (by decide +kernel) rfl ?_
      refine n_iconst (n := 2) (v := 2) (by decide +kernel) rfl ?_
      refine n_iconst (n := -1) (v := -1) (by decide +kernel) rfl ?_
      obtain ⟨⟨v50, M50⟩, h50, hr⟩ := bso hr
      try dsimp only at hr
      refine n_callSi G [_, _, _] (x := v50) (M1 := M50) (B_X10_unloads G hp1 hs1 h50) (by decide) mX10_unloads ml_RX10_282 rfl rfl (Nat.le_of_ble_eq_true rfl) (by decide +kernel) ?_
      refine n_pop rfl (by decide +kernel) ?_
      refine n_aload_n (n := 1) (by decide +kernel) rfl ?_
      refine n_sipush (n := 361) (v := 361) (by decide +kernel) (by decide +kernel) ?_
      refine n_iconst (n := 0) (v := 0) (by decide +kernel) rfl ?_
      obtain ⟨M51, h51, hr⟩ := bso hr
      refine n_iast G h51 hp1 hs1 rfl (by decide +kernel) ?_
      refine n_iconst (n := 1) (v := 1) (by decide +kernel) rfl ?_
      cases hr
      exact n_ireturn (by decide +kernel)
    · rw [if_pos hc42] at hr
      refine n_iconst (n := 0) (v := 0) (by decide +kernel) rfl ?_
      cases hr
      exact n_ireturn (by decide +kernel)
  rw [if_neg hc40] at hr
  by_cases hc52 : x2 = 4
  · rw [if_pos hc52] at hr
    refine n_tabIn (dflt := 426) (lw := 0) (hi := 5) (offs := #[39, 112, 154, 253, 308, 406]) (len := 39) (off := 308) (tgt := 325) (by decide +kernel) (by rw [hc52]; decide) (by rw [hc52]; decide) (by rw [hc52]; decide) (by decide) ?_
    refine n_aload_n (n := 1) (by decide +kernel) rfl ?_
    obtain ⟨v53, h53, hr⟩ := bso hr
    refine n_callSi G [_] (x := v53) (B_X10_onSledge G hp1 hs1 h53) (by decide) mX10_onSledge ml_RX10_263 rfl rfl (Nat.le_of_ble_eq_true rfl) (by decide +kernel) ?_
    refine n_if_ne (off := 5) (tgt := 334) (by decide +kernel) (by decide) (fun hc54 => ?_) (fun hc54 => ?_)
    · rw [if_neg hc54] at hr
      refine n_aload_n (n := 1) (by decide +kernel) rfl ?_
      refine n_sipush (n := 364) (v := 364) (by decide +kernel) (by decide +kernel) ?_
      refine n_dup2 rfl rfl (by decide +kernel) ?_
      obtain ⟨v55, h55, hr⟩ := bso hr
      refine n_iald G h55 hp1 hs1 rfl (by decide +kernel) ?_
      refine n_aload_n (n := 1) (by decide +kernel) rfl ?_
      refine n_iconst (n := 3) (v := 3) (by decide +kernel) rfl ?_
      refine n_iload (n := 4) (by decide +kernel) rfl ?_
      obtain ⟨⟨v56, M56⟩, h56, hr⟩ := bso hr
      try dsimp only at hr
      refine n_callSi G [_, _, _] (x := v56) (M1 := M56) (B_X10_unloads G hp1 hs1 h56) (by decide) mX10_unloads ml_RX10_282 rfl rfl (Nat.le_of_ble_eq_true rfl) (by decide +kernel) ?_
      refine n_iadd (by decide +kernel) ?_
      obtain ⟨M57, h57, hr⟩ := bso hr
      refine n_iast G h57 hp1 hs1 rfl (by decide +kernel) ?_
      refine n_iconst (n := 0) (v := 0) (by decide +kernel) rfl ?_
      refine n_istore (n := 5) (lo2 := [_, _, _, _, _, _, _, _]) (by decide +kernel) (Nat.le_of_ble_eq_true rfl) rfl ?_
      obtain ⟨M66, h66, hr⟩ := bso hr
      refine n_msk [false, true, false, false, true, true, false, false] (lo2 := [.null, _, .null, .null, _, _, .null, .null]) rfl rfl ?_
      refine (W_X10_does_b352 G hp1 hs1 h66 _ _) ?_
      dsimp only [Q_X10_does_b352]
      refine n_aload_n (n := 1) (by decide +kernel) rfl ?_
      refine n_sipush (n := 367) (v := 367) (by decide +kernel) (by decide +kernel) ?_
      refine n_iload (n := 4) (by decide +kernel) rfl ?_
      refine n_iadd (by decide +kernel) ?_
      refine n_iconst (n := 1) (v := 1) (by decide +kernel) rfl ?_
      obtain ⟨M67, h67, hr⟩ := bso hr
      refine n_iast G h67 hp1 hs1 rfl (by decide +kernel) ?_
      refine n_iconst (n := 1) (v := 1) (by decide +kernel) rfl ?_
      cases hr
      exact n_ireturn (by decide +kernel)
    · rw [if_pos hc54] at hr
      refine n_iconst (n := 0) (v := 0) (by decide +kernel) rfl ?_
      cases hr
      exact n_ireturn (by decide +kernel)
  rw [if_neg hc52] at hr
  by_cases hc68 : x2 = 5
  · rw [if_pos hc68] at hr
    refine n_tabIn (dflt := 426) (lw := 0) (hi := 5) (offs := #[39, 112, 154, 253, 308, 406]) (len := 39) (off := 406) (tgt := 423) (by decide +kernel) (by rw [hc68]; decide) (by rw [hc68]; decide) (by rw [hc68]; decide) (by decide) ?_
    refine n_aload_n (n := 1) (by decide +kernel) rfl ?_
    refine n_iload_n (n := 3) (by decide +kernel) rfl ?_
    obtain ⟨v69, h69, hr⟩ := bso hr
    refine n_callSi G [_, _] (x := v69) (B_X10_isLost G hp1 hs1 h69) (by decide) mX10_isLost ml_RX10_285 rfl rfl (Nat.le_of_ble_eq_true rfl) (by decide +kernel) ?_
    refine n_if_eq (off := 5) (tgt := 433) (by decide +kernel) (by decide) (fun hc70 => ?_) (fun hc70 => ?_)
    · rw [if_pos hc70] at hr
      refine n_aload_n (n := 1) (by decide +kernel) rfl ?_
      refine n_sipush (n := 367) (v := 367) (by decide +kernel) (by decide +kernel) ?_
      refine n_iload_n (n := 3) (by decide +kernel) rfl ?_
      refine n_iadd (by decide +kernel) ?_
      refine n_iconst (n := 1) (v := 1) (by decide +kernel) rfl ?_
      obtain ⟨M71, h71, hr⟩ := bso hr
      refine n_iast G h71 hp1 hs1 rfl (by decide +kernel) ?_
      refine n_iconst (n := 1) (v := 1) (by decide +kernel) rfl ?_
      cases hr
      exact n_ireturn (by decide +kernel)
    · rw [if_neg hc70] at hr
      refine n_iconst (n := 0) (v := 0) (by decide +kernel) rfl ?_
      cases hr
      exact n_ireturn (by decide +kernel)
  rw [if_neg hc68] at hr
  have e3 := ne_toInt hc3 (n := 0) rfl
  have e16 := ne_toInt hc16 (n := 1) rfl
  have e23 := ne_toInt hc23 (n := 2) rfl
  have e40 := ne_toInt hc40 (n := 3) rfl
  have e52 := ne_toInt hc52 (n := 4) rfl
  have e68 := ne_toInt hc68 (n := 5) rfl
  refine n_tabOut (dflt := 426) (lw := 0) (hi := 5) (offs := #[39, 112, 154, 253, 308, 406]) (len := 39) (tgt := 443) (by decide +kernel) (by omega) (by decide) ?_
  refine n_aload_n (n := 0) (by decide +kernel) rfl ?_
  refine n_aload_n (n := 1) (by decide +kernel) rfl ?_
  obtain ⟨M72, h72, hr⟩ := bso hr
  refine n_callVv G [_] (M1 := M72) (B_X10_winters G hp0 hp1 hs1 h72) (by decide) mX10_winters ml_RX10_288 hp0 (by decide +kernel) rfl rfl (Nat.le_of_ble_eq_true rfl) (by decide +kernel) ?_
  refine n_iconst (n := 1) (v := 1) (by decide +kernel) rfl ?_
  cases hr
  exact n_ireturn (by decide +kernel)
abbrev P_X10_goes_b2 (l : Launch) (s0 : State) (D : va_G) (cy : Nat → ClassId) (ad : Nat → Nat) (P : Nat → Prop) (n : Nat) (x2 : Int32)  (res : Rs) (M' : Mm) (s : (Int32 × Mm)) : Prop := Rn l s0 D cy ad P (15 + (n + 1)) KX10_goes 2 [.ref 76, .null, .int x2, .int (s.1), .null] [] (s.2) res M'
abbrev Q_X10_goes_b2 (l : Launch) (s0 : State) (D : va_G) (cy : Nat → ClassId) (ad : Nat → Nat) (P : Nat → Prop) (n : Nat) (x2 : Int32)  (res : Rs) (M' : Mm) (e : Mm) : Prop := Rn l s0 D cy ad P (15 + (n + 1)) KX10_goes 166 [.null, .null, .null, .null, .null] [] (e) res M'
abbrev P_X10_goes_b43 (l : Launch) (s0 : State) (D : va_G) (cy : Nat → ClassId) (ad : Nat → Nat) (P : Nat → Prop) (n : Nat) (x2 : Int32) (x3 : Int32)  (res : Rs) (M' : Mm) (s : (Int32 × Mm)) : Prop := Rn l s0 D cy ad P (15 + (n + 1)) KX10_goes 43 [.ref 76, .null, .int x2, .int x3, .int (s.1)] [] (s.2) res M'
abbrev Q_X10_goes_b43 (l : Launch) (s0 : State) (D : va_G) (cy : Nat → ClassId) (ad : Nat → Nat) (P : Nat → Prop) (n : Nat) (x2 : Int32) (x3 : Int32)  (res : Rs) (M' : Mm) (e : Mm) : Prop := Rn l s0 D cy ad P (15 + (n + 1)) KX10_goes 87 [.ref 76, .null, .int x2, .int x3, .null] [] (e) res M'
set_option maxRecDepth 100000 in
theorem B_X10_goes_b43 (G : GG l s0 b L xs D cy ad) {n : Nat} {rec : Nat → Int32 → Int32 → Mm → Option Mm} {x2 : Int32} {x3 : Int32}  {res : Rs} {M' : Mm} (hrec0 : ∀ (x1 : Int32) (x2 : Int32) (M r : Mm) (hp0 : P 76), rec 0 x1 x2 M = some r → Cl l s0 D cy ad P (15 + n) KX10_goes [.ref 76, .int x1, .int x2] M (.inl none) r) (hp0 : P 76) : ∀ (s : (Int32 × Mm)) (r : (Int32 × Mm) ⊕ Mm), f_X10_goes_b43 rec x2 x3 s = some r → mtc (P_X10_goes_b43 l s0 D cy ad P n x2 x3 res M') (Q_X10_goes_b43 l s0 D cy ad P n x2 x3 res M') r → P_X10_goes_b43 l s0 D cy ad P n x2 x3 res M' s := by
  intro s r hr hk
  obtain ⟨x4, M⟩ := s
  unfold f_X10_goes_b43 at hr
  try dsimp only at hr
  dsimp only [P_X10_goes_b43]
  refine n_iload (n := 4) (by decide +kernel) rfl ?_
  refine n_aload_n (n := 0) (by decide +kernel) rfl ?_
  refine n_getF (q := 135) G fl_RX10_58 hp0 (by decide +kernel) (by decide +kernel) (by decide +kernel) (fun hp20q => ?_)
  refine n_iload_n (n := 3) (by decide +kernel) rfl ?_
  obtain ⟨q21, h21, hr⟩ := bso hr
  refine n_aald G h21 hp20q (by decide +kernel) (by decide +kernel) (by decide +kernel) (fun hp21q => ?_)
  refine n_iconst (n := 1) (v := 1) (by decide +kernel) rfl ?_
  obtain ⟨v22, h22, hr⟩ := bso hr
  refine n_iald G h22 hp21q (row_135 h21).1 (row_135 h21).2 (by decide +kernel) ?_
  refine n_icmp_ge (off := 34) (tgt := 87) (by decide +kernel) (by decide) (fun hc23 => ?_) (fun hc23 => ?_)
  · rw [if_pos hc23] at hr
    cases hr
    refine n_msk [true, false, true, true, false] (lo2 := [_, .null, _, _, .null]) rfl rfl ?_
    exact hk
  · rw [if_neg hc23] at hr
    refine n_aload_n (n := 0) (by decide +kernel) rfl ?_
    refine n_getI G fl_RX10_305 hp0 (by decide +kernel) (by decide +kernel) ?_
    refine n_sipush (n := 300) (v := 300) (by decide +kernel) (by decide +kernel) ?_
    refine n_icmp_ge (off := 24) (tgt := 87) (by decide +kernel) (by decide) (fun hc24 => ?_) (fun hc24 => ?_)
    · rw [if_pos hc24] at hr
      cases hr
      refine n_msk [true, false, true, true, false] (lo2 := [_, .null, _, _, .null]) rfl rfl ?_
      exact hk
    · rw [if_neg hc24] at hr
      refine n_aload_n (n := 0) (by decide +kernel) rfl ?_
      refine n_iload_n (n := 3) (by decide +kernel) rfl ?_
      refine n_iconst (n := 1) (v := 1) (by decide +kernel) rfl ?_
      refine n_iadd (by decide +kernel) ?_
      refine n_aload_n (n := 0) (by decide +kernel) rfl ?_
      refine n_getF (q := 135) G fl_RX10_58 hp0 (by decide +kernel) (by decide +kernel) (by decide +kernel) (fun hp25q => ?_)
      refine n_iload_n (n := 3) (by decide +kernel) rfl ?_
      obtain ⟨q26, h26, hr⟩ := bso hr
      refine n_aald G h26 hp25q (by decide +kernel) (by decide +kernel) (by decide +kernel) (fun hp26q => ?_)
      refine n_iconst (n := 2) (v := 2) (by decide +kernel) rfl ?_
      obtain ⟨v27, h27, hr⟩ := bso hr
      refine n_iald G h27 hp26q (row_135 h26).1 (row_135 h26).2 (by decide +kernel) ?_
      obtain ⟨M28, h28, hr⟩ := bso hr
      refine n_callVv G [_, _] (M1 := M28) (hrec0 _ _ _ _ hp0 h28) (by omega) mX10_goes ml_RX10_308 hp0 (by decide +kernel) rfl rfl (Nat.le_of_ble_eq_true rfl) (by decide +kernel) ?_
      refine n_iincK (n := 4) (j := 1) (w := 1) (lo2 := [_, _, _, _, _]) (by decide +kernel) rfl rfl rfl ?_
      refine n_goto (off := -41) (tgt := 43) (by decide +kernel) (by decide) ?_
      cases hr
      exact hk
set_option maxRecDepth 100000 in
theorem W_X10_goes_b43 (G : GG l s0 b L xs D cy ad) {n : Nat} {rec : Nat → Int32 → Int32 → Mm → Option Mm} {x2 : Int32} {x3 : Int32}  (hrec0 : ∀ (x1 : Int32) (x2 : Int32) (M r : Mm) (hp0 : P 76), rec 0 x1 x2 M = some r → Cl l s0 D cy ad P (15 + n) KX10_goes [.ref 76, .int x1, .int x2] M (.inl none) r) (hp0 : P 76) {s : (Int32 × Mm)} {e : Mm} (h : whl fu (f_X10_goes_b43 rec x2 x3) s = some e) (res : Rs) (M' : Mm) : Q_X10_goes_b43 l s0 D cy ad P n x2 x3 res M' e → P_X10_goes_b43 l s0 D cy ad P n x2 x3 res M' s := whl_run (P := fun s => P_X10_goes_b43 l s0 D cy ad P n x2 x3 res M' s) (Q := fun e => Q_X10_goes_b43 l s0 D cy ad P n x2 x3 res M' e) (B_X10_goes_b43 G (res := res) (M' := M') (n := n) (rec := rec) (x2 := x2) (x3 := x3) hrec0 hp0) fu s h
set_option maxRecDepth 100000 in
theorem B_X10_goes_j87 (G : GG l s0 b L xs D cy ad) {n : Nat} {rec : Nat → Int32 → Int32 → Mm → Option Mm} {x2 : Int32} {x3 : Int32} {M : Mm}  {res : Rs} {M' : Mm} {r : ((Int32 × Mm) ⊕ Mm)} (hrec0 : ∀ (x1 : Int32) (x2 : Int32) (M r : Mm) (hp0 : P 76), rec 0 x1 x2 M = some r → Cl l s0 D cy ad P (15 + n) KX10_goes [.ref 76, .int x1, .int x2] M (.inl none) r) (hp0 : P 76) (hr : f_X10_goes_j87 rec x2 x3 M = some r) (hk : mtc (P_X10_goes_b2 l s0 D cy ad P n x2 res M') (Q_X10_goes_b2 l s0 D cy ad P n x2 res M') r) : Rn l s0 D cy ad P (15 + (n + 1)) KX10_goes 87 [.ref 76, .null, .int x2, .int x3, .null] [] M res M' := by
  unfold f_X10_goes_j87 at hr
  refine n_goto (off := 67) (tgt := 154) (by decide +kernel) (by decide) ?_
  refine n_aload_n (n := 0) (by decide +kernel) rfl ?_
  refine n_getF (q := 135) G fl_RX10_58 hp0 (by decide +kernel) (by decide +kernel) (by decide +kernel) (fun hp30q => ?_)
  refine n_iload_n (n := 3) (by decide +kernel) rfl ?_
  obtain ⟨q31, h31, hr⟩ := bso hr
  refine n_aald G h31 hp30q (by decide +kernel) (by decide +kernel) (by decide +kernel) (fun hp31q => ?_)
  refine n_iconst (n := 2) (v := 2) (by decide +kernel) rfl ?_
  obtain ⟨v32, h32, hr⟩ := bso hr
  refine n_iald G h32 hp31q (row_135 h31).1 (row_135 h31).2 (by decide +kernel) ?_
  refine n_istore_n (n := 3) (lo2 := [_, _, _, _, _]) (by decide +kernel) (Nat.le_of_ble_eq_true rfl) rfl ?_
  refine n_goto (off := -161) (tgt := 2) (by decide +kernel) (by decide) ?_
  cases hr
  exact hk
set_option maxRecDepth 100000 in
theorem B_X10_goes_b2 (G : GG l s0 b L xs D cy ad) {n : Nat} {rec : Nat → Int32 → Int32 → Mm → Option Mm} {x2 : Int32}  {res : Rs} {M' : Mm} (hrec0 : ∀ (x1 : Int32) (x2 : Int32) (M r : Mm) (hp0 : P 76), rec 0 x1 x2 M = some r → Cl l s0 D cy ad P (15 + n) KX10_goes [.ref 76, .int x1, .int x2] M (.inl none) r) (hp0 : P 76) : ∀ (s : (Int32 × Mm)) (r : (Int32 × Mm) ⊕ Mm), f_X10_goes_b2 rec x2 s = some r → mtc (P_X10_goes_b2 l s0 D cy ad P n x2 res M') (Q_X10_goes_b2 l s0 D cy ad P n x2 res M') r → P_X10_goes_b2 l s0 D cy ad P n x2 res M' s := by
  intro s r hr hk
  obtain ⟨x3, M⟩ := s
  unfold f_X10_goes_b2 at hr
  try dsimp only at hr
  dsimp only [P_X10_goes_b2]
  refine n_iload_n (n := 3) (by decide +kernel) rfl ?_
  refine n_iload_n (n := 2) (by decide +kernel) rfl ?_
  refine n_icmp_ge (off := 162) (tgt := 166) (by decide +kernel) (by decide) (fun hc1 => ?_) (fun hc1 => ?_)
  · rw [if_pos hc1] at hr
    cases hr
    refine n_msk [false, false, false, false, false] (lo2 := [.null, .null, .null, .null, .null]) rfl rfl ?_
    exact hk
  · rw [if_neg hc1] at hr
    refine n_aload_n (n := 0) (by decide +kernel) rfl ?_
    refine n_getI G fl_RX10_305 hp0 (by decide +kernel) (by decide +kernel) ?_
    refine n_sipush (n := 300) (v := 300) (by decide +kernel) (by decide +kernel) ?_
    refine n_icmp_ge (off := 152) (tgt := 166) (by decide +kernel) (by decide) (fun hc2 => ?_) (fun hc2 => ?_)
    · rw [if_pos hc2] at hr
      cases hr
      refine n_msk [false, false, false, false, false] (lo2 := [.null, .null, .null, .null, .null]) rfl rfl ?_
      exact hk
    · rw [if_neg hc2] at hr
      refine n_aload_n (n := 0) (by decide +kernel) rfl ?_
      refine n_dup rfl (by decide +kernel) ?_
      refine n_getI G fl_RX10_305 hp0 (by decide +kernel) (by decide +kernel) ?_
      refine n_iconst (n := 1) (v := 1) (by decide +kernel) rfl ?_
      refine n_iadd (by decide +kernel) ?_
      refine n_putI G fl_RX10_305 hp0 (by decide +kernel) (by decide +kernel) ?_
      refine n_aload_n (n := 0) (by decide +kernel) rfl ?_
      refine n_getF (q := 135) G fl_RX10_58 hp0 (by decide +kernel) (by decide +kernel) (by decide +kernel) (fun hp3q => ?_)
      refine n_iload_n (n := 3) (by decide +kernel) rfl ?_
      obtain ⟨q4, h4, hr⟩ := bso hr
      refine n_aald G h4 hp3q (by decide +kernel) (by decide +kernel) (by decide +kernel) (fun hp4q => ?_)
      refine n_iconst (n := 0) (v := 0) (by decide +kernel) rfl ?_
      obtain ⟨v5, h5, hr⟩ := bso hr
      refine n_iald G h5 hp4q (row_135 h4).1 (row_135 h4).2 (by decide +kernel) ?_
      refine n_bipush (n := 7) (v := 7) (by decide +kernel) rfl ?_
      refine n_icmp_ne (off := 53) (tgt := 90) (by decide +kernel) (by decide) (fun hc6 => ?_) (fun hc6 => ?_)
      · rw [if_neg hc6] at hr
        refine n_aload_n (n := 0) (by decide +kernel) rfl ?_
        refine n_aload_n (n := 0) (by decide +kernel) rfl ?_
        refine n_getF (q := 196) G fl_RX10_61 hp0 (by decide +kernel) (by decide +kernel) (by decide +kernel) (fun hp7q => ?_)
        refine n_aload_n (n := 0) (by decide +kernel) rfl ?_
        refine n_getF (q := 135) G fl_RX10_58 hp0 (by decide +kernel) (by decide +kernel) (by decide +kernel) (fun hp8q => ?_)
        refine n_iload_n (n := 3) (by decide +kernel) rfl ?_
        obtain ⟨q9, h9, hr⟩ := bso hr
        refine n_aald G h9 hp8q (by decide +kernel) (by decide +kernel) (by decide +kernel) (fun hp9q => ?_)
        refine n_iconst (n := 0) (v := 0) (by decide +kernel) rfl ?_
        obtain ⟨v10, h10, hr⟩ := bso hr
        refine n_iald G h10 hp9q (row_135 h9).1 (row_135 h9).2 (by decide +kernel) ?_
        refine n_aload_n (n := 0) (by decide +kernel) rfl ?_
        refine n_getF (q := 135) G fl_RX10_58 hp0 (by decide +kernel) (by decide +kernel) (by decide +kernel) (fun hp11q => ?_)
        refine n_iload_n (n := 3) (by decide +kernel) rfl ?_
        obtain ⟨q12, h12, hr⟩ := bso hr
        refine n_aald G h12 hp11q (by decide +kernel) (by decide +kernel) (by decide +kernel) (fun hp12q => ?_)
        refine n_iconst (n := 1) (v := 1) (by decide +kernel) rfl ?_
        obtain ⟨v13, h13, hr⟩ := bso hr
        refine n_iald G h13 hp12q (row_135 h12).1 (row_135 h12).2 (by decide +kernel) ?_
        obtain ⟨⟨v14, M14⟩, h14, hr⟩ := bso hr
        try dsimp only at hr
        refine n_callVi G [_, _, _] (x := v14) (M1 := M14) (B_X10_does G hp0 hp7q (by decide +kernel) h14) (by omega) mX10_does ml_RX10_311 hp0 (by decide +kernel) rfl rfl (Nat.le_of_ble_eq_true rfl) (by decide +kernel) ?_
        refine n_istore (n := 4) (lo2 := [_, _, _, _, _]) (by decide +kernel) (Nat.le_of_ble_eq_true rfl) rfl ?_
        refine n_aload_n (n := 0) (by decide +kernel) rfl ?_
        refine n_dup rfl (by decide +kernel) ?_
        refine n_getI G fl_RX10_315 hp0 (by decide +kernel) (by decide +kernel) ?_
        refine n_iload (n := 4) (by decide +kernel) rfl ?_
        refine n_dia1 (J := 131) (c := v14 = 0) (a := (0 : Int32)) (b := (1 : Int32)) (fun hJ => ?_) ?_
        · refine n_if_eq (off := 7) (tgt := 130) (by decide +kernel) (by decide) (fun hc15 => ?_) (fun hc15 => ?_)
          · refine n_iconst (n := 0) (v := 0) (by decide +kernel) rfl ?_
            exact hJ _ (if_pos hc15).symm
          · refine n_iconst (n := 1) (v := 1) (by decide +kernel) rfl ?_
            refine n_goto (off := 4) (tgt := 131) (by decide +kernel) (by decide) ?_
            exact hJ _ (if_neg hc15).symm
        refine n_iadd (by decide +kernel) ?_
        refine n_putI G fl_RX10_315 hp0 (by decide +kernel) (by decide +kernel) ?_
        refine n_aload_n (n := 0) (by decide +kernel) rfl ?_
        refine n_dup rfl (by decide +kernel) ?_
        refine n_getI G fl_RX10_184 hp0 (by decide +kernel) (by decide +kernel) ?_
        refine n_iload (n := 4) (by decide +kernel) rfl ?_
        refine n_dia1 (J := 150) (c := v14 = 0) (a := (1 : Int32)) (b := (0 : Int32)) (fun hJ => ?_) ?_
        · refine n_if_eq (off := 7) (tgt := 149) (by decide +kernel) (by decide) (fun hc16 => ?_) (fun hc16 => ?_)
          · refine n_iconst (n := 1) (v := 1) (by decide +kernel) rfl ?_
            exact hJ _ (if_pos hc16).symm
          · refine n_iconst (n := 0) (v := 0) (by decide +kernel) rfl ?_
            refine n_goto (off := 4) (tgt := 150) (by decide +kernel) (by decide) ?_
            exact hJ _ (if_neg hc16).symm
        refine n_iadd (by decide +kernel) ?_
        refine n_putI G fl_RX10_184 hp0 (by decide +kernel) (by decide +kernel) ?_
        refine n_aload_n (n := 0) (by decide +kernel) rfl ?_
        refine n_getF (q := 135) G fl_RX10_58 hp0 (by decide +kernel) (by decide +kernel) (by decide +kernel) (fun hp17q => ?_)
        refine n_iload_n (n := 3) (by decide +kernel) rfl ?_
        obtain ⟨q18, h18, hr⟩ := bso hr
        refine n_aald G h18 hp17q (by decide +kernel) (by decide +kernel) (by decide +kernel) (fun hp18q => ?_)
        refine n_iconst (n := 2) (v := 2) (by decide +kernel) rfl ?_
        obtain ⟨v19, h19, hr⟩ := bso hr
        refine n_iald G h19 hp18q (row_135 h18).1 (row_135 h18).2 (by decide +kernel) ?_
        refine n_istore_n (n := 3) (lo2 := [_, _, _, _, _]) (by decide +kernel) (Nat.le_of_ble_eq_true rfl) rfl ?_
        refine n_goto (off := -161) (tgt := 2) (by decide +kernel) (by decide) ?_
        cases hr
        refine n_msk [true, false, true, true, false] (lo2 := [_, .null, _, _, .null]) rfl rfl ?_
        exact hk
      · rw [if_pos hc6] at hr
        refine n_iconst (n := 0) (v := 0) (by decide +kernel) rfl ?_
        refine n_istore (n := 4) (lo2 := [_, _, _, _, _]) (by decide +kernel) (Nat.le_of_ble_eq_true rfl) rfl ?_
        obtain ⟨M29, h29, hr⟩ := bso hr
        refine (W_X10_goes_b43 G hrec0 hp0 h29 _ _) ?_
        dsimp only [Q_X10_goes_b43]
        exact B_X10_goes_j87 G hrec0 hp0 hr hk
set_option maxRecDepth 100000 in
theorem W_X10_goes_b2 (G : GG l s0 b L xs D cy ad) {n : Nat} {rec : Nat → Int32 → Int32 → Mm → Option Mm} {x2 : Int32}  (hrec0 : ∀ (x1 : Int32) (x2 : Int32) (M r : Mm) (hp0 : P 76), rec 0 x1 x2 M = some r → Cl l s0 D cy ad P (15 + n) KX10_goes [.ref 76, .int x1, .int x2] M (.inl none) r) (hp0 : P 76) {s : (Int32 × Mm)} {e : Mm} (h : whl fu (f_X10_goes_b2 rec x2) s = some e) (res : Rs) (M' : Mm) : Q_X10_goes_b2 l s0 D cy ad P n x2 res M' e → P_X10_goes_b2 l s0 D cy ad P n x2 res M' s := whl_run (P := fun s => P_X10_goes_b2 l s0 D cy ad P n x2 res M' s) (Q := fun e => Q_X10_goes_b2 l s0 D cy ad P n x2 res M' e) (B_X10_goes_b2 G (res := res) (M' := M') (n := n) (rec := rec) (x2 := x2) hrec0 hp0) fu s h
set_option maxRecDepth 100000 in
theorem Bb_X10_goes (G : GG l s0 b L xs D cy ad) {n : Nat} {rec : Nat → Int32 → Int32 → Mm → Option Mm} {x1 : Int32} {x2 : Int32} {M : Mm} {r : Mm} (hrec0 : ∀ (x1 : Int32) (x2 : Int32) (M r : Mm) (hp0 : P 76), rec 0 x1 x2 M = some r → Cl l s0 D cy ad P (15 + n) KX10_goes [.ref 76, .int x1, .int x2] M (.inl none) r) (hp0 : P 76) (hr : fb_X10_goes rec x1 x2 M = some r) : Cl l s0 D cy ad P (15 + (n + 1)) KX10_goes [.ref 76, .int x1, .int x2] M (.inl none) (r) := by
  refine cl_ofN (by decide +kernel) rfl rfl rfl (lo0 := [_, _, _, .null, .null]) rfl ?_
  unfold fb_X10_goes at hr
  refine n_iload_n (n := 1) (by decide +kernel) rfl ?_
  refine n_istore_n (n := 3) (lo2 := [_, _, _, _, _]) (by decide +kernel) (Nat.le_of_ble_eq_true rfl) rfl ?_
  obtain ⟨M33, h33, hr⟩ := bso hr
  refine n_msk [true, false, true, true, false] (lo2 := [_, .null, _, _, .null]) rfl rfl ?_
  refine (W_X10_goes_b2 G hrec0 hp0 h33 _ _) ?_
  dsimp only [Q_X10_goes_b2]
  cases hr
  exact n_return (by decide +kernel)
set_option maxRecDepth 100000 in
theorem BR_X10_goes (G : GG l s0 b L xs D cy ad) : ∀ n : Nat, (∀ (x1 : Int32) (x2 : Int32) (M r : Mm) (hp0 : P 76), R_X10_goes n 0 x1 x2 M = some r → Cl l s0 D cy ad P (15 + n) KX10_goes [.ref 76, .int x1, .int x2] M (.inl none) r) := by
  intro n
  induction n with
  | zero => exact fun _ _ _ _ _ h => (nomatch h)
  | succ n ih =>
    have ih0 := ih
    exact fun _ _ _ _ hp0 h => Bb_X10_goes G ih0 hp0 h
set_option maxRecDepth 100000 in
theorem B_X10_goes (G : GG l s0 b L xs D cy ad) {x1 : Int32} {x2 : Int32} {M r : Mm} (hp0 : P 76) (hr : f_X10_goes x1 x2 M = some r) : Cl l s0 D cy ad P 75 KX10_goes [.ref 76, .int x1, .int x2] M (.inl none) r := (BR_X10_goes G 60) _ _ _ _ hp0 hr
abbrev P_X10_copies_b2 (l : Launch) (s0 : State) (D : va_G) (cy : Nat → ClassId) (ad : Nat → Nat) (P : Nat → Prop) (a0 : Nat) (a1 : Nat)  (res : Rs) (M' : Mm) (s : (Int32 × Mm)) : Prop := Rn l s0 D cy ad P 9 KX10_copies 2 [.ref a0, .ref a1, .int (s.1)] [] (s.2) res M'
abbrev Q_X10_copies_b2 (l : Launch) (s0 : State) (D : va_G) (cy : Nat → ClassId) (ad : Nat → Nat) (P : Nat → Prop) (a0 : Nat) (a1 : Nat)  (res : Rs) (M' : Mm) (e : Mm) : Prop := Rn l s0 D cy ad P 9 KX10_copies 21 [.null, .null, .null] [] (e) res M'
set_option maxRecDepth 100000 in
theorem B_X10_copies_b2 (G : GG l s0 b L xs D cy ad) {a0 : Nat} {a1 : Nat}  {res : Rs} {M' : Mm} (hp0 : P a0) (hs0 : SH a0 = 12) (hp1 : P a1) (hs1 : SH a1 = 12) : ∀ (s : (Int32 × Mm)) (r : (Int32 × Mm) ⊕ Mm), f_X10_copies_b2 a0 a1 s = some r → mtc (P_X10_copies_b2 l s0 D cy ad P a0 a1 res M') (Q_X10_copies_b2 l s0 D cy ad P a0 a1 res M') r → P_X10_copies_b2 l s0 D cy ad P a0 a1 res M' s := by
  intro s r hr hk
  obtain ⟨x2, M⟩ := s
  unfold f_X10_copies_b2 at hr
  try dsimp only at hr
  dsimp only [P_X10_copies_b2]
  refine n_iload_n (n := 2) (by decide +kernel) rfl ?_
  refine n_sipush (n := 415) (v := 415) (by decide +kernel) (by decide +kernel) ?_
  refine n_icmp_ge (off := 15) (tgt := 21) (by decide +kernel) (by decide) (fun hc1 => ?_) (fun hc1 => ?_)
  · rw [if_pos hc1] at hr
    cases hr
    refine n_msk [false, false, false] (lo2 := [.null, .null, .null]) rfl rfl ?_
    exact hk
  · rw [if_neg hc1] at hr
    refine n_aload_n (n := 1) (by decide +kernel) rfl ?_
    refine n_iload_n (n := 2) (by decide +kernel) rfl ?_
    refine n_aload_n (n := 0) (by decide +kernel) rfl ?_
    refine n_iload_n (n := 2) (by decide +kernel) rfl ?_
    obtain ⟨v2, h2, hr⟩ := bso hr
    refine n_iald G h2 hp0 hs0 rfl (by decide +kernel) ?_
    obtain ⟨M3, h3, hr⟩ := bso hr
    refine n_iast G h3 hp1 hs1 rfl (by decide +kernel) ?_
    refine n_iincK (n := 2) (j := 1) (w := 1) (lo2 := [_, _, _]) (by decide +kernel) rfl rfl rfl ?_
    refine n_goto (off := -16) (tgt := 2) (by decide +kernel) (by decide) ?_
    cases hr
    exact hk
set_option maxRecDepth 100000 in
theorem W_X10_copies_b2 (G : GG l s0 b L xs D cy ad) {a0 : Nat} {a1 : Nat}  (hp0 : P a0) (hs0 : SH a0 = 12) (hp1 : P a1) (hs1 : SH a1 = 12) {s : (Int32 × Mm)} {e : Mm} (h : whl fu (f_X10_copies_b2 a0 a1) s = some e) (res : Rs) (M' : Mm) : Q_X10_copies_b2 l s0 D cy ad P a0 a1 res M' e → P_X10_copies_b2 l s0 D cy ad P a0 a1 res M' s := whl_run (P := fun s => P_X10_copies_b2 l s0 D cy ad P a0 a1 res M' s) (Q := fun e => Q_X10_copies_b2 l s0 D cy ad P a0 a1 res M' e) (B_X10_copies_b2 G (res := res) (M' := M') (a0 := a0) (a1 := a1) hp0 hs0 hp1 hs1) fu s h
set_option maxRecDepth 100000 in
theorem B_X10_copies (G : GG l s0 b L xs D cy ad)  {a0 : Nat} {a1 : Nat} {M : Mm} {r : Mm} (hp0 : P a0) (hs0 : SH a0 = 12) (hp1 : P a1) (hs1 : SH a1 = 12) (hr : f_X10_copies a0 a1 M = some r) : Cl l s0 D cy ad P 9 KX10_copies [.ref a0, .ref a1] M (.inl none) (r) := by
  refine cl_ofN (by decide +kernel) rfl rfl rfl (lo0 := [_, _, .null]) rfl ?_
  unfold f_X10_copies at hr
  refine n_iconst (n := 0) (v := 0) (by decide +kernel) rfl ?_
  refine n_istore_n (n := 2) (lo2 := [_, _, _]) (by decide +kernel) (Nat.le_of_ble_eq_true rfl) rfl ?_
  obtain ⟨M4, h4, hr⟩ := bso hr
  refine (W_X10_copies_b2 G hp0 hs0 hp1 hs1 h4 _ _) ?_
  dsimp only [Q_X10_copies_b2]
  cases hr
  exact n_return (by decide +kernel)
abbrev P_X10_work_b72 (l : Launch) (s0 : State) (D : va_G) (cy : Nat → ClassId) (ad : Nat → Nat) (P : Nat → Prop)   (res : Rs) (M' : Mm) (s : Mm) : Prop := Rn l s0 D cy ad P 76 KX10_work 72 [.ref 76, .null] [] (s) res M'
abbrev Q_X10_work_b72 (l : Launch) (s0 : State) (D : va_G) (cy : Nat → ClassId) (ad : Nat → Nat) (P : Nat → Prop)   (res : Rs) (M' : Mm) (e : Mm) : Prop := Rn l s0 D cy ad P 76 KX10_work 101 [.ref 76, .null] [] (e) res M'
set_option maxRecDepth 100000 in
theorem B_X10_work_b72 (G : GG l s0 b L xs D cy ad)   {res : Rs} {M' : Mm} (hp0 : P 76) : ∀ (s : Mm) (r : Mm ⊕ Mm), f_X10_work_b72  s = some r → mtc (P_X10_work_b72 l s0 D cy ad P  res M') (Q_X10_work_b72 l s0 D cy ad P  res M') r → P_X10_work_b72 l s0 D cy ad P  res M' s := by
  intro M r hr hk
  unfold f_X10_work_b72 at hr
  try dsimp only at hr
  dsimp only [P_X10_work_b72]
  refine n_aload_n (n := 0) (by decide +kernel) rfl ?_
  refine n_getI G fl_RX10_104 hp0 (by decide +kernel) (by decide +kernel) ?_
  refine n_if_ne (off := 25) (tgt := 101) (by decide +kernel) (by decide) (fun hc7 => ?_) (fun hc7 => ?_)
  · rw [if_neg hc7] at hr
    cases hr
    exact hk
  · rw [if_pos hc7] at hr
    refine n_aload_n (n := 0) (by decide +kernel) rfl ?_
    refine n_getI G fl_RX10_97 hp0 (by decide +kernel) (by decide +kernel) ?_
    refine n_aload_n (n := 0) (by decide +kernel) rfl ?_
    refine n_getI G fl_RX10_94 hp0 (by decide +kernel) (by decide +kernel) ?_
    refine n_icmp_ge (off := 14) (tgt := 101) (by decide +kernel) (by decide) (fun hc8 => ?_) (fun hc8 => ?_)
    · rw [if_pos hc8] at hr
      cases hr
      exact hk
    · rw [if_neg hc8] at hr
      refine n_aload_n (n := 0) (by decide +kernel) rfl ?_
      obtain ⟨M9, h9, hr⟩ := bso hr
      refine n_callVv G [] (M1 := M9) (B_X10_readsStep G hp0 h9) (by decide) mX10_readsStep ml_RX10_260 hp0 (by decide +kernel) rfl rfl (Nat.le_of_ble_eq_true rfl) (by decide +kernel) ?_
      refine n_aload_n (n := 0) (by decide +kernel) rfl ?_
      obtain ⟨M10, h10, hr⟩ := bso hr
      refine n_callVv G [] (M1 := M10) (B_X10_blanks G hp0 h10) (by decide) mX10_blanks ml_RX10_110 hp0 (by decide +kernel) rfl rfl (Nat.le_of_ble_eq_true rfl) (by decide +kernel) ?_
      refine n_goto (off := -26) (tgt := 72) (by decide +kernel) (by decide) ?_
      cases hr
      exact hk
set_option maxRecDepth 100000 in
theorem W_X10_work_b72 (G : GG l s0 b L xs D cy ad)   (hp0 : P 76) {s : Mm} {e : Mm} (h : whl fu (f_X10_work_b72 ) s = some e) (res : Rs) (M' : Mm) : Q_X10_work_b72 l s0 D cy ad P  res M' e → P_X10_work_b72 l s0 D cy ad P  res M' s := whl_run (P := fun s => P_X10_work_b72 l s0 D cy ad P  res M' s) (Q := fun e => Q_X10_work_b72 l s0 D cy ad P  res M' e) (B_X10_work_b72 G (res := res) (M' := M')  hp0) fu s h
set_option maxRecDepth 100000 in
theorem B_X10_work_j101 (G : GG l s0 b L xs D cy ad)  {M : Mm} {r : (Int32 × Mm)} (hp0 : P 76) (hr : f_X10_work_j101  M = some r) : Rn l s0 D cy ad P 76 KX10_work 101 [.ref 76, .null] [] M (.inl (some (.int r.1))) (r.2) := by
  unfold f_X10_work_j101 at hr
  refine n_aload_n (n := 0) (by decide +kernel) rfl ?_
  refine n_getI G fl_RX10_104 hp0 (by decide +kernel) (by decide +kernel) ?_
  refine n_if_eq (off := 8) (tgt := 113) (by decide +kernel) (by decide) (fun hc12 => ?_) (fun hc12 => ?_)
  · rw [if_pos hc12] at hr
    refine n_aload_n (n := 0) (by decide +kernel) rfl ?_
    refine n_iconst (n := -1) (v := -1) (by decide +kernel) rfl ?_
    refine n_putI G fl_RX10_9 hp0 (by decide +kernel) (by decide +kernel) ?_
    refine n_aload_n (n := 0) (by decide +kernel) rfl ?_
    refine n_getF (q := 196) G fl_RX10_61 hp0 (by decide +kernel) (by decide +kernel) (by decide +kernel) (fun hp13q => ?_)
    refine n_aload_n (n := 0) (by decide +kernel) rfl ?_
    refine n_getF (q := 198) G fl_RX10_67 hp0 (by decide +kernel) (by decide +kernel) (by decide +kernel) (fun hp14q => ?_)
    refine n_aload_n (n := 0) (by decide +kernel) rfl ?_
    refine n_getI G fl_RX10_181 hp0 (by decide +kernel) (by decide +kernel) ?_
    obtain ⟨q15, h15, hr⟩ := bso hr
    refine n_aald G h15 hp14q (by decide +kernel) (by decide +kernel) (by decide +kernel) (fun hp15q => ?_)
    obtain ⟨M16, h16, hr⟩ := bso hr
    refine n_callSv G [_, _] (M1 := M16) (B_X10_copies G hp13q (by decide +kernel) hp15q (row_198 h15).1 h16) (by decide) mX10_copies ml_RX10_318 rfl rfl (Nat.le_of_ble_eq_true rfl) (by decide +kernel) ?_
    refine n_aload_n (n := 0) (by decide +kernel) rfl ?_
    refine n_dup rfl (by decide +kernel) ?_
    refine n_getI G fl_RX10_181 hp0 (by decide +kernel) (by decide +kernel) ?_
    refine n_iconst (n := 1) (v := 1) (by decide +kernel) rfl ?_
    refine n_iadd (by decide +kernel) ?_
    refine n_putI G fl_RX10_181 hp0 (by decide +kernel) (by decide +kernel) ?_
    refine n_aload_n (n := 0) (by decide +kernel) rfl ?_
    refine n_iconst (n := 0) (v := 0) (by decide +kernel) rfl ?_
    refine n_putI G fl_RX10_305 hp0 (by decide +kernel) (by decide +kernel) ?_
    refine n_aload_n (n := 0) (by decide +kernel) rfl ?_
    refine n_iconst (n := 0) (v := 0) (by decide +kernel) rfl ?_
    refine n_putI G fl_RX10_315 hp0 (by decide +kernel) (by decide +kernel) ?_
    refine n_aload_n (n := 0) (by decide +kernel) rfl ?_
    refine n_iconst (n := 0) (v := 0) (by decide +kernel) rfl ?_
    refine n_putI G fl_RX10_184 hp0 (by decide +kernel) (by decide +kernel) ?_
    refine n_aload_n (n := 0) (by decide +kernel) rfl ?_
    refine n_iconst (n := 0) (v := 0) (by decide +kernel) rfl ?_
    refine n_aload_n (n := 0) (by decide +kernel) rfl ?_
    refine n_getI G fl_RX10_257 hp0 (by decide +kernel) (by decide +kernel) ?_
    obtain ⟨M17, h17, hr⟩ := bso hr
    refine n_callVv G [_, _] (M1 := M17) (B_X10_goes G hp0 h17) (by decide) mX10_goes ml_RX10_308 hp0 (by decide +kernel) rfl rfl (Nat.le_of_ble_eq_true rfl) (by decide +kernel) ?_
    refine n_aload_n (n := 0) (by decide +kernel) rfl ?_
    refine n_getI G fl_RX10_315 hp0 (by decide +kernel) (by decide +kernel) ?_
    cases hr
    exact n_ireturn (by decide +kernel)
  · rw [if_neg hc12] at hr
    refine n_aload_n (n := 0) (by decide +kernel) rfl ?_
    obtain ⟨⟨v18, M18⟩, h18, hr⟩ := bso hr
    try dsimp only at hr
    refine n_callVi G [] (x := v18) (M1 := M18) (B_X10_ends G hp0 h18) (by decide) mX10_ends ml_RX10_171 hp0 (by decide +kernel) rfl rfl (Nat.le_of_ble_eq_true rfl) (by decide +kernel) ?_
    cases hr
    exact n_ireturn (by decide +kernel)
set_option maxRecDepth 100000 in
theorem B_X10_work_j30 (G : GG l s0 b L xs D cy ad) {x1 : Int32} {xs1 : Int32} {M : Mm} {r : (Int32 × Mm)} (hp0 : P 76) (hp90 : P 76) (hr : f_X10_work_j30 x1 xs1 M = some r) : Rn l s0 D cy ad P 76 KX10_work 30 [.ref 76, .int x1] [.int xs1, .ref 76] M (.inl (some (.int r.1))) (r.2) := by
  unfold f_X10_work_j30 at hr
  refine n_iconst (n := 1) (v := 1) (by decide +kernel) rfl ?_
  refine n_iconst (n := 2) (v := 2) (by decide +kernel) rfl ?_
  obtain ⟨⟨v3, M3⟩, h3, hr⟩ := bso hr
  try dsimp only at hr
  refine n_callVi G [_, _, _] (x := v3) (M1 := M3) (B_X10_bad G hp90 h3) (by decide) mX10_bad ml_RX10_161 hp90 (by decide +kernel) rfl rfl (Nat.le_of_ble_eq_true rfl) (by decide +kernel) ?_
  refine n_if_eq (off := 5) (tgt := 40) (by decide +kernel) (by decide) (fun hc4 => ?_) (fun hc4 => ?_)
  · rw [if_pos hc4] at hr
    refine n_aload_n (n := 0) (by decide +kernel) rfl ?_
    refine n_getI G fl_RX10_181 hp0 (by decide +kernel) (by decide +kernel) ?_
    refine n_bipush (n := 20) (v := 20) (by decide +kernel) rfl ?_
    refine n_icmp_ne (off := 16) (tgt := 62) (by decide +kernel) (by decide) (fun hc5 => ?_) (fun hc5 => ?_)
    · rw [if_neg hc5] at hr
      refine n_aload_n (n := 0) (by decide +kernel) rfl ?_
      refine n_iload_n (n := 1) (by decide +kernel) rfl ?_
      obtain ⟨M6, h6, hr⟩ := bso hr
      refine n_callVv G [_] (M1 := M6) (B_X10_starts G hp0 h6) (by decide) mX10_starts ml_RX10_165 hp0 (by decide +kernel) rfl rfl (Nat.le_of_ble_eq_true rfl) (by decide +kernel) ?_
      refine n_aload_n (n := 0) (by decide +kernel) rfl ?_
      refine n_iconst (n := 0) (v := 0) (by decide +kernel) rfl ?_
      refine n_putI G fl_RX10_257 hp0 (by decide +kernel) (by decide +kernel) ?_
      obtain ⟨M11, h11, hr⟩ := bso hr
      refine n_msk [true, false] (lo2 := [_, .null]) rfl rfl ?_
      refine (W_X10_work_b72 G hp0 h11 _ _) ?_
      dsimp only [Q_X10_work_b72]
      exact B_X10_work_j101 G hp0 hr
    · rw [if_pos hc5] at hr
      refine n_aload_n (n := 0) (by decide +kernel) rfl ?_
      refine n_iconst (n := 0) (v := 0) (by decide +kernel) rfl ?_
      refine n_putI G fl_RX10_91 hp0 (by decide +kernel) (by decide +kernel) ?_
      refine n_aload_n (n := 0) (by decide +kernel) rfl ?_
      refine n_iconst (n := -1) (v := -1) (by decide +kernel) rfl ?_
      refine n_putI G fl_RX10_9 hp0 (by decide +kernel) (by decide +kernel) ?_
      refine n_bipush (n := -20) (v := -20) (by decide +kernel) rfl ?_
      cases hr
      exact n_ireturn (by decide +kernel)
  · rw [if_neg hc4] at hr
    refine n_iconst (n := 0) (v := 0) (by decide +kernel) rfl ?_
    cases hr
    exact n_ireturn (by decide +kernel)
set_option maxRecDepth 100000 in
theorem B_X10_work_j25 (G : GG l s0 b L xs D cy ad) {x1 : Int32} {M : Mm} {r : (Int32 × Mm)} (hp0 : P 76) (hp90 : P 76) (hr : f_X10_work_j25 x1 M = some r) : Rn l s0 D cy ad P 76 KX10_work 25 [.ref 76, .int x1] [.ref 76] M (.inl (some (.int r.1))) (r.2) := by
  unfold f_X10_work_j25 at hr
  refine n_iconst (n := 1) (v := 1) (by decide +kernel) rfl ?_
  refine n_goto (off := 4) (tgt := 30) (by decide +kernel) (by decide) ?_
  exact B_X10_work_j30 G hp0 hp90 hr
set_option maxRecDepth 100000 in
theorem B_X10_work (G : GG l s0 b L xs D cy ad)  {x1 : Int32} {M : Mm} {r : (Int32 × Mm)} (hp0 : P 76) (hr : f_X10_work x1 M = some r) : Cl l s0 D cy ad P 76 KX10_work [.ref 76, .int x1] M (.inl (some (.int r.1))) (r.2) := by
  refine cl_ofN (by decide +kernel) rfl rfl okI (lo0 := [_, _]) rfl ?_
  unfold f_X10_work at hr
  refine n_aload_n (n := 0) (by decide +kernel) rfl ?_
  refine n_iconst (n := 0) (v := 0) (by decide +kernel) rfl ?_
  refine n_putI G fl_RX10_88 hp0 (by decide +kernel) (by decide +kernel) ?_
  refine n_aload_n (n := 0) (by decide +kernel) rfl ?_
  refine n_iload_n (n := 1) (by decide +kernel) rfl ?_
  refine n_iconst (n := 0) (v := 0) (by decide +kernel) rfl ?_
  refine n_aload_n (n := 0) (by decide +kernel) rfl ?_
  refine n_getI G fl_RX10_91 hp0 (by decide +kernel) (by decide +kernel) ?_
  obtain ⟨v1, h1, hr⟩ := bso hr
  refine n_callSi G [_, _, _] (x := v1) (B_X10_in G  h1) (by decide) mX10_in ml_RX10_122 rfl rfl (Nat.le_of_ble_eq_true rfl) (by decide +kernel) ?_
  refine n_if_eq (off := 10) (tgt := 25) (by decide +kernel) (by decide) (fun hc2 => ?_) (fun hc2 => ?_)
  · rw [if_pos hc2] at hr
    exact B_X10_work_j25 G hp0 hp0 hr
  · rw [if_neg hc2] at hr
    refine n_iload_n (n := 1) (by decide +kernel) rfl ?_
    refine n_sipush (n := 200) (v := 200) (by decide +kernel) (by decide +kernel) ?_
    refine n_icmp_le (off := 7) (tgt := 29) (by decide +kernel) (by decide) (fun hc19 => ?_) (fun hc19 => ?_)
    · rw [if_pos hc19] at hr
      refine n_iconst (n := 0) (v := 0) (by decide +kernel) rfl ?_
      exact B_X10_work_j30 G hp0 hp0 hr
    · rw [if_neg hc19] at hr
      exact B_X10_work_j25 G hp0 hp0 hr
set_option maxRecDepth 100000 in
theorem B_X10_undo (G : GG l s0 b L xs D cy ad)   {M : Mm} {r : (Int32 × Mm)} (hp0 : P 76) (hr : f_X10_undo  M = some r) : Cl l s0 D cy ad P 10 KX10_undo [.ref 76] M (.inl (some (.int r.1))) (r.2) := by
  refine cl_ofN (by decide +kernel) rfl rfl okI (lo0 := [_]) rfl ?_
  unfold f_X10_undo at hr
  refine n_aload_n (n := 0) (by decide +kernel) rfl ?_
  refine n_iconst (n := 0) (v := 0) (by decide +kernel) rfl ?_
  refine n_putI G fl_RX10_88 hp0 (by decide +kernel) (by decide +kernel) ?_
  refine n_aload_n (n := 0) (by decide +kernel) rfl ?_
  refine n_getI G fl_RX10_181 hp0 (by decide +kernel) (by decide +kernel) ?_
  refine n_if_ne (off := 5) (tgt := 14) (by decide +kernel) (by decide) (fun hc1 => ?_) (fun hc1 => ?_)
  · rw [if_neg hc1] at hr
    refine n_aload_n (n := 0) (by decide +kernel) rfl ?_
    refine n_dup rfl (by decide +kernel) ?_
    refine n_getI G fl_RX10_181 hp0 (by decide +kernel) (by decide +kernel) ?_
    refine n_iconst (n := 1) (v := 1) (by decide +kernel) rfl ?_
    refine n_isub (by decide +kernel) ?_
    refine n_putI G fl_RX10_181 hp0 (by decide +kernel) (by decide +kernel) ?_
    refine n_aload_n (n := 0) (by decide +kernel) rfl ?_
    refine n_getF (q := 198) G fl_RX10_67 hp0 (by decide +kernel) (by decide +kernel) (by decide +kernel) (fun hp2q => ?_)
    refine n_aload_n (n := 0) (by decide +kernel) rfl ?_
    refine n_getI G fl_RX10_181 hp0 (by decide +kernel) (by decide +kernel) ?_
    obtain ⟨q3, h3, hr⟩ := bso hr
    refine n_aald G h3 hp2q (by decide +kernel) (by decide +kernel) (by decide +kernel) (fun hp3q => ?_)
    refine n_aload_n (n := 0) (by decide +kernel) rfl ?_
    refine n_getF (q := 196) G fl_RX10_61 hp0 (by decide +kernel) (by decide +kernel) (by decide +kernel) (fun hp4q => ?_)
    obtain ⟨M5, h5, hr⟩ := bso hr
    refine n_callSv G [_, _] (M1 := M5) (B_X10_copies G hp3q (row_198 h3).1 hp4q (by decide +kernel) h5) (by decide) mX10_copies ml_RX10_318 rfl rfl (Nat.le_of_ble_eq_true rfl) (by decide +kernel) ?_
    refine n_aload_n (n := 0) (by decide +kernel) rfl ?_
    refine n_iconst (n := 0) (v := 0) (by decide +kernel) rfl ?_
    refine n_putI G fl_RX10_184 hp0 (by decide +kernel) (by decide +kernel) ?_
    refine n_aload_n (n := 0) (by decide +kernel) rfl ?_
    refine n_getI G fl_RX10_181 hp0 (by decide +kernel) (by decide +kernel) ?_
    cases hr
    exact n_ireturn (by decide +kernel)
  · rw [if_pos hc1] at hr
    refine n_iconst (n := -1) (v := -1) (by decide +kernel) rfl ?_
    cases hr
    exact n_ireturn (by decide +kernel)
abbrev P_X10_book_b46 (l : Launch) (s0 : State) (D : va_G) (cy : Nat → ClassId) (ad : Nat → Nat) (P : Nat → Prop)   (res : Rs) (M' : Mm) (s : (Int32 × Mm)) : Prop := Rn l s0 D cy ad P 12 KX10_book 46 [.ref 76, .null, .int (s.1), .null, .null, .null, .null] [] (s.2) res M'
abbrev Q_X10_book_b46 (l : Launch) (s0 : State) (D : va_G) (cy : Nat → ClassId) (ad : Nat → Nat) (P : Nat → Prop)   (res : Rs) (M' : Mm) (e : (Int32 × Mm)) : Prop := Rn l s0 D cy ad P 12 KX10_book 245 [.ref 76, .null, .int (e.1), .null, .null, .null, .null] [] (e.2) res M'
abbrev P_X10_book_b130 (l : Launch) (s0 : State) (D : va_G) (cy : Nat → ClassId) (ad : Nat → Nat) (P : Nat → Prop) (x2 : Int32) (x3 : Int32) (x4 : Int32) (x5 : Int32)  (res : Rs) (M' : Mm) (s : (Int32 × Mm)) : Prop := Rn l s0 D cy ad P 12 KX10_book 130 [.ref 76, .null, .int x2, .int x3, .int x4, .int x5, .int (s.1)] [] (s.2) res M'
abbrev Q_X10_book_b130 (l : Launch) (s0 : State) (D : va_G) (cy : Nat → ClassId) (ad : Nat → Nat) (P : Nat → Prop) (x2 : Int32) (x3 : Int32) (x4 : Int32) (x5 : Int32)  (res : Rs) (M' : Mm) (e : Mm) : Prop := Rn l s0 D cy ad P 12 KX10_book 183 [.ref 76, .null, .int x2, .null, .int x4, .int x5, .null] [] (e) res M'
set_option maxRecDepth 100000 in
theorem B_X10_book_b130 (G : GG l s0 b L xs D cy ad) {x2 : Int32} {x3 : Int32} {x4 : Int32} {x5 : Int32}  {res : Rs} {M' : Mm} (hp0 : P 76) : ∀ (s : (Int32 × Mm)) (r : (Int32 × Mm) ⊕ Mm), f_X10_book_b130 x2 x3 x4 x5 s = some r → mtc (P_X10_book_b130 l s0 D cy ad P x2 x3 x4 x5 res M') (Q_X10_book_b130 l s0 D cy ad P x2 x3 x4 x5 res M') r → P_X10_book_b130 l s0 D cy ad P x2 x3 x4 x5 res M' s := by
  intro s r hr hk
  obtain ⟨x6, M⟩ := s
  unfold f_X10_book_b130 at hr
  try dsimp only at hr
  dsimp only [P_X10_book_b130]
  refine n_iload (n := 6) (by decide +kernel) rfl ?_
  refine n_iload_n (n := 2) (by decide +kernel) rfl ?_
  refine n_icmp_ge (off := 50) (tgt := 183) (by decide +kernel) (by decide) (fun hc16 => ?_) (fun hc16 => ?_)
  · rw [if_pos hc16] at hr
    cases hr
    refine n_msk [true, false, true, false, true, true, false] (lo2 := [_, .null, _, .null, _, _, .null]) rfl rfl ?_
    exact hk
  · rw [if_neg hc16] at hr
    refine n_aload_n (n := 0) (by decide +kernel) rfl ?_
    refine n_getI G fl_RX10_104 hp0 (by decide +kernel) (by decide +kernel) ?_
    refine n_if_ne (off := 37) (tgt := 177) (by decide +kernel) (by decide) (fun hc17 => ?_) (fun hc17 => ?_)
    · rw [if_neg hc17] at hr
      refine n_iincK (n := 6) (j := 1) (w := 1) (lo2 := [_, _, _, _, _, _, _]) (by decide +kernel) rfl rfl rfl ?_
      refine n_goto (off := -50) (tgt := 130) (by decide +kernel) (by decide) ?_
      cases hr
      exact hk
    · rw [if_pos hc17] at hr
      refine n_aload_n (n := 0) (by decide +kernel) rfl ?_
      refine n_getF (q := 127) G fl_RX10_52 hp0 (by decide +kernel) (by decide +kernel) (by decide +kernel) (fun hp18q => ?_)
      refine n_iload (n := 6) (by decide +kernel) rfl ?_
      obtain ⟨q19, h19, hr⟩ := bso hr
      refine n_aald G h19 hp18q (by decide +kernel) (by decide +kernel) (by decide +kernel) (fun hp19q => ?_)
      refine n_iconst (n := 0) (v := 0) (by decide +kernel) rfl ?_
      obtain ⟨v20, h20, hr⟩ := bso hr
      refine n_iald G h20 hp19q (row_127 h19).1 (row_127 h19).2 (by decide +kernel) ?_
      refine n_iload (n := 4) (by decide +kernel) rfl ?_
      refine n_icmp_ne (off := 23) (tgt := 177) (by decide +kernel) (by decide) (fun hc21 => ?_) (fun hc21 => ?_)
      · rw [if_neg hc21] at hr
        refine n_iincK (n := 6) (j := 1) (w := 1) (lo2 := [_, _, _, _, _, _, _]) (by decide +kernel) rfl rfl rfl ?_
        refine n_goto (off := -50) (tgt := 130) (by decide +kernel) (by decide) ?_
        cases hr
        exact hk
      · rw [if_pos hc21] at hr
        refine n_aload_n (n := 0) (by decide +kernel) rfl ?_
        refine n_getF (q := 127) G fl_RX10_52 hp0 (by decide +kernel) (by decide +kernel) (by decide +kernel) (fun hp22q => ?_)
        refine n_iload (n := 6) (by decide +kernel) rfl ?_
        obtain ⟨q23, h23, hr⟩ := bso hr
        refine n_aald G h23 hp22q (by decide +kernel) (by decide +kernel) (by decide +kernel) (fun hp23q => ?_)
        refine n_iconst (n := 1) (v := 1) (by decide +kernel) rfl ?_
        obtain ⟨v24, h24, hr⟩ := bso hr
        refine n_iald G h24 hp23q (row_127 h23).1 (row_127 h23).2 (by decide +kernel) ?_
        refine n_iload (n := 5) (by decide +kernel) rfl ?_
        refine n_icmp_ne (off := 9) (tgt := 177) (by decide +kernel) (by decide) (fun hc25 => ?_) (fun hc25 => ?_)
        · rw [if_neg hc25] at hr
          refine n_iincK (n := 6) (j := 1) (w := 1) (lo2 := [_, _, _, _, _, _, _]) (by decide +kernel) rfl rfl rfl ?_
          refine n_goto (off := -50) (tgt := 130) (by decide +kernel) (by decide) ?_
          cases hr
          exact hk
        · rw [if_pos hc25] at hr
          refine n_aload_n (n := 0) (by decide +kernel) rfl ?_
          refine n_iconst (n := 2) (v := 2) (by decide +kernel) rfl ?_
          refine n_iload_n (n := 3) (by decide +kernel) rfl ?_
          obtain ⟨M26, h26, hr⟩ := bso hr
          refine n_callVv G [_, _] (M1 := M26) (B_X10_wrong G hp0 h26) (by decide) mX10_wrong ml_RX10_117 hp0 (by decide +kernel) rfl rfl (Nat.le_of_ble_eq_true rfl) (by decide +kernel) ?_
          refine n_iincK (n := 6) (j := 1) (w := 1) (lo2 := [_, _, _, _, _, _, _]) (by decide +kernel) rfl rfl rfl ?_
          refine n_goto (off := -50) (tgt := 130) (by decide +kernel) (by decide) ?_
          cases hr
          exact hk
set_option maxRecDepth 100000 in
theorem W_X10_book_b130 (G : GG l s0 b L xs D cy ad) {x2 : Int32} {x3 : Int32} {x4 : Int32} {x5 : Int32}  (hp0 : P 76) {s : (Int32 × Mm)} {e : Mm} (h : whl fu (f_X10_book_b130 x2 x3 x4 x5) s = some e) (res : Rs) (M' : Mm) : Q_X10_book_b130 l s0 D cy ad P x2 x3 x4 x5 res M' e → P_X10_book_b130 l s0 D cy ad P x2 x3 x4 x5 res M' s := whl_run (P := fun s => P_X10_book_b130 l s0 D cy ad P x2 x3 x4 x5 res M' s) (Q := fun e => Q_X10_book_b130 l s0 D cy ad P x2 x3 x4 x5 res M' e) (B_X10_book_b130 G (res := res) (M' := M') (x2 := x2) (x3 := x3) (x4 := x4) (x5 := x5) hp0) fu s h
set_option maxRecDepth 100000 in
theorem B_X10_book_j103 (G : GG l s0 b L xs D cy ad) {x2 : Int32} {x4 : Int32} {M : Mm}  {res : Rs} {M' : Mm} {r : ((Int32 × Mm) ⊕ (Int32 × Mm))} (hp0 : P 76) (hr : f_X10_book_j103 x2 x4 M = some r) (hk : mtc (P_X10_book_b46 l s0 D cy ad P  res M') (Q_X10_book_b46 l s0 D cy ad P  res M') r) : Rn l s0 D cy ad P 12 KX10_book 103 [.ref 76, .null, .int x2, .null, .int x4, .null, .null] [] M res M' := by
  unfold f_X10_book_j103 at hr
  refine n_aload_n (n := 0) (by decide +kernel) rfl ?_
  obtain ⟨M12, h12, hr⟩ := bso hr
  refine n_callVv G [] (M1 := M12) (B_X10_blanks G hp0 h12) (by decide) mX10_blanks ml_RX10_110 hp0 (by decide +kernel) rfl rfl (Nat.le_of_ble_eq_true rfl) (by decide +kernel) ?_
  refine n_aload_n (n := 0) (by decide +kernel) rfl ?_
  refine n_getI G fl_RX10_97 hp0 (by decide +kernel) (by decide +kernel) ?_
  refine n_istore_n (n := 3) (lo2 := [_, _, _, _, _, _, _]) (by decide +kernel) (Nat.le_of_ble_eq_true rfl) rfl ?_
  refine n_aload_n (n := 0) (by decide +kernel) rfl ?_
  refine n_iconst (n := 0) (v := 0) (by decide +kernel) rfl ?_
  refine n_aload_n (n := 0) (by decide +kernel) rfl ?_
  refine n_getF (q := 80) G fl_RX10_23 hp0 (by decide +kernel) (by decide +kernel) (by decide +kernel) (fun hp13q => ?_)
  refine n_iconst (n := 1) (v := 1) (by decide +kernel) rfl ?_
  obtain ⟨v14, h14, hr⟩ := bso hr
  refine n_iald G h14 hp13q (by decide +kernel) (by decide +kernel) (by decide +kernel) ?_
  refine n_iconst (n := 1) (v := 1) (by decide +kernel) rfl ?_
  refine n_isub (by decide +kernel) ?_
  obtain ⟨⟨v15, M15⟩, h15, hr⟩ := bso hr
  try dsimp only at hr
  refine n_callVi G [_, _] (x := v15) (M1 := M15) (B_X10_number G hp0 h15) (by decide) mX10_number ml_RX10_150 hp0 (by decide +kernel) rfl rfl (Nat.le_of_ble_eq_true rfl) (by decide +kernel) ?_
  refine n_istore (n := 5) (lo2 := [_, _, _, _, _, _, _]) (by decide +kernel) (Nat.le_of_ble_eq_true rfl) rfl ?_
  refine n_iconst (n := 0) (v := 0) (by decide +kernel) rfl ?_
  refine n_istore (n := 6) (lo2 := [_, _, _, _, _, _, _]) (by decide +kernel) (Nat.le_of_ble_eq_true rfl) rfl ?_
  obtain ⟨M27, h27, hr⟩ := bso hr
  refine (W_X10_book_b130 G hp0 h27 _ _) ?_
  dsimp only [Q_X10_book_b130]
  refine n_aload_n (n := 0) (by decide +kernel) rfl ?_
  refine n_iconst (n := 0) (v := 0) (by decide +kernel) rfl ?_
  refine n_bipush (n := 60) (v := 60) (by decide +kernel) rfl ?_
  obtain ⟨⟨v28, M28⟩, h28, hr⟩ := bso hr
  try dsimp only at hr
  refine n_callVi G [_, _] (x := v28) (M1 := M28) (B_X10_number G hp0 h28) (by decide) mX10_number ml_RX10_150 hp0 (by decide +kernel) rfl rfl (Nat.le_of_ble_eq_true rfl) (by decide +kernel) ?_
  refine n_istore (n := 6) (lo2 := [_, _, _, _, _, _, _]) (by decide +kernel) (Nat.le_of_ble_eq_true rfl) rfl ?_
  refine n_aload_n (n := 0) (by decide +kernel) rfl ?_
  refine n_bipush (n := 59) (v := 59) (by decide +kernel) rfl ?_
  obtain ⟨M29, h29, hr⟩ := bso hr
  refine n_callVv G [_] (M1 := M29) (B_X10_sign G hp0 h29) (by decide) mX10_sign ml_RX10_157 hp0 (by decide +kernel) rfl rfl (Nat.le_of_ble_eq_true rfl) (by decide +kernel) ?_
  refine n_aload_n (n := 0) (by decide +kernel) rfl ?_
  refine n_getI G fl_RX10_104 hp0 (by decide +kernel) (by decide +kernel) ?_
  refine n_if_ne (off := 36) (tgt := 238) (by decide +kernel) (by decide) (fun hc30 => ?_) (fun hc30 => ?_)
  · rw [if_neg hc30] at hr
    refine n_aload_n (n := 0) (by decide +kernel) rfl ?_
    obtain ⟨M31, h31, hr⟩ := bso hr
    refine n_callVv G [] (M1 := M31) (B_X10_blanks G hp0 h31) (by decide) mX10_blanks ml_RX10_110 hp0 (by decide +kernel) rfl rfl (Nat.le_of_ble_eq_true rfl) (by decide +kernel) ?_
    refine n_goto (off := -196) (tgt := 46) (by decide +kernel) (by decide) ?_
    cases hr
    refine n_msk [true, false, true, false, false, false, false] (lo2 := [_, .null, _, .null, .null, .null, .null]) rfl rfl ?_
    exact hk
  · rw [if_pos hc30] at hr
    refine n_aload_n (n := 0) (by decide +kernel) rfl ?_
    refine n_getF (q := 127) G fl_RX10_52 hp0 (by decide +kernel) (by decide +kernel) (by decide +kernel) (fun hp32q => ?_)
    refine n_iload_n (n := 2) (by decide +kernel) rfl ?_
    obtain ⟨q33, h33, hr⟩ := bso hr
    refine n_aald G h33 hp32q (by decide +kernel) (by decide +kernel) (by decide +kernel) (fun hp33q => ?_)
    refine n_iconst (n := 0) (v := 0) (by decide +kernel) rfl ?_
    refine n_iload (n := 4) (by decide +kernel) rfl ?_
    obtain ⟨M34, h34, hr⟩ := bso hr
    refine n_iast G h34 hp33q (row_127 h33).1 (row_127 h33).2 (by decide +kernel) ?_
    refine n_aload_n (n := 0) (by decide +kernel) rfl ?_
    refine n_getF (q := 127) G fl_RX10_52 hp0 (by decide +kernel) (by decide +kernel) (by decide +kernel) (fun hp35q => ?_)
    refine n_iload_n (n := 2) (by decide +kernel) rfl ?_
    obtain ⟨q36, h36, hr⟩ := bso hr
    refine n_aald G h36 hp35q (by decide +kernel) (by decide +kernel) (by decide +kernel) (fun hp36q => ?_)
    refine n_iconst (n := 1) (v := 1) (by decide +kernel) rfl ?_
    refine n_iload (n := 5) (by decide +kernel) rfl ?_
    obtain ⟨M37, h37, hr⟩ := bso hr
    refine n_iast G h37 hp36q (row_127 h36).1 (row_127 h36).2 (by decide +kernel) ?_
    refine n_aload_n (n := 0) (by decide +kernel) rfl ?_
    refine n_getF (q := 127) G fl_RX10_52 hp0 (by decide +kernel) (by decide +kernel) (by decide +kernel) (fun hp38q => ?_)
    refine n_iload_n (n := 2) (by decide +kernel) rfl ?_
    obtain ⟨q39, h39, hr⟩ := bso hr
    refine n_aald G h39 hp38q (by decide +kernel) (by decide +kernel) (by decide +kernel) (fun hp39q => ?_)
    refine n_iconst (n := 2) (v := 2) (by decide +kernel) rfl ?_
    refine n_iload (n := 6) (by decide +kernel) rfl ?_
    obtain ⟨M40, h40, hr⟩ := bso hr
    refine n_iast G h40 hp39q (row_127 h39).1 (row_127 h39).2 (by decide +kernel) ?_
    refine n_iincK (n := 2) (j := 1) (w := 1) (lo2 := [_, _, _, _, _, _, _]) (by decide +kernel) rfl rfl rfl ?_
    refine n_aload_n (n := 0) (by decide +kernel) rfl ?_
    obtain ⟨M41, h41, hr⟩ := bso hr
    refine n_callVv G [] (M1 := M41) (B_X10_blanks G hp0 h41) (by decide) mX10_blanks ml_RX10_110 hp0 (by decide +kernel) rfl rfl (Nat.le_of_ble_eq_true rfl) (by decide +kernel) ?_
    refine n_goto (off := -196) (tgt := 46) (by decide +kernel) (by decide) ?_
    cases hr
    refine n_msk [true, false, true, false, false, false, false] (lo2 := [_, .null, _, .null, .null, .null, .null]) rfl rfl ?_
    exact hk
set_option maxRecDepth 100000 in
theorem B_X10_book_b46 (G : GG l s0 b L xs D cy ad)   {res : Rs} {M' : Mm} (hp0 : P 76) : ∀ (s : (Int32 × Mm)) (r : (Int32 × Mm) ⊕ (Int32 × Mm)), f_X10_book_b46  s = some r → mtc (P_X10_book_b46 l s0 D cy ad P  res M') (Q_X10_book_b46 l s0 D cy ad P  res M') r → P_X10_book_b46 l s0 D cy ad P  res M' s := by
  intro s r hr hk
  obtain ⟨x2, M⟩ := s
  unfold f_X10_book_b46 at hr
  try dsimp only at hr
  dsimp only [P_X10_book_b46]
  refine n_aload_n (n := 0) (by decide +kernel) rfl ?_
  refine n_getI G fl_RX10_104 hp0 (by decide +kernel) (by decide +kernel) ?_
  refine n_if_ne (off := 195) (tgt := 245) (by decide +kernel) (by decide) (fun hc6 => ?_) (fun hc6 => ?_)
  · rw [if_neg hc6] at hr
    cases hr
    exact hk
  · rw [if_pos hc6] at hr
    refine n_aload_n (n := 0) (by decide +kernel) rfl ?_
    refine n_getI G fl_RX10_97 hp0 (by decide +kernel) (by decide +kernel) ?_
    refine n_aload_n (n := 0) (by decide +kernel) rfl ?_
    refine n_getI G fl_RX10_94 hp0 (by decide +kernel) (by decide +kernel) ?_
    refine n_icmp_ge (off := 184) (tgt := 245) (by decide +kernel) (by decide) (fun hc7 => ?_) (fun hc7 => ?_)
    · rw [if_pos hc7] at hr
      cases hr
      exact hk
    · rw [if_neg hc7] at hr
      refine n_aload_n (n := 0) (by decide +kernel) rfl ?_
      refine n_getI G fl_RX10_97 hp0 (by decide +kernel) (by decide +kernel) ?_
      refine n_istore_n (n := 3) (lo2 := [_, _, _, _, _, _, _]) (by decide +kernel) (Nat.le_of_ble_eq_true rfl) rfl ?_
      refine n_aload_n (n := 0) (by decide +kernel) rfl ?_
      refine n_iconst (n := 0) (v := 0) (by decide +kernel) rfl ?_
      refine n_aload_n (n := 0) (by decide +kernel) rfl ?_
      refine n_getF (q := 80) G fl_RX10_23 hp0 (by decide +kernel) (by decide +kernel) (by decide +kernel) (fun hp8q => ?_)
      refine n_iconst (n := 0) (v := 0) (by decide +kernel) rfl ?_
      obtain ⟨v9, h9, hr⟩ := bso hr
      refine n_iald G h9 hp8q (by decide +kernel) (by decide +kernel) (by decide +kernel) ?_
      refine n_iconst (n := 1) (v := 1) (by decide +kernel) rfl ?_
      refine n_isub (by decide +kernel) ?_
      obtain ⟨⟨v10, M10⟩, h10, hr⟩ := bso hr
      try dsimp only at hr
      refine n_callVi G [_, _] (x := v10) (M1 := M10) (B_X10_number G hp0 h10) (by decide) mX10_number ml_RX10_150 hp0 (by decide +kernel) rfl rfl (Nat.le_of_ble_eq_true rfl) (by decide +kernel) ?_
      refine n_istore (n := 4) (lo2 := [_, _, _, _, _, _, _]) (by decide +kernel) (Nat.le_of_ble_eq_true rfl) rfl ?_
      refine n_aload_n (n := 0) (by decide +kernel) rfl ?_
      refine n_getI G fl_RX10_104 hp0 (by decide +kernel) (by decide +kernel) ?_
      refine n_if_ne (off := 15) (tgt := 103) (by decide +kernel) (by decide) (fun hc11 => ?_) (fun hc11 => ?_)
      · rw [if_neg hc11] at hr
        refine n_msk [true, false, true, false, true, false, false] (lo2 := [_, .null, _, .null, _, .null, .null]) rfl rfl ?_
        exact B_X10_book_j103 G hp0 hr hk
      · rw [if_pos hc11] at hr
        refine n_iload_n (n := 2) (by decide +kernel) rfl ?_
        refine n_bipush (n := 6) (v := 6) (by decide +kernel) rfl ?_
        refine n_icmp_ne (off := 9) (tgt := 103) (by decide +kernel) (by decide) (fun hc42 => ?_) (fun hc42 => ?_)
        · rw [if_neg hc42] at hr
          refine n_msk [true, false, true, false, true, false, false] (lo2 := [_, .null, _, .null, _, .null, .null]) rfl rfl ?_
          exact B_X10_book_j103 G hp0 hr hk
        · rw [if_pos hc42] at hr
          refine n_aload_n (n := 0) (by decide +kernel) rfl ?_
          refine n_iconst (n := 3) (v := 3) (by decide +kernel) rfl ?_
          refine n_iload_n (n := 3) (by decide +kernel) rfl ?_
          obtain ⟨M43, h43, hr⟩ := bso hr
          refine n_callVv G [_, _] (M1 := M43) (B_X10_wrong G hp0 h43) (by decide) mX10_wrong ml_RX10_117 hp0 (by decide +kernel) rfl rfl (Nat.le_of_ble_eq_true rfl) (by decide +kernel) ?_
          refine n_msk [true, false, true, false, true, false, false] (lo2 := [_, .null, _, .null, _, .null, .null]) rfl rfl ?_
          exact B_X10_book_j103 G hp0 hr hk
end NB
