/-! printed rows: a method is its function -/
section NB
variable {l : Launch} {s0 : State} {b L : Nat} {xs : Nat → Int32} {D : va_G} {cy : Nat → ClassId} {ad : Nat → Nat} {P : Nat → Prop}
set_option maxRecDepth 100000 in
theorem Bb_X4_readBracket (G : GG l s0 b L xs D cy ad) {n : Nat} {rec : Nat → Nat → Int32 → Mm → Option Mm} {a0 : Nat} {x2 : Int32} {M : Mm} {r : Mm} (hrec0 : ∀ (a0 : Nat) (x2 : Int32) (M r : Mm) (hp0 : P a0) (hs0 : SH a0 = 4) (hp1 : P 1), rec 0 a0 x2 M = some r → Cl l s0 D cy ad P (12 + n) KX4_readSum [.ref a0, .ref 1, .int x2] M (.inl none) r) (hrec1 : ∀ (a0 : Nat) (x2 : Int32) (M r : Mm) (hp0 : P a0) (hs0 : SH a0 = 4) (hp1 : P 1), rec 1 a0 x2 M = some r → Cl l s0 D cy ad P (12 + n) KX4_readProduct [.ref a0, .ref 1, .int x2] M (.inl none) r) (hrec2 : ∀ (a0 : Nat) (x2 : Int32) (M r : Mm) (hp0 : P a0) (hs0 : SH a0 = 4) (hp1 : P 1), rec 2 a0 x2 M = some r → Cl l s0 D cy ad P (12 + n) KX4_readPart [.ref a0, .ref 1, .int x2] M (.inl none) r) (hrec3 : ∀ (a0 : Nat) (x2 : Int32) (M r : Mm) (hp0 : P a0) (hs0 : SH a0 = 4) (hp1 : P 1), rec 3 a0 x2 M = some r → Cl l s0 D cy ad P (12 + n) KX4_readBracket [.ref a0, .ref 1, .int x2] M (.inl none) r) (hrec4 : ∀ (a0 : Nat) (x2 : Int32) (M r : Mm) (hp0 : P a0) (hs0 : SH a0 = 4) (hp1 : P 1), rec 4 a0 x2 M = some r → Cl l s0 D cy ad P (12 + n) KX4_readName [.ref a0, .ref 1, .int x2] M (.inl none) r) (hrec5 : ∀ (a0 : Nat) (x2 : Int32) (M r : Mm) (hp0 : P a0) (hs0 : SH a0 = 4) (hp1 : P 1), rec 5 a0 x2 M = some r → Cl l s0 D cy ad P (12 + n) KX4_readChoice [.ref a0, .ref 1, .int x2] M (.inl none) r) (hp0 : P a0) (hs0 : SH a0 = 4) (hp1 : P 1) (hr : fb_X4_readBracket rec a0 x2 M = some r) : Cl l s0 D cy ad P (12 + (n + 1)) KX4_readBracket [.ref a0, .ref 1, .int x2] M (.inl none) (r) := by
  refine cl_ofN (by decide +kernel) rfl rfl rfl (lo0 := [_, _, _]) rfl ?_
  unfold fb_X4_readBracket at hr
  refine n_iload_n (n := 2) (by decide +kernel) rfl ?_
  refine n_bipush (n := 6) (v := 6) (by decide +kernel) rfl ?_
  refine n_icmp_lt (off := 13) (tgt := 16) (by decide +kernel) (by decide) (fun hc1 => ?_) (fun hc1 => ?_)
  · rw [if_pos hc1] at hr
    refine n_aload_n (n := 1) (by decide +kernel) rfl ?_
    obtain ⟨M2, h2, hr⟩ := bso hr
    refine n_callVv G [] (M1 := M2) (B_X7_skipSign G hp1 h2) (by omega) mX7_skipSign ml_RX4_53 hp1 (by decide +kernel) rfl rfl (Nat.le_of_ble_eq_true rfl) (by decide +kernel) ?_
    refine n_aload_n (n := 0) (by decide +kernel) rfl ?_
    refine n_aload_n (n := 1) (by decide +kernel) rfl ?_
    refine n_iload_n (n := 2) (by decide +kernel) rfl ?_
    refine n_iconst (n := 1) (v := 1) (by decide +kernel) rfl ?_
    refine n_iadd (by decide +kernel) ?_
    obtain ⟨M3, h3, hr⟩ := bso hr
    refine n_callVv G [_, _] (M1 := M3) (hrec0 _ _ _ _ hp0 hs0 hp1 h3) (by omega) mX4_readSum ml_RX4_29 hp0 hs0 rfl rfl (Nat.le_of_ble_eq_true rfl) (by decide +kernel) ?_
    refine n_aload_n (n := 1) (by decide +kernel) rfl ?_
    refine n_bipush (n := 41) (v := 41) (by decide +kernel) rfl ?_
    obtain ⟨M4, h4, hr⟩ := bso hr
    refine n_callVv G [_] (M1 := M4) (B_X7_readSign G hp1 h4) (by omega) mX7_readSign ml_RX4_76 hp1 (by decide +kernel) rfl rfl (Nat.le_of_ble_eq_true rfl) (by decide +kernel) ?_
    cases hr
    exact n_return (by decide +kernel)
  · rw [if_neg hc1] at hr
    refine n_aload_n (n := 1) (by decide +kernel) rfl ?_
    refine n_iconst (n := 3) (v := 3) (by decide +kernel) rfl ?_
    refine n_aload_n (n := 1) (by decide +kernel) rfl ?_
    refine n_getI G fl_RX4_39 hp1 (by decide +kernel) (by decide +kernel) ?_
    obtain ⟨M5, h5, hr⟩ := bso hr
    refine n_callVv G [_, _] (M1 := M5) (B_X7_fail G hp1 h5) (by omega) mX7_fail ml_RX4_42 hp1 (by decide +kernel) rfl rfl (Nat.le_of_ble_eq_true rfl) (by decide +kernel) ?_
    cases hr
    exact n_return (by decide +kernel)
set_option maxRecDepth 100000 in
theorem Bb_X4_readName (G : GG l s0 b L xs D cy ad) {n : Nat} {rec : Nat → Nat → Int32 → Mm → Option Mm} {a0 : Nat} {x2 : Int32} {M : Mm} {r : Mm} (hrec0 : ∀ (a0 : Nat) (x2 : Int32) (M r : Mm) (hp0 : P a0) (hs0 : SH a0 = 4) (hp1 : P 1), rec 0 a0 x2 M = some r → Cl l s0 D cy ad P (12 + n) KX4_readSum [.ref a0, .ref 1, .int x2] M (.inl none) r) (hrec1 : ∀ (a0 : Nat) (x2 : Int32) (M r : Mm) (hp0 : P a0) (hs0 : SH a0 = 4) (hp1 : P 1), rec 1 a0 x2 M = some r → Cl l s0 D cy ad P (12 + n) KX4_readProduct [.ref a0, .ref 1, .int x2] M (.inl none) r) (hrec2 : ∀ (a0 : Nat) (x2 : Int32) (M r : Mm) (hp0 : P a0) (hs0 : SH a0 = 4) (hp1 : P 1), rec 2 a0 x2 M = some r → Cl l s0 D cy ad P (12 + n) KX4_readPart [.ref a0, .ref 1, .int x2] M (.inl none) r) (hrec3 : ∀ (a0 : Nat) (x2 : Int32) (M r : Mm) (hp0 : P a0) (hs0 : SH a0 = 4) (hp1 : P 1), rec 3 a0 x2 M = some r → Cl l s0 D cy ad P (12 + n) KX4_readBracket [.ref a0, .ref 1, .int x2] M (.inl none) r) (hrec4 : ∀ (a0 : Nat) (x2 : Int32) (M r : Mm) (hp0 : P a0) (hs0 : SH a0 = 4) (hp1 : P 1), rec 4 a0 x2 M = some r → Cl l s0 D cy ad P (12 + n) KX4_readName [.ref a0, .ref 1, .int x2] M (.inl none) r) (hrec5 : ∀ (a0 : Nat) (x2 : Int32) (M r : Mm) (hp0 : P a0) (hs0 : SH a0 = 4) (hp1 : P 1), rec 5 a0 x2 M = some r → Cl l s0 D cy ad P (12 + n) KX4_readChoice [.ref a0, .ref 1, .int x2] M (.inl none) r) (hp0 : P a0) (hs0 : SH a0 = 4) (hp1 : P 1) (hr : fb_X4_readName rec a0 x2 M = some r) : Cl l s0 D cy ad P (12 + (n + 1)) KX4_readName [.ref a0, .ref 1, .int x2] M (.inl none) (r) := by
  refine cl_ofN (by decide +kernel) rfl rfl rfl (lo0 := [_, _, _, .null]) rfl ?_
  unfold fb_X4_readName at hr
  refine n_aload_n (n := 1) (by decide +kernel) rfl ?_
  refine n_ldcS G si_RX4_79 (by decide +kernel) ?_
  obtain ⟨⟨v1, M1⟩, h1, hr⟩ := bso hr
  try dsimp only at hr
  refine n_callVi G [_] (x := v1) (M1 := M1) (B_X7_readWord G hp1 (by decide) h1) (by omega) mX7_readWord ml_RX4_81 hp1 (by decide +kernel) rfl rfl (Nat.le_of_ble_eq_true rfl) (by decide +kernel) ?_
  refine n_istore_n (n := 3) (lo2 := [_, _, _, _]) (by decide +kernel) (Nat.le_of_ble_eq_true rfl) rfl ?_
  refine n_iload_n (n := 3) (by decide +kernel) rfl ?_
  refine n_bipush (n := 7) (v := 7) (by decide +kernel) rfl ?_
  refine n_icmp_eq (off := 15) (tgt := 25) (by decide +kernel) (by decide) (fun hc2 => ?_) (fun hc2 => ?_)
  · rw [if_pos hc2] at hr
    refine n_iload_n (n := 2) (by decide +kernel) rfl ?_
    refine n_bipush (n := 6) (v := 6) (by decide +kernel) rfl ?_
    refine n_icmp_lt (off := 15) (tgt := 43) (by decide +kernel) (by decide) (fun hc3 => ?_) (fun hc3 => ?_)
    · rw [if_pos hc3] at hr
      refine n_aload_n (n := 1) (by decide +kernel) rfl ?_
      refine n_bipush (n := 91) (v := 91) (by decide +kernel) rfl ?_
      obtain ⟨M4, h4, hr⟩ := bso hr
      refine n_callVv G [_] (M1 := M4) (B_X7_readSign G hp1 h4) (by omega) mX7_readSign ml_RX4_76 hp1 (by decide +kernel) rfl rfl (Nat.le_of_ble_eq_true rfl) (by decide +kernel) ?_
      refine n_aload_n (n := 0) (by decide +kernel) rfl ?_
      refine n_aload_n (n := 1) (by decide +kernel) rfl ?_
      refine n_iload_n (n := 2) (by decide +kernel) rfl ?_
      refine n_iconst (n := 1) (v := 1) (by decide +kernel) rfl ?_
      refine n_iadd (by decide +kernel) ?_
      obtain ⟨M5, h5, hr⟩ := bso hr
      refine n_callVv G [_, _] (M1 := M5) (hrec5 _ _ _ _ hp0 hs0 hp1 h5) (by omega) mX4_readChoice ml_RX4_88 hp0 hs0 rfl rfl (Nat.le_of_ble_eq_true rfl) (by decide +kernel) ?_
      refine n_aload_n (n := 1) (by decide +kernel) rfl ?_
      refine n_bipush (n := 93) (v := 93) (by decide +kernel) rfl ?_
      obtain ⟨M6, h6, hr⟩ := bso hr
      refine n_callVv G [_] (M1 := M6) (B_X7_readSign G hp1 h6) (by omega) mX7_readSign ml_RX4_76 hp1 (by decide +kernel) rfl rfl (Nat.le_of_ble_eq_true rfl) (by decide +kernel) ?_
      cases hr
      exact n_return (by decide +kernel)
    · rw [if_neg hc3] at hr
      refine n_aload_n (n := 1) (by decide +kernel) rfl ?_
      refine n_iconst (n := 3) (v := 3) (by decide +kernel) rfl ?_
      refine n_aload_n (n := 1) (by decide +kernel) rfl ?_
      refine n_getI G fl_RX4_85 hp1 (by decide +kernel) (by decide +kernel) ?_
      obtain ⟨M7, h7, hr⟩ := bso hr
      refine n_callVv G [_, _] (M1 := M7) (B_X7_fail G hp1 h7) (by omega) mX7_fail ml_RX4_42 hp1 (by decide +kernel) rfl rfl (Nat.le_of_ble_eq_true rfl) (by decide +kernel) ?_
      refine n_goto (off := 23) (tgt := 63) (by decide +kernel) (by decide) ?_
      cases hr
      exact n_return (by decide +kernel)
  · rw [if_neg hc2] at hr
    refine n_aload_n (n := 0) (by decide +kernel) rfl ?_
    refine n_sipush (n := 1000) (v := 1000) (by decide +kernel) (by decide +kernel) ?_
    refine n_iload_n (n := 3) (by decide +kernel) rfl ?_
    refine n_iadd (by decide +kernel) ?_
    obtain ⟨M8, h8, hr⟩ := bso hr
    refine n_callVv G [_] (M1 := M8) (B_X4_put G hp0 hs0 h8) (by omega) mX4_put ml_RX4_25 hp0 hs0 rfl rfl (Nat.le_of_ble_eq_true rfl) (by decide +kernel) ?_
    refine n_goto (off := 41) (tgt := 63) (by decide +kernel) (by decide) ?_
    cases hr
    exact n_return (by decide +kernel)
abbrev P_X4_readChoice_b2 (l : Launch) (s0 : State) (D : va_G) (cy : Nat → ClassId) (ad : Nat → Nat) (P : Nat → Prop) (n : Nat) (a0 : Nat) (x2 : Int32)  (res : Rs) (M' : Mm) (s : (Int32 × Mm)) : Prop := Rn l s0 D cy ad P (12 + (n + 1)) KX4_readChoice 2 [.ref a0, .ref 1, .int x2, .int (s.1)] [] (s.2) res M'
abbrev Q_X4_readChoice_b2 (l : Launch) (s0 : State) (D : va_G) (cy : Nat → ClassId) (ad : Nat → Nat) (P : Nat → Prop) (n : Nat) (a0 : Nat) (x2 : Int32)  (res : Rs) (M' : Mm) (e : Mm) : Prop := Rn l s0 D cy ad P (12 + (n + 1)) KX4_readChoice 43 [.ref a0, .null, .null, .null] [] (e) res M'
set_option maxRecDepth 100000 in
theorem B_X4_readChoice_j24 (G : GG l s0 b L xs D cy ad) {n : Nat} {rec : Nat → Nat → Int32 → Mm → Option Mm} {a0 : Nat} {x2 : Int32} {x3 : Int32} {M : Mm}  {res : Rs} {M' : Mm} {r : ((Int32 × Mm) ⊕ Mm)} (hrec0 : ∀ (a0 : Nat) (x2 : Int32) (M r : Mm) (hp0 : P a0) (hs0 : SH a0 = 4) (hp1 : P 1), rec 0 a0 x2 M = some r → Cl l s0 D cy ad P (12 + n) KX4_readSum [.ref a0, .ref 1, .int x2] M (.inl none) r) (hrec1 : ∀ (a0 : Nat) (x2 : Int32) (M r : Mm) (hp0 : P a0) (hs0 : SH a0 = 4) (hp1 : P 1), rec 1 a0 x2 M = some r → Cl l s0 D cy ad P (12 + n) KX4_readProduct [.ref a0, .ref 1, .int x2] M (.inl none) r) (hrec2 : ∀ (a0 : Nat) (x2 : Int32) (M r : Mm) (hp0 : P a0) (hs0 : SH a0 = 4) (hp1 : P 1), rec 2 a0 x2 M = some r → Cl l s0 D cy ad P (12 + n) KX4_readPart [.ref a0, .ref 1, .int x2] M (.inl none) r) (hrec3 : ∀ (a0 : Nat) (x2 : Int32) (M r : Mm) (hp0 : P a0) (hs0 : SH a0 = 4) (hp1 : P 1), rec 3 a0 x2 M = some r → Cl l s0 D cy ad P (12 + n) KX4_readBracket [.ref a0, .ref 1, .int x2] M (.inl none) r) (hrec4 : ∀ (a0 : Nat) (x2 : Int32) (M r : Mm) (hp0 : P a0) (hs0 : SH a0 = 4) (hp1 : P 1), rec 4 a0 x2 M = some r → Cl l s0 D cy ad P (12 + n) KX4_readName [.ref a0, .ref 1, .int x2] M (.inl none) r) (hrec5 : ∀ (a0 : Nat) (x2 : Int32) (M r : Mm) (hp0 : P a0) (hs0 : SH a0 = 4) (hp1 : P 1), rec 5 a0 x2 M = some r → Cl l s0 D cy ad P (12 + n) KX4_readChoice [.ref a0, .ref 1, .int x2] M (.inl none) r) (hp0 : P a0) (hs0 : SH a0 = 4) (hp1 : P 1) (hr : f_X4_readChoice_j24 rec a0 x2 x3 M = some r) (hk : mtc (P_X4_readChoice_b2 l s0 D cy ad P n a0 x2 res M') (Q_X4_readChoice_b2 l s0 D cy ad P n a0 x2 res M') r) : Rn l s0 D cy ad P (12 + (n + 1)) KX4_readChoice 24 [.ref a0, .ref 1, .int x2, .int x3] [] M res M' := by
  unfold f_X4_readChoice_j24 at hr
  refine n_aload_n (n := 1) (by decide +kernel) rfl ?_
  obtain ⟨v5, h5, hr⟩ := bso hr
  refine n_callVi G [] (x := v5) (B_X7_isFine G hp1 h5) (by omega) mX7_isFine ml_RX4_91 hp1 (by decide +kernel) rfl rfl (Nat.le_of_ble_eq_true rfl) (by decide +kernel) ?_
  refine n_if_eq (off := 9) (tgt := 37) (by decide +kernel) (by decide) (fun hc6 => ?_) (fun hc6 => ?_)
  · rw [if_pos hc6] at hr
    refine n_iincK (n := 3) (j := 1) (w := 1) (lo2 := [_, _, _, _]) (by decide +kernel) rfl rfl rfl ?_
    refine n_goto (off := -38) (tgt := 2) (by decide +kernel) (by decide) ?_
    cases hr
    exact hk
  · rw [if_neg hc6] at hr
    refine n_aload_n (n := 0) (by decide +kernel) rfl ?_
    refine n_aload_n (n := 1) (by decide +kernel) rfl ?_
    refine n_iload_n (n := 2) (by decide +kernel) rfl ?_
    obtain ⟨M7, h7, hr⟩ := bso hr
    refine n_callVv G [_, _] (M1 := M7) (hrec0 _ _ _ _ hp0 hs0 hp1 h7) (by omega) mX4_readSum ml_RX4_29 hp0 hs0 rfl rfl (Nat.le_of_ble_eq_true rfl) (by decide +kernel) ?_
    refine n_iincK (n := 3) (j := 1) (w := 1) (lo2 := [_, _, _, _]) (by decide +kernel) rfl rfl rfl ?_
    refine n_goto (off := -38) (tgt := 2) (by decide +kernel) (by decide) ?_
    cases hr
    exact hk
set_option maxRecDepth 100000 in
theorem B_X4_readChoice_b2 (G : GG l s0 b L xs D cy ad) {n : Nat} {rec : Nat → Nat → Int32 → Mm → Option Mm} {a0 : Nat} {x2 : Int32}  {res : Rs} {M' : Mm} (hrec0 : ∀ (a0 : Nat) (x2 : Int32) (M r : Mm) (hp0 : P a0) (hs0 : SH a0 = 4) (hp1 : P 1), rec 0 a0 x2 M = some r → Cl l s0 D cy ad P (12 + n) KX4_readSum [.ref a0, .ref 1, .int x2] M (.inl none) r) (hrec1 : ∀ (a0 : Nat) (x2 : Int32) (M r : Mm) (hp0 : P a0) (hs0 : SH a0 = 4) (hp1 : P 1), rec 1 a0 x2 M = some r → Cl l s0 D cy ad P (12 + n) KX4_readProduct [.ref a0, .ref 1, .int x2] M (.inl none) r) (hrec2 : ∀ (a0 : Nat) (x2 : Int32) (M r : Mm) (hp0 : P a0) (hs0 : SH a0 = 4) (hp1 : P 1), rec 2 a0 x2 M = some r → Cl l s0 D cy ad P (12 + n) KX4_readPart [.ref a0, .ref 1, .int x2] M (.inl none) r) (hrec3 : ∀ (a0 : Nat) (x2 : Int32) (M r : Mm) (hp0 : P a0) (hs0 : SH a0 = 4) (hp1 : P 1), rec 3 a0 x2 M = some r → Cl l s0 D cy ad P (12 + n) KX4_readBracket [.ref a0, .ref 1, .int x2] M (.inl none) r) (hrec4 : ∀ (a0 : Nat) (x2 : Int32) (M r : Mm) (hp0 : P a0) (hs0 : SH a0 = 4) (hp1 : P 1), rec 4 a0 x2 M = some r → Cl l s0 D cy ad P (12 + n) KX4_readName [.ref a0, .ref 1, .int x2] M (.inl none) r) (hrec5 : ∀ (a0 : Nat) (x2 : Int32) (M r : Mm) (hp0 : P a0) (hs0 : SH a0 = 4) (hp1 : P 1), rec 5 a0 x2 M = some r → Cl l s0 D cy ad P (12 + n) KX4_readChoice [.ref a0, .ref 1, .int x2] M (.inl none) r) (hp0 : P a0) (hs0 : SH a0 = 4) (hp1 : P 1) : ∀ (s : (Int32 × Mm)) (r : (Int32 × Mm) ⊕ Mm), f_X4_readChoice_b2 rec a0 x2 s = some r → mtc (P_X4_readChoice_b2 l s0 D cy ad P n a0 x2 res M') (Q_X4_readChoice_b2 l s0 D cy ad P n a0 x2 res M') r → P_X4_readChoice_b2 l s0 D cy ad P n a0 x2 res M' s := by
  intro s r hr hk
  obtain ⟨x3, M⟩ := s
  unfold f_X4_readChoice_b2 at hr
  try dsimp only at hr
  dsimp only [P_X4_readChoice_b2]
  refine n_iload_n (n := 3) (by decide +kernel) rfl ?_
  refine n_iconst (n := 3) (v := 3) (by decide +kernel) rfl ?_
  refine n_icmp_ge (off := 39) (tgt := 43) (by decide +kernel) (by decide) (fun hc1 => ?_) (fun hc1 => ?_)
  · rw [if_pos hc1] at hr
    cases hr
    refine n_msk [true, false, false, false] (lo2 := [_, .null, .null, .null]) rfl rfl ?_
    exact hk
  · rw [if_neg hc1] at hr
    refine n_aload_n (n := 1) (by decide +kernel) rfl ?_
    obtain ⟨v2, h2, hr⟩ := bso hr
    refine n_callVi G [] (x := v2) (B_X7_isFine G hp1 h2) (by omega) mX7_isFine ml_RX4_91 hp1 (by decide +kernel) rfl rfl (Nat.le_of_ble_eq_true rfl) (by decide +kernel) ?_
    refine n_if_eq (off := 32) (tgt := 43) (by decide +kernel) (by decide) (fun hc3 => ?_) (fun hc3 => ?_)
    · rw [if_pos hc3] at hr
      cases hr
      refine n_msk [true, false, false, false] (lo2 := [_, .null, .null, .null]) rfl rfl ?_
      exact hk
    · rw [if_neg hc3] at hr
      refine n_iload_n (n := 3) (by decide +kernel) rfl ?_
      refine n_if_le (off := 9) (tgt := 24) (by decide +kernel) (by decide) (fun hc4 => ?_) (fun hc4 => ?_)
      · rw [if_pos hc4] at hr
        exact B_X4_readChoice_j24 G hrec0 hrec1 hrec2 hrec3 hrec4 hrec5 hp0 hs0 hp1 hr hk
      · rw [if_neg hc4] at hr
        refine n_aload_n (n := 1) (by decide +kernel) rfl ?_
        refine n_bipush (n := 44) (v := 44) (by decide +kernel) rfl ?_
        obtain ⟨M8, h8, hr⟩ := bso hr
        refine n_callVv G [_] (M1 := M8) (B_X7_readSign G hp1 h8) (by omega) mX7_readSign ml_RX4_76 hp1 (by decide +kernel) rfl rfl (Nat.le_of_ble_eq_true rfl) (by decide +kernel) ?_
        exact B_X4_readChoice_j24 G hrec0 hrec1 hrec2 hrec3 hrec4 hrec5 hp0 hs0 hp1 hr hk
set_option maxRecDepth 100000 in
theorem W_X4_readChoice_b2 (G : GG l s0 b L xs D cy ad) {n : Nat} {rec : Nat → Nat → Int32 → Mm → Option Mm} {a0 : Nat} {x2 : Int32}  (hrec0 : ∀ (a0 : Nat) (x2 : Int32) (M r : Mm) (hp0 : P a0) (hs0 : SH a0 = 4) (hp1 : P 1), rec 0 a0 x2 M = some r → Cl l s0 D cy ad P (12 + n) KX4_readSum [.ref a0, .ref 1, .int x2] M (.inl none) r) (hrec1 : ∀ (a0 : Nat) (x2 : Int32) (M r : Mm) (hp0 : P a0) (hs0 : SH a0 = 4) (hp1 : P 1), rec 1 a0 x2 M = some r → Cl l s0 D cy ad P (12 + n) KX4_readProduct [.ref a0, .ref 1, .int x2] M (.inl none) r) (hrec2 : ∀ (a0 : Nat) (x2 : Int32) (M r : Mm) (hp0 : P a0) (hs0 : SH a0 = 4) (hp1 : P 1), rec 2 a0 x2 M = some r → Cl l s0 D cy ad P (12 + n) KX4_readPart [.ref a0, .ref 1, .int x2] M (.inl none) r) (hrec3 : ∀ (a0 : Nat) (x2 : Int32) (M r : Mm) (hp0 : P a0) (hs0 : SH a0 = 4) (hp1 : P 1), rec 3 a0 x2 M = some r → Cl l s0 D cy ad P (12 + n) KX4_readBracket [.ref a0, .ref 1, .int x2] M (.inl none) r) (hrec4 : ∀ (a0 : Nat) (x2 : Int32) (M r : Mm) (hp0 : P a0) (hs0 : SH a0 = 4) (hp1 : P 1), rec 4 a0 x2 M = some r → Cl l s0 D cy ad P (12 + n) KX4_readName [.ref a0, .ref 1, .int x2] M (.inl none) r) (hrec5 : ∀ (a0 : Nat) (x2 : Int32) (M r : Mm) (hp0 : P a0) (hs0 : SH a0 = 4) (hp1 : P 1), rec 5 a0 x2 M = some r → Cl l s0 D cy ad P (12 + n) KX4_readChoice [.ref a0, .ref 1, .int x2] M (.inl none) r) (hp0 : P a0) (hs0 : SH a0 = 4) (hp1 : P 1) {s : (Int32 × Mm)} {e : Mm} (h : whl fu (f_X4_readChoice_b2 rec a0 x2) s = some e) (res : Rs) (M' : Mm) : Q_X4_readChoice_b2 l s0 D cy ad P n a0 x2 res M' e → P_X4_readChoice_b2 l s0 D cy ad P n a0 x2 res M' s := whl_run (P := fun s => P_X4_readChoice_b2 l s0 D cy ad P n a0 x2 res M' s) (Q := fun e => Q_X4_readChoice_b2 l s0 D cy ad P n a0 x2 res M' e) (B_X4_readChoice_b2 G (res := res) (M' := M') (n := n) (rec := rec) (a0 := a0) (x2 := x2) hrec0 hrec1 hrec2 hrec3 hrec4 hrec5 hp0 hs0 hp1) fu s h
set_option maxRecDepth 100000 in
theorem Bb_X4_readChoice (G : GG l s0 b L xs D cy ad) {n : Nat} {rec : Nat → Nat → Int32 → Mm → Option Mm} {a0 : Nat} {x2 : Int32} {M : Mm} {r : Mm} (hrec0 : ∀ (a0 : Nat) (x2 : Int32) (M r : Mm) (hp0 : P a0) (hs0 : SH a0 = 4) (hp1 : P 1), rec 0 a0 x2 M = some r → Cl l s0 D cy ad P (12 + n) KX4_readSum [.ref a0, .ref 1, .int x2] M (.inl none) r) (hrec1 : ∀ (a0 : Nat) (x2 : Int32) (M r : Mm) (hp0 : P a0) (hs0 : SH a0 = 4) (hp1 : P 1), rec 1 a0 x2 M = some r → Cl l s0 D cy ad P (12 + n) KX4_readProduct [.ref a0, .ref 1, .int x2] M (.inl none) r) (hrec2 : ∀ (a0 : Nat) (x2 : Int32) (M r : Mm) (hp0 : P a0) (hs0 : SH a0 = 4) (hp1 : P 1), rec 2 a0 x2 M = some r → Cl l s0 D cy ad P (12 + n) KX4_readPart [.ref a0, .ref 1, .int x2] M (.inl none) r) (hrec3 : ∀ (a0 : Nat) (x2 : Int32) (M r : Mm) (hp0 : P a0) (hs0 : SH a0 = 4) (hp1 : P 1), rec 3 a0 x2 M = some r → Cl l s0 D cy ad P (12 + n) KX4_readBracket [.ref a0, .ref 1, .int x2] M (.inl none) r) (hrec4 : ∀ (a0 : Nat) (x2 : Int32) (M r : Mm) (hp0 : P a0) (hs0 : SH a0 = 4) (hp1 : P 1), rec 4 a0 x2 M = some r → Cl l s0 D cy ad P (12 + n) KX4_readName [.ref a0, .ref 1, .int x2] M (.inl none) r) (hrec5 : ∀ (a0 : Nat) (x2 : Int32) (M r : Mm) (hp0 : P a0) (hs0 : SH a0 = 4) (hp1 : P 1), rec 5 a0 x2 M = some r → Cl l s0 D cy ad P (12 + n) KX4_readChoice [.ref a0, .ref 1, .int x2] M (.inl none) r) (hp0 : P a0) (hs0 : SH a0 = 4) (hp1 : P 1) (hr : fb_X4_readChoice rec a0 x2 M = some r) : Cl l s0 D cy ad P (12 + (n + 1)) KX4_readChoice [.ref a0, .ref 1, .int x2] M (.inl none) (r) := by
  refine cl_ofN (by decide +kernel) rfl rfl rfl (lo0 := [_, _, _, .null]) rfl ?_
  unfold fb_X4_readChoice at hr
  refine n_iconst (n := 0) (v := 0) (by decide +kernel) rfl ?_
  refine n_istore_n (n := 3) (lo2 := [_, _, _, _]) (by decide +kernel) (Nat.le_of_ble_eq_true rfl) rfl ?_
  obtain ⟨M9, h9, hr⟩ := bso hr
  refine (W_X4_readChoice_b2 G hrec0 hrec1 hrec2 hrec3 hrec4 hrec5 hp0 hs0 hp1 h9 _ _) ?_
  dsimp only [Q_X4_readChoice_b2]
  refine n_aload_n (n := 0) (by decide +kernel) rfl ?_
  refine n_bipush (n := -63) (v := -63) (by decide +kernel) rfl ?_
  obtain ⟨M10, h10, hr⟩ := bso hr
  refine n_callVv G [_] (M1 := M10) (B_X4_put G hp0 hs0 h10) (by omega) mX4_put ml_RX4_25 hp0 hs0 rfl rfl (Nat.le_of_ble_eq_true rfl) (by decide +kernel) ?_
  cases hr
  exact n_return (by decide +kernel)
set_option maxRecDepth 100000 in
theorem BR_X4_readSum (G : GG l s0 b L xs D cy ad) : ∀ n : Nat, (∀ (a0 : Nat) (x2 : Int32) (M r : Mm) (hp0 : P a0) (hs0 : SH a0 = 4) (hp1 : P 1), R_X4_readSum n 0 a0 x2 M = some r → Cl l s0 D cy ad P (12 + n) KX4_readSum [.ref a0, .ref 1, .int x2] M (.inl none) r) ∧ (∀ (a0 : Nat) (x2 : Int32) (M r : Mm) (hp0 : P a0) (hs0 : SH a0 = 4) (hp1 : P 1), R_X4_readSum n 1 a0 x2 M = some r → Cl l s0 D cy ad P (12 + n) KX4_readProduct [.ref a0, .ref 1, .int x2] M (.inl none) r) ∧ (∀ (a0 : Nat) (x2 : Int32) (M r : Mm) (hp0 : P a0) (hs0 : SH a0 = 4) (hp1 : P 1), R_X4_readSum n 2 a0 x2 M = some r → Cl l s0 D cy ad P (12 + n) KX4_readPart [.ref a0, .ref 1, .int x2] M (.inl none) r) ∧ (∀ (a0 : Nat) (x2 : Int32) (M r : Mm) (hp0 : P a0) (hs0 : SH a0 = 4) (hp1 : P 1), R_X4_readSum n 3 a0 x2 M = some r → Cl l s0 D cy ad P (12 + n) KX4_readBracket [.ref a0, .ref 1, .int x2] M (.inl none) r) ∧ (∀ (a0 : Nat) (x2 : Int32) (M r : Mm) (hp0 : P a0) (hs0 : SH a0 = 4) (hp1 : P 1), R_X4_readSum n 4 a0 x2 M = some r → Cl l s0 D cy ad P (12 + n) KX4_readName [.ref a0, .ref 1, .int x2] M (.inl none) r) ∧ (∀ (a0 : Nat) (x2 : Int32) (M r : Mm) (hp0 : P a0) (hs0 : SH a0 = 4) (hp1 : P 1), R_X4_readSum n 5 a0 x2 M = some r → Cl l s0 D cy ad P (12 + n) KX4_readChoice [.ref a0, .ref 1, .int x2] M (.inl none) r) := by
  intro n
  induction n with
  | zero => exact ⟨fun _ _ _ _ _ _ _ h => (nomatch h), fun _ _ _ _ _ _ _ h => (nomatch h), fun _ _ _ _ _ _ _ h => (nomatch h), fun _ _ _ _ _ _ _ h => (nomatch h), fun _ _ _ _ _ _ _ h => (nomatch h), fun _ _ _ _ _ _ _ h => (nomatch h)⟩
  | succ n ih =>
    obtain ⟨ih0, ih1, ih2, ih3, ih4, ih5⟩ := ih
    exact ⟨fun _ _ _ _ hp0 hs0 hp1 h => Bb_X4_readSum G ih0 ih1 ih2 ih3 ih4 ih5 hp0 hs0 hp1 h, fun _ _ _ _ hp0 hs0 hp1 h => Bb_X4_readProduct G ih0 ih1 ih2 ih3 ih4 ih5 hp0 hs0 hp1 h, fun _ _ _ _ hp0 hs0 hp1 h => Bb_X4_readPart G ih0 ih1 ih2 ih3 ih4 ih5 hp0 hs0 hp1 h, fun _ _ _ _ hp0 hs0 hp1 h => Bb_X4_readBracket G ih0 ih1 ih2 ih3 ih4 ih5 hp0 hs0 hp1 h, fun _ _ _ _ hp0 hs0 hp1 h => Bb_X4_readName G ih0 ih1 ih2 ih3 ih4 ih5 hp0 hs0 hp1 h, fun _ _ _ _ hp0 hs0 hp1 h => Bb_X4_readChoice G ih0 ih1 ih2 ih3 ih4 ih5 hp0 hs0 hp1 h⟩
set_option maxRecDepth 100000 in
theorem B_X4_readSum (G : GG l s0 b L xs D cy ad) {a0 : Nat} {x2 : Int32} {M r : Mm} (hp0 : P a0) (hs0 : SH a0 = 4) (hp1 : P 1) (hr : f_X4_readSum a0 x2 M = some r) : Cl l s0 D cy ad P 72 KX4_readSum [.ref a0, .ref 1, .int x2] M (.inl none) r := (BR_X4_readSum G 60).1 _ _ _ _ hp0 hs0 hp1 hr
set_option maxRecDepth 100000 in
theorem B_X4_readProduct (G : GG l s0 b L xs D cy ad) {a0 : Nat} {x2 : Int32} {M r : Mm} (hp0 : P a0) (hs0 : SH a0 = 4) (hp1 : P 1) (hr : f_X4_readProduct a0 x2 M = some r) : Cl l s0 D cy ad P 72 KX4_readProduct [.ref a0, .ref 1, .int x2] M (.inl none) r := (BR_X4_readSum G 60).2.1 _ _ _ _ hp0 hs0 hp1 hr
set_option maxRecDepth 100000 in
theorem B_X4_readPart (G : GG l s0 b L xs D cy ad) {a0 : Nat} {x2 : Int32} {M r : Mm} (hp0 : P a0) (hs0 : SH a0 = 4) (hp1 : P 1) (hr : f_X4_readPart a0 x2 M = some r) : Cl l s0 D cy ad P 72 KX4_readPart [.ref a0, .ref 1, .int x2] M (.inl none) r := (BR_X4_readSum G 60).2.2.1 _ _ _ _ hp0 hs0 hp1 hr
set_option maxRecDepth 100000 in
theorem B_X4_readBracket (G : GG l s0 b L xs D cy ad) {a0 : Nat} {x2 : Int32} {M r : Mm} (hp0 : P a0) (hs0 : SH a0 = 4) (hp1 : P 1) (hr : f_X4_readBracket a0 x2 M = some r) : Cl l s0 D cy ad P 72 KX4_readBracket [.ref a0, .ref 1, .int x2] M (.inl none) r := (BR_X4_readSum G 60).2.2.2.1 _ _ _ _ hp0 hs0 hp1 hr
set_option maxRecDepth 100000 in
theorem B_X4_readName (G : GG l s0 b L xs D cy ad) {a0 : Nat} {x2 : Int32} {M r : Mm} (hp0 : P a0) (hs0 : SH a0 = 4) (hp1 : P 1) (hr : f_X4_readName a0 x2 M = some r) : Cl l s0 D cy ad P 72 KX4_readName [.ref a0, .ref 1, .int x2] M (.inl none) r := (BR_X4_readSum G 60).2.2.2.2.1 _ _ _ _ hp0 hs0 hp1 hr
set_option maxRecDepth 100000 in
theorem B_X4_readChoice (G : GG l s0 b L xs D cy ad) {a0 : Nat} {x2 : Int32} {M r : Mm} (hp0 : P a0) (hs0 : SH a0 = 4) (hp1 : P 1) (hr : f_X4_readChoice a0 x2 M = some r) : Cl l s0 D cy ad P 72 KX4_readChoice [.ref a0, .ref 1, .int x2] M (.inl none) r := (BR_X4_readSum G 60).2.2.2.2.2 _ _ _ _ hp0 hs0 hp1 hr
set_option maxRecDepth 100000 in
theorem B_X4_readLaw (G : GG l s0 b L xs D cy ad)  {a0 : Nat} {M : Mm} {r : Mm} (hp0 : P a0) (hs0 : SH a0 = 4) (hp1 : P 1) (hr : f_X4_readLaw a0 M = some r) : Cl l s0 D cy ad P 73 KX4_readLaw [.ref a0, .ref 1] M (.inl none) (r) := by
  refine cl_ofN (by decide +kernel) rfl rfl rfl (lo0 := [_, _]) rfl ?_
  unfold f_X4_readLaw at hr
  refine n_aload_n (n := 0) (by decide +kernel) rfl ?_
  refine n_iconst (n := 0) (v := 0) (by decide +kernel) rfl ?_
  refine n_putI G fl_RX4_21 hp0 hs0 (by decide +kernel) ?_
  refine n_aload_n (n := 0) (by decide +kernel) rfl ?_
  refine n_aload_n (n := 1) (by decide +kernel) rfl ?_
  refine n_iconst (n := 0) (v := 0) (by decide +kernel) rfl ?_
  obtain ⟨M1, h1, hr⟩ := bso hr
  refine n_callVv G [_, _] (M1 := M1) (B_X4_readSum G hp0 hs0 hp1 h1) (by decide) mX4_readSum ml_RX4_29 hp0 hs0 rfl rfl (Nat.le_of_ble_eq_true rfl) (by decide +kernel) ?_
  refine n_aload_n (n := 1) (by decide +kernel) rfl ?_
  obtain ⟨⟨v2, M2⟩, h2, hr⟩ := bso hr
  try dsimp only at hr
  refine n_callVi G [] (x := v2) (M1 := M2) (B_X7_next G hp1 h2) (by decide) mX7_next ml_RX4_33 hp1 (by decide +kernel) rfl rfl (Nat.le_of_ble_eq_true rfl) (by decide +kernel) ?_
  refine n_iconst (n := -1) (v := -1) (by decide +kernel) rfl ?_
  refine n_icmp_eq (off := 12) (tgt := 28) (by decide +kernel) (by decide) (fun hc3 => ?_) (fun hc3 => ?_)
  · rw [if_pos hc3] at hr
    cases hr
    exact n_return (by decide +kernel)
  · rw [if_neg hc3] at hr
    refine n_aload_n (n := 1) (by decide +kernel) rfl ?_
    refine n_iconst (n := 1) (v := 1) (by decide +kernel) rfl ?_
    refine n_aload_n (n := 1) (by decide +kernel) rfl ?_
    refine n_getI G fl_RX4_39 hp1 (by decide +kernel) (by decide +kernel) ?_
    obtain ⟨M4, h4, hr⟩ := bso hr
    refine n_callVv G [_, _] (M1 := M4) (B_X7_fail G hp1 h4) (by decide) mX7_fail ml_RX4_42 hp1 (by decide +kernel) rfl rfl (Nat.le_of_ble_eq_true rfl) (by decide +kernel) ?_
    cases hr
    exact n_return (by decide +kernel)
set_option maxRecDepth 100000 in
theorem B_X5_forget (G : GG l s0 b L xs D cy ad)   {M : Mm} {r : Mm} (hp0 : P 8) (hr : f_X5_forget  M = some r) : Cl l s0 D cy ad P 9 KX5_forget [.ref 8] M (.inl none) (r) := by
  refine cl_ofN (by decide +kernel) rfl rfl rfl (lo0 := [_]) rfl ?_
  unfold f_X5_forget at hr
  refine n_aload_n (n := 0) (by decide +kernel) rfl ?_
  refine n_iconst (n := 0) (v := 0) (by decide +kernel) rfl ?_
  refine n_putI G fl_RX5_21 hp0 (by decide +kernel) (by decide +kernel) ?_
  refine n_aload_n (n := 0) (by decide +kernel) rfl ?_
  refine n_iconst (n := 0) (v := 0) (by decide +kernel) rfl ?_
  refine n_putI G fl_RX5_25 hp0 (by decide +kernel) (by decide +kernel) ?_
  cases hr
  exact n_return (by decide +kernel)
set_option maxRecDepth 100000 in
theorem B_X5_isFull (G : GG l s0 b L xs D cy ad)   {M : Mm} {r : Int32} (hp0 : P 8) (hr : f_X5_isFull  M = some r) : Cl l s0 D cy ad P 9 KX5_isFull [.ref 8] M (.inl (some (.int r))) (M) := by
  unfold f_X5_isFull at hr
  obtain ⟨v0, h0, h1⟩ := bso hr
  clear hr
  obtain ⟨hb, rfl⟩ := rB_in h1
  have hr := h0
  clear h0
  refine cl_ofN (by decide +kernel) rfl rfl (okB hb) (lo0 := [_]) rfl ?_
  unfold g_X5_isFull at hr
  refine n_aload_n (n := 0) (by decide +kernel) rfl ?_
  refine n_getI G fl_RX5_21 hp0 (by decide +kernel) (by decide +kernel) ?_
  refine n_bipush (n := 20) (v := 20) (by decide +kernel) rfl ?_
  refine n_dia2 (J := 14) (c := (mi M 8 3) < (20 : Int32)) (a := (0 : Int32)) (b := (1 : Int32)) (fun hJ => ?_) ?_
  · refine n_icmp_lt (off := 7) (tgt := 13) (by decide +kernel) (by decide) (fun hc1 => ?_) (fun hc1 => ?_)
    · refine n_iconst (n := 0) (v := 0) (by decide +kernel) rfl ?_
      exact hJ _ (if_pos hc1).symm
    · refine n_iconst (n := 1) (v := 1) (by decide +kernel) rfl ?_
      refine n_goto (off := 4) (tgt := 14) (by decide +kernel) (by decide) ?_
      exact hJ _ (if_neg hc1).symm
  cases hr
  exact n_ireturn (by decide +kernel)
set_option maxRecDepth 100000 in
theorem B_X5_keepWork (G : GG l s0 b L xs D cy ad)  {a1 : Nat} {M : Mm} {r : Mm} (hp0 : P 8) (hp1 : P a1) (hs1 : SH a1 = 8) (hr : f_X5_keepWork a1 M = some r) : Cl l s0 D cy ad P 10 KX5_keepWork [.ref 8, .ref a1] M (.inl none) (r) := by
  refine cl_ofN (by decide +kernel) rfl rfl rfl (lo0 := [_, _]) rfl ?_
  unfold f_X5_keepWork at hr
  refine n_aload_n (n := 0) (by decide +kernel) rfl ?_
  obtain ⟨v1, h1, hr⟩ := bso hr
  refine n_callVi G [] (x := v1) (B_X5_isFull G hp0 h1) (by decide) mX5_isFull ml_RX5_28 hp0 (by decide +kernel) rfl rfl (Nat.le_of_ble_eq_true rfl) (by decide +kernel) ?_
  refine n_if_ne (off := 29) (tgt := 33) (by decide +kernel) (by decide) (fun hc2 => ?_) (fun hc2 => ?_)
  · rw [if_neg hc2] at hr
    cases hr
    exact n_return (by decide +kernel)
  · rw [if_pos hc2] at hr
    refine n_aload_n (n := 1) (by decide +kernel) rfl ?_
    refine n_aload_n (n := 0) (by decide +kernel) rfl ?_
    refine n_getF (q := 9) G fl_RX5_11 hp0 (by decide +kernel) (by decide +kernel) (by decide +kernel) (fun hp3q => ?_)
    refine n_aload_n (n := 0) (by decide +kernel) rfl ?_
    refine n_getI G fl_RX5_21 hp0 (by decide +kernel) (by decide +kernel) ?_
    refine n_sipush (n := 393) (v := 393) (by decide +kernel) (by decide +kernel) ?_
    refine n_imul (by decide +kernel) ?_
    obtain ⟨M4, h4, hr⟩ := bso hr
    refine n_callVv G [_, _] (M1 := M4) (B_X8_writeTo G hp1 hs1 hp3q (by decide +kernel) h4) (by decide) mX8_writeTo ml_RX5_32 hp1 hs1 rfl rfl (Nat.le_of_ble_eq_true rfl) (by decide +kernel) ?_
    refine n_aload_n (n := 0) (by decide +kernel) rfl ?_
    refine n_dup rfl (by decide +kernel) ?_
    refine n_getI G fl_RX5_21 hp0 (by decide +kernel) (by decide +kernel) ?_
    refine n_iconst (n := 1) (v := 1) (by decide +kernel) rfl ?_
    refine n_iadd (by decide +kernel) ?_
    refine n_putI G fl_RX5_21 hp0 (by decide +kernel) (by decide +kernel) ?_
    cases hr
    exact n_return (by decide +kernel)
set_option maxRecDepth 100000 in
theorem B_X5_takeBackWork (G : GG l s0 b L xs D cy ad)  {a1 : Nat} {M : Mm} {r : Mm} (hp0 : P 8) (hp1 : P a1) (hs1 : SH a1 = 8) (hr : f_X5_takeBackWork a1 M = some r) : Cl l s0 D cy ad P 10 KX5_takeBackWork [.ref 8, .ref a1] M (.inl none) (r) := by
  refine cl_ofN (by decide +kernel) rfl rfl rfl (lo0 := [_, _]) rfl ?_
  unfold f_X5_takeBackWork at hr
  refine n_aload_n (n := 0) (by decide +kernel) rfl ?_
  refine n_getI G fl_RX5_21 hp0 (by decide +kernel) (by decide +kernel) ?_
  refine n_if_le (off := 29) (tgt := 33) (by decide +kernel) (by decide) (fun hc1 => ?_) (fun hc1 => ?_)
  · rw [if_pos hc1] at hr
    cases hr
    exact n_return (by decide +kernel)
  · rw [if_neg hc1] at hr
    refine n_aload_n (n := 0) (by decide +kernel) rfl ?_
    refine n_dup rfl (by decide +kernel) ?_
    refine n_getI G fl_RX5_21 hp0 (by decide +kernel) (by decide +kernel) ?_
    refine n_iconst (n := 1) (v := 1) (by decide +kernel) rfl ?_
    refine n_isub (by decide +kernel) ?_
    refine n_putI G fl_RX5_21 hp0 (by decide +kernel) (by decide +kernel) ?_
    refine n_aload_n (n := 1) (by decide +kernel) rfl ?_
    refine n_aload_n (n := 0) (by decide +kernel) rfl ?_
    refine n_getF (q := 9) G fl_RX5_11 hp0 (by decide +kernel) (by decide +kernel) (by decide +kernel) (fun hp2q => ?_)
    refine n_aload_n (n := 0) (by decide +kernel) rfl ?_
    refine n_getI G fl_RX5_21 hp0 (by decide +kernel) (by decide +kernel) ?_
    refine n_sipush (n := 393) (v := 393) (by decide +kernel) (by decide +kernel) ?_
    refine n_imul (by decide +kernel) ?_
    obtain ⟨M3, h3, hr⟩ := bso hr
    refine n_callVv G [_, _] (M1 := M3) (B_X8_readFrom G hp1 hs1 hp2q (by decide +kernel) h3) (by decide) mX8_readFrom ml_RX5_36 hp1 hs1 rfl rfl (Nat.le_of_ble_eq_true rfl) (by decide +kernel) ?_
    cases hr
    exact n_return (by decide +kernel)
set_option maxRecDepth 100000 in
theorem B_X5_keepImage (G : GG l s0 b L xs D cy ad)  {a1 : Nat} {M : Mm} {r : (Int32 × Mm)} (hp0 : P 8) (hp1 : P a1) (hs1 : SH a1 = 8) (hr : f_X5_keepImage a1 M = some r) : Cl l s0 D cy ad P 10 KX5_keepImage [.ref 8, .ref a1] M (.inl (some (.int r.1))) (r.2) := by
  unfold f_X5_keepImage at hr
  obtain ⟨⟨v0, M0⟩, h0, h1⟩ := bso hr
  clear hr
  obtain ⟨v1, h2, h3⟩ := bso h1
  obtain ⟨hb, rfl⟩ := rB_in h2
  cases h3
  have hr := h0
  clear h0
  refine cl_ofN (by decide +kernel) rfl rfl (okB hb) (lo0 := [_, _, .null]) rfl ?_
  unfold g_X5_keepImage at hr
  refine n_aload_n (n := 0) (by decide +kernel) rfl ?_
  refine n_getI G fl_RX5_25 hp0 (by decide +kernel) (by decide +kernel) ?_
  refine n_if_lt (off := 11) (tgt := 15) (by decide +kernel) (by decide) (fun hc1 => ?_) (fun hc1 => ?_)
  · rw [if_pos hc1] at hr
    refine n_iconst (n := 0) (v := 0) (by decide +kernel) rfl ?_
    cases hr
    exact n_ireturn (by decide +kernel)
  · rw [if_neg hc1] at hr
    refine n_aload_n (n := 0) (by decide +kernel) rfl ?_
    refine n_getI G fl_RX5_25 hp0 (by decide +kernel) (by decide +kernel) ?_
    refine n_iconst (n := 3) (v := 3) (by decide +kernel) rfl ?_
    refine n_icmp_lt (off := 5) (tgt := 17) (by decide +kernel) (by decide) (fun hc2 => ?_) (fun hc2 => ?_)
    · rw [if_pos hc2] at hr
      refine n_aload_n (n := 0) (by decide +kernel) rfl ?_
      refine n_getI G fl_RX5_25 hp0 (by decide +kernel) (by decide +kernel) ?_
      refine n_sipush (n := 8253) (v := 8253) (by decide +kernel) (by decide +kernel) ?_
      refine n_imul (by decide +kernel) ?_
      refine n_istore_n (n := 2) (lo2 := [_, _, _]) (by decide +kernel) (Nat.le_of_ble_eq_true rfl) rfl ?_
      refine n_aload_n (n := 0) (by decide +kernel) rfl ?_
      refine n_getF (q := 9) G fl_RX5_11 hp0 (by decide +kernel) (by decide +kernel) (by decide +kernel) (fun hp3q => ?_)
      refine n_iconst (n := 0) (v := 0) (by decide +kernel) rfl ?_
      refine n_aload_n (n := 0) (by decide +kernel) rfl ?_
      refine n_getF (q := 10) G fl_RX5_15 hp0 (by decide +kernel) (by decide +kernel) (by decide +kernel) (fun hp4q => ?_)
      refine n_iload_n (n := 2) (by decide +kernel) rfl ?_
      refine n_sipush (n := 7860) (v := 7860) (by decide +kernel) (by decide +kernel) ?_
      obtain ⟨M5, h5, hr⟩ := bso hr
      refine n_copy G h5 ml_RX5_39 ac_nat ac_sta ac_ini hp4q (by decide +kernel) (by decide +kernel) hp3q (by decide +kernel) (by decide +kernel) (by decide) (Nat.le_of_ble_eq_true rfl) (by decide +kernel) ?_
      refine n_aload_n (n := 1) (by decide +kernel) rfl ?_
      refine n_aload_n (n := 0) (by decide +kernel) rfl ?_
      refine n_getF (q := 10) G fl_RX5_15 hp0 (by decide +kernel) (by decide +kernel) (by decide +kernel) (fun hp6q => ?_)
      refine n_iload_n (n := 2) (by decide +kernel) rfl ?_
      refine n_sipush (n := 7860) (v := 7860) (by decide +kernel) (by decide +kernel) ?_
      refine n_iadd (by decide +kernel) ?_
      obtain ⟨M7, h7, hr⟩ := bso hr
      refine n_callVv G [_, _] (M1 := M7) (B_X8_writeTo G hp1 hs1 hp6q (by decide +kernel) h7) (by decide) mX8_writeTo ml_RX5_32 hp1 hs1 rfl rfl (Nat.le_of_ble_eq_true rfl) (by decide +kernel) ?_
      refine n_aload_n (n := 0) (by decide +kernel) rfl ?_
      refine n_getF (q := 11) G fl_RX5_18 hp0 (by decide +kernel) (by decide +kernel) (by decide +kernel) (fun hp8q => ?_)
      refine n_aload_n (n := 0) (by decide +kernel) rfl ?_
      refine n_getI G fl_RX5_25 hp0 (by decide +kernel) (by decide +kernel) ?_
      refine n_aload_n (n := 0) (by decide +kernel) rfl ?_
      refine n_getI G fl_RX5_21 hp0 (by decide +kernel) (by decide +kernel) ?_
      obtain ⟨M9, h9, hr⟩ := bso hr
      refine n_iast G h9 hp8q (by decide +kernel) (by decide +kernel) (by decide +kernel) ?_
      refine n_aload_n (n := 0) (by decide +kernel) rfl ?_
      refine n_dup rfl (by decide +kernel) ?_
      refine n_getI G fl_RX5_25 hp0 (by decide +kernel) (by decide +kernel) ?_
      refine n_iconst (n := 1) (v := 1) (by decide +kernel) rfl ?_
      refine n_iadd (by decide +kernel) ?_
      refine n_putI G fl_RX5_25 hp0 (by decide +kernel) (by decide +kernel) ?_
      refine n_iconst (n := 1) (v := 1) (by decide +kernel) rfl ?_
      cases hr
      exact n_ireturn (by decide +kernel)
    · rw [if_neg hc2] at hr
      refine n_iconst (n := 0) (v := 0) (by decide +kernel) rfl ?_
      cases hr
      exact n_ireturn (by decide +kernel)
set_option maxRecDepth 100000 in
theorem B_X5_takeBackImage (G : GG l s0 b L xs D cy ad)  {a1 : Nat} {M : Mm} {r : Mm} (hp0 : P 8) (hp1 : P a1) (hs1 : SH a1 = 8) (hr : f_X5_takeBackImage a1 M = some r) : Cl l s0 D cy ad P 10 KX5_takeBackImage [.ref 8, .ref a1] M (.inl none) (r) := by
  refine cl_ofN (by decide +kernel) rfl rfl rfl (lo0 := [_, _, .null]) rfl ?_
  unfold f_X5_takeBackImage at hr
  refine n_aload_n (n := 0) (by decide +kernel) rfl ?_
  refine n_getI G fl_RX5_25 hp0 (by decide +kernel) (by decide +kernel) ?_
  refine n_if_le (off := 11) (tgt := 15) (by decide +kernel) (by decide) (fun hc1 => ?_) (fun hc1 => ?_)
  · rw [if_pos hc1] at hr
    cases hr
    exact n_return (by decide +kernel)
  · rw [if_neg hc1] at hr
    refine n_aload_n (n := 0) (by decide +kernel) rfl ?_
    refine n_getI G fl_RX5_25 hp0 (by decide +kernel) (by decide +kernel) ?_
    refine n_iconst (n := 3) (v := 3) (by decide +kernel) rfl ?_
    refine n_icmp_le (off := 4) (tgt := 16) (by decide +kernel) (by decide) (fun hc2 => ?_) (fun hc2 => ?_)
    · rw [if_pos hc2] at hr
      refine n_aload_n (n := 0) (by decide +kernel) rfl ?_
      refine n_dup rfl (by decide +kernel) ?_
      refine n_getI G fl_RX5_25 hp0 (by decide +kernel) (by decide +kernel) ?_
      refine n_iconst (n := 1) (v := 1) (by decide +kernel) rfl ?_
      refine n_isub (by decide +kernel) ?_
      refine n_putI G fl_RX5_25 hp0 (by decide +kernel) (by decide +kernel) ?_
      refine n_aload_n (n := 0) (by decide +kernel) rfl ?_
      refine n_getI G fl_RX5_25 hp0 (by decide +kernel) (by decide +kernel) ?_
      refine n_sipush (n := 8253) (v := 8253) (by decide +kernel) (by decide +kernel) ?_
      refine n_imul (by decide +kernel) ?_
      refine n_istore_n (n := 2) (lo2 := [_, _, _]) (by decide +kernel) (Nat.le_of_ble_eq_true rfl) rfl ?_
      refine n_aload_n (n := 0) (by decide +kernel) rfl ?_
      refine n_getF (q := 10) G fl_RX5_15 hp0 (by decide +kernel) (by decide +kernel) (by decide +kernel) (fun hp3q => ?_)
      refine n_iload_n (n := 2) (by decide +kernel) rfl ?_
      refine n_aload_n (n := 0) (by decide +kernel) rfl ?_
      refine n_getF (q := 9) G fl_RX5_11 hp0 (by decide +kernel) (by decide +kernel) (by decide +kernel) (fun hp4q => ?_)
      refine n_iconst (n := 0) (v := 0) (by decide +kernel) rfl ?_
      refine n_sipush (n := 7860) (v := 7860) (by decide +kernel) (by decide +kernel) ?_
      obtain ⟨M5, h5, hr⟩ := bso hr
      refine n_copy G h5 ml_RX5_39 ac_nat ac_sta ac_ini hp4q (by decide +kernel) (by decide +kernel) hp3q (by decide +kernel) (by decide +kernel) (by decide) (Nat.le_of_ble_eq_true rfl) (by decide +kernel) ?_
      refine n_aload_n (n := 1) (by decide +kernel) rfl ?_
      refine n_aload_n (n := 0) (by decide +kernel) rfl ?_
      refine n_getF (q := 10) G fl_RX5_15 hp0 (by decide +kernel) (by decide +kernel) (by decide +kernel) (fun hp6q => ?_)
      refine n_iload_n (n := 2) (by decide +kernel) rfl ?_
      refine n_sipush (n := 7860) (v := 7860) (by decide +kernel) (by decide +kernel) ?_
      refine n_iadd (by decide +kernel) ?_
      obtain ⟨M7, h7, hr⟩ := bso hr
      refine n_callVv G [_, _] (M1 := M7) (B_X8_readFrom G hp1 hs1 hp6q (by decide +kernel) h7) (by decide) mX8_readFrom ml_RX5_36 hp1 hs1 rfl rfl (Nat.le_of_ble_eq_true rfl) (by decide +kernel) ?_
      refine n_aload_n (n := 0) (by decide +kernel) rfl ?_
      refine n_aload_n (n := 0) (by decide +kernel) rfl ?_
      refine n_getF (q := 11) G fl_RX5_18 hp0 (by decide +kernel) (by decide +kernel) (by decide +kernel) (fun hp8q => ?_)
      refine n_aload_n (n := 0) (by decide +kernel) rfl ?_
      refine n_getI G fl_RX5_25 hp0 (by decide +kernel) (by decide +kernel) ?_
      obtain ⟨v9, h9, hr⟩ := bso hr
      refine n_iald G h9 hp8q (by decide +kernel) (by decide +kernel) (by decide +kernel) ?_
      refine n_putI G fl_RX5_21 hp0 (by decide +kernel) (by decide +kernel) ?_
      cases hr
      exact n_return (by decide +kernel)
    · rw [if_neg hc2] at hr
      cases hr
      exact n_return (by decide +kernel)
set_option maxRecDepth 100000 in
theorem B_X6_put (G : GG l s0 b L xs D cy ad)  {x1 : Int32} {x2 : Int32} {M : Mm} {r : Mm} (hp0 : P 3) (hr : f_X6_put x1 x2 M = some r) : Cl l s0 D cy ad P 9 KX6_put [.ref 3, .int x1, .int x2] M (.inl none) (r) := by
  refine cl_ofN (by decide +kernel) rfl rfl rfl (lo0 := [_, _, _]) rfl ?_
  unfold f_X6_put at hr
  refine n_aload_n (n := 0) (by decide +kernel) rfl ?_
  refine n_getI G fl_RX6_24 hp0 (by decide +kernel) (by decide +kernel) ?_
  refine n_sipush (n := 200) (v := 200) (by decide +kernel) (by decide +kernel) ?_
  refine n_icmp_ge (off := 33) (tgt := 40) (by decide +kernel) (by decide) (fun hc1 => ?_) (fun hc1 => ?_)
  · rw [if_pos hc1] at hr
    cases hr
    exact n_return (by decide +kernel)
  · rw [if_neg hc1] at hr
    refine n_aload_n (n := 0) (by decide +kernel) rfl ?_
    refine n_getF (q := 4) G fl_RX6_11 hp0 (by decide +kernel) (by decide +kernel) (by decide +kernel) (fun hp2q => ?_)
    refine n_aload_n (n := 0) (by decide +kernel) rfl ?_
    refine n_getI G fl_RX6_24 hp0 (by decide +kernel) (by decide +kernel) ?_
    refine n_iload_n (n := 1) (by decide +kernel) rfl ?_
    obtain ⟨M3, h3, hr⟩ := bso hr
    refine n_iast G h3 hp2q (by decide +kernel) (by decide +kernel) (by decide +kernel) ?_
    refine n_aload_n (n := 0) (by decide +kernel) rfl ?_
    refine n_getF (q := 5) G fl_RX6_15 hp0 (by decide +kernel) (by decide +kernel) (by decide +kernel) (fun hp4q => ?_)
    refine n_aload_n (n := 0) (by decide +kernel) rfl ?_
    refine n_getI G fl_RX6_24 hp0 (by decide +kernel) (by decide +kernel) ?_
    refine n_iload_n (n := 2) (by decide +kernel) rfl ?_
    obtain ⟨M5, h5, hr⟩ := bso hr
    refine n_iast G h5 hp4q (by decide +kernel) (by decide +kernel) (by decide +kernel) ?_
    refine n_aload_n (n := 0) (by decide +kernel) rfl ?_
    refine n_dup rfl (by decide +kernel) ?_
    refine n_getI G fl_RX6_24 hp0 (by decide +kernel) (by decide +kernel) ?_
    refine n_iconst (n := 1) (v := 1) (by decide +kernel) rfl ?_
    refine n_iadd (by decide +kernel) ?_
    refine n_putI G fl_RX6_24 hp0 (by decide +kernel) (by decide +kernel) ?_
    cases hr
    exact n_return (by decide +kernel)
abbrev P_X6_readSteps_b15 (l : Launch) (s0 : State) (D : va_G) (cy : Nat → ClassId) (ad : Nat → Nat) (P : Nat → Prop) (n : Nat) (a2 : Nat) (x3 : Int32) (x4 : Int32)  (res : Rs) (M' : Mm) (s : (Int32 × Mm)) : Prop := Rn l s0 D cy ad P (12 + (n + 1)) KX6_readSteps 15 [.ref 3, .ref 1, .ref a2, .int x3, .int x4, .int (s.1)] [] (s.2) res M'
abbrev Q_X6_readSteps_b15 (l : Launch) (s0 : State) (D : va_G) (cy : Nat → ClassId) (ad : Nat → Nat) (P : Nat → Prop) (n : Nat) (a2 : Nat) (x3 : Int32) (x4 : Int32)  (res : Rs) (M' : Mm) (e : Mm) : Prop := Rn l s0 D cy ad P (12 + (n + 1)) KX6_readSteps 58 [.null, .null, .null, .null, .null, .null] [] (e) res M'
set_option maxRecDepth 100000 in
theorem B_X6_readSteps_b15 (G : GG l s0 b L xs D cy ad) {n : Nat} {rec : Nat → Nat → Int32 → Mm → Option Mm} {a2 : Nat} {x3 : Int32} {x4 : Int32}  {res : Rs} {M' : Mm} (hrec0 : ∀ (a2 : Nat) (x3 : Int32) (M r : Mm) (hp0 : P 3) (hp1 : P 1) (hp2 : P a2) (hs2 : SH a2 = 3), rec 0 a2 x3 M = some r → Cl l s0 D cy ad P (12 + n) KX6_readSteps [.ref 3, .ref 1, .ref a2, .int x3] M (.inl none) r) (hrec1 : ∀ (a2 : Nat) (x3 : Int32) (M r : Mm) (hp0 : P 3) (hp1 : P 1) (hp2 : P a2) (hs2 : SH a2 = 3), rec 1 a2 x3 M = some r → Cl l s0 D cy ad P (12 + n) KX6_readStep [.ref 3, .ref 1, .ref a2, .int x3] M (.inl none) r) (hrec2 : ∀ (a2 : Nat) (x3 : Int32) (M r : Mm) (hp0 : P 3) (hp1 : P 1) (hp2 : P a2) (hs2 : SH a2 = 3), rec 2 a2 x3 M = some r → Cl l s0 D cy ad P (12 + n) KX6_readAgain [.ref 3, .ref 1, .ref a2, .int x3] M (.inl none) r) (hp0 : P 3) (hp1 : P 1) (hp2 : P a2) (hs2 : SH a2 = 3) : ∀ (s : (Int32 × Mm)) (r : (Int32 × Mm) ⊕ Mm), f_X6_readSteps_b15 rec a2 x3 x4 s = some r → mtc (P_X6_readSteps_b15 l s0 D cy ad P n a2 x3 x4 res M') (Q_X6_readSteps_b15 l s0 D cy ad P n a2 x3 x4 res M') r → P_X6_readSteps_b15 l s0 D cy ad P n a2 x3 x4 res M' s := by
  intro s r hr hk
  obtain ⟨x5, M⟩ := s
  unfold f_X6_readSteps_b15 at hr
  try dsimp only at hr
  dsimp only [P_X6_readSteps_b15]
  refine n_iload (n := 5) (by decide +kernel) rfl ?_
  refine n_sipush (n := 200) (v := 200) (by decide +kernel) (by decide +kernel) ?_
  refine n_icmp_ge (off := 38) (tgt := 58) (by decide +kernel) (by decide) (fun hc2 => ?_) (fun hc2 => ?_)
  · rw [if_pos hc2] at hr
    cases hr
    refine n_msk [false, false, false, false, false, false] (lo2 := [.null, .null, .null, .null, .null, .null]) rfl rfl ?_
    exact hk
  · rw [if_neg hc2] at hr
    refine n_aload_n (n := 1) (by decide +kernel) rfl ?_
    obtain ⟨v3, h3, hr⟩ := bso hr
    refine n_callVi G [] (x := v3) (B_X7_isFine G hp1 h3) (by omega) mX7_isFine ml_RX6_34 hp1 (by decide +kernel) rfl rfl (Nat.le_of_ble_eq_true rfl) (by decide +kernel) ?_
    refine n_if_eq (off := 31) (tgt := 58) (by decide +kernel) (by decide) (fun hc4 => ?_) (fun hc4 => ?_)
    · rw [if_pos hc4] at hr
      cases hr
      refine n_msk [false, false, false, false, false, false] (lo2 := [.null, .null, .null, .null, .null, .null]) rfl rfl ?_
      exact hk
    · rw [if_neg hc4] at hr
      refine n_aload_n (n := 1) (by decide +kernel) rfl ?_
      obtain ⟨⟨v5, M5⟩, h5, hr⟩ := bso hr
      try dsimp only at hr
      refine n_callVi G [] (x := v5) (M1 := M5) (B_X7_next G hp1 h5) (by omega) mX7_next ml_RX6_38 hp1 (by decide +kernel) rfl rfl (Nat.le_of_ble_eq_true rfl) (by decide +kernel) ?_
      refine n_iload (n := 4) (by decide +kernel) rfl ?_
      refine n_icmp_eq (off := 22) (tgt := 58) (by decide +kernel) (by decide) (fun hc6 => ?_) (fun hc6 => ?_)
      · rw [if_pos hc6] at hr
        cases hr
        refine n_msk [false, false, false, false, false, false] (lo2 := [.null, .null, .null, .null, .null, .null]) rfl rfl ?_
        exact hk
      · rw [if_neg hc6] at hr
        refine n_aload_n (n := 0) (by decide +kernel) rfl ?_
        refine n_aload_n (n := 1) (by decide +kernel) rfl ?_
        refine n_aload_n (n := 2) (by decide +kernel) rfl ?_
        refine n_iload_n (n := 3) (by decide +kernel) rfl ?_
        obtain ⟨M7, h7, hr⟩ := bso hr
        refine n_callVv G [_, _, _] (M1 := M7) (hrec1 _ _ _ _ hp0 hp1 hp2 hs2 h7) (by omega) mX6_readStep ml_RX6_42 hp0 (by decide +kernel) rfl rfl (Nat.le_of_ble_eq_true rfl) (by decide +kernel) ?_
        refine n_aload_n (n := 1) (by decide +kernel) rfl ?_
        refine n_bipush (n := 59) (v := 59) (by decide +kernel) rfl ?_
        obtain ⟨M8, h8, hr⟩ := bso hr
        refine n_callVv G [_] (M1 := M8) (B_X7_readSign G hp1 h8) (by omega) mX7_readSign ml_RX6_45 hp1 (by decide +kernel) rfl rfl (Nat.le_of_ble_eq_true rfl) (by decide +kernel) ?_
        refine n_iincK (n := 5) (j := 1) (w := 1) (lo2 := [_, _, _, _, _, _]) (by decide +kernel) rfl rfl rfl ?_
        refine n_goto (off := -40) (tgt := 15) (by decide +kernel) (by decide) ?_
        cases hr
        exact hk
set_option maxRecDepth 100000 in
theorem W_X6_readSteps_b15 (G : GG l s0 b L xs D cy ad) {n : Nat} {rec : Nat → Nat → Int32 → Mm → Option Mm} {a2 : Nat} {x3 : Int32} {x4 : Int32}  (hrec0 : ∀ (a2 : Nat) (x3 : Int32) (M r : Mm) (hp0 : P 3) (hp1 : P 1) (hp2 : P a2) (hs2 : SH a2 = 3), rec 0 a2 x3 M = some r → Cl l s0 D cy ad P (12 + n) KX6_readSteps [.ref 3, .ref 1, .ref a2, .int x3] M (.inl none) r) (hrec1 : ∀ (a2 : Nat) (x3 : Int32) (M r : Mm) (hp0 : P 3) (hp1 : P 1) (hp2 : P a2) (hs2 : SH a2 = 3), rec 1 a2 x3 M = some r → Cl l s0 D cy ad P (12 + n) KX6_readStep [.ref 3, .ref 1, .ref a2, .int x3] M (.inl none) r) (hrec2 : ∀ (a2 : Nat) (x3 : Int32) (M r : Mm) (hp0 : P 3) (hp1 : P 1) (hp2 : P a2) (hs2 : SH a2 = 3), rec 2 a2 x3 M = some r → Cl l s0 D cy ad P (12 + n) KX6_readAgain [.ref 3, .ref 1, .ref a2, .int x3] M (.inl none) r) (hp0 : P 3) (hp1 : P 1) (hp2 : P a2) (hs2 : SH a2 = 3) {s : (Int32 × Mm)} {e : Mm} (h : whl fu (f_X6_readSteps_b15 rec a2 x3 x4) s = some e) (res : Rs) (M' : Mm) : Q_X6_readSteps_b15 l s0 D cy ad P n a2 x3 x4 res M' e → P_X6_readSteps_b15 l s0 D cy ad P n a2 x3 x4 res M' s := whl_run (P := fun s => P_X6_readSteps_b15 l s0 D cy ad P n a2 x3 x4 res M' s) (Q := fun e => Q_X6_readSteps_b15 l s0 D cy ad P n a2 x3 x4 res M' e) (B_X6_readSteps_b15 G (res := res) (M' := M') (n := n) (rec := rec) (a2 := a2) (x3 := x3) (x4 := x4) hrec0 hrec1 hrec2 hp0 hp1 hp2 hs2) fu s h
set_option maxRecDepth 100000 in
theorem Bb_X6_readSteps (G : GG l s0 b L xs D cy ad) {n : Nat} {rec : Nat → Nat → Int32 → Mm → Option Mm} {a2 : Nat} {x3 : Int32} {M : Mm} {r : Mm} (hrec0 : ∀ (a2 : Nat) (x3 : Int32) (M r : Mm) (hp0 : P 3) (hp1 : P 1) (hp2 : P a2) (hs2 : SH a2 = 3), rec 0 a2 x3 M = some r → Cl l s0 D cy ad P (12 + n) KX6_readSteps [.ref 3, .ref 1, .ref a2, .int x3] M (.inl none) r) (hrec1 : ∀ (a2 : Nat) (x3 : Int32) (M r : Mm) (hp0 : P 3) (hp1 : P 1) (hp2 : P a2) (hs2 : SH a2 = 3), rec 1 a2 x3 M = some r → Cl l s0 D cy ad P (12 + n) KX6_readStep [.ref 3, .ref 1, .ref a2, .int x3] M (.inl none) r) (hrec2 : ∀ (a2 : Nat) (x3 : Int32) (M r : Mm) (hp0 : P 3) (hp1 : P 1) (hp2 : P a2) (hs2 : SH a2 = 3), rec 2 a2 x3 M = some r → Cl l s0 D cy ad P (12 + n) KX6_readAgain [.ref 3, .ref 1, .ref a2, .int x3] M (.inl none) r) (hp0 : P 3) (hp1 : P 1) (hp2 : P a2) (hs2 : SH a2 = 3) (hr : fb_X6_readSteps rec a2 x3 M = some r) : Cl l s0 D cy ad P (12 + (n + 1)) KX6_readSteps [.ref 3, .ref 1, .ref a2, .int x3] M (.inl none) (r) := by
  refine cl_ofN (by decide +kernel) rfl rfl rfl (lo0 := [_, _, _, _, .null, .null]) rfl ?_
  unfold fb_X6_readSteps at hr
  refine n_iload_n (n := 3) (by decide +kernel) rfl ?_
  refine n_dia1 (J := 10) (c := x3 = 0) (a := (-1 : Int32)) (b := (93 : Int32)) (fun hJ => ?_) ?_
  · refine n_if_ne (off := 7) (tgt := 8) (by decide +kernel) (by decide) (fun hc1 => ?_) (fun hc1 => ?_)
    · refine n_bipush (n := 93) (v := 93) (by decide +kernel) rfl ?_
      exact hJ _ (if_neg hc1).symm
    · refine n_iconst (n := -1) (v := -1) (by decide +kernel) rfl ?_
      refine n_goto (off := 5) (tgt := 10) (by decide +kernel) (by decide) ?_
      exact hJ _ (if_pos hc1).symm
  refine n_istore (n := 4) (lo2 := [_, _, _, _, _, _]) (by decide +kernel) (Nat.le_of_ble_eq_true rfl) rfl ?_
  refine n_iconst (n := 0) (v := 0) (by decide +kernel) rfl ?_
  refine n_istore (n := 5) (lo2 := [_, _, _, _, _, _]) (by decide +kernel) (Nat.le_of_ble_eq_true rfl) rfl ?_
  obtain ⟨M9, h9, hr⟩ := bso hr
  refine (W_X6_readSteps_b15 G hrec0 hrec1 hrec2 hp0 hp1 hp2 hs2 h9 _ _) ?_
  dsimp only [Q_X6_readSteps_b15]
  cases hr
  exact n_return (by decide +kernel)
set_option maxRecDepth 100000 in
theorem B_X6_readStep_j42 (G : GG l s0 b L xs D cy ad) {n : Nat} {rec : Nat → Nat → Int32 → Mm → Option Mm} {a2 : Nat} {x4 : Int32} {M : Mm} {r : Mm} (hrec0 : ∀ (a2 : Nat) (x3 : Int32) (M r : Mm) (hp0 : P 3) (hp1 : P 1) (hp2 : P a2) (hs2 : SH a2 = 3), rec 0 a2 x3 M = some r → Cl l s0 D cy ad P (12 + n) KX6_readSteps [.ref 3, .ref 1, .ref a2, .int x3] M (.inl none) r) (hrec1 : ∀ (a2 : Nat) (x3 : Int32) (M r : Mm) (hp0 : P 3) (hp1 : P 1) (hp2 : P a2) (hs2 : SH a2 = 3), rec 1 a2 x3 M = some r → Cl l s0 D cy ad P (12 + n) KX6_readStep [.ref 3, .ref 1, .ref a2, .int x3] M (.inl none) r) (hrec2 : ∀ (a2 : Nat) (x3 : Int32) (M r : Mm) (hp0 : P 3) (hp1 : P 1) (hp2 : P a2) (hs2 : SH a2 = 3), rec 2 a2 x3 M = some r → Cl l s0 D cy ad P (12 + n) KX6_readAgain [.ref 3, .ref 1, .ref a2, .int x3] M (.inl none) r) (hp0 : P 3) (hp1 : P 1) (hp2 : P a2) (hs2 : SH a2 = 3) (hr : f_X6_readStep_j42 rec a2 x4 M = some r) : Rn l s0 D cy ad P (12 + (n + 1)) KX6_readStep 42 [.ref 3, .ref 1, .ref a2, .null, .int x4] [] M (.inl none) (r) := by
  unfold f_X6_readStep_j42 at hr
  refine n_aload_n (n := 0) (by decide +kernel) rfl ?_
  refine n_iload (n := 4) (by decide +kernel) rfl ?_
  refine n_aload_n (n := 2) (by decide +kernel) rfl ?_
  refine n_aload_n (n := 1) (by decide +kernel) rfl ?_
  obtain ⟨⟨v4, M4⟩, h4, hr⟩ := bso hr
  try dsimp only at hr
  refine n_callVi G [_] (x := v4) (M1 := M4) (B_X3_readCell G hp2 hs2 hp1 h4) (by omega) mX3_readCell ml_RX6_58 hp2 hs2 rfl rfl (Nat.le_of_ble_eq_true rfl) (by decide +kernel) ?_
  obtain ⟨M5, h5, hr⟩ := bso hr
  refine n_callVv G [_, _] (M1 := M5) (B_X6_put G hp0 h5) (by omega) mX6_put ml_RX6_64 hp0 (by decide +kernel) rfl rfl (Nat.le_of_ble_eq_true rfl) (by decide +kernel) ?_
  refine n_goto (off := 10) (tgt := 63) (by decide +kernel) (by decide) ?_
  cases hr
  exact n_return (by decide +kernel)
set_option maxRecDepth 100000 in
theorem Bb_X6_readStep (G : GG l s0 b L xs D cy ad) {n : Nat} {rec : Nat → Nat → Int32 → Mm → Option Mm} {a2 : Nat} {x3 : Int32} {M : Mm} {r : Mm} (hrec0 : ∀ (a2 : Nat) (x3 : Int32) (M r : Mm) (hp0 : P 3) (hp1 : P 1) (hp2 : P a2) (hs2 : SH a2 = 3), rec 0 a2 x3 M = some r → Cl l s0 D cy ad P (12 + n) KX6_readSteps [.ref 3, .ref 1, .ref a2, .int x3] M (.inl none) r) (hrec1 : ∀ (a2 : Nat) (x3 : Int32) (M r : Mm) (hp0 : P 3) (hp1 : P 1) (hp2 : P a2) (hs2 : SH a2 = 3), rec 1 a2 x3 M = some r → Cl l s0 D cy ad P (12 + n) KX6_readStep [.ref 3, .ref 1, .ref a2, .int x3] M (.inl none) r) (hrec2 : ∀ (a2 : Nat) (x3 : Int32) (M r : Mm) (hp0 : P 3) (hp1 : P 1) (hp2 : P a2) (hs2 : SH a2 = 3), rec 2 a2 x3 M = some r → Cl l s0 D cy ad P (12 + n) KX6_readAgain [.ref 3, .ref 1, .ref a2, .int x3] M (.inl none) r) (hp0 : P 3) (hp1 : P 1) (hp2 : P a2) (hs2 : SH a2 = 3) (hr : fb_X6_readStep rec a2 x3 M = some r) : Cl l s0 D cy ad P (12 + (n + 1)) KX6_readStep [.ref 3, .ref 1, .ref a2, .int x3] M (.inl none) (r) := by
  refine cl_ofN (by decide +kernel) rfl rfl rfl (lo0 := [_, _, _, _, .null]) rfl ?_
  unfold fb_X6_readStep at hr
  refine n_aload_n (n := 1) (by decide +kernel) rfl ?_
  refine n_ldcS G si_RX6_49 (by decide +kernel) ?_
  obtain ⟨⟨v1, M1⟩, h1, hr⟩ := bso hr
  try dsimp only at hr
  refine n_callVi G [_] (x := v1) (M1 := M1) (B_X7_readWord G hp1 (by decide) h1) (by omega) mX7_readWord ml_RX6_51 hp1 (by decide +kernel) rfl rfl (Nat.le_of_ble_eq_true rfl) (by decide +kernel) ?_
  refine n_istore (n := 4) (lo2 := [_, _, _, _, _]) (by decide +kernel) (Nat.le_of_ble_eq_true rfl) rfl ?_
  refine n_iload (n := 4) (by decide +kernel) rfl ?_
  refine n_bipush (n := 7) (v := 7) (by decide +kernel) rfl ?_
  refine n_icmp_ne (off := 13) (tgt := 25) (by decide +kernel) (by decide) (fun hc2 => ?_) (fun hc2 => ?_)
  · rw [if_neg hc2] at hr
    refine n_iload (n := 4) (by decide +kernel) rfl ?_
    refine n_if_eq (off := 15) (tgt := 42) (by decide +kernel) (by decide) (fun hc3 => ?_) (fun hc3 => ?_)
    · rw [if_pos hc3] at hr
      refine n_msk [true, true, true, false, true] (lo2 := [_, _, _, .null, _]) rfl rfl ?_
      exact B_X6_readStep_j42 G hrec0 hrec1 hrec2 hp0 hp1 hp2 hs2 hr
    · rw [if_neg hc3] at hr
      refine n_iload (n := 4) (by decide +kernel) rfl ?_
      refine n_iconst (n := 1) (v := 1) (by decide +kernel) rfl ?_
      refine n_icmp_eq (off := 9) (tgt := 42) (by decide +kernel) (by decide) (fun hc6 => ?_) (fun hc6 => ?_)
      · rw [if_pos hc6] at hr
        refine n_msk [true, true, true, false, true] (lo2 := [_, _, _, .null, _]) rfl rfl ?_
        exact B_X6_readStep_j42 G hrec0 hrec1 hrec2 hp0 hp1 hp2 hs2 hr
      · rw [if_neg hc6] at hr
        refine n_iload (n := 4) (by decide +kernel) rfl ?_
        refine n_iconst (n := 5) (v := 5) (by decide +kernel) rfl ?_
        refine n_icmp_ne (off := 17) (tgt := 56) (by decide +kernel) (by decide) (fun hc7 => ?_) (fun hc7 => ?_)
        · rw [if_neg hc7] at hr
          refine n_aload_n (n := 0) (by decide +kernel) rfl ?_
          refine n_iload (n := 4) (by decide +kernel) rfl ?_
          refine n_iconst (n := 0) (v := 0) (by decide +kernel) rfl ?_
          obtain ⟨M8, h8, hr⟩ := bso hr
          refine n_callVv G [_, _] (M1 := M8) (B_X6_put G hp0 h8) (by omega) mX6_put ml_RX6_64 hp0 (by decide +kernel) rfl rfl (Nat.le_of_ble_eq_true rfl) (by decide +kernel) ?_
          cases hr
          exact n_return (by decide +kernel)
        · rw [if_pos hc7] at hr
          refine n_msk [true, true, true, false, true] (lo2 := [_, _, _, .null, _]) rfl rfl ?_
          exact B_X6_readStep_j42 G hrec0 hrec1 hrec2 hp0 hp1 hp2 hs2 hr
  · rw [if_pos hc2] at hr
    refine n_aload_n (n := 0) (by decide +kernel) rfl ?_
    refine n_aload_n (n := 1) (by decide +kernel) rfl ?_
    refine n_aload_n (n := 2) (by decide +kernel) rfl ?_
    refine n_iload_n (n := 3) (by decide +kernel) rfl ?_
    obtain ⟨M9, h9, hr⟩ := bso hr
    refine n_callVv G [_, _, _] (M1 := M9) (hrec2 _ _ _ _ hp0 hp1 hp2 hs2 h9) (by omega) mX6_readAgain ml_RX6_55 hp0 (by decide +kernel) rfl rfl (Nat.le_of_ble_eq_true rfl) (by decide +kernel) ?_
    refine n_goto (off := 41) (tgt := 63) (by decide +kernel) (by decide) ?_
    cases hr
    exact n_return (by decide +kernel)
set_option maxRecDepth 100000 in
theorem Bb_X6_readAgain (G : GG l s0 b L xs D cy ad) {n : Nat} {rec : Nat → Nat → Int32 → Mm → Option Mm} {a2 : Nat} {x3 : Int32} {M : Mm} {r : Mm} (hrec0 : ∀ (a2 : Nat) (x3 : Int32) (M r : Mm) (hp0 : P 3) (hp1 : P 1) (hp2 : P a2) (hs2 : SH a2 = 3), rec 0 a2 x3 M = some r → Cl l s0 D cy ad P (12 + n) KX6_readSteps [.ref 3, .ref 1, .ref a2, .int x3] M (.inl none) r) (hrec1 : ∀ (a2 : Nat) (x3 : Int32) (M r : Mm) (hp0 : P 3) (hp1 : P 1) (hp2 : P a2) (hs2 : SH a2 = 3), rec 1 a2 x3 M = some r → Cl l s0 D cy ad P (12 + n) KX6_readStep [.ref 3, .ref 1, .ref a2, .int x3] M (.inl none) r) (hrec2 : ∀ (a2 : Nat) (x3 : Int32) (M r : Mm) (hp0 : P 3) (hp1 : P 1) (hp2 : P a2) (hs2 : SH a2 = 3), rec 2 a2 x3 M = some r → Cl l s0 D cy ad P (12 + n) KX6_readAgain [.ref 3, .ref 1, .ref a2, .int x3] M (.inl none) r) (hp0 : P 3) (hp1 : P 1) (hp2 : P a2) (hs2 : SH a2 = 3) (hr : fb_X6_readAgain rec a2 x3 M = some r) : Cl l s0 D cy ad P (12 + (n + 1)) KX6_readAgain [.ref 3, .ref 1, .ref a2, .int x3] M (.inl none) (r) := by
  refine cl_ofN (by decide +kernel) rfl rfl rfl (lo0 := [_, _, _, _, .null]) rfl ?_
  unfold fb_X6_readAgain at hr
  refine n_iload_n (n := 3) (by decide +kernel) rfl ?_
  refine n_bipush (n := 6) (v := 6) (by decide +kernel) rfl ?_
  refine n_icmp_lt (off := 13) (tgt := 16) (by decide +kernel) (by decide) (fun hc1 => ?_) (fun hc1 => ?_)
  · rw [if_pos hc1] at hr
    refine n_aload_n (n := 0) (by decide +kernel) rfl ?_
    refine n_getI G fl_RX6_24 hp0 (by decide +kernel) (by decide +kernel) ?_
    refine n_istore (n := 4) (lo2 := [_, _, _, _, _]) (by decide +kernel) (Nat.le_of_ble_eq_true rfl) rfl ?_
    refine n_aload_n (n := 0) (by decide +kernel) rfl ?_
    refine n_bipush (n := 7) (v := 7) (by decide +kernel) rfl ?_
    refine n_aload_n (n := 1) (by decide +kernel) rfl ?_
    refine n_iconst (n := 0) (v := 0) (by decide +kernel) rfl ?_
    refine n_bipush (n := 20) (v := 20) (by decide +kernel) rfl ?_
    obtain ⟨⟨v2, M2⟩, h2, hr⟩ := bso hr
    try dsimp only at hr
    refine n_callVi G [_, _] (x := v2) (M1 := M2) (B_X7_readNumber G hp1 h2) (by omega) mX7_readNumber ml_RX6_74 hp1 (by decide +kernel) rfl rfl (Nat.le_of_ble_eq_true rfl) (by decide +kernel) ?_
    obtain ⟨M3, h3, hr⟩ := bso hr
    refine n_callVv G [_, _] (M1 := M3) (B_X6_put G hp0 h3) (by omega) mX6_put ml_RX6_64 hp0 (by decide +kernel) rfl rfl (Nat.le_of_ble_eq_true rfl) (by decide +kernel) ?_
    refine n_aload_n (n := 1) (by decide +kernel) rfl ?_
    refine n_bipush (n := 91) (v := 91) (by decide +kernel) rfl ?_
    obtain ⟨M4, h4, hr⟩ := bso hr
    refine n_callVv G [_] (M1 := M4) (B_X7_readSign G hp1 h4) (by omega) mX7_readSign ml_RX6_45 hp1 (by decide +kernel) rfl rfl (Nat.le_of_ble_eq_true rfl) (by decide +kernel) ?_
    refine n_aload_n (n := 0) (by decide +kernel) rfl ?_
    refine n_aload_n (n := 1) (by decide +kernel) rfl ?_
    refine n_aload_n (n := 2) (by decide +kernel) rfl ?_
    refine n_iload_n (n := 3) (by decide +kernel) rfl ?_
    refine n_iconst (n := 1) (v := 1) (by decide +kernel) rfl ?_
    refine n_iadd (by decide +kernel) ?_
    obtain ⟨M5, h5, hr⟩ := bso hr
    refine n_callVv G [_, _, _] (M1 := M5) (hrec0 _ _ _ _ hp0 hp1 hp2 hs2 h5) (by omega) mX6_readSteps ml_RX6_28 hp0 (by decide +kernel) rfl rfl (Nat.le_of_ble_eq_true rfl) (by decide +kernel) ?_
    refine n_aload_n (n := 1) (by decide +kernel) rfl ?_
    refine n_bipush (n := 93) (v := 93) (by decide +kernel) rfl ?_
    obtain ⟨M6, h6, hr⟩ := bso hr
    refine n_callVv G [_] (M1 := M6) (B_X7_readSign G hp1 h6) (by omega) mX7_readSign ml_RX6_45 hp1 (by decide +kernel) rfl rfl (Nat.le_of_ble_eq_true rfl) (by decide +kernel) ?_
    refine n_iload (n := 4) (by decide +kernel) rfl ?_
    refine n_sipush (n := 200) (v := 200) (by decide +kernel) (by decide +kernel) ?_
    refine n_icmp_ge (off := 14) (tgt := 75) (by decide +kernel) (by decide) (fun hc7 => ?_) (fun hc7 => ?_)
    · rw [if_pos hc7] at hr
      refine n_aload_n (n := 0) (by decide +kernel) rfl ?_
      refine n_bipush (n := 8) (v := 8) (by decide +kernel) rfl ?_
      refine n_iload (n := 4) (by decide +kernel) rfl ?_
      obtain ⟨M8, h8, hr⟩ := bso hr
      refine n_callVv G [_, _] (M1 := M8) (B_X6_put G hp0 h8) (by omega) mX6_put ml_RX6_64 hp0 (by decide +kernel) rfl rfl (Nat.le_of_ble_eq_true rfl) (by decide +kernel) ?_
      cases hr
      exact n_return (by decide +kernel)
    · rw [if_neg hc7] at hr
      refine n_aload_n (n := 0) (by decide +kernel) rfl ?_
      refine n_getF (q := 6) G fl_RX6_18 hp0 (by decide +kernel) (by decide +kernel) (by decide +kernel) (fun hp9q => ?_)
      refine n_iload (n := 4) (by decide +kernel) rfl ?_
      refine n_aload_n (n := 0) (by decide +kernel) rfl ?_
      refine n_getI G fl_RX6_24 hp0 (by decide +kernel) (by decide +kernel) ?_
      obtain ⟨M10, h10, hr⟩ := bso hr
      refine n_iast G h10 hp9q (by decide +kernel) (by decide +kernel) (by decide +kernel) ?_
      refine n_aload_n (n := 0) (by decide +kernel) rfl ?_
      refine n_bipush (n := 8) (v := 8) (by decide +kernel) rfl ?_
      refine n_iload (n := 4) (by decide +kernel) rfl ?_
      obtain ⟨M11, h11, hr⟩ := bso hr
      refine n_callVv G [_, _] (M1 := M11) (B_X6_put G hp0 h11) (by omega) mX6_put ml_RX6_64 hp0 (by decide +kernel) rfl rfl (Nat.le_of_ble_eq_true rfl) (by decide +kernel) ?_
      cases hr
      exact n_return (by decide +kernel)
  · rw [if_neg hc1] at hr
    refine n_aload_n (n := 1) (by decide +kernel) rfl ?_
    refine n_iconst (n := 3) (v := 3) (by decide +kernel) rfl ?_
    refine n_aload_n (n := 1) (by decide +kernel) rfl ?_
    refine n_getI G fl_RX6_68 hp1 (by decide +kernel) (by decide +kernel) ?_
    obtain ⟨M12, h12, hr⟩ := bso hr
    refine n_callVv G [_, _] (M1 := M12) (B_X7_fail G hp1 h12) (by omega) mX7_fail ml_RX6_71 hp1 (by decide +kernel) rfl rfl (Nat.le_of_ble_eq_true rfl) (by decide +kernel) ?_
    cases hr
    exact n_return (by decide +kernel)
set_option maxRecDepth 100000 in
theorem BR_X6_readSteps (G : GG l s0 b L xs D cy ad) : ∀ n : Nat, (∀ (a2 : Nat) (x3 : Int32) (M r : Mm) (hp0 : P 3) (hp1 : P 1) (hp2 : P a2) (hs2 : SH a2 = 3), R_X6_readSteps n 0 a2 x3 M = some r → Cl l s0 D cy ad P (12 + n) KX6_readSteps [.ref 3, .ref 1, .ref a2, .int x3] M (.inl none) r) ∧ (∀ (a2 : Nat) (x3 : Int32) (M r : Mm) (hp0 : P 3) (hp1 : P 1) (hp2 : P a2) (hs2 : SH a2 = 3), R_X6_readSteps n 1 a2 x3 M = some r → Cl l s0 D cy ad P (12 + n) KX6_readStep [.ref 3, .ref 1, .ref a2, .int x3] M (.inl none) r) ∧ (∀ (a2 : Nat) (x3 : Int32) (M r : Mm) (hp0 : P 3) (hp1 : P 1) (hp2 : P a2) (hs2 : SH a2 = 3), R_X6_readSteps n 2 a2 x3 M = some r → Cl l s0 D cy ad P (12 + n) KX6_readAgain [.ref 3, .ref 1, .ref a2, .int x3] M (.inl none) r) := by
  intro n
  induction n with
  | zero => exact ⟨fun _ _ _ _ _ _ _ _ h => (nomatch h), fun _ _ _ _ _ _ _ _ h => (nomatch h), fun _ _ _ _ _ _ _ _ h => (nomatch h)⟩
  | succ n ih =>
    obtain ⟨ih0, ih1, ih2⟩ := ih
    exact ⟨fun _ _ _ _ hp0 hp1 hp2 hs2 h => Bb_X6_readSteps G ih0 ih1 ih2 hp0 hp1 hp2 hs2 h, fun _ _ _ _ hp0 hp1 hp2 hs2 h => Bb_X6_readStep G ih0 ih1 ih2 hp0 hp1 hp2 hs2 h, fun _ _ _ _ hp0 hp1 hp2 hs2 h => Bb_X6_readAgain G ih0 ih1 ih2 hp0 hp1 hp2 hs2 h⟩
set_option maxRecDepth 100000 in
theorem B_X6_readSteps (G : GG l s0 b L xs D cy ad) {a2 : Nat} {x3 : Int32} {M r : Mm} (hp0 : P 3) (hp1 : P 1) (hp2 : P a2) (hs2 : SH a2 = 3) (hr : f_X6_readSteps a2 x3 M = some r) : Cl l s0 D cy ad P 72 KX6_readSteps [.ref 3, .ref 1, .ref a2, .int x3] M (.inl none) r := (BR_X6_readSteps G 60).1 _ _ _ _ hp0 hp1 hp2 hs2 hr
set_option maxRecDepth 100000 in
theorem B_X6_readStep (G : GG l s0 b L xs D cy ad) {a2 : Nat} {x3 : Int32} {M r : Mm} (hp0 : P 3) (hp1 : P 1) (hp2 : P a2) (hs2 : SH a2 = 3) (hr : f_X6_readStep a2 x3 M = some r) : Cl l s0 D cy ad P 72 KX6_readStep [.ref 3, .ref 1, .ref a2, .int x3] M (.inl none) r := (BR_X6_readSteps G 60).2.1 _ _ _ _ hp0 hp1 hp2 hs2 hr
set_option maxRecDepth 100000 in
theorem B_X6_readAgain (G : GG l s0 b L xs D cy ad) {a2 : Nat} {x3 : Int32} {M r : Mm} (hp0 : P 3) (hp1 : P 1) (hp2 : P a2) (hs2 : SH a2 = 3) (hr : f_X6_readAgain a2 x3 M = some r) : Cl l s0 D cy ad P 72 KX6_readAgain [.ref 3, .ref 1, .ref a2, .int x3] M (.inl none) r := (BR_X6_readSteps G 60).2.2 _ _ _ _ hp0 hp1 hp2 hs2 hr
set_option maxRecDepth 100000 in
theorem B_X6_readWork (G : GG l s0 b L xs D cy ad)  {a2 : Nat} {M : Mm} {r : Mm} (hp0 : P 3) (hp1 : P 1) (hp2 : P a2) (hs2 : SH a2 = 3) (hr : f_X6_readWork a2 M = some r) : Cl l s0 D cy ad P 73 KX6_readWork [.ref 3, .ref 1, .ref a2] M (.inl none) (r) := by
  refine cl_ofN (by decide +kernel) rfl rfl rfl (lo0 := [_, _, _]) rfl ?_
  unfold f_X6_readWork at hr
  refine n_aload_n (n := 0) (by decide +kernel) rfl ?_
  refine n_iconst (n := 0) (v := 0) (by decide +kernel) rfl ?_
  refine n_putI G fl_RX6_24 hp0 (by decide +kernel) (by decide +kernel) ?_
  refine n_aload_n (n := 0) (by decide +kernel) rfl ?_
  refine n_aload_n (n := 1) (by decide +kernel) rfl ?_
  refine n_aload_n (n := 2) (by decide +kernel) rfl ?_
  refine n_iconst (n := 0) (v := 0) (by decide +kernel) rfl ?_
  obtain ⟨M1, h1, hr⟩ := bso hr
  refine n_callVv G [_, _, _] (M1 := M1) (B_X6_readSteps G hp0 hp1 hp2 hs2 h1) (by decide) mX6_readSteps ml_RX6_28 hp0 (by decide +kernel) rfl rfl (Nat.le_of_ble_eq_true rfl) (by decide +kernel) ?_
  cases hr
  exact n_return (by decide +kernel)
set_option maxRecDepth 100000 in
theorem B_X6_endLoop (G : GG l s0 b L xs D cy ad)  {x1 : Int32} {M : Mm} {r : (Int32 × Mm)} (hp0 : P 3) (hr : f_X6_endLoop x1 M = some r) : Cl l s0 D cy ad P 9 KX6_endLoop [.ref 3, .int x1] M (.inl (some (.int r.1))) (r.2) := by
  refine cl_ofN (by decide +kernel) rfl rfl okI (lo0 := [_, _, .null]) rfl ?_
  unfold f_X6_endLoop at hr
  refine n_aload_n (n := 0) (by decide +kernel) rfl ?_
  refine n_getF (q := 5) G fl_RX6_15 hp0 (by decide +kernel) (by decide +kernel) (by decide +kernel) (fun hp1q => ?_)
  refine n_iload_n (n := 1) (by decide +kernel) rfl ?_
  obtain ⟨v2, h2, hr⟩ := bso hr
  refine n_iald G h2 hp1q (by decide +kernel) (by decide +kernel) (by decide +kernel) ?_
  refine n_istore_n (n := 2) (lo2 := [_, _, _]) (by decide +kernel) (Nat.le_of_ble_eq_true rfl) rfl ?_
  refine n_iload_n (n := 2) (by decide +kernel) rfl ?_
  refine n_if_lt (off := 8) (tgt := 16) (by decide +kernel) (by decide) (fun hc3 => ?_) (fun hc3 => ?_)
  · rw [if_pos hc3] at hr
    refine n_iload_n (n := 1) (by decide +kernel) rfl ?_
    refine n_iconst (n := 1) (v := 1) (by decide +kernel) rfl ?_
    refine n_iadd (by decide +kernel) ?_
    cases hr
    exact n_ireturn (by decide +kernel)
  · rw [if_neg hc3] at hr
    refine n_iload_n (n := 2) (by decide +kernel) rfl ?_
    refine n_iload_n (n := 1) (by decide +kernel) rfl ?_
    refine n_icmp_lt (off := 7) (tgt := 20) (by decide +kernel) (by decide) (fun hc4 => ?_) (fun hc4 => ?_)
    · rw [if_pos hc4] at hr
      refine n_aload_n (n := 0) (by decide +kernel) rfl ?_
      refine n_getF (q := 7) G fl_RX6_21 hp0 (by decide +kernel) (by decide +kernel) (by decide +kernel) (fun hp5q => ?_)
      refine n_iload_n (n := 2) (by decide +kernel) rfl ?_
      refine n_dup2 rfl rfl (by decide +kernel) ?_
      obtain ⟨v6, h6, hr⟩ := bso hr
      refine n_iald G h6 hp5q (by decide +kernel) (by decide +kernel) (by decide +kernel) ?_
      refine n_iconst (n := 1) (v := 1) (by decide +kernel) rfl ?_
      refine n_isub (by decide +kernel) ?_
      obtain ⟨M7, h7, hr⟩ := bso hr
      refine n_iast G h7 hp5q (by decide +kernel) (by decide +kernel) (by decide +kernel) ?_
      refine n_aload_n (n := 0) (by decide +kernel) rfl ?_
      refine n_getF (q := 7) G fl_RX6_21 hp0 (by decide +kernel) (by decide +kernel) (by decide +kernel) (fun hp8q => ?_)
      refine n_iload_n (n := 2) (by decide +kernel) rfl ?_
      obtain ⟨v9, h9, hr⟩ := bso hr
      refine n_iald G h9 hp8q (by decide +kernel) (by decide +kernel) (by decide +kernel) ?_
      refine n_dia1 (J := 48) (c := v9 ≤ 0) (a := (x1 + (1 : Int32))) (b := (v2 + (1 : Int32))) (fun hJ => ?_) ?_
      · refine n_if_le (off := 9) (tgt := 45) (by decide +kernel) (by decide) (fun hc10 => ?_) (fun hc10 => ?_)
        · refine n_iload_n (n := 1) (by decide +kernel) rfl ?_
          refine n_iconst (n := 1) (v := 1) (by decide +kernel) rfl ?_
          refine n_iadd (by decide +kernel) ?_
          exact hJ _ (if_pos hc10).symm
        · refine n_iload_n (n := 2) (by decide +kernel) rfl ?_
          refine n_iconst (n := 1) (v := 1) (by decide +kernel) rfl ?_
          refine n_iadd (by decide +kernel) ?_
          refine n_goto (off := 6) (tgt := 48) (by decide +kernel) (by decide) ?_
          exact hJ _ (if_neg hc10).symm
      cases hr
      exact n_ireturn (by decide +kernel)
    · rw [if_neg hc4] at hr
      refine n_iload_n (n := 1) (by decide +kernel) rfl ?_
      refine n_iconst (n := 1) (v := 1) (by decide +kernel) rfl ?_
      refine n_iadd (by decide +kernel) ?_
      cases hr
      exact n_ireturn (by decide +kernel)
set_option maxRecDepth 100000 in
theorem B_X6_beginLoop (G : GG l s0 b L xs D cy ad)  {x1 : Int32} {M : Mm} {r : (Int32 × Mm)} (hp0 : P 3) (hr : f_X6_beginLoop x1 M = some r) : Cl l s0 D cy ad P 9 KX6_beginLoop [.ref 3, .int x1] M (.inl (some (.int r.1))) (r.2) := by
  refine cl_ofN (by decide +kernel) rfl rfl okI (lo0 := [_, _]) rfl ?_
  unfold f_X6_beginLoop at hr
  refine n_aload_n (n := 0) (by decide +kernel) rfl ?_
  refine n_getF (q := 7) G fl_RX6_21 hp0 (by decide +kernel) (by decide +kernel) (by decide +kernel) (fun hp1q => ?_)
  refine n_iload_n (n := 1) (by decide +kernel) rfl ?_
  refine n_aload_n (n := 0) (by decide +kernel) rfl ?_
  refine n_getF (q := 5) G fl_RX6_15 hp0 (by decide +kernel) (by decide +kernel) (by decide +kernel) (fun hp2q => ?_)
  refine n_iload_n (n := 1) (by decide +kernel) rfl ?_
  obtain ⟨v3, h3, hr⟩ := bso hr
  refine n_iald G h3 hp2q (by decide +kernel) (by decide +kernel) (by decide +kernel) ?_
  obtain ⟨M4, h4, hr⟩ := bso hr
  refine n_iast G h4 hp1q (by decide +kernel) (by decide +kernel) (by decide +kernel) ?_
  refine n_aload_n (n := 0) (by decide +kernel) rfl ?_
  refine n_getF (q := 5) G fl_RX6_15 hp0 (by decide +kernel) (by decide +kernel) (by decide +kernel) (fun hp5q => ?_)
  refine n_iload_n (n := 1) (by decide +kernel) rfl ?_
  obtain ⟨v6, h6, hr⟩ := bso hr
  refine n_iald G h6 hp5q (by decide +kernel) (by decide +kernel) (by decide +kernel) ?_
  refine n_if_ne (off := 14) (tgt := 32) (by decide +kernel) (by decide) (fun hc7 => ?_) (fun hc7 => ?_)
  · rw [if_neg hc7] at hr
    refine n_iload_n (n := 1) (by decide +kernel) rfl ?_
    refine n_iconst (n := 1) (v := 1) (by decide +kernel) rfl ?_
    refine n_iadd (by decide +kernel) ?_
    cases hr
    exact n_ireturn (by decide +kernel)
  · rw [if_pos hc7] at hr
    refine n_aload_n (n := 0) (by decide +kernel) rfl ?_
    refine n_getF (q := 6) G fl_RX6_18 hp0 (by decide +kernel) (by decide +kernel) (by decide +kernel) (fun hp8q => ?_)
    refine n_iload_n (n := 1) (by decide +kernel) rfl ?_
    obtain ⟨v9, h9, hr⟩ := bso hr
    refine n_iald G h9 hp8q (by decide +kernel) (by decide +kernel) (by decide +kernel) ?_
    refine n_iconst (n := 1) (v := 1) (by decide +kernel) rfl ?_
    refine n_iadd (by decide +kernel) ?_
    refine n_goto (off := 6) (tgt := 35) (by decide +kernel) (by decide) ?_
    cases hr
    exact n_ireturn (by decide +kernel)
set_option maxRecDepth 100000 in
theorem B_X8_driveTo (G : GG l s0 b L xs D cy ad)  {a0 : Nat} {a1 : Nat} {x2 : Int32} {M : Mm} {r : (Int32 × Mm)} (hp0 : P a0) (hs0 : SH a0 = 8) (hp1 : P a1) (hs1 : SH a1 = 3) (hr : f_X8_driveTo a0 a1 x2 M = some r) : Cl l s0 D cy ad P 11 KX8_driveTo [.ref a0, .ref a1, .int x2] M (.inl (some (.int r.1))) (r.2) := by
  unfold f_X8_driveTo at hr
  obtain ⟨⟨v0, M0⟩, h0, h1⟩ := bso hr
  clear hr
  obtain ⟨v1, h2, h3⟩ := bso h1
  obtain ⟨hb, rfl⟩ := rB_in h2
  cases h3
  have hr := h0
  clear h0
  refine cl_ofN (by decide +kernel) rfl rfl (okB hb) (lo0 := [_, _, _]) rfl ?_
  unfold g_X8_driveTo at hr
  refine n_iload_n (n := 2) (by decide +kernel) rfl ?_
  refine n_aload_n (n := 0) (by decide +kernel) rfl ?_
  refine n_getI G fl_RX8_49 hp0 hs0 (by decide +kernel) ?_
  refine n_icmp_ne (off := 5) (tgt := 10) (by decide +kernel) (by decide) (fun hc1 => ?_) (fun hc1 => ?_)
  · rw [if_neg hc1] at hr
    refine n_aload_n (n := 0) (by decide +kernel) rfl ?_
    refine n_dup rfl (by decide +kernel) ?_
    refine n_getI G fl_RX8_55 hp0 hs0 (by decide +kernel) ?_
    refine n_aload_n (n := 1) (by decide +kernel) rfl ?_
    refine n_getI G fl_RX8_104 hp1 hs1 (by decide +kernel) ?_
    refine n_aload_n (n := 1) (by decide +kernel) rfl ?_
    refine n_getI G fl_RX8_109 hp1 hs1 (by decide +kernel) ?_
    refine n_aload_n (n := 0) (by decide +kernel) rfl ?_
    refine n_getI G fl_RX8_49 hp0 hs0 (by decide +kernel) ?_
    refine n_iload_n (n := 2) (by decide +kernel) rfl ?_
    obtain ⟨v2, h2, hr⟩ := bso hr
    refine n_callSNi G [_, _] (x := v2) (B_X9_far G  h2) (by decide) mX9_far ml_RX8_100 rfl rfl (Nat.le_of_ble_eq_true rfl) (by decide +kernel) ?_
    refine n_imul (by decide +kernel) ?_
    refine n_iadd (by decide +kernel) ?_
    refine n_iadd (by decide +kernel) ?_
    refine n_putI G fl_RX8_55 hp0 hs0 (by decide +kernel) ?_
    refine n_aload_n (n := 0) (by decide +kernel) rfl ?_
    refine n_iload_n (n := 2) (by decide +kernel) rfl ?_
    refine n_putI G fl_RX8_49 hp0 hs0 (by decide +kernel) ?_
    refine n_iconst (n := 1) (v := 1) (by decide +kernel) rfl ?_
    cases hr
    exact n_ireturn (by decide +kernel)
  · rw [if_pos hc1] at hr
    refine n_iconst (n := 0) (v := 0) (by decide +kernel) rfl ?_
    cases hr
    exact n_ireturn (by decide +kernel)
abbrev P_X8_liftable_b12 (l : Launch) (s0 : State) (D : va_G) (cy : Nat → ClassId) (ad : Nat → Nat) (P : Nat → Prop) (a0 : Nat) (a1 : Nat) (x2 : Int32) (x3 : Int32) (M : Mm) (res : Rs) (M' : Mm) (s : (Int64 × Int32 × Int32)) : Prop := Rn l s0 D cy ad P 12 KX8_liftable 12 [.ref a0, .ref a1, .int x2, .int x3, .long (s.1), .null, .int (s.2.1), .int (s.2.2), .null] [] M res M'
abbrev Q_X8_liftable_b12 (l : Launch) (s0 : State) (D : va_G) (cy : Nat → ClassId) (ad : Nat → Nat) (P : Nat → Prop) (a0 : Nat) (a1 : Nat) (x2 : Int32) (x3 : Int32) (M : Mm) (res : Rs) (M' : Mm) (e : Int64) : Prop := Rn l s0 D cy ad P 12 KX8_liftable 91 [.null, .null, .null, .null, .long (e), .null, .null, .null, .null] [] M res M'
set_option maxRecDepth 100000 in
theorem B_X8_liftable_b12 (G : GG l s0 b L xs D cy ad) {a0 : Nat} {a1 : Nat} {x2 : Int32} {x3 : Int32} {M : Mm} {res : Rs} {M' : Mm} (hp0 : P a0) (hs0 : SH a0 = 8) (hp1 : P a1) (hs1 : SH a1 = 3) : ∀ (s : (Int64 × Int32 × Int32)) (r : (Int64 × Int32 × Int32) ⊕ Int64), f_X8_liftable_b12 a0 a1 x2 x3 M s = some r → mtc (P_X8_liftable_b12 l s0 D cy ad P a0 a1 x2 x3 M res M') (Q_X8_liftable_b12 l s0 D cy ad P a0 a1 x2 x3 M res M') r → P_X8_liftable_b12 l s0 D cy ad P a0 a1 x2 x3 M res M' s := by
  intro s r hr hk
  obtain ⟨y4, x6, x7⟩ := s
  unfold f_X8_liftable_b12 at hr
  try dsimp only at hr
  dsimp only [P_X8_liftable_b12]
  refine n_iload (n := 7) (by decide +kernel) rfl ?_
  refine n_aload_n (n := 0) (by decide +kernel) rfl ?_
  refine n_getI G fl_RX8_43 hp0 hs0 (by decide +kernel) ?_
  refine n_icmp_ge (off := 73) (tgt := 91) (by decide +kernel) (by decide) (fun hc1 => ?_) (fun hc1 => ?_)
  · rw [if_pos hc1] at hr
    cases hr
    refine n_msk [false, false, false, false, true, false, false, false, false] (lo2 := [.null, .null, .null, .null, _, .null, .null, .null, .null]) rfl rfl ?_
    exact hk
  · rw [if_neg hc1] at hr
    refine n_aload_n (n := 0) (by decide +kernel) rfl ?_
    refine n_iload (n := 7) (by decide +kernel) rfl ?_
    obtain ⟨v2, h2, hr⟩ := bso hr
    refine n_callVi G [_] (x := v2) (B_X8_sizeOf G hp0 hs0 h2) (by decide) mX8_sizeOf ml_RX8_93 hp0 hs0 rfl rfl (Nat.le_of_ble_eq_true rfl) (by decide +kernel) ?_
    refine n_istore (n := 8) (lo2 := [_, _, _, _, _, _, _, _, _]) (by decide +kernel) (Nat.le_of_ble_eq_true rfl) rfl ?_
    refine n_aload_n (n := 0) (by decide +kernel) rfl ?_
    refine n_iload (n := 7) (by decide +kernel) rfl ?_
    refine n_iload_n (n := 2) (by decide +kernel) rfl ?_
    obtain ⟨v3, h3, hr⟩ := bso hr
    refine n_callVi G [_, _] (x := v3) (B_X8_liesIn G hp0 hs0 h3) (by decide) mX8_liesIn ml_RX8_96 hp0 hs0 rfl rfl (Nat.le_of_ble_eq_true rfl) (by decide +kernel) ?_
    refine n_if_eq (off := 49) (tgt := 85) (by decide +kernel) (by decide) (fun hc4 => ?_) (fun hc4 => ?_)
    · rw [if_pos hc4] at hr
      refine n_iincK (n := 7) (j := 1) (w := 1) (lo2 := [_, _, _, _, _, _, _, _, _]) (by decide +kernel) rfl rfl rfl ?_
      refine n_goto (off := -76) (tgt := 12) (by decide +kernel) (by decide) ?_
      cases hr
      refine n_msk [true, true, true, true, true, false, true, true, false] (lo2 := [_, _, _, _, _, .null, _, _, .null]) rfl rfl ?_
      exact hk
    · rw [if_neg hc4] at hr
      refine n_iload (n := 8) (by decide +kernel) rfl ?_
      refine n_aload_n (n := 1) (by decide +kernel) rfl ?_
      refine n_getI G fl_RX8_112 hp1 hs1 (by decide +kernel) ?_
      refine n_dia2 (J := 53) (c := v2 ≤ (mi M a1 6)) (a := (0 : Int32)) (b := (1 : Int32)) (fun hJ => ?_) ?_
      · refine n_icmp_le (off := 7) (tgt := 52) (by decide +kernel) (by decide) (fun hc5 => ?_) (fun hc5 => ?_)
        · refine n_iconst (n := 0) (v := 0) (by decide +kernel) rfl ?_
          exact hJ _ (if_pos hc5).symm
        · refine n_iconst (n := 1) (v := 1) (by decide +kernel) rfl ?_
          refine n_goto (off := 4) (tgt := 53) (by decide +kernel) (by decide) ?_
          exact hJ _ (if_neg hc5).symm
      refine n_iload_n (n := 3) (by decide +kernel) rfl ?_
      refine n_icmp_ne (off := 31) (tgt := 85) (by decide +kernel) (by decide) (fun hc6 => ?_) (fun hc6 => ?_)
      · rw [if_neg hc6] at hr
        refine n_iincK (n := 7) (j := 1) (w := 1) (lo2 := [_, _, _, _, _, _, _, _, _]) (by decide +kernel) rfl rfl rfl ?_
        refine n_goto (off := -76) (tgt := 12) (by decide +kernel) (by decide) ?_
        cases hr
        refine n_msk [true, true, true, true, true, false, true, true, false] (lo2 := [_, _, _, _, _, .null, _, _, .null]) rfl rfl ?_
        exact hk
      · rw [if_pos hc6] at hr
        refine n_iload (n := 6) (by decide +kernel) rfl ?_
        refine n_iload (n := 8) (by decide +kernel) rfl ?_
        refine n_iadd (by decide +kernel) ?_
        refine n_aload_n (n := 1) (by decide +kernel) rfl ?_
        refine n_getI G fl_RX8_115 hp1 hs1 (by decide +kernel) ?_
        refine n_icmp_gt (off := 19) (tgt := 85) (by decide +kernel) (by decide) (fun hc7 => ?_) (fun hc7 => ?_)
        · rw [if_pos hc7] at hr
          refine n_iincK (n := 7) (j := 1) (w := 1) (lo2 := [_, _, _, _, _, _, _, _, _]) (by decide +kernel) rfl rfl rfl ?_
          refine n_goto (off := -76) (tgt := 12) (by decide +kernel) (by decide) ?_
          cases hr
          refine n_msk [true, true, true, true, true, false, true, true, false] (lo2 := [_, _, _, _, _, .null, _, _, .null]) rfl rfl ?_
          exact hk
        · rw [if_neg hc7] at hr
          refine n_lload (n := 4) (by decide +kernel) rfl ?_
          refine n_lconst (n := 1) (v := 1) (by decide +kernel) rfl ?_
          refine n_iload (n := 7) (by decide +kernel) rfl ?_
          refine n_lshl (by decide +kernel) ?_
          refine n_lor (by decide +kernel) ?_
          refine n_lstore (n := 4) (lo2 := [_, _, _, _, _, _, _, _, _]) (by decide +kernel) (Nat.le_of_ble_eq_true rfl) rfl ?_
          refine n_iload (n := 6) (by decide +kernel) rfl ?_
          refine n_iload (n := 8) (by decide +kernel) rfl ?_
          refine n_iadd (by decide +kernel) ?_
          refine n_istore (n := 6) (lo2 := [_, _, _, _, _, _, _, _, _]) (by decide +kernel) (Nat.le_of_ble_eq_true rfl) rfl ?_
          refine n_iincK (n := 7) (j := 1) (w := 1) (lo2 := [_, _, _, _, _, _, _, _, _]) (by decide +kernel) rfl rfl rfl ?_
          refine n_goto (off := -76) (tgt := 12) (by decide +kernel) (by decide) ?_
          cases hr
          refine n_msk [true, true, true, true, true, false, true, true, false] (lo2 := [_, _, _, _, _, .null, _, _, .null]) rfl rfl ?_
          exact hk
set_option maxRecDepth 100000 in
theorem W_X8_liftable_b12 (G : GG l s0 b L xs D cy ad) {a0 : Nat} {a1 : Nat} {x2 : Int32} {x3 : Int32} {M : Mm} (hp0 : P a0) (hs0 : SH a0 = 8) (hp1 : P a1) (hs1 : SH a1 = 3) {s : (Int64 × Int32 × Int32)} {e : Int64} (h : whl fu (f_X8_liftable_b12 a0 a1 x2 x3 M) s = some e) (res : Rs) (M' : Mm) : Q_X8_liftable_b12 l s0 D cy ad P a0 a1 x2 x3 M res M' e → P_X8_liftable_b12 l s0 D cy ad P a0 a1 x2 x3 M res M' s := whl_run (P := fun s => P_X8_liftable_b12 l s0 D cy ad P a0 a1 x2 x3 M res M' s) (Q := fun e => Q_X8_liftable_b12 l s0 D cy ad P a0 a1 x2 x3 M res M' e) (B_X8_liftable_b12 G (res := res) (M' := M') (a0 := a0) (a1 := a1) (x2 := x2) (x3 := x3) (M := M) hp0 hs0 hp1 hs1) fu s h
set_option maxRecDepth 100000 in
theorem B_X8_liftable (G : GG l s0 b L xs D cy ad)  {a0 : Nat} {a1 : Nat} {x2 : Int32} {x3 : Int32} {M : Mm} {r : Int64} (hp0 : P a0) (hs0 : SH a0 = 8) (hp1 : P a1) (hs1 : SH a1 = 3) (hr : f_X8_liftable a0 a1 x2 x3 M = some r) : Cl l s0 D cy ad P 12 KX8_liftable [.ref a0, .ref a1, .int x2, .int x3] M (.inl (some (.long r))) (M) := by
  refine cl_ofN (by decide +kernel) rfl rfl rfl (lo0 := [_, _, _, _, .null, .null, .null, .null, .null]) rfl ?_
  unfold f_X8_liftable at hr
  refine n_lconst (n := 0) (v := 0) (by decide +kernel) rfl ?_
  refine n_lstore (n := 4) (lo2 := [_, _, _, _, _, _, _, _, _]) (by decide +kernel) (Nat.le_of_ble_eq_true rfl) rfl ?_
  refine n_aload_n (n := 0) (by decide +kernel) rfl ?_
  refine n_getI G fl_RX8_52 hp0 hs0 (by decide +kernel) ?_
  refine n_istore (n := 6) (lo2 := [_, _, _, _, _, _, _, _, _]) (by decide +kernel) (Nat.le_of_ble_eq_true rfl) rfl ?_
  refine n_iconst (n := 0) (v := 0) (by decide +kernel) rfl ?_
  refine n_istore (n := 7) (lo2 := [_, _, _, _, _, _, _, _, _]) (by decide +kernel) (Nat.le_of_ble_eq_true rfl) rfl ?_
  obtain ⟨w4_8, h8, hr⟩ := bso hr
  refine (W_X8_liftable_b12 G hp0 hs0 hp1 hs1 h8 _ _) ?_
  dsimp only [Q_X8_liftable_b12]
  refine n_lload (n := 4) (by decide +kernel) rfl ?_
  cases hr
  exact n_lreturn (by decide +kernel)
set_option maxRecDepth 100000 in
theorem B_J13_bitCount_95d88 (G : GG l s0 b L xs D cy ad)  {y0 : Int64} {M : Mm} {r : Int32}  (hr : f_J13_bitCount_95d88 y0 M = some r) : Cl l s0 D cy ad P 9 KJ13_bitCount_95d88 [.long y0] M (.inl (some (.int r))) (M) := by
  refine cl_ofN (by decide +kernel) rfl rfl okI (lo0 := [_, .null]) rfl ?_
  unfold f_J13_bitCount_95d88 at hr
  refine n_lload_n (n := 0) (by decide +kernel) rfl ?_
  refine n_lload_n (n := 0) (by decide +kernel) rfl ?_
  refine n_iconst (n := 1) (v := 1) (by decide +kernel) rfl ?_
  refine n_lushr (by decide +kernel) ?_
  refine n_ldc2 G ct_RJ13_314 (by decide +kernel) ?_
  refine n_land (by decide +kernel) ?_
  refine n_lsub (by decide +kernel) ?_
  refine n_lstore_n (n := 0) (lo2 := [_, _]) (by decide +kernel) (Nat.le_of_ble_eq_true rfl) rfl ?_
  refine n_lload_n (n := 0) (by decide +kernel) rfl ?_
  refine n_ldc2 G ct_RJ13_316 (by decide +kernel) ?_
  refine n_land (by decide +kernel) ?_
  refine n_lload_n (n := 0) (by decide +kernel) rfl ?_
  refine n_iconst (n := 2) (v := 2) (by decide +kernel) rfl ?_
  refine n_lushr (by decide +kernel) ?_
  refine n_ldc2 G ct_RJ13_316 (by decide +kernel) ?_
  refine n_land (by decide +kernel) ?_
  refine n_ladd (by decide +kernel) ?_
  refine n_lstore_n (n := 0) (lo2 := [_, _]) (by decide +kernel) (Nat.le_of_ble_eq_true rfl) rfl ?_
  refine n_lload_n (n := 0) (by decide +kernel) rfl ?_
  refine n_lload_n (n := 0) (by decide +kernel) rfl ?_
  refine n_iconst (n := 4) (v := 4) (by decide +kernel) rfl ?_
  refine n_lushr (by decide +kernel) ?_
  refine n_ladd (by decide +kernel) ?_
  refine n_ldc2 G ct_RJ13_318 (by decide +kernel) ?_
  refine n_land (by decide +kernel) ?_
  refine n_lstore_n (n := 0) (lo2 := [_, _]) (by decide +kernel) (Nat.le_of_ble_eq_true rfl) rfl ?_
  refine n_lload_n (n := 0) (by decide +kernel) rfl ?_
  refine n_lload_n (n := 0) (by decide +kernel) rfl ?_
  refine n_bipush (n := 8) (v := 8) (by decide +kernel) rfl ?_
  refine n_lushr (by decide +kernel) ?_
  refine n_ladd (by decide +kernel) ?_
  refine n_lstore_n (n := 0) (lo2 := [_, _]) (by decide +kernel) (Nat.le_of_ble_eq_true rfl) rfl ?_
  refine n_lload_n (n := 0) (by decide +kernel) rfl ?_
  refine n_lload_n (n := 0) (by decide +kernel) rfl ?_
  refine n_bipush (n := 16) (v := 16) (by decide +kernel) rfl ?_
  refine n_lushr (by decide +kernel) ?_
  refine n_ladd (by decide +kernel) ?_
  refine n_lstore_n (n := 0) (lo2 := [_, _]) (by decide +kernel) (Nat.le_of_ble_eq_true rfl) rfl ?_
  refine n_lload_n (n := 0) (by decide +kernel) rfl ?_
  refine n_lload_n (n := 0) (by decide +kernel) rfl ?_
  refine n_bipush (n := 32) (v := 32) (by decide +kernel) rfl ?_
  refine n_lushr (by decide +kernel) ?_
  refine n_ladd (by decide +kernel) ?_
  refine n_lstore_n (n := 0) (lo2 := [_, _]) (by decide +kernel) (Nat.le_of_ble_eq_true rfl) rfl ?_
  refine n_lload_n (n := 0) (by decide +kernel) rfl ?_
  refine n_l2i (by decide +kernel) ?_
  refine n_bipush (n := 127) (v := 127) (by decide +kernel) rfl ?_
  refine n_iand (by decide +kernel) ?_
  cases hr
  exact n_ireturn (by decide +kernel)
set_option maxRecDepth 100000 in
theorem B_X8_holds (G : GG l s0 b L xs D cy ad)  {y0 : Int64} {x2 : Int32} {M : Mm} {r : Int32}  (hr : f_X8_holds y0 x2 M = some r) : Cl l s0 D cy ad P 9 KX8_holds [.long y0, .int x2] M (.inl (some (.int r))) (M) := by
  unfold f_X8_holds at hr
  obtain ⟨v0, h0, h1⟩ := bso hr
  clear hr
  obtain ⟨hb, rfl⟩ := rB_in h1
  have hr := h0
  clear h0
  refine cl_ofN (by decide +kernel) rfl rfl (okB hb) (lo0 := [_, .null, _]) rfl ?_
  unfold g_X8_holds at hr
  refine n_lload_n (n := 0) (by decide +kernel) rfl ?_
  refine n_iload_n (n := 2) (by decide +kernel) rfl ?_
  refine n_lshr (by decide +kernel) ?_
  refine n_lconst (n := 1) (v := 1) (by decide +kernel) rfl ?_
  refine n_land (by decide +kernel) ?_
  refine n_lconst (n := 0) (v := 0) (by decide +kernel) rfl ?_
  refine n_lcmp (by decide +kernel) ?_
  refine n_dia1 (J := 15) (c := (lg_cmp ((y0 >>> (x2.toInt64 &&& 63)) &&& (1 : Int64)) (0 : Int64)) = 0) (a := (0 : Int32)) (b := (1 : Int32)) (fun hJ => ?_) ?_
  · refine n_if_eq (off := 7) (tgt := 14) (by decide +kernel) (by decide) (fun hc1 => ?_) (fun hc1 => ?_)
    · refine n_iconst (n := 0) (v := 0) (by decide +kernel) rfl ?_
      exact hJ _ (if_pos hc1).symm
    · refine n_iconst (n := 1) (v := 1) (by decide +kernel) rfl ?_
      refine n_goto (off := 4) (tgt := 15) (by decide +kernel) (by decide) ?_
      exact hJ _ (if_neg hc1).symm
  cases hr
  exact n_ireturn (by decide +kernel)
abbrev P_X8_sizesOf_b5 (l : Launch) (s0 : State) (D : va_G) (cy : Nat → ClassId) (ad : Nat → Nat) (P : Nat → Prop) (a0 : Nat) (y1 : Int64) (M : Mm) (res : Rs) (M' : Mm) (s : (Int32 × Int32)) : Prop := Rn l s0 D cy ad P 11 KX8_sizesOf 5 [.ref a0, .long y1, .null, .int (s.1), .int (s.2)] [] M res M'
abbrev Q_X8_sizesOf_b5 (l : Launch) (s0 : State) (D : va_G) (cy : Nat → ClassId) (ad : Nat → Nat) (P : Nat → Prop) (a0 : Nat) (y1 : Int64) (M : Mm) (res : Rs) (M' : Mm) (e : Int32) : Prop := Rn l s0 D cy ad P 11 KX8_sizesOf 42 [.null, .null, .null, .int (e), .null] [] M res M'
set_option maxRecDepth 100000 in
theorem B_X8_sizesOf_b5 (G : GG l s0 b L xs D cy ad) {a0 : Nat} {y1 : Int64} {M : Mm} {res : Rs} {M' : Mm} (hp0 : P a0) (hs0 : SH a0 = 8) : ∀ (s : (Int32 × Int32)) (r : (Int32 × Int32) ⊕ Int32), f_X8_sizesOf_b5 a0 y1 M s = some r → mtc (P_X8_sizesOf_b5 l s0 D cy ad P a0 y1 M res M') (Q_X8_sizesOf_b5 l s0 D cy ad P a0 y1 M res M') r → P_X8_sizesOf_b5 l s0 D cy ad P a0 y1 M res M' s := by
  intro s r hr hk
  obtain ⟨x3, x4⟩ := s
  unfold f_X8_sizesOf_b5 at hr
  try dsimp only at hr
  dsimp only [P_X8_sizesOf_b5]
  refine n_iload (n := 4) (by decide +kernel) rfl ?_
  refine n_aload_n (n := 0) (by decide +kernel) rfl ?_
  refine n_getI G fl_RX8_43 hp0 hs0 (by decide +kernel) ?_
  refine n_icmp_ge (off := 31) (tgt := 42) (by decide +kernel) (by decide) (fun hc1 => ?_) (fun hc1 => ?_)
  · rw [if_pos hc1] at hr
    cases hr
    refine n_msk [false, false, false, true, false] (lo2 := [.null, .null, .null, _, .null]) rfl rfl ?_
    exact hk
  · rw [if_neg hc1] at hr
    refine n_iload_n (n := 3) (by decide +kernel) rfl ?_
    refine n_lload_n (n := 1) (by decide +kernel) rfl ?_
    refine n_iload (n := 4) (by decide +kernel) rfl ?_
    obtain ⟨v2, h2, hr⟩ := bso hr
    refine n_callSi G [_, _] (x := v2) (B_X8_holds G  h2) (by decide) mX8_holds ml_RX8_118 rfl rfl (Nat.le_of_ble_eq_true rfl) (by decide +kernel) ?_
    refine n_if_eq (off := 12) (tgt := 33) (by decide +kernel) (by decide) (fun hc3 => ?_) (fun hc3 => ?_)
    · rw [if_pos hc3] at hr
      refine n_iconst (n := 0) (v := 0) (by decide +kernel) rfl ?_
      refine n_iadd (by decide +kernel) ?_
      refine n_istore_n (n := 3) (lo2 := [_, _, _, _, _]) (by decide +kernel) (Nat.le_of_ble_eq_true rfl) rfl ?_
      refine n_iincK (n := 4) (j := 1) (w := 1) (lo2 := [_, _, _, _, _]) (by decide +kernel) rfl rfl rfl ?_
      refine n_goto (off := -34) (tgt := 5) (by decide +kernel) (by decide) ?_
      cases hr
      exact hk
    · rw [if_neg hc3] at hr
      refine n_aload_n (n := 0) (by decide +kernel) rfl ?_
      refine n_iload (n := 4) (by decide +kernel) rfl ?_
      obtain ⟨v4, h4, hr⟩ := bso hr
      refine n_callVi G [_] (x := v4) (B_X8_sizeOf G hp0 hs0 h4) (by decide) mX8_sizeOf ml_RX8_93 hp0 hs0 rfl rfl (Nat.le_of_ble_eq_true rfl) (by decide +kernel) ?_
      refine n_goto (off := 4) (tgt := 34) (by decide +kernel) (by decide) ?_
      refine n_iadd (by decide +kernel) ?_
      refine n_istore_n (n := 3) (lo2 := [_, _, _, _, _]) (by decide +kernel) (Nat.le_of_ble_eq_true rfl) rfl ?_
      refine n_iincK (n := 4) (j := 1) (w := 1) (lo2 := [_, _, _, _, _]) (by decide +kernel) rfl rfl rfl ?_
      refine n_goto (off := -34) (tgt := 5) (by decide +kernel) (by decide) ?_
      cases hr
      exact hk
set_option maxRecDepth 100000 in
theorem W_X8_sizesOf_b5 (G : GG l s0 b L xs D cy ad) {a0 : Nat} {y1 : Int64} {M : Mm} (hp0 : P a0) (hs0 : SH a0 = 8) {s : (Int32 × Int32)} {e : Int32} (h : whl fu (f_X8_sizesOf_b5 a0 y1 M) s = some e) (res : Rs) (M' : Mm) : Q_X8_sizesOf_b5 l s0 D cy ad P a0 y1 M res M' e → P_X8_sizesOf_b5 l s0 D cy ad P a0 y1 M res M' s := whl_run (P := fun s => P_X8_sizesOf_b5 l s0 D cy ad P a0 y1 M res M' s) (Q := fun e => Q_X8_sizesOf_b5 l s0 D cy ad P a0 y1 M res M' e) (B_X8_sizesOf_b5 G (res := res) (M' := M') (a0 := a0) (y1 := y1) (M := M) hp0 hs0) fu s h
set_option maxRecDepth 100000 in
theorem B_X8_sizesOf (G : GG l s0 b L xs D cy ad)  {a0 : Nat} {y1 : Int64} {M : Mm} {r : Int32} (hp0 : P a0) (hs0 : SH a0 = 8) (hr : f_X8_sizesOf a0 y1 M = some r) : Cl l s0 D cy ad P 11 KX8_sizesOf [.ref a0, .long y1] M (.inl (some (.int r))) (M) := by
  refine cl_ofN (by decide +kernel) rfl rfl okI (lo0 := [_, _, .null, .null, .null]) rfl ?_
  unfold f_X8_sizesOf at hr
  refine n_iconst (n := 0) (v := 0) (by decide +kernel) rfl ?_
  refine n_istore_n (n := 3) (lo2 := [_, _, _, _, _]) (by decide +kernel) (Nat.le_of_ble_eq_true rfl) rfl ?_
  refine n_iconst (n := 0) (v := 0) (by decide +kernel) rfl ?_
  refine n_istore (n := 4) (lo2 := [_, _, _, _, _]) (by decide +kernel) (Nat.le_of_ble_eq_true rfl) rfl ?_
  obtain ⟨z3_5, h5, hr⟩ := bso hr
  refine (W_X8_sizesOf_b5 G hp0 hs0 h5 _ _) ?_
  dsimp only [Q_X8_sizesOf_b5]
  refine n_iload_n (n := 3) (by decide +kernel) rfl ?_
  cases hr
  exact n_ireturn (by decide +kernel)
set_option maxRecDepth 100000 in
theorem B_X8_liftMinutes (G : GG l s0 b L xs D cy ad)  {a0 : Nat} {a1 : Nat} {x2 : Int32} {y3 : Int64} {M : Mm} {r : Int32} (hp0 : P a0) (hs0 : SH a0 = 8) (hp1 : P a1) (hs1 : SH a1 = 3) (hr : f_X8_liftMinutes a0 a1 x2 y3 M = some r) : Cl l s0 D cy ad P 12 KX8_liftMinutes [.ref a0, .ref a1, .int x2, .long y3] M (.inl (some (.int r))) (M) := by
  refine cl_ofN (by decide +kernel) rfl rfl okI (lo0 := [_, _, _, _, .null, .null]) rfl ?_
  unfold f_X8_liftMinutes at hr
  refine n_iconst (n := 2) (v := 2) (by decide +kernel) rfl ?_
  refine n_aload_n (n := 1) (by decide +kernel) rfl ?_
  refine n_getI G fl_RX8_122 hp1 hs1 (by decide +kernel) ?_
  refine n_imul (by decide +kernel) ?_
  refine n_iload_n (n := 2) (by decide +kernel) rfl ?_
  refine n_aload_n (n := 0) (by decide +kernel) rfl ?_
  refine n_getI G fl_RX8_49 hp0 hs0 (by decide +kernel) ?_
  obtain ⟨v1, h1, hr⟩ := bso hr
  refine n_callSNi G [_, _] (x := v1) (B_X9_far G  h1) (by decide) mX9_far ml_RX8_100 rfl rfl (Nat.le_of_ble_eq_true rfl) (by decide +kernel) ?_
  refine n_imul (by decide +kernel) ?_
  refine n_lload_n (n := 3) (by decide +kernel) rfl ?_
  obtain ⟨v2, h2, hr⟩ := bso hr
  refine n_callSi G [_] (x := v2) (B_J13_bitCount_95d88 G  h2) (by decide) mJ13_bitCount_95d88 ml_RX8_125 rfl rfl (Nat.le_of_ble_eq_true rfl) (by decide +kernel) ?_
  refine n_imul (by decide +kernel) ?_
  refine n_istore (n := 5) (lo2 := [_, _, _, _, _, _]) (by decide +kernel) (Nat.le_of_ble_eq_true rfl) rfl ?_
  refine n_iload (n := 5) (by decide +kernel) rfl ?_
  refine n_aload_n (n := 0) (by decide +kernel) rfl ?_
  refine n_lload_n (n := 3) (by decide +kernel) rfl ?_
  obtain ⟨v3, h3, hr⟩ := bso hr
  refine n_callVi G [_] (x := v3) (B_X8_sizesOf G hp0 hs0 h3) (by decide) mX8_sizesOf ml_RX8_131 hp0 hs0 rfl rfl (Nat.le_of_ble_eq_true rfl) (by decide +kernel) ?_
  refine n_iadd (by decide +kernel) ?_
  refine n_aload_n (n := 1) (by decide +kernel) rfl ?_
  refine n_getI G fl_RX8_134 hp1 hs1 (by decide +kernel) ?_
  obtain ⟨v4, h4, hr⟩ := bso hr
  refine n_callSNi G [_, _] (x := v4) (B_X9_dividedUpward G  h4) (by decide) mX9_dividedUpward ml_RX8_137 rfl rfl (Nat.le_of_ble_eq_true rfl) (by decide +kernel) ?_
  cases hr
  exact n_ireturn (by decide +kernel)
abbrev P_X8_putOnSledge_b16 (l : Launch) (s0 : State) (D : va_G) (cy : Nat → ClassId) (ad : Nat → Nat) (P : Nat → Prop) (a0 : Nat) (y1 : Int64)  (res : Rs) (M' : Mm) (s : (Int32 × Mm)) : Prop := Rn l s0 D cy ad P 12 KX8_putOnSledge 16 [.ref a0, .long y1, .null, .int (s.1)] [] (s.2) res M'
abbrev Q_X8_putOnSledge_b16 (l : Launch) (s0 : State) (D : va_G) (cy : Nat → ClassId) (ad : Nat → Nat) (P : Nat → Prop) (a0 : Nat) (y1 : Int64)  (res : Rs) (M' : Mm) (e : Mm) : Prop := Rn l s0 D cy ad P 12 KX8_putOnSledge 44 [.null, .null, .null, .null] [] (e) res M'
set_option maxRecDepth 100000 in
theorem B_X8_putOnSledge_b16 (G : GG l s0 b L xs D cy ad) {a0 : Nat} {y1 : Int64}  {res : Rs} {M' : Mm} (hp0 : P a0) (hs0 : SH a0 = 8) : ∀ (s : (Int32 × Mm)) (r : (Int32 × Mm) ⊕ Mm), f_X8_putOnSledge_b16 a0 y1 s = some r → mtc (P_X8_putOnSledge_b16 l s0 D cy ad P a0 y1 res M') (Q_X8_putOnSledge_b16 l s0 D cy ad P a0 y1 res M') r → P_X8_putOnSledge_b16 l s0 D cy ad P a0 y1 res M' s := by
  intro s r hr hk
  obtain ⟨x3, M⟩ := s
  unfold f_X8_putOnSledge_b16 at hr
  try dsimp only at hr
  dsimp only [P_X8_putOnSledge_b16]
  refine n_iload_n (n := 3) (by decide +kernel) rfl ?_
  refine n_aload_n (n := 0) (by decide +kernel) rfl ?_
  refine n_getI G fl_RX8_43 hp0 hs0 (by decide +kernel) ?_
  refine n_icmp_ge (off := 23) (tgt := 44) (by decide +kernel) (by decide) (fun hc2 => ?_) (fun hc2 => ?_)
  · rw [if_pos hc2] at hr
    cases hr
    refine n_msk [false, false, false, false] (lo2 := [.null, .null, .null, .null]) rfl rfl ?_
    exact hk
  · rw [if_neg hc2] at hr
    refine n_lload_n (n := 1) (by decide +kernel) rfl ?_
    refine n_iload_n (n := 3) (by decide +kernel) rfl ?_
    obtain ⟨v3, h3, hr⟩ := bso hr
    refine n_callSi G [_, _] (x := v3) (B_X8_holds G  h3) (by decide) mX8_holds ml_RX8_118 rfl rfl (Nat.le_of_ble_eq_true rfl) (by decide +kernel) ?_
    refine n_if_eq (off := 9) (tgt := 38) (by decide +kernel) (by decide) (fun hc4 => ?_) (fun hc4 => ?_)
    · rw [if_pos hc4] at hr
      refine n_iincK (n := 3) (j := 1) (w := 1) (lo2 := [_, _, _, _]) (by decide +kernel) rfl rfl rfl ?_
      refine n_goto (off := -25) (tgt := 16) (by decide +kernel) (by decide) ?_
      cases hr
      exact hk
    · rw [if_neg hc4] at hr
      refine n_aload_n (n := 0) (by decide +kernel) rfl ?_
      refine n_iload_n (n := 3) (by decide +kernel) rfl ?_
      refine n_iconst (n := 1) (v := 1) (by decide +kernel) rfl ?_
      obtain ⟨M5, h5, hr⟩ := bso hr
      refine n_callVv G [_, _] (M1 := M5) (B_X8_takeUp G hp0 hs0 h5) (by decide) mX8_takeUp ml_RX8_140 hp0 hs0 rfl rfl (Nat.le_of_ble_eq_true rfl) (by decide +kernel) ?_
      refine n_iincK (n := 3) (j := 1) (w := 1) (lo2 := [_, _, _, _]) (by decide +kernel) rfl rfl rfl ?_
      refine n_goto (off := -25) (tgt := 16) (by decide +kernel) (by decide) ?_
      cases hr
      exact hk
set_option maxRecDepth 100000 in
theorem W_X8_putOnSledge_b16 (G : GG l s0 b L xs D cy ad) {a0 : Nat} {y1 : Int64}  (hp0 : P a0) (hs0 : SH a0 = 8) {s : (Int32 × Mm)} {e : Mm} (h : whl fu (f_X8_putOnSledge_b16 a0 y1) s = some e) (res : Rs) (M' : Mm) : Q_X8_putOnSledge_b16 l s0 D cy ad P a0 y1 res M' e → P_X8_putOnSledge_b16 l s0 D cy ad P a0 y1 res M' s := whl_run (P := fun s => P_X8_putOnSledge_b16 l s0 D cy ad P a0 y1 res M' s) (Q := fun e => Q_X8_putOnSledge_b16 l s0 D cy ad P a0 y1 res M' e) (B_X8_putOnSledge_b16 G (res := res) (M' := M') (a0 := a0) (y1 := y1) hp0 hs0) fu s h
set_option maxRecDepth 100000 in
theorem B_X8_putOnSledge (G : GG l s0 b L xs D cy ad)  {a0 : Nat} {y1 : Int64} {M : Mm} {r : Mm} (hp0 : P a0) (hs0 : SH a0 = 8) (hr : f_X8_putOnSledge a0 y1 M = some r) : Cl l s0 D cy ad P 12 KX8_putOnSledge [.ref a0, .long y1] M (.inl none) (r) := by
  refine cl_ofN (by decide +kernel) rfl rfl rfl (lo0 := [_, _, .null, .null]) rfl ?_
  unfold f_X8_putOnSledge at hr
  refine n_aload_n (n := 0) (by decide +kernel) rfl ?_
  refine n_dup rfl (by decide +kernel) ?_
  refine n_getI G fl_RX8_52 hp0 hs0 (by decide +kernel) ?_
  refine n_aload_n (n := 0) (by decide +kernel) rfl ?_
  refine n_lload_n (n := 1) (by decide +kernel) rfl ?_
  obtain ⟨v1, h1, hr⟩ := bso hr
  refine n_callVi G [_] (x := v1) (B_X8_sizesOf G hp0 hs0 h1) (by decide) mX8_sizesOf ml_RX8_131 hp0 hs0 rfl rfl (Nat.le_of_ble_eq_true rfl) (by decide +kernel) ?_
  refine n_iadd (by decide +kernel) ?_
  refine n_putI G fl_RX8_52 hp0 hs0 (by decide +kernel) ?_
  refine n_iconst (n := 0) (v := 0) (by decide +kernel) rfl ?_
  refine n_istore_n (n := 3) (lo2 := [_, _, _, _]) (by decide +kernel) (Nat.le_of_ble_eq_true rfl) rfl ?_
  obtain ⟨M6, h6, hr⟩ := bso hr
  refine (W_X8_putOnSledge_b16 G hp0 hs0 h6 _ _) ?_
  dsimp only [Q_X8_putOnSledge_b16]
  cases hr
  exact n_return (by decide +kernel)
set_option maxRecDepth 100000 in
theorem B_X8_liftFrom (G : GG l s0 b L xs D cy ad)  {a0 : Nat} {a1 : Nat} {x2 : Int32} {M : Mm} {r : (Int32 × Mm)} (hp0 : P a0) (hs0 : SH a0 = 8) (hp1 : P a1) (hs1 : SH a1 = 3) (hr : f_X8_liftFrom a0 a1 x2 M = some r) : Cl l s0 D cy ad P 13 KX8_liftFrom [.ref a0, .ref a1, .int x2] M (.inl (some (.int r.1))) (r.2) := by
  unfold f_X8_liftFrom at hr
  obtain ⟨⟨v0, M0⟩, h0, h1⟩ := bso hr
  clear hr
  obtain ⟨v1, h2, h3⟩ := bso h1
  obtain ⟨hb, rfl⟩ := rB_in h2
  cases h3
  have hr := h0
  clear h0
  refine cl_ofN (by decide +kernel) rfl rfl (okB hb) (lo0 := [_, _, _, .null, .null]) rfl ?_
  unfold g_X8_liftFrom at hr
  refine n_aload_n (n := 0) (by decide +kernel) rfl ?_
  refine n_aload_n (n := 1) (by decide +kernel) rfl ?_
  refine n_iload_n (n := 2) (by decide +kernel) rfl ?_
  refine n_iconst (n := 0) (v := 0) (by decide +kernel) rfl ?_
  obtain ⟨v1, h1, hr⟩ := bso hr
  refine n_callVl G [_, _, _] (x := v1) (B_X8_liftable G hp0 hs0 hp1 hs1 h1) (by decide) mX8_liftable ml_RX8_144 hp0 hs0 rfl rfl (Nat.le_of_ble_eq_true rfl) (by decide +kernel) ?_
  refine n_lstore_n (n := 3) (lo2 := [_, _, _, _, _]) (by decide +kernel) (Nat.le_of_ble_eq_true rfl) rfl ?_
  refine n_lload_n (n := 3) (by decide +kernel) rfl ?_
  refine n_lconst (n := 0) (v := 0) (by decide +kernel) rfl ?_
  refine n_lcmp (by decide +kernel) ?_
  refine n_if_ne (off := 5) (tgt := 16) (by decide +kernel) (by decide) (fun hc2 => ?_) (fun hc2 => ?_)
  · rw [if_neg hc2] at hr
    refine n_aload_n (n := 0) (by decide +kernel) rfl ?_
    refine n_dup rfl (by decide +kernel) ?_
    refine n_getI G fl_RX8_55 hp0 hs0 (by decide +kernel) ?_
    refine n_aload_n (n := 0) (by decide +kernel) rfl ?_
    refine n_aload_n (n := 1) (by decide +kernel) rfl ?_
    refine n_iload_n (n := 2) (by decide +kernel) rfl ?_
    refine n_lload_n (n := 3) (by decide +kernel) rfl ?_
    obtain ⟨v3, h3, hr⟩ := bso hr
    refine n_callVi G [_, _, _] (x := v3) (B_X8_liftMinutes G hp0 hs0 hp1 hs1 h3) (by decide) mX8_liftMinutes ml_RX8_148 hp0 hs0 rfl rfl (Nat.le_of_ble_eq_true rfl) (by decide +kernel) ?_
    refine n_iadd (by decide +kernel) ?_
    refine n_putI G fl_RX8_55 hp0 hs0 (by decide +kernel) ?_
    refine n_aload_n (n := 0) (by decide +kernel) rfl ?_
    refine n_lload_n (n := 3) (by decide +kernel) rfl ?_
    obtain ⟨M4, h4, hr⟩ := bso hr
    refine n_callVv G [_] (M1 := M4) (B_X8_putOnSledge G hp0 hs0 h4) (by decide) mX8_putOnSledge ml_RX8_152 hp0 hs0 rfl rfl (Nat.le_of_ble_eq_true rfl) (by decide +kernel) ?_
    refine n_iconst (n := 1) (v := 1) (by decide +kernel) rfl ?_
    cases hr
    exact n_ireturn (by decide +kernel)
  · rw [if_pos hc2] at hr
    refine n_iconst (n := 0) (v := 0) (by decide +kernel) rfl ?_
    cases hr
    exact n_ireturn (by decide +kernel)
set_option maxRecDepth 100000 in
theorem B_X8_barUp (G : GG l s0 b L xs D cy ad)  {a0 : Nat} {a1 : Nat} {M : Mm} {r : (Int32 × Mm)} (hp0 : P a0) (hs0 : SH a0 = 8) (hp1 : P a1) (hs1 : SH a1 = 3) (hr : f_X8_barUp a0 a1 M = some r) : Cl l s0 D cy ad P 13 KX8_barUp [.ref a0, .ref a1] M (.inl (some (.int r.1))) (r.2) := by
  unfold f_X8_barUp at hr
  obtain ⟨⟨v0, M0⟩, h0, h1⟩ := bso hr
  clear hr
  obtain ⟨v1, h2, h3⟩ := bso h1
  obtain ⟨hb, rfl⟩ := rB_in h2
  cases h3
  have hr := h0
  clear h0
  refine cl_ofN (by decide +kernel) rfl rfl (okB hb) (lo0 := [_, _, .null, .null]) rfl ?_
  unfold g_X8_barUp at hr
  refine n_aload_n (n := 0) (by decide +kernel) rfl ?_
  refine n_aload_n (n := 1) (by decide +kernel) rfl ?_
  refine n_aload_n (n := 0) (by decide +kernel) rfl ?_
  refine n_getI G fl_RX8_49 hp0 hs0 (by decide +kernel) ?_
  refine n_iconst (n := 1) (v := 1) (by decide +kernel) rfl ?_
  obtain ⟨v1, h1, hr⟩ := bso hr
  refine n_callVl G [_, _, _] (x := v1) (B_X8_liftable G hp0 hs0 hp1 hs1 h1) (by decide) mX8_liftable ml_RX8_144 hp0 hs0 rfl rfl (Nat.le_of_ble_eq_true rfl) (by decide +kernel) ?_
  refine n_lstore_n (n := 2) (lo2 := [_, _, _, _]) (by decide +kernel) (Nat.le_of_ble_eq_true rfl) rfl ?_
  refine n_lload_n (n := 2) (by decide +kernel) rfl ?_
  refine n_lconst (n := 0) (v := 0) (by decide +kernel) rfl ?_
  refine n_lcmp (by decide +kernel) ?_
  refine n_if_eq (off := 11) (tgt := 25) (by decide +kernel) (by decide) (fun hc2 => ?_) (fun hc2 => ?_)
  · rw [if_pos hc2] at hr
    refine n_iconst (n := 0) (v := 0) (by decide +kernel) rfl ?_
    cases hr
    exact n_ireturn (by decide +kernel)
  · rw [if_neg hc2] at hr
    refine n_aload_n (n := 1) (by decide +kernel) rfl ?_
    refine n_getI G fl_RX8_134 hp1 hs1 (by decide +kernel) ?_
    refine n_iconst (n := 1) (v := 1) (by decide +kernel) rfl ?_
    refine n_icmp_ne (off := 5) (tgt := 27) (by decide +kernel) (by decide) (fun hc3 => ?_) (fun hc3 => ?_)
    · rw [if_neg hc3] at hr
      refine n_aload_n (n := 0) (by decide +kernel) rfl ?_
      refine n_dup rfl (by decide +kernel) ?_
      refine n_getI G fl_RX8_55 hp0 hs0 (by decide +kernel) ?_
      refine n_aload_n (n := 1) (by decide +kernel) rfl ?_
      refine n_getI G fl_RX8_156 hp1 hs1 (by decide +kernel) ?_
      refine n_aload_n (n := 0) (by decide +kernel) rfl ?_
      refine n_lload_n (n := 2) (by decide +kernel) rfl ?_
      obtain ⟨v4, h4, hr⟩ := bso hr
      refine n_callVi G [_] (x := v4) (B_X8_sizesOf G hp0 hs0 h4) (by decide) mX8_sizesOf ml_RX8_131 hp0 hs0 rfl rfl (Nat.le_of_ble_eq_true rfl) (by decide +kernel) ?_
      refine n_imul (by decide +kernel) ?_
      refine n_iadd (by decide +kernel) ?_
      refine n_putI G fl_RX8_55 hp0 hs0 (by decide +kernel) ?_
      refine n_aload_n (n := 0) (by decide +kernel) rfl ?_
      refine n_lload_n (n := 2) (by decide +kernel) rfl ?_
      obtain ⟨M5, h5, hr⟩ := bso hr
      refine n_callVv G [_] (M1 := M5) (B_X8_putOnSledge G hp0 hs0 h5) (by decide) mX8_putOnSledge ml_RX8_152 hp0 hs0 rfl rfl (Nat.le_of_ble_eq_true rfl) (by decide +kernel) ?_
      refine n_iconst (n := 1) (v := 1) (by decide +kernel) rfl ?_
      cases hr
      exact n_ireturn (by decide +kernel)
    · rw [if_pos hc3] at hr
      refine n_iconst (n := 0) (v := 0) (by decide +kernel) rfl ?_
      cases hr
      exact n_ireturn (by decide +kernel)
abbrev P_X8_unload_b4 (l : Launch) (s0 : State) (D : va_G) (cy : Nat → ClassId) (ad : Nat → Nat) (P : Nat → Prop) (a0 : Nat) (x1 : Int32)  (res : Rs) (M' : Mm) (s : (Int32 × Int32 × Mm)) : Prop := Rn l s0 D cy ad P 9 KX8_unload 4 [.ref a0, .int x1, .int (s.1), .int (s.2.1)] [] (s.2.2) res M'
abbrev Q_X8_unload_b4 (l : Launch) (s0 : State) (D : va_G) (cy : Nat → ClassId) (ad : Nat → Nat) (P : Nat → Prop) (a0 : Nat) (x1 : Int32)  (res : Rs) (M' : Mm) (e : (Int32 × Mm)) : Prop := Rn l s0 D cy ad P 9 KX8_unload 44 [.ref a0, .null, .int (e.1), .null] [] (e.2) res M'
set_option maxRecDepth 100000 in
theorem B_X8_unload_b4 (G : GG l s0 b L xs D cy ad) {a0 : Nat} {x1 : Int32}  {res : Rs} {M' : Mm} (hp0 : P a0) (hs0 : SH a0 = 8) : ∀ (s : (Int32 × Int32 × Mm)) (r : (Int32 × Int32 × Mm) ⊕ (Int32 × Mm)), f_X8_unload_b4 a0 x1 s = some r → mtc (P_X8_unload_b4 l s0 D cy ad P a0 x1 res M') (Q_X8_unload_b4 l s0 D cy ad P a0 x1 res M') r → P_X8_unload_b4 l s0 D cy ad P a0 x1 res M' s := by
  intro s r hr hk
  obtain ⟨x2, x3, M⟩ := s
  unfold f_X8_unload_b4 at hr
  try dsimp only at hr
  dsimp only [P_X8_unload_b4]
  refine n_iload_n (n := 3) (by decide +kernel) rfl ?_
  refine n_aload_n (n := 0) (by decide +kernel) rfl ?_
  refine n_getI G fl_RX8_43 hp0 hs0 (by decide +kernel) ?_
  refine n_icmp_ge (off := 35) (tgt := 44) (by decide +kernel) (by decide) (fun hc1 => ?_) (fun hc1 => ?_)
  · rw [if_pos hc1] at hr
    cases hr
    refine n_msk [true, false, true, false] (lo2 := [_, .null, _, .null]) rfl rfl ?_
    exact hk
  · rw [if_neg hc1] at hr
    refine n_iload_n (n := 3) (by decide +kernel) rfl ?_
    refine n_bipush (n := 60) (v := 60) (by decide +kernel) rfl ?_
    refine n_icmp_ge (off := 29) (tgt := 44) (by decide +kernel) (by decide) (fun hc2 => ?_) (fun hc2 => ?_)
    · rw [if_pos hc2] at hr
      cases hr
      refine n_msk [true, false, true, false] (lo2 := [_, .null, _, .null]) rfl rfl ?_
      exact hk
    · rw [if_neg hc2] at hr
      refine n_aload_n (n := 0) (by decide +kernel) rfl ?_
      refine n_getF (q := (a0 + 4)) G fl_RX8_21 hp0 hs0 (fr_8_3 hs0).1 (by decide +kernel) (fun hp3q => ?_)
      refine n_iload_n (n := 3) (by decide +kernel) rfl ?_
      obtain ⟨v4, h4, hr⟩ := bso hr
      refine n_iald G h4 hp3q (fr_8_3 hs0).2.1 (fr_8_3 hs0).2.2 (by decide +kernel) ?_
      refine n_iconst (n := 1) (v := 1) (by decide +kernel) rfl ?_
      refine n_icmp_ne (off := 13) (tgt := 38) (by decide +kernel) (by decide) (fun hc5 => ?_) (fun hc5 => ?_)
      · rw [if_neg hc5] at hr
        refine n_iincK (n := 3) (j := 1) (w := 1) (lo2 := [_, _, _, _]) (by decide +kernel) rfl rfl rfl ?_
        refine n_goto (off := -37) (tgt := 4) (by decide +kernel) (by decide) ?_
        cases hr
        exact hk
      · rw [if_pos hc5] at hr
        refine n_aload_n (n := 0) (by decide +kernel) rfl ?_
        refine n_getF (q := (a0 + 4)) G fl_RX8_21 hp0 hs0 (fr_8_3 hs0).1 (by decide +kernel) (fun hp6q => ?_)
        refine n_iload_n (n := 3) (by decide +kernel) rfl ?_
        refine n_iload_n (n := 1) (by decide +kernel) rfl ?_
        obtain ⟨M7, h7, hr⟩ := bso hr
        refine n_iast G h7 hp6q (fr_8_3 hs0).2.1 (fr_8_3 hs0).2.2 (by decide +kernel) ?_
        refine n_iincK (n := 2) (j := 1) (w := 1) (lo2 := [_, _, _, _]) (by decide +kernel) rfl rfl rfl ?_
        refine n_iincK (n := 3) (j := 1) (w := 1) (lo2 := [_, _, _, _]) (by decide +kernel) rfl rfl rfl ?_
        refine n_goto (off := -37) (tgt := 4) (by decide +kernel) (by decide) ?_
        cases hr
        exact hk
set_option maxRecDepth 100000 in
theorem W_X8_unload_b4 (G : GG l s0 b L xs D cy ad) {a0 : Nat} {x1 : Int32}  (hp0 : P a0) (hs0 : SH a0 = 8) {s : (Int32 × Int32 × Mm)} {e : (Int32 × Mm)} (h : whl fu (f_X8_unload_b4 a0 x1) s = some e) (res : Rs) (M' : Mm) : Q_X8_unload_b4 l s0 D cy ad P a0 x1 res M' e → P_X8_unload_b4 l s0 D cy ad P a0 x1 res M' s := whl_run (P := fun s => P_X8_unload_b4 l s0 D cy ad P a0 x1 res M' s) (Q := fun e => Q_X8_unload_b4 l s0 D cy ad P a0 x1 res M' e) (B_X8_unload_b4 G (res := res) (M' := M') (a0 := a0) (x1 := x1) hp0 hs0) fu s h
set_option maxRecDepth 100000 in
theorem B_X8_unload (G : GG l s0 b L xs D cy ad)  {a0 : Nat} {x1 : Int32} {M : Mm} {r : (Int32 × Mm)} (hp0 : P a0) (hs0 : SH a0 = 8) (hr : f_X8_unload a0 x1 M = some r) : Cl l s0 D cy ad P 9 KX8_unload [.ref a0, .int x1] M (.inl (some (.int r.1))) (r.2) := by
  refine cl_ofN (by decide +kernel) rfl rfl okI (lo0 := [_, _, .null, .null]) rfl ?_
  unfold f_X8_unload at hr
  refine n_iconst (n := 0) (v := 0) (by decide +kernel) rfl ?_
  refine n_istore_n (n := 2) (lo2 := [_, _, _, _]) (by decide +kernel) (Nat.le_of_ble_eq_true rfl) rfl ?_
  refine n_iconst (n := 0) (v := 0) (by decide +kernel) rfl ?_
  refine n_istore_n (n := 3) (lo2 := [_, _, _, _]) (by decide +kernel) (Nat.le_of_ble_eq_true rfl) rfl ?_
  obtain ⟨e8, h8, hr⟩ := bso hr
  refine (W_X8_unload_b4 G hp0 hs0 h8 _ _) ?_
  obtain ⟨z2_8, M8⟩ := e8
  try dsimp only at hr
  dsimp only [Q_X8_unload_b4]
  refine n_aload_n (n := 0) (by decide +kernel) rfl ?_
  refine n_iconst (n := 0) (v := 0) (by decide +kernel) rfl ?_
  refine n_putI G fl_RX8_52 hp0 hs0 (by decide +kernel) ?_
  refine n_iload_n (n := 2) (by decide +kernel) rfl ?_
  cases hr
  exact n_ireturn (by decide +kernel)
set_option maxRecDepth 100000 in
theorem B_X8_bringToWall (G : GG l s0 b L xs D cy ad)  {a0 : Nat} {a1 : Nat} {M : Mm} {r : (Int32 × Mm)} (hp0 : P a0) (hs0 : SH a0 = 8) (hp1 : P a1) (hs1 : SH a1 = 3) (hr : f_X8_bringToWall a0 a1 M = some r) : Cl l s0 D cy ad P 10 KX8_bringToWall [.ref a0, .ref a1] M (.inl (some (.int r.1))) (r.2) := by
  unfold f_X8_bringToWall at hr
  obtain ⟨⟨v0, M0⟩, h0, h1⟩ := bso hr
  clear hr
  obtain ⟨v1, h2, h3⟩ := bso h1
  obtain ⟨hb, rfl⟩ := rB_in h2
  cases h3
  have hr := h0
  clear h0
  refine cl_ofN (by decide +kernel) rfl rfl (okB hb) (lo0 := [_, _]) rfl ?_
  unfold g_X8_bringToWall at hr
  refine n_aload_n (n := 0) (by decide +kernel) rfl ?_
  refine n_getI G fl_RX8_52 hp0 hs0 (by decide +kernel) ?_
  refine n_if_ne (off := 5) (tgt := 9) (by decide +kernel) (by decide) (fun hc1 => ?_) (fun hc1 => ?_)
  · rw [if_neg hc1] at hr
    refine n_aload_n (n := 0) (by decide +kernel) rfl ?_
    refine n_dup rfl (by decide +kernel) ?_
    refine n_getI G fl_RX8_55 hp0 hs0 (by decide +kernel) ?_
    refine n_aload_n (n := 1) (by decide +kernel) rfl ?_
    refine n_getI G fl_RX8_104 hp1 hs1 (by decide +kernel) ?_
    refine n_aload_n (n := 1) (by decide +kernel) rfl ?_
    refine n_getI G fl_RX8_109 hp1 hs1 (by decide +kernel) ?_
    refine n_aload_n (n := 0) (by decide +kernel) rfl ?_
    refine n_getI G fl_RX8_49 hp0 hs0 (by decide +kernel) ?_
    obtain ⟨v2, h2, hr⟩ := bso hr
    refine n_callSNi G [_] (x := v2) (B_X9_column G  h2) (by decide) mX9_column ml_RX8_159 rfl rfl (Nat.le_of_ble_eq_true rfl) (by decide +kernel) ?_
    refine n_iconst (n := 1) (v := 1) (by decide +kernel) rfl ?_
    refine n_iadd (by decide +kernel) ?_
    refine n_imul (by decide +kernel) ?_
    refine n_iadd (by decide +kernel) ?_
    refine n_iadd (by decide +kernel) ?_
    refine n_putI G fl_RX8_55 hp0 hs0 (by decide +kernel) ?_
    refine n_aload_n (n := 0) (by decide +kernel) rfl ?_
    refine n_dup rfl (by decide +kernel) ?_
    refine n_getI G fl_RX8_64 hp0 hs0 (by decide +kernel) ?_
    refine n_aload_n (n := 0) (by decide +kernel) rfl ?_
    refine n_getI G fl_RX8_52 hp0 hs0 (by decide +kernel) ?_
    refine n_iadd (by decide +kernel) ?_
    refine n_putI G fl_RX8_64 hp0 hs0 (by decide +kernel) ?_
    refine n_aload_n (n := 0) (by decide +kernel) rfl ?_
    refine n_iconst (n := 2) (v := 2) (by decide +kernel) rfl ?_
    obtain ⟨⟨v3, M3⟩, h3, hr⟩ := bso hr
    try dsimp only at hr
    refine n_callVi G [_] (x := v3) (M1 := M3) (B_X8_unload G hp0 hs0 h3) (by decide) mX8_unload ml_RX8_162 hp0 hs0 rfl rfl (Nat.le_of_ble_eq_true rfl) (by decide +kernel) ?_
    refine n_pop rfl (by decide +kernel) ?_
    refine n_aload_n (n := 0) (by decide +kernel) rfl ?_
    refine n_iconst (n := 0) (v := 0) (by decide +kernel) rfl ?_
    refine n_aload_n (n := 0) (by decide +kernel) rfl ?_
    refine n_getI G fl_RX8_49 hp0 hs0 (by decide +kernel) ?_
    obtain ⟨v4, h4, hr⟩ := bso hr
    refine n_callSNi G [_] (x := v4) (B_X9_row G  h4) (by decide) mX9_row ml_RX8_165 rfl rfl (Nat.le_of_ble_eq_true rfl) (by decide +kernel) ?_
    obtain ⟨v5, h5, hr⟩ := bso hr
    refine n_callSNi G [_, _] (x := v5) (B_X9_cellAt G  h5) (by decide) mX9_cellAt ml_RX8_168 rfl rfl (Nat.le_of_ble_eq_true rfl) (by decide +kernel) ?_
    refine n_putI G fl_RX8_49 hp0 hs0 (by decide +kernel) ?_
    refine n_iconst (n := 1) (v := 1) (by decide +kernel) rfl ?_
    cases hr
    exact n_ireturn (by decide +kernel)
  · rw [if_pos hc1] at hr
    refine n_iconst (n := 0) (v := 0) (by decide +kernel) rfl ?_
    cases hr
    exact n_ireturn (by decide +kernel)
abbrev P_X8_pileUp_b60 (l : Launch) (s0 : State) (D : va_G) (cy : Nat → ClassId) (ad : Nat → Nat) (P : Nat → Prop) (a0 : Nat)  (res : Rs) (M' : Mm) (s : (Int32 × Mm)) : Prop := Rn l s0 D cy ad P 12 KX8_pileUp 60 [.ref a0, .null, .int (s.1)] [] (s.2) res M'
abbrev Q_X8_pileUp_b60 (l : Launch) (s0 : State) (D : va_G) (cy : Nat → ClassId) (ad : Nat → Nat) (P : Nat → Prop) (a0 : Nat)  (res : Rs) (M' : Mm) (e : Mm) : Prop := Rn l s0 D cy ad P 12 KX8_pileUp 92 [.ref a0, .null, .null] [] (e) res M'
set_option maxRecDepth 100000 in
theorem B_X8_pileUp_b60 (G : GG l s0 b L xs D cy ad) {a0 : Nat}  {res : Rs} {M' : Mm} (hp0 : P a0) (hs0 : SH a0 = 8) : ∀ (s : (Int32 × Mm)) (r : (Int32 × Mm) ⊕ Mm), f_X8_pileUp_b60 a0 s = some r → mtc (P_X8_pileUp_b60 l s0 D cy ad P a0 res M') (Q_X8_pileUp_b60 l s0 D cy ad P a0 res M') r → P_X8_pileUp_b60 l s0 D cy ad P a0 res M' s := by
  intro s r hr hk
  obtain ⟨x2, M⟩ := s
  unfold f_X8_pileUp_b60 at hr
  try dsimp only at hr
  dsimp only [P_X8_pileUp_b60]
  refine n_iload_n (n := 2) (by decide +kernel) rfl ?_
  refine n_aload_n (n := 0) (by decide +kernel) rfl ?_
  refine n_getI G fl_RX8_43 hp0 hs0 (by decide +kernel) ?_
  refine n_icmp_ge (off := 27) (tgt := 92) (by decide +kernel) (by decide) (fun hc10 => ?_) (fun hc10 => ?_)
  · rw [if_pos hc10] at hr
    cases hr
    refine n_msk [true, false, false] (lo2 := [_, .null, .null]) rfl rfl ?_
    exact hk
  · rw [if_neg hc10] at hr
    refine n_aload_n (n := 0) (by decide +kernel) rfl ?_
    refine n_iload_n (n := 2) (by decide +kernel) rfl ?_
    refine n_aload_n (n := 0) (by decide +kernel) rfl ?_
    refine n_getI G fl_RX8_49 hp0 hs0 (by decide +kernel) ?_
    obtain ⟨v11, h11, hr⟩ := bso hr
    refine n_callVi G [_, _] (x := v11) (B_X8_liesIn G hp0 hs0 h11) (by decide) mX8_liesIn ml_RX8_96 hp0 hs0 rfl rfl (Nat.le_of_ble_eq_true rfl) (by decide +kernel) ?_
    refine n_if_eq (off := 9) (tgt := 86) (by decide +kernel) (by decide) (fun hc12 => ?_) (fun hc12 => ?_)
    · rw [if_pos hc12] at hr
      refine n_iincK (n := 2) (j := 1) (w := 1) (lo2 := [_, _, _]) (by decide +kernel) rfl rfl rfl ?_
      refine n_goto (off := -29) (tgt := 60) (by decide +kernel) (by decide) ?_
      cases hr
      exact hk
    · rw [if_neg hc12] at hr
      refine n_aload_n (n := 0) (by decide +kernel) rfl ?_
      refine n_iload_n (n := 2) (by decide +kernel) rfl ?_
      refine n_iconst (n := 3) (v := 3) (by decide +kernel) rfl ?_
      obtain ⟨M13, h13, hr⟩ := bso hr
      refine n_callVv G [_, _] (M1 := M13) (B_X8_takeUp G hp0 hs0 h13) (by decide) mX8_takeUp ml_RX8_140 hp0 hs0 rfl rfl (Nat.le_of_ble_eq_true rfl) (by decide +kernel) ?_
      refine n_iincK (n := 2) (j := 1) (w := 1) (lo2 := [_, _, _]) (by decide +kernel) rfl rfl rfl ?_
      refine n_goto (off := -29) (tgt := 60) (by decide +kernel) (by decide) ?_
      cases hr
      exact hk
set_option maxRecDepth 100000 in
theorem W_X8_pileUp_b60 (G : GG l s0 b L xs D cy ad) {a0 : Nat}  (hp0 : P a0) (hs0 : SH a0 = 8) {s : (Int32 × Mm)} {e : Mm} (h : whl fu (f_X8_pileUp_b60 a0) s = some e) (res : Rs) (M' : Mm) : Q_X8_pileUp_b60 l s0 D cy ad P a0 res M' e → P_X8_pileUp_b60 l s0 D cy ad P a0 res M' s := whl_run (P := fun s => P_X8_pileUp_b60 l s0 D cy ad P a0 res M' s) (Q := fun e => Q_X8_pileUp_b60 l s0 D cy ad P a0 res M' e) (B_X8_pileUp_b60 G (res := res) (M' := M') (a0 := a0) hp0 hs0) fu s h
set_option maxRecDepth 100000 in
theorem B_X8_pileUp (G : GG l s0 b L xs D cy ad)  {a0 : Nat} {M : Mm} {r : (Int32 × Mm)} (hp0 : P a0) (hs0 : SH a0 = 8) (hr : f_X8_pileUp a0 M = some r) : Cl l s0 D cy ad P 12 KX8_pileUp [.ref a0] M (.inl (some (.int r.1))) (r.2) := by
  unfold f_X8_pileUp at hr
  obtain ⟨⟨v0, M0⟩, h0, h1⟩ := bso hr
  clear hr
  obtain ⟨v1, h2, h3⟩ := bso h1
  obtain ⟨hb, rfl⟩ := rB_in h2
  cases h3
  have hr := h0
  clear h0
  refine cl_ofN (by decide +kernel) rfl rfl (okB hb) (lo0 := [_, .null, .null]) rfl ?_
  unfold g_X8_pileUp at hr
  refine n_aload_n (n := 0) (by decide +kernel) rfl ?_
  refine n_getI G fl_RX8_52 hp0 hs0 (by decide +kernel) ?_
  refine n_if_eq (off := 13) (tgt := 17) (by decide +kernel) (by decide) (fun hc1 => ?_) (fun hc1 => ?_)
  · rw [if_pos hc1] at hr
    refine n_iconst (n := 0) (v := 0) (by decide +kernel) rfl ?_
    cases hr
    exact n_ireturn (by decide +kernel)
  · rw [if_neg hc1] at hr
    refine n_aload_n (n := 0) (by decide +kernel) rfl ?_
    refine n_getI G fl_RX8_49 hp0 hs0 (by decide +kernel) ?_
    obtain ⟨v2, h2, hr⟩ := bso hr
    refine n_callSNi G [_] (x := v2) (B_X9_isCell G  h2) (by decide) mX9_isCell ml_RX8_77 rfl rfl (Nat.le_of_ble_eq_true rfl) (by decide +kernel) ?_
    refine n_if_ne (off := 5) (tgt := 19) (by decide +kernel) (by decide) (fun hc3 => ?_) (fun hc3 => ?_)
    · rw [if_neg hc3] at hr
      refine n_aload_n (n := 0) (by decide +kernel) rfl ?_
      refine n_iconst (n := 3) (v := 3) (by decide +kernel) rfl ?_
      obtain ⟨⟨v4, M4⟩, h4, hr⟩ := bso hr
      try dsimp only at hr
      refine n_callVi G [_] (x := v4) (M1 := M4) (B_X8_unload G hp0 hs0 h4) (by decide) mX8_unload ml_RX8_162 hp0 hs0 rfl rfl (Nat.le_of_ble_eq_true rfl) (by decide +kernel) ?_
      refine n_istore_n (n := 1) (lo2 := [_, _, _]) (by decide +kernel) (Nat.le_of_ble_eq_true rfl) rfl ?_
      refine n_aload_n (n := 0) (by decide +kernel) rfl ?_
      refine n_dup rfl (by decide +kernel) ?_
      refine n_getI G fl_RX8_55 hp0 hs0 (by decide +kernel) ?_
      refine n_iload_n (n := 1) (by decide +kernel) rfl ?_
      refine n_iadd (by decide +kernel) ?_
      refine n_putI G fl_RX8_55 hp0 hs0 (by decide +kernel) ?_
      refine n_aload_n (n := 0) (by decide +kernel) rfl ?_
      refine n_getF (q := (a0 + 6)) G fl_RX8_27 hp0 hs0 (fr_8_5 hs0).1 (by decide +kernel) (fun hp5q => ?_)
      refine n_aload_n (n := 0) (by decide +kernel) rfl ?_
      refine n_getI G fl_RX8_49 hp0 hs0 (by decide +kernel) ?_
      refine n_dup2 rfl rfl (by decide +kernel) ?_
      obtain ⟨v6, h6, hr⟩ := bso hr
      refine n_iald G h6 hp5q (fr_8_5 hs0).2.1 (fr_8_5 hs0).2.2 (by decide +kernel) ?_
      refine n_iload_n (n := 1) (by decide +kernel) rfl ?_
      refine n_aload_n (n := 0) (by decide +kernel) rfl ?_
      refine n_getF (q := (a0 + 7)) G fl_RX8_30 hp0 hs0 (fr_8_6 hs0).1 (by decide +kernel) (fun hp7q => ?_)
      refine n_aload_n (n := 0) (by decide +kernel) rfl ?_
      refine n_getI G fl_RX8_49 hp0 hs0 (by decide +kernel) ?_
      obtain ⟨v8, h8, hr⟩ := bso hr
      refine n_iald G h8 hp7q (fr_8_6 hs0).2.1 (fr_8_6 hs0).2.2 (by decide +kernel) ?_
      refine n_iadd (by decide +kernel) ?_
      refine n_iadd (by decide +kernel) ?_
      obtain ⟨M9, h9, hr⟩ := bso hr
      refine n_iast G h9 hp5q (fr_8_5 hs0).2.1 (fr_8_5 hs0).2.2 (by decide +kernel) ?_
      refine n_iconst (n := 0) (v := 0) (by decide +kernel) rfl ?_
      refine n_istore_n (n := 2) (lo2 := [_, _, _]) (by decide +kernel) (Nat.le_of_ble_eq_true rfl) rfl ?_
      obtain ⟨M14, h14, hr⟩ := bso hr
      refine n_msk [true, false, true] (lo2 := [_, .null, _]) rfl rfl ?_
      refine (W_X8_pileUp_b60 G hp0 hs0 h14 _ _) ?_
      dsimp only [Q_X8_pileUp_b60]
      refine n_aload_n (n := 0) (by decide +kernel) rfl ?_
      refine n_getF (q := (a0 + 5)) G fl_RX8_24 hp0 hs0 (fr_8_4 hs0).1 (by decide +kernel) (fun hp15q => ?_)
      refine n_aload_n (n := 0) (by decide +kernel) rfl ?_
      refine n_getI G fl_RX8_49 hp0 hs0 (by decide +kernel) ?_
      refine n_iconst (n := 1) (v := 1) (by decide +kernel) rfl ?_
      obtain ⟨M16, h16, hr⟩ := bso hr
      refine n_iast G h16 hp15q (fr_8_4 hs0).2.1 (fr_8_4 hs0).2.2 (by decide +kernel) ?_
      refine n_iconst (n := 1) (v := 1) (by decide +kernel) rfl ?_
      cases hr
      exact n_ireturn (by decide +kernel)
    · rw [if_pos hc3] at hr
      refine n_iconst (n := 0) (v := 0) (by decide +kernel) rfl ?_
      cases hr
      exact n_ireturn (by decide +kernel)
set_option maxRecDepth 100000 in
theorem B_X8_giveUp (G : GG l s0 b L xs D cy ad)  {a0 : Nat} {x1 : Int32} {M : Mm} {r : (Int32 × Mm)} (hp0 : P a0) (hs0 : SH a0 = 8) (hr : f_X8_giveUp a0 x1 M = some r) : Cl l s0 D cy ad P 11 KX8_giveUp [.ref a0, .int x1] M (.inl (some (.int r.1))) (r.2) := by
  unfold f_X8_giveUp at hr
  obtain ⟨⟨v0, M0⟩, h0, h1⟩ := bso hr
  clear hr
  obtain ⟨v1, h2, h3⟩ := bso h1
  obtain ⟨hb, rfl⟩ := rB_in h2
  cases h3
  have hr := h0
  clear h0
  refine cl_ofN (by decide +kernel) rfl rfl (okB hb) (lo0 := [_, _]) rfl ?_
  unfold g_X8_giveUp at hr
  refine n_iload_n (n := 1) (by decide +kernel) rfl ?_
  obtain ⟨v1, h1, hr⟩ := bso hr
  refine n_callSNi G [_] (x := v1) (B_X9_isCell G  h1) (by decide) mX9_isCell ml_RX8_77 rfl rfl (Nat.le_of_ble_eq_true rfl) (by decide +kernel) ?_
  refine n_if_eq (off := 11) (tgt := 15) (by decide +kernel) (by decide) (fun hc2 => ?_) (fun hc2 => ?_)
  · rw [if_pos hc2] at hr
    refine n_iconst (n := 0) (v := 0) (by decide +kernel) rfl ?_
    cases hr
    exact n_ireturn (by decide +kernel)
  · rw [if_neg hc2] at hr
    refine n_aload_n (n := 0) (by decide +kernel) rfl ?_
    refine n_iload_n (n := 1) (by decide +kernel) rfl ?_
    obtain ⟨v3, h3, hr⟩ := bso hr
    refine n_callVi G [_] (x := v3) (B_X8_isLost G hp0 hs0 h3) (by decide) mX8_isLost ml_RX8_87 hp0 hs0 rfl rfl (Nat.le_of_ble_eq_true rfl) (by decide +kernel) ?_
    refine n_if_eq (off := 5) (tgt := 17) (by decide +kernel) (by decide) (fun hc4 => ?_) (fun hc4 => ?_)
    · rw [if_pos hc4] at hr
      refine n_aload_n (n := 0) (by decide +kernel) rfl ?_
      refine n_getF (q := (a0 + 5)) G fl_RX8_24 hp0 hs0 (fr_8_4 hs0).1 (by decide +kernel) (fun hp5q => ?_)
      refine n_iload_n (n := 1) (by decide +kernel) rfl ?_
      refine n_iconst (n := 1) (v := 1) (by decide +kernel) rfl ?_
      obtain ⟨M6, h6, hr⟩ := bso hr
      refine n_iast G h6 hp5q (fr_8_4 hs0).2.1 (fr_8_4 hs0).2.2 (by decide +kernel) ?_
      refine n_iconst (n := 1) (v := 1) (by decide +kernel) rfl ?_
      cases hr
      exact n_ireturn (by decide +kernel)
    · rw [if_neg hc4] at hr
      refine n_iconst (n := 0) (v := 0) (by decide +kernel) rfl ?_
      cases hr
      exact n_ireturn (by decide +kernel)
abbrev P_X8_passWinter_b18 (l : Launch) (s0 : State) (D : va_G) (cy : Nat → ClassId) (ad : Nat → Nat) (P : Nat → Prop) (a0 : Nat) (a1 : Nat)  (res : Rs) (M' : Mm) (s : (Int32 × Mm)) : Prop := Rn l s0 D cy ad P 13 KX8_passWinter 18 [.ref a0, .ref a1, .int (s.1)] [] (s.2) res M'
abbrev Q_X8_passWinter_b18 (l : Launch) (s0 : State) (D : va_G) (cy : Nat → ClassId) (ad : Nat → Nat) (P : Nat → Prop) (a0 : Nat) (a1 : Nat)  (res : Rs) (M' : Mm) (e : Mm) : Prop := Rn l s0 D cy ad P 13 KX8_passWinter 64 [.ref a0, .ref a1, .null] [] (e) res M'
set_option maxRecDepth 100000 in
theorem B_X8_passWinter_j53 (G : GG l s0 b L xs D cy ad) {a0 : Nat} {a1 : Nat} {x2 : Int32} {a90 : Nat} {xs1 : Int32} {M : Mm}  {res : Rs} {M' : Mm} {r : ((Int32 × Mm) ⊕ Mm)} (hp0 : P a0) (hs0 : SH a0 = 8) (hp1 : P a1) (hs1 : SH a1 = 3) (hp90 : P a90) (hs90 : SH a90 = 8) (hr : f_X8_passWinter_j53 a0 a1 x2 a90 xs1 M = some r) (hk : mtc (P_X8_passWinter_b18 l s0 D cy ad P a0 a1 res M') (Q_X8_passWinter_b18 l s0 D cy ad P a0 a1 res M') r) : Rn l s0 D cy ad P 13 KX8_passWinter 53 [.ref a0, .ref a1, .int x2] [.int xs1, .ref a90] M res M' := by
  unfold f_X8_passWinter_j53 at hr
  refine n_iconst (n := 0) (v := 0) (by decide +kernel) rfl ?_
  refine n_iadd (by decide +kernel) ?_
  refine n_putI G fl_RX8_61 hp90 hs90 (by decide +kernel) ?_
  refine n_iincK (n := 2) (j := 1) (w := 1) (lo2 := [_, _, _]) (by decide +kernel) rfl rfl rfl ?_
  refine n_goto (off := -43) (tgt := 18) (by decide +kernel) (by decide) ?_
  cases hr
  exact hk
set_option maxRecDepth 100000 in
theorem B_X8_passWinter_b18 (G : GG l s0 b L xs D cy ad) {a0 : Nat} {a1 : Nat}  {res : Rs} {M' : Mm} (hp0 : P a0) (hs0 : SH a0 = 8) (hp1 : P a1) (hs1 : SH a1 = 3) : ∀ (s : (Int32 × Mm)) (r : (Int32 × Mm) ⊕ Mm), f_X8_passWinter_b18 a0 a1 s = some r → mtc (P_X8_passWinter_b18 l s0 D cy ad P a0 a1 res M') (Q_X8_passWinter_b18 l s0 D cy ad P a0 a1 res M') r → P_X8_passWinter_b18 l s0 D cy ad P a0 a1 res M' s := by
  intro s r hr hk
  obtain ⟨x2, M⟩ := s
  unfold f_X8_passWinter_b18 at hr
  try dsimp only at hr
  dsimp only [P_X8_passWinter_b18]
  refine n_iload_n (n := 2) (by decide +kernel) rfl ?_
  refine n_bipush (n := 48) (v := 48) (by decide +kernel) rfl ?_
  refine n_icmp_ge (off := 43) (tgt := 64) (by decide +kernel) (by decide) (fun hc2 => ?_) (fun hc2 => ?_)
  · rw [if_pos hc2] at hr
    cases hr
    refine n_msk [true, true, false] (lo2 := [_, _, .null]) rfl rfl ?_
    exact hk
  · rw [if_neg hc2] at hr
    refine n_aload_n (n := 0) (by decide +kernel) rfl ?_
    refine n_dup rfl (by decide +kernel) ?_
    refine n_getI G fl_RX8_61 hp0 hs0 (by decide +kernel) ?_
    refine n_aload_n (n := 1) (by decide +kernel) rfl ?_
    refine n_iload_n (n := 2) (by decide +kernel) rfl ?_
    obtain ⟨v3, h3, hr⟩ := bso hr
    refine n_callVi G [_] (x := v3) (B_X3_hasCell G hp1 hs1 h3) (by decide) mX3_hasCell ml_RX8_175 hp1 hs1 rfl rfl (Nat.le_of_ble_eq_true rfl) (by decide +kernel) ?_
    refine n_if_eq (off := 19) (tgt := 53) (by decide +kernel) (by decide) (fun hc4 => ?_) (fun hc4 => ?_)
    · rw [if_pos hc4] at hr
      exact B_X8_passWinter_j53 G hp0 hs0 hp1 hs1 hp0 hs0 hr hk
    · rw [if_neg hc4] at hr
      refine n_aload_n (n := 0) (by decide +kernel) rfl ?_
      refine n_iload_n (n := 2) (by decide +kernel) rfl ?_
      obtain ⟨v5, h5, hr⟩ := bso hr
      refine n_callVi G [_] (x := v5) (B_X8_isLost G hp0 hs0 h5) (by decide) mX8_isLost ml_RX8_87 hp0 hs0 rfl rfl (Nat.le_of_ble_eq_true rfl) (by decide +kernel) ?_
      refine n_if_ne (off := 11) (tgt := 53) (by decide +kernel) (by decide) (fun hc6 => ?_) (fun hc6 => ?_)
      · rw [if_neg hc6] at hr
        exact B_X8_passWinter_j53 G hp0 hs0 hp1 hs1 hp0 hs0 hr hk
      · rw [if_pos hc6] at hr
        refine n_aload_n (n := 1) (by decide +kernel) rfl ?_
        refine n_iload_n (n := 2) (by decide +kernel) rfl ?_
        obtain ⟨v7, h7, hr⟩ := bso hr
        refine n_callVi G [_] (x := v7) (B_X3_soilOf G hp1 hs1 h7) (by decide) mX3_soilOf ml_RX8_178 hp1 hs1 rfl rfl (Nat.le_of_ble_eq_true rfl) (by decide +kernel) ?_
        refine n_goto (off := 4) (tgt := 54) (by decide +kernel) (by decide) ?_
        refine n_iadd (by decide +kernel) ?_
        refine n_putI G fl_RX8_61 hp0 hs0 (by decide +kernel) ?_
        refine n_iincK (n := 2) (j := 1) (w := 1) (lo2 := [_, _, _]) (by decide +kernel) rfl rfl rfl ?_
        refine n_goto (off := -43) (tgt := 18) (by decide +kernel) (by decide) ?_
        cases hr
        exact hk
set_option maxRecDepth 100000 in
theorem W_X8_passWinter_b18 (G : GG l s0 b L xs D cy ad) {a0 : Nat} {a1 : Nat}  (hp0 : P a0) (hs0 : SH a0 = 8) (hp1 : P a1) (hs1 : SH a1 = 3) {s : (Int32 × Mm)} {e : Mm} (h : whl fu (f_X8_passWinter_b18 a0 a1) s = some e) (res : Rs) (M' : Mm) : Q_X8_passWinter_b18 l s0 D cy ad P a0 a1 res M' e → P_X8_passWinter_b18 l s0 D cy ad P a0 a1 res M' s := whl_run (P := fun s => P_X8_passWinter_b18 l s0 D cy ad P a0 a1 res M' s) (Q := fun e => Q_X8_passWinter_b18 l s0 D cy ad P a0 a1 res M' e) (B_X8_passWinter_b18 G (res := res) (M' := M') (a0 := a0) (a1 := a1) hp0 hs0 hp1 hs1) fu s h
set_option maxRecDepth 100000 in
theorem B_X8_passWinter (G : GG l s0 b L xs D cy ad)  {a0 : Nat} {a1 : Nat} {M : Mm} {r : (Int32 × Mm)} (hp0 : P a0) (hs0 : SH a0 = 8) (hp1 : P a1) (hs1 : SH a1 = 3) (hr : f_X8_passWinter a0 a1 M = some r) : Cl l s0 D cy ad P 13 KX8_passWinter [.ref a0, .ref a1] M (.inl (some (.int r.1))) (r.2) := by
  unfold f_X8_passWinter at hr
  obtain ⟨⟨v0, M0⟩, h0, h1⟩ := bso hr
  clear hr
  obtain ⟨v1, h2, h3⟩ := bso h1
  obtain ⟨hb, rfl⟩ := rB_in h2
  cases h3
  have hr := h0
  clear h0
  refine cl_ofN (by decide +kernel) rfl rfl (okB hb) (lo0 := [_, _, .null]) rfl ?_
  unfold g_X8_passWinter at hr
  refine n_aload_n (n := 0) (by decide +kernel) rfl ?_
  refine n_dup rfl (by decide +kernel) ?_
  refine n_getI G fl_RX8_58 hp0 hs0 (by decide +kernel) ?_
  refine n_aload_n (n := 0) (by decide +kernel) rfl ?_
  refine n_aload_n (n := 1) (by decide +kernel) rfl ?_
  refine n_bipush (n := 10) (v := 10) (by decide +kernel) rfl ?_
  obtain ⟨⟨v1, M1⟩, h1, hr⟩ := bso hr
  try dsimp only at hr
  refine n_callVi G [_, _] (x := v1) (M1 := M1) (B_X8_harmOfAll G hp0 hs0 hp1 hs1 h1) (by decide) mX8_harmOfAll ml_RX8_171 hp0 hs0 rfl rfl (Nat.le_of_ble_eq_true rfl) (by decide +kernel) ?_
  refine n_iadd (by decide +kernel) ?_
  refine n_putI G fl_RX8_58 hp0 hs0 (by decide +kernel) ?_
  refine n_iconst (n := 0) (v := 0) (by decide +kernel) rfl ?_
  refine n_istore_n (n := 2) (lo2 := [_, _, _]) (by decide +kernel) (Nat.le_of_ble_eq_true rfl) rfl ?_
  obtain ⟨M8, h8, hr⟩ := bso hr
  refine (W_X8_passWinter_b18 G hp0 hs0 hp1 hs1 h8 _ _) ?_
  dsimp only [Q_X8_passWinter_b18]
  refine n_aload_n (n := 0) (by decide +kernel) rfl ?_
  refine n_aload_n (n := 1) (by decide +kernel) rfl ?_
  obtain ⟨M9, h9, hr⟩ := bso hr
  refine n_callVv G [_] (M1 := M9) (B_X8_raiseStones G hp0 hs0 hp1 hs1 h9) (by decide) mX8_raiseStones ml_RX8_181 hp0 hs0 rfl rfl (Nat.le_of_ble_eq_true rfl) (by decide +kernel) ?_
  refine n_iconst (n := 1) (v := 1) (by decide +kernel) rfl ?_
  cases hr
  exact n_ireturn (by decide +kernel)
set_option maxRecDepth 100000 in
theorem B_X6_carryOutStep (G : GG l s0 b L xs D cy ad)  {a1 : Nat} {a2 : Nat} {x3 : Int32} {M : Mm} {r : (Int32 × Mm)} (hp0 : P 3) (hp1 : P a1) (hs1 : SH a1 = 3) (hp2 : P a2) (hs2 : SH a2 = 8) (hr : f_X6_carryOutStep a1 a2 x3 M = some r) : Cl l s0 D cy ad P 14 KX6_carryOutStep [.ref 3, .ref a1, .ref a2, .int x3] M (.inl (some (.int r.1))) (r.2) := by
  unfold f_X6_carryOutStep at hr
  obtain ⟨⟨v0, M0⟩, h0, h1⟩ := bso hr
  clear hr
  obtain ⟨v1, h2, h3⟩ := bso h1
  obtain ⟨hb, rfl⟩ := rB_in h2
  cases h3
  have hr := h0
  clear h0
  refine cl_ofN (by decide +kernel) rfl rfl (okB hb) (lo0 := [_, _, _, _, .null]) rfl ?_
  unfold g_X6_carryOutStep at hr
  refine n_aload_n (n := 0) (by decide +kernel) rfl ?_
  refine n_getF (q := 5) G fl_RX6_15 hp0 (by decide +kernel) (by decide +kernel) (by decide +kernel) (fun hp1q => ?_)
  refine n_iload_n (n := 3) (by decide +kernel) rfl ?_
  obtain ⟨v2, h2, hr⟩ := bso hr
  refine n_iald G h2 hp1q (by decide +kernel) (by decide +kernel) (by decide +kernel) ?_
  refine n_istore (n := 4) (lo2 := [_, _, _, _, _]) (by decide +kernel) (Nat.le_of_ble_eq_true rfl) rfl ?_
  refine n_aload_n (n := 0) (by decide +kernel) rfl ?_
  refine n_getF (q := 4) G fl_RX6_11 hp0 (by decide +kernel) (by decide +kernel) (by decide +kernel) (fun hp3q => ?_)
  refine n_iload_n (n := 3) (by decide +kernel) rfl ?_
  obtain ⟨v4, h4, hr⟩ := bso hr
  refine n_iald G h4 hp3q (by decide +kernel) (by decide +kernel) (by decide +kernel) ?_
  by_cases hc5 : v4 = 0
  · rw [if_pos hc5] at hr
    refine n_tabIn (dflt := 78) (lw := 0) (hi := 5) (offs := #[38, 46, 54, 60, 66, 71]) (len := 38) (off := 38) (tgt := 52) (by decide +kernel) (by rw [hc5]; decide) (by rw [hc5]; decide) (by rw [hc5]; decide) (by decide) ?_
    refine n_aload_n (n := 2) (by decide +kernel) rfl ?_
    refine n_aload_n (n := 1) (by decide +kernel) rfl ?_
    refine n_iload (n := 4) (by decide +kernel) rfl ?_
    obtain ⟨⟨v6, M6⟩, h6, hr⟩ := bso hr
    try dsimp only at hr
    refine n_callVi G [_, _] (x := v6) (M1 := M6) (B_X8_driveTo G hp2 hs2 hp1 hs1 h6) (by decide) mX8_driveTo ml_RX6_99 hp2 hs2 rfl rfl (Nat.le_of_ble_eq_true rfl) (by decide +kernel) ?_
    cases hr
    exact n_ireturn (by decide +kernel)
  rw [if_neg hc5] at hr
  by_cases hc7 : v4 = 1
  · rw [if_pos hc7] at hr
    refine n_tabIn (dflt := 78) (lw := 0) (hi := 5) (offs := #[38, 46, 54, 60, 66, 71]) (len := 38) (off := 46) (tgt := 60) (by decide +kernel) (by rw [hc7]; decide) (by rw [hc7]; decide) (by rw [hc7]; decide) (by decide) ?_
    refine n_aload_n (n := 2) (by decide +kernel) rfl ?_
    refine n_aload_n (n := 1) (by decide +kernel) rfl ?_
    refine n_iload (n := 4) (by decide +kernel) rfl ?_
    obtain ⟨⟨v8, M8⟩, h8, hr⟩ := bso hr
    try dsimp only at hr
    refine n_callVi G [_, _] (x := v8) (M1 := M8) (B_X8_liftFrom G hp2 hs2 hp1 hs1 h8) (by decide) mX8_liftFrom ml_RX6_105 hp2 hs2 rfl rfl (Nat.le_of_ble_eq_true rfl) (by decide +kernel) ?_
    cases hr
    exact n_ireturn (by decide +kernel)
  rw [if_neg hc7] at hr
  by_cases hc9 : v4 = 2
  · rw [if_pos hc9] at hr
    refine n_tabIn (dflt := 78) (lw := 0) (hi := 5) (offs := #[38, 46, 54, 60, 66, 71]) (len := 38) (off := 54) (tgt := 68) (by decide +kernel) (by rw [hc9]; decide) (by rw [hc9]; decide) (by rw [hc9]; decide) (by decide) ?_
    refine n_aload_n (n := 2) (by decide +kernel) rfl ?_
    refine n_aload_n (n := 1) (by decide +kernel) rfl ?_
    obtain ⟨⟨v10, M10⟩, h10, hr⟩ := bso hr
    try dsimp only at hr
    refine n_callVi G [_] (x := v10) (M1 := M10) (B_X8_barUp G hp2 hs2 hp1 hs1 h10) (by decide) mX8_barUp ml_RX6_108 hp2 hs2 rfl rfl (Nat.le_of_ble_eq_true rfl) (by decide +kernel) ?_
    cases hr
    exact n_ireturn (by decide +kernel)
  rw [if_neg hc9] at hr
  by_cases hc11 : v4 = 3
  · rw [if_pos hc11] at hr
    refine n_tabIn (dflt := 78) (lw := 0) (hi := 5) (offs := #[38, 46, 54, 60, 66, 71]) (len := 38) (off := 60) (tgt := 74) (by decide +kernel) (by rw [hc11]; decide) (by rw [hc11]; decide) (by rw [hc11]; decide) (by decide) ?_
    refine n_aload_n (n := 2) (by decide +kernel) rfl ?_
    refine n_aload_n (n := 1) (by decide +kernel) rfl ?_
    obtain ⟨⟨v12, M12⟩, h12, hr⟩ := bso hr
    try dsimp only at hr
    refine n_callVi G [_] (x := v12) (M1 := M12) (B_X8_bringToWall G hp2 hs2 hp1 hs1 h12) (by decide) mX8_bringToWall ml_RX6_112 hp2 hs2 rfl rfl (Nat.le_of_ble_eq_true rfl) (by decide +kernel) ?_
    cases hr
    exact n_ireturn (by decide +kernel)
  rw [if_neg hc11] at hr
  by_cases hc13 : v4 = 4
  · rw [if_pos hc13] at hr
    refine n_tabIn (dflt := 78) (lw := 0) (hi := 5) (offs := #[38, 46, 54, 60, 66, 71]) (len := 38) (off := 66) (tgt := 80) (by decide +kernel) (by rw [hc13]; decide) (by rw [hc13]; decide) (by rw [hc13]; decide) (by decide) ?_
    refine n_aload_n (n := 2) (by decide +kernel) rfl ?_
    obtain ⟨⟨v14, M14⟩, h14, hr⟩ := bso hr
    try dsimp only at hr
    refine n_callVi G [] (x := v14) (M1 := M14) (B_X8_pileUp G hp2 hs2 h14) (by decide) mX8_pileUp ml_RX6_115 hp2 hs2 rfl rfl (Nat.le_of_ble_eq_true rfl) (by decide +kernel) ?_
    cases hr
    exact n_ireturn (by decide +kernel)
  rw [if_neg hc13] at hr
  by_cases hc15 : v4 = 5
  · rw [if_pos hc15] at hr
    refine n_tabIn (dflt := 78) (lw := 0) (hi := 5) (offs := #[38, 46, 54, 60, 66, 71]) (len := 38) (off := 71) (tgt := 85) (by decide +kernel) (by rw [hc15]; decide) (by rw [hc15]; decide) (by rw [hc15]; decide) (by decide) ?_
    refine n_aload_n (n := 2) (by decide +kernel) rfl ?_
    refine n_iload (n := 4) (by decide +kernel) rfl ?_
    obtain ⟨⟨v16, M16⟩, h16, hr⟩ := bso hr
    try dsimp only at hr
    refine n_callVi G [_] (x := v16) (M1 := M16) (B_X8_giveUp G hp2 hs2 h16) (by decide) mX8_giveUp ml_RX6_118 hp2 hs2 rfl rfl (Nat.le_of_ble_eq_true rfl) (by decide +kernel) ?_
    cases hr
    exact n_ireturn (by decide +kernel)
  rw [if_neg hc15] at hr
  have e5 := ne_toInt hc5 (n := 0) rfl
  have e7 := ne_toInt hc7 (n := 1) rfl
  have e9 := ne_toInt hc9 (n := 2) rfl
  have e11 := ne_toInt hc11 (n := 3) rfl
  have e13 := ne_toInt hc13 (n := 4) rfl
  have e15 := ne_toInt hc15 (n := 5) rfl
  refine n_tabOut (dflt := 78) (lw := 0) (hi := 5) (offs := #[38, 46, 54, 60, 66, 71]) (len := 38) (tgt := 92) (by decide +kernel) (by omega) (by decide) ?_
  refine n_aload_n (n := 2) (by decide +kernel) rfl ?_
  refine n_aload_n (n := 1) (by decide +kernel) rfl ?_
  obtain ⟨⟨v17, M17⟩, h17, hr⟩ := bso hr
  try dsimp only at hr
  refine n_callVi G [_] (x := v17) (M1 := M17) (B_X8_passWinter G hp2 hs2 hp1 hs1 h17) (by decide) mX8_passWinter ml_RX6_122 hp2 hs2 rfl rfl (Nat.le_of_ble_eq_true rfl) (by decide +kernel) ?_
  cases hr
  exact n_ireturn (by decide +kernel)
set_option maxRecDepth 100000 in
theorem B_X6_passStep (G : GG l s0 b L xs D cy ad)  {x1 : Int32} {x2 : Int32} {M : Mm} {r : (Int32 × Mm)} (hp0 : P 3) (hr : f_X6_passStep x1 x2 M = some r) : Cl l s0 D cy ad P 9 KX6_passStep [.ref 3, .int x1, .int x2] M (.inl (some (.int r.1))) (r.2) := by
  refine cl_ofN (by decide +kernel) rfl rfl okI (lo0 := [_, _, _]) rfl ?_
  unfold f_X6_passStep at hr
  refine n_aload_n (n := 0) (by decide +kernel) rfl ?_
  refine n_dup rfl (by decide +kernel) ?_
  refine n_getI G fl_RX6_78 hp0 (by decide +kernel) (by decide +kernel) ?_
  refine n_iload_n (n := 1) (by decide +kernel) rfl ?_
  refine n_dia1 (J := 14) (c := x1 = 0) (a := (0 : Int32)) (b := (1 : Int32)) (fun hJ => ?_) ?_
  · refine n_if_eq (off := 7) (tgt := 13) (by decide +kernel) (by decide) (fun hc1 => ?_) (fun hc1 => ?_)
    · refine n_iconst (n := 0) (v := 0) (by decide +kernel) rfl ?_
      exact hJ _ (if_pos hc1).symm
    · refine n_iconst (n := 1) (v := 1) (by decide +kernel) rfl ?_
      refine n_goto (off := 4) (tgt := 14) (by decide +kernel) (by decide) ?_
      exact hJ _ (if_neg hc1).symm
  refine n_iadd (by decide +kernel) ?_
  refine n_putI G fl_RX6_78 hp0 (by decide +kernel) (by decide +kernel) ?_
  refine n_aload_n (n := 0) (by decide +kernel) rfl ?_
  refine n_dup rfl (by decide +kernel) ?_
  refine n_getI G fl_RX6_81 hp0 (by decide +kernel) (by decide +kernel) ?_
  refine n_iload_n (n := 1) (by decide +kernel) rfl ?_
  refine n_dia1 (J := 32) (c := x1 = 0) (a := (1 : Int32)) (b := (0 : Int32)) (fun hJ => ?_) ?_
  · refine n_if_eq (off := 7) (tgt := 31) (by decide +kernel) (by decide) (fun hc2 => ?_) (fun hc2 => ?_)
    · refine n_iconst (n := 1) (v := 1) (by decide +kernel) rfl ?_
      exact hJ _ (if_pos hc2).symm
    · refine n_iconst (n := 0) (v := 0) (by decide +kernel) rfl ?_
      refine n_goto (off := 4) (tgt := 32) (by decide +kernel) (by decide) ?_
      exact hJ _ (if_neg hc2).symm
  refine n_iadd (by decide +kernel) ?_
  refine n_putI G fl_RX6_81 hp0 (by decide +kernel) (by decide +kernel) ?_
  refine n_iload_n (n := 2) (by decide +kernel) rfl ?_
  refine n_iconst (n := 1) (v := 1) (by decide +kernel) rfl ?_
  refine n_iadd (by decide +kernel) ?_
  cases hr
  exact n_ireturn (by decide +kernel)
abbrev P_X6_carryOut_b18 (l : Launch) (s0 : State) (D : va_G) (cy : Nat → ClassId) (ad : Nat → Nat) (P : Nat → Prop) (a1 : Nat) (a2 : Nat)  (res : Rs) (M' : Mm) (s : (Int32 × Int32 × Int32 × Mm)) : Prop := Rn l s0 D cy ad P 15 KX6_carryOut 18 [.ref 3, .ref a1, .ref a2, .int (s.1), .int (s.2.1), .int (s.2.2.1)] [] (s.2.2.2) res M'
abbrev Q_X6_carryOut_b18 (l : Launch) (s0 : State) (D : va_G) (cy : Nat → ClassId) (ad : Nat → Nat) (P : Nat → Prop) (a1 : Nat) (a2 : Nat)  (res : Rs) (M' : Mm) (e : (Mm ⊕ Mm)) : Prop := (match e with | .inl e => Rn l s0 D cy ad P 15 KX6_carryOut 70 [.null, .null, .null, .null, .null, .null] [] (e) res M' | .inr e => Rn l s0 D cy ad P 15 KX6_carryOut 117 [.null, .null, .null, .null, .null, .null] [] (e) res M')
set_option maxRecDepth 100000 in
theorem B_X6_carryOut_j109 (G : GG l s0 b L xs D cy ad) {a1 : Nat} {a2 : Nat} {x3 : Int32} {x5 : Int32} {xs0 : Int32} {M : Mm}  {res : Rs} {M' : Mm} {r : ((Int32 × Int32 × Int32 × Mm) ⊕ (Mm ⊕ Mm))} (hp0 : P 3) (hp1 : P a1) (hs1 : SH a1 = 3) (hp2 : P a2) (hs2 : SH a2 = 8) (hr : f_X6_carryOut_j109 a1 a2 x3 x5 xs0 M = some r) (hk : mtc (P_X6_carryOut_b18 l s0 D cy ad P a1 a2 res M') (Q_X6_carryOut_b18 l s0 D cy ad P a1 a2 res M') r) : Rn l s0 D cy ad P 15 KX6_carryOut 109 [.ref 3, .ref a1, .ref a2, .int x3, .null, .int x5] [.int xs0] M res M' := by
  unfold f_X6_carryOut_j109 at hr
  refine n_istore (n := 4) (lo2 := [_, _, _, _, _, _]) (by decide +kernel) (Nat.le_of_ble_eq_true rfl) rfl ?_
  refine n_iincK (n := 5) (j := 1) (w := 1) (lo2 := [_, _, _, _, _, _]) (by decide +kernel) rfl rfl rfl ?_
  refine n_goto (off := -96) (tgt := 18) (by decide +kernel) (by decide) ?_
  cases hr
  exact hk
set_option maxRecDepth 100000 in
theorem B_X6_carryOut_b18 (G : GG l s0 b L xs D cy ad) {a1 : Nat} {a2 : Nat}  {res : Rs} {M' : Mm} (hp0 : P 3) (hp1 : P a1) (hs1 : SH a1 = 3) (hp2 : P a2) (hs2 : SH a2 = 8) : ∀ (s : (Int32 × Int32 × Int32 × Mm)) (r : (Int32 × Int32 × Int32 × Mm) ⊕ (Mm ⊕ Mm)), f_X6_carryOut_b18 a1 a2 s = some r → mtc (P_X6_carryOut_b18 l s0 D cy ad P a1 a2 res M') (Q_X6_carryOut_b18 l s0 D cy ad P a1 a2 res M') r → P_X6_carryOut_b18 l s0 D cy ad P a1 a2 res M' s := by
  intro s r hr hk
  obtain ⟨x3, x4, x5, M⟩ := s
  unfold f_X6_carryOut_b18 at hr
  try dsimp only at hr
  dsimp only [P_X6_carryOut_b18]
  refine n_iload (n := 5) (by decide +kernel) rfl ?_
  refine n_sipush (n := 6600) (v := 6600) (by decide +kernel) (by decide +kernel) ?_
  refine n_icmp_ge (off := 94) (tgt := 117) (by decide +kernel) (by decide) (fun hc1 => ?_) (fun hc1 => ?_)
  · rw [if_pos hc1] at hr
    cases hr
    refine n_msk [false, false, false, false, false, false] (lo2 := [.null, .null, .null, .null, .null, .null]) rfl rfl ?_
    exact hk
  · rw [if_neg hc1] at hr
    refine n_iload (n := 4) (by decide +kernel) rfl ?_
    refine n_if_lt (off := 89) (tgt := 117) (by decide +kernel) (by decide) (fun hc2 => ?_) (fun hc2 => ?_)
    · rw [if_pos hc2] at hr
      cases hr
      refine n_msk [false, false, false, false, false, false] (lo2 := [.null, .null, .null, .null, .null, .null]) rfl rfl ?_
      exact hk
    · rw [if_neg hc2] at hr
      refine n_iload (n := 4) (by decide +kernel) rfl ?_
      refine n_aload_n (n := 0) (by decide +kernel) rfl ?_
      refine n_getI G fl_RX6_24 hp0 (by decide +kernel) (by decide +kernel) ?_
      refine n_icmp_ge (off := 80) (tgt := 117) (by decide +kernel) (by decide) (fun hc3 => ?_) (fun hc3 => ?_)
      · rw [if_pos hc3] at hr
        cases hr
        refine n_msk [false, false, false, false, false, false] (lo2 := [.null, .null, .null, .null, .null, .null]) rfl rfl ?_
        exact hk
      · rw [if_neg hc3] at hr
        refine n_aload_n (n := 0) (by decide +kernel) rfl ?_
        refine n_getF (q := 4) G fl_RX6_11 hp0 (by decide +kernel) (by decide +kernel) (by decide +kernel) (fun hp4q => ?_)
        refine n_iload (n := 4) (by decide +kernel) rfl ?_
        obtain ⟨v5, h5, hr⟩ := bso hr
        refine n_iald G h5 hp4q (by decide +kernel) (by decide +kernel) (by decide +kernel) ?_
        refine n_bipush (n := 8) (v := 8) (by decide +kernel) rfl ?_
        refine n_icmp_ne (off := 14) (tgt := 63) (by decide +kernel) (by decide) (fun hc6 => ?_) (fun hc6 => ?_)
        · rw [if_neg hc6] at hr
          refine n_iload_n (n := 3) (by decide +kernel) rfl ?_
          refine n_sipush (n := 300) (v := 300) (by decide +kernel) (by decide +kernel) ?_
          refine n_icmp_ne (off := 4) (tgt := 71) (by decide +kernel) (by decide) (fun hc7 => ?_) (fun hc7 => ?_)
          · rw [if_neg hc7] at hr
            refine n_iincK (n := 3) (j := 1) (w := 1) (lo2 := [_, _, _, _, _, _]) (by decide +kernel) rfl rfl rfl ?_
            refine n_aload_n (n := 0) (by decide +kernel) rfl ?_
            refine n_getF (q := 4) G fl_RX6_11 hp0 (by decide +kernel) (by decide +kernel) (by decide +kernel) (fun hp8q => ?_)
            refine n_iload (n := 4) (by decide +kernel) rfl ?_
            obtain ⟨v9, h9, hr⟩ := bso hr
            refine n_iald G h9 hp8q (by decide +kernel) (by decide +kernel) (by decide +kernel) ?_
            refine n_bipush (n := 7) (v := 7) (by decide +kernel) rfl ?_
            refine n_icmp_ne (off := 12) (tgt := 95) (by decide +kernel) (by decide) (fun hc10 => ?_) (fun hc10 => ?_)
            · rw [if_neg hc10] at hr
              refine n_aload_n (n := 0) (by decide +kernel) rfl ?_
              refine n_aload_n (n := 0) (by decide +kernel) rfl ?_
              refine n_aload_n (n := 1) (by decide +kernel) rfl ?_
              refine n_aload_n (n := 2) (by decide +kernel) rfl ?_
              refine n_iload (n := 4) (by decide +kernel) rfl ?_
              obtain ⟨⟨v11, M11⟩, h11, hr⟩ := bso hr
              try dsimp only at hr
              refine n_callVi G [_, _, _] (x := v11) (M1 := M11) (B_X6_carryOutStep G hp0 hp1 hs1 hp2 hs2 h11) (by decide) mX6_carryOutStep ml_RX6_91 hp0 (by decide +kernel) rfl rfl (Nat.le_of_ble_eq_true rfl) (by decide +kernel) ?_
              refine n_iload (n := 4) (by decide +kernel) rfl ?_
              obtain ⟨⟨v12, M12⟩, h12, hr⟩ := bso hr
              try dsimp only at hr
              refine n_callVi G [_, _] (x := v12) (M1 := M12) (B_X6_passStep G hp0 h12) (by decide) mX6_passStep ml_RX6_95 hp0 (by decide +kernel) rfl rfl (Nat.le_of_ble_eq_true rfl) (by decide +kernel) ?_
              refine n_msk [true, true, true, true, false, true] (lo2 := [_, _, _, _, .null, _]) rfl rfl ?_
              exact B_X6_carryOut_j109 G hp0 hp1 hs1 hp2 hs2 hr hk
            · rw [if_pos hc10] at hr
              refine n_aload_n (n := 0) (by decide +kernel) rfl ?_
              refine n_iload (n := 4) (by decide +kernel) rfl ?_
              obtain ⟨⟨v13, M13⟩, h13, hr⟩ := bso hr
              try dsimp only at hr
              refine n_callVi G [_] (x := v13) (M1 := M13) (B_X6_beginLoop G hp0 h13) (by decide) mX6_beginLoop ml_RX6_88 hp0 (by decide +kernel) rfl rfl (Nat.le_of_ble_eq_true rfl) (by decide +kernel) ?_
              refine n_goto (off := 17) (tgt := 109) (by decide +kernel) (by decide) ?_
              refine n_msk [true, true, true, true, false, true] (lo2 := [_, _, _, _, .null, _]) rfl rfl ?_
              exact B_X6_carryOut_j109 G hp0 hp1 hs1 hp2 hs2 hr hk
          · rw [if_pos hc7] at hr
            cases hr
            refine n_msk [false, false, false, false, false, false] (lo2 := [.null, .null, .null, .null, .null, .null]) rfl rfl ?_
            exact hk
        · rw [if_pos hc6] at hr
          refine n_aload_n (n := 0) (by decide +kernel) rfl ?_
          refine n_iload (n := 4) (by decide +kernel) rfl ?_
          obtain ⟨⟨v14, M14⟩, h14, hr⟩ := bso hr
          try dsimp only at hr
          refine n_callVi G [_] (x := v14) (M1 := M14) (B_X6_endLoop G hp0 h14) (by decide) mX6_endLoop ml_RX6_84 hp0 (by decide +kernel) rfl rfl (Nat.le_of_ble_eq_true rfl) (by decide +kernel) ?_
          refine n_istore (n := 4) (lo2 := [_, _, _, _, _, _]) (by decide +kernel) (Nat.le_of_ble_eq_true rfl) rfl ?_
          refine n_goto (off := 51) (tgt := 111) (by decide +kernel) (by decide) ?_
          refine n_iincK (n := 5) (j := 1) (w := 1) (lo2 := [_, _, _, _, _, _]) (by decide +kernel) rfl rfl rfl ?_
          refine n_goto (off := -96) (tgt := 18) (by decide +kernel) (by decide) ?_
          cases hr
          exact hk
set_option maxRecDepth 100000 in
theorem W_X6_carryOut_b18 (G : GG l s0 b L xs D cy ad) {a1 : Nat} {a2 : Nat}  (hp0 : P 3) (hp1 : P a1) (hs1 : SH a1 = 3) (hp2 : P a2) (hs2 : SH a2 = 8) {s : (Int32 × Int32 × Int32 × Mm)} {e : (Mm ⊕ Mm)} (h : whl fu (f_X6_carryOut_b18 a1 a2) s = some e) (res : Rs) (M' : Mm) : Q_X6_carryOut_b18 l s0 D cy ad P a1 a2 res M' e → P_X6_carryOut_b18 l s0 D cy ad P a1 a2 res M' s := whl_run (P := fun s => P_X6_carryOut_b18 l s0 D cy ad P a1 a2 res M' s) (Q := fun e => Q_X6_carryOut_b18 l s0 D cy ad P a1 a2 res M' e) (B_X6_carryOut_b18 G (res := res) (M' := M') (a1 := a1) (a2 := a2) hp0 hp1 hs1 hp2 hs2) fu s h
set_option maxRecDepth 100000 in
theorem B_X6_carryOut (G : GG l s0 b L xs D cy ad)  {a1 : Nat} {a2 : Nat} {M : Mm} {r : Mm} (hp0 : P 3) (hp1 : P a1) (hs1 : SH a1 = 3) (hp2 : P a2) (hs2 : SH a2 = 8) (hr : f_X6_carryOut a1 a2 M = some r) : Cl l s0 D cy ad P 15 KX6_carryOut [.ref 3, .ref a1, .ref a2] M (.inl none) (r) := by
  refine cl_ofN (by decide +kernel) rfl rfl rfl (lo0 := [_, _, _, .null, .null, .null]) rfl ?_
  unfold f_X6_carryOut at hr
  refine n_aload_n (n := 0) (by decide +kernel) rfl ?_
  refine n_iconst (n := 0) (v := 0) (by decide +kernel) rfl ?_
  refine n_putI G fl_RX6_78 hp0 (by decide +kernel) (by decide +kernel) ?_
  refine n_aload_n (n := 0) (by decide +kernel) rfl ?_
  refine n_iconst (n := 0) (v := 0) (by decide +kernel) rfl ?_
  refine n_putI G fl_RX6_81 hp0 (by decide +kernel) (by decide +kernel) ?_
  refine n_iconst (n := 0) (v := 0) (by decide +kernel) rfl ?_
  refine n_istore_n (n := 3) (lo2 := [_, _, _, _, _, _]) (by decide +kernel) (Nat.le_of_ble_eq_true rfl) rfl ?_
  refine n_iconst (n := 0) (v := 0) (by decide +kernel) rfl ?_
  refine n_istore (n := 4) (lo2 := [_, _, _, _, _, _]) (by decide +kernel) (Nat.le_of_ble_eq_true rfl) rfl ?_
  refine n_iconst (n := 0) (v := 0) (by decide +kernel) rfl ?_
  refine n_istore (n := 5) (lo2 := [_, _, _, _, _, _]) (by decide +kernel) (Nat.le_of_ble_eq_true rfl) rfl ?_
  obtain ⟨e15, h15, hr⟩ := bso hr
  refine (W_X6_carryOut_b18 G hp0 hp1 hs1 hp2 hs2 h15 _ _) ?_
  rcases e15 with M15 | M15
  · try dsimp only at hr
    dsimp only [Q_X6_carryOut_b18]
    cases hr
    exact n_return (by decide +kernel)
  · try dsimp only at hr
    dsimp only [Q_X6_carryOut_b18]
    cases hr
    exact n_return (by decide +kernel)
end NB
