/-! level 3: a field's text: a clause -/
section FG9
variable {k : Nat} {M M2 : Mm} {q : Nat → Nat} {b : Nat → Int32} {C C' T T' N : Mm} {L p p0 p' a0 a2 n i j w h cl : Nat} {f fa lo hi v s lo0 lo1 lo2 hi0 hi1 hi2 : Int32} {r0 r : Nat → Int32} {Q Q' : Prop}
theorem x_soil (v x : Int32) : ∃ C', ((f_X9_isCell v C).bind fun v11 => (if v11 = 0 then some C else (wi C (a0 + 1) 48 v x).bind fun M14 => some M14)) = some C' ∧ Om (fun a => a = a0 + 1) C C' ∧ ∀ c, c < 48 → v = Int32.ofNat c → C' = sI C (a0 + 1) c x := by
  by_cases hv : 0 ≤ v ∧ v ≤ 47
  · obtain ⟨c, -, c2, rfl⟩ := (in_nat (lo := 0) (hi := 47) (by omega) (by omega)).mp hv
    rw [k_isCell (by omega), bsome, if_neg z10, wi_o (by omega) (by omega), bsome]
    refine ⟨_, rfl, om_si Om.refl rfl, fun c' h1 h2 => ?_⟩
    have := (oN_eq (by omega) (by omega)).mp h2
    rw [this]
  · unfold f_X9_isCell g_X9_isCell
    have no : ∀ c, c < 48 → v = Int32.ofNat c → C = sI C (a0 + 1) c x := fun c hc e => by
      exfalso
      apply hv
      rw [e]
      exact (in_nat (lo := 0) (hi := 47) (by omega) (by omega)).mpr ⟨c, by omega, by omega, rfl⟩
    by_cases h0 : v < 0
    · rw [if_pos h0]
      exact ⟨C, rfl, Om.refl, no⟩
    · rw [if_neg h0, if_pos (show (48 : Int32) ≤ v from by
        have h9 : ¬ v ≤ 47 := fun z => hv ⟨Int32.not_lt.mp h0, z⟩
        have := Int32.not_le.mp h9
        rw [Int32.lt_iff_toInt_lt] at this
        rw [Int32.le_iff_toInt_le]
        have e1 : (47 : Int32).toInt = 47 := by decide
        have e2 : (48 : Int32).toInt = 48 := by decide
        rw [e1] at this
        rw [e2]
        omega)]
      exact ⟨C, rfl, Om.refl, no⟩
/-- the end of a clause -/
theorem y_fin {A : Option Mm} {B : Option Mm} {C1 T1 : Mm} (hb : TxB b) (h0 : 2 < a0 ∧ a0 + 1 < a2 ∧ a2 + 7 < 76) (hA : A = some C1) (hB : B = (f_X10_sign 59 T1).bind fun M67 => some M67) (c1 : FcR a0 a2 C C1) (t1 : FtR T T1) (g : GX b (∃ n' w' h', FSt a0 a2 r0 cl n' w' h' C1 T1) C1 T1 L p0) : ∃ C' T', (A.bind fun M7 => (f_X7_readSign (59 : Int32) M7).bind fun M8 => some M8) = some C' ∧ B = some T' ∧ FcR a0 a2 C C' ∧ FtR T T' ∧ GX b (∃ n' w' h', FSt a0 a2 r0 cl n' w' h' C' T') C' T' L p0 := by
  obtain ⟨C7, T10, e7, e8, f7, f8, g5⟩ := x_sgn2 (x := 59) hb (by decide) g
  refine ⟨C7, T10, by rw [hA, bsome, e7, bsome], by rw [hB, e8, bsome], c1.trans f7.fc, t1.trans f8.ft, g5.mono ?_⟩
  rintro ⟨n', w', h', z⟩
  exact ⟨n', w', h', z.of (fun a ha => f7.1.at (by omega)) (fun a ha => f8.1.at (by omega)) (f8.2 7 (by omega))⟩
theorem y_soil (hb : TxB b) (h0 : 2 < a0 ∧ a0 + 1 < a2 ∧ a2 + 7 < 76) (s : FSt a0 a2 r0 cl n w h C T) (g : GX b True C T L p0) : ∃ C' T', ((f_X3_readNumbers a0 a2 2 C).bind fun M7 => (f_X7_readSign (59 : Int32) M7).bind fun M8 => some M8) = some C' ∧ ((ai T 79 10 (0 : Int32)).bind fun v47 => (ai T 79 10 (1 : Int32)).bind fun v49 => (f_X10_cellHere v47 v49 T).bind fun (v50, M50) => (f_X10_number (0 : Int32) (99 : Int32) M50).bind fun (v51, M51) => (if (mi M51 76 5) = 0 then (wi M51 81 48 v50 v51).bind fun M55 => (f_X10_sign (59 : Int32) M55).bind fun M56 => some M56 else (f_X10_sign (59 : Int32) M51).bind fun M53 => some M53)) = some T' ∧ FcR a0 a2 C C' ∧ FtR T T' ∧ GX b (∃ n' w' h', FSt a0 a2 r0 cl n' w' h' C' T') C' T' L p0 := by
  obtain ⟨⟨hw, hh⟩, ⟨t0, t1, t2⟩, -⟩ := s.1
  obtain ⟨c, C4, c', T4, e1, e2, f1, f2, g1⟩ := y_cell hb h0 s g
  obtain ⟨v, C5, v', T5, e3, e4, f3, f4, g2⟩ := x_num (lo := 0) (hi := 99) hb g1
  obtain ⟨C6, e5, o5, e6⟩ := x_soil (a0 := a0) (C := C5) c v
  have hA : f_X3_readNumbers a0 a2 2 C = some C6 := by
    unfold f_X3_readNumbers
    rw [if_neg (show ¬ (2 : Int32) = 0 by decide), if_neg (show ¬ (2 : Int32) = 1 by decide), if_pos rfl, e1, bsome]
    dsimp only
    rw [e3, bsome]
    exact e5
  have fc : FcR a0 a2 C C6 := (f1.trans f3).fc.trans ⟨o5.mono (fun a ha => by omega), fun j hj => by rw [o5.at (by omega)]⟩
  rcases g2 with ⟨p, h1, h2, ⟨-, x, y, hx, hy, rfl, rfl⟩, rfl, l1, l2⟩ | ⟨f, fa, p, p', hf, x1, x2⟩
  · have hc48 : 8 * y + x < 48 := by omega
    have sg : rg v' 0 99 := (in_nat (lo := 0) (hi := 99) (by omega) (by omega)).mp ⟨l1, l2⟩
    have := e6 (8 * y + x) hc48 rfl
    subst this
    have s5 : FSt a0 a2 r0 cl n w h C5 T5 := s.of (fun a ha => (f1.trans f3).1.at (by omega)) (fun a ha => (f2.trans f4).1.at (by omega)) ((f2.trans f4).2 7 (by omega))
    refine y_fin (T1 := sI T5 81 (8 * y + x) v') hb h0 hA ?_ fc ((f2.trans f4).ft.trans (FtR.s (Or.inr (Or.inl rfl)))) (Or.inl ⟨p, h1, h2.of (fun j _ _ => by rw [mi_sI_ne (by omega)]) (mi_sI_ne (by omega)) (fun j _ => by rw [mi_sI_ne (by omega)]) (mi_sI_ne (by omega)), n, w, h, ?_⟩)
    · rw [ai_0 (by omega), bsome, ai_1 (by omega), bsome, t0, t1, e2, bsome]
      dsimp only
      rw [e4, bsome]
      dsimp only
      rw [h2.2.1.2.2.2.2.1, if_pos rfl, wi_o hc48 (by omega), bsome]
    · obtain ⟨q1, q2, q3, q4, q5, q6⟩ := s5
      refine ⟨?_, fun t ht => ?_, fun t ht => ?_, by rw [mi_sI_ne (by omega)]; exact q4, fun t ht => ?_, ?_⟩
      · rw [mi_sI_ne (by omega), mi_sI_ne (by omega)]; exact q1
      · rw [mi_sI_ne (by omega), mi_sI_ne (by omega)]; exact q2 t ht
      · rw [mi_sI, u1_at, mi_sI, u1_at]
        by_cases e : t = 8 * y + x
        · rw [if_pos e, if_pos e]
          exact ⟨rfl, sg⟩
        · rw [if_neg e, if_neg e]
          exact q3 t ht
      · rw [mi_sI_ne (by omega)]; exact q5 t ht
      · rw [rwT_c n (fun t ht => mi_sI_ne (by omega))]
        exact q6.frame (fun t ht => mi_sI_ne (by omega))
  · refine y_fin (T1 := T5) hb h0 hA ?_ fc (f2.trans f4).ft (Or.inr ⟨f, fa, p, p', hf, x1.of (fun j _ _ => by rw [o5.at (by omega)]) (o5.at (by omega)), x2⟩)
    rw [ai_0 (by omega), bsome, ai_1 (by omega), bsome, t0, t1, e2, bsome]
    dsimp only
    rw [e4, bsome]
    dsimp only
    rw [x2.1.2.2.2.2.1, if_neg hf]
theorem y_field0 (hb : TxB b) (h0 : 2 < a0 ∧ a0 + 1 < a2 ∧ a2 + 7 < 76) (s : FSt a0 a2 r0 cl 0 w h C T) (g : GX b True C T L p0) : ∃ C' T', ((f_X3_readNumbers a0 a2 0 C).bind fun M7 => (f_X7_readSign (59 : Int32) M7).bind fun M8 => some M8) = some C' ∧ ((f_X10_number (1 : Int32) (8 : Int32) T).bind fun (v20, M20) => (wi M20 79 10 (0 : Int32) v20).bind fun M21 => (f_X10_number (1 : Int32) (6 : Int32) M21).bind fun (v23, M23) => (wi M23 79 10 (1 : Int32) v23).bind fun M24 => (f_X10_sign (59 : Int32) M24).bind fun M25 => some M25) = some T' ∧ FcR a0 a2 C C' ∧ FtR T T' ∧ GX b (∃ n' w' h', FSt a0 a2 r0 cl n' w' h' C' T') C' T' L p0 := by
  obtain ⟨v1, C1, v1', T1, e1, e2, f1, f2, g1⟩ := x_storeW hb h0 (g.mono (fun _ => s))
  have g1' : GX b (∃ w', FSt a0 a2 r0 cl 0 w' h (sI C1 a0 3 v1) (sI T1 79 0 v1')) (sI C1 a0 3 v1) (sI T1 79 0 v1') L p0 := g1
  obtain ⟨v2, C2, v2', T2, e3, e4, f3, f4, g2⟩ := x_storeH hb h0 g1'
  refine y_fin (C1 := sI C2 a0 4 v2) (T1 := sI T2 79 1 v2') hb h0 ?_ ?_ (f1.trans f3) (f2.trans f4) (g2.mono fun ⟨w', h', z⟩ => ⟨0, w', h', z⟩)
  · unfold f_X3_readNumbers
    rw [if_pos rfl, e1, bsome]
    dsimp only
    rw [e3, bsome]
  · rw [e2, bsome]
    dsimp only
    rw [wi_0 (by omega), bsome, e4, bsome]
    dsimp only
    rw [wi_1 (by omega), bsome]
theorem y_three (hb : TxB b) (h0 : 2 < a0 ∧ a0 + 1 < a2 ∧ a2 + 7 < 76) (hi : i + 2 < 7) (l0 : lo0 = Int32.ofNat (lo7 i)) (u0 : hi0 = Int32.ofNat (hi7 i)) (l1 : lo1 = Int32.ofNat (lo7 (i + 1))) (u1 : hi1 = Int32.ofNat (hi7 (i + 1))) (l2 : lo2 = Int32.ofNat (lo7 (i + 2))) (u2 : hi2 = Int32.ofNat (hi7 (i + 2))) (s : FSt a0 a2 r0 cl n w h C T) (g : GX b True C T L p0) : ∃ C' T', ((f_X7_readNumber lo0 hi0 C).bind fun (v16, M16) => (f_X7_readNumber lo1 hi1 (sI M16 a0 (5 + i) v16)).bind fun (v17, M17) => (f_X7_readNumber lo2 hi2 (sI M17 a0 (5 + (i + 1)) v17)).bind fun (v18, M18) => some (sI M18 a0 (5 + (i + 2)) v18)) = some C' ∧ ((f_X10_number lo0 hi0 T).bind fun (v59, M59) => (wi M59 79 10 (Int32.ofNat (3 + i)) v59).bind fun M60 => (f_X10_number lo1 hi1 M60).bind fun (v62, M62) => (wi M62 79 10 (Int32.ofNat (3 + (i + 1))) v62).bind fun M63 => (f_X10_number lo2 hi2 M63).bind fun (v65, M65) => (wi M65 79 10 (Int32.ofNat (3 + (i + 2))) v65).bind fun M66 => (f_X10_sign (59 : Int32) M66).bind fun M67 => some M67) = ((f_X10_sign 59 T').bind fun M67 => some M67) ∧ FcR a0 a2 C C' ∧ FtR T T' ∧ GX b (∃ n' w' h', FSt a0 a2 r0 cl n' w' h' C' T') C' T' L p0 := by
  obtain ⟨v1, C1, v1', T1, e1, e2, f1, f2, g1⟩ := x_store (i := i) hb h0 (by omega) l0 u0 (g.mono (fun _ => s))
  obtain ⟨v2, C2, v2', T2, e3, e4, f3, f4, g2⟩ := x_store (i := i + 1) hb h0 (by omega) l1 u1 g1
  obtain ⟨v3, C3, v3', T3, e5, e6, f5, f6, g3⟩ := x_store (i := i + 2) hb h0 (by omega) l2 u2 g2
  refine ⟨_, sI T3 79 (3 + (i + 2)) v3', ?_, ?_, (f1.trans f3).trans f5, (f2.trans f4).trans f6, g3.mono (fun z => ⟨n, w, h, z⟩)⟩
  · rw [e1, bsome]
    dsimp only
    rw [e3, bsome]
    dsimp only
    rw [e5, bsome]
  · rw [e2, bsome]
    dsimp only
    rw [wi_o (by omega) (by omega), bsome, e4, bsome]
    dsimp only
    rw [wi_o (by omega) (by omega), bsome, e6, bsome]
    dsimp only
    rw [wi_o (by omega) (by omega), bsome]
theorem y_lads (hb : TxB b) (h0 : 2 < a0 ∧ a0 + 1 < a2 ∧ a2 + 7 < 76) (s : FSt a0 a2 r0 cl n w h C T) (g : GX b True C T L p0) : ∃ C' T', ((f_X3_readNumbers a0 a2 3 C).bind fun M7 => (f_X7_readSign (59 : Int32) M7).bind fun M8 => some M8) = some C' ∧ ((f_X10_number (1 : Int32) (6 : Int32) T).bind fun (v59, M59) => (wi M59 79 10 (3 : Int32) v59).bind fun M60 => (f_X10_number (1 : Int32) (9 : Int32) M60).bind fun (v62, M62) => (wi M62 79 10 (4 : Int32) v62).bind fun M63 => (f_X10_number (1 : Int32) (9 : Int32) M63).bind fun (v65, M65) => (wi M65 79 10 (5 : Int32) v65).bind fun M66 => (f_X10_sign (59 : Int32) M66).bind fun M67 => some M67) = some T' ∧ FcR a0 a2 C C' ∧ FtR T T' ∧ GX b (∃ n' w' h', FSt a0 a2 r0 cl n' w' h' C' T') C' T' L p0 := by
  obtain ⟨C1, T1, e1, e2, f1, f2, g1⟩ := y_three (i := 0) (lo0 := 1) (hi0 := 6) (lo1 := 1) (hi1 := 9) (lo2 := 1) (hi2 := 9) hb h0 (by omega) rfl rfl rfl rfl rfl rfl s g
  refine y_fin hb h0 ?_ e2 f1 f2 g1
  unfold f_X3_readNumbers
  rw [if_neg (show ¬ (3 : Int32) = 0 by decide), if_neg (show ¬ (3 : Int32) = 1 by decide), if_neg (show ¬ (3 : Int32) = 2 by decide), if_pos rfl]
  exact e1
theorem y_sledge (hb : TxB b) (h0 : 2 < a0 ∧ a0 + 1 < a2 ∧ a2 + 7 < 76) (s : FSt a0 a2 r0 cl n w h C T) (g : GX b True C T L p0) : ∃ C' T', ((f_X3_readNumbers a0 a2 4 C).bind fun M7 => (f_X7_readSign (59 : Int32) M7).bind fun M8 => some M8) = some C' ∧ ((f_X10_number (0 : Int32) (60 : Int32) T).bind fun (v70, M70) => (wi M70 79 10 (6 : Int32) v70).bind fun M71 => (f_X10_number (1 : Int32) (9 : Int32) M71).bind fun (v73, M73) => (wi M73 79 10 (7 : Int32) v73).bind fun M74 => (f_X10_number (1 : Int32) (99 : Int32) M74).bind fun (v76, M76) => (wi M76 79 10 (8 : Int32) v76).bind fun M77 => (f_X10_sign (59 : Int32) M77).bind fun M78 => some M78) = some T' ∧ FcR a0 a2 C C' ∧ FtR T T' ∧ GX b (∃ n' w' h', FSt a0 a2 r0 cl n' w' h' C' T') C' T' L p0 := by
  obtain ⟨C1, T1, e1, e2, f1, f2, g1⟩ := y_three (i := 3) (lo0 := 0) (hi0 := 60) (lo1 := 1) (hi1 := 9) (lo2 := 1) (hi2 := 99) hb h0 (by omega) rfl rfl rfl rfl rfl rfl s g
  refine y_fin hb h0 ?_ e2 f1 f2 g1
  unfold f_X3_readNumbers
  rw [if_neg (show ¬ (4 : Int32) = 0 by decide), if_neg (show ¬ (4 : Int32) = 1 by decide), if_neg (show ¬ (4 : Int32) = 2 by decide), if_neg (show ¬ (4 : Int32) = 3 by decide), if_pos rfl]
  exact e1
theorem y_bar (hb : TxB b) (h0 : 2 < a0 ∧ a0 + 1 < a2 ∧ a2 + 7 < 76) (s : FSt a0 a2 r0 cl n w h C T) (g : GX b True C T L p0) : ∃ C' T', ((f_X3_readNumbers a0 a2 5 C).bind fun M7 => (f_X7_readSign (59 : Int32) M7).bind fun M8 => some M8) = some C' ∧ ((f_X10_number (1 : Int32) (30 : Int32) T).bind fun (v80, M80) => (wi M80 79 10 (9 : Int32) v80).bind fun M81 => (f_X10_sign (59 : Int32) M81).bind fun M82 => some M82) = some T' ∧ FcR a0 a2 C C' ∧ FtR T T' ∧ GX b (∃ n' w' h', FSt a0 a2 r0 cl n' w' h' C' T') C' T' L p0 := by
  obtain ⟨v1, C1, v1', T1, e1, e2, f1, f2, g1⟩ := x_store (i := 6) (lo := 1) (hi := 30) hb h0 (by omega) rfl rfl (g.mono (fun _ => s))
  refine y_fin hb h0 (C1 := sI C1 a0 (5 + 6) v1) (T1 := sI T1 79 (3 + 6) v1') ?_ ?_ f1 f2 (g1.mono (fun z => ⟨n, w, h, z⟩))
  · unfold f_X3_readNumbers
    rw [if_neg (show ¬ (5 : Int32) = 0 by decide), if_neg (show ¬ (5 : Int32) = 1 by decide), if_neg (show ¬ (5 : Int32) = 2 by decide), if_neg (show ¬ (5 : Int32) = 3 by decide), if_neg (show ¬ (5 : Int32) = 4 by decide), e1, bsome]
  · rw [e2, bsome]
    dsimp only
    rw [show wi T1 79 10 9 v1' = some (sI T1 79 9 v1') from wi_o (i := 9) (by omega) (by omega), bsome]
end FG9
