/-! level 3: a field's text: clauses -/
section FE
variable {k : Nat} {M M2 : Mm} {q : Nat → Nat} {b : Nat → Int32} {C C' T T' N : Mm} {L p p0 p' a0 a2 n i j w h cl : Nat} {f fa lo hi v s : Int32} {r0 r : Nat → Int32} {Q Q' : Prop}
theorem x_addS {a : Nat} (hV : VR w h r) (hW : RW C a r) (v s : Int32) : ∃ C', f_X8_addStone a v s C = some C' ∧ Om (fun b => a ≤ b ∧ b ≤ a + 7) C C' := by
  by_cases hv : 0 ≤ v ∧ v ≤ 47
  · obtain ⟨c, -, c2, rfl⟩ := (in_nat (lo := 0) (hi := 47) (by omega) (by omega)).mp hv
    obtain ⟨C', e1, e2, -⟩ := k_addStone (x := c % 8) (y := c / 8) (s := s) hV hW (by omega) (by omega)
    rw [show 8 * (c / 8) + c % 8 = c by omega] at e1
    exact ⟨C', e1, e2⟩
  · unfold f_X8_addStone f_X9_isCell g_X9_isCell
    by_cases h6 : (60 : Int32) ≤ mi C a 8
    · rw [if_pos h6]
      exact ⟨C, rfl, Om.refl⟩
    · rw [if_neg h6]
      by_cases h0 : v < 0
      · rw [if_pos h0]
        exact ⟨C, rfl, Om.refl⟩
      · rw [if_neg h0, if_pos (show (48 : Int32) ≤ v from by
          have h9 : ¬ v ≤ 47 := fun z => hv ⟨Int32.not_lt.mp h0, z⟩
          have := Int32.not_le.mp h9
          rw [Int32.lt_iff_toInt_lt] at this
          rw [Int32.le_iff_toInt_le]
          have e1 : (47 : Int32).toInt = 47 := by decide
          have e2 : (48 : Int32).toInt = 48 := by decide
          rw [e1] at this
          rw [e2]
          omega)]
        exact ⟨C, rfl, Om.refl⟩
theorem GX.f0 (g : GX b Q C T L p0) : GX b (Q ∧ mi T 76 5 = 0) C T L p0 := by
  rcases g with ⟨p, h1, h2, h3⟩ | h
  · exact Or.inl ⟨p, h1, h2, h3, h2.2.1.2.2.2.2.1⟩
  · exact Or.inr h
theorem GX.mono (g : GX b Q C T L p0) (hQ : Q → Q') : GX b Q' C T L p0 := by
  rcases g with ⟨p, h1, h2, h3⟩ | h
  · exact Or.inl ⟨p, h1, h2, hQ h3⟩
  · exact Or.inr h
theorem ofN1 {n : Nat} (h : 1 ≤ n) (h9 : n < 1000) : Int32.ofNat n - 1 = Int32.ofNat (n - 1) := oN_sub (a := n) (b := 1) h (by omega)
theorem y_cell (hb : TxB b) (h0 : 2 < a0 ∧ a0 + 1 < a2 ∧ a2 + 7 < 76) (s : FSt a0 a2 r0 cl n w h C T) (g : GX b Q C T L p0) : ∃ c C' c' T', f_X3_readCell a0 C = some (c, C') ∧ f_X10_cellHere (Int32.ofNat w) (Int32.ofNat h) T = some (c', T') ∧ CFr C C' ∧ TFr T T' ∧ GX b (Q ∧ ∃ x y : Nat, x < w ∧ y < h ∧ c = Int32.ofNat (8 * y + x) ∧ c' = c) C' T' L p0 := by
  obtain ⟨⟨⟨w1, w2⟩, h1, h2⟩, -, c3, c4⟩ := s.1
  obtain ⟨v1, C1, v1', T1, e1, e2, f1, f2, g1⟩ := x_num (lo := 0) (hi := Int32.ofNat (w - 1)) hb g
  obtain ⟨v2, C2, v2', T2, e3, e4, f3, f4, g2⟩ := x_num (lo := 0) (hi := Int32.ofNat (h - 1)) hb g1
  have c4' : mi C1 a0 4 = Int32.ofNat h := by rw [f1.1.at (by omega)]; exact c4
  refine ⟨8 * v2 + v1, C2, 8 * v2' + v1', T2, ?_, ?_, f1.trans f3, f2.trans f4, g2.mono ?_⟩
  · unfold f_X3_readCell f_X9_cellAt
    rw [c3, ofN1 w1 (by omega), e1, bsome]
    dsimp only
    rw [c4', ofN1 h1 (by omega), e3, bsome]
    rfl
  · unfold f_X10_cellHere
    rw [ofN1 w1 (by omega), e2, bsome]
    dsimp only
    rw [ofN1 h1 (by omega), e4, bsome]
  · rintro ⟨⟨hQ, rfl, l1, l2⟩, rfl, l3, l4⟩
    obtain ⟨x, -, x2, rfl⟩ := (in_nat (lo := 0) (hi := w - 1) (by omega) (by omega)).mp ⟨l1, l2⟩
    obtain ⟨y, -, y2, rfl⟩ := (in_nat (lo := 0) (hi := h - 1) (by omega) (by omega)).mp ⟨l3, l4⟩
    exact ⟨hQ, x, y, by omega, by omega, kcel, rfl⟩
theorem ar_83 (hn : n < 30) : ar 83 30 (Int32.ofNat n) = some (84 + n) := by rw [ar_o hn (by omega)]
theorem wi_0 {a m : Nat} {x : Int32} (hm : 0 < m ∧ m < 1000) : wi N a m 0 x = some (sI N a 0 x) := wi_o (i := 0) hm.1 (by omega)
theorem wi_1 {a m : Nat} {x : Int32} (hm : 1 < m ∧ m < 1000) : wi N a m 1 x = some (sI N a 1 x) := wi_o (i := 1) hm.1 (by omega)
theorem wi_2 {a m : Nat} {x : Int32} (hm : 2 < m ∧ m < 1000) : wi N a m 2 x = some (sI N a 2 x) := wi_o (i := 2) hm.1 (by omega)
theorem ai_0 {a m : Nat} (hm : 0 < m ∧ m < 1000) : ai N a m 0 = some (mi N a 0) := ai_o (i := 0) hm.1 (by omega)
theorem ai_1 {a m : Nat} (hm : 1 < m ∧ m < 1000) : ai N a m 1 = some (mi N a 1) := ai_o (i := 1) hm.1 (by omega)
theorem ai_2 {a m : Nat} (hm : 2 < m ∧ m < 1000) : ai N a m 2 = some (mi N a 2) := ai_o (i := 2) hm.1 (by omega)
/-- the ground told, or a world with one stone more -/
theorem y_stone (hb : TxB b) (hr : ∀ j, j < 415 → r0 j = 0) (h0 : 2 < a0 ∧ a0 + 1 < a2 ∧ a2 + 7 < 76) (hn : n < 30) (hcl : n + 1 ≤ cl) (s : FSt a0 a2 r0 cl n w h C T) (g : GX b True C T L p0) : ∃ C' T', ((f_X3_readNumbers a0 a2 1 C).bind fun M7 => (f_X7_readSign (59 : Int32) M7).bind fun M8 => some M8) = some C' ∧ ((ai T 79 10 (0 : Int32)).bind fun v28 => (ai T 79 10 (1 : Int32)).bind fun v30 => (f_X10_cellHere v28 v30 T).bind fun (v31, M31) => (ai M31 79 10 (2 : Int32)).bind fun v34 => (ar 83 30 v34).bind fun q35 => (wi M31 q35 3 (0 : Int32) (v31 - v31 / (8 : Int32) * (8 : Int32))).bind fun M36 => (wi M36 q35 3 (1 : Int32) (v31 / (8 : Int32))).bind fun M37 => (f_X10_number (1 : Int32) (9 : Int32) M37).bind fun (v38, M38) => (wi M38 q35 3 (2 : Int32) v38).bind fun M39 => (ai M39 79 10 (2 : Int32)).bind fun v41 => (wi M39 79 10 (2 : Int32) (v41 + (if (mi M39 76 5) = 0 then (1 : Int32) else (0 : Int32)))).bind fun M43 => (f_X10_sign (59 : Int32) M43).bind fun M44 => some M44) = some T' ∧ FcR a0 a2 C C' ∧ FtR T T' ∧ GX b (∃ n' w' h', FSt a0 a2 r0 cl n' w' h' C' T') C' T' L p0 := by
  obtain ⟨hVn, hNn, -⟩ := rwT_vr hr s.1.1 n (by omega) s.2.2.2.2.1
  obtain ⟨⟨hw, hh⟩, ⟨t0, t1, t2⟩, -⟩ := s.1
  obtain ⟨c, C4, c', T4, e1, e2, f1, f2, g1⟩ := y_cell hb h0 s g
  have sC4 : FSt a0 a2 r0 cl n w h C4 T4 := s.of (fun a ha => f1.1.at (by omega)) (fun a ha => f2.1.at (by omega)) (f2.2 7 (by omega))
  have u2 : mi T4 79 2 = Int32.ofNat n := sC4.1.2.1.2.2
  generalize hT6 : sI (sI T4 (84 + n) 0 (c' - c' / (8 : Int32) * (8 : Int32))) (84 + n) 1 (c' / (8 : Int32)) = T6
  have o6 : Om (fun a => a = 84 + n) T4 T6 := by rw [← hT6]; exact om_si (om_si Om.refl rfl) rfl
  obtain ⟨v, C5, v', T7, e3, e4, f3, f4, g2⟩ := x_num (lo := 1) (hi := 9) hb (g1.of (C' := C4) (T' := T6) (Q' := True ∧ ∃ x y : Nat, x < w ∧ y < h ∧ c = Int32.ofNat (8 * y + x) ∧ c' = c) (fun _ _ _ => rfl) rfl (fun j hj => by rw [o6.at (by omega)]) (o6.at (by omega)) (fun z => z))
  have hRF5 : RF C5 a2 (rwT T r0 n) := s.2.2.2.2.2.frame (fun j hj => ((f1.trans f3).1.at (by omega)))
  obtain ⟨C6, e5, o5⟩ := x_addS hVn hRF5.1 c v
  have g3 := g2.f0
  have d2 : mi (sI T7 (84 + n) 2 v') 79 2 = Int32.ofNat n := by rw [mi_sI_ne (by omega), f4.1.at (by omega), o6.at (by omega)]; exact u2
  have d5 : mi (sI T7 (84 + n) 2 v') 76 5 = mi T7 76 5 := by rw [mi_sI_ne (by omega)]
  generalize hT9 : sI (sI T7 (84 + n) 2 v') 79 2 (Int32.ofNat n + if mi (sI T7 (84 + n) 2 v') 76 5 = 0 then 1 else 0) = T9
  have e9 : ∀ a, a ≠ 79 → a ≠ 84 + n → mi T9 a = mi T7 a := fun a h1 h2 => by rw [← hT9, mi_sI_ne h1, mi_sI_ne h2]
  have e9' : ∀ a, a ≠ 79 → a ≠ 84 + n → a ≠ 76 → mi T9 a = mi T a := fun a h1 h2 h3 => by rw [e9 a h1 h2, f4.1.at h3, o6.at h2, f2.1.at h3]
  have g4 : GX b (∃ n' w' h', FSt a0 a2 r0 cl n' w' h' C6 T9) C6 T9 L p0 := by
    refine g3.of (fun j _ _ => by rw [o5.at (by omega)]) (o5.at (by omega)) (fun j _ => by rw [e9 76 (by omega) (by omega)]) (e9 77 (by omega) (by omega)) ?_
    rintro ⟨⟨⟨-, x, y, hx, hy, rfl, rfl⟩, rfl, l1, l2⟩, hf⟩
    have hc48 : 8 * y + x < 48 := by omega
    have sg : rg v' 1 9 := (in_nat (lo := 1) (hi := 9) (by omega) (by omega)).mp ⟨l1, l2⟩
    obtain ⟨C6', k1, -, k3, k4, k5⟩ := k_addStone (x := x) (y := y) (s := v') hVn hRF5.1 (by omega) (by omega)
    have : C6' = C6 := Option.some.inj (k1.symm.trans e5)
    subst this
    have eN0 : mi T9 (84 + n) 0 = Int32.ofNat x := by
      rw [← hT9, mi_sI_ne (by omega), mi_sI_o (by omega), f4.1.at (by omega), ← hT6, mi_sI_o (by omega), mi_sI_k, kmod _ hc48, show (8 * y + x) % 8 = x by omega]
    have eN1 : mi T9 (84 + n) 1 = Int32.ofNat y := by
      rw [← hT9, mi_sI_ne (by omega), mi_sI_o (by omega), f4.1.at (by omega), ← hT6, mi_sI_k, kdiv _ hc48, show (8 * y + x) / 8 = y by omega]
    have eN2 : mi T9 (84 + n) 2 = v' := by rw [← hT9, mi_sI_ne (by omega), mi_sI_k]
    have e79 : ∀ j, mi T9 79 j = if j = 2 then Int32.ofNat (n + 1) else mi T 79 j := fun j => by
      rw [← hT9, mi_sI, u1_at, d5, hf, if_pos rfl, oN_S, mi_sI_ne (by omega), f4.1.at (by omega), o6.at (by omega), f2.1.at (by omega)]
    have e76 : mi T9 76 7 = mi T 76 7 := by rw [e9 76 (by omega) (by omega), f4.2 7 (by omega), o6.at (by omega), f2.2 7 (by omega)]
    have eC : ∀ a, (a = a0 ∨ a = a0 + 1) → mi C6' a = mi C a := fun a ha => by rw [o5.at (by omega), (f1.trans f3).1.at (by omega)]
    obtain ⟨q1, q2, q3, q4, q5, q6⟩ := s
    refine ⟨n + 1, w, h, ?_, fun t ht => ?_, ?_, ⟨by omega, by omega, by rw [e76]; exact q4.2.2⟩, fun t ht => ?_, ?_⟩
    · rw [e79, e79, e79, if_neg (by omega), if_neg (by omega), if_pos rfl, eC a0 (Or.inl rfl)]
      exact ⟨q1.1, ⟨t0, t1, rfl⟩, q1.2.2⟩
    · rw [e79, if_neg (by omega), eC a0 (Or.inl rfl)]
      exact q2 t ht
    · rw [eC (a0 + 1) (Or.inr rfl), e9' 81 (by omega) (by omega) (by omega)]
      exact q3
    · by_cases e : t = n
      · subst e
        exact ⟨x, y, hx, hy, eN0, eN1, by rw [eN2]; exact sg⟩
      · rw [e9' (84 + t) (by omega) (by omega) (by omega)]
        exact q5 t (by omega)
    · rw [rwT_s, eN0, eN1, eN2, rwT_c n (fun t ht => e9' (84 + t) (by omega) (by omega) (by omega)), show nn9 (Int32.ofNat x) = x from oN_nat (by omega), show nn9 (Int32.ofNat y) = y from oN_nat (by omega)]
      exact ⟨k3, k4 hRF5.2.1, k5 hRF5.2.2⟩
  obtain ⟨C7, T10, e7, e8, f7, f8, g5⟩ := x_sgn2 (x := 59) hb (by decide) g4
  refine ⟨C7, T10, ?_, ?_, ((f1.trans f3).fc.trans ⟨o5.mono (fun a ha => by omega), fun j hj => by rw [o5.at (by omega)]⟩).trans f7.fc, (f2.ft.trans ⟨o6.mono (fun a ha => by omega), fun j hj => by rw [o6.at (by omega)]⟩).trans ((f4.ft.trans ?_).trans f8.ft), g5.mono ?_⟩
  · unfold f_X3_readNumbers
    rw [if_neg z10, if_pos rfl, e1, bsome]
    dsimp only
    rw [e3, bsome]
    dsimp only
    rw [e5, bsome, bsome, e7, bsome]
  · rw [ai_0 (by omega), bsome, ai_1 (by omega), bsome, t0, t1, e2, bsome]
    dsimp only
    rw [ai_2 (by omega), bsome, u2, ar_83 hn, bsome, wi_0 (by omega), bsome, wi_1 (by omega), bsome, hT6, e4, bsome]
    dsimp only
    rw [wi_2 (by omega), bsome, ai_2 (by omega), bsome, wi_2 (by omega), bsome, d2, hT9, e8, bsome]
  · rw [← hT9]
    exact (FtR.s (Or.inr (Or.inr (by omega)))).trans (FtR.s (Or.inl rfl))
  · rintro ⟨n', w', h', z⟩
    exact ⟨n', w', h', z.of (fun a ha => f7.1.at (by omega)) (fun a ha => f8.1.at (by omega)) (f8.2 7 (by omega))⟩
end FE
