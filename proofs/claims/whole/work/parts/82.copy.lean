/-! level 3: a world written into numbers and read back -/
section CP
theorem oN_A {a b : Nat} : Int32.ofNat a + Int32.ofNat b = Int32.ofNat (a + b) := (Int32.ofNat_add a b).symm
theorem oN_sub {a b : Nat} (h1 : b ≤ a) (h : a < 2147483648) : Int32.ofNat a - Int32.ofNat b = Int32.ofNat (a - b) := by
  apply Int32.toInt_inj.mp
  rw [Int32.toInt_sub, oN_int h, oN_int (by omega), oN_int (by omega)]
  have e2 : (a : Int) - (b : Int) = ((a - b : Nat) : Int) := by omega
  rw [e2]
  exact Int.bmod_eq_of_le_mul_two (by omega) (by omega)
theorem cpy_o {M : Mm} {a0 n0 sp a n1 dp n : Nat} (h1 : sp + n ≤ n0) (h2 : dp + n ≤ n1) (h3 : n0 ≤ 1000000) (h4 : n1 ≤ 1000000) : ∃ M', cpy M a0 n0 (Int32.ofNat sp) a n1 (Int32.ofNat dp) (Int32.ofNat n) = some M' ∧ Om (fun b => b = a) M M' ∧ (∀ k, k < n → mi M' a (dp + k) = mi M a0 (sp + k)) ∧ (∀ j, (j < dp ∨ dp + n ≤ j) → mi M' a j = mi M a j) := by
  refine ⟨sA M a (va_cpy (mi M a0) (mi M a) sp dp n), ?_, Om.sA rfl, fun k hk => ?_, fun j hj => ?_⟩
  · unfold cpy
    rw [oN_nat (by omega), oN_nat (by omega), oN_nat (by omega), if_neg]
    rintro (z | z | z | z | z)
    · exact oN_nn (by omega) z
    · exact oN_nn (by omega) z
    · exact oN_nn (by omega) z
    · omega
    · omega
  · rw [mi_sA]
    unfold va_cpy
    rw [if_pos (by omega), show sp + (dp + k - dp) = sp + k by omega]
  · rw [mi_sA]
    unfold va_cpy
    rw [if_neg (by omega)]
theorem w1_o {M : Mm} {a n i : Nat} {x : Int32} (h : i < n) (hn : n ≤ 1000000) : ∃ M', wi M a n (Int32.ofNat i) x = some M' ∧ Om (fun b => b = a) M M' ∧ mi M' a i = x ∧ (∀ j, j ≠ i → mi M' a j = mi M a j) := ⟨_, wi_o h hn, Om.sI rfl, mi_sI_k, fun _ hj => mi_sI_o hj⟩
theorem k_writeTo {C : Mm} {a b o : Nat} (hab : ¬ (a ≤ b ∧ b ≤ a + 7)) (hL : o + 393 ≤ LN b) (hb : LN b ≤ 1000000) : ∃ C', f_X8_writeTo a b (Int32.ofNat o) C = some C' ∧ Om (fun x => x = b) C C' ∧ PK (fun k => mi C' b (o + k)) C a ∧ ∀ j, (j < o ∨ o + 393 ≤ j) → mi C' b j = mi C b j := by
  unfold f_X8_writeTo
  rw [if_neg (oN_nn (by omega)), show Int32.ofNat (LN b) - 393 = Int32.ofNat (LN b - 393) from oN_sub (b := 393) (by omega) (by omega), if_pos ((oN_le (by omega) (by omega)).mpr (by omega))]
  rw [show Int32.ofNat o + 60 = Int32.ofNat (o + 60) from oN_A (b := 60), show Int32.ofNat o + 120 = Int32.ofNat (o + 120) from oN_A (b := 120), show Int32.ofNat o + 180 = Int32.ofNat (o + 180) from oN_A (b := 180), show Int32.ofNat o + 240 = Int32.ofNat (o + 240) from oN_A (b := 240)]
  rw [show Int32.ofNat (o + 240) + 48 = Int32.ofNat (o + 288) from oN_A (b := 48), show Int32.ofNat (o + 240) + 96 = Int32.ofNat (o + 336) from oN_A (b := 96), show Int32.ofNat (o + 240) + 144 = Int32.ofNat (o + 384) from oN_A (b := 144)]
  rw [show Int32.ofNat (o + 384) + 1 = Int32.ofNat (o + 385) from oN_A (b := 1), show Int32.ofNat (o + 384) + 2 = Int32.ofNat (o + 386) from oN_A (b := 2), show Int32.ofNat (o + 384) + 3 = Int32.ofNat (o + 387) from oN_A (b := 3), show Int32.ofNat (o + 384) + 4 = Int32.ofNat (o + 388) from oN_A (b := 4), show Int32.ofNat (o + 384) + 5 = Int32.ofNat (o + 389) from oN_A (b := 5), show Int32.ofNat (o + 384) + 6 = Int32.ofNat (o + 390) from oN_A (b := 6), show Int32.ofNat (o + 384) + 7 = Int32.ofNat (o + 391) from oN_A (b := 7), show Int32.ofNat (o + 384) + 8 = Int32.ofNat (o + 392) from oN_A (b := 8)]
  obtain ⟨C1, e1, O1, v1, p1⟩ := cpy_o (M := C) (a0 := a + 1) (n0 := 60) (sp := 0) (a := b) (n1 := LN b) (dp := o + 0) (n := 60) (by omega) (by omega) (by omega) hb
  rw [show cpy C (a + 1) 60 0 b (LN b) (Int32.ofNat o) 60 = some C1 from e1, bsome]
  obtain ⟨C2, e2, O2, v2, p2⟩ := cpy_o (M := C1) (a0 := a + 2) (n0 := 60) (sp := 0) (a := b) (n1 := LN b) (dp := o + 60) (n := 60) (by omega) (by omega) (by omega) hb
  rw [show cpy C1 (a + 2) 60 0 b (LN b) (Int32.ofNat (o + 60)) 60 = some C2 from e2, bsome]
  obtain ⟨C3, e3, O3, v3, p3⟩ := cpy_o (M := C2) (a0 := a + 3) (n0 := 60) (sp := 0) (a := b) (n1 := LN b) (dp := o + 120) (n := 60) (by omega) (by omega) (by omega) hb
  rw [show cpy C2 (a + 3) 60 0 b (LN b) (Int32.ofNat (o + 120)) 60 = some C3 from e3, bsome]
  obtain ⟨C4, e4, O4, v4, p4⟩ := cpy_o (M := C3) (a0 := a + 4) (n0 := 60) (sp := 0) (a := b) (n1 := LN b) (dp := o + 180) (n := 60) (by omega) (by omega) (by omega) hb
  rw [show cpy C3 (a + 4) 60 0 b (LN b) (Int32.ofNat (o + 180)) 60 = some C4 from e4, bsome]
  obtain ⟨C5, e5, O5, v5, p5⟩ := cpy_o (M := C4) (a0 := a + 5) (n0 := 48) (sp := 0) (a := b) (n1 := LN b) (dp := o + 240) (n := 48) (by omega) (by omega) (by omega) hb
  rw [show cpy C4 (a + 5) 48 0 b (LN b) (Int32.ofNat (o + 240)) 48 = some C5 from e5, bsome]
  obtain ⟨C6, e6, O6, v6, p6⟩ := cpy_o (M := C5) (a0 := a + 6) (n0 := 48) (sp := 0) (a := b) (n1 := LN b) (dp := o + 288) (n := 48) (by omega) (by omega) (by omega) hb
  rw [show cpy C5 (a + 6) 48 0 b (LN b) (Int32.ofNat (o + 288)) 48 = some C6 from e6, bsome]
  obtain ⟨C7, e7, O7, v7, p7⟩ := cpy_o (M := C6) (a0 := a + 7) (n0 := 48) (sp := 0) (a := b) (n1 := LN b) (dp := o + 336) (n := 48) (by omega) (by omega) (by omega) hb
  rw [show cpy C6 (a + 7) 48 0 b (LN b) (Int32.ofNat (o + 336)) 48 = some C7 from e7, bsome]
  obtain ⟨C8, e8, O8, v8, p8⟩ := w1_o (M := C7) (a := b) (n := LN b) (i := o + 384) (x := mi C7 a 7) (by omega) hb
  rw [e8, bsome]
  obtain ⟨C9, e9, O9, v9, p9⟩ := w1_o (M := C8) (a := b) (n := LN b) (i := o + 385) (x := mi C8 a 8) (by omega) hb
  rw [e9, bsome]
  obtain ⟨C10, e10, O10, v10, p10⟩ := w1_o (M := C9) (a := b) (n := LN b) (i := o + 386) (x := mi C9 a 9) (by omega) hb
  rw [e10, bsome]
  obtain ⟨C11, e11, O11, v11, p11⟩ := w1_o (M := C10) (a := b) (n := LN b) (i := o + 387) (x := mi C10 a 10) (by omega) hb
  rw [e11, bsome]
  obtain ⟨C12, e12, O12, v12, p12⟩ := w1_o (M := C11) (a := b) (n := LN b) (i := o + 388) (x := mi C11 a 11) (by omega) hb
  rw [e12, bsome]
  obtain ⟨C13, e13, O13, v13, p13⟩ := w1_o (M := C12) (a := b) (n := LN b) (i := o + 389) (x := mi C12 a 12) (by omega) hb
  rw [e13, bsome]
  obtain ⟨C14, e14, O14, v14, p14⟩ := w1_o (M := C13) (a := b) (n := LN b) (i := o + 390) (x := mi C13 a 13) (by omega) hb
  rw [e14, bsome]
  obtain ⟨C15, e15, O15, v15, p15⟩ := w1_o (M := C14) (a := b) (n := LN b) (i := o + 391) (x := mi C14 a 14) (by omega) hb
  rw [e15, bsome]
  obtain ⟨C16, e16, O16, v16, p16⟩ := w1_o (M := C15) (a := b) (n := LN b) (i := o + 392) (x := mi C15 a 15) (by omega) hb
  rw [e16, bsome]
  refine ⟨C16, rfl, (((((((((((((((O1.trans O2).trans O3).trans O4).trans O5).trans O6).trans O7).trans O8).trans O9).trans O10).trans O11).trans O12).trans O13).trans O14).trans O15).trans O16), ⟨fun k hk => ⟨?_, ?_, ?_, ?_⟩, fun c hc => ⟨?_, ?_, ?_⟩, fun k hk => ?_⟩, fun j hj => ?_⟩
  · show mi C16 b (o + k) = mi C (a + 1) k
    rw [p16 _ (by omega), p15 _ (by omega), p14 _ (by omega), p13 _ (by omega), p12 _ (by omega), p11 _ (by omega), p10 _ (by omega), p9 _ (by omega), p8 _ (by omega), p7 _ (by omega), p6 _ (by omega), p5 _ (by omega), p4 _ (by omega), p3 _ (by omega), p2 _ (by omega), show o + k = o + 0 + k by omega, v1 k hk, show 0 + k = k by omega]
  · show mi C16 b (o + (60 + k)) = mi C (a + 2) k
    rw [p16 _ (by omega), p15 _ (by omega), p14 _ (by omega), p13 _ (by omega), p12 _ (by omega), p11 _ (by omega), p10 _ (by omega), p9 _ (by omega), p8 _ (by omega), p7 _ (by omega), p6 _ (by omega), p5 _ (by omega), p4 _ (by omega), p3 _ (by omega), show o + (60 + k) = o + 60 + k by omega, v2 k hk, show 0 + k = k by omega, O1.at (by omega)]
  · show mi C16 b (o + (120 + k)) = mi C (a + 3) k
    rw [p16 _ (by omega), p15 _ (by omega), p14 _ (by omega), p13 _ (by omega), p12 _ (by omega), p11 _ (by omega), p10 _ (by omega), p9 _ (by omega), p8 _ (by omega), p7 _ (by omega), p6 _ (by omega), p5 _ (by omega), p4 _ (by omega), show o + (120 + k) = o + 120 + k by omega, v3 k hk, show 0 + k = k by omega, O2.at (by omega), O1.at (by omega)]
  · show mi C16 b (o + (180 + k)) = mi C (a + 4) k
    rw [p16 _ (by omega), p15 _ (by omega), p14 _ (by omega), p13 _ (by omega), p12 _ (by omega), p11 _ (by omega), p10 _ (by omega), p9 _ (by omega), p8 _ (by omega), p7 _ (by omega), p6 _ (by omega), p5 _ (by omega), show o + (180 + k) = o + 180 + k by omega, v4 k hk, show 0 + k = k by omega, O3.at (by omega), O2.at (by omega), O1.at (by omega)]
  · show mi C16 b (o + (240 + c)) = mi C (a + 5) c
    rw [p16 _ (by omega), p15 _ (by omega), p14 _ (by omega), p13 _ (by omega), p12 _ (by omega), p11 _ (by omega), p10 _ (by omega), p9 _ (by omega), p8 _ (by omega), p7 _ (by omega), p6 _ (by omega), show o + (240 + c) = o + 240 + c by omega, v5 c hc, show 0 + c = c by omega, O4.at (by omega), O3.at (by omega), O2.at (by omega), O1.at (by omega)]
  · show mi C16 b (o + (288 + c)) = mi C (a + 6) c
    rw [p16 _ (by omega), p15 _ (by omega), p14 _ (by omega), p13 _ (by omega), p12 _ (by omega), p11 _ (by omega), p10 _ (by omega), p9 _ (by omega), p8 _ (by omega), p7 _ (by omega), show o + (288 + c) = o + 288 + c by omega, v6 c hc, show 0 + c = c by omega, O5.at (by omega), O4.at (by omega), O3.at (by omega), O2.at (by omega), O1.at (by omega)]
  · show mi C16 b (o + (336 + c)) = mi C (a + 7) c
    rw [p16 _ (by omega), p15 _ (by omega), p14 _ (by omega), p13 _ (by omega), p12 _ (by omega), p11 _ (by omega), p10 _ (by omega), p9 _ (by omega), p8 _ (by omega), show o + (336 + c) = o + 336 + c by omega, v7 c hc, show 0 + c = c by omega, O6.at (by omega), O5.at (by omega), O4.at (by omega), O3.at (by omega), O2.at (by omega), O1.at (by omega)]
  · show mi C16 b (o + (384 + k)) = mi C a (7 + k)
    have h9 : k = 0 ∨ k = 1 ∨ k = 2 ∨ k = 3 ∨ k = 4 ∨ k = 5 ∨ k = 6 ∨ k = 7 ∨ k = 8 := by omega
    rcases h9 with rfl | rfl | rfl | rfl | rfl | rfl | rfl | rfl | rfl
    · rw [show o + (384 + 0) = o + 384 by omega, p16 _ (by omega), p15 _ (by omega), p14 _ (by omega), p13 _ (by omega), p12 _ (by omega), p11 _ (by omega), p10 _ (by omega), p9 _ (by omega), v8, O7.at (by omega), O6.at (by omega), O5.at (by omega), O4.at (by omega), O3.at (by omega), O2.at (by omega), O1.at (by omega)]
    · rw [show o + (384 + 1) = o + 385 by omega, p16 _ (by omega), p15 _ (by omega), p14 _ (by omega), p13 _ (by omega), p12 _ (by omega), p11 _ (by omega), p10 _ (by omega), v9, O8.at (by omega), O7.at (by omega), O6.at (by omega), O5.at (by omega), O4.at (by omega), O3.at (by omega), O2.at (by omega), O1.at (by omega)]
    · rw [show o + (384 + 2) = o + 386 by omega, p16 _ (by omega), p15 _ (by omega), p14 _ (by omega), p13 _ (by omega), p12 _ (by omega), p11 _ (by omega), v10, O9.at (by omega), O8.at (by omega), O7.at (by omega), O6.at (by omega), O5.at (by omega), O4.at (by omega), O3.at (by omega), O2.at (by omega), O1.at (by omega)]
    · rw [show o + (384 + 3) = o + 387 by omega, p16 _ (by omega), p15 _ (by omega), p14 _ (by omega), p13 _ (by omega), p12 _ (by omega), v11, O10.at (by omega), O9.at (by omega), O8.at (by omega), O7.at (by omega), O6.at (by omega), O5.at (by omega), O4.at (by omega), O3.at (by omega), O2.at (by omega), O1.at (by omega)]
    · rw [show o + (384 + 4) = o + 388 by omega, p16 _ (by omega), p15 _ (by omega), p14 _ (by omega), p13 _ (by omega), v12, O11.at (by omega), O10.at (by omega), O9.at (by omega), O8.at (by omega), O7.at (by omega), O6.at (by omega), O5.at (by omega), O4.at (by omega), O3.at (by omega), O2.at (by omega), O1.at (by omega)]
    · rw [show o + (384 + 5) = o + 389 by omega, p16 _ (by omega), p15 _ (by omega), p14 _ (by omega), v13, O12.at (by omega), O11.at (by omega), O10.at (by omega), O9.at (by omega), O8.at (by omega), O7.at (by omega), O6.at (by omega), O5.at (by omega), O4.at (by omega), O3.at (by omega), O2.at (by omega), O1.at (by omega)]
    · rw [show o + (384 + 6) = o + 390 by omega, p16 _ (by omega), p15 _ (by omega), v14, O13.at (by omega), O12.at (by omega), O11.at (by omega), O10.at (by omega), O9.at (by omega), O8.at (by omega), O7.at (by omega), O6.at (by omega), O5.at (by omega), O4.at (by omega), O3.at (by omega), O2.at (by omega), O1.at (by omega)]
    · rw [show o + (384 + 7) = o + 391 by omega, p16 _ (by omega), v15, O14.at (by omega), O13.at (by omega), O12.at (by omega), O11.at (by omega), O10.at (by omega), O9.at (by omega), O8.at (by omega), O7.at (by omega), O6.at (by omega), O5.at (by omega), O4.at (by omega), O3.at (by omega), O2.at (by omega), O1.at (by omega)]
    · rw [show o + (384 + 8) = o + 392 by omega, v16, O15.at (by omega), O14.at (by omega), O13.at (by omega), O12.at (by omega), O11.at (by omega), O10.at (by omega), O9.at (by omega), O8.at (by omega), O7.at (by omega), O6.at (by omega), O5.at (by omega), O4.at (by omega), O3.at (by omega), O2.at (by omega), O1.at (by omega)]
  · rw [p16 _ (by omega), p15 _ (by omega), p14 _ (by omega), p13 _ (by omega), p12 _ (by omega), p11 _ (by omega), p10 _ (by omega), p9 _ (by omega), p8 _ (by omega), p7 _ (by omega), p6 _ (by omega), p5 _ (by omega), p4 _ (by omega), p3 _ (by omega), p2 _ (by omega), p1 _ (by omega)]
theorem k_readFrom {C : Mm} {a b o : Nat} (hab : ¬ (a ≤ b ∧ b ≤ a + 7)) (hL : o + 393 ≤ LN b) (hb : LN b ≤ 1000000) : ∃ C', f_X8_readFrom a b (Int32.ofNat o) C = some C' ∧ Om (fun x => a ≤ x ∧ x ≤ a + 7) C C' ∧ PK (fun k => mi C b (o + k)) C' a ∧ ∀ j, (j < 7 ∨ 16 ≤ j) → mi C' a j = mi C a j := by
  unfold f_X8_readFrom
  rw [if_neg (oN_nn (by omega)), show Int32.ofNat (LN b) - 393 = Int32.ofNat (LN b - 393) from oN_sub (b := 393) (by omega) (by omega), if_pos ((oN_le (by omega) (by omega)).mpr (by omega))]
  rw [show Int32.ofNat o + 60 = Int32.ofNat (o + 60) from oN_A (b := 60), show Int32.ofNat o + 120 = Int32.ofNat (o + 120) from oN_A (b := 120), show Int32.ofNat o + 180 = Int32.ofNat (o + 180) from oN_A (b := 180), show Int32.ofNat o + 240 = Int32.ofNat (o + 240) from oN_A (b := 240)]
  rw [show Int32.ofNat (o + 240) + 48 = Int32.ofNat (o + 288) from oN_A (b := 48), show Int32.ofNat (o + 240) + 96 = Int32.ofNat (o + 336) from oN_A (b := 96), show Int32.ofNat (o + 240) + 144 = Int32.ofNat (o + 384) from oN_A (b := 144)]
  rw [show Int32.ofNat (o + 384) + 1 = Int32.ofNat (o + 385) from oN_A (b := 1), show Int32.ofNat (o + 384) + 2 = Int32.ofNat (o + 386) from oN_A (b := 2), show Int32.ofNat (o + 384) + 3 = Int32.ofNat (o + 387) from oN_A (b := 3), show Int32.ofNat (o + 384) + 4 = Int32.ofNat (o + 388) from oN_A (b := 4), show Int32.ofNat (o + 384) + 5 = Int32.ofNat (o + 389) from oN_A (b := 5), show Int32.ofNat (o + 384) + 6 = Int32.ofNat (o + 390) from oN_A (b := 6), show Int32.ofNat (o + 384) + 7 = Int32.ofNat (o + 391) from oN_A (b := 7), show Int32.ofNat (o + 384) + 8 = Int32.ofNat (o + 392) from oN_A (b := 8)]
  obtain ⟨C1, e1, O1, v1, p1⟩ := cpy_o (M := C) (a0 := b) (n0 := LN b) (sp := o + 0) (a := a + 1) (n1 := 60) (dp := 0) (n := 60) (by omega) (by omega) hb (by omega)
  rw [show cpy C b (LN b) (Int32.ofNat o) (a + 1) 60 0 60 = some C1 from e1, bsome]
  obtain ⟨C2, e2, O2, v2, p2⟩ := cpy_o (M := C1) (a0 := b) (n0 := LN b) (sp := o + 60) (a := a + 2) (n1 := 60) (dp := 0) (n := 60) (by omega) (by omega) hb (by omega)
  rw [show cpy C1 b (LN b) (Int32.ofNat (o + 60)) (a + 2) 60 0 60 = some C2 from e2, bsome]
  obtain ⟨C3, e3, O3, v3, p3⟩ := cpy_o (M := C2) (a0 := b) (n0 := LN b) (sp := o + 120) (a := a + 3) (n1 := 60) (dp := 0) (n := 60) (by omega) (by omega) hb (by omega)
  rw [show cpy C2 b (LN b) (Int32.ofNat (o + 120)) (a + 3) 60 0 60 = some C3 from e3, bsome]
  obtain ⟨C4, e4, O4, v4, p4⟩ := cpy_o (M := C3) (a0 := b) (n0 := LN b) (sp := o + 180) (a := a + 4) (n1 := 60) (dp := 0) (n := 60) (by omega) (by omega) hb (by omega)
  rw [show cpy C3 b (LN b) (Int32.ofNat (o + 180)) (a + 4) 60 0 60 = some C4 from e4, bsome]
  obtain ⟨C5, e5, O5, v5, p5⟩ := cpy_o (M := C4) (a0 := b) (n0 := LN b) (sp := o + 240) (a := a + 5) (n1 := 48) (dp := 0) (n := 48) (by omega) (by omega) hb (by omega)
  rw [show cpy C4 b (LN b) (Int32.ofNat (o + 240)) (a + 5) 48 0 48 = some C5 from e5, bsome]
  obtain ⟨C6, e6, O6, v6, p6⟩ := cpy_o (M := C5) (a0 := b) (n0 := LN b) (sp := o + 288) (a := a + 6) (n1 := 48) (dp := 0) (n := 48) (by omega) (by omega) hb (by omega)
  rw [show cpy C5 b (LN b) (Int32.ofNat (o + 288)) (a + 6) 48 0 48 = some C6 from e6, bsome]
  obtain ⟨C7, e7, O7, v7, p7⟩ := cpy_o (M := C6) (a0 := b) (n0 := LN b) (sp := o + 336) (a := a + 7) (n1 := 48) (dp := 0) (n := 48) (by omega) (by omega) hb (by omega)
  rw [show cpy C6 b (LN b) (Int32.ofNat (o + 336)) (a + 7) 48 0 48 = some C7 from e7, bsome]
  have b7 : mi C7 b = mi C b := by rw [O7.at (by omega), O6.at (by omega), O5.at (by omega), O4.at (by omega), O3.at (by omega), O2.at (by omega), O1.at (by omega)]
  rw [show ai (C7) b (LN b) (Int32.ofNat (o + 384)) = some (mi C b (o + 384)) from (ai_o (by omega) hb).trans (by rw [b7]), bsome]
  rw [show ai (sI (C7) a 7 (mi C b (o + 384))) b (LN b) (Int32.ofNat (o + 385)) = some (mi C b (o + 385)) from (ai_o (by omega) hb).trans (by rw [mi_sI_ne (show b ≠ a by omega), b7]), bsome]
  rw [show ai (sI (sI (C7) a 7 (mi C b (o + 384))) a 8 (mi C b (o + 385))) b (LN b) (Int32.ofNat (o + 386)) = some (mi C b (o + 386)) from (ai_o (by omega) hb).trans (by rw [mi_sI_ne (show b ≠ a by omega), mi_sI_ne (show b ≠ a by omega), b7]), bsome]
  rw [show ai (sI (sI (sI (C7) a 7 (mi C b (o + 384))) a 8 (mi C b (o + 385))) a 9 (mi C b (o + 386))) b (LN b) (Int32.ofNat (o + 387)) = some (mi C b (o + 387)) from (ai_o (by omega) hb).trans (by rw [mi_sI_ne (show b ≠ a by omega), mi_sI_ne (show b ≠ a by omega), mi_sI_ne (show b ≠ a by omega), b7]), bsome]
  rw [show ai (sI (sI (sI (sI (C7) a 7 (mi C b (o + 384))) a 8 (mi C b (o + 385))) a 9 (mi C b (o + 386))) a 10 (mi C b (o + 387))) b (LN b) (Int32.ofNat (o + 388)) = some (mi C b (o + 388)) from (ai_o (by omega) hb).trans (by rw [mi_sI_ne (show b ≠ a by omega), mi_sI_ne (show b ≠ a by omega), mi_sI_ne (show b ≠ a by omega), mi_sI_ne (show b ≠ a by omega), b7]), bsome]
  rw [show ai (sI (sI (sI (sI (sI (C7) a 7 (mi C b (o + 384))) a 8 (mi C b (o + 385))) a 9 (mi C b (o + 386))) a 10 (mi C b (o + 387))) a 11 (mi C b (o + 388))) b (LN b) (Int32.ofNat (o + 389)) = some (mi C b (o + 389)) from (ai_o (by omega) hb).trans (by rw [mi_sI_ne (show b ≠ a by omega), mi_sI_ne (show b ≠ a by omega), mi_sI_ne (show b ≠ a by omega), mi_sI_ne (show b ≠ a by omega), mi_sI_ne (show b ≠ a by omega), b7]), bsome]
  rw [show ai (sI (sI (sI (sI (sI (sI (C7) a 7 (mi C b (o + 384))) a 8 (mi C b (o + 385))) a 9 (mi C b (o + 386))) a 10 (mi C b (o + 387))) a 11 (mi C b (o + 388))) a 12 (mi C b (o + 389))) b (LN b) (Int32.ofNat (o + 390)) = some (mi C b (o + 390)) from (ai_o (by omega) hb).trans (by rw [mi_sI_ne (show b ≠ a by omega), mi_sI_ne (show b ≠ a by omega), mi_sI_ne (show b ≠ a by omega), mi_sI_ne (show b ≠ a by omega), mi_sI_ne (show b ≠ a by omega), mi_sI_ne (show b ≠ a by omega), b7]), bsome]
  rw [show ai (sI (sI (sI (sI (sI (sI (sI (C7) a 7 (mi C b (o + 384))) a 8 (mi C b (o + 385))) a 9 (mi C b (o + 386))) a 10 (mi C b (o + 387))) a 11 (mi C b (o + 388))) a 12 (mi C b (o + 389))) a 13 (mi C b (o + 390))) b (LN b) (Int32.ofNat (o + 391)) = some (mi C b (o + 391)) from (ai_o (by omega) hb).trans (by rw [mi_sI_ne (show b ≠ a by omega), mi_sI_ne (show b ≠ a by omega), mi_sI_ne (show b ≠ a by omega), mi_sI_ne (show b ≠ a by omega), mi_sI_ne (show b ≠ a by omega), mi_sI_ne (show b ≠ a by omega), mi_sI_ne (show b ≠ a by omega), b7]), bsome]
  rw [show ai (sI (sI (sI (sI (sI (sI (sI (sI (C7) a 7 (mi C b (o + 384))) a 8 (mi C b (o + 385))) a 9 (mi C b (o + 386))) a 10 (mi C b (o + 387))) a 11 (mi C b (o + 388))) a 12 (mi C b (o + 389))) a 13 (mi C b (o + 390))) a 14 (mi C b (o + 391))) b (LN b) (Int32.ofNat (o + 392)) = some (mi C b (o + 392)) from (ai_o (by omega) hb).trans (by rw [mi_sI_ne (show b ≠ a by omega), mi_sI_ne (show b ≠ a by omega), mi_sI_ne (show b ≠ a by omega), mi_sI_ne (show b ≠ a by omega), mi_sI_ne (show b ≠ a by omega), mi_sI_ne (show b ≠ a by omega), mi_sI_ne (show b ≠ a by omega), mi_sI_ne (show b ≠ a by omega), b7]), bsome]
  generalize hE : sI (sI (sI (sI (sI (sI (sI (sI (sI (C7) a 7 (mi C b (o + 384))) a 8 (mi C b (o + 385))) a 9 (mi C b (o + 386))) a 10 (mi C b (o + 387))) a 11 (mi C b (o + 388))) a 12 (mi C b (o + 389))) a 13 (mi C b (o + 390))) a 14 (mi C b (o + 391))) a 15 (mi C b (o + 392)) = E
  have eb : ∀ x, x ≠ a → mi E x = mi C7 x := fun x hx => by rw [← hE, mi_sI_ne hx, mi_sI_ne hx, mi_sI_ne hx, mi_sI_ne hx, mi_sI_ne hx, mi_sI_ne hx, mi_sI_ne hx, mi_sI_ne hx, mi_sI_ne hx]
  refine ⟨E, rfl, ?_, ⟨fun k hk => ⟨?_, ?_, ?_, ?_⟩, fun c hc => ⟨?_, ?_, ?_⟩, fun k hk => ?_⟩, fun j hj => ?_⟩
  · have q7 : Om (fun x => a ≤ x ∧ x ≤ a + 7) C C7 := ((((((O1.mono (fun x hx => by omega)).trans (O2.mono (fun x hx => by omega))).trans (O3.mono (fun x hx => by omega))).trans (O4.mono (fun x hx => by omega))).trans (O5.mono (fun x hx => by omega))).trans (O6.mono (fun x hx => by omega))).trans (O7.mono (fun x hx => by omega))
    rw [← hE]
    exact om_si (om_si (om_si (om_si (om_si (om_si (om_si (om_si (om_si (q7) (by omega)) (by omega)) (by omega)) (by omega)) (by omega)) (by omega)) (by omega)) (by omega)) (by omega)
  · show mi C b (o + k) = mi E (a + 1) k
    rw [eb _ (by omega), O7.at (by omega), O6.at (by omega), O5.at (by omega), O4.at (by omega), O3.at (by omega), O2.at (by omega), ← show 0 + k = k by omega, v1 k hk, show 0 + k = k by omega, show o + 0 + k = o + k by omega]
  · show mi C b (o + (60 + k)) = mi E (a + 2) k
    rw [eb _ (by omega), O7.at (by omega), O6.at (by omega), O5.at (by omega), O4.at (by omega), O3.at (by omega), ← show 0 + k = k by omega, v2 k hk, O1.at (by omega), show 0 + k = k by omega, show o + 60 + k = o + (60 + k) by omega]
  · show mi C b (o + (120 + k)) = mi E (a + 3) k
    rw [eb _ (by omega), O7.at (by omega), O6.at (by omega), O5.at (by omega), O4.at (by omega), ← show 0 + k = k by omega, v3 k hk, O2.at (by omega), O1.at (by omega), show 0 + k = k by omega, show o + 120 + k = o + (120 + k) by omega]
  · show mi C b (o + (180 + k)) = mi E (a + 4) k
    rw [eb _ (by omega), O7.at (by omega), O6.at (by omega), O5.at (by omega), ← show 0 + k = k by omega, v4 k hk, O3.at (by omega), O2.at (by omega), O1.at (by omega), show 0 + k = k by omega, show o + 180 + k = o + (180 + k) by omega]
  · show mi C b (o + (240 + c)) = mi E (a + 5) c
    rw [eb _ (by omega), O7.at (by omega), O6.at (by omega), ← show 0 + c = c by omega, v5 c hc, O4.at (by omega), O3.at (by omega), O2.at (by omega), O1.at (by omega), show 0 + c = c by omega, show o + 240 + c = o + (240 + c) by omega]
  · show mi C b (o + (288 + c)) = mi E (a + 6) c
    rw [eb _ (by omega), O7.at (by omega), ← show 0 + c = c by omega, v6 c hc, O5.at (by omega), O4.at (by omega), O3.at (by omega), O2.at (by omega), O1.at (by omega), show 0 + c = c by omega, show o + 288 + c = o + (288 + c) by omega]
  · show mi C b (o + (336 + c)) = mi E (a + 7) c
    rw [eb _ (by omega), ← show 0 + c = c by omega, v7 c hc, O6.at (by omega), O5.at (by omega), O4.at (by omega), O3.at (by omega), O2.at (by omega), O1.at (by omega), show 0 + c = c by omega, show o + 336 + c = o + (336 + c) by omega]
  · show mi C b (o + (384 + k)) = mi E a (7 + k)
    have h9 : k = 0 ∨ k = 1 ∨ k = 2 ∨ k = 3 ∨ k = 4 ∨ k = 5 ∨ k = 6 ∨ k = 7 ∨ k = 8 := by omega
    rcases h9 with rfl | rfl | rfl | rfl | rfl | rfl | rfl | rfl | rfl
    · rw [← hE, mi_sI_o (by omega), mi_sI_o (by omega), mi_sI_o (by omega), mi_sI_o (by omega), mi_sI_o (by omega), mi_sI_o (by omega), mi_sI_o (by omega), mi_sI_o (by omega), mi_sI_k]
    · rw [← hE, mi_sI_o (by omega), mi_sI_o (by omega), mi_sI_o (by omega), mi_sI_o (by omega), mi_sI_o (by omega), mi_sI_o (by omega), mi_sI_o (by omega), mi_sI_k]
    · rw [← hE, mi_sI_o (by omega), mi_sI_o (by omega), mi_sI_o (by omega), mi_sI_o (by omega), mi_sI_o (by omega), mi_sI_o (by omega), mi_sI_k]
    · rw [← hE, mi_sI_o (by omega), mi_sI_o (by omega), mi_sI_o (by omega), mi_sI_o (by omega), mi_sI_o (by omega), mi_sI_k]
    · rw [← hE, mi_sI_o (by omega), mi_sI_o (by omega), mi_sI_o (by omega), mi_sI_o (by omega), mi_sI_k]
    · rw [← hE, mi_sI_o (by omega), mi_sI_o (by omega), mi_sI_o (by omega), mi_sI_k]
    · rw [← hE, mi_sI_o (by omega), mi_sI_o (by omega), mi_sI_k]
    · rw [← hE, mi_sI_o (by omega), mi_sI_k]
    · rw [← hE, mi_sI_k]
  · rw [← hE, mi_sI_o (by omega), mi_sI_o (by omega), mi_sI_o (by omega), mi_sI_o (by omega), mi_sI_o (by omega), mi_sI_o (by omega), mi_sI_o (by omega), mi_sI_o (by omega), mi_sI_o (by omega), O7.at (by omega), O6.at (by omega), O5.at (by omega), O4.at (by omega), O3.at (by omega), O2.at (by omega), O1.at (by omega)]
/-- numbers put back make the same world -/
theorem pk_rf {f : Nat → Int32} {C1 C2 : Mm} {a1 a2 w h : Nat} {r : Nat → Int32} (hV : VR w h r) (h1 : PK f C1 a1) (h2 : PK f C2 a2) (hR : RF C1 a1 r) : RF C2 a2 r := by
  have h6 := hV.n60
  obtain ⟨⟨⟨w8, w9, w10, w12, w13, w14, w7⟩, hS, hC⟩, hL, hH1, hH2⟩ := hR
  have g : ∀ k, k < 9 → mi C2 a2 (7 + k) = mi C1 a1 (7 + k) := fun k hk => (h2.2.2 k hk).symm.trans (h1.2.2 k hk)
  have g1 : ∀ k, k < 60 → mi C2 (a2 + 1) k = mi C1 (a1 + 1) k ∧ mi C2 (a2 + 2) k = mi C1 (a1 + 2) k ∧ mi C2 (a2 + 3) k = mi C1 (a1 + 3) k ∧ mi C2 (a2 + 4) k = mi C1 (a1 + 4) k := fun k hk =>
    ⟨(h2.1 k hk).1.symm.trans (h1.1 k hk).1, (h2.1 k hk).2.1.symm.trans (h1.1 k hk).2.1, (h2.1 k hk).2.2.1.symm.trans (h1.1 k hk).2.2.1, (h2.1 k hk).2.2.2.symm.trans (h1.1 k hk).2.2.2⟩
  have g2 : ∀ c, c < 48 → mi C2 (a2 + 5) c = mi C1 (a1 + 5) c ∧ mi C2 (a2 + 6) c = mi C1 (a1 + 6) c ∧ mi C2 (a2 + 7) c = mi C1 (a1 + 7) c := fun c hc =>
    ⟨(h2.2.1 c hc).1.symm.trans (h1.2.1 c hc).1, (h2.2.1 c hc).2.1.symm.trans (h1.2.1 c hc).2.1, (h2.2.1 c hc).2.2.symm.trans (h1.2.1 c hc).2.2⟩
  refine ⟨⟨⟨(g 1 (by omega)).trans w8, (g 2 (by omega)).trans w9, (g 3 (by omega)).trans w10, (g 5 (by omega)).trans w12, (g 6 (by omega)).trans w13, (g 7 (by omega)).trans w14, (g 0 (by omega)).trans w7⟩, fun k hk => ?_, fun c hc => ?_⟩, (g 4 (by omega)).trans hL, (g 8 (by omega)).trans hH1, fun c hc => ?_⟩
  · obtain ⟨a, b, c, d⟩ := g1 k (by omega)
    rw [a, b, c, d]
    exact hS k hk
  · obtain ⟨t1, -, t3⟩ := g2 c hc
    rw [t1, t3]
    exact hC c hc
  · rw [(g2 c hc).2.1]
    exact hH2 c hc
theorem k_begin {C : Mm} {a w h : Nat} {r : Nat → Int32} (ha : 27 < a) (hV : VR w h r) (hR : RF C a r) : ∃ C', f_X2_begin a C = some C' ∧ Om (fun x => x = 27 ∨ (19 ≤ x ∧ x ≤ 26)) C C' ∧ RF C' 19 r := by
  have l27 : LN 27 = 393 := by decide
  obtain ⟨C1, e1, o1, p1, -⟩ := k_writeTo (C := C) (a := a) (b := 27) (o := 0) (by omega) (by rw [l27]; omega) (by rw [l27]; omega)
  obtain ⟨C2, e2, o2, p2, -⟩ := k_readFrom (C := C1) (a := 19) (b := 27) (o := 0) (by omega) (by rw [l27]; omega) (by rw [l27]; omega)
  unfold f_X2_begin
  rw [show f_X8_writeTo a 27 0 C = some C1 from e1, bsome, show f_X8_readFrom 19 27 0 C1 = some C2 from e2, bsome]
  exact ⟨C2, rfl, (o1.mono (fun x hx => Or.inl hx)).trans (o2.mono (fun x hx => Or.inr hx)), pk_rf hV p1 p2 hR⟩
end CP
