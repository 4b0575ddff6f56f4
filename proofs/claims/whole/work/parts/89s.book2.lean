/-! level 3: the book, line by line -/
section BP
variable {k : Nat} {M M2 : Mm} {q : Nat → Nat} {b : Nat → Int32} {C C' T T' N : Mm} {L p p' : Nat} {f fa lo hi : Int32} {a0 g w h j : Nat}
def lnY (a0 : Nat) (v4 : Int32) (M3 : Mm) : Option Mm := (f_X1_isTold a0 v4 M3).bind fun v5 => (if v5 = 0 then f_X1_readLine_j70 a0 v4 M3 else (f_X7_fail (2 : Int32) (mi M3 1 4) M3).bind fun M13 => f_X1_readLine_j70 a0 v4 M13)
theorem k_lnY_f {v4 : Int32} (ha : 60 ≤ a0) (hf : f ≠ 0) (t : TC b C L p f fa) (h3 : mi C a0 3 = Int32.ofNat j) (hj : j < 6) : ∃ C' p', lnY a0 v4 C = some C' ∧ Bf a0 C C' ∧ TC b C' L p' f fa := by
  obtain ⟨v5, e5, -⟩ := k_told (c := v4) h3 (by omega)
  unfold lnY
  rw [e5, bsome]
  by_cases h5 : v5 = 0
  · rw [if_pos h5]
    exact k_j70_f ha hf t h3 hj
  · rw [if_neg h5]
    obtain ⟨C3, e3, t3, c3, -⟩ := k_fail (x1 := 2) (x2 := mi C 1 4) t
    rw [if_neg hf, if_neg hf] at t3
    rw [e3, bsome]
    obtain ⟨C2, p2, g1, g2, g3⟩ := k_j70_f (x5 := v4) ha hf t3 (by rw [c3.1.at (by omega)]; exact h3) hj
    exact ⟨C2, p2, g1, c3.bf.trans g2, g3⟩
/-- the reference's rest of a line, behind the number y -/
def lnM (x2 x3 x4 v15 : Int32) (M15 : Mm) : Option (((Int32 × Mm) ⊕ (Int32 × Mm))) := (whl fu (f_X10_book_b130 x2 x3 x4 v15) ((0 : Int32), M15)).bind fun M27 => (f_X10_number (0 : Int32) (60 : Int32) M27).bind fun (v28, M28) => (f_X10_sign (59 : Int32) M28).bind fun M29 => (if (mi M29 76 5) = 0 then (ar 127 6 x2).bind fun q33 => (wi M29 q33 3 (0 : Int32) x4).bind fun M34 => (ar 127 6 x2).bind fun q36 => (wi M34 q36 3 (1 : Int32) v15).bind fun M37 => (ar 127 6 x2).bind fun q39 => (wi M37 q39 3 (2 : Int32) v28).bind fun M40 => (f_X10_blanks M40).bind fun M41 => some (.inl ((x2 + (1 : Int32)), M41)) else (f_X10_blanks M29).bind fun M31 => some (.inl (x2, M31)))
theorem m_lnM_f {x3 x4 v15 : Int32} (hb : TxB b) (hf : f ≠ 0) (t : TT b T L p f fa) (hj : j ≤ 6) : ∃ T' p', lnM (Int32.ofNat j) x3 x4 v15 T = some (.inl (Int32.ofNat j, T')) ∧ Bt T T' ∧ TT b T' L p' f fa := by
  obtain ⟨T2, e2, t2, c2⟩ := m_blanks hb t
  unfold lnM
  rw [m_bdup_f hf t rfl hj, bsome, m_num_f t hf, bsome]
  dsimp only
  rw [m_sign_f t hf, bsome, t.1.2.2.2.2.1, if_neg hf, e2, bsome]
  exact ⟨T2, _, rfl, c2.bt, t2⟩
/-- a line told on both sides -/
def LnOk (b : Nat → Int32) (a0 w h j L p : Nat) (C' T' : Mm) (x2 : Int32) : Prop := (j < 6 ∧ x2 = Int32.ofNat (j + 1) ∧ mi C' a0 3 = Int32.ofNat (j + 1) ∧ (∀ i, i < j + 1 → BL w h a0 C' T' i) ∧ ∃ p2, p < p2 ∧ TC b C' L p2 0 (-1) ∧ TT b T' L (nb b L p2) 0 (-1)) ∨ (x2 = Int32.ofNat j ∧ FL b C' T' L)
/-- cell and number: not told before -/
theorem y_tail {x y p0 : Nat} {x3 : Int32} (hb : TxB b) (ha : 60 ≤ a0 ∧ a0 ≤ 70) (hw : w ≤ 8 ∧ h ≤ 6) (hx : x < w) (hy : y < h) (hj : j < 6) (hp0 : p0 ≤ p) (h1 : TC b C L p 0 (-1)) (h2 : TT b T L p 0 (-1)) (h3 : mi C a0 3 = Int32.ofNat j) (hl : ∀ i, i < j → BL w h a0 C T i) (hn : ¬ tld C a0 (Int32.ofNat (8 * y + x)) j) : ∃ C' T' x2, f_X1_readLine_j70 a0 (Int32.ofNat (8 * y + x)) C = some C' ∧ lnM (Int32.ofNat j) x3 (Int32.ofNat x) (Int32.ofNat y) T = some (.inl (x2, T')) ∧ Bf a0 C C' ∧ Bt T T' ∧ LnOk b a0 w h j L p0 C' T' x2 := by
  obtain ⟨T1, d1, d2, -, d4⟩ := m_bdup (a0 := a0) (C := C) (w := w) (h := h) (x := x) (y := y) (x3 := x3) (by omega) (by omega) hw (by omega) h2 hl
  have t1 := d4 hn
  have tc1 : TC b (sI C (a0 + 1) j (Int32.ofNat (8 * y + x))) L p 0 (-1) := h1.of (fun i _ _ => by rw [mi_sI_ne (by omega)]) (mi_sI_ne (by omega))
  obtain ⟨v, C2, v', T2, e1, e2, c1, c2, hv⟩ := y_num2 (lo := 0) (hi := 60) hb tc1 t1 rfl
  have f3 : mi C2 a0 3 = Int32.ofNat j := by rw [c1.1.at (by omega), mi_sI_ne (by omega), h3]
  have f3' : mi (sI C2 (a0 + 2) j v) a0 3 = Int32.ofNat j := by rw [mi_sI_ne (by omega), f3]
  have hcl : f_X1_readLine_j70 a0 (Int32.ofNat (8 * y + x)) C = f_X7_readSign 59 (sI (sI C2 (a0 + 2) j v) a0 3 (Int32.ofNat (j + 1))) := by
    unfold f_X1_readLine_j70
    rw [h3, wi_o hj (by omega), bsome, e1, bsome]
    dsimp only
    rw [mi_sI_ne (by omega), h3, wi_o hj (by omega), bsome, f3', oN_S]
    cases f_X7_readSign 59 (sI (sI C2 (a0 + 2) j v) a0 3 (Int32.ofNat (j + 1))) with
    | none => rfl
    | some _ => rfl
  have bfC : Bf a0 C (sI (sI C2 (a0 + 2) j v) a0 3 (Int32.ofNat (j + 1))) := (((Bf.s (by omega) (by omega)).trans c1.bf).trans (Bf.s (a := a0 + 2) (by omega) (by omega))).trans (Bf.s (a := a0) (by omega) (by omega))
  have tcof : ∀ {p9 : Nat} {f9 fa9 : Int32}, TC b C2 L p9 f9 fa9 → TC b (sI (sI C2 (a0 + 2) j v) a0 3 (Int32.ofNat (j + 1))) L p9 f9 fa9 := fun {p9 f9 fa9} z => z.of (fun i _ _ => by rw [mi_sI_ne (by omega), mi_sI_ne (by omega)]) (by rw [mi_sI_ne (by omega), mi_sI_ne (by omega)])
  have btT : Bt T T2 := d2.bt.trans c2.bt
  -- behind a fault
  have flt : ∀ {f9 fa9 : Int32} {p9 p8 : Nat}, f9 ≠ 0 → TC b C2 L p9 f9 fa9 → TT b T2 L p8 f9 fa9 → ∃ C' T' x2, f_X1_readLine_j70 a0 (Int32.ofNat (8 * y + x)) C = some C' ∧ lnM (Int32.ofNat j) x3 (Int32.ofNat x) (Int32.ofNat y) T = some (.inl (x2, T')) ∧ Bf a0 C C' ∧ Bt T T' ∧ LnOk b a0 w h j L p0 C' T' x2 := fun {f9 fa9 p9 p8} hf u1 u2 => by
    obtain ⟨C3, p3, g1, g2, g3⟩ := k_sign_f (x := 59) ne59 (tcof u1) hf
    obtain ⟨T3, i1, i2, i3⟩ := m_blanks hb u2
    refine ⟨C3, T3, Int32.ofNat j, hcl.trans g1, ?_, bfC.trans g2.bf, btT.trans i3.bt, Or.inr ⟨rfl, f9, fa9, _, _, hf, g3, i2⟩⟩
    unfold lnM
    rw [d1, bsome, e2, bsome]
    dsimp only
    rw [m_sign_f u2 hf, bsome, u2.1.2.2.2.2.1, if_neg hf, i1, bsome]
  rcases hv with ⟨rfl, v1, v2, v3, p2, v4, v5⟩ | ⟨-, f9, fa9, p9, p8, hf, u1, u2⟩
  · obtain ⟨n, -, n2, rfl⟩ := (in_nat (lo := 0) (hi := 60) (by omega) (by omega)).mp ⟨v1, v2⟩
    obtain ⟨C3, T3, s1, s2, s3, s4, s5⟩ := y_sign (x := 59) hb ne59 (⟨tcof v5.1, v5.2⟩ : SY b _ _ L p2)
    have fC : ∀ a, a ≠ 1 → mi C3 a = mi (sI (sI C2 (a0 + 2) j (Int32.ofNat n)) a0 3 (Int32.ofNat (j + 1))) a := fun a h9 => s3.1.at h9
    have gT : ∀ a, a ≠ 76 → mi T3 a = mi T a := fun a h9 => by rw [s4.1.at h9, c2.1.at h9, d2.1.at h9]
    rcases s5 with ⟨p3, q1, q2⟩ | ⟨f9, fa9, p9, p8, hf, u1, u2⟩
    · have q3 : ∀ X a i (x9 : Int32), i < 3 → wi X a 3 (Int32.ofNat i) x9 = some (sI X a i x9) := fun X a i x9 hi => wi_o hi (by omega)
      generalize hT4 : sI (sI (sI T3 (128 + j) 0 (Int32.ofNat x)) (128 + j) 1 (Int32.ofNat y)) (128 + j) 2 (Int32.ofNat n) = T4
      have t4 : TT b T4 L p3 0 (-1) := by
        rw [← hT4]
        exact q2.2.of (fun i _ => by rw [mi_sI_ne (by omega), mi_sI_ne (by omega), mi_sI_ne (by omega)]) (by rw [mi_sI_ne (by omega), mi_sI_ne (by omega), mi_sI_ne (by omega)])
      obtain ⟨T5, i1, i2, i3⟩ := m_blanks hb t4
      refine ⟨C3, T5, Int32.ofNat (j + 1), hcl.trans s1, ?_, bfC.trans s3.bf, ?_, Or.inl ⟨hj, rfl, ?_, fun i hi => ?_, p3, by omega, q2.1, i2⟩⟩
      · unfold lnM
        rw [d1, bsome, e2, bsome]
        dsimp only
        rw [s2, bsome, q2.2.1.2.2.2.2.1, if_pos rfl, ar_127 hj, bsome, show ∀ X (x9 : Int32), wi X (128 + j) 3 0 x9 = some (sI X (128 + j) 0 x9) from fun X x9 => q3 X _ 0 x9 (by omega), bsome, bsome, show ∀ X (x9 : Int32), wi X (128 + j) 3 1 x9 = some (sI X (128 + j) 1 x9) from fun X x9 => q3 X _ 1 x9 (by omega), bsome, bsome, show ∀ X (x9 : Int32), wi X (128 + j) 3 2 x9 = some (sI X (128 + j) 2 x9) from fun X x9 => q3 X _ 2 x9 (by omega), bsome, hT4, i1, bsome, oN_S]
      · refine ((btT.trans s4.bt).trans ?_).trans i3.bt
        rw [← hT4]
        exact ((Bt.s (by omega)).trans (Bt.s (by omega))).trans (Bt.s (by omega))
      · rw [fC a0 (by omega), mi_sI_k]
      · have e4 : ∀ a i, a ≠ 76 → mi T5 a i = mi T4 a i := fun a i h9 => by rw [i3.1.at h9]
        have cE : ∀ i, mi C3 (a0 + 1) i = if i = j then Int32.ofNat (8 * y + x) else mi C (a0 + 1) i := fun i => by rw [fC _ (by omega), mi_sI_ne (by omega), mi_sI_ne (by omega), c1.1.at (by omega), mi_sI, u1_at]
        have cV : ∀ i, mi C3 (a0 + 2) i = if i = j then Int32.ofNat n else mi C (a0 + 2) i := fun i => by
          rw [fC _ (by omega), mi_sI_ne (by omega), mi_sI, u1_at, c1.1.at (by omega), mi_sI_ne (by omega)]
        by_cases e : i = j
        · subst e
          refine ⟨x, y, n, hx, hy, n2, by rw [cE, if_pos rfl], by rw [cV, if_pos rfl], ?_, ?_, ?_⟩
          · rw [e4 _ _ (by omega), ← hT4, mi_sI_o (by omega), mi_sI_o (by omega), mi_sI_k]
          · rw [e4 _ _ (by omega), ← hT4, mi_sI_o (by omega), mi_sI_k]
          · rw [e4 _ _ (by omega), ← hT4, mi_sI_k]
        · obtain ⟨x', y', v', w1, w2, w3, w4, w5, w6, w7, w8⟩ := hl i (by omega)
          have eT : mi T5 (128 + i) = mi T (128 + i) := by rw [i3.1.at (by omega), ← hT4, mi_sI_ne (by omega), mi_sI_ne (by omega), mi_sI_ne (by omega), gT _ (by omega)]
          exact ⟨x', y', v', w1, w2, w3, by rw [cE, if_neg e]; exact w4, by rw [cV, if_neg e]; exact w5, by rw [eT]; exact w6, by rw [eT]; exact w7, by rw [eT]; exact w8⟩
    · obtain ⟨T4, i1, i2, i3⟩ := m_blanks hb u2
      refine ⟨C3, T4, Int32.ofNat j, hcl.trans s1, ?_, bfC.trans s3.bf, (btT.trans s4.bt).trans i3.bt, Or.inr ⟨rfl, f9, fa9, _, _, hf, u1, i2⟩⟩
      unfold lnM
      rw [d1, bsome, e2, bsome]
      dsimp only
      rw [s2, bsome, u2.1.2.2.2.2.1, if_neg hf, i1, bsome]
  · exact flt hf u1 u2
theorem y_line (hb : TxB b) (ha : 60 ≤ a0 ∧ a0 ≤ 70) (hg : 2 < g ∧ g < 60) (hw : (1 ≤ w ∧ w ≤ 8) ∧ 1 ≤ h ∧ h ≤ 6) (hj : j ≤ 6) (gC : mi C g 3 = Int32.ofNat w ∧ mi C g 4 = Int32.ofNat h) (gT : mi T 80 0 = Int32.ofNat w ∧ mi T 80 1 = Int32.ofNat h) (hp : p < L) (hnb : nb b L p = p) (h1 : TC b C L p 0 (-1)) (h2 : TT b T L p 0 (-1)) (h3 : mi C a0 3 = Int32.ofNat j) (hl : ∀ i, i < j → BL w h a0 C T i) : ∃ C' T' x2, f_X1_readLine a0 g C = some C' ∧ f_X10_book_b46 (Int32.ofNat j, T) = some (.inl (x2, T')) ∧ Bf a0 C C' ∧ Bt T T' ∧ LnOk b a0 w h j L p C' T' x2 := by
  have hL := h1.1.1
  have b0 : ai T 80 10 0 = some (mi T 80 0) := ai_o (i := 0) (by omega) (by omega)
  obtain ⟨v, C1, v', T1, e1, e2, c1, c2, hv⟩ := y_num2 (lo := 0) (hi := Int32.ofNat (w - 1)) hb h1 h2 rfl
  have k1 : f_X1_readLine a0 g C = lnR a0 g v C1 := by rw [lnR_def, gC.1, oN_pred hw.1.1 (by omega), e1, bsome]
  have m1 : f_X10_book_b46 (Int32.ofNat j, T) = if mi T1 76 5 = 0 then (if Int32.ofNat j = 6 then (f_X10_wrong 3 (mi T 76 4) T1).bind fun M43 => f_X10_book_j103 (Int32.ofNat j) v' M43 else f_X10_book_j103 (Int32.ofNat j) v' T1) else f_X10_book_j103 (Int32.ofNat j) v' T1 := by
    unfold f_X10_book_b46
    dsimp only
    rw [h2.1.2.2.2.2.1, if_pos rfl, h2.1.2.2.1, h2.1.2.2.2.1, if_neg (nle hp (by omega)), b0, bsome, gT.1, oN_pred hw.1.1 (by omega), e2, bsome]
  rw [k1, m1]
  have f3 : mi C1 a0 3 = Int32.ofNat j := by rw [c1.1.at (by omega)]; exact h3
  rcases hv with ⟨rfl, v1, v2, v3, p1, v4, v5⟩ | ⟨-, f9, fa9, p9, p8, hf, u1, u2⟩
  · obtain ⟨x, -, x2, rfl⟩ := (in_nat (lo := 0) (hi := w - 1) (by omega) (by omega)).mp ⟨v1, v2⟩
    rw [v5.2.1.2.2.2.2.1, if_pos rfl]
    by_cases h6 : j = 6
    · subst h6
      obtain ⟨C2, g1, g2, g3, -⟩ := k_fail (x1 := 3) (x2 := mi C1 1 4) v5.1
      obtain ⟨T2, i1, i2, i3⟩ := m_wrong (x1 := 3) (x2 := mi T 76 4) v5.2
      rw [if_pos rfl, if_pos rfl, v3, hnb] at g2
      rw [if_pos rfl, if_pos rfl, h2.1.2.2.2.1] at i2
      obtain ⟨T3, p3, o1, o2, o3⟩ := m_j103_f (x2 := Int32.ofNat 6) (x4 := Int32.ofNat x) hb (show (3 : Int32) ≠ 0 by decide) i2 rfl (by omega)
      refine ⟨C2, T3, Int32.ofNat 6, ?_, ?_, c1.bf.trans g3.bf, (c2.bt.trans i3.bt).trans o2, Or.inr ⟨rfl, 3, _, _, _, by decide, g2, o3⟩⟩
      · unfold lnR
        rw [f3, if_neg (show ¬ Int32.ofNat 6 < 6 by decide), g1, bsome]
      · rw [if_pos (show Int32.ofNat 6 = 6 from rfl), i1, bsome, o1]
    · rw [if_neg (show ¬ Int32.ofNat j = 6 from fun e => h6 ((oN_eq (i := j) (j := 6) (by omega) (by omega)).mp e))]
      obtain ⟨T2, i1, i2, i3⟩ := m_blanks hb v5.2
      have b1 : ai T2 80 10 1 = some (mi T2 80 1) := ai_o (i := 1) (by omega) (by omega)
      have eT80 : mi T2 80 1 = Int32.ofNat h := by rw [i3.1.at (by omega), c2.1.at (by omega)]; exact gT.2
      obtain ⟨vy, C3, vy', T3, y1, y2, y3, y4, hy⟩ := y_num2 (lo := 0) (hi := Int32.ofNat (h - 1)) hb v5.1 i2 (nb_id v5.1.1.2.1)
      have f33 : mi C3 a0 3 = Int32.ofNat j := by rw [y3.1.at (by omega)]; exact f3
      have k2 : lnR a0 g (Int32.ofNat x) C1 = lnY a0 (8 * vy + Int32.ofNat x) C3 := by
        unfold lnR lnY f_X9_cellAt
        rw [f3, if_pos (show Int32.ofNat j < 6 from (oN_lt (j := 6) (by omega) (by omega)).mpr (by omega)), c1.1.at (by omega), gC.2, oN_pred hw.2.1 (by omega), y1, bsome]
        dsimp only
        rw [bsome]
      have m2 : f_X10_book_j103 (Int32.ofNat j) (Int32.ofNat x) T1 = lnM (Int32.ofNat j) (Int32.ofNat (nb b L p1)) (Int32.ofNat x) vy' T3 := by
        unfold f_X10_book_j103
        rw [i1, bsome, b1, bsome, eT80, oN_pred hw.2.1 (by omega), y2, bsome]
        dsimp only
        rw [i2.1.2.2.2.1]
        rfl
      rw [k2, m2]
      have bt3 : Bt T T3 := (c2.bt.trans i3.bt).trans y4.bt
      have bf3 : Bf a0 C C3 := c1.bf.trans y3.bf
      rcases hy with ⟨rfl, w1, w2, w3, p2, w4, w5⟩ | ⟨-, f9, fa9, p9, p8, hf, u1, u2⟩
      · obtain ⟨y, -, y9, rfl⟩ := (in_nat (lo := 0) (hi := h - 1) (by omega) (by omega)).mp ⟨w1, w2⟩
        rw [kcel]
        have hl3 : ∀ i, i < j → BL w h a0 C3 T3 i := fun i hi => by
          obtain ⟨x', y', v', z1, z2, z3, z4, z5, z6, z7, z8⟩ := hl i hi
          have eC : ∀ a, a ≠ 1 → mi C3 a = mi C a := fun a h9 => by rw [y3.1.at h9, c1.1.at h9]
          have eT : ∀ a, a ≠ 76 → mi T3 a = mi T a := fun a h9 => by rw [y4.1.at h9, i3.1.at h9, c2.1.at h9]
          refine ⟨x', y', v', z1, z2, z3, ?_, ?_, ?_, ?_, ?_⟩
          · rw [eC _ (by omega)]; exact z4
          · rw [eC _ (by omega)]; exact z5
          · rw [eT _ (by omega)]; exact z6
          · rw [eT _ (by omega)]; exact z7
          · rw [eT _ (by omega)]; exact z8
        obtain ⟨v5', e5, e5'⟩ := k_told (c := Int32.ofNat (8 * y + x)) f33 hj
        unfold lnY
        rw [e5, bsome]
        rcases e5' with ⟨rfl, hn⟩ | ⟨rfl, ht⟩
        · rw [if_pos rfl]
          obtain ⟨C4, T4, x2', o1, o2, o3, o4, o5⟩ := y_tail (x3 := Int32.ofNat (nb b L p1)) (p0 := p) hb ha ⟨hw.1.2, hw.2.2⟩ (by omega) (by omega) (by omega) (by omega) w5.1 w5.2 f33 hl3 hn
          exact ⟨C4, T4, x2', o1, o2, bf3.trans o3, bt3.trans o4, o5⟩
        · rw [if_neg (show ¬ (1 : Int32) = 0 by decide)]
          obtain ⟨C4, g1, g2, g3, -⟩ := k_fail (x1 := 2) (x2 := mi C3 1 4) w5.1
          rw [if_pos rfl, if_pos rfl, w3] at g2
          obtain ⟨C5, p5, o1, o2, o3⟩ := k_j70_f (x5 := Int32.ofNat (8 * y + x)) ha.1 (show (2 : Int32) ≠ 0 by decide) g2 (by rw [g3.1.at (by omega)]; exact f33) (by omega)
          obtain ⟨T4, d1, d2, d3, -⟩ := m_bdup (a0 := a0) (C := C3) (w := w) (h := h) (x := x) (y := y) (x3 := Int32.ofNat (nb b L p1)) (by omega) (by omega) ⟨hw.1.2, hw.2.2⟩ hj w5.2 hl3
          have t4 := d3 ht
          obtain ⟨T5, s1, s2, s3⟩ := m_blanks hb t4
          refine ⟨C5, T5, Int32.ofNat j, by rw [g1, bsome]; exact o1, ?_, (bf3.trans g3.bf).trans o2, (bt3.trans d2.bt).trans s3.bt, Or.inr ⟨rfl, 2, _, _, _, by decide, o3, s2⟩⟩
          unfold lnM
          rw [d1, bsome, m_num_f t4 (by decide), bsome]
          dsimp only
          rw [m_sign_f t4 (by decide), bsome, t4.1.2.2.2.2.1, if_neg (show ¬ (2 : Int32) = 0 by decide), s1, bsome]
      · obtain ⟨C4, p4, g1, g2, g3⟩ := k_lnY_f (v4 := 8 * vy + Int32.ofNat x) ha.1 hf u1 f33 (by omega)
        obtain ⟨T4, p3, o1, o2, o3⟩ := m_lnM_f (j := j) (x3 := Int32.ofNat (nb b L p1)) (x4 := Int32.ofNat x) (v15 := vy') hb hf u2 hj
        exact ⟨C4, T4, _, g1, o1, bf3.trans g2, bt3.trans o2, Or.inr ⟨rfl, f9, fa9, _, _, hf, g3, o3⟩⟩
  · obtain ⟨C2, p2, g1, g2, g3⟩ := k_lnR_f (a2 := g) (v1 := v) ha.1 hf u1 f3 hj
    obtain ⟨T2, p3, o1, o2, o3⟩ := m_j103_f (x2 := Int32.ofNat j) (x4 := v') hb hf u2 rfl hj
    rw [u2.1.2.2.2.2.1, if_neg hf]
    exact ⟨C2, T2, _, g1, o1, c1.bf.trans g2, c2.bt.trans o2, Or.inr ⟨rfl, f9, fa9, _, _, hf, g3, o3⟩⟩
end BP
