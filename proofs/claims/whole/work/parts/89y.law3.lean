/-! level 3: a law read: sums, products, choices -/
section LC9
variable {b : Nat → Int32} {C C' T T' : Mm} {L p cnt D dep a0 p0 s n m : Nat} {f fa x2 : Int32}
def cR (n i a0 : Nat) : Nat → Mm → Option Mm := fun dep C => R_X4_readSum n i a0 (Int32.ofNat dep) C
theorem hf_sum (ha : 28 ≤ a0) (hn : 5 ≤ n) (hm : 3 ≤ m) : HF b a0 L (cR n 0 a0) (R_X10_sum m 0) dep := by
  obtain ⟨n, rfl⟩ : ∃ k, n = k + 5 := ⟨n - 5, by omega⟩
  obtain ⟨m, rfl⟩ : ∃ k, m = k + 3 := ⟨m - 3, by omega⟩
  exact ⟨fun C p f fa hf hk t => kf_sum ha hf hk t, fun T p f fa hf t => mf_sum hf t⟩
theorem hf_product (ha : 28 ≤ a0) (hn : 4 ≤ n) (hm : 2 ≤ m) : HF b a0 L (cR n 1 a0) (R_X10_sum m 1) dep := by
  obtain ⟨n, rfl⟩ : ∃ k, n = k + 4 := ⟨n - 4, by omega⟩
  obtain ⟨m, rfl⟩ : ∃ k, m = k + 2 := ⟨m - 2, by omega⟩
  exact ⟨fun C p f fa hf hk t => kf_product ha hf hk t, fun T p f fa hf t => mf_product hf t⟩
theorem hf_part (ha : 28 ≤ a0) (hn : 3 ≤ n) (hm : 1 ≤ m) : HF b a0 L (cR n 2 a0) (R_X10_sum m 2) dep := by
  obtain ⟨n, rfl⟩ : ∃ k, n = k + 3 := ⟨n - 3, by omega⟩
  obtain ⟨m, rfl⟩ : ∃ k, m = k + 1 := ⟨m - 1, by omega⟩
  exact ⟨fun C p f fa hf hk t => kf_part ha hf hk t, fun T p f fa hf t => mf_one hf t⟩
/-- an operator read on both sides -/
theorem y_op {rec : Nat → Nat → Int32 → Mm → Option Mm} {x : Int32} (hp : bL b L (nb b L p) = x) (hx : x ≠ -1) (t : TC b C L (nb b L p) 0 (-1)) : ∃ C3, CFr C C3 ∧ TC b C3 L (nb b L p + 1) 0 (-1) ∧ ∀ (i : Nat) (j : Nat), ((f_X7_next C).bind fun (v5, M5) => (f_X7_skipSign M5).bind fun M6 => (rec j a0 x2 M6).bind fun M7 => (f_X4_put a0 (-v5) M7).bind fun M8 => some (Sum.inl ((Int32.ofNat i + (1 : Int32)), M8) : (Int32 × Mm) ⊕ Mm)) = (rec j a0 x2 C3).bind fun M7 => (f_X4_put a0 (-x) M7).bind fun M8 => some (.inl (Int32.ofNat (i + 1), M8)) := by
  have hle := t.1.2.1
  have hlt : nb b L p < L := by
    by_cases hlt : nb b L p < L
    · exact hlt
    · unfold bL at hp
      rw [if_neg hlt] at hp
      exact absurd hp.symm hx
  obtain ⟨C2, e2, t2, c2, -⟩ := k_next t
  have hid : nb b L (nb b L p) = nb b L p := by
    unfold nb
    unfold nb at hle hlt
    exact skp_n hlt (skp_at (by
      by_cases h9 : p ≤ L
      · exact h9
      · exfalso
        rw [skp_e (show ¬ p < L by omega)] at hle
        omega) hlt)
  rw [hid] at e2 t2
  refine ⟨sI C2 1 3 (Int32.ofNat (nb b L p + 1)), c2.trans (CFr.s (by omega)), t2.pos (by omega), fun i j => ?_⟩
  rw [e2, bsome]
  dsimp only
  rw [k_skipSign t2 hlt, bsome, hp, oN_S]
theorem y_product (hb : TxB b) (hL : L ≤ 150) (ha : 28 ≤ a0) (hn : 3 ≤ n) (hm : 1 ≤ m) (hG : HG b a0 L (cR n 2 a0) (R_X10_sum m 2) dep) : HG b a0 L (cR (n + 1) 1 a0) (R_X10_sum (m + 1) 1) dep := by
  have hF := hf_part (b := b) (L := L) (dep := dep) ha hn hm
  intro C T p p' s cnt D hS hS2 he hs hr
  obtain ⟨C1, T1, e1, e2, c1, c2, hx⟩ := hG C T p p' s cnt D hS hS2 he hs hr
  have hT : R_X10_sum (m + 1) 1 T = (whl fu (f_X10_product_b4 (R_X10_sum m)) T1).bind fun e12 => (match e12 with | .inl M12 => some M12 | .inr M12 => some M12) := by
    show fb_X10_product (R_X10_sum m) T = _
    unfold fb_X10_product
    rw [e2, bsome]
    cases whl fu (f_X10_product_b4 (R_X10_sum m)) T1 with
    | none => rfl
    | some e => cases e <;> rfl
  have hC : cR (n + 1) 1 a0 dep C = whl fu (f_X4_readProduct_b8 (R_X4_readSum n) a0 (Int32.ofNat dep)) (0, C1) := by
    show fb_X4_readProduct (R_X4_readSum n) a0 (Int32.ofNat dep) C = _
    unfold fb_X4_readProduct
    rw [show R_X4_readSum n 2 a0 (Int32.ofNat dep) C = some C1 from e1, bsome]
    cases whl fu (f_X4_readProduct_b8 (R_X4_readSum n) a0 (Int32.ofNat dep)) (0, C1) with
    | none => rfl
    | some _ => rfl
  have hfl : ∀ C p f fa x, f ≠ 0 → TC b C L p f fa → f_X4_readProduct_b8 (R_X4_readSum n) a0 (Int32.ofNat dep) (x, C) = some (.inr C) := fun C p f fa x hf t => by
    unfold f_X4_readProduct_b8 f_X4_isProductSign g_X4_isProductSign
    dsimp only
    by_cases h9 : (150 : Int32) ≤ x
    · rw [if_pos h9]
    · rw [if_neg h9, k_isNext_f t hf, bsome]
      dsimp only
      rw [if_pos z00, k_isNext_f t hf, bsome]
      dsimp only
      rw [if_pos z00, k_isNext_f t hf, bsome]
      dsimp only
      rw [if_pos z00]
      rfl
  have hft : ∀ T p f fa, f ≠ 0 → TT b T L p f fa → f_X10_product_b4 (R_X10_sum m) T = some (.inr (.inr T)) := fun T p f fa hf t => by
    unfold f_X10_product_b4
    rw [t.1.2.2.2.2.1, if_neg hf]
  rw [hT, hC]
  rcases hx with ⟨p1, cn1, x1, x2, x3, x4⟩ | ⟨⟨f, fa, p2, p3, hf, x1, x2⟩, x3⟩
  · have ops := y_ops (FC := f_X4_readProduct_b8 (R_X4_readSum n) a0 (Int32.ofNat dep)) (FT := f_X10_product_b4 (R_X10_sum m)) (rC := cR n 2 a0) (rT := R_X10_sum m 2) ha hL hG hF (fun C T p i hS hi => by
      obtain ⟨A1, a1, a2, a3⟩ := k_isNext (x := 42) hS.1 rfl
      have hid : nb b L (nb b L p) = nb b L p := nb_id hS.1.1.2.1
      obtain ⟨A2, b1, b2, b3⟩ := k_isNext (x := 47) a3 rfl
      obtain ⟨A3, d1, d2, d3⟩ := k_isNext (x := 37) b3 rfl
      rw [hid] at b1 b3 d1 d3
      rw [hid] at d1 d3
      obtain ⟨B1, g1, g2, g3⟩ := m_takes (x := 42) hb (by decide) hS.2
      have kp : ∀ (v : Int32) (A : Mm), g_X4_isProductSign C = some (v, A) → (v = 0 ∨ v = 1) → f_X4_readProduct_b8 (R_X4_readSum n) a0 (Int32.ofNat dep) (Int32.ofNat i, C) = if v = 0 then some (.inr A) else (f_X7_next A).bind fun (v5, M5) => (f_X7_skipSign M5).bind fun M6 => (R_X4_readSum n 2 a0 (Int32.ofNat dep) M6).bind fun M7 => (f_X4_put a0 (-v5) M7).bind fun M8 => some (.inl ((Int32.ofNat i + (1 : Int32)), M8)) := fun v A hv h01 => by
        unfold f_X4_readProduct_b8 f_X4_isProductSign
        dsimp only
        rw [if_neg (show ¬ (150 : Int32) ≤ Int32.ofNat i from nle (n := 150) hi (by omega)), hv, bsome]
        dsimp only
        rw [show rB v = some v from if_pos h01, bsome, bsome]
      by_cases h42 : bL b L (nb b L p) = 42
      · rw [if_pos h42] at a1 g1 g3
        obtain ⟨C3, o1, o2, o3⟩ := y_op (rec := R_X4_readSum n) (a0 := a0) (x2 := Int32.ofNat dep) h42 (by decide) a3
        refine Or.inr ⟨C3, B1, 4, -42, a2.trans o1, g2, ⟨o2, g3⟩, Or.inr (Or.inr (Or.inr (Or.inr (Or.inl ⟨rfl, rfl⟩)))), by decide, ?_, ?_⟩
        · rw [kp 1 A1 (by unfold g_X4_isProductSign; rw [a1, bsome]; dsimp only; rw [if_neg z10]) (Or.inr rfl), if_neg z10]
          exact o3 i 2
        · unfold f_X10_product_b4
          rw [hS.2.1.2.2.2.2.1, if_pos rfl, g1, bsome]
          dsimp only
          rw [if_neg z10]
          unfold f_X10_product_j52
          rw [if_neg (show ¬ (4 : Int32) = -1 by decide)]
      · rw [if_neg h42] at a1 g1 g3
        obtain ⟨B2, g4, g5, g6⟩ := m_takes (x := 47) hb (by decide) g3
        rw [hid] at g4 g6
        by_cases h47 : bL b L (nb b L p) = 47
        · rw [if_pos h47] at b1 g4 g6
          obtain ⟨C3, o1, o2, o3⟩ := y_op (rec := R_X4_readSum n) (a0 := a0) (x2 := Int32.ofNat dep) h47 (by decide) b3
          refine Or.inr ⟨C3, B2, 5, -47, (a2.trans b2).trans o1, g2.trans g5, ⟨o2, g6⟩, Or.inr (Or.inr (Or.inr (Or.inr (Or.inr (Or.inl ⟨rfl, rfl⟩))))), by decide, ?_, ?_⟩
          · rw [kp 1 A2 (by unfold g_X4_isProductSign; rw [a1, bsome]; dsimp only; rw [if_pos z00, b1, bsome]; dsimp only; rw [if_neg z10]) (Or.inr rfl), if_neg z10]
            exact o3 i 2
          · unfold f_X10_product_b4
            rw [hS.2.1.2.2.2.2.1, if_pos rfl, g1, bsome]
            dsimp only
            rw [if_pos z00, g4, bsome]
            dsimp only
            rw [if_neg z10]
            unfold f_X10_product_j52
            rw [if_neg (show ¬ (5 : Int32) = -1 by decide)]
        · rw [if_neg h47] at b1 g4 g6
          obtain ⟨B3, g7, g8, g9⟩ := m_takes (x := 37) hb (by decide) g6
          rw [hid] at g7 g9
          by_cases h37 : bL b L (nb b L p) = 37
          · rw [if_pos h37] at d1 g7 g9
            obtain ⟨C3, o1, o2, o3⟩ := y_op (rec := R_X4_readSum n) (a0 := a0) (x2 := Int32.ofNat dep) h37 (by decide) d3
            refine Or.inr ⟨C3, B3, 6, -37, ((a2.trans b2).trans d2).trans o1, (g2.trans g5).trans g8, ⟨o2, g9⟩, Or.inr (Or.inr (Or.inr (Or.inr (Or.inr (Or.inr (Or.inl ⟨rfl, rfl⟩)))))), by decide, ?_, ?_⟩
            · rw [kp 1 A3 (by unfold g_X4_isProductSign; rw [a1, bsome]; dsimp only; rw [if_pos z00, b1, bsome]; dsimp only; rw [if_pos z00, d1, bsome]; dsimp only; rw [if_neg z10]) (Or.inr rfl), if_neg z10]
              exact o3 i 2
            · unfold f_X10_product_b4
              rw [hS.2.1.2.2.2.2.1, if_pos rfl, g1, bsome]
              dsimp only
              rw [if_pos z00, g4, bsome]
              dsimp only
              rw [if_pos z00, g7, bsome]
              dsimp only
              rw [if_neg z10]
              unfold f_X10_product_j52
              rw [if_neg (show ¬ (6 : Int32) = -1 by decide)]
          · rw [if_neg h37] at d1 g7 g9
            refine Or.inl ⟨A3, B3, .inl B3, ?_, ?_, Or.inl rfl, (a2.trans b2).trans d2, (g2.trans g5).trans g8, ⟨d3, g9⟩⟩
            · rw [kp 0 A3 (by unfold g_X4_isProductSign; rw [a1, bsome]; dsimp only; rw [if_pos z00, b1, bsome]; dsimp only; rw [if_pos z00, d1, bsome]; dsimp only; rw [if_pos z00]) (Or.inl rfl), if_pos z00]
            · unfold f_X10_product_b4
              rw [hS.2.1.2.2.2.2.1, if_pos rfl, g1, bsome]
              dsimp only
              rw [if_pos z00, g4, bsome]
              dsimp only
              rw [if_pos z00, g7, bsome]
              dsimp only
              rw [if_pos z00]
              unfold f_X10_product_j52
              rw [if_pos rfl]) hfl hft
    obtain ⟨C2, T2, e, w1, w2, w3, w4, w5, w6⟩ := ops (L - p1) p1 C1 T1 0 999999 999999 s cn1 (D + 1) (Nat.le_refl _) (by omega) (by omega) (by omega) (by omega) x2 x3 x4
    refine ⟨C2, T2, w1, ?_, c1.trans w4, c2.trans w5, ?_⟩
    · rw [show whl fu (f_X10_product_b4 (R_X10_sum m)) T1 = some e from w2, bsome]
      rcases w3 with rfl | rfl <;> rfl
    · rcases w6 with ⟨p4, c9, z1, z2⟩ | w6
      · exact Or.inl ⟨p4, c9, by omega, z2⟩
      · exact Or.inr w6
  · refine ⟨C1, T1, ?_, ?_, c1, c2, Or.inr ⟨⟨f, fa, p2, p3, hf, x1, x2⟩, x3⟩⟩
    · exact whl_e (n := 999999) (hfl C1 p2 f fa 0 hf x1)
    · rw [show whl fu (f_X10_product_b4 (R_X10_sum m)) T1 = some (.inr T1) from whl_e (n := 999999) (hft T1 p3 f fa hf x2), bsome]
theorem y_sum (hb : TxB b) (hL : L ≤ 150) (ha : 28 ≤ a0) (hn : 4 ≤ n) (hm : 2 ≤ m) (hG : HG b a0 L (cR n 1 a0) (R_X10_sum m 1) dep) : HG b a0 L (cR (n + 1) 0 a0) (R_X10_sum (m + 1) 0) dep := by
  have hF := hf_product (b := b) (L := L) (dep := dep) ha hn hm
  intro C T p p' s cnt D hS hS2 he hs hr
  obtain ⟨C1, T1, e1, e2, c1, c2, hx⟩ := hG C T p p' s cnt D hS hS2 he hs hr
  have hT : R_X10_sum (m + 1) 0 T = (whl fu (f_X10_sum_b4 (R_X10_sum m)) T1).bind fun e12 => (match e12 with | .inl M12 => some M12 | .inr M12 => some M12) := by
    show fb_X10_sum (R_X10_sum m) T = _
    unfold fb_X10_sum
    rw [e2, bsome]
    cases whl fu (f_X10_sum_b4 (R_X10_sum m)) T1 with
    | none => rfl
    | some e => cases e <;> rfl
  have hC : cR (n + 1) 0 a0 dep C = whl fu (f_X4_readSum_b8 (R_X4_readSum n) a0 (Int32.ofNat dep)) (0, C1) := by
    show fb_X4_readSum (R_X4_readSum n) a0 (Int32.ofNat dep) C = _
    unfold fb_X4_readSum
    rw [show R_X4_readSum n 1 a0 (Int32.ofNat dep) C = some C1 from e1, bsome]
    cases whl fu (f_X4_readSum_b8 (R_X4_readSum n) a0 (Int32.ofNat dep)) (0, C1) with
    | none => rfl
    | some _ => rfl
  have hfl : ∀ C p f fa x, f ≠ 0 → TC b C L p f fa → f_X4_readSum_b8 (R_X4_readSum n) a0 (Int32.ofNat dep) (x, C) = some (.inr C) := fun C p f fa x hf t => by
    unfold f_X4_readSum_b8
    dsimp only
    by_cases h9 : (150 : Int32) ≤ x
    · rw [if_pos h9]
    · rw [if_neg h9, k_isNext_f t hf, bsome]
      dsimp only
      rw [if_pos z00, k_isNext_f t hf, bsome]
      dsimp only
      rw [if_pos z00]
  have hft : ∀ T p f fa, f ≠ 0 → TT b T L p f fa → f_X10_sum_b4 (R_X10_sum m) T = some (.inr (.inr T)) := fun T p f fa hf t => by
    unfold f_X10_sum_b4
    rw [t.1.2.2.2.2.1, if_neg hf]
  rw [hT, hC]
  rcases hx with ⟨p1, cn1, x1, x2, x3, x4⟩ | ⟨⟨f, fa, p2, p3, hf, x1, x2⟩, x3⟩
  · have ops := y_ops (FC := f_X4_readSum_b8 (R_X4_readSum n) a0 (Int32.ofNat dep)) (FT := f_X10_sum_b4 (R_X10_sum m)) (rC := cR n 1 a0) (rT := R_X10_sum m 1) ha hL hG hF (fun C T p i hS hi => by
      obtain ⟨A1, a1, a2, a3⟩ := k_isNext (x := 43) hS.1 rfl
      have hid : nb b L (nb b L p) = nb b L p := nb_id hS.1.1.2.1
      obtain ⟨A2, b1, b2, b3⟩ := k_isNext (x := 45) a3 rfl
      rw [hid] at b1 b3
      obtain ⟨B1, g1, g2, g3⟩ := m_takes (x := 43) hb (by decide) hS.2
      have h150 : ¬ (150 : Int32) ≤ Int32.ofNat i := nle (n := 150) hi (by omega)
      by_cases h42 : bL b L (nb b L p) = 43
      · rw [if_pos h42] at a1 g1 g3
        obtain ⟨C3, o1, o2, o3⟩ := y_op (rec := R_X4_readSum n) (a0 := a0) (x2 := Int32.ofNat dep) h42 (by decide) a3
        refine Or.inr ⟨C3, B1, 2, -43, a2.trans o1, g2, ⟨o2, g3⟩, Or.inr (Or.inr (Or.inl ⟨rfl, rfl⟩)), by decide, ?_, ?_⟩
        · unfold f_X4_readSum_b8
          dsimp only
          rw [if_neg h150, a1, bsome]
          dsimp only
          rw [if_neg z10]
          exact o3 i 1
        · unfold f_X10_sum_b4
          rw [hS.2.1.2.2.2.2.1, if_pos rfl, g1, bsome]
          dsimp only
          rw [if_neg z10]
          unfold f_X10_sum_j38
          rw [if_neg (show ¬ (2 : Int32) = -1 by decide)]
      · rw [if_neg h42] at a1 g1 g3
        obtain ⟨B2, g4, g5, g6⟩ := m_takes (x := 45) hb (by decide) g3
        rw [hid] at g4 g6
        by_cases h47 : bL b L (nb b L p) = 45
        · rw [if_pos h47] at b1 g4 g6
          obtain ⟨C3, o1, o2, o3⟩ := y_op (rec := R_X4_readSum n) (a0 := a0) (x2 := Int32.ofNat dep) h47 (by decide) b3
          refine Or.inr ⟨C3, B2, 3, -45, (a2.trans b2).trans o1, g2.trans g5, ⟨o2, g6⟩, Or.inr (Or.inr (Or.inr (Or.inl ⟨rfl, rfl⟩))), by decide, ?_, ?_⟩
          · unfold f_X4_readSum_b8
            dsimp only
            rw [if_neg h150, a1, bsome]
            dsimp only
            rw [if_pos z00, b1, bsome]
            dsimp only
            rw [if_neg z10]
            exact o3 i 1
          · unfold f_X10_sum_b4
            rw [hS.2.1.2.2.2.2.1, if_pos rfl, g1, bsome]
            dsimp only
            rw [if_pos z00, g4, bsome]
            dsimp only
            rw [if_neg z10]
            unfold f_X10_sum_j38
            rw [if_neg (show ¬ (3 : Int32) = -1 by decide)]
        · rw [if_neg h47] at b1 g4 g6
          refine Or.inl ⟨A2, B2, .inl B2, ?_, ?_, Or.inl rfl, a2.trans b2, g2.trans g5, ⟨b3, g6⟩⟩
          · unfold f_X4_readSum_b8
            dsimp only
            rw [if_neg h150, a1, bsome]
            dsimp only
            rw [if_pos z00, b1, bsome]
            dsimp only
            rw [if_pos z00]
          · unfold f_X10_sum_b4
            rw [hS.2.1.2.2.2.2.1, if_pos rfl, g1, bsome]
            dsimp only
            rw [if_pos z00, g4, bsome]
            dsimp only
            rw [if_pos z00]
            unfold f_X10_sum_j38
            rw [if_pos rfl]) hfl hft
    obtain ⟨C2, T2, e, w1, w2, w3, w4, w5, w6⟩ := ops (L - p1) p1 C1 T1 0 999999 999999 s cn1 (D + 1) (Nat.le_refl _) (by omega) (by omega) (by omega) (by omega) x2 x3 x4
    refine ⟨C2, T2, w1, ?_, c1.trans w4, c2.trans w5, ?_⟩
    · rw [show whl fu (f_X10_sum_b4 (R_X10_sum m)) T1 = some e from w2, bsome]
      rcases w3 with rfl | rfl <;> rfl
    · rcases w6 with ⟨p4, c9, z1, z2⟩ | w6
      · exact Or.inl ⟨p4, c9, by omega, z2⟩
      · exact Or.inr w6
  · refine ⟨C1, T1, ?_, ?_, c1, c2, Or.inr ⟨⟨f, fa, p2, p3, hf, x1, x2⟩, x3⟩⟩
    · exact whl_e (n := 999999) (hfl C1 p2 f fa 0 hf x1)
    · rw [show whl fu (f_X10_sum_b4 (R_X10_sum m)) T1 = some (.inr T1) from whl_e (n := 999999) (hft T1 p3 f fa hf x2), bsome]
end LC9
