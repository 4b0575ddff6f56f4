/-! level 3: questions of one stone, one cell, the sledge, the sums, the best -/
theorem nR_o {M : Mm} {j a : Nat} (h0 : a ≠ 0) (h : a ≠ 76) : mi (sI (eRef M j) 76 0 0) a = mi M a := by
  unfold eRef
  rw [mi_sI_ne h, mi_sX, mi_sI_ne h0]
section AQ
variable {k : Nat} {M : Mm} {q : Nat → Nat}
theorem nQ_def {v : Int64} : sI (sL M 275 0 v) 76 0 0 = nQ M v := rfl
theorem vr_nQ {v : Int64} (h : RR M M q) : VR (tw M) (th M) (mi (nQ M v) 196) := by rw [nQ_o (by omega)]; exact h.wd.1
theorem a196 {N : Mm} {n : Nat} (hn : n < 415) (e : mi N 196 = mi M 196) {x : Int32} (hx : x = Int32.ofNat n) : ai N 196 415 x = some (mi M 196 n) := by
  rw [hx, ai_o hn (by omega), e]
theorem q_on {v : Int64} (h : RR M M q) : f_X10_onSledge 196 (nQ M v) = some (onS (mi M 196)) := by
  have e : mi (nQ M v) 196 = mi M 196 := nQ_o (by omega)
  have := m_onSledge LN196 (M := nQ M v) (w := tw M) (h := th M) (vr_nQ h)
  rw [e] at this
  exact this
theorem G_sledge (hI : INV k M) : ∀ x1 : Int32, GdI k (f_X9_sledge x1 M) (f_X10_sledge x1) 0 0 1 := by
  obtain ⟨⟨q, h⟩, -⟩ := id hI
  intro x
  unfold f_X9_sledge
  rw [arg2]
  by_cases hx : (0 : Int32) ≤ x ∧ x ≤ 2
  · rw [if_pos hx]
    have hs : ∀ v : Int64, f_X10_sledge x (sL M 275 0 v) = (if 2 ≤ x then (f_X10_onSledge 196 (nQ M v)).bind fun v7 => some (v7, nQ M v) else (ai (nQ M v) 196 415 (361 + x)).bind fun v9 => some (v9, nQ M v)) := fun v => by
      unfold f_X10_sledge
      rw [m_in, bsome, if_pos hx, if_neg z10, m_fine, bsome]
      dsimp only
      rw [if_pos z00]
      rfl
    unfold f_X9_sledge_j15
    rw [needA1, bsome]
    dsimp only
    rw [h.w]
    obtain ⟨n, -, hn, rfl⟩ := (in_nat (lo := 0) (hi := 2) (by omega) (by omega)).mp hx
    obtain ⟨s, hs48, e1, e2, e3, -, -⟩ := h.wd.1.sl
    have h9 : n = 0 ∨ n = 1 ∨ n = 2 := by omega
    rcases h9 with rfl | rfl | rfl
    · rw [if_pos (by decide), h.wd.2.1.1.2.2.1, e1, k_column hs48, bsome]
      refine gd_q hI rfl ?_
      rw [hs, if_neg (by decide), a196 (x := 361 + Int32.ofNat 0) (n := 361) (by omega) (nQ_o (by omega)) (by decide), e2]
      rfl
    · rw [if_neg (by decide), if_pos (by decide), h.wd.2.1.1.2.2.1, e1, k_row hs48, bsome]
      refine gd_q hI rfl ?_
      rw [hs, if_neg (by decide), a196 (x := 361 + Int32.ofNat 1) (n := 362) (by omega) (nQ_o (by omega)) (by decide), e3]
      rfl
    · rw [if_neg (by decide), if_neg (by decide)]
      refine gd_q hI rfl ?_
      rw [hs, if_pos (by decide), q_on h, bsome, h.wd.2.2.1]
  · rw [if_neg hx]
    unfold f_X9_sledge_j14 f_X9_sledge_j15
    rw [needA0, bsome]
    refine gd_r2 (b := 0) hI (by decide) rfl ?_
    unfold f_X10_sledge
    rw [m_in, bsome, if_neg hx, if_pos z00, m_r2 1 (by decide), bsome]
    rfl
theorem q_wal {N : Mm} {w h : Nat} (hV : VR w h (mi N 196)) : whl fu (f_X10_sums_b50 N) (0, 0) = some (walS (mi N 196)) := by
  have h6 := hV.n60
  exact sum_loop (b := f_X10_sums_b50 N) (rN (mi N 196)) (fun k => if mi N 196 (6 * k + 4) = 2 then mi N 196 (6 * k + 2) else 0) (by omega) (by
    intro i hi s
    unfold f_X10_sums_b50
    dsimp only
    rw [a196 (x := 360) (n := 360) (by omega) rfl rfl, bsome, hV.n, if_neg (nle hi hV.n1), m_of4 LN196 (by omega), bsome]
    by_cases h1 : mi N 196 (6 * i + 4) = 2
    · rw [if_pos h1, m_of2 LN196 (by omega), bsome, if_pos h1]
    · rw [if_neg h1, if_neg h1]) (by
    intro s
    unfold f_X10_sums_b50
    dsimp only
    rw [a196 (x := 360) (n := 360) (by omega) rfl rfl, bsome, hV.n, if_pos (le_rf _)])
theorem G_sums (hI : INV k M) : ∀ x1 : Int32, GdI k (f_X9_sums x1 M) (f_X10_sums x1) 0 0 1 := by
  obtain ⟨⟨q, h⟩, -⟩ := id hI
  intro x
  unfold f_X9_sums
  rw [arg2]
  by_cases hx : (0 : Int32) ≤ x ∧ x ≤ 3
  · rw [if_pos hx]
    have hs : ∀ v : Int64, f_X10_sums x (sL M 275 0 v) = (if 3 ≤ x then (whl fu (f_X10_sums_b50 (nQ M v)) (0, 0)).bind fun v7 => some (v7, nQ M v) else (ai (nQ M v) 196 415 (364 + x)).bind fun v9 => some (v9, nQ M v)) := fun v => by
      unfold f_X10_sums
      rw [m_in, bsome, if_pos hx, if_neg z10, m_fine, bsome]
      dsimp only
      rw [if_pos z00]
      rfl
    unfold f_X9_sums_j15
    rw [needA1, bsome]
    dsimp only
    rw [h.w]
    obtain ⟨n, -, hn, rfl⟩ := (in_nat (lo := 0) (hi := 3) (by omega) (by omega)).mp hx
    have h9 : n = 0 ∨ n = 1 ∨ n = 2 ∨ n = 3 := by omega
    rcases h9 with rfl | rfl | rfl | rfl
    · rw [if_pos (by decide)]
      refine gd_q hI rfl ?_
      rw [hs, if_neg (by decide), a196 (x := 364 + Int32.ofNat 0) (n := 364) (by omega) (nQ_o (by omega)) (by decide), h.wd.2.1.1.2.2.2.1]
      rfl
    · rw [if_neg (by decide), if_pos (by decide)]
      refine gd_q hI rfl ?_
      rw [hs, if_neg (by decide), a196 (x := 364 + Int32.ofNat 1) (n := 365) (by omega) (nQ_o (by omega)) (by decide), h.wd.2.1.1.2.2.2.2.1]
      rfl
    · rw [if_neg (by decide), if_neg (by decide), if_pos (by decide)]
      refine gd_q hI rfl ?_
      rw [hs, if_neg (by decide), a196 (x := 364 + Int32.ofNat 2) (n := 366) (by omega) (nQ_o (by omega)) (by decide), h.wd.2.1.1.2.2.2.2.2.1]
      rfl
    · rw [if_neg (by decide), if_neg (by decide), if_neg (by decide)]
      refine gd_q hI rfl ?_
      rw [hs, if_pos (by decide), q_wal (vr_nQ h), nQ_o (by omega), h.wd.2.2.2.1]
      rfl
  · rw [if_neg hx]
    unfold f_X9_sums_j14 f_X9_sums_j15
    rw [needA0, bsome]
    refine gd_r2 (b := 0) hI (by decide) rfl ?_
    unfold f_X10_sums
    rw [m_in, bsome, if_neg hx, if_pos z00, m_r2 1 (by decide), bsome]
    rfl
theorem G_stone (hI : INV k M) : ∀ x1 x2 : Int32, GdI k (f_X9_stone x1 x2 M) (f_X10_stone x1 x2) 0 1 2 := by
  obtain ⟨⟨q, h⟩, -⟩ := id hI
  intro x y
  unfold f_X9_stone
  by_cases hc : 0 ≤ x ∧ x < mi M 196 360
  · rw [k_stone_y h hc, bsome]
    dsimp only
    rw [arg2]
    by_cases hy : (0 : Int32) ≤ y ∧ y ≤ 4
    · rw [if_pos hy]
      have hs : ∀ v : Int64, f_X10_stone x y (sL M 275 0 v) = (f_X10_of 196 x y (nQ M v)).bind fun v10 => some (v10, nQ M v) := fun v => by
        unfold f_X10_stone
        rw [m_stoneq h (by rw [nQ_def]; exact nQ_o (by omega)), bsome, if_pos hc, if_neg z10, m_fine, bsome]
        dsimp only
        rw [if_pos z00, m_in, bsome, if_pos hy, if_neg z10, m_fine, bsome]
        dsimp only
        rw [if_pos z00]
        rfl
      unfold f_X9_stone_j20
      rw [needA1, bsome]
      dsimp only
      rw [h.w]
      obtain ⟨n, hn, rfl⟩ := (st_nat h.wd.1).mp hc
      obtain ⟨m, -, hm, rfl⟩ := (in_nat (lo := 0) (hi := 4) (by omega) (by omega)).mp hy
      have h6 := h.wd.1.n60
      have hW := h.wd.2.1
      have hV := h.wd.1
      have h48 := hV.c48 hn
      have hx := hV.xy hn
      have he : ∀ v : Int64, mi (nQ M v) 196 = mi M 196 := fun v => nQ_o (by omega)
      have h9 : m = 0 ∨ m = 1 ∨ m = 2 ∨ m = 3 ∨ m = 4 := by omega
      rcases h9 with rfl | rfl | rfl | rfl | rfl
      · rw [if_pos (by decide), k_cellOf hV hW hn, bsome, k_column h48, bsome]
        refine gd_q hI rfl ?_
        rw [hs, show f_X10_of 196 (Int32.ofNat n) (Int32.ofNat 0) _ = _ from m_of0 LN196 (by omega), bsome, he, hx.1]
      · rw [if_neg (by decide), if_pos (by decide), k_cellOf hV hW hn, bsome, k_row h48, bsome]
        refine gd_q hI rfl ?_
        rw [hs, show f_X10_of 196 (Int32.ofNat n) (Int32.ofNat 1) _ = _ from m_of1 LN196 (by omega), bsome, he, hx.2]
      · rw [if_neg (by decide), if_neg (by decide), if_pos (by decide), k_sizeOf hV hW hn, bsome]
        refine gd_q hI rfl ?_
        rw [hs, show f_X10_of 196 (Int32.ofNat n) (Int32.ofNat 2) _ = _ from m_of2 LN196 (by omega), bsome, he]
      · rw [if_neg (by decide), if_neg (by decide), if_neg (by decide), if_pos (by decide), k_yearOf hV hW hn, bsome]
        refine gd_q hI rfl ?_
        rw [hs, show f_X10_of 196 (Int32.ofNat n) (Int32.ofNat 3) _ = _ from m_of3 LN196 (by omega), bsome, he]
      · rw [if_neg (by decide), if_neg (by decide), if_neg (by decide), if_neg (by decide), k_placeOf hV hW hn, bsome]
        refine gd_q hI rfl ?_
        rw [hs, show f_X10_of 196 (Int32.ofNat n) (Int32.ofNat 4) _ = _ from m_of4 LN196 (by omega), bsome, he]
    · rw [if_neg hy]
      unfold f_X9_stone_j19 f_X9_stone_j20
      rw [needA0, bsome]
      refine gd_r2 (b := 0) hI (by decide) rfl ?_
      unfold f_X10_stone
      rw [m_stoneq h (nR_o (by omega) (by omega)), bsome, if_pos hc, if_neg z10, m_fine, bsome]
      dsimp only
      rw [if_pos z00, m_in, bsome, if_neg hy, if_pos z00, m_r2 2 (by decide), bsome]
      rfl
  · rw [k_stone_n h hc, bsome]
    refine gd_r1 (b := 0) hI (by decide) rfl ?_
    unfold f_X10_stone
    rw [m_stoneq h (nR_o (by omega) (by omega)), bsome, if_neg hc, if_pos z00, m_r1 1 (by decide), bsome]
    rfl
/-- how long a stone takes to clear -/
def clrO (T : Mm) (r : Nat → Int32) (i : Nat) : Int32 := if mi T 80 4 < r (6 * i + 2) then mi T 80 9 * r (6 * i + 2) else 2 * mi T 80 5 * (r (6 * i) + 1) + r (6 * i + 2)
theorem m_clearOf {N : Mm} {a i : Nat} (hL : LN a = 415) (hi : i < 60) : f_X10_clearOf a (Int32.ofNat i) N = some (clrO N (mi N a) i) := by
  unfold f_X10_clearOf clrO
  rw [m_of2 hL (by omega), bsome, show ai N 80 10 4 = some (mi N 80 4) from ai_o (i := 4) (by omega) (by omega), bsome]
  by_cases hA : mi N 80 4 < mi N a (6 * i + 2)
  · rw [if_pos hA, if_pos hA, show ai N 80 10 9 = some (mi N 80 9) from ai_o (i := 9) (by omega) (by omega), bsome, bsome]
  · rw [if_neg hA, if_neg hA, show ai N 80 10 5 = some (mi N 80 5) from ai_o (i := 5) (by omega) (by omega), bsome, m_of0 hL (by omega), bsome, bsome]
theorem k_clearingOf {C T : Mm} {g a i w h : Nat} {r : Nat → Int32} (hG : RGd C T g) (hV : VR w h r) (hW : RW C a r) (hi : i < rN r) : f_X8_clearingOf a g (Int32.ofNat i) C = some (clrO T r i) := by
  unfold f_X8_clearingOf clrO
  rw [k_sizeOf hV hW hi, bsome, hG.2.1.2.2.2.1, hG.2.1.2.2.2.2.1, hG.2.1.2.2.2.2.2.2.2.2]
  by_cases hA : mi T 80 4 < r (6 * i + 2)
  · rw [if_neg (lnle hA), if_pos hA]
  · rw [if_pos (nlt hA), if_neg hA, k_cellOf hV hW hi, bsome, k_column (hV.c48 hi), bsome, (hV.xy hi).1]
theorem G_clear (hI : INV k M) : ∀ x1 : Int32, GdI k (f_X9_clear x1 M) (f_X10_clear x1) 0 1 0 := by
  obtain ⟨⟨q, h⟩, -⟩ := id hI
  intro x
  unfold f_X9_clear
  by_cases hc : 0 ≤ x ∧ x < mi M 196 360
  · rw [k_stone_y h hc, bsome]
    dsimp only
    have hs : ∀ v : Int64, f_X10_clear x (sL M 275 0 v) = (f_X10_isLying 196 x (nQ M v)).bind fun v6 => if v6 = 0 then some (0, nQ M v) else (f_X10_clearOf 196 x (nQ M v)).bind fun v9 => some (v9, nQ M v) := fun v => by
      unfold f_X10_clear
      rw [m_stoneq h (by rw [nQ_def]; exact nQ_o (by omega)), bsome, if_pos hc, if_neg z10, m_fine, bsome]
      dsimp only
      rw [if_pos z00]
      rfl
    obtain ⟨n, hn, rfl⟩ := (st_nat h.wd.1).mp hc
    have h6 := h.wd.1.n60
    have hW := h.wd.2.1
    have hV := h.wd.1
    have he : ∀ v : Int64, mi (nQ M v) 196 = mi M 196 := fun v => nQ_o (by omega)
    have h80 : ∀ v : Int64, mi (nQ M v) 80 = mi M 80 := fun v => nQ_o (by omega)
    rw [h.w, h.g, k_placeOf hV hW hn, bsome]
    by_cases h1 : mi M 196 (6 * n + 4) = 0
    · rw [if_pos h1, k_clearingOf h.gd hV hW hn, bsome]
      refine gd_q hI rfl ?_
      rw [hs, m_isLying LN196 (by omega), bsome, he, if_pos h1, if_neg z10, m_clearOf LN196 (by omega), bsome]
      unfold clrO
      rw [he, h80]
    · rw [if_neg h1]
      refine gd_q hI rfl ?_
      rw [hs, m_isLying LN196 (by omega), bsome, he, if_neg h1, if_pos z00]
  · rw [k_stone_n h hc, bsome]
    refine gd_r1 (b := 0) hI (by decide) rfl ?_
    unfold f_X10_clear
    rw [m_stoneq h (nR_o (by omega) (by omega)), bsome, if_neg hc, if_pos z00, m_r1 1 (by decide), bsome]
    rfl
end AQ
