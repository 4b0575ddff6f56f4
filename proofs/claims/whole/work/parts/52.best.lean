/-! level 3: the chosen stone; the tape fed -/
section AB
variable {k : Nat} {M : Mm} {q : Nat → Nat}
theorem k_largest {C : Mm} {a w h : Nat} {r : Nat → Int32} (hV : VR w h r) (hW : RW C a r) : f_X8_largest a C = some (enc (bst (fun i j => !decide (r (6 * i + 2) ≤ r (6 * j + 2))) (fun i => decide (r (6 * i + 4) = 0)) (rN r))) := by
  have h6 := hV.n60
  have e := bst_loop (b := f_X8_largest_b4 a C) (lt := fun i j => !decide (r (6 * i + 2) ≤ r (6 * j + 2))) (ly := fun i => decide (r (6 * i + 4) = 0)) (rN r) (by omega) (by
    intro i hi s hl
    have hl : ¬ r (6 * i + 4) = 0 := of_decide_eq_false hl
    unfold f_X8_largest_b4
    dsimp only
    rw [hW.n, hV.n, if_neg (nle hi hV.n1), k_placeOf hV hW hi, bsome, if_neg hl]) (by
    intro i hi hl
    have hl : r (6 * i + 4) = 0 := of_decide_eq_true hl
    unfold f_X8_largest_b4
    dsimp only
    rw [hW.n, hV.n, if_neg (nle hi hV.n1), k_placeOf hV hW hi, bsome, if_pos hl, if_pos rfl]
    rfl) (by
    intro i j hi hj hl
    have hl : r (6 * i + 4) = 0 := of_decide_eq_true hl
    have hm : ¬ Int32.ofNat j = -1 := fun e => oN_nn (i := j) (by omega) (by rw [e]; decide)
    unfold f_X8_largest_b4
    dsimp only
    rw [hW.n, hV.n, if_neg (nle hi hV.n1), k_placeOf hV hW hi, bsome, if_pos hl, if_neg hm, k_sizeOf hV hW hi, bsome, k_sizeOf hV hW (Nat.lt_trans hj hi), bsome]
    by_cases hle : r (6 * i + 2) ≤ r (6 * j + 2)
    · rw [if_pos hle, decide_eq_true hle]; rfl
    · rw [if_neg hle, decide_eq_false hle]; rfl) (by
    intro s
    unfold f_X8_largest_b4
    dsimp only
    rw [hW.n, hV.n, if_pos (le_rf _)])
  unfold f_X8_largest
  rw [e]
  rfl
theorem k_nearest {C : Mm} {a w h s : Nat} {r : Nat → Int32} (hV : VR w h r) (hW : RW C a r) (hs : s < 48) (es : mi C a 10 = Int32.ofNat s) : f_X8_nearest a C = some (enc (bst (fun i j => !decide (fr (rC r j) s ≤ fr (rC r i) s)) (fun i => decide (r (6 * i + 4) = 0)) (rN r))) := by
  have h6 := hV.n60
  have e := bst_loop (b := f_X8_nearest_b4 a C) (lt := fun i j => !decide (fr (rC r j) s ≤ fr (rC r i) s)) (ly := fun i => decide (r (6 * i + 4) = 0)) (rN r) (by omega) (by
    intro i hi s hl
    have hl : ¬ r (6 * i + 4) = 0 := of_decide_eq_false hl
    unfold f_X8_nearest_b4
    dsimp only
    rw [hW.n, hV.n, if_neg (nle hi hV.n1), k_placeOf hV hW hi, bsome, if_neg hl]) (by
    intro i hi hl
    have hl : r (6 * i + 4) = 0 := of_decide_eq_true hl
    unfold f_X8_nearest_b4
    dsimp only
    rw [hW.n, hV.n, if_neg (nle hi hV.n1), k_placeOf hV hW hi, bsome, if_pos hl, if_pos rfl]
    rfl) (by
    intro i j hi hj hl
    have hl : r (6 * i + 4) = 0 := of_decide_eq_true hl
    have hm : ¬ Int32.ofNat j = -1 := fun e => oN_nn (i := j) (by omega) (by rw [e]; decide)
    unfold f_X8_nearest_b4
    dsimp only
    rw [hW.n, hV.n, if_neg (nle hi hV.n1), k_placeOf hV hW hi, bsome, if_pos hl, if_neg hm, k_cellOf hV hW hi, bsome, es, k_far (hV.c48 hi) hs, bsome, k_cellOf hV hW (Nat.lt_trans hj hi), bsome, k_far (hV.c48 (Nat.lt_trans hj hi)) hs, bsome]
    by_cases hle : fr (rC r j) s ≤ fr (rC r i) s
    · rw [if_pos hle, decide_eq_true hle]; rfl
    · rw [if_neg hle, decide_eq_false hle]; rfl) (by
    intro s
    unfold f_X8_nearest_b4
    dsimp only
    rw [hW.n, hV.n, if_pos (le_rf _)])
  unfold f_X8_nearest
  rw [e]
  rfl
theorem m_far_c {N : Mm} {c s : Nat} (hc : c < 48) (hs : s < 48) : f_X10_farOf (Int32.ofNat (c % 8)) (Int32.ofNat (c / 8)) (Int32.ofNat (s % 8)) (Int32.ofNat (s / 8)) N = some (fr c s) := m_farOf (by omega) (by omega) (by omega) (by omega)
theorem m_farNow {N : Mm} {i s w h : Nat} (hV : VR w h (mi N 196)) (hi : i < rN (mi N 196)) (hs : s < 48) (e1 : mi N 196 361 = Int32.ofNat (s % 8)) (e2 : mi N 196 362 = Int32.ofNat (s / 8)) : f_X10_farNow (Int32.ofNat i) N = some (fr (rC (mi N 196) i) s) := by
  have h6 := hV.n60
  unfold f_X10_farNow
  rw [m_of0 LN196 (by omega), bsome, m_of1 LN196 (by omega), bsome, show ai N 196 415 361 = some (mi N 196 361) from ai_o (i := 361) (by omega) (by omega), bsome, show ai N 196 415 362 = some (mi N 196 362) from ai_o (i := 362) (by omega) (by omega), bsome, (hV.xy hi).1, (hV.xy hi).2, e1, e2, m_far_c (hV.c48 hi) hs]
  rfl
theorem m_chosen0 {N : Mm} {w h : Nat} (hV : VR w h (mi N 196)) : whl fu (f_X10_chosen_b34 0 N) (-1, 0) = some (enc (bst (fun i j => !decide (mi N 196 (6 * i + 2) ≤ mi N 196 (6 * j + 2))) (fun i => decide (mi N 196 (6 * i + 4) = 0)) (rN (mi N 196)))) := by
  have h6 := hV.n60
  have e360 : ai N 196 415 360 = some (mi N 196 360) := ai_o (i := 360) (by omega) (by omega)
  exact bst_loop (b := f_X10_chosen_b34 0 N) (lt := fun i j => !decide (mi N 196 (6 * i + 2) ≤ mi N 196 (6 * j + 2))) (ly := fun i => decide (mi N 196 (6 * i + 4) = 0)) (rN (mi N 196)) (by omega) (by
    intro i hi s hl
    have hl : ¬ mi N 196 (6 * i + 4) = 0 := of_decide_eq_false hl
    unfold f_X10_chosen_b34
    dsimp only
    rw [e360, bsome, hV.n, if_neg (nle hi hV.n1), m_isLying LN196 (by omega), bsome, if_neg hl, if_pos z00]) (by
    intro i hi hl
    have hl : mi N 196 (6 * i + 4) = 0 := of_decide_eq_true hl
    unfold f_X10_chosen_b34
    dsimp only
    rw [e360, bsome, hV.n, if_neg (nle hi hV.n1), m_isLying LN196 (by omega), bsome, if_pos hl, if_neg z10, if_pos rfl]
    rfl) (by
    intro i j hi hj hl
    have hl : mi N 196 (6 * i + 4) = 0 := of_decide_eq_true hl
    have hm : ¬ Int32.ofNat j = -1 := fun e => oN_nn (i := j) (by omega) (by rw [e]; decide)
    unfold f_X10_chosen_b34
    dsimp only
    rw [e360, bsome, hV.n, if_neg (nle hi hV.n1), m_isLying LN196 (by omega), bsome, if_pos hl, if_neg z10, if_neg hm, if_pos z00, m_of2 LN196 (by omega), bsome, m_of2 LN196 (by omega), bsome]
    by_cases hle : mi N 196 (6 * i + 2) ≤ mi N 196 (6 * j + 2)
    · rw [if_pos hle, decide_eq_true hle]; rfl
    · rw [if_neg hle, decide_eq_false hle]; rfl) (by
    intro s
    unfold f_X10_chosen_b34
    dsimp only
    rw [e360, bsome, hV.n, if_pos (le_rf _)])
theorem m_chosen1 {N : Mm} {w h s : Nat} (hV : VR w h (mi N 196)) (hs : s < 48) (e1 : mi N 196 361 = Int32.ofNat (s % 8)) (e2 : mi N 196 362 = Int32.ofNat (s / 8)) : whl fu (f_X10_chosen_b34 1 N) (-1, 0) = some (enc (bst (fun i j => !decide (fr (rC (mi N 196) j) s ≤ fr (rC (mi N 196) i) s)) (fun i => decide (mi N 196 (6 * i + 4) = 0)) (rN (mi N 196)))) := by
  have h6 := hV.n60
  have e360 : ai N 196 415 360 = some (mi N 196 360) := ai_o (i := 360) (by omega) (by omega)
  exact bst_loop (b := f_X10_chosen_b34 1 N) (lt := fun i j => !decide (fr (rC (mi N 196) j) s ≤ fr (rC (mi N 196) i) s)) (ly := fun i => decide (mi N 196 (6 * i + 4) = 0)) (rN (mi N 196)) (by omega) (by
    intro i hi s hl
    have hl : ¬ mi N 196 (6 * i + 4) = 0 := of_decide_eq_false hl
    unfold f_X10_chosen_b34
    dsimp only
    rw [e360, bsome, hV.n, if_neg (nle hi hV.n1), m_isLying LN196 (by omega), bsome, if_neg hl, if_pos z00]) (by
    intro i hi hl
    have hl : mi N 196 (6 * i + 4) = 0 := of_decide_eq_true hl
    unfold f_X10_chosen_b34
    dsimp only
    rw [e360, bsome, hV.n, if_neg (nle hi hV.n1), m_isLying LN196 (by omega), bsome, if_pos hl, if_neg z10, if_pos rfl]
    rfl) (by
    intro i j hi hj hl
    have hl : mi N 196 (6 * i + 4) = 0 := of_decide_eq_true hl
    have hm : ¬ Int32.ofNat j = -1 := fun e => oN_nn (i := j) (by omega) (by rw [e]; decide)
    unfold f_X10_chosen_b34
    dsimp only
    rw [e360, bsome, hV.n, if_neg (nle hi hV.n1), m_isLying LN196 (by omega), bsome, if_pos hl, if_neg z10, if_neg hm, if_neg z10, m_farNow hV hi hs e1 e2, bsome, m_farNow hV (Nat.lt_trans hj hi) hs e1 e2, bsome]
    by_cases hle : fr (rC (mi N 196) j) s ≤ fr (rC (mi N 196) i) s
    · rw [if_pos hle, decide_eq_true hle]; rfl
    · rw [if_neg hle, decide_eq_false hle]; rfl) (by
    intro s
    unfold f_X10_chosen_b34
    dsimp only
    rw [e360, bsome, hV.n, if_pos (le_rf _)])
theorem G_chosen (hI : INV k M) : ∀ x1 : Int32, GdI k (f_X9_chosen x1 M) (f_X10_chosen x1) 0 0 1 := by
  obtain ⟨⟨q, h⟩, -⟩ := id hI
  intro x
  obtain ⟨s, hs48, e1, e2, e3, -, -⟩ := h.wd.1.sl
  have eN : ∀ v : Int64, mi (nQ M v) 196 = mi M 196 := fun v => nQ_o (by omega)
  unfold f_X9_chosen
  by_cases h0 : x = 0
  · subst h0
    rw [if_pos rfl]
    unfold f_X9_chosen_j10 f_X9_chosen_j15
    rw [needA1, bsome]
    dsimp only
    rw [if_pos z00, h.w, k_largest h.wd.1 h.wd.2.1, bsome]
    refine gd_q hI rfl ?_
    unfold f_X10_chosen
    rw [m_in, bsome, if_pos (show (0 : Int32) ≤ 0 ∧ (0 : Int32) ≤ 1 by decide), if_neg z10, m_fine, bsome]
    dsimp only
    rw [if_pos z00, nQ_def, m_chosen0 (vr_nQ h), bsome, eN]
  by_cases h1 : x = 1
  · subst h1
    rw [if_neg h0, if_pos rfl]
    unfold f_X9_chosen_j10 f_X9_chosen_j15
    rw [needA1, bsome]
    dsimp only
    rw [if_neg z10, h.w, k_nearest h.wd.1 h.wd.2.1 hs48 (h.wd.2.1.1.2.2.1.trans e1), bsome]
    refine gd_q hI rfl ?_
    unfold f_X10_chosen
    rw [m_in, bsome, if_pos (show (0 : Int32) ≤ 1 ∧ (1 : Int32) ≤ 1 by decide), if_neg z10, m_fine, bsome]
    dsimp only
    rw [if_pos z00, nQ_def, m_chosen1 (vr_nQ h) hs48 (by rw [eN]; exact e2) (by rw [eN]; exact e3), bsome, eN]
  · rw [if_neg h0, if_neg h1]
    unfold f_X9_chosen_j15
    rw [needA0, bsome]
    have hx : ¬ ((0 : Int32) ≤ x ∧ x ≤ 1) := fun p => by
      obtain ⟨n, -, hn, rfl⟩ := (in_nat (lo := 0) (hi := 1) (by omega) (by omega)).mp p
      have h9 : n = 0 ∨ n = 1 := by omega
      rcases h9 with rfl | rfl
      · exact h0 rfl
      · exact h1 rfl
    refine gd_r2 (b := 0) hI (by decide) rfl ?_
    unfold f_X10_chosen
    rw [m_in, bsome, if_neg hx, if_pos z00, m_r2 1 (by decide), bsome]
    rfl
end AB
