/-! level 3: all put into an image and back -/
section PU
variable {N : Mm} {a b p0 : Nat}
theorem pu_w {p : Nat} {v : Int32} (hL : LN a = 8716) (ha : a ≠ 76) (hp : p < 8716) (h34 : mi N 76 34 = Int32.ofNat p) : f_X10_puts a v 0 N = some (v, sI (sI N a p v) 76 34 (Int32.ofNat (p + 1))) := by
  unfold f_X10_puts
  rw [if_pos rfl, hL, h34, wi_o hp (by omega), bsome, mi_sI_ne (by omega), h34, oN_S, mi_sI_k, oN_pred (by omega) (by omega), show p + 1 - 1 = p by omega, ai_o hp (by omega), bsome, mi_sI_ne ha, mi_sI_k]
theorem pu_r {p : Nat} {v : Int32} (hL : LN a = 8716) (ha : a ≠ 76) (hp : p < 8716) (h34 : mi N 76 34 = Int32.ofNat p) : f_X10_puts a v 1 N = some (mi N a p, sI N 76 34 (Int32.ofNat (p + 1))) := by
  unfold f_X10_puts
  rw [if_neg (show ¬ (1 : Int32) = 0 by decide), hL, h34, oN_S, mi_sI_k, oN_pred (by omega) (by omega), show p + 1 - 1 = p by omega, ai_o hp (by omega), bsome, mi_sI_ne ha]
theorem sI_same {M : Mm} {x j : Nat} {v : Int32} (h : v = mi M x j) : mi (sI M x j v) x = mi M x := by
  rw [mi_sI, h]
  funext i
  rw [u1_at]
  by_cases e : i = j
  · rw [if_pos e, e]
  · rw [if_neg e]
theorem pu_loopW {F : (Int32 × Mm) → Option ((Int32 × Mm) ⊕ Mm)} (hF : ∀ j N1 v M', j < 415 → f_X10_puts a (mi N1 b j) 0 N1 = some (v, M') → F (Int32.ofNat j, N1) = (wi M' b 415 (Int32.ofNat j) v).bind fun M'' => some (.inl (Int32.ofNat j + 1, M''))) (hE : ∀ N1, F (Int32.ofNat 415, N1) = some (.inr N1)) (hL : LN a = 8716) (ha : a ≠ 76) (hab : a ≠ b) (hb : b ≠ 76) (hp : p0 + 415 ≤ 8716) (h34 : mi N 76 34 = Int32.ofNat p0) : ∃ N', whl fu F (0, N) = some N' ∧ (N'.1 = N.1 ∧ sh N' = sh N ∧ ln N' = ln N ∧ ml N' = ml N ∧ mr N' = mr N) ∧ (∀ x, x ≠ a → x ≠ 76 → mi N' x = mi N x) ∧ mi N' 76 34 = Int32.ofNat (p0 + 415) ∧ (∀ i, i ≠ 34 → mi N' 76 i = mi N 76 i) ∧ (∀ k, k < 415 → mi N' a (p0 + k) = mi N b k) ∧ (∀ i, i < p0 ∨ p0 + 415 ≤ i → mi N' a i = mi N a i) := by
  obtain ⟨N', e1, e2⟩ := whl_ex (f := F) (fun j st => ∃ N1, st = (Int32.ofNat j, N1) ∧ (N1.1 = N.1 ∧ sh N1 = sh N ∧ ln N1 = ln N ∧ ml N1 = ml N ∧ mr N1 = mr N) ∧ (∀ x, x ≠ a → x ≠ 76 → mi N1 x = mi N x) ∧ mi N1 76 34 = Int32.ofNat (p0 + j) ∧ (∀ i, i ≠ 34 → mi N1 76 i = mi N 76 i) ∧ (∀ k, k < j → mi N1 a (p0 + k) = mi N b k) ∧ (∀ i, i < p0 ∨ p0 + j ≤ i → mi N1 a i = mi N a i)) (fun N1 => (N1.1 = N.1 ∧ sh N1 = sh N ∧ ln N1 = ln N ∧ ml N1 = ml N ∧ mr N1 = mr N) ∧ (∀ x, x ≠ a → x ≠ 76 → mi N1 x = mi N x) ∧ mi N1 76 34 = Int32.ofNat (p0 + 415) ∧ (∀ i, i ≠ 34 → mi N1 76 i = mi N 76 i) ∧ (∀ k, k < 415 → mi N1 a (p0 + k) = mi N b k) ∧ (∀ i, i < p0 ∨ p0 + 415 ≤ i → mi N1 a i = mi N a i)) 415 fu (0, N) (by decide) ⟨N, rfl, ⟨rfl, rfl, rfl, rfl, rfl⟩, fun _ _ _ => rfl, h34, fun _ _ => rfl, fun k hk => by omega, fun _ _ => rfl⟩ (by
    rintro j st hj ⟨N1, rfl, c1, c2, c3, c4, c5, c6⟩
    have eb : mi N1 b = mi N b := c2 b (fun e => hab e.symm) hb
    have e9 := hF j N1 _ _ hj (pu_w hL ha (by omega) c3)
    rw [wi_o hj (by omega), bsome, oN_S] at e9
    refine Or.inl ⟨_, e9, _, rfl, c1, fun x h1 h2 => ?_, ?_, fun i hi => ?_, fun k hk => ?_, fun i hi => ?_⟩
    · by_cases hx : x = b
      · subst hx
        rw [sI_same (by rw [mi_sI_ne hb, mi_sI_ne (fun e => hab e.symm)]), mi_sI_ne hb, mi_sI_ne (fun e => hab e.symm)]
        exact eb
      · rw [mi_sI_ne hx, mi_sI_ne h2, mi_sI_ne h1]
        exact c2 x h1 h2
    · rw [mi_sI_ne (fun e => hb e.symm), mi_sI_k]
      rfl
    · rw [mi_sI_ne (fun e => hb e.symm), mi_sI_o hi, mi_sI_ne (fun e => ha e.symm)]
      exact c4 i hi
    · rw [mi_sI_ne hab, mi_sI_ne ha, mi_sI, u1_at, eb]
      by_cases e : k = j
      · rw [if_pos (by omega), e]
      · rw [if_neg (by omega)]
        exact c5 k (by omega)
    · rw [mi_sI_ne hab, mi_sI_ne ha, mi_sI, u1_at, if_neg (by omega)]
      exact c6 i (by omega)) (by
    rintro st ⟨N1, rfl, c⟩
    exact ⟨N1, hE N1, c⟩)
  exact ⟨N', e1, e2⟩
theorem pu_loopR {F : (Int32 × Mm) → Option ((Int32 × Mm) ⊕ Mm)} (hF : ∀ j N1 v M', j < 415 → f_X10_puts a (mi N1 b j) 1 N1 = some (v, M') → F (Int32.ofNat j, N1) = (wi M' b 415 (Int32.ofNat j) v).bind fun M'' => some (.inl (Int32.ofNat j + 1, M''))) (hE : ∀ N1, F (Int32.ofNat 415, N1) = some (.inr N1)) (hL : LN a = 8716) (ha : a ≠ 76) (hab : a ≠ b) (hb : b ≠ 76) (hp : p0 + 415 ≤ 8716) (h34 : mi N 76 34 = Int32.ofNat p0) : ∃ N', whl fu F (0, N) = some N' ∧ (N'.1 = N.1 ∧ sh N' = sh N ∧ ln N' = ln N ∧ ml N' = ml N ∧ mr N' = mr N) ∧ (∀ x, x ≠ b → x ≠ 76 → mi N' x = mi N x) ∧ mi N' 76 34 = Int32.ofNat (p0 + 415) ∧ (∀ i, i ≠ 34 → mi N' 76 i = mi N 76 i) ∧ mi N' b = upto 415 (fun k => mi N a (p0 + k)) (mi N b) := by
  obtain ⟨N', e1, e2⟩ := whl_ex (f := F) (fun j st => ∃ N1, st = (Int32.ofNat j, N1) ∧ (N1.1 = N.1 ∧ sh N1 = sh N ∧ ln N1 = ln N ∧ ml N1 = ml N ∧ mr N1 = mr N) ∧ (∀ x, x ≠ b → x ≠ 76 → mi N1 x = mi N x) ∧ mi N1 76 34 = Int32.ofNat (p0 + j) ∧ (∀ i, i ≠ 34 → mi N1 76 i = mi N 76 i) ∧ mi N1 b = upto j (fun k => mi N a (p0 + k)) (mi N b)) (fun N1 => (N1.1 = N.1 ∧ sh N1 = sh N ∧ ln N1 = ln N ∧ ml N1 = ml N ∧ mr N1 = mr N) ∧ (∀ x, x ≠ b → x ≠ 76 → mi N1 x = mi N x) ∧ mi N1 76 34 = Int32.ofNat (p0 + 415) ∧ (∀ i, i ≠ 34 → mi N1 76 i = mi N 76 i) ∧ mi N1 b = upto 415 (fun k => mi N a (p0 + k)) (mi N b)) 415 fu (0, N) (by decide) ⟨N, rfl, ⟨rfl, rfl, rfl, rfl, rfl⟩, fun _ _ _ => rfl, h34, fun _ _ => rfl, upto0.symm⟩ (by
    rintro j st hj ⟨N1, rfl, c1, c2, c3, c4, c5⟩
    have ea : mi N1 a = mi N a := c2 a hab ha
    have e9 := hF j N1 _ _ hj (pu_r hL ha (by omega) c3)
    rw [wi_o hj (by omega), bsome, oN_S] at e9
    refine Or.inl ⟨_, e9, _, rfl, c1, fun x h1 h2 => ?_, ?_, fun i hi => ?_, ?_⟩
    · rw [mi_sI_ne h1, mi_sI_ne h2]
      exact c2 x h1 h2
    · rw [mi_sI_ne (fun e => hb e.symm), mi_sI_k]
      rfl
    · rw [mi_sI_ne (fun e => hb e.symm), mi_sI_o hi]
      exact c4 i hi
    · rw [mi_sI, mi_sI_ne hb, c5, ea]
      exact uptoS) (by
    rintro st ⟨N1, rfl, c⟩
    exact ⟨N1, hE N1, c⟩)
  exact ⟨N', e1, e2⟩
theorem ar_198 {i : Nat} (hi : i < 20) : ar 198 20 (Int32.ofNat i) = some (199 + i) := ar_o (a := 198) hi (by omega)
theorem e415 : ¬ (415 : Int32) ≤ Int32.ofNat 0 := by decide
theorem pu_196 {x2 : Int32} : (∀ j N1 v M', j < 415 → f_X10_puts a (mi N1 196 j) x2 N1 = some (v, M') → f_X10_putsAll_b21 a x2 (Int32.ofNat j, N1) = (wi M' 196 415 (Int32.ofNat j) v).bind fun M'' => some (.inl (Int32.ofNat j + 1, M''))) ∧ ∀ N1, f_X10_putsAll_b21 a x2 (Int32.ofNat 415, N1) = some (.inr N1) := by
  refine ⟨fun j N1 v M' hj hp => ?_, fun N1 => ?_⟩
  · unfold f_X10_putsAll_b21
    dsimp only
    rw [if_neg (show ¬ (415 : Int32) ≤ Int32.ofNat j from nle (n := 415) hj (by omega)), ai_o hj (by omega), bsome, hp, bsome]
  · unfold f_X10_putsAll_b21
    dsimp only
    rw [if_pos (show (415 : Int32) ≤ Int32.ofNat 415 from le_rf _)]
theorem pu_199 {x2 : Int32} {i : Nat} (hi : i < 20) : (∀ j N1 v M', j < 415 → f_X10_puts a (mi N1 (199 + i) j) x2 N1 = some (v, M') → f_X10_putsAll_b63 a x2 (Int32.ofNat i) (Int32.ofNat j, N1) = (wi M' (199 + i) 415 (Int32.ofNat j) v).bind fun M'' => some (.inl (Int32.ofNat j + 1, M''))) ∧ ∀ N1, f_X10_putsAll_b63 a x2 (Int32.ofNat i) (Int32.ofNat 415, N1) = some (.inr N1) := by
  refine ⟨fun j N1 v M' hj hp => ?_, fun N1 => ?_⟩
  · unfold f_X10_putsAll_b63
    dsimp only
    rw [if_neg (show ¬ (415 : Int32) ≤ Int32.ofNat j from nle (n := 415) hj (by omega)), ar_198 hi, bsome, bsome, ai_o hj (by omega), bsome, hp, bsome]
  · unfold f_X10_putsAll_b63
    dsimp only
    rw [if_pos (show (415 : Int32) ≤ Int32.ofNat 415 from le_rf _)]
theorem m_putsW (hL : LN a = 8716) (ha : 219 ≤ a) : ∃ N', f_X10_putsAll a 0 N = some N' ∧ Om (fun x => x = a ∨ x = 76) N N' ∧ (∀ i, i ≠ 34 → mi N' 76 i = mi N 76 i) ∧ mi N' a 0 = mi N 76 31 ∧ (∀ k, k < 415 → mi N' a (1 + k) = mi N 196 k) ∧ (∀ i, i < 20 → ∀ k, k < 415 → mi N' a (416 + 415 * i + k) = mi N (199 + i) k) := by
  have f1 : f_X10_puts a (mi (sI N 76 34 0) 76 31) 0 (sI N 76 34 0) = some (mi (sI N 76 34 0) 76 31, sI (sI (sI N 76 34 0) a 0 (mi (sI N 76 34 0) 76 31)) 76 34 (Int32.ofNat (0 + 1))) := pu_w hL (by omega) (by omega) mi_sI_k
  generalize hN1 : sI (sI (sI (sI N 76 34 0) a 0 (mi (sI N 76 34 0) 76 31)) 76 34 (Int32.ofNat (0 + 1))) 76 31 (mi (sI N 76 34 0) 76 31) = N1
  have h31 : mi (sI N 76 34 0) 76 31 = mi N 76 31 := mi_sI_o (by omega)
  have g1 : N1.1 = N.1 ∧ sh N1 = sh N ∧ ln N1 = ln N ∧ ml N1 = ml N ∧ mr N1 = mr N := by rw [← hN1]; exact ⟨rfl, rfl, rfl, rfl, rfl⟩
  have g2 : ∀ x, x ≠ a → x ≠ 76 → mi N1 x = mi N x := fun x h1 h2 => by rw [← hN1, mi_sI_ne h2, mi_sI_ne h2, mi_sI_ne h1, mi_sI_ne h2]
  have g3 : mi N1 76 34 = Int32.ofNat 1 := by rw [← hN1, mi_sI_o (by omega), mi_sI_k]
  have g4 : ∀ i, i ≠ 34 → mi N1 76 i = mi N 76 i := fun i hi => by
    rw [← hN1, mi_sI, u1_at, h31, mi_sI_o hi, mi_sI_ne (by omega), mi_sI_o hi]
    by_cases e : i = 31
    · rw [if_pos e, e]
    · rw [if_neg e]
  have g5 : mi N1 a 0 = mi N 76 31 := by rw [← hN1, mi_sI_ne (by omega), mi_sI_ne (by omega), mi_sI_k, h31]
  obtain ⟨N2, e2, k1, k2, k3, k4, k5, k6⟩ := pu_loopW (N := N1) (p0 := 1) (b := 196) pu_196.1 pu_196.2 hL (by omega) (by omega) (by omega) (by omega) g3
  obtain ⟨N3, e3, l1, l2, l3, l4, l5⟩ := whl_ex (f := f_X10_putsAll_b54 a 0) (fun i st => ∃ N3, st = (Int32.ofNat i, N3) ∧ (N3.1 = N2.1 ∧ sh N3 = sh N2 ∧ ln N3 = ln N2 ∧ ml N3 = ml N2 ∧ mr N3 = mr N2) ∧ (∀ x, x ≠ a → x ≠ 76 → mi N3 x = mi N2 x) ∧ mi N3 76 34 = Int32.ofNat (416 + 415 * i) ∧ (∀ j, j ≠ 34 → mi N3 76 j = mi N2 76 j) ∧ (∀ j, j < 416 → mi N3 a j = mi N2 a j) ∧ (∀ t, t < i → ∀ k, k < 415 → mi N3 a (416 + 415 * t + k) = mi N2 (199 + t) k)) (fun N3 => (N3.1 = N2.1 ∧ sh N3 = sh N2 ∧ ln N3 = ln N2 ∧ ml N3 = ml N2 ∧ mr N3 = mr N2) ∧ (∀ x, x ≠ a → x ≠ 76 → mi N3 x = mi N2 x) ∧ (∀ j, j ≠ 34 → mi N3 76 j = mi N2 76 j) ∧ (∀ j, j < 416 → mi N3 a j = mi N2 a j) ∧ (∀ t, t < 20 → ∀ k, k < 415 → mi N3 a (416 + 415 * t + k) = mi N2 (199 + t) k)) 20 fu (0, N2) (by decide) ⟨N2, rfl, ⟨rfl, rfl, rfl, rfl, rfl⟩, fun _ _ _ => rfl, k3, fun _ _ => rfl, fun _ _ => rfl, fun t ht => by omega⟩ (by
    rintro i st hi ⟨N3, rfl, c1, c2, c3, c4, c5, c6⟩
    obtain ⟨N4, e4, d1, d2, d3, d4, d5, d6⟩ := pu_loopW (N := N3) (p0 := 416 + 415 * i) (b := 199 + i) (pu_199 hi).1 (pu_199 hi).2 hL (by omega) (by omega) (by omega) (by omega) c3
    unfold f_X10_putsAll_b54
    dsimp only
    rw [if_neg (show ¬ (20 : Int32) ≤ Int32.ofNat i from nle (n := 20) hi (by omega)), e4, bsome, oN_S]
    refine Or.inl ⟨_, rfl, N4, rfl, ⟨d1.1.trans c1.1, d1.2.1.trans c1.2.1, d1.2.2.1.trans c1.2.2.1, d1.2.2.2.1.trans c1.2.2.2.1, d1.2.2.2.2.trans c1.2.2.2.2⟩, fun x h1 h2 => (d2 x h1 h2).trans (c2 x h1 h2), d3.trans (by rw [show 416 + 415 * i + 415 = 416 + 415 * (i + 1) by omega]), fun j hj => (d4 j hj).trans (c4 j hj), fun j hj => (d6 j (Or.inl (by omega))).trans (c5 j hj), fun t ht k hk => ?_⟩
    by_cases e : t = i
    · subst e
      rw [d5 k hk, c2 _ (by omega) (by omega)]
    · rw [d6 _ (Or.inl (by omega))]
      exact c6 t (by omega) k hk) (by
    rintro st ⟨N3, rfl, c1, c2, c3, c4, c5, c6⟩
    refine ⟨N3, ?_, c1, c2, c4, c5, c6⟩
    unfold f_X10_putsAll_b54
    dsimp only
    rw [if_pos (show (20 : Int32) ≤ Int32.ofNat 20 from le_rf _)])
  have f1' : f_X10_puts a (mi (sI N 76 34 0) 76 31) 0 (sI N 76 34 0) = some (mi (sI N 76 34 0) 76 31, sI (sI (sI N 76 34 0) a 0 (mi (sI N 76 34 0) 76 31)) 76 34 (Int32.ofNat (0 + 1))) := f1
  unfold f_X10_putsAll
  rw [f1', bsome]
  dsimp only
  rw [hN1, show whl fu (f_X10_putsAll_b21 a 0) (0, N1) = some N2 from e2, bsome, show whl fu (f_X10_putsAll_b54 a 0) (0, N2) = some N3 from e3, bsome]
  refine ⟨N3, rfl, ⟨l1.1.trans (k1.1.trans g1.1), l1.2.1.trans (k1.2.1.trans g1.2.1), l1.2.2.1.trans (k1.2.2.1.trans g1.2.2.1), l1.2.2.2.1.trans (k1.2.2.2.1.trans g1.2.2.2.1), l1.2.2.2.2.trans (k1.2.2.2.2.trans g1.2.2.2.2), fun x hx => ?_⟩, fun i hi => (l3 i hi).trans ((k4 i hi).trans (g4 i hi)), ?_, fun k hk => ?_, fun i hi k hk => ?_⟩
  · have h1 : x ≠ a := fun e => hx (Or.inl e)
    have h2 : x ≠ 76 := fun e => hx (Or.inr e)
    exact (l2 x h1 h2).trans ((k2 x h1 h2).trans (g2 x h1 h2))
  · rw [l4 0 (by omega), k6 0 (Or.inl (by omega))]
    exact g5
  · rw [l4 _ (by omega), k5 k hk, g2 196 (by omega) (by omega)]
  · rw [l5 i hi k hk, k2 _ (by omega) (by omega), g2 _ (by omega) (by omega)]
theorem m_putsR (hL : LN a = 8716) (ha : 219 ≤ a) : ∃ N', f_X10_putsAll a 1 N = some N' ∧ Om (fun x => x = 76 ∨ x = 196 ∨ (199 ≤ x ∧ x ≤ 218)) N N' ∧ (∀ i, i ≠ 34 → i ≠ 31 → mi N' 76 i = mi N 76 i) ∧ mi N' 76 31 = mi N a 0 ∧ mi N' 196 = upto 415 (fun k => mi N a (1 + k)) (mi N 196) ∧ (∀ i, i < 20 → mi N' (199 + i) = upto 415 (fun k => mi N a (416 + 415 * i + k)) (mi N (199 + i))) := by
  have f1 : f_X10_puts a (mi (sI N 76 34 0) 76 31) 1 (sI N 76 34 0) = some (mi (sI N 76 34 0) a 0, sI (sI N 76 34 0) 76 34 (Int32.ofNat (0 + 1))) := pu_r hL (by omega) (by omega) mi_sI_k
  have ea0 : mi (sI N 76 34 0) a 0 = mi N a 0 := by rw [mi_sI_ne (by omega)]
  rw [ea0] at f1
  generalize hN1 : sI (sI (sI N 76 34 0) 76 34 (Int32.ofNat (0 + 1))) 76 31 (mi N a 0) = N1
  have g1 : N1.1 = N.1 ∧ sh N1 = sh N ∧ ln N1 = ln N ∧ ml N1 = ml N ∧ mr N1 = mr N := by rw [← hN1]; exact ⟨rfl, rfl, rfl, rfl, rfl⟩
  have g2 : ∀ x, x ≠ 76 → mi N1 x = mi N x := fun x h2 => by rw [← hN1, mi_sI_ne h2, mi_sI_ne h2, mi_sI_ne h2]
  have g3 : mi N1 76 34 = Int32.ofNat 1 := by rw [← hN1, mi_sI_o (by omega), mi_sI_k]
  have g4 : ∀ i, i ≠ 34 → i ≠ 31 → mi N1 76 i = mi N 76 i := fun i hi h2 => by rw [← hN1, mi_sI_o h2, mi_sI_o hi, mi_sI_o hi]
  have g5 : mi N1 76 31 = mi N a 0 := by rw [← hN1, mi_sI_k]
  obtain ⟨N2, e2, k1, k2, k3, k4, k5⟩ := pu_loopR (N := N1) (p0 := 1) (b := 196) pu_196.1 pu_196.2 hL (by omega) (by omega) (by omega) (by omega) g3
  obtain ⟨N3, e3, l1, l2, l3, l4⟩ := whl_ex (f := f_X10_putsAll_b54 a 1) (fun i st => ∃ N3, st = (Int32.ofNat i, N3) ∧ (N3.1 = N2.1 ∧ sh N3 = sh N2 ∧ ln N3 = ln N2 ∧ ml N3 = ml N2 ∧ mr N3 = mr N2) ∧ (∀ x, x ≠ 76 → ¬ (199 ≤ x ∧ x < 199 + i) → mi N3 x = mi N2 x) ∧ mi N3 76 34 = Int32.ofNat (416 + 415 * i) ∧ (∀ j, j ≠ 34 → mi N3 76 j = mi N2 76 j) ∧ (∀ t, t < i → mi N3 (199 + t) = upto 415 (fun k => mi N2 a (416 + 415 * t + k)) (mi N2 (199 + t)))) (fun N3 => (N3.1 = N2.1 ∧ sh N3 = sh N2 ∧ ln N3 = ln N2 ∧ ml N3 = ml N2 ∧ mr N3 = mr N2) ∧ (∀ x, x ≠ 76 → ¬ (199 ≤ x ∧ x < 199 + 20) → mi N3 x = mi N2 x) ∧ (∀ j, j ≠ 34 → mi N3 76 j = mi N2 76 j) ∧ (∀ t, t < 20 → mi N3 (199 + t) = upto 415 (fun k => mi N2 a (416 + 415 * t + k)) (mi N2 (199 + t)))) 20 fu (0, N2) (by decide) ⟨N2, rfl, ⟨rfl, rfl, rfl, rfl, rfl⟩, fun _ _ _ => rfl, k3, fun _ _ => rfl, fun t ht => by omega⟩ (by
    rintro i st hi ⟨N3, rfl, c1, c2, c3, c4, c6⟩
    obtain ⟨N4, e4, d1, d2, d3, d4, d5⟩ := pu_loopR (N := N3) (p0 := 416 + 415 * i) (b := 199 + i) (pu_199 hi).1 (pu_199 hi).2 hL (by omega) (by omega) (by omega) (by omega) c3
    unfold f_X10_putsAll_b54
    dsimp only
    rw [if_neg (show ¬ (20 : Int32) ≤ Int32.ofNat i from nle (n := 20) hi (by omega)), e4, bsome, oN_S]
    refine Or.inl ⟨_, rfl, N4, rfl, ⟨d1.1.trans c1.1, d1.2.1.trans c1.2.1, d1.2.2.1.trans c1.2.2.1, d1.2.2.2.1.trans c1.2.2.2.1, d1.2.2.2.2.trans c1.2.2.2.2⟩, fun x h1 h2 => (d2 x (by omega) h1).trans (c2 x h1 (by omega)), d3.trans (by rw [show 416 + 415 * i + 415 = 416 + 415 * (i + 1) by omega]), fun j hj => (d4 j hj).trans (c4 j hj), fun t ht => ?_⟩
    by_cases e : t = i
    · subst e
      rw [d5, c2 a (by omega) (by omega), c2 (199 + t) (by omega) (by omega)]
    · rw [d2 _ (by omega) (by omega)]
      exact c6 t (by omega)) (by
    rintro st ⟨N3, rfl, c1, c2, c3, c4, c6⟩
    refine ⟨N3, ?_, c1, c2, c4, c6⟩
    unfold f_X10_putsAll_b54
    dsimp only
    rw [if_pos (show (20 : Int32) ≤ Int32.ofNat 20 from le_rf _)])
  unfold f_X10_putsAll
  rw [f1, bsome]
  dsimp only
  rw [hN1, show whl fu (f_X10_putsAll_b21 a 1) (0, N1) = some N2 from e2, bsome, show whl fu (f_X10_putsAll_b54 a 1) (0, N2) = some N3 from e3, bsome]
  refine ⟨N3, rfl, ⟨l1.1.trans (k1.1.trans g1.1), l1.2.1.trans (k1.2.1.trans g1.2.1), l1.2.2.1.trans (k1.2.2.1.trans g1.2.2.1), l1.2.2.2.1.trans (k1.2.2.2.1.trans g1.2.2.2.1), l1.2.2.2.2.trans (k1.2.2.2.2.trans g1.2.2.2.2), fun x hx => ?_⟩, fun i hi h2 => (l3 i hi).trans ((k4 i hi).trans (g4 i hi h2)), ?_, ?_, fun i hi => ?_⟩
  · exact (l2 x (by omega) (by omega)).trans ((k2 x (by omega) (by omega)).trans (g2 x (by omega)))
  · rw [l3 31 (by omega), k4 31 (by omega)]
    exact g5
  · rw [l2 196 (by omega) (by omega), k5, g2 196 (by omega), g2 a (by omega)]
  · rw [l4 i hi, k2 a (by omega) (by omega), k2 _ (by omega) (by omega), g2 a (by omega), g2 _ (by omega)]
end PU
