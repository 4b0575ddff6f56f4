/-! level 3: span: the pair -/
section FS
variable {k : Nat} {M : Mm} {q : Nat → Nat}
theorem G_span (hI : INV k M) (hk : k ≤ 600) : ∀ x1 x2 x3 x4 x5 x6 : Int32, GdI k (f_X9_span x1 x2 x3 x4 x5 x6 M) (f_X10_span x1 x2 x3 x4 x5 x6) 0 0 1 := by
  obtain ⟨⟨q, h⟩, r⟩ := id hI
  intro x1 x2 x3 x4 x5 x6
  obtain ⟨m, m1, m2⟩ := yb_0 r hk
  have n0 : f_X9_span_j44 x1 x2 x3 x4 x5 x6 M = some (.inl 2, eRef M 2) := by
    unfold f_X9_span_j44 f_X9_span_j45
    rw [needA0, bsome]
  have harg : f_X9_span x1 x2 x3 x4 x5 x6 M = if (((0 : Int32) ≤ x3 ∧ x3 ≤ 16) ∧ ((1 : Int32) ≤ x4 ∧ x4 ≤ 20)) ∧ ((1 : Int32) ≤ x2 ∧ x2 ≤ 20) ∧ ((0 : Int32) ≤ x5 ∧ x5 ≤ 60) ∧ ((0 : Int32) ≤ x6 ∧ x6 ≤ 2) then f_X9_span_j45 x1 x2 x3 x4 x5 x6 1 M else some (.inl 2, eRef M 2) := by
    unfold f_X9_span
    rw [arg2, k_isFrost, bsome, n0, k_isLimit, bsome, arg2]
    by_cases ha : ((0 : Int32) ≤ x3 ∧ x3 ≤ 16) ∧ ((1 : Int32) ≤ x4 ∧ x4 ≤ 20)
    · rw [if_pos ha, if_neg z10]
      by_cases hb : (1 : Int32) ≤ x2 ∧ x2 ≤ 20
      · rw [if_pos hb]
        by_cases hd : (0 : Int32) ≤ x5 ∧ x5 ≤ 60
        · rw [if_pos hd, if_neg z10]
          by_cases he : (0 : Int32) ≤ x6 ∧ x6 ≤ 2
          · rw [if_pos he, if_pos ⟨ha, hb, hd, he⟩]
          · rw [if_neg he, if_neg (fun z => he z.2.2.2)]
        · rw [if_neg hd, if_pos z00, if_neg (fun z => hd z.2.2.1)]
      · rw [if_neg hb, if_neg (fun z => hb z.2.1)]
    · rw [if_neg ha, if_pos z00, if_neg (fun z => ha z.1)]
  rw [harg]
  by_cases hc : (((0 : Int32) ≤ x3 ∧ x3 ≤ 16) ∧ ((1 : Int32) ≤ x4 ∧ x4 ≤ 20)) ∧ ((1 : Int32) ≤ x2 ∧ x2 ≤ 20) ∧ ((0 : Int32) ≤ x5 ∧ x5 ≤ 60) ∧ ((0 : Int32) ≤ x6 ∧ x6 ≤ 2)
  · rw [if_pos hc]
    obtain ⟨Y, y1, y2, rfl⟩ := (in_nat (lo := 1) (hi := 20) (by omega) (by omega)).mp hc.1.2
    obtain ⟨X, z1, z2, rfl⟩ := (in_nat (lo := 1) (hi := 20) (by omega) (by omega)).mp hc.2.1
    obtain ⟨z, -, z4, rfl⟩ := (in_nat (lo := 0) (hi := 2) (by omega) (by omega)).mp hc.2.2.2
    obtain ⟨C', p1, p2⟩ := tr_span (x1 := x1) (z := x3) (n := x5) (x6 := Int32.ofNat z) (Y := Y) (X := X) h m2 (by omega) z2
    generalize hs : spS (spV M x1 x3 Y (r0 M)) x5 X = s at p1
    have hq0 : TQ M C' := p2.l.tq (fun a ha => (trS_fr h.1 ha).2)
    generalize hv : (if z = 2 then s.2.2 else if z = 0 then s.1 else s.2.1) = v
    have f196 : mi (nQ C' v.toInt64) 196 = mi M 196 := (nQ_o (by omega)).trans (p2.at (tr_no h _ (by omega)))
    have f197 : mi (nQ C' v.toInt64) 197 = mi M 197 := (nQ_o (by omega)).trans (p2.at (tr_no h _ (by omega)))
    obtain ⟨N', n1, n2, n3⟩ := mt_span (N := nQ C' v.toInt64) (x1 := x1) (z := x3) (n := x5) (x6 := Int32.ofNat z) (Y := Y) (X := X) h (hq0.trans TQ.nQ) f196 f197 m2 (by omega) z2 z1
    rw [hs] at n1
    refine gd_76 (S := trS q) h r p2.l (n2.l.mono (fun a ha => mrF_G ha)) (fun j hj => n3 j (by omega)) (fun a ha => trS_fr h.1 ha) (v := v) ?_ ?_
    · unfold f_X9_span_j45
      rw [needA1, bsome]
      dsimp only
      rw [p1, bsome]
      dsimp only
      by_cases h2 : z = 2
      · rw [if_pos (show Int32.ofNat z = 2 by rw [h2]; rfl), ← hv, if_pos h2]
      · rw [if_neg (show ¬ Int32.ofNat z = 2 from fun e => h2 ((oN_eq (i := z) (j := 2) (by omega) (by omega)).mp e)), ← hv, if_neg h2]
        by_cases h0 : z = 0
        · rw [if_pos (show Int32.ofNat z = 0 by rw [h0]; rfl), if_pos h0]
        · rw [if_neg (show ¬ Int32.ofNat z = 0 from fun e => h0 ((oN_eq (i := z) (j := 0) (by omega) (by omega)).mp e)), if_neg h0]
    · unfold f_X10_span
      rw [m_in, bsome, if_pos hc.2.1, if_neg z10, m_in, bsome, if_pos hc.1.1, if_neg z10, m_in, bsome, if_pos hc.1.2, if_neg z10, m_in, bsome, if_pos hc.2.2.1, if_neg z10, m_in, bsome, if_pos hc.2.2.2, if_neg z10]
      unfold f_X10_span_j63
      rw [m_fine, bsome, nQ_def]
      dsimp only
      rw [if_pos z00, n1, bsome]
      dsimp only
      by_cases h0 : z = 0
      · rw [if_pos (show Int32.ofNat z = 0 by rw [h0]; rfl), ← hv, if_neg (by omega), if_pos h0]
      · rw [if_neg (show ¬ Int32.ofNat z = 0 from fun e => h0 ((oN_eq (i := z) (j := 0) (by omega) (by omega)).mp e)), ← hv, if_neg h0]
        by_cases h1 : z = 1
        · rw [if_pos (show Int32.ofNat z = 1 by rw [h1]; rfl), if_neg (by omega)]
        · rw [if_neg (show ¬ Int32.ofNat z = 1 from fun e => h1 ((oN_eq (i := z) (j := 1) (by omega) (by omega)).mp e)), if_pos (by omega)]
  · rw [if_neg hc]
    refine gd_r2 (b := 0) hI (by decide) rfl ?_
    unfold f_X10_span
    rw [m_in, bsome]
    have no : f_X10_span_j58 x1 x2 x3 x4 x5 x6 (sI (eRef M 2) 76 0 0) = some (0, eRefM (eRef M 2) 2 1) := by
      unfold f_X10_span_j58 f_X10_span_j63
      rw [m_r2 1 (by decide), bsome]
      rfl
    by_cases h2 : (1 : Int32) ≤ x2 ∧ x2 ≤ 20
    · rw [if_pos h2, if_neg z10, m_in, bsome]
      by_cases h3 : (0 : Int32) ≤ x3 ∧ x3 ≤ 16
      · rw [if_pos h3, if_neg z10, m_in, bsome]
        by_cases h4 : (1 : Int32) ≤ x4 ∧ x4 ≤ 20
        · rw [if_pos h4, if_neg z10, m_in, bsome]
          by_cases h5 : (0 : Int32) ≤ x5 ∧ x5 ≤ 60
          · have h6 : ¬ ((0 : Int32) ≤ x6 ∧ x6 ≤ 2) := fun p => hc ⟨⟨h3, h4⟩, h2, h5, p⟩
            rw [if_pos h5, if_neg z10, m_in, bsome, if_neg h6, if_pos z00, no]
          · rw [if_neg h5, if_pos z00, no]
        · rw [if_neg h4, if_pos z00, no]
      · rw [if_neg h3, if_pos z00, no]
    · rw [if_neg h2, if_pos z00, no]
end FS
