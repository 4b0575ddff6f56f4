/-! level 3: mix: the pair -/
section MY
variable {k : Nat} {M : Mm} {q : Nat → Nat}
theorem TQ.cA {N N' : Mm} (h : TQ N N') {r : Nat → Int32} {s : Int32} : clrA N' r s = clrA N r s := by
  unfold clrA
  exact sm_congr (fun i _ => by rw [h.clr])
abbrev mxOk (x1 x2 x3 x4 : Int32) : Prop := ((1 : Int32) ≤ x1 ∧ x1 ≤ 9999) ∧ ((0 : Int32) ≤ x4 ∧ x4 ≤ 2) ∧ ((0 : Int32) ≤ x2 ∧ x2 ≤ 99) ∧ ((0 : Int32) ≤ x3 ∧ x3 ≤ 99)
theorem k_mixArg {x1 x2 x3 x4 : Int32} : f_X9_mix x1 x2 x3 x4 M = if mxOk x1 x2 x3 x4 then f_X9_mix_j58 x1 x2 x3 x4 1 M else some (.inl 2, eRef M 2) := by
  have n0 : f_X9_mix_j28 x1 x2 x3 x4 M = some (.inl 2, eRef M 2) := by
    unfold f_X9_mix_j28 f_X9_mix_j29
    rw [needA0, bsome]
  have n1 : f_X9_mix_j57 x1 x2 x3 x4 M = some (.inl 2, eRef M 2) := by
    unfold f_X9_mix_j57 f_X9_mix_j58
    rw [needA0, bsome]
  unfold f_X9_mix mxOk
  rw [arg2, arg2, n0]
  by_cases h1 : (1 : Int32) ≤ x1 ∧ x1 ≤ 9999
  · rw [if_pos h1]
    by_cases h4 : (0 : Int32) ≤ x4 ∧ x4 ≤ 2
    · rw [if_pos h4]
      unfold f_X9_mix_j29
      rw [needA1, bsome]
      dsimp only
      rw [arg2, arg2, n1]
      by_cases h2 : (0 : Int32) ≤ x2 ∧ x2 ≤ 99
      · rw [if_pos h2]
        by_cases h3 : (0 : Int32) ≤ x3 ∧ x3 ≤ 99
        · rw [if_pos h3, if_pos ⟨h1, h4, h2, h3⟩]
        · rw [if_neg h3, if_neg (fun z => h3 z.2.2.2)]
      · rw [if_neg h2, if_neg (fun z => h2 z.2.2.1)]
    · rw [if_neg h4, if_neg (fun z => h4 z.2.1)]
  · rw [if_neg h1, if_neg (fun z => h1 z.1)]
theorem m_mixArg {x1 x2 x3 x4 : Int32} {N : Mm} : f_X10_mix x1 x2 x3 x4 N = if mxOk x1 x2 x3 x4 then f_X10_mix_j52 x1 x2 x3 x4 0 (sI N 76 0 0) else f_X10_mix_j52 x1 x2 x3 x4 1 (sI N 76 0 0) := by
  unfold f_X10_mix f_X10_mix_j47 mxOk
  rw [m_in, bsome, m_in, bsome, m_in, bsome, m_in, bsome]
  by_cases h1 : (1 : Int32) ≤ x1 ∧ x1 ≤ 9999
  · rw [if_pos h1, if_neg z10]
    by_cases h2 : (0 : Int32) ≤ x2 ∧ x2 ≤ 99
    · rw [if_pos h2, if_neg z10]
      by_cases h3 : (0 : Int32) ≤ x3 ∧ x3 ≤ 99
      · rw [if_pos h3, if_neg z10]
        by_cases h4 : (0 : Int32) ≤ x4 ∧ x4 ≤ 2
        · rw [if_pos h4, if_neg z10, if_pos ⟨h1, h4, h2, h3⟩]
        · rw [if_neg h4, if_pos z00, if_neg (fun z => h4 z.2.1)]
      · rw [if_neg h3, if_pos z00, if_neg (fun z => h3 z.2.2.2)]
    · rw [if_neg h2, if_pos z00, if_neg (fun z => h2 z.2.2.1)]
  · rw [if_neg h1, if_pos z00, if_neg (fun z => h1 z.1)]
theorem G_mix (hI : INV k M) : ∀ x1 x2 x3 x4 : Int32, GdI k (f_X9_mix x1 x2 x3 x4 M) (f_X10_mix x1 x2 x3 x4) 0 0 1 := by
  obtain ⟨⟨q, h⟩, r⟩ := id hI
  intro x1 x2 x3 x4
  rw [k_mixArg]
  by_cases hc : mxOk x1 x2 x3 x4
  · rw [if_pos hc]
    have hc' := hc
    unfold mxOk at hc'
    obtain ⟨h1, h4, h2, h3⟩ := hc'
    obtain ⟨m, m1, m2, rfl⟩ := (in_nat (lo := 1) (hi := 9999) (by omega) (by omega)).mp h1
    obtain ⟨z, -, z2, rfl⟩ := (in_nat (lo := 0) (hi := 2) (by omega) (by omega)).mp h4
    obtain ⟨la, -, l2, rfl⟩ := (in_nat (lo := 0) (hi := 99) (by omega) (by omega)).mp h2
    obtain ⟨ho, -, o2, rfl⟩ := (in_nat (lo := 0) (hi := 99) (by omega) (by omega)).mp h3
    obtain ⟨ca, al1, al2⟩ := clrA_le (s := 1) h.gd.1 h.wd.1
    unfold f_X9_mix_j58
    rw [needA1, bsome]
    dsimp only
    rw [h.g, h.w, k_clearingOfAll h.gd h.wd.1 h.wd.2.1, bsome, al2]
    have s1 : ∀ a, a = 13 → frC q a ∧ frT a := fun a ha => frC_of h.1 (by omega)
    -- what both answer: A by z
    have fin : ∀ (C' : Mm) (A : Int32 × Int32 × Int32), f_X0_planMix (Int32.ofNat ca) (Int32.ofNat m) (Int32.ofNat la) (Int32.ofNat ho) M = some C' → Oml (fun x => x = 13) M C' → mx3 C' A →
        (∀ (N : Mm), whl fu (f_X10_mix_b80 (Int32.ofNat m) (Int32.ofNat la) (Int32.ofNat ho) (Int32.ofNat z) (Int32.ofNat ca) N) (-1, 0, 0, 0) = some A) → 
        GdI k ((f_X0_planMix (Int32.ofNat ca) (Int32.ofNat m) (Int32.ofNat la) (Int32.ofNat ho) M).bind fun M9 => (f_X0_answerTo (Int32.ofNat z) M9).bind fun v11 => some (.inr v11.toInt32, M9)) (f_X10_mix (Int32.ofNat m) (Int32.ofNat la) (Int32.ofNat ho) (Int32.ofNat z)) 0 0 1 := fun C' A p1 p2 p3 p4 => by
      have h' : RR C' C' q := h.oml p2 p2 (fun a ha => (s1 a ha).1) (fun a ha => (s1 a ha).2)
      have hq0 : TQ M C' := p2.tq (fun a ha => (s1 a ha).2)
      have e196 : mi C' 196 = mi M 196 := p2.at (by omega)
      rw [p1, bsome]
      have hm : ∀ v : Int64, f_X10_mix (Int32.ofNat m) (Int32.ofNat la) (Int32.ofNat ho) (Int32.ofNat z) (sL C' 275 0 v) = some (if z = 0 then A.1 else if A.1 = -1 then -1 else if z = 1 then A.2.1 else A.2.2, nQ C' v) := fun v => by
        have hqv : TQ M (nQ C' v) := hq0.trans TQ.nQ
        have e1 : mi (nQ C' v) 196 = mi M 196 := (nQ_o (by omega)).trans e196
        have hV1 := vr_nQ (v := v) h'
        rw [m_mixArg, if_pos hc]
        unfold f_X10_mix_j52
        rw [m_fine, bsome]
        try dsimp only
        rw [if_pos z00, nQ_def, m_clearsAll hV1, bsome, e1, hqv.cA, al2, p4, bsome]
        try dsimp only
        by_cases h0 : z = 0
        · rw [if_pos h0, h0, if_pos (show Int32.ofNat 0 = 0 from rfl)]
        · rw [if_neg h0, if_neg (show ¬ Int32.ofNat z = 0 from fun e => h0 ((oN_eq (i := z) (j := 0) (by omega) (by omega)).mp e))]
          by_cases h5 : A.1 = -1
          · rw [if_pos h5, if_pos h5, h5]
          · rw [if_neg h5, if_neg h5]
            by_cases h1 : z = 1
            · rw [if_pos h1, h1, if_pos (show Int32.ofNat 1 = 1 from rfl)]
            · rw [if_neg h1, if_neg (show ¬ Int32.ofNat z = 1 from fun e => h1 ((oN_eq (i := z) (j := 1) (by omega) (by omega)).mp e))]
      have fin2 : ∀ v : Int32, ml C' 13 z = v.toInt64 → (if z = 0 then A.1 else if A.1 = -1 then -1 else if z = 1 then A.2.1 else A.2.2) = v → GdI k ((f_X0_answerTo (Int32.ofNat z) C').bind fun v14 => some (.inr v14.toInt32, C')) (f_X10_mix (Int32.ofNat m) (Int32.ofNat la) (Int32.ofNat ho) (Int32.ofNat z)) 0 0 1 := fun v e1 e2 => by
        rw [show f_X0_answerTo (Int32.ofNat z) C' = some (ml C' 13 z) from k_answer (i := z) (by omega), bsome, e1, Int32.toInt32_toInt64]
        have n1 := hm v.toInt64
        rw [e2] at n1
        exact gd_ml (S' := fun _ => False) h r p2 Oml.refl s1 (fun a ha => ha.elim) (fun ha => ha) rfl n1
      unfold mx3 at p3
      have z3 : z = 0 ∨ z = 1 ∨ z = 2 := by omega
      by_cases h5 : A.1 = -1
      · rw [if_pos h5] at p3
        rcases z3 with rfl | rfl | rfl
        · exact fin2 (-1) p3.1 h5
        · exact fin2 (-1) p3.2.1 (if_pos h5)
        · exact fin2 (-1) p3.2.2 (if_pos h5)
      · rw [if_neg h5] at p3
        rcases z3 with rfl | rfl | rfl
        · exact fin2 _ p3.1 rfl
        · exact fin2 _ p3.2.1 (if_neg h5)
        · exact fin2 _ p3.2.2 (if_neg h5)
    by_cases h0 : ca = 0
    · subst h0
      refine fin _ (0, 0, 0) (by
        unfold f_X0_planMix
        rw [if_pos (show Int32.ofNat 0 = 0 from rfl), k_settle, bsome]) (setO rfl) ?_ (fun N => m_mix0 (by omega))
      unfold mx3
      rw [if_neg (show ¬ (0 : Int32) = -1 by decide)]
      exact ⟨set0, set1, set2⟩
    · obtain ⟨C', p1, p2, p3⟩ := k_planMix (C := M) (ca := ca) (m := m) (la := la) (ho := ho) (by omega) al1 l2 o2 m2
      exact fin C' _ p1 p2 p3 (fun N => m_mixL (by omega) al1)
  · rw [if_neg hc]
    refine gd_r2 (b := 0) hI (by decide) rfl ?_
    rw [m_mixArg, if_neg hc]
    unfold f_X10_mix_j52
    rw [m_r2 1 (by decide), bsome]
    rfl
end MY
