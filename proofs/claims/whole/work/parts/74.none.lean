/-! level 3: stops asked of the reference -/
section SU
variable {k : Nat} {M : Mm} {q : Nat → Nat}
theorem nr_zero {c : Nat} : ∀ n, nrM 0 c n = -1 := by
  intro n
  induction n with
  | zero => rfl
  | succ n ih => exact (show nrM 0 c (n + 1) = nrM 0 c n from if_neg (by rw [Nat.zero_testBit]; decide)).trans ih
theorem an_no {P : Nat → Prop} [DecidablePred P] : ∀ n, anN P n = 0 → ∀ i, i < n → ¬ P i := by
  intro n
  induction n with
  | zero => intro _ i hi; omega
  | succ n ih =>
    intro h i hi
    by_cases hP : P n
    · rw [show anN P (n + 1) = 1 from if_pos hP] at h
      exact absurd h (by decide)
    · rw [show anN P (n + 1) = anN P n from if_neg hP] at h
      by_cases e : i = n
      · rw [e]; exact hP
      · exact ih h i (by omega)
theorem m_stopsBy0 {N : Mm} {y w h : Nat} (hT : RGt N) (hV : VR w h (mi N 196)) (hy : y < 48) : f_X10_stopsBy (Int32.ofNat y) (Int32.ofNat 0) N = some (if anN (Lt N (mi N 196) y) (rN (mi N 196)) = 0 then 0 else -1) := by
  have h6 := hV.n60
  have a6 : ai N 80 10 6 = some (mi N 80 6) := ai_o (i := 6) (by omega) (by omega)
  have a4 : ai N 80 10 4 = some (mi N 80 4) := ai_o (i := 4) (by omega) (by omega)
  have a360 : ai N 196 415 360 = some (mi N 196 360) := ai_o (i := 360) (by omega) (by omega)
  obtain ⟨e, e1, e2⟩ := whl_ex (f := f_X10_stopsBy_b16 (Int32.ofNat y) (Int32.ofNat 0) N) (fun i st => st = ((0 : Int32), Int32.ofNat i) ∧ anN (Lt N (mi N 196) y) i = 0) (fun e => e = if anN (Lt N (mi N 196) y) (rN (mi N 196)) = 0 then Sum.inr (0 : Int32) else Sum.inl ()) (rN (mi N 196)) fu (0, 0) (by show rN (mi N 196) < 1000000; omega) ⟨rfl, rfl⟩ (by
    rintro i st hi ⟨rfl, hA⟩
    have h48 := hV.c48 hi
    have no : ¬ Lt N (mi N 196) y i → anN (Lt N (mi N 196) y) (i + 1) = 0 := fun z => (show anN (Lt N (mi N 196) y) (i + 1) = anN (Lt N (mi N 196) y) i from if_neg z).trans hA
    unfold f_X10_stopsBy_b16
    dsimp only
    rw [a360, bsome, hV.n, if_neg (nle hi hV.n1), m_isThere LN196 hV hi, bsome, oN_S]
    by_cases hT1 : Th (mi N 196) i
    · rw [if_pos hT1, if_neg z10, m_of1 LN196 (by omega), bsome, (hV.xy hi).2]
      by_cases hy1 : rC (mi N 196) i / 8 = y
      · rw [if_pos (congrArg Int32.ofNat hy1), m_of2 LN196 (by omega), bsome, a4, bsome]
        by_cases hs : mi N 196 (6 * i + 2) ≤ mi N 80 4
        · rw [if_pos hs, m_toStop hT hV hi (Nat.pow_pos (by decide)), bsome, if_pos (nr_zero 8)]
          exact Or.inr ⟨_, rfl, (if_neg (fun z => an_no _ z i hi ⟨hT1, hy1, hs⟩)).symm⟩
        · rw [if_neg hs]
          exact Or.inl ⟨_, rfl, rfl, no (fun z => hs z.2.2)⟩
      · rw [if_neg (fun z => hy1 ((oN_eq (by omega) (by omega)).mp z))]
        exact Or.inl ⟨_, rfl, rfl, no (fun z => hy1 z.2.1)⟩
    · rw [if_neg hT1, if_pos z00]
      exact Or.inl ⟨_, rfl, rfl, no (fun z => hT1 z.1)⟩) (by
    rintro st ⟨rfl, hA⟩
    refine ⟨_, ?_, (if_pos hA).symm⟩
    unfold f_X10_stopsBy_b16
    dsimp only
    rw [a360, bsome, hV.n, if_pos (le_rf _)])
  unfold f_X10_stopsBy
  rw [a6, bsome, m_ones, bsome, show onesV 0 = 0 by decide, Int32.mul_zero, e1, bsome, e2]
  by_cases h0 : anN (Lt N (mi N 196) y) (rN (mi N 196)) = 0
  · rw [if_pos h0, if_pos h0]
  · rw [if_neg h0, if_neg h0]
end SU
