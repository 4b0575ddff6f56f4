/-! what lies where, for a thing of an unknown place -/
theorem SH_lt {a c : Nat} (h : SH a = c) (hc : c ≠ 99) : a < 276 := by
  by_cases h9 : a < 276
  · exact h9
  · exfalso
    have : SH a = 99 := by
      unfold SH
      have hl : SHt.length = 276 := by decide +kernel
      rw [List.getD_eq_getElem?_getD, List.getElem?_eq_none (by omega)]; rfl
    omega
theorem fr_1_0 {a : Nat} (h : SH a = 1) : FR a 0 = some (a + 1) ∧ SH (a + 1) = 12 ∧ LN (a + 1) = 6 := (show ∀ x, x < 276 → SH x = 1 → FR x 0 = some (x + 1) ∧ SH (x + 1) = 12 ∧ LN (x + 1) = 6 by decide +kernel) a (SH_lt h (by decide)) h
theorem fr_1_1 {a : Nat} (h : SH a = 1) : FR a 1 = some (a + 2) ∧ SH (a + 2) = 12 ∧ LN (a + 2) = 6 := (show ∀ x, x < 276 → SH x = 1 → FR x 1 = some (x + 2) ∧ SH (x + 2) = 12 ∧ LN (x + 2) = 6 by decide +kernel) a (SH_lt h (by decide)) h
theorem fr_1_2 {a : Nat} (h : SH a = 1) : FR a 2 = some (a + 3) ∧ SH (a + 3) = 12 ∧ LN (a + 3) = 6 := (show ∀ x, x < 276 → SH x = 1 → FR x 2 = some (x + 3) ∧ SH (x + 3) = 12 ∧ LN (x + 3) = 6 by decide +kernel) a (SH_lt h (by decide)) h
theorem fr_3_0 {a : Nat} (h : SH a = 3) : FR a 0 = some (a + 1) ∧ SH (a + 1) = 12 ∧ LN (a + 1) = 48 := (show ∀ x, x < 276 → SH x = 3 → FR x 0 = some (x + 1) ∧ SH (x + 1) = 12 ∧ LN (x + 1) = 48 by decide +kernel) a (SH_lt h (by decide)) h
theorem dr_3_1 {a : Nat} (h : SH a = 3) : DR a 1 = some 4 ∧ FR a 1 = none := (show ∀ x, x < 276 → SH x = 3 → DR x 1 = some 4 ∧ FR x 1 = none by decide +kernel) a (SH_lt h (by decide)) h
theorem dr_3_2 {a : Nat} (h : SH a = 3) : DR a 2 = some 4 ∧ FR a 2 = none := (show ∀ x, x < 276 → SH x = 3 → DR x 2 = some 4 ∧ FR x 2 = none by decide +kernel) a (SH_lt h (by decide)) h
theorem fr_4_0 {a : Nat} (h : SH a = 4) : FR a 0 = some (a + 1) ∧ SH (a + 1) = 12 ∧ LN (a + 1) = 150 := (show ∀ x, x < 276 → SH x = 4 → FR x 0 = some (x + 1) ∧ SH (x + 1) = 12 ∧ LN (x + 1) = 150 by decide +kernel) a (SH_lt h (by decide)) h
theorem fr_4_1 {a : Nat} (h : SH a = 4) : FR a 1 = some (a + 2) ∧ SH (a + 2) = 12 ∧ LN (a + 2) = 150 := (show ∀ x, x < 276 → SH x = 4 → FR x 1 = some (x + 2) ∧ SH (x + 2) = 12 ∧ LN (x + 2) = 150 by decide +kernel) a (SH_lt h (by decide)) h
theorem fr_4_2 {a : Nat} (h : SH a = 4) : FR a 2 = some (a + 3) ∧ SH (a + 3) = 12 ∧ LN (a + 3) = 7 := (show ∀ x, x < 276 → SH x = 4 → FR x 2 = some (x + 3) ∧ SH (x + 3) = 12 ∧ LN (x + 3) = 7 by decide +kernel) a (SH_lt h (by decide)) h
theorem fr_8_0 {a : Nat} (h : SH a = 8) : FR a 0 = some (a + 1) ∧ SH (a + 1) = 12 ∧ LN (a + 1) = 60 := (show ∀ x, x < 276 → SH x = 8 → FR x 0 = some (x + 1) ∧ SH (x + 1) = 12 ∧ LN (x + 1) = 60 by decide +kernel) a (SH_lt h (by decide)) h
theorem fr_8_1 {a : Nat} (h : SH a = 8) : FR a 1 = some (a + 2) ∧ SH (a + 2) = 12 ∧ LN (a + 2) = 60 := (show ∀ x, x < 276 → SH x = 8 → FR x 1 = some (x + 2) ∧ SH (x + 2) = 12 ∧ LN (x + 2) = 60 by decide +kernel) a (SH_lt h (by decide)) h
theorem fr_8_2 {a : Nat} (h : SH a = 8) : FR a 2 = some (a + 3) ∧ SH (a + 3) = 12 ∧ LN (a + 3) = 60 := (show ∀ x, x < 276 → SH x = 8 → FR x 2 = some (x + 3) ∧ SH (x + 3) = 12 ∧ LN (x + 3) = 60 by decide +kernel) a (SH_lt h (by decide)) h
theorem fr_8_3 {a : Nat} (h : SH a = 8) : FR a 3 = some (a + 4) ∧ SH (a + 4) = 12 ∧ LN (a + 4) = 60 := (show ∀ x, x < 276 → SH x = 8 → FR x 3 = some (x + 4) ∧ SH (x + 4) = 12 ∧ LN (x + 4) = 60 by decide +kernel) a (SH_lt h (by decide)) h
theorem fr_8_4 {a : Nat} (h : SH a = 8) : FR a 4 = some (a + 5) ∧ SH (a + 5) = 12 ∧ LN (a + 5) = 48 := (show ∀ x, x < 276 → SH x = 8 → FR x 4 = some (x + 5) ∧ SH (x + 5) = 12 ∧ LN (x + 5) = 48 by decide +kernel) a (SH_lt h (by decide)) h
theorem fr_8_5 {a : Nat} (h : SH a = 8) : FR a 5 = some (a + 6) ∧ SH (a + 6) = 12 ∧ LN (a + 6) = 48 := (show ∀ x, x < 276 → SH x = 8 → FR x 5 = some (x + 6) ∧ SH (x + 6) = 12 ∧ LN (x + 6) = 48 by decide +kernel) a (SH_lt h (by decide)) h
theorem fr_8_6 {a : Nat} (h : SH a = 8) : FR a 6 = some (a + 7) ∧ SH (a + 7) = 12 ∧ LN (a + 7) = 48 := (show ∀ x, x < 276 → SH x = 8 → FR x 6 = some (x + 7) ∧ SH (x + 7) = 12 ∧ LN (x + 7) = 48 by decide +kernel) a (SH_lt h (by decide)) h
theorem row_83 {i : Int32} {q : Nat} (h : ar 83 30 i = some q) : SH q = 12 ∧ LN q = 3 := by
  obtain ⟨h1, rfl⟩ := ar_in h
  exact (show ∀ k, k < 30 → SH (83 + 1 + k) = 12 ∧ LN (83 + 1 + k) = 3 by decide +kernel) _ (Nat.not_le.mp fun q => h1 (Or.inr q))
theorem row_117 {i : Int32} {q : Nat} (h : ar 117 2 i = some q) : SH q = 12 ∧ LN q = 320 := by
  obtain ⟨h1, rfl⟩ := ar_in h
  exact (show ∀ k, k < 2 → SH (117 + 1 + k) = 12 ∧ LN (117 + 1 + k) = 320 by decide +kernel) _ (Nat.not_le.mp fun q => h1 (Or.inr q))
theorem row_120 {i : Int32} {q : Nat} (h : ar 120 6 i = some q) : SH q = 12 ∧ LN q = 3 := by
  obtain ⟨h1, rfl⟩ := ar_in h
  exact (show ∀ k, k < 6 → SH (120 + 1 + k) = 12 ∧ LN (120 + 1 + k) = 3 by decide +kernel) _ (Nat.not_le.mp fun q => h1 (Or.inr q))
theorem row_127 {i : Int32} {q : Nat} (h : ar 127 6 i = some q) : SH q = 12 ∧ LN q = 3 := by
  obtain ⟨h1, rfl⟩ := ar_in h
  exact (show ∀ k, k < 6 → SH (127 + 1 + k) = 12 ∧ LN (127 + 1 + k) = 3 by decide +kernel) _ (Nat.not_le.mp fun q => h1 (Or.inr q))
theorem row_135 {i : Int32} {q : Nat} (h : ar 135 60 i = some q) : SH q = 12 ∧ LN q = 3 := by
  obtain ⟨h1, rfl⟩ := ar_in h
  exact (show ∀ k, k < 60 → SH (135 + 1 + k) = 12 ∧ LN (135 + 1 + k) = 3 by decide +kernel) _ (Nat.not_le.mp fun q => h1 (Or.inr q))
theorem row_198 {i : Int32} {q : Nat} (h : ar 198 20 i = some q) : SH q = 12 ∧ LN q = 415 := by
  obtain ⟨h1, rfl⟩ := ar_in h
  exact (show ∀ k, k < 20 → SH (198 + 1 + k) = 12 ∧ LN (198 + 1 + k) = 415 by decide +kernel) _ (Nat.not_le.mp fun q => h1 (Or.inr q))
theorem row_219 {i : Int32} {q : Nat} (h : ar 219 3 i = some q) : SH q = 12 ∧ LN q = 8716 := by
  obtain ⟨h1, rfl⟩ := ar_in h
  exact (show ∀ k, k < 3 → SH (219 + 1 + k) = 12 ∧ LN (219 + 1 + k) = 8716 by decide +kernel) _ (Nat.not_le.mp fun q => h1 (Or.inr q))
theorem row_224 {i : Int32} {q : Nat} (h : ar 224 49 i = some q) : SH q = 12 ∧ LN q = 1000 := by
  obtain ⟨h1, rfl⟩ := ar_in h
  exact (show ∀ k, k < 49 → SH (224 + 1 + k) = 12 ∧ LN (224 + 1 + k) = 1000 by decide +kernel) _ (Nat.not_le.mp fun q => h1 (Or.inr q))
