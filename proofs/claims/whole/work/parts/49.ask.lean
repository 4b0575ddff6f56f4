/-! level 3: cells, stones, distances -/
theorem lt_oN {x : Int32} {n : Nat} (hn : n < 2147483648) : (0 ≤ x ∧ x < Int32.ofNat n) ↔ ∃ a : Nat, a < n ∧ x = Int32.ofNat a := by
  constructor
  · rintro ⟨h1, h2⟩
    have e := Int32.ofNat_toNatClampNeg x h1
    have hx := Int32.toNatClampNeg_lt x
    rw [← e, oN_lt hx hn] at h2
    exact ⟨x.toNatClampNeg, h2, e.symm⟩
  · rintro ⟨a, h1, rfl⟩
    exact ⟨lle (n := 0) (by omega) (by omega), (oN_lt (by omega) hn).mpr h1⟩
theorem le_sub1 {x : Int32} {n : Nat} (hn : n < 2147483648) : x ≤ Int32.ofNat n - 1 ↔ x < Int32.ofNat n := by
  have h1 := Int32.toInt_lt x
  have h2 := Int32.le_toInt x
  rw [Int32.le_iff_toInt_le, Int32.lt_iff_toInt_lt, Int32.toInt_sub, oN_int hn, show (1 : Int32).toInt = 1 from rfl, Int.bmod_eq_of_le (by omega) (by omega)]
  omega
/-- what is a cell of the field -/
def cOk (T : Mm) (x y : Int32) : Prop := (0 ≤ x ∧ x < mi T 80 0) ∧ (0 ≤ y ∧ y < mi T 80 1)
theorem cOk_nat {T : Mm} (hT : RGt T) {x y : Int32} : cOk T x y ↔ ∃ a b : Nat, a < tw T ∧ b < th T ∧ x = Int32.ofNat a ∧ y = Int32.ofNat b := by
  unfold cOk
  obtain ⟨⟨w1, w2, w3⟩, ⟨h1, h2, h3⟩, -⟩ := hT
  rw [w3, h3, lt_oN (by omega), lt_oN (by omega)]
  constructor
  · rintro ⟨⟨a, ha, e1⟩, ⟨b, hb, e2⟩⟩
    exact ⟨a, b, ha, hb, e1, e2⟩
  · rintro ⟨a, b, ha, hb, e1, e2⟩
    exact ⟨⟨a, ha, e1⟩, ⟨b, hb, e2⟩⟩
theorem nlt {a b : Int32} (h : ¬ a < b) : b ≤ a := Int32.not_lt.mp h
theorem nle' {a b : Int32} (h : ¬ a ≤ b) : b < a := Int32.not_le.mp h
theorem lnle {a b : Int32} (h : a < b) : ¬ b ≤ a := fun q => Int32.not_lt.mpr q h
theorem lenl {a b : Int32} (h : a ≤ b) : ¬ b < a := Int32.not_lt.mpr h
section AK
variable {k : Nat} {M : Mm} {q : Nat → Nat}
theorem k_cell_y (h : RR M M q) {x y : Int32} (hc : cOk M x y) : f_X9_needCell x y M = some (.inr (), M) := by
  obtain ⟨⟨a1, a2⟩, ⟨b1, b2⟩⟩ := hc
  unfold f_X9_needCell
  rw [h.g, h.gd.2.1.1, h.gd.2.1.2.1, if_neg (lenl a1), if_neg (lenl b1), if_neg (lnle a2), if_pos b2]
theorem k_cell_n (h : RR M M q) {x y : Int32} (hc : ¬ cOk M x y) : f_X9_needCell x y M = some (.inl 0, eRef M 0) := by
  unfold f_X9_needCell
  rw [h.g, h.gd.2.1.1, h.gd.2.1.2.1]
  by_cases a1 : x < 0
  · rw [if_pos a1]; rfl
  by_cases b1 : y < 0
  · rw [if_neg a1, if_pos b1]; rfl
  by_cases a2 : mi M 80 0 ≤ x
  · rw [if_neg a1, if_neg b1, if_pos a2]; rfl
  by_cases b2 : y < mi M 80 1
  · exact absurd ⟨⟨nlt a1, nle' a2⟩, ⟨nlt b1, b2⟩⟩ hc
  · rw [if_neg a1, if_neg b1, if_neg a2, if_neg b2]; rfl
theorem m_cellq {N : Mm} (hT : RGt N) {x y : Int32} (c : Prop) [Decidable c] (hc : cOk N x y ↔ c) : f_X10_isCell x y N = some (if c then 1 else 0) := by
  have hT' := hT
  obtain ⟨⟨w1, w2, w3⟩, ⟨h1, h2, h3⟩, -⟩ := hT
  unfold f_X10_isCell g_X10_isCell
  rw [show ai N 80 10 0 = some (mi N 80 0) from ai_o (i := 0) (by omega) (by omega), bsome, m_in, bsome]
  have e1 : (0 ≤ x ∧ x ≤ mi N 80 0 - 1) ↔ (0 ≤ x ∧ x < mi N 80 0) := by rw [w3, le_sub1 (by omega)]
  have e2 : (0 ≤ y ∧ y ≤ mi N 80 1 - 1) ↔ (0 ≤ y ∧ y < mi N 80 1) := by rw [h3, le_sub1 (by omega)]
  by_cases a : 0 ≤ x ∧ x ≤ mi N 80 0 - 1
  · rw [if_pos a, if_neg z10, show ai N 80 10 1 = some (mi N 80 1) from ai_o (i := 1) (by omega) (by omega), bsome, m_in, bsome]
    by_cases b : 0 ≤ y ∧ y ≤ mi N 80 1 - 1
    · rw [if_pos b, if_neg z10, if_pos (hc.mp ⟨e1.mp a, e2.mp b⟩)]; rfl
    · rw [if_neg b, if_pos z00, if_neg (fun p => b (e2.mpr (hc.mpr p).2))]; rfl
  · rw [if_neg a, if_pos z00, if_neg (fun p => a (e1.mpr (hc.mpr p).1))]; rfl
theorem cOk_of {M N : Mm} (e : mi N 80 = mi M 80) {x y : Int32} : cOk N x y ↔ cOk M x y := by unfold cOk; rw [e]
theorem RGt_of {M N : Mm} (e : mi N 80 = mi M 80) (h : RGt M) : RGt N := by unfold RGt tw th at h ⊢; rw [e]; exact h
theorem m_cell_y {N : Mm} (e : mi N 80 = mi M 80) (hT : RGt M) {x y : Int32} (hc : cOk M x y) : f_X10_isCell x y N = some 1 := by
  rw [m_cellq (RGt_of e hT) True (by rw [cOk_of e]; exact iff_true_intro hc), if_pos trivial]
theorem m_cell_n {N : Mm} (e : mi N 80 = mi M 80) (hT : RGt M) {x y : Int32} (hc : ¬ cOk M x y) : f_X10_isCell x y N = some 0 := by
  rw [m_cellq (RGt_of e hT) False (by rw [cOk_of e]; exact iff_false_intro hc), if_neg (fun h => h)]
theorem cell_ix {x y : Nat} (hx : x < 8) (hy : y < 6) : (8 : Int32) * Int32.ofNat y + Int32.ofNat x = Int32.ofNat (8 * y + x) ∧ 8 * y + x < 48 := ⟨kcel, by omega⟩
/-- stones -/
theorem st_nat {w h : Nat} {r : Nat → Int32} (hV : VR w h r) {x : Int32} : (0 ≤ x ∧ x < r 360) ↔ ∃ n : Nat, n < rN r ∧ x = Int32.ofNat n := by
  rw [hV.n, lt_oN hV.n1]
theorem k_stone_y (h : RR M M q) {x : Int32} (hc : 0 ≤ x ∧ x < mi M 196 360) : f_X9_needStone x M = some (.inr (), M) := by
  unfold f_X9_needStone
  rw [h.w, h.wd.2.1.1.1, if_neg (lenl hc.1), if_pos hc.2]
theorem k_stone_n (h : RR M M q) {x : Int32} (hc : ¬ (0 ≤ x ∧ x < mi M 196 360)) : f_X9_needStone x M = some (.inl 1, eRef M 1) := by
  unfold f_X9_needStone
  rw [h.w, h.wd.2.1.1.1]
  by_cases a : x < 0
  · rw [if_pos a]; rfl
  · rw [if_neg a, if_neg (fun b => hc ⟨nlt a, b⟩)]; rfl
theorem m_stoneq {N : Mm} (h : RR M M q) (e : mi N 196 = mi M 196) {x : Int32} : f_X10_isStone x N = some (if 0 ≤ x ∧ x < mi M 196 360 then 1 else 0) := by
  unfold f_X10_isStone g_X10_isStone
  rw [show ai N 196 415 360 = some (mi N 196 360) from ai_o (i := 360) (by omega) (by omega), bsome, m_in, bsome, e]
  have e2 : (0 ≤ x ∧ x ≤ mi M 196 360 - 1) ↔ (0 ≤ x ∧ x < mi M 196 360) := by rw [h.wd.1.n, le_sub1 h.wd.1.n1]
  by_cases a : 0 ≤ x ∧ x ≤ mi M 196 360 - 1
  · rw [if_pos a, if_pos (e2.mp a)]; rfl
  · rw [if_neg a, if_neg (fun p => a (e2.mpr p))]; rfl
/-- distances -/
def nab (a b : Nat) : Nat := (a - b) + (b - a)
def fr (c d : Nat) : Int32 := Int32.ofNat (nab (c % 8) (d % 8) + nab (c / 8) (d / 8))
theorem abs8 : ∀ a, a < 8 → ∀ b, b < 8 → mabs (Int32.ofNat a - Int32.ofNat b) = Int32.ofNat (nab a b) := by decide +kernel
theorem dif8 : ∀ a, a < 8 → ∀ b, b < 8 → (if Int32.ofNat a ≤ Int32.ofNat b then Int32.ofNat b - Int32.ofNat a else Int32.ofNat a - Int32.ofNat b) = Int32.ofNat (nab a b) := by decide +kernel
theorem k_far {c d : Nat} (hc : c < 48) (hd : d < 48) : f_X9_far (Int32.ofNat c) (Int32.ofNat d) M = some (fr c d) := by
  unfold f_X9_far
  rw [k_column hc, bsome, k_column hd, bsome, k_row hc, bsome, k_row hd, bsome, abs8 _ (by omega) _ (by omega), abs8 _ (by omega) _ (by omega)]
  unfold fr
  rw [Int32.ofNat_add]
theorem m_farOf {a b u v : Nat} (ha : a < 8) (hb : b < 8) (hu : u < 8) (hv : v < 8) : f_X10_farOf (Int32.ofNat a) (Int32.ofNat b) (Int32.ofNat u) (Int32.ofNat v) M = some (Int32.ofNat (nab a u + nab b v)) := by
  unfold f_X10_farOf
  rw [dif8 a ha u hu, dif8 b hb v hv, Int32.ofNat_add]
theorem VR.sl {w h : Nat} {r : Nat → Int32} (hV : VR w h r) : ∃ s : Nat, s < 48 ∧ (8 : Int32) * r 362 + r 361 = Int32.ofNat s ∧ r 361 = Int32.ofNat (s % 8) ∧ r 362 = Int32.ofNat (s / 8) ∧ s % 8 < w ∧ s / 8 < h := by
  obtain ⟨⟨a1, a2⟩, ⟨b1, b2⟩⟩ := hV.2.2.2.1
  have h3 := hV.1
  generalize hx : (r 361).toNatClampNeg = x at a1 a2
  generalize hy : (r 362).toNatClampNeg = y at b1 b2
  refine ⟨8 * y + x, by omega, by rw [a2, b2, kcel], by rw [a2, show (8 * y + x) % 8 = x by omega], by rw [b2, show (8 * y + x) / 8 = y by omega], by omega, by omega⟩
theorem VR.xy {w h : Nat} {r : Nat → Int32} {i : Nat} (hV : VR w h r) (hi : i < rN r) : r (6 * i) = Int32.ofNat (rC r i % 8) ∧ r (6 * i + 1) = Int32.ofNat (rC r i / 8) := by
  rw [hV.cx hi, hV.cy hi]
  exact ⟨(hV.s hi).1.2, (hV.s hi).2.1.2⟩
/-- the best of those that lie -/
def bst (lt : Nat → Nat → Bool) (ly : Nat → Bool) : Nat → Option Nat
  | 0 => none
  | n + 1 => match bst lt ly n with
    | none => if ly n then some n else none
    | some b => if ly n && lt n b then some n else some b
def enc : Option Nat → Int32
  | none => -1
  | some b => Int32.ofNat b
theorem bst_lt {lt : Nat → Nat → Bool} {ly : Nat → Bool} : ∀ {n b : Nat}, bst lt ly n = some b → b < n := by
  intro n
  induction n with
  | zero => intro b h; cases h
  | succ n ih =>
    intro b h
    unfold bst at h
    cases hb : bst lt ly n with
    | none =>
      rw [hb] at h
      dsimp only at h
      by_cases hl : ly n = true
      · rw [if_pos hl] at h; cases h; omega
      · rw [if_neg hl] at h; cases h
    | some c =>
      rw [hb] at h
      dsimp only at h
      by_cases hl : (ly n && lt n c) = true
      · rw [if_pos hl] at h; cases h; omega
      · rw [if_neg hl] at h; cases h; have := ih hb; omega
/-- a loop that seeks the best -/
theorem bst_loop {b : (Int32 × Int32) → Option ((Int32 × Int32) ⊕ Int32)} {lt : Nat → Nat → Bool} {ly : Nat → Bool} (n : Nat) (hn : n < 1000000) (h0 : ∀ i, i < n → ∀ s, ly i = false → b (s, Int32.ofNat i) = some (.inl (s, Int32.ofNat i + 1))) (h1 : ∀ i, i < n → ly i = true → b (-1, Int32.ofNat i) = some (.inl (Int32.ofNat i, Int32.ofNat i + 1))) (h2 : ∀ i j, i < n → j < i → ly i = true → b (Int32.ofNat j, Int32.ofNat i) = some (.inl (if lt i j then Int32.ofNat i else Int32.ofNat j, Int32.ofNat i + 1))) (he : ∀ s, b (s, Int32.ofNat n) = some (.inr s)) : whl fu b (-1, 0) = some (enc (bst lt ly n)) :=
  whl_eq n fu (fun i => (enc (bst lt ly i), Int32.ofNat i)) hn (fun i hi => by
    show b (enc (bst lt ly i), Int32.ofNat i) = some (.inl (enc (bst lt ly (i + 1)), Int32.ofNat (i + 1)))
    rw [← oN_S]
    cases hb : bst lt ly i with
    | none =>
      unfold bst
      rw [hb]
      dsimp only
      cases hl : ly i with
      | false => rw [h0 i hi _ hl]; rfl
      | true => exact h1 i hi hl
    | some c =>
      have hc := bst_lt hb
      unfold bst
      rw [hb]
      dsimp only
      cases hl : ly i with
      | false => rw [h0 i hi _ hl]; rfl
      | true =>
        refine (h2 i c hi hc hl).trans ?_
        cases lt i c <;> rfl) (he _)
theorem k_soil {C T : Mm} {g c : Nat} (h : RGd C T g) (hc : c < 48) : f_X3_soilOf g (Int32.ofNat c) C = some (mi T 82 c) := by
  unfold f_X3_soilOf
  rw [k_isCell hc, bsome, if_neg z10, ai_o hc (by omega), (h.2.2 c hc).1]
  rfl
end AK
