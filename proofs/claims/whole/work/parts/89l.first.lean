/-! level 3: first: what a cell costs -/
section FA
variable {k : Nat} {M : Mm} {q : Nat → Nat} {w h : Nat} {r : Nat → Int32} {C C' T N : Mm}
theorem lg_le9 {a b : Int64} : (lg_cmp a b ≤ 0) ↔ a ≤ b := by
  constructor
  · intro z
    by_cases e : a = b
    · rw [e]; exact Int64.le_refl _
    · have h1 : ¬ (0 ≤ lg_cmp a b) := fun z2 => e (lg_z.mp (Int32.le_antisymm z z2))
      have h2 : ¬ b ≤ a := fun z2 => h1 (lg_lt.mpr z2)
      exact Int64.le_of_lt (Int64.not_le.mp h2)
  · intro z
    by_cases e : a = b
    · rw [lg_z.mpr e]; exact Int32.le_refl _
    · have h1 : ¬ b ≤ a := fun z2 => e (Int64.le_antisymm z z2)
      have h2 : ¬ (0 ≤ lg_cmp a b) := fun z2 => h1 (lg_lt.mp z2)
      exact Int32.le_of_lt (Int32.not_le.mp h2)
def clN (T : Mm) (r : Nat → Int32) (i : Nat) : Nat := (clrO T r i).toNatClampNeg
theorem clN_ok {i : Nat} (hT : RGt T) (hV : VR w h r) (hi : i < rN r) : 1 ≤ clN T r i ∧ clN T r i ≤ 270 ∧ clrO T r i = Int32.ofNat (clN T r i) := by
  obtain ⟨f, f1, f2⟩ := clr_le hT hV hi
  have e : clN T r i = f := by unfold clN; rw [f2, oN_nat (by omega)]
  rw [e]
  refine ⟨?_, f1, f2⟩
  obtain ⟨⟨x1, x2⟩, -, ⟨s, s1, s2, s3⟩, -⟩ := hV.s hi
  have h8 := hV.1
  obtain ⟨v5, -, b5, e5⟩ := hT.2.2.2.2.1
  obtain ⟨v9, b8, b9, e9⟩ := hT.2.2.2.2.2.2.2.2
  unfold clrO at f2
  by_cases hA : mi T 80 4 < r (6 * i + 2)
  · rw [if_pos hA, e9, s3, ← Int32.ofNat_mul] at f2
    have hb : v9 * s ≤ 30 * 9 := Nat.mul_le_mul b9 s2
    have := (oN_eq (by omega) (by omega)).mp f2
    have h1 : 1 * 1 ≤ v9 * s := Nat.mul_le_mul b8 s1
    omega
  · rw [if_neg hA, e5, s3, x2, oN_S, show (2 : Int32) = Int32.ofNat 2 from rfl, ← Int32.ofNat_mul, ← Int32.ofNat_mul, ← Int32.ofNat_add] at f2
    have hb : 2 * v5 * (nX r i + 1) ≤ 18 * 8 := Nat.mul_le_mul (by omega) (by omega)
    have := (oN_eq (by omega) (by omega)).mp f2
    omega
/-- the sum of the clearings in a cell -/
def coN (T : Mm) (r : Nat → Int32) (c : Nat) : Nat → Nat
  | 0 => 0
  | i + 1 => coN T r c i + if Th r i ∧ rC r i = c then clN T r i else 0
theorem coN_s {c i : Nat} : coN T r c (i + 1) = coN T r c i + if Th r i ∧ rC r i = c then clN T r i else 0 := rfl
def co (T : Mm) (r : Nat → Int32) (c : Nat) : Nat := coN T r c (rN r)
theorem coN_le (hT : RGt T) (hV : VR w h r) {c : Nat} : ∀ n, n ≤ rN r → coN T r c n ≤ 270 * n := by
  intro n
  induction n with
  | zero => exact fun _ => Nat.le_refl _
  | succ n ih =>
    intro hn
    have := ih (by omega)
    have := clN_ok hT hV (show n < rN r by omega)
    unfold coN
    by_cases hc : Th r n ∧ rC r n = c
    · rw [if_pos hc]; omega
    · rw [if_neg hc]; omega
theorem coN_no {c : Nat} : ∀ n, (∀ i, i < n → ¬ (Th r i ∧ rC r i = c)) → coN T r c n = 0 := by
  intro n
  induction n with
  | zero => exact fun _ => rfl
  | succ n ih =>
    intro h1
    unfold coN
    rw [ih (fun i hi => h1 i (by omega)), if_neg (h1 n (by omega))]
theorem coN_yes (hT : RGt T) (hV : VR w h r) {c i : Nat} (hi : Th r i ∧ rC r i = c) : ∀ n, n ≤ rN r → i < n → 0 < coN T r c n := by
  intro n
  induction n with
  | zero => intro _ h1; omega
  | succ n ih =>
    intro hn h1
    unfold coN
    by_cases e : i = n
    · rw [← e, if_pos hi]
      have := clN_ok hT hV (show i < rN r by omega)
      omega
    · have := ih (by omega) (by omega)
      omega
theorem co_sum (hT : RGt T) (hV : VR w h r) {c : Nat} : ∀ n, n ≤ rN r → sm n (fun i => if Th r i ∧ rC r i = c then clrO T r i else 0) = Int32.ofNat (coN T r c n) := by
  intro n
  induction n with
  | zero => exact fun _ => rfl
  | succ n ih =>
    intro hn
    show sm n _ + (if Th r n ∧ rC r n = c then clrO T r n else 0) = _
    rw [ih (by omega), coN_s]
    by_cases hc : Th r n ∧ rC r n = c
    · rw [if_pos hc, if_pos hc, (clN_ok hT hV (show n < rN r by omega)).2.2, oN_A]
    · rw [if_neg hc, if_neg hc, Int32.add_zero]
      rfl
theorem m_clearsIn {c : Nat} (hT : RGt N) (hV : VR w h (mi N 196)) (hc : c < 48) : f_X10_clearsIn (Int32.ofNat c) N = some (Int32.ofNat (co N (mi N 196) c)) := by
  have h6 := hV.n60
  have a360 : ai N 196 415 360 = some (mi N 196 360) := ai_o (i := 360) (by omega) (by omega)
  have e := sum_loop (b := f_X10_clearsIn_b4 (Int32.ofNat c) N) (rN (mi N 196)) (fun i => if Th (mi N 196) i ∧ rC (mi N 196) i = c then clrO N (mi N 196) i else 0) (by omega) (by
    intro i hi acc
    unfold f_X10_clearsIn_b4 f_X10_clearsIn_j52
    dsimp only
    rw [a360, bsome, hV.n, if_neg (nle hi hV.n1), m_isThere LN196 hV hi, bsome]
    by_cases hT1 : Th (mi N 196) i
    · rw [if_pos hT1, if_neg z10, m_cellOf LN196 hV hi, bsome]
      by_cases hcc : rC (mi N 196) i = c
      · rw [if_pos (congrArg Int32.ofNat hcc), m_clearOf LN196 (by omega), bsome, if_pos ⟨hT1, hcc⟩]
      · rw [if_neg (fun z => hcc ((oN_eq (by have := hV.c48 hi; omega) (by omega)).mp z)), if_neg (fun z => hcc z.2)]
    · rw [if_neg hT1, if_pos z00, if_neg (fun z => hT1 z.1)]) (by
    intro acc
    unfold f_X10_clearsIn_b4
    dsimp only
    rw [a360, bsome, hV.n, if_pos (le_rf _)])
  unfold f_X10_clearsIn
  rw [e, co_sum hT hV _ (Nat.le_refl _)]
  rfl
theorem k_clearsIn {g a c : Nat} (hG : RGd C T g) (hV : VR w h r) (hW : RW C a r) (hc : c < 48) (hl : ¬ r (367 + c) = 1) : f_X8_clearingOfCell a g (Int32.ofNat c) C = some (Int32.ofNat (co T r c)) := by
  have h6 := hV.n60
  have e := sum_loop (b := f_X8_clearingOfCell_b5 a g (Int32.ofNat c) C) (rN r) (fun i => if Th r i ∧ rC r i = c then clrO T r i else 0) (by omega) (by
    intro i hi acc
    unfold f_X8_clearingOfCell_b5
    dsimp only
    rw [hW.n, hV.n, if_neg (nle hi hV.n1), k_liesIn hV hW hi hc, bsome]
    by_cases h1 : Li r c i
    · rw [if_pos h1, if_neg z10, k_clearingOf hG hV hW hi, bsome, if_pos ⟨⟨h1.1, by rw [h1.2]; exact hl⟩, h1.2⟩]
    · rw [if_neg h1, if_pos z00, if_neg (fun z => h1 ⟨z.1.1, z.2⟩)]) (by
    intro acc
    unfold f_X8_clearingOfCell_b5
    dsimp only
    rw [hW.n, hV.n, if_pos (le_rf _)])
  unfold f_X8_clearingOfCell
  rw [e, co_sum hG.1 hV _ (Nat.le_refl _)]
  rfl
/-- how many fall under P -/
def cN (P : Nat → Prop) [DecidablePred P] : Nat → Nat
  | 0 => 0
  | n + 1 => cN P n + if P n then 1 else 0
theorem cN_s {P : Nat → Prop} [DecidablePred P] {n : Nat} : cN P (n + 1) = cN P n + if P n then 1 else 0 := rfl
theorem cN_sm {P : Nat → Prop} [DecidablePred P] : ∀ n, sm n (fun i => if P i then (1 : Int32) else 0) = Int32.ofNat (cN P n) := by
  intro n
  induction n with
  | zero => rfl
  | succ n ih =>
    show sm n _ + (if P n then (1 : Int32) else 0) = _
    rw [ih, cN_s]
    by_cases hP : P n
    · rw [if_pos hP, if_pos hP, oN_S]
    · rw [if_neg hP, if_neg hP, Int32.add_zero]
      rfl
theorem cN_le {P : Nat → Prop} [DecidablePred P] : ∀ n, cN P n ≤ n := by
  intro n
  induction n with
  | zero => exact Nat.le_refl _
  | succ n ih =>
    unfold cN
    by_cases hP : P n
    · rw [if_pos hP]; omega
    · rw [if_neg hP]; omega
theorem cN_0 {P : Nat → Prop} [DecidablePred P] : ∀ n, cN P n = 0 → ∀ i, i < n → ¬ P i := by
  intro n
  induction n with
  | zero => intro _ i hi; omega
  | succ n ih =>
    intro h1 i hi
    unfold cN at h1
    by_cases hP : P n
    · rw [if_pos hP] at h1; omega
    · by_cases e : i = n
      · rw [e]; exact hP
      · exact ih (by omega) i (by omega)
theorem cN_1 {P : Nat → Prop} [DecidablePred P] : ∀ n, 0 < cN P n → ∃ i, i < n ∧ P i := by
  intro n
  induction n with
  | zero => intro h1; exact absurd h1 (by unfold cN; omega)
  | succ n ih =>
    intro h1
    by_cases hP : P n
    · exact ⟨n, by omega, hP⟩
    · unfold cN at h1
      rw [if_neg hP] at h1
      obtain ⟨i, i1, i2⟩ := ih (by omega)
      exact ⟨i, by omega, i2⟩
/-- nothing lies there, or the cell is lost: nothing to clear -/
theorem co_free (hT : RGt T) (hV : VR w h r) {c : Nat} : co T r c = 0 ↔ (lyIn r c ≤ 0 ∨ r (367 + c) = 1) := by
  have h6 := hV.n60
  have e : lyIn r c = Int32.ofNat (cN (Li r c) (rN r)) := cN_sm (P := Li r c) (rN r)
  have hle := cN_le (P := Li r c) (rN r)
  constructor
  · intro h0
    by_cases hl : r (367 + c) = 1
    · exact Or.inr hl
    · refine Or.inl ?_
      rw [e]
      by_cases hp : 0 < cN (Li r c) (rN r)
      · obtain ⟨i, i1, i2⟩ := cN_1 _ hp
        have := coN_yes hT hV (c := c) (i := i) ⟨⟨i2.1, by rw [i2.2]; exact hl⟩, i2.2⟩ (rN r) (Nat.le_refl _) i1
        unfold co at h0
        omega
      · rw [show cN (Li r c) (rN r) = 0 by omega]
        decide
  · intro h1
    refine coN_no _ (fun i hi hh => ?_)
    rcases h1 with h1 | h1
    · rw [e] at h1
      have hz : cN (Li r c) (rN r) ≤ 0 := (oN_le (j := 0) (by omega) (by omega)).mp h1
      exact cN_0 (P := Li r c) (rN r) (by omega) i hi ⟨hh.1.1, hh.2⟩
    · exact hh.1.2 (by rw [hh.2]; exact h1)
/-! the table -/
def fF (co : Nat → Nat) (so : Nat → Int32) : Nat → Nat → Int32
  | 0 => fun s => if s = 0 then 0 else -1
  | c + 1 => fun s => if co c = 0 ∨ s < co c ∨ fF co so c (s - co c) = -1 then fF co so c s else if fF co so c s ≤ fF co so c (s - co c) + so c then fF co so c (s - co c) + so c else fF co so c s
def bF (co : Nat → Nat) (so : Nat → Int32) : Nat → Nat → Int64
  | 0 => fun _ => 0
  | c + 1 => fun s => if fF co so (c + 1) s = fF co so c s then bF co so c s else bF co so c (s - co c) ||| ((1 : Int64) <<< ((Int32.ofNat c).toInt64 &&& 63))
variable {cf : Nat → Nat} {sf : Nat → Int32}
theorem fF_s {c s : Nat} : fF cf sf (c + 1) s = if cf c = 0 ∨ s < cf c ∨ fF cf sf c (s - cf c) = -1 then fF cf sf c s else if fF cf sf c s ≤ fF cf sf c (s - cf c) + sf c then fF cf sf c (s - cf c) + sf c else fF cf sf c s := rfl
theorem bF_s {c s : Nat} : bF cf sf (c + 1) s = if fF cf sf (c + 1) s = fF cf sf c s then bF cf sf c s else bF cf sf c (s - cf c) ||| ((1 : Int64) <<< ((Int32.ofNat c).toInt64 &&& 63)) := rfl
theorem fF_ok (hs : ∀ c, c < 48 → ∃ n : Nat, n ≤ 99 ∧ sf c = Int32.ofNat n) : ∀ c, c ≤ 48 → ∀ s, fF cf sf c s = -1 ∨ ∃ n : Nat, n ≤ 99 * c ∧ fF cf sf c s = Int32.ofNat n := by
  intro c
  induction c with
  | zero =>
    intro _ s
    by_cases h0 : s = 0
    · exact Or.inr ⟨0, by omega, if_pos h0⟩
    · exact Or.inl (if_neg h0)
  | succ c ih =>
    intro hc s
    have old : fF cf sf c s = -1 ∨ ∃ n : Nat, n ≤ 99 * (c + 1) ∧ fF cf sf c s = Int32.ofNat n := (ih (by omega) s).elim Or.inl (fun ⟨n, n1, n2⟩ => Or.inr ⟨n, by omega, n2⟩)
    rw [fF_s]
    by_cases h1 : cf c = 0 ∨ s < cf c ∨ fF cf sf c (s - cf c) = -1
    · rw [if_pos h1]; exact old
    · rw [if_neg h1]
      by_cases h2 : fF cf sf c s ≤ fF cf sf c (s - cf c) + sf c
      · rw [if_pos h2]
        obtain ⟨n, n1, n2⟩ := (ih (by omega) (s - cf c)).resolve_left (fun z => h1 (Or.inr (Or.inr z)))
        obtain ⟨m, m1, m2⟩ := hs c (by omega)
        exact Or.inr ⟨n + m, by omega, by rw [n2, m2, oN_A]⟩
      · rw [if_neg h2]; exact old
theorem fF_0 : ∀ c, fF cf sf c 0 = 0 ∧ bF cf sf c 0 = 0 := by
  intro c
  induction c with
  | zero => exact ⟨rfl, rfl⟩
  | succ c ih =>
    have e : fF cf sf (c + 1) 0 = fF cf sf c 0 := by
      rw [fF_s]
      by_cases h1 : cf c = 0
      · rw [if_pos (Or.inl h1)]
      · rw [if_pos (Or.inr (Or.inl (by omega)))]
    exact ⟨e.trans ih.1, by rw [bF_s, if_pos e]; exact ih.2⟩
theorem neg_le {x : Int32} (h : x = -1 ∨ ∃ n : Nat, n ≤ 10000 ∧ x = Int32.ofNat n) : (if x ≤ -1 then (-1 : Int32) else x) = x := by
  rcases h with rfl | ⟨n, n1, rfl⟩
  · rfl
  · rw [if_neg]
    intro z
    exact oN_nn (i := n) (by omega) (Int32.lt_of_le_of_lt z (by decide))
end FA
