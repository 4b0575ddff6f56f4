/-! level 3: the way: rows, bounds -/
section WA
variable {k : Nat} {M : Mm} {q : Nat → Nat} {w h : Nat} {r : Nat → Int32} {C C' T N : Mm}
def popW (m : Nat) : Nat := (m % 2) + (m / 2 % 2) + (m / 4 % 2) + (m / 8 % 2) + (m / 16 % 2) + (m / 32 % 2)
def topW (m : Nat) : Nat := if m / 32 % 2 = 1 then 5 else if m / 16 % 2 = 1 then 4 else if m / 8 % 2 = 1 then 3 else if m / 4 % 2 = 1 then 2 else if m / 2 % 2 = 1 then 1 else 0
theorem wy_pop : ∀ m : Nat, m < 64 → ∀ y : Nat, y < 6 → m.testBit y = true → popW m = popW (m - 2 ^ y) + 1 := by decide +kernel
theorem wy_top : ∀ m : Nat, m < 64 → ∀ z : Nat, z < 6 → m.testBit z = true → ∀ y : Nat, y < 6 → topW m - y ≤ nab y z + (topW (m - 2 ^ z) - z) := by decide +kernel
theorem wy_msk : ∀ m : Nat, m < 64 → ∀ y : Nat, y < 6 → m.testBit y = true → (Int32.ofNat m &&& (((1 : Int32) <<< (Int32.ofNat y &&& 31)) ^^^ (-1 : Int32))) = Int32.ofNat (m - 2 ^ y) := by decide +kernel
theorem wy_or : ∀ a : Nat, a < 64 → ∀ y : Nat, y < 6 → (Int32.ofNat a ||| ((1 : Int32) <<< (Int32.ofNat y &&& 31))) = Int32.ofNat (a ||| 2 ^ y) := by decide +kernel
theorem wy_pt : ∀ m : Nat, m < 64 → popW m ≤ 6 ∧ topW m ≤ 5 := by decide +kernel
theorem wy_z : popW 0 = 0 ∧ topW 0 = 0 := by decide
/-- the bits from j on -/
def hiM (m j : Nat) : Nat := m - m % 2 ^ j
theorem hi_no : ∀ m : Nat, m < 64 → ∀ j : Nat, j < 6 → ¬ m.testBit j = true → hiM m j = hiM m (j + 1) := by decide +kernel
theorem hi_yes : ∀ m : Nat, m < 64 → ∀ j : Nat, j < 6 → m.testBit j = true → hiM m j - 2 ^ j = hiM m (j + 1) ∧ (hiM m j).testBit j = true := by decide +kernel
theorem hi_low : ∀ m : Nat, m < 64 → ∀ j : Nat, j < 6 → ∀ i : Nat, i < j → (hiM m j).testBit i = false := by decide +kernel
theorem hi_top : ∀ m : Nat, m < 64 → ∀ j : Nat, j < 6 → m.testBit j = true → ∀ y : Nat, y ≤ j → topW (hiM m j) - y = nab y j + (topW (hiM m (j + 1)) - j) := by decide +kernel
theorem hi_le : ∀ m : Nat, m < 64 → ∀ j : Nat, j < 7 → hiM m j ≤ m := by decide +kernel
theorem hi_6 : ∀ m : Nat, m < 64 → hiM m 6 = 0 := by decide +kernel
theorem hi_0 : ∀ m : Nat, m < 64 → hiM m 0 = m := by decide +kernel
theorem hi_z : ∀ m : Nat, m < 64 → ∀ j : Nat, j < 6 → hiM m j = 0 → hiM m (j + 1) = 0 ∧ ¬ m.testBit j = true := by decide +kernel
theorem wy_bit : ∀ m : Nat, m < 64 → ∀ i : Nat, i < 6 → (((Int32.ofNat m >>> (Int32.ofNat i &&& 31)) &&& 1) = if m.testBit i then 1 else 0) := by decide +kernel
/-- the rows in which any lie -/
def rwM (r : Nat → Int32) : Nat → Nat
  | 0 => 0
  | i + 1 => if Th r i then rwM r i ||| 2 ^ (rC r i / 8) else rwM r i
theorem rwM_lt (hV : VR w h r) : ∀ i, i ≤ rN r → rwM r i < 2 ^ h := by
  intro i
  induction i with
  | zero => exact fun _ => Nat.pow_pos (by decide)
  | succ i ih =>
    intro hi
    have hy : rC r i / 8 < h := by rw [hV.cy (by omega)]; exact (hV.s (by omega)).2.1.1
    unfold rwM
    by_cases hT : Th r i
    · rw [if_pos hT]
      exact Nat.or_lt_two_pow (ih (by omega)) (Nat.pow_lt_pow_right (by decide) hy)
    · rw [if_neg hT]
      exact ih (by omega)
theorem rwM_64 (hV : VR w h r) {i : Nat} (hi : i ≤ rN r) : rwM r i < 64 := Nat.lt_of_lt_of_le (rwM_lt hV i hi) (Nat.pow_le_pow_right (i := h) (j := 6) (by decide) hV.1.2.2.2)
theorem k_rowsAsked {a : Nat} (hV : VR w h r) (hW : RW C a r) : f_X0_rowsAsked a C = some (Int32.ofNat (rwM r (rN r))) := by
  have h6 := hV.n60
  have e := whl_eq (f := f_X0_rowsAsked_b4 a C) (e := Int32.ofNat (rwM r (rN r))) (rN r) fu (fun i => (Int32.ofNat (rwM r i), Int32.ofNat i)) (by show rN r < 1000000; omega) (fun i hi => by
    try dsimp only
    have h48 := hV.c48 hi
    unfold f_X0_rowsAsked_b4
    dsimp only
    rw [hW.n, hV.n, if_neg (nle hi (by omega)), k_isAsked hV hW hi, bsome, oN_S, show rwM r (i + 1) = if Th r i then rwM r i ||| 2 ^ (rC r i / 8) else rwM r i from rfl]
    by_cases hT : Th r i
    · rw [if_pos hT, if_neg z10, k_cellOf hV hW hi, bsome, k_row h48, bsome, wy_or _ (rwM_64 hV (by omega)) _ (by omega), if_pos hT]
    · rw [if_neg hT, if_pos z00, Int32.or_zero, if_neg hT]) (by
    try dsimp only
    unfold f_X0_rowsAsked_b4
    dsimp only
    rw [hW.n, hV.n, if_pos (le_rf _)])
  unfold f_X0_rowsAsked
  rw [show whl fu (f_X0_rowsAsked_b4 a C) (0, 0) = _ from e]
  rfl
theorem m_rows {x1 : Int32} (hV : VR w h (mi N 196)) : whl fu (f_X10_way_b34 x1 N) (0, 0) = some (Int32.ofNat (rwM (mi N 196) (rN (mi N 196)))) := by
  have h6 := hV.n60
  have a360 : ai N 196 415 360 = some (mi N 196 360) := ai_o (i := 360) (by omega) (by omega)
  exact whl_eq (f := f_X10_way_b34 x1 N) (e := Int32.ofNat (rwM (mi N 196) (rN (mi N 196)))) (rN (mi N 196)) fu (fun i => (Int32.ofNat (rwM (mi N 196) i), Int32.ofNat i)) (by show rN (mi N 196) < 1000000; omega) (fun i hi => by
    try dsimp only
    have h48 := hV.c48 hi
    unfold f_X10_way_b34
    dsimp only
    rw [a360, bsome, hV.n, if_neg (nle hi (by omega)), m_isThere LN196 hV hi, bsome, oN_S, show rwM (mi N 196) (i + 1) = if Th (mi N 196) i then rwM (mi N 196) i ||| 2 ^ (rC (mi N 196) i / 8) else rwM (mi N 196) i from rfl]
    by_cases hT : Th (mi N 196) i
    · rw [if_pos hT, if_neg z10, m_of1 LN196 (by omega), bsome, (hV.xy hi).2, wy_or _ (rwM_64 hV (by omega)) _ (by omega), if_pos hT]
    · rw [if_neg hT, if_pos z00, Int32.or_zero, if_neg hT]) (by
    try dsimp only
    unfold f_X10_way_b34
    dsimp only
    rw [a360, bsome, hV.n, if_pos (le_rf _)])
/-! the search -/
def WF (N N' : Mm) : Prop := Oml (fun a => a = 76) N N' ∧ ∀ j, j ≠ 38 → mi N' 76 j = mi N 76 j
theorem WF.refl : WF N N := ⟨Oml.refl, fun _ _ => rfl⟩
theorem WF.trans (h1 : WF N C) (h2 : WF C T) : WF N T := ⟨h1.1.trans h2.1, fun j hj => (h2.2 j hj).trans (h1.2 j hj)⟩
theorem WF.e80 (h1 : WF N C) : mi C 80 = mi N 80 := h1.1.at (by omega)
def okW (N : Mm) : Prop := mi N 76 38 = -1 ∨ ∃ B : Nat, B ≤ 100000 ∧ mi N 76 38 = Int32.ofNat B
def RelK (K : Nat) (N N' : Mm) : Prop := WF N N' ∧ ((mi N' 76 38 = mi N 76 38 ∧ ml N' 76 39 = ml N 76 39) ∨ ∃ B : Nat, B ≤ 100000 ∧ K ≤ B ∧ mi N' 76 38 = Int32.ofNat B ∧ (mi N 76 38 = -1 ∨ ∃ A : Nat, A ≤ 100000 ∧ mi N 76 38 = Int32.ofNat A ∧ B < A))
theorem RelK.refl {K : Nat} : RelK K N N := ⟨WF.refl, Or.inl ⟨rfl, rfl⟩⟩
theorem nm1 {B : Nat} (hB : B ≤ 100000) : ¬ Int32.ofNat B = -1 := fun e => oN_nn (i := B) (by omega) (by rw [e]; decide)
theorem RelK.trans {K : Nat} (h1 : RelK K N C) (h2 : RelK K C T) : RelK K N T := by
  refine ⟨h1.1.trans h2.1, ?_⟩
  rcases h2.2 with ⟨a, b⟩ | ⟨B, b1, b2, b3, b4⟩
  · rw [a, b]
    exact h1.2
  · rcases h1.2 with ⟨c, -⟩ | ⟨B', c1, c2, c3, c4⟩
    · rw [c] at b4
      exact Or.inr ⟨B, b1, b2, b3, b4⟩
    · refine Or.inr ⟨B, b1, b2, b3, ?_⟩
      rcases b4 with b4 | ⟨A, a1, a2, a3⟩
      · rw [c3] at b4
        exact absurd b4 (nm1 c1)
      · rw [c3] at a2
        have : B' = A := (oN_eq (by omega) (by omega)).mp a2
        rcases c4 with c4 | ⟨D, d1, d2, d3⟩
        · exact Or.inl c4
        · exact Or.inr ⟨D, d1, d2, by omega⟩
theorem RelK.mono {K K' : Nat} (h : RelK K N C) (hk : K' ≤ K) : RelK K' N C := ⟨h.1, h.2.elim Or.inl (fun ⟨B, b1, b2, b3⟩ => Or.inr ⟨B, b1, by omega, b3⟩)⟩
theorem RelK.ok {K : Nat} (h : RelK K N C) (ho : okW N) : okW C := by
  rcases h.2 with ⟨a, -⟩ | ⟨B, b1, -, b3, -⟩
  · unfold okW
    rw [a]
    exact ho
  · exact Or.inr ⟨B, b1, b3⟩
/-- nothing better is found where the bound is reached -/
theorem RelK.sat {K : Nat} (h : RelK K N C) (hK : mi N 76 38 = Int32.ofNat K) (h9 : K ≤ 100000) : mi C 76 38 = Int32.ofNat K ∧ ml C 76 39 = ml N 76 39 := by
  rcases h.2 with ⟨a, b⟩ | ⟨B, b1, b2, b3, b4⟩
  · exact ⟨a.trans hK, b⟩
  · rcases b4 with b4 | ⟨A, a1, a2, a3⟩
    · rw [hK] at b4
      exact absurd b4 (nm1 h9)
    · rw [hK] at a2
      have : K = A := (oN_eq (by omega) (by omega)).mp a2
      omega
def wEnv (N : Mm) (w h : Nat) : Prop := (1 ≤ w ∧ w ≤ 8 ∧ mi N 80 0 = Int32.ofNat w) ∧ (1 ≤ h ∧ h ≤ 6 ∧ mi N 80 1 = Int32.ofNat h)
theorem wEnv.of (h9 : wEnv N w h) (e : WF N C) : wEnv C w h := by
  unfold wEnv
  rw [e.e80]
  exact h9
theorem way_j87 {rec : Nat → Int32 → Int32 → Int32 → Int32 → Int64 → Mm → Option Mm} {m x y c z xs : Nat} {d : Int64} {x8 : Int32} (hE : wEnv N w h) (hm : m < 64) (hz : z < 6) (hb : m.testBit z = true) (hx : x < 8) (hy : y < 6) (hxs : xs < w) : f_X10_ways_j87 rec (Int32.ofNat m) (Int32.ofNat x) (Int32.ofNat y) (Int32.ofNat c) d (Int32.ofNat z) x8 (Int32.ofNat xs) N = (rec 0 (Int32.ofNat (m - 2 ^ z)) (Int32.ofNat (w - 1 - xs)) (Int32.ofNat z) (Int32.ofNat (c + (nab x xs + nab y z) + (w - 1))) ((((10 : Int64) * d) + (Int32.ofNat z).toInt64) + ((6 : Int32) * x8).toInt64) N).bind fun M16 => some (.inl ((x8 + (1 : Int32)), M16)) := by
  unfold f_X10_ways_j87
  have h1 := hE.1
  have a0 : ai N 80 10 0 = some (mi N 80 0) := ai_o (i := 0) (by omega) (by omega)
  have n1 : nab x xs ≤ 100 ∧ nab y z ≤ 100 := by unfold nab; omega
  rw [a0, bsome, m_farOf hx (by omega) (by omega) (by omega), bsome, bsome, h1.2.2, wy_msk m hm z hz hb, oN_pred (by omega) (by omega), oN_sub (by omega) (by omega), oN_A, oN_A]
  by_cases h9 : c < 2000000000
  · rw [oN_pred (by omega) (by omega), show c + (nab x xs + nab y z) + w - 1 = c + (nab x xs + nab y z) + (w - 1) by omega]
  · have e1 : Int32.ofNat (c + (nab x xs + nab y z) + w) - 1 = Int32.ofNat (c + (nab x xs + nab y z) + (w - 1)) := by
      rw [show c + (nab x xs + nab y z) + w = c + (nab x xs + nab y z) + (w - 1) + 1 by omega, Int32.ofNat_add _ 1]
      exact Int32.add_sub_cancel _ _
    rw [e1]
def LBw (w m y c : Nat) : Nat := c + popW m * (w - 1) + (topW m - y)
theorem LB_child {m x y z c xs : Nat} (hm : m < 64) (hz : z < 6) (hb : m.testBit z = true) (hy : y < 6) : LBw w m y c ≤ LBw w (m - 2 ^ z) z (c + (nab x xs + nab y z) + (w - 1)) := by
  have h1 := wy_pop m hm z hz hb
  have h2 := wy_top m hm z hz hb y hy
  unfold LBw
  rw [h1, Nat.succ_mul]
  omega
def HC (n w h : Nat) : Prop := ∀ (m x y c : Nat) (d : Int64) (N : Mm), m < 2 ^ h → popW m < n → x < w → y < 6 → c + 40 * popW m ≤ 1000 → wEnv N w h → okW N → ∃ N', R_X10_ways n 0 (Int32.ofNat m) (Int32.ofNat x) (Int32.ofNat y) (Int32.ofNat c) d N = some N' ∧ RelK (LBw w m y c) N N'
theorem two64 (hh : h ≤ 6) {m : Nat} (hm : m < 2 ^ h) : m < 64 := Nat.lt_of_lt_of_le hm (Nat.pow_le_pow_right (i := h) (j := 6) (by decide) hh)
/-- a row not yet driven, from an end -/
theorem way_child {n m x y c z xs : Nat} {d : Int64} {x8 : Int32} (hC : HC n w h) (hm : m < 2 ^ h) (hp : popW m < n + 1) (hz : z < h) (hb : m.testBit z = true) (hx : x < w) (hy : y < 6) (hxs : xs < w) (hc : c + 40 * popW m ≤ 1000) (hE : wEnv N w h) (ho : okW N) : ∃ N', f_X10_ways_j87 (R_X10_ways n) (Int32.ofNat m) (Int32.ofNat x) (Int32.ofNat y) (Int32.ofNat c) d (Int32.ofNat z) x8 (Int32.ofNat xs) N = some (.inl (x8 + 1, N')) ∧ RelK (LBw w (m - 2 ^ z) z (c + (nab x xs + nab y z) + (w - 1))) N N' := by
  have h1 := hE.1
  have h2 := hE.2
  have h64 := two64 h2.2.1 hm
  have p1 := wy_pop m h64 z (by omega) hb
  have n1 : nab x xs ≤ 8 ∧ nab y z ≤ 6 := by unfold nab; omega
  obtain ⟨N', e1, e2⟩ := hC (m - 2 ^ z) (w - 1 - xs) z (c + (nab x xs + nab y z) + (w - 1)) ((((10 : Int64) * d) + (Int32.ofNat z).toInt64) + ((6 : Int32) * x8).toInt64) N (Nat.lt_of_le_of_lt (Nat.sub_le _ _) hm) (by omega) (by omega) (by omega) (by omega) hE ho
  rw [way_j87 hE h64 (by omega) hb (by omega) hy hxs, e1, bsome]
  exact ⟨N', rfl, e2⟩
/-- both ends of a row -/
theorem way_ends {n m x y c z : Nat} {d : Int64} (hC : HC n w h) (hm : m < 2 ^ h) (hp : popW m < n + 1) (hz : z < h) (hb : m.testBit z = true) (hx : x < w) (hy : y < 6) (hc : c + 40 * popW m ≤ 1000) (hE : wEnv N w h) (ho : okW N) : ∃ N', whl fu (f_X10_ways_b64 (R_X10_ways n) (Int32.ofNat m) (Int32.ofNat x) (Int32.ofNat y) (Int32.ofNat c) d (Int32.ofNat z)) (0, N) = some N' ∧ RelK (LBw w m y c) N N' := by
  have h1 := hE.1
  have h64 := two64 hE.2.2.1 hm
  obtain ⟨N1, e1, r1⟩ := way_child (x8 := 0) (xs := 0) (d := d) hC hm hp hz hb hx hy (by omega) hc hE ho
  have r1' := r1.mono (LB_child (x := x) (xs := 0) (w := w) (c := c) h64 (by have := hE.2.2.1; omega) hb hy)
  have hE1 := hE.of r1.1
  obtain ⟨N2, e2, r2⟩ := way_child (x8 := 1) (xs := w - 1) (d := d) hC hm hp hz hb hx hy (by omega) hc hE1 (r1.ok ho)
  have r2' := r2.mono (LB_child (x := x) (xs := w - 1) (w := w) (c := c) h64 (by have := hE.2.2.1; omega) hb hy)
  refine ⟨N2, ?_, r1'.trans r2'⟩
  have a0 : ai N1 80 10 0 = some (mi N1 80 0) := ai_o (i := 0) (by omega) (by omega)
  show whl (999997 + 1 + 1 + 1) _ _ = _
  rw [whl_s (s' := (1, N1)) (by
    unfold f_X10_ways_b64
    dsimp only
    rw [if_neg (show ¬ (2 : Int32) ≤ 0 by decide), if_pos rfl]
    exact e1), whl_s (s' := (2, N2)) (by
    unfold f_X10_ways_b64
    dsimp only
    rw [if_neg (show ¬ (2 : Int32) ≤ 1 by decide), if_neg z10, a0, bsome, hE1.1.2.2, oN_pred (by omega) (by omega)]
    exact e2)]
  exact whl_e (by unfold f_X10_ways_b64; dsimp only; rw [if_pos (by decide)])
theorem way_C (n : Nat) : HC n w h := by
  induction n with
  | zero => intro m x y c d N hm hp; omega
  | succ n ih =>
    intro m x y c d N hm hp hx hy hc hE ho
    have h1 := hE.1
    have h2 := hE.2
    have h64 := two64 h2.2.1 hm
    have pt := wy_pt m h64
    have hK : LBw w m y c ≤ 100000 := by
      unfold LBw
      have : popW m * (w - 1) ≤ 6 * 8 := Nat.mul_le_mul pt.1 (by omega)
      omega
    show ∃ N', fb_X10_ways (R_X10_ways n) (Int32.ofNat m) (Int32.ofNat x) (Int32.ofNat y) (Int32.ofNat c) d N = some N' ∧ _
    have hj : (mi N 76 38 = -1 ∨ ∃ A : Nat, A ≤ 100000 ∧ mi N 76 38 = Int32.ofNat A ∧ c < A) → ∃ N', f_X10_ways_j18 (R_X10_ways n) (Int32.ofNat m) (Int32.ofNat x) (Int32.ofNat y) (Int32.ofNat c) d N = some N' ∧ RelK (LBw w m y c) N N' := fun hA => by
      unfold f_X10_ways_j18
      by_cases hm0 : m = 0
      · subst hm0
        rw [if_pos (show Int32.ofNat 0 = 0 from rfl)]
        refine ⟨_, rfl, ⟨⟨oml_sl (oml_si Oml.refl rfl) rfl, fun j hj => (show mi (sI N 76 38 (Int32.ofNat c)) 76 j = mi N 76 j from mi_sI_o hj)⟩, Or.inr ⟨c, by omega, ?_, (show mi (sI N 76 38 (Int32.ofNat c)) 76 38 = Int32.ofNat c from mi_sI_k), hA⟩⟩⟩
        unfold LBw
        rw [wy_z.1, wy_z.2]
        omega
      · rw [if_neg (show ¬ Int32.ofNat m = 0 from fun e => hm0 ((oN_eq (i := m) (j := 0) (by omega) (by omega)).mp e))]
        obtain ⟨N', e1, e2⟩ := whl_ex (f := f_X10_ways_b38 (R_X10_ways n) (Int32.ofNat m) (Int32.ofNat x) (Int32.ofNat y) (Int32.ofNat c) d) (fun z st => ∃ N1, st = (Int32.ofNat z, N1) ∧ RelK (LBw w m y c) N N1) (fun N1 => RelK (LBw w m y c) N N1) h fu (0, N) (by show h < 1000000; omega) ⟨N, rfl, RelK.refl⟩ (by
          rintro z st hz ⟨N1, rfl, hR⟩
          have hE1 := hE.of hR.1
          have a1 : ai N1 80 10 1 = some (mi N1 80 1) := ai_o (i := 1) (by omega) (by omega)
          refine Or.inl ?_
          unfold f_X10_ways_b38
          dsimp only
          rw [a1, bsome, hE1.2.2.2, if_neg (nle hz (by omega)), wy_bit m h64 z (by omega), oN_S]
          by_cases hb : m.testBit z = true
          · rw [if_pos hb, if_neg z10]
            obtain ⟨N2, p1, p2⟩ := way_ends (d := d) ih hm hp hz hb hx hy hc hE1 (hR.ok ho)
            rw [p1, bsome]
            exact ⟨_, rfl, N2, rfl, hR.trans p2⟩
          · rw [if_neg hb, if_pos z00]
            exact ⟨_, rfl, N1, rfl, hR⟩) (by
          rintro st ⟨N1, rfl, hR⟩
          have hE1 := hE.of hR.1
          have a1 : ai N1 80 10 1 = some (mi N1 80 1) := ai_o (i := 1) (by omega) (by omega)
          refine ⟨N1, ?_, hR⟩
          unfold f_X10_ways_b38
          dsimp only
          rw [a1, bsome, hE1.2.2.2, if_pos (le_rf _)])
        rw [show whl fu (f_X10_ways_b38 (R_X10_ways n) (Int32.ofNat m) (Int32.ofNat x) (Int32.ofNat y) (Int32.ofNat c) d) (0, N) = some N' from e1]
        exact ⟨N', rfl, e2⟩
    unfold fb_X10_ways
    rcases ho with h9 | ⟨B, b1, b2⟩
    · rw [if_pos h9]
      exact hj (Or.inl h9)
    · rw [b2, if_neg (nm1 b1)]
      by_cases hcB : c < B
      · rw [if_pos ((oN_lt (by omega) (by omega)).mpr hcB)]
        exact hj (Or.inr ⟨B, b1, b2, hcB⟩)
      · rw [if_neg (fun z => hcB ((oN_lt (by omega) (by omega)).mp z))]
        exact ⟨N, rfl, RelK.refl⟩
end WA
