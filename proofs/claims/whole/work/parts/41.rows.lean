/-! level 3: rows of the reference, worlds of the class, sums over them -/
def rN (r : Nat → Int32) : Nat := (r 360).toNatClampNeg
def nX (r : Nat → Int32) (k : Nat) : Nat := (r (6 * k)).toNatClampNeg
def nY (r : Nat → Int32) (k : Nat) : Nat := (r (6 * k + 1)).toNatClampNeg
def rC (r : Nat → Int32) (k : Nat) : Nat := 8 * nY r k + nX r k
def VS (w h : Nat) (r : Nat → Int32) (k : Nat) : Prop := (nX r k < w ∧ r (6 * k) = Int32.ofNat (nX r k)) ∧ (nY r k < h ∧ r (6 * k + 1) = Int32.ofNat (nY r k)) ∧ (∃ s : Nat, 1 ≤ s ∧ s ≤ 9 ∧ r (6 * k + 2) = Int32.ofNat s) ∧ (∃ p : Nat, p < 4 ∧ r (6 * k + 4) = Int32.ofNat p)
/-- a row as the reference keeps it in a field of w times h -/
def VR (w h : Nat) (r : Nat → Int32) : Prop := (1 ≤ w ∧ w ≤ 8 ∧ 1 ≤ h ∧ h ≤ 6) ∧ (rN r ≤ 60 ∧ r 360 = Int32.ofNat (rN r)) ∧ (∀ k, k < rN r → VS w h r k) ∧ (((r 361).toNatClampNeg < w ∧ r 361 = Int32.ofNat (r 361).toNatClampNeg) ∧ ((r 362).toNatClampNeg < h ∧ r 362 = Int32.ofNat (r 362).toNatClampNeg)) ∧ (∀ c, c < 48 → r (367 + c) = 0 ∨ r (367 + c) = 1)
abbrev Th (r : Nat → Int32) (k : Nat) : Prop := r (6 * k + 4) = 0 ∧ ¬ r (367 + rC r k) = 1
abbrev Li (r : Nat → Int32) (c k : Nat) : Prop := r (6 * k + 4) = 0 ∧ rC r k = c
def lyIn (r : Nat → Int32) (c : Nat) : Int32 := sm (rN r) (fun k => if Li r c k then 1 else 0)
def lyN (r : Nat → Int32) : Int32 := sm (rN r) (fun k => if r (6 * k + 4) = 0 then 1 else 0)
def onS (r : Nat → Int32) : Int32 := sm (rN r) (fun k => if r (6 * k + 4) = 1 then r (6 * k + 2) else 0)
def whN (r : Nat → Int32) (p : Int32) : Int32 := sm (rN r) (fun k => if r (6 * k + 4) = p then 1 else 0)
def walS (r : Nat → Int32) : Int32 := sm (rN r) (fun k => if r (6 * k + 4) = 2 then r (6 * k + 2) else 0)
def hpIn (r : Nat → Int32) (c : Nat) : Int32 := sm (rN r) (fun k => if r (6 * k + 4) = 3 ∧ r (6 * k + 5) = Int32.ofNat c then 1 else 0)
def thN (r : Nat → Int32) : Int32 := sm (rN r) (fun k => if Th r k then 1 else 0)
def thS (r : Nat → Int32) : Int32 := sm (rN r) (fun k => if Th r k then r (6 * k + 2) else 0)
def szIn (r : Nat → Int32) (c : Nat) : Int32 := sm (rN r) (fun k => if Li r c k then r (6 * k + 2) else 0)
/-- the world at w in M is the row r (but for load, walled, heaped) -/
def RW (M : Mm) (w : Nat) (r : Nat → Int32) : Prop :=
  (mi M w 8 = r 360 ∧ mi M w 9 = r 363 ∧ mi M w 10 = 8 * r 362 + r 361 ∧ mi M w 12 = r 364 ∧ mi M w 13 = r 365 ∧ mi M w 14 = r 366 ∧ mi M w 7 = lyN r) ∧
  (∀ k, k < rN r → mi M (w + 1) k = Int32.ofNat (rC r k) ∧ mi M (w + 2) k = r (6 * k + 2) ∧ mi M (w + 3) k = r (6 * k + 3) ∧ mi M (w + 4) k = r (6 * k + 4)) ∧
  (∀ c, c < 48 → mi M (w + 5) c = r (367 + c) ∧ mi M (w + 7) c = lyIn r c)
def RLd (M : Mm) (w : Nat) (r : Nat → Int32) : Prop := mi M w 11 = onS r
def RH (M : Mm) (w : Nat) (r : Nat → Int32) : Prop := mi M w 15 = walS r ∧ ∀ c, c < 48 → mi M (w + 6) c = hpIn r c
theorem kcol : ∀ c : Nat, c < 48 → (Int32.ofNat c &&& (7 : Int32)) = Int32.ofNat (c % 8) := by decide +kernel
theorem krow : ∀ c : Nat, c < 48 → (Int32.ofNat c >>> ((3 : Int32) &&& 31)) = Int32.ofNat (c / 8) := by decide +kernel
theorem kmod : ∀ c : Nat, c < 48 → (Int32.ofNat c - Int32.ofNat c / (8 : Int32) * (8 : Int32)) = Int32.ofNat (c % 8) := by decide +kernel
theorem kdiv : ∀ c : Nat, c < 48 → (Int32.ofNat c / (8 : Int32)) = Int32.ofNat (c / 8) := by decide +kernel
theorem kcel {x y : Nat} : (8 : Int32) * Int32.ofNat y + Int32.ofNat x = Int32.ofNat (8 * y + x) := by
  rw [Int32.ofNat_add, Int32.ofNat_mul]; rfl
section QV
variable {w h : Nat} {r : Nat → Int32} {k c : Nat}
theorem VR.n60 (hV : VR w h r) : rN r ≤ 60 := hV.2.1.1
theorem VR.n (hV : VR w h r) : r 360 = Int32.ofNat (rN r) := hV.2.1.2
theorem VR.s (hV : VR w h r) (hk : k < rN r) : VS w h r k := hV.2.2.1 k hk
theorem VR.c48 (hV : VR w h r) (hk : k < rN r) : rC r k < 48 := by
  have h1 := (hV.s hk).1.1
  have h2 := (hV.s hk).2.1.1
  have h3 := hV.1
  unfold rC
  omega
theorem VR.cell (hV : VR w h r) (hk : k < rN r) : (8 : Int32) * r (6 * k + 1) + r (6 * k) = Int32.ofNat (rC r k) := by
  rw [(hV.s hk).1.2, (hV.s hk).2.1.2, kcel]
  rfl
theorem VR.cx (hV : VR w h r) (hk : k < rN r) : rC r k % 8 = nX r k := by
  have h1 := (hV.s hk).1.1
  have h3 := hV.1
  unfold rC
  omega
theorem VR.cy (hV : VR w h r) (hk : k < rN r) : rC r k / 8 = nY r k := by
  have h1 := (hV.s hk).1.1
  have h3 := hV.1
  unfold rC
  omega
theorem VR.lost (hV : VR w h r) (hc : c < 48) : (if r (367 + c) = 0 then (0 : Int32) else 1) = if r (367 + c) = 1 then 1 else 0 := by
  rcases hV.2.2.2.2 c hc with e | e <;> rw [e] <;> rfl
theorem VR.n1 (hV : VR w h r) : rN r < 2147483648 := by have := hV.n60; omega
end QV
/-! the reference's questions over a row -/
section QM
variable {M : Mm} {a w h k c : Nat}
theorem m_of0 (hL : LN a = 415) (hk : k < 60) : f_X10_of a (Int32.ofNat k) 0 M = some (mi M a (6 * k)) := by
  show (ai M a (LN a) ((6 : Int32) * Int32.ofNat k + Int32.ofNat 0)).bind _ = _
  rw [ix6, hL, ai_o (by omega) (by omega)]
  rfl
theorem m_of1 (hL : LN a = 415) (hk : k < 60) : f_X10_of a (Int32.ofNat k) 1 M = some (mi M a (6 * k + 1)) := by
  show (ai M a (LN a) ((6 : Int32) * Int32.ofNat k + Int32.ofNat 1)).bind _ = _
  rw [ix6, hL, ai_o (by omega) (by omega)]
  rfl
theorem m_of2 (hL : LN a = 415) (hk : k < 60) : f_X10_of a (Int32.ofNat k) 2 M = some (mi M a (6 * k + 2)) := by
  show (ai M a (LN a) ((6 : Int32) * Int32.ofNat k + Int32.ofNat 2)).bind _ = _
  rw [ix6, hL, ai_o (by omega) (by omega)]
  rfl
theorem m_of3 (hL : LN a = 415) (hk : k < 60) : f_X10_of a (Int32.ofNat k) 3 M = some (mi M a (6 * k + 3)) := by
  show (ai M a (LN a) ((6 : Int32) * Int32.ofNat k + Int32.ofNat 3)).bind _ = _
  rw [ix6, hL, ai_o (by omega) (by omega)]
  rfl
theorem m_of4 (hL : LN a = 415) (hk : k < 60) : f_X10_of a (Int32.ofNat k) 4 M = some (mi M a (6 * k + 4)) := by
  show (ai M a (LN a) ((6 : Int32) * Int32.ofNat k + Int32.ofNat 4)).bind _ = _
  rw [ix6, hL, ai_o (by omega) (by omega)]
  rfl
theorem m_of5 (hL : LN a = 415) (hk : k < 60) : f_X10_of a (Int32.ofNat k) 5 M = some (mi M a (6 * k + 5)) := by
  show (ai M a (LN a) ((6 : Int32) * Int32.ofNat k + Int32.ofNat 5)).bind _ = _
  rw [ix6, hL, ai_o (by omega) (by omega)]
  rfl
theorem m_a360 (hL : LN a = 415) : ai M a (LN a) 360 = some (mi M a 360) := by rw [hL]; exact ai_o (i := 360) (by omega) (by omega)
theorem m_a361 (hL : LN a = 415) : ai M a (LN a) 361 = some (mi M a 361) := by rw [hL]; exact ai_o (i := 361) (by omega) (by omega)
theorem m_a362 (hL : LN a = 415) : ai M a (LN a) 362 = some (mi M a 362) := by rw [hL]; exact ai_o (i := 362) (by omega) (by omega)
theorem m_a363 (hL : LN a = 415) : ai M a (LN a) 363 = some (mi M a 363) := by rw [hL]; exact ai_o (i := 363) (by omega) (by omega)
theorem m_a364 (hL : LN a = 415) : ai M a (LN a) 364 = some (mi M a 364) := by rw [hL]; exact ai_o (i := 364) (by omega) (by omega)
theorem m_a365 (hL : LN a = 415) : ai M a (LN a) 365 = some (mi M a 365) := by rw [hL]; exact ai_o (i := 365) (by omega) (by omega)
theorem m_a366 (hL : LN a = 415) : ai M a (LN a) 366 = some (mi M a 366) := by rw [hL]; exact ai_o (i := 366) (by omega) (by omega)
theorem m_isLying (hL : LN a = 415) (hk : k < 60) : f_X10_isLying a (Int32.ofNat k) M = some (if mi M a (6 * k + 4) = 0 then 1 else 0) := by
  unfold f_X10_isLying g_X10_isLying
  rw [m_of4 hL hk]
  exact rB_b
theorem m_cellOf (hL : LN a = 415) (hV : VR w h (mi M a)) (hk : k < rN (mi M a)) : f_X10_cellOf a (Int32.ofNat k) M = some (Int32.ofNat (rC (mi M a) k)) := by
  have h6 := hV.n60
  unfold f_X10_cellOf
  rw [m_of1 hL (by omega), m_of0 hL (by omega), ← hV.cell hk]
  rfl
theorem m_isLost (hL : LN a = 415) (hc : c < 48) : f_X10_isLost a (Int32.ofNat c) M = some (if mi M a (367 + c) = 1 then 1 else 0) := by
  unfold f_X10_isLost g_X10_isLost
  have e : (367 : Int32) + Int32.ofNat c = Int32.ofNat (367 + c) := by rw [Int32.ofNat_add]; rfl
  rw [e, hL, ai_o (by omega) (by omega)]
  exact rB_b
theorem m_isThere (hL : LN a = 415) (hV : VR w h (mi M a)) (hk : k < rN (mi M a)) : f_X10_isThere a (Int32.ofNat k) M = some (if Th (mi M a) k then 1 else 0) := by
  have h6 := hV.n60
  unfold f_X10_isThere g_X10_isThere
  rw [m_isLying hL (by omega), bsome]
  by_cases h1 : mi M a (6 * k + 4) = 0
  · rw [if_pos h1, if_neg (by decide), m_cellOf hL hV hk, bsome, m_isLost hL (hV.c48 hk), bsome]
    by_cases h2 : mi M a (367 + rC (mi M a) k) = 1
    · rw [if_pos h2, if_neg (by decide), if_neg (fun q => q.2 h2)]; rfl
    · rw [if_neg h2, if_pos rfl, if_pos ⟨h1, h2⟩]; rfl
  · rw [if_neg h1, if_pos rfl, if_neg (fun q => h1 q.1)]; rfl
theorem m_lying (hL : LN a = 415) (hV : VR w h (mi M a))  : f_X10_lying a M = some (lyN (mi M a)) := by
  have h6 := hV.n60
  have e := sum_loop (b := f_X10_lying_b4 a M) (rN (mi M a)) (fun k => if mi M a (6 * k + 4) = 0 then 1 else 0) (by omega) (by
    intro i hi s
    unfold f_X10_lying_b4
    dsimp only
    rw [m_a360 hL, bsome, hV.n, if_neg (nle hi hV.n1)]
    rw [m_isLying hL (by omega), bsome]
    by_cases h1 : mi M a (6 * i + 4) = 0
    · rw [if_pos h1]; rfl
    · rw [if_neg h1]; rfl) (by
    intro s
    unfold f_X10_lying_b4
    dsimp only
    rw [m_a360 hL, bsome, hV.n, if_pos (le_rf _)])
  unfold f_X10_lying
  rw [e]
  rfl
theorem m_lyingIn (hL : LN a = 415) (hV : VR w h (mi M a)) (hc : c < 48) : f_X10_lyingIn a (Int32.ofNat c) M = some (lyIn (mi M a) c) := by
  have h6 := hV.n60
  have e := sum_loop (b := f_X10_lyingIn_b4 a (Int32.ofNat c) M) (rN (mi M a)) (fun k => if Li (mi M a) c k then 1 else 0) (by omega) (by
    intro i hi s
    unfold f_X10_lyingIn_b4
    dsimp only
    rw [m_a360 hL, bsome, hV.n, if_neg (nle hi hV.n1)]
    rw [m_isLying hL (by omega), bsome]
    by_cases h1 : mi M a (6 * i + 4) = 0
    · rw [if_pos h1, if_neg (by decide), m_cellOf hL hV hi, bsome]
      have h48 := hV.c48 hi
      by_cases h2 : rC (mi M a) i = c
      · rw [if_pos (congrArg Int32.ofNat h2), if_pos ⟨h1, h2⟩]
      · rw [if_neg (fun q => h2 ((oN_eq (by omega) (by omega)).mp q)), if_neg (fun q => h2 q.2)]; rfl
    · rw [if_neg h1, if_pos rfl, if_neg (fun q => h1 q.1)]; rfl) (by
    intro s
    unfold f_X10_lyingIn_b4
    dsimp only
    rw [m_a360 hL, bsome, hV.n, if_pos (le_rf _)])
  unfold f_X10_lyingIn
  rw [e]
  rfl
theorem m_sizesIn (hL : LN a = 415) (hV : VR w h (mi M a)) (hc : c < 48) : f_X10_sizesIn a (Int32.ofNat c) M = some (szIn (mi M a) c) := by
  have h6 := hV.n60
  have e := sum_loop (b := f_X10_sizesIn_b4 a (Int32.ofNat c) M) (rN (mi M a)) (fun k => if Li (mi M a) c k then mi M a (6 * k + 2) else 0) (by omega) (by
    intro i hi s
    unfold f_X10_sizesIn_b4
    dsimp only
    rw [m_a360 hL, bsome, hV.n, if_neg (nle hi hV.n1)]
    rw [m_isLying hL (by omega), bsome]
    by_cases h1 : mi M a (6 * i + 4) = 0
    · rw [if_pos h1, if_neg (by decide), m_cellOf hL hV hi, bsome]
      have h48 := hV.c48 hi
      by_cases h2 : rC (mi M a) i = c
      · rw [if_pos (congrArg Int32.ofNat h2), m_of2 hL (by omega), bsome, if_pos ⟨h1, h2⟩]
      · rw [if_neg (fun q => h2 ((oN_eq (by omega) (by omega)).mp q)), if_neg (fun q => h2 q.2)]; rfl
    · rw [if_neg h1, if_pos rfl, if_neg (fun q => h1 q.1)]; rfl) (by
    intro s
    unfold f_X10_sizesIn_b4
    dsimp only
    rw [m_a360 hL, bsome, hV.n, if_pos (le_rf _)])
  unfold f_X10_sizesIn
  rw [e]
  rfl
theorem m_onSledge (hL : LN a = 415) (hV : VR w h (mi M a))  : f_X10_onSledge a M = some (onS (mi M a)) := by
  have h6 := hV.n60
  have e := sum_loop (b := f_X10_onSledge_b4 a M) (rN (mi M a)) (fun k => if mi M a (6 * k + 4) = 1 then mi M a (6 * k + 2) else 0) (by omega) (by
    intro i hi s
    unfold f_X10_onSledge_b4
    dsimp only
    rw [m_a360 hL, bsome, hV.n, if_neg (nle hi hV.n1)]
    rw [m_of4 hL (by omega), bsome]
    by_cases h1 : mi M a (6 * i + 4) = 1
    · rw [if_pos h1, m_of2 hL (by omega), bsome, if_pos h1]
    · rw [if_neg h1, if_neg h1]) (by
    intro s
    unfold f_X10_onSledge_b4
    dsimp only
    rw [m_a360 hL, bsome, hV.n, if_pos (le_rf _)])
  unfold f_X10_onSledge
  rw [e]
  rfl
theorem m_whereMany {p : Int32} (hL : LN a = 415) (hV : VR w h (mi M a))  : f_X10_whereMany a p M = some (whN (mi M a) p) := by
  have h6 := hV.n60
  have e := sum_loop (b := f_X10_whereMany_b4 a p M) (rN (mi M a)) (fun k => if mi M a (6 * k + 4) = p then 1 else 0) (by omega) (by
    intro i hi s
    unfold f_X10_whereMany_b4
    dsimp only
    rw [m_a360 hL, bsome, hV.n, if_neg (nle hi hV.n1)]
    rw [m_of4 hL (by omega), bsome]) (by
    intro s
    unfold f_X10_whereMany_b4
    dsimp only
    rw [m_a360 hL, bsome, hV.n, if_pos (le_rf _)])
  unfold f_X10_whereMany
  rw [e]
  rfl
theorem m_thereN (hL : LN a = 415) (hV : VR w h (mi M a))  : f_X10_thereMany a 0 M = some (thN (mi M a)) := by
  have h6 := hV.n60
  have e := sum_loop (b := f_X10_thereMany_b4 a 0 M) (rN (mi M a)) (fun k => if Th (mi M a) k then 1 else 0) (by omega) (by
    intro i hi s
    unfold f_X10_thereMany_b4
    dsimp only
    rw [m_a360 hL, bsome, hV.n, if_neg (nle hi hV.n1)]
    rw [m_isThere hL hV hi, bsome]
    by_cases h1 : Th (mi M a) i
    · simp [h1]
    · simp [h1]) (by
    intro s
    unfold f_X10_thereMany_b4
    dsimp only
    rw [m_a360 hL, bsome, hV.n, if_pos (le_rf _)])
  unfold f_X10_thereMany
  rw [e]
  rfl
theorem m_thereS (hL : LN a = 415) (hV : VR w h (mi M a))  : f_X10_thereMany a 1 M = some (thS (mi M a)) := by
  have h6 := hV.n60
  have e := sum_loop (b := f_X10_thereMany_b4 a 1 M) (rN (mi M a)) (fun k => if Th (mi M a) k then mi M a (6 * k + 2) else 0) (by omega) (by
    intro i hi s
    unfold f_X10_thereMany_b4
    dsimp only
    rw [m_a360 hL, bsome, hV.n, if_neg (nle hi hV.n1)]
    rw [m_isThere hL hV hi, bsome]
    by_cases h1 : Th (mi M a) i
    · rw [if_pos h1, if_neg (by decide), if_neg (by decide), m_of2 hL (by omega), bsome, if_pos h1]
    · rw [if_neg h1, if_pos rfl, if_neg h1]) (by
    intro s
    unfold f_X10_thereMany_b4
    dsimp only
    rw [m_a360 hL, bsome, hV.n, if_pos (le_rf _)])
  unfold f_X10_thereMany
  rw [e]
  rfl
end QM
/-! the class's questions over a world -/
section QK
variable {M : Mm} {a w h k c : Nat} {r : Nat → Int32}
theorem RW.n (hR : RW M a r) : mi M a 8 = r 360 := hR.1.1
theorem k_isStone (hV : VR w h r) (hR : RW M a r) (hk : k < rN r) : f_X8_isStone a (Int32.ofNat k) M = some 1 := by
  have h6 := hV.n60
  unfold f_X8_isStone g_X8_isStone
  have h9 : ¬ (60 : Int32) ≤ Int32.ofNat k := nle (n := 60) (by omega) (by omega)
  rw [if_neg (oN_nn (by omega)), hR.n, hV.n, if_neg (nle hk hV.n1), if_neg h9]
  rfl
theorem k_isCell (hc : c < 48) : f_X9_isCell (Int32.ofNat c) M = some 1 := by
  unfold f_X9_isCell g_X9_isCell
  have h9 : ¬ (48 : Int32) ≤ Int32.ofNat c := nle (n := 48) (by omega) (by omega)
  rw [if_neg (oN_nn (by omega)), if_neg h9]
  rfl
theorem k_column (hc : c < 48) : f_X9_column (Int32.ofNat c) M = some (Int32.ofNat (c % 8)) := congrArg some (kcol c hc)
theorem k_row (hc : c < 48) : f_X9_row (Int32.ofNat c) M = some (Int32.ofNat (c / 8)) := congrArg some (krow c hc)
theorem k_cellOf (hV : VR w h r) (hR : RW M a r) (hk : k < rN r) : f_X8_cellOf a (Int32.ofNat k) M = some (Int32.ofNat (rC r k)) := by
  have h6 := hV.n60
  unfold f_X8_cellOf
  rw [k_isStone hV hR hk, bsome, if_neg (by decide), ai_o (by omega) (by omega), (hR.2.1 k hk).1]
  rfl
theorem k_sizeOf (hV : VR w h r) (hR : RW M a r) (hk : k < rN r) : f_X8_sizeOf a (Int32.ofNat k) M = some (r (6 * k + 2)) := by
  have h6 := hV.n60
  unfold f_X8_sizeOf
  rw [k_isStone hV hR hk, bsome, if_neg (by decide), ai_o (by omega) (by omega), (hR.2.1 k hk).2.1]
  rfl
theorem k_yearOf (hV : VR w h r) (hR : RW M a r) (hk : k < rN r) : f_X8_yearOf a (Int32.ofNat k) M = some (r (6 * k + 3)) := by
  have h6 := hV.n60
  unfold f_X8_yearOf
  rw [k_isStone hV hR hk, bsome, if_neg (by decide), ai_o (by omega) (by omega), (hR.2.1 k hk).2.2.1]
  rfl
theorem k_placeOf (hV : VR w h r) (hR : RW M a r) (hk : k < rN r) : f_X8_placeOf a (Int32.ofNat k) M = some (r (6 * k + 4)) := by
  have h6 := hV.n60
  unfold f_X8_placeOf
  rw [k_isStone hV hR hk, bsome, if_neg (by decide), ai_o (by omega) (by omega), (hR.2.1 k hk).2.2.2]
  rfl
theorem k_isLost (hV : VR w h r) (hR : RW M a r) (hc : c < 48) : f_X8_isLost a (Int32.ofNat c) M = some (if r (367 + c) = 1 then 1 else 0) := by
  unfold f_X8_isLost g_X8_isLost
  rw [k_isCell hc, bsome, if_neg (by decide), ai_o (by omega) (by omega), (hR.2.2 c hc).1, bsome]
  rcases hV.2.2.2.2 c hc with e | e <;> rw [e] <;> rfl
theorem k_lyingIn (hR : RW M a r) (hc : c < 48) : f_X8_lyingIn a (Int32.ofNat c) M = some (lyIn r c) := by
  unfold f_X8_lyingIn
  rw [k_isCell hc, bsome, if_neg (by decide), ai_o (by omega) (by omega), (hR.2.2 c hc).2]
  rfl
theorem k_heapedIn (hR : RH M a r) (hc : c < 48) : f_X8_heapedIn a (Int32.ofNat c) M = some (hpIn r c) := by
  unfold f_X8_heapedIn
  rw [k_isCell hc, bsome, if_neg (by decide), ai_o (by omega) (by omega), hR.2 c hc]
  rfl
theorem k_isAsked (hV : VR w h r) (hR : RW M a r) (hk : k < rN r) : f_X8_isAsked a (Int32.ofNat k) M = some (if Th r k then 1 else 0) := by
  unfold f_X8_isAsked g_X8_isAsked
  rw [k_placeOf hV hR hk, bsome]
  by_cases h1 : r (6 * k + 4) = 0
  · rw [if_pos h1, k_cellOf hV hR hk, bsome, k_isLost hV hR (hV.c48 hk), bsome]
    by_cases h2 : r (367 + rC r k) = 1
    · rw [if_pos h2, if_neg (by decide), if_neg (fun q => q.2 h2)]; rfl
    · rw [if_neg h2, if_pos rfl, if_pos ⟨h1, h2⟩]; rfl
  · rw [if_neg h1, if_neg (fun q => h1 q.1)]; rfl
theorem k_liesIn (hV : VR w h r) (hR : RW M a r) (hk : k < rN r) (hc : c < 48) : f_X8_liesIn a (Int32.ofNat k) (Int32.ofNat c) M = some (if Li r c k then 1 else 0) := by
  have h48 := hV.c48 hk
  unfold f_X8_liesIn g_X8_liesIn
  rw [k_placeOf hV hR hk, bsome]
  by_cases h1 : r (6 * k + 4) = 0
  · rw [if_pos h1, k_cellOf hV hR hk, bsome]
    by_cases h2 : rC r k = c
    · rw [if_pos (congrArg Int32.ofNat h2), if_pos ⟨h1, h2⟩]; rfl
    · rw [if_neg (fun q => h2 ((oN_eq (by omega) (by omega)).mp q)), if_neg (fun q => h2 q.2)]; rfl
  · rw [if_neg h1, if_neg (fun q => h1 q.1)]; rfl
theorem k_howMany {p : Int32} (hV : VR w h r) (hR : RW M a r)  : f_X8_howMany a p M = some (whN r p) := by
  have h6 := hV.n60
  have e := sum_loop (b := f_X8_howMany_b4 a p M) (rN r) (fun k => if r (6 * k + 4) = p then 1 else 0) (by omega) (by
    intro i hi s
    unfold f_X8_howMany_b4
    dsimp only
    rw [hR.n, hV.n, if_neg (nle hi hV.n1)]
    rw [k_placeOf hV hR hi, bsome]) (by
    intro s
    unfold f_X8_howMany_b4
    dsimp only
    rw [hR.n, hV.n, if_pos (le_rf _)])
  unfold f_X8_howMany
  rw [e]
  rfl
theorem k_howManyAsked  (hV : VR w h r) (hR : RW M a r)  : f_X8_howManyAsked a M = some (thN r) := by
  have h6 := hV.n60
  have e := sum_loop (b := f_X8_howManyAsked_b4 a M) (rN r) (fun k => if Th r k then 1 else 0) (by omega) (by
    intro i hi s
    unfold f_X8_howManyAsked_b4
    dsimp only
    rw [hR.n, hV.n, if_neg (nle hi hV.n1)]
    rw [k_isAsked hV hR hi, bsome]
    by_cases h1 : Th r i
    · rw [if_pos h1]; rfl
    · rw [if_neg h1]; rfl) (by
    intro s
    unfold f_X8_howManyAsked_b4
    dsimp only
    rw [hR.n, hV.n, if_pos (le_rf _)])
  unfold f_X8_howManyAsked
  rw [e]
  rfl
theorem k_sizesAsked  (hV : VR w h r) (hR : RW M a r)  : f_X8_sizesAsked a M = some (thS r) := by
  have h6 := hV.n60
  have e := sum_loop (b := f_X8_sizesAsked_b4 a M) (rN r) (fun k => if Th r k then r (6 * k + 2) else 0) (by omega) (by
    intro i hi s
    unfold f_X8_sizesAsked_b4
    dsimp only
    rw [hR.n, hV.n, if_neg (nle hi hV.n1)]
    rw [k_isAsked hV hR hi, bsome]
    by_cases h1 : Th r i
    · rw [if_pos h1, if_neg (by decide), k_sizeOf hV hR hi, if_pos h1]; rfl
    · rw [if_neg h1, if_pos rfl, if_neg h1]) (by
    intro s
    unfold f_X8_sizesAsked_b4
    dsimp only
    rw [hR.n, hV.n, if_pos (le_rf _)])
  unfold f_X8_sizesAsked
  rw [e]
  rfl
theorem k_sizesIn  (hV : VR w h r) (hR : RW M a r) (hc : c < 48) : f_X8_sizesIn a (Int32.ofNat c) M = some (szIn r c) := by
  have h6 := hV.n60
  have e := sum_loop (b := f_X8_sizesIn_b4 a (Int32.ofNat c) M) (rN r) (fun k => if Li r c k then r (6 * k + 2) else 0) (by omega) (by
    intro i hi s
    unfold f_X8_sizesIn_b4
    dsimp only
    rw [hR.n, hV.n, if_neg (nle hi hV.n1)]
    rw [k_liesIn hV hR hi hc, bsome]
    by_cases h1 : Li r c i
    · rw [if_pos h1, if_neg (by decide), k_sizeOf hV hR hi, if_pos h1]; rfl
    · rw [if_neg h1, if_pos rfl, if_neg h1]) (by
    intro s
    unfold f_X8_sizesIn_b4
    dsimp only
    rw [hR.n, hV.n, if_pos (le_rf _)])
  unfold f_X8_sizesIn
  rw [e]
  rfl
end QK
