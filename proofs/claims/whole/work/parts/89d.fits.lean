/-! level 3: fits -/
section FI
variable {k : Nat} {M : Mm} {q : Nat → Nat} {w h : Nat} {r : Nat → Int32} {C C' T N : Mm}
theorem gd_n {v : Int32} {S S' : Nat → Prop} {M1 M2 : Mm} {fc : Option (Int32 × Mm)} {fm : Mm → Option (Int32 × Mm)} (h : RR M M q) (r : RM k M) (hO : Om S M M1) (hO2 : Om S' (sI M1 76 0 0) M2) (hS : ∀ a, S a → frC q a ∧ frT a) (hS' : ∀ a, S' a → frC q a ∧ frT a) (h1 : fc = some (v, M1)) (h2 : fm M1 = some (v, M2)) : GdN k fc fm := by
  have hI1 : INV k M1 := ⟨⟨q, h.om hO hO (fun a ha => (hS a ha).1) (fun a ha => (hS a ha).2)⟩, r.of hO.1 (fun a ha => hO.at (fun hs => yr_fr ha (hS a hs).2))⟩
  have hI2 := hI1.q1
  have h3 : RR M1 M1 q := h.om hO hO (fun a ha => (hS a ha).1) (fun a ha => (hS a ha).2)
  have h4 : RR (sI M1 76 0 0) (sI M1 76 0 0) q := by
    refine h3.same (KCx.low h3.1 rfl (fun a ha => mi_sI_ne (by omega))) ⟨fun a k hk => ?_, mi_sI_ne (by omega), mi_sI_ne (by omega), mi_sI_o (by omega), mi_sI_o (by omega), mi_sI_o (by omega)⟩
    by_cases ha : a = 76
    · subst ha
      exact mi_sI_o (by unfold kt at hk; omega)
    · rw [mi_sI_ne ha]
  exact ⟨v, M1, M2, h1, h2, ⟨q, h4.om hO2 hO2 (fun a ha => (hS' a ha).1) (fun a ha => (hS' a ha).2)⟩, hI2.2.of hO2.1 (fun a ha => hO2.at (fun hs => yr_fr ha (hS' a hs).2))⟩
def LB (C : Mm) (b n : Nat) (lc : Nat → Nat) (lv : Nat → Int32) : Prop := n ≤ 6 ∧ mi C b 3 = Int32.ofNat n ∧ ∀ i, i < n → lc i < 48 ∧ mi C (b + 1) i = Int32.ofNat (lc i) ∧ mi C (b + 2) i = lv i
def LT9 (N : Mm) (n : Nat) (lc : Nat → Nat) (lv : Nat → Int32) : Prop := mi N 76 30 = Int32.ofNat n ∧ ∀ i, i < n → mi N (121 + i) 0 = Int32.ofNat (lc i % 8) ∧ mi N (121 + i) 1 = Int32.ofNat (lc i / 8) ∧ mi N (121 + i) 2 = lv i
theorem bk_of {b : Nat} (hT : RGt T) (h : RBk C T b) : ∃ (n : Nat) (lc : Nat → Nat) (lv : Nat → Int32), LB C b n lc lv ∧ LT9 T n lc lv := by
  obtain ⟨n, h1, h2, h3, h4⟩ := h
  have t1 := hT.1
  have t2 := hT.2.1
  have key : ∀ i, i < n → (8 * (mi T (121 + i) 1).toNatClampNeg + (mi T (121 + i) 0).toNatClampNeg < 48 ∧ mi C (b + 1) i = Int32.ofNat (8 * (mi T (121 + i) 1).toNatClampNeg + (mi T (121 + i) 0).toNatClampNeg) ∧ mi C (b + 2) i = mi T (121 + i) 2) ∧ (mi T (121 + i) 0 = Int32.ofNat ((8 * (mi T (121 + i) 1).toNatClampNeg + (mi T (121 + i) 0).toNatClampNeg) % 8) ∧ mi T (121 + i) 1 = Int32.ofNat ((8 * (mi T (121 + i) 1).toNatClampNeg + (mi T (121 + i) 0).toNatClampNeg) / 8)) := fun i hi => by
    obtain ⟨x, y, v, c1, c2, c3, c4, c5, c6, c7, c8⟩ := h4 i hi
    rw [c6, c7, oN_nat (by omega), oN_nat (by omega), c8]
    exact ⟨⟨by omega, c4, c5⟩, by rw [show (8 * y + x) % 8 = x by omega], by rw [show (8 * y + x) / 8 = y by omega]⟩
  exact ⟨n, fun i => 8 * (mi T (121 + i) 1).toNatClampNeg + (mi T (121 + i) 0).toNatClampNeg, fun i => mi T (121 + i) 2, ⟨h1, h2, fun i hi => (key i hi).1⟩, h3, fun i hi => ⟨(key i hi).2.1, (key i hi).2.2, rfl⟩⟩
def nl (d : Nat → Int32) : Nat → Nat
  | 0 => 0
  | n + 1 => if n = 0 then 0 else if d (nl d n) ≤ d n then nl d n else n
theorem nl_lt {d : Nat → Int32} : ∀ n, nl d (n + 1) < n + 1 := by
  intro n
  induction n with
  | zero => exact Nat.lt_succ_self 0
  | succ n ih =>
    show (if n + 1 = 0 then 0 else if d (nl d (n + 1)) ≤ d (n + 1) then nl d (n + 1) else n + 1) < n + 1 + 1
    rw [if_neg (by omega)]
    by_cases h1 : d (nl d (n + 1)) ≤ d (n + 1)
    · rw [if_pos h1]; omega
    · rw [if_neg h1]; omega
theorem nl_s {d : Nat → Int32} {n : Nat} (hn : ¬ n = 0) : nl d (n + 1) = if d (nl d n) ≤ d n then nl d n else n := if_neg hn
theorem k_nearLine {b n c : Nat} {lc : Nat → Nat} {lv : Nat → Int32} (hB : LB C b n lc lv) (hc : c < 48) : f_X1_nearestLine b (Int32.ofNat c) C = some (if n = 0 then -1 else Int32.ofNat (nl (fun j => fr c (lc j)) n)) := by
  obtain ⟨h6, h3, hL⟩ := hB
  have e := whl_eq (f := f_X1_nearestLine_b7 b (Int32.ofNat c) C) (e := if n = 0 then -1 else Int32.ofNat (nl (fun j => fr c (lc j)) n)) n fu (fun j => (if j = 0 then -1 else Int32.ofNat (nl (fun j => fr c (lc j)) j), if j = 0 then 0 else fr c (lc (nl (fun j => fr c (lc j)) j)), Int32.ofNat j)) (by show n < 1000000; omega) (fun j hj => by
    try dsimp only
    obtain ⟨l1, l2, -⟩ := hL j hj
    unfold f_X1_nearestLine_b7 f_X1_nearestLine_j47
    dsimp only
    rw [h3, if_neg (nle hj (by omega)), if_neg (show ¬ (6 : Int32) ≤ Int32.ofNat j from nle (n := 6) (by omega) (by omega)), ai_o (by omega) (by omega), bsome, l2, k_far hc l1, bsome, if_neg (show ¬ j + 1 = 0 by omega), if_neg (show ¬ j + 1 = 0 by omega), oN_S]
    by_cases h0 : j = 0
    · rw [if_pos h0, if_pos rfl, h0]
      rfl
    · have hn : ¬ Int32.ofNat (nl (fun j => fr c (lc j)) j) = -1 := by
        have : nl (fun j => fr c (lc j)) j < j := by
          obtain ⟨i, rfl⟩ : ∃ i, j = i + 1 := ⟨j - 1, by omega⟩
          exact nl_lt i
        exact fun e => oN_nn (i := nl (fun j => fr c (lc j)) j) (by omega) (by rw [e]; decide)
      rw [if_neg h0, if_neg h0, if_neg hn, nl_s h0]
      try dsimp only
      by_cases h1 : fr c (lc (nl (fun j => fr c (lc j)) j)) ≤ fr c (lc j)
      · rw [if_pos h1, if_pos h1]
      · rw [if_neg h1, if_neg h1]) (by
    try dsimp only
    unfold f_X1_nearestLine_b7
    dsimp only
    rw [h3, if_pos (le_rf _)])
  unfold f_X1_nearestLine
  rw [show whl fu (f_X1_nearestLine_b7 b (Int32.ofNat c) C) (-1, 0, 0) = _ from e]
  rfl
theorem ar_120 {i : Nat} (hi : i < 6) : ar 120 6 (Int32.ofNat i) = some (121 + i) := by
  rw [ar_o hi (by omega)]
theorem m_nearest {n i : Nat} {x1 x2 : Int32} {lc : Nat → Nat} {lv : Nat → Int32} (hV : VR w h (mi N 196)) (hi : i < rN (mi N 196)) (h6 : n + 1 ≤ 6) (hc : ∀ j, j < n + 1 → lc j < 48) (hL : LT9 N (n + 1) lc lv) : whl fu (f_X10_fits_b92 x1 x2 (Int32.ofNat i) N) (0, 1) = some (Int32.ofNat (nl (fun j => fr (rC (mi N 196) i) (lc j)) (n + 1))) := by
  obtain ⟨h3, hL⟩ := hL
  have h60 := hV.n60
  have h48 := hV.c48 hi
  refine whl_eq (f := f_X10_fits_b92 x1 x2 (Int32.ofNat i) N) (e := Int32.ofNat (nl (fun j => fr (rC (mi N 196) i) (lc j)) (n + 1))) n fu (fun t => (Int32.ofNat (nl (fun j => fr (rC (mi N 196) i) (lc j)) (t + 1)), Int32.ofNat (t + 1))) (by show n < 1000000; omega) (fun t ht => ?_) ?_
  · try dsimp only
    have hlt := nl_lt (d := fun j => fr (rC (mi N 196) i) (lc j)) t
    have hst := nl_s (d := fun j => fr (rC (mi N 196) i) (lc j)) (n := t + 1) (by omega)
    generalize hu : nl (fun j => fr (rC (mi N 196) i) (lc j)) (t + 1) = u at hlt hst
    have q3 : ∀ X a j, j < 3 → ai X a 3 (Int32.ofNat j) = some (mi X a j) := fun X a j hj => ai_o hj (by omega)
    unfold f_X10_fits_b92
    dsimp only
    rw [h3, if_neg (nle (by omega) (by omega)), m_of0 LN196 (by omega), bsome, m_of1 LN196 (by omega), bsome, ar_120 (by omega), bsome, show ai N (121 + (t + 1)) 3 0 = _ from q3 N _ 0 (by omega), bsome, bsome, show ai N (121 + (t + 1)) 3 1 = _ from q3 N _ 1 (by omega), bsome]
    rw [(hL (t + 1) (by omega)).1, (hL (t + 1) (by omega)).2.1, (hV.xy hi).1, (hV.xy hi).2, m_far_c h48 (hc _ (by omega)), bsome, bsome, bsome]
    rw [ar_120 (show u < 6 by omega), bsome, show ai N (121 + u) 3 0 = _ from q3 N _ 0 (by omega), bsome, bsome, show ai N (121 + u) 3 1 = _ from q3 N _ 1 (by omega), bsome]
    rw [(hL u (by omega)).1, (hL u (by omega)).2.1, m_far_c h48 (hc _ (by omega)), bsome, oN_S, hst]
    by_cases h1 : fr (rC (mi N 196) i) (lc u) ≤ fr (rC (mi N 196) i) (lc (t + 1))
    · rw [if_pos h1, if_pos h1]
    · rw [if_neg h1, if_neg h1]
  · try dsimp only
    unfold f_X10_fits_b92
    dsimp only
    rw [h3, if_pos (le_rf _)]
/-- what counts for a size, to which line -/
abbrev fiP (r : Nat → Int32) (s : Int32) (k : Nat) : Prop := Th r k ∧ ¬ r (6 * k + 2) < s
def fiF (r : Nat → Int32) (lc : Nat → Nat) (n k : Nat) : Nat := nl (fun j => fr (rC r k) (lc j)) n
def fitF (c v : Nat → Int32) : Nat → Int32
  | 0 => 1
  | j + 1 => if fitF c v j = 0 then 0 else if c j = v j then 1 else 0
theorem fitF_01 {c v : Nat → Int32} : ∀ j, fitF c v j = 0 ∨ fitF c v j = 1 := by
  intro j
  cases j with
  | zero => exact Or.inr rfl
  | succ j =>
    unfold fitF
    by_cases h1 : fitF c v j = 0
    · exact Or.inl (if_pos h1)
    · rw [if_neg h1]
      by_cases h2 : c j = v j
      · exact Or.inr (if_pos h2)
      · exact Or.inl (if_neg h2)
theorem fitF_0 {c v : Nat → Int32} {j : Nat} (h : fitF c v j = 0) : ∀ d, fitF c v (j + d) = 0 := by
  intro d
  induction d with
  | zero => exact h
  | succ d ih => exact if_pos ih
theorem colN_s {P : Nat → Prop} [DecidablePred P] {f : Nat → Nat} {d n : Nat} : colN P f d (n + 1) = if P n ∧ f n = d then colN P f d n + 1 else colN P f d n := rfl
theorem k_fitting {a b n : Nat} {s : Int32} {lc : Nat → Nat} {lv : Nat → Int32} (hB : LB C b n lc lv) (hV : VR w h r) (hW : RW C a r) (hl : LN (b + 3) = 6) (hab : ¬ (a ≤ b + 3 ∧ b + 3 ≤ a + 7)) : ∃ C', f_X1_isFitting b a s C = some (fitF (fun j => colN (fiP r s) (fiF r lc n) j (rN r)) lv n, C') ∧ Om (fun x => x = b + 3) C C' := by
  have h6 := hB.1
  have h60 := hV.n60
  have fr9 : ∀ {C1 : Mm}, Om (fun x => x = b + 3) C C1 → LB C1 b n lc lv ∧ RW C1 a r := fun {C1} hO => by
    refine ⟨⟨hB.1, by rw [hO.at (by omega)]; exact hB.2.1, fun i hi => ?_⟩, hW.frame (fun j hj => hO.at (by omega))⟩
    rw [hO.at (by omega), hO.at (by omega)]
    exact hB.2.2 i hi
  obtain ⟨C1, e1, o1, q1⟩ := whl_ex (f := f_X1_isFitting_b10 b a s) (fun i st => ∃ C1, st = (Int32.ofNat i, C1) ∧ Om (fun x => x = b + 3) C C1 ∧ ∀ j, j < n → mi C1 (b + 3) j = colN (fiP r s) (fiF r lc n) j i) (fun C1 => Om (fun x => x = b + 3) C C1 ∧ ∀ j, j < n → mi C1 (b + 3) j = colN (fiP r s) (fiF r lc n) j (rN r)) (rN r) fu (0, sA C (b + 3) (upto (LN (b + 3)) (fun _ => 0) (mi C (b + 3)))) (by show rN r < 1000000; omega) ⟨_, rfl, Om.sA rfl, fun j hj => by rw [mi_sA, hl, upto_lt (by omega)]; rfl⟩ (by
    rintro i st hi ⟨C1, rfl, hO, hq⟩
    obtain ⟨hB1, hW1⟩ := fr9 hO
    have h48 := hV.c48 hi
    have no : ¬ fiP r s i → ∀ j, j < n → mi C1 (b + 3) j = colN (fiP r s) (fiF r lc n) j (i + 1) := fun z j hj => by rw [colN_s, if_neg (fun y => z y.1)]; exact hq j hj
    refine Or.inl ?_
    unfold f_X1_isFitting_b10
    dsimp only
    rw [hW1.n, hV.n, if_neg (nle hi (by omega)), k_isAsked hV hW1 hi, bsome, oN_S]
    by_cases h1 : Th r i
    · rw [if_pos h1, if_neg z10, k_sizeOf hV hW1 hi, bsome]
      by_cases h2 : r (6 * i + 2) < s
      · rw [if_pos h2]
        exact ⟨_, rfl, C1, rfl, hO, no (fun z => z.2 h2)⟩
      · rw [if_neg h2, k_cellOf hV hW1 hi, bsome, k_nearLine hB1 h48, bsome]
        by_cases h0 : n = 0
        · rw [if_pos h0, if_pos (show (-1 : Int32) < 0 by decide)]
          exact ⟨_, rfl, C1, rfl, hO, fun j hj => by omega⟩
        · have hlt : fiF r lc n i < n := by
            obtain ⟨m, rfl⟩ : ∃ m, n = m + 1 := ⟨n - 1, by omega⟩
            exact nl_lt m
          have hff : nl (fun j => fr (rC r i) (lc j)) n = fiF r lc n i := rfl
          rw [if_neg h0, hff, if_neg (oN_nn (by omega)), if_neg (show ¬ (6 : Int32) ≤ Int32.ofNat (fiF r lc n i) from nle (n := 6) (by omega) (by omega)), ai_o (by omega) (by omega), bsome, wi_o (by omega) (by omega), bsome]
          refine ⟨_, rfl, _, rfl, om_si hO rfl, fun j hj => ?_⟩
          rw [mi_sI, u1_at, colN_s]
          by_cases e : j = fiF r lc n i
          · rw [if_pos e, if_pos ⟨⟨h1, h2⟩, e.symm⟩, ← e, hq j hj]
          · rw [if_neg e, if_neg (fun z => e z.2.symm), hq j hj]
    · rw [if_neg h1, if_pos z00]
      exact ⟨_, rfl, C1, rfl, hO, no (fun z => h1 z.1)⟩) (by
    rintro st ⟨C1, rfl, hO, hq⟩
    obtain ⟨hB1, hW1⟩ := fr9 hO
    refine ⟨C1, ?_, hO, hq⟩
    unfold f_X1_isFitting_b10
    dsimp only
    rw [hW1.n, hV.n, if_pos (le_rf _)])
  obtain ⟨hB1, hW1⟩ := fr9 o1
  generalize hcn : (fun j => colN (fiP r s) (fiF r lc n) j (rN r)) = cn
  have q2 : ∀ j, j < n → mi C1 (b + 3) j = cn j := fun j hj => by rw [← hcn]; exact q1 j hj
  obtain ⟨e, e2, e3⟩ := whl_ex (f := f_X1_isFitting_b77 b C1) (fun j st => st = Int32.ofNat j ∧ fitF cn lv j = 1) (fun e => (e = Sum.inr () ∧ fitF cn lv n = 1) ∨ (e = Sum.inl () ∧ fitF cn lv n = 0)) n fu 0 (by show n < 1000000; omega) ⟨rfl, rfl⟩ (by
    rintro j st hj ⟨rfl, hf⟩
    have hs : fitF cn lv (j + 1) = if cn j = lv j then 1 else 0 := (show fitF cn lv (j + 1) = if fitF cn lv j = 0 then 0 else if cn j = lv j then 1 else 0 from rfl).trans (if_neg (by rw [hf]; decide))
    unfold f_X1_isFitting_b77
    rw [hB1.2.1, if_neg (nle hj (by omega)), if_neg (show ¬ (6 : Int32) ≤ Int32.ofNat j from nle (n := 6) (by omega) (by omega)), ai_o (by omega) (by omega), bsome, ai_o (by omega) (by omega), bsome, q2 j hj, (hB1.2.2 j hj).2.2]
    by_cases hc : cn j = lv j
    · rw [if_pos hc, oN_S]
      exact Or.inl ⟨_, rfl, rfl, hs.trans (if_pos hc)⟩
    · rw [if_neg hc]
      have := fitF_0 (hs.trans (if_neg hc)) (n - (j + 1))
      rw [show j + 1 + (n - (j + 1)) = n by omega] at this
      exact Or.inr ⟨_, rfl, Or.inr ⟨rfl, this⟩⟩) (by
    rintro st ⟨rfl, hf⟩
    refine ⟨_, ?_, Or.inl ⟨rfl, hf⟩⟩
    unfold f_X1_isFitting_b77
    rw [hB1.2.1, if_pos (le_rf _)])
  unfold f_X1_isFitting g_X1_isFitting
  rw [s_fill (by rw [hl]; omega), bsome, show whl fu (f_X1_isFitting_b10 b a s) (0, sA C (b + 3) (upto (LN (b + 3)) (fun _ => 0) (mi C (b + 3)))) = some C1 from e1, bsome, show whl fu (f_X1_isFitting_b77 b C1) 0 = some e from e2, bsome]
  rcases e3 with ⟨rfl, hf⟩ | ⟨rfl, hf⟩
  · rw [hf]
    exact ⟨C1, rfl, o1⟩
  · rw [hf]
    exact ⟨C1, rfl, o1⟩
/-- the sizes that fit -/
def fiA (r : Nat → Int32) (lc : Nat → Nat) (lv : Nat → Int32) (n : Nat) : Nat → Int32
  | 0 => 0
  | t + 1 => fiA r lc lv n t ||| (if fitF (fun j => colN (fiP r (Int32.ofNat (t + 1))) (fiF r lc n) j (rN r)) lv n = 0 then (0 : Int32) else ((1 : Int32) <<< ((Int32.ofNat (t + 1) - (1 : Int32)) &&& 31)))
theorem k_fits {a b n : Nat} {lc : Nat → Nat} {lv : Nat → Int32} (hB : LB C b n lc lv) (hV : VR w h r) (hW : RW C a r) (hl : LN (b + 3) = 6) (hab : ¬ (a ≤ b + 3 ∧ b + 3 ≤ a + 7)) : ∃ C', f_X1_fittingSizes b a C = some (fiA r lc lv n 9, C') ∧ Om (fun x => x = b + 3) C C' := by
  obtain ⟨e, e1, C', rfl, e3⟩ := whl_ex (f := f_X1_fittingSizes_b4 b a) (fun t st => ∃ C1, st = (fiA r lc lv n t, Int32.ofNat (t + 1), C1) ∧ Om (fun x => x = b + 3) C C1) (fun e => ∃ C1, e = (fiA r lc lv n 9, C1) ∧ Om (fun x => x = b + 3) C C1) 9 fu (0, 1, C) (by decide) ⟨C, rfl, Om.refl⟩ (by
    rintro t st ht ⟨C1, rfl, hO⟩
    have hB1 : LB C1 b n lc lv := ⟨hB.1, by rw [hO.at (by omega)]; exact hB.2.1, fun i hi => by rw [hO.at (by omega), hO.at (by omega)]; exact hB.2.2 i hi⟩
    obtain ⟨C2, p1, p2⟩ := k_fitting (s := Int32.ofNat (t + 1)) hB1 hV (hW.frame (fun j hj => hO.at (by omega))) hl hab
    unfold f_X1_fittingSizes_b4
    dsimp only
    rw [if_neg (show ¬ (9 : Int32) < Int32.ofNat (t + 1) from fun z => lnle z ((oN_le (i := t + 1) (j := 9) (by omega) (by omega)).mpr (by omega))), p1, bsome]
    dsimp only
    rw [show Int32.ofNat (t + 1) + 1 = Int32.ofNat (t + 1 + 1) from oN_S]
    exact Or.inl ⟨_, rfl, C2, rfl, hO.trans p2⟩) (by
    rintro st ⟨C1, rfl, hO⟩
    refine ⟨_, ?_, C1, rfl, hO⟩
    unfold f_X1_fittingSizes_b4
    dsimp only
    rw [if_pos (show (9 : Int32) < Int32.ofNat (9 + 1) by decide)])
  unfold f_X1_fittingSizes
  rw [show whl fu (f_X1_fittingSizes_b4 b a) (0, 1, C) = _ from e1, bsome]
  exact ⟨C', rfl, e3⟩
theorem m_fits {n : Nat} {lc : Nat → Nat} {lv : Nat → Int32} (hV : VR w h (mi N 196)) (h6 : n ≤ 6) (hc : ∀ j, j < n → lc j < 48) (hL : LT9 N n lc lv) : ∃ N', whl fu f_X10_fits_b9 (0, 1, N) = some (fiA (mi N 196) lc lv n 9, N') ∧ Om (fun x => x = 274) N N' := by
  have h60 := hV.n60
  obtain ⟨e, e1, N', rfl, e3⟩ := whl_ex (f := f_X10_fits_b9) (fun t st => ∃ N1, st = (fiA (mi N 196) lc lv n t, Int32.ofNat (t + 1), N1) ∧ Om (fun x => x = 274) N N1) (fun e => ∃ N1, e = (fiA (mi N 196) lc lv n 9, N1) ∧ Om (fun x => x = 274) N N1) 9 fu (0, 1, N) (by decide) ⟨N, rfl, Om.refl⟩ (by
    rintro t st ht ⟨N1, rfl, hO⟩
    have fr9 : ∀ {N2 : Mm}, Om (fun x => x = 274) N N2 → LT9 N2 n lc lv ∧ mi N2 196 = mi N 196 := fun {N2} hO => ⟨⟨by rw [hO.at (by omega)]; exact hL.1, fun i hi => by rw [hO.at (by omega)]; exact hL.2 i hi⟩, hO.at (by omega)⟩
    -- to nothing
    obtain ⟨N2, p1, p2, p3⟩ := whl_ex (f := f_X10_fits_b17 (fiA (mi N 196) lc lv n t) (Int32.ofNat (t + 1))) (fun j st => ∃ N2, st = (Int32.ofNat j, N2) ∧ Om (fun x => x = 274) N N2 ∧ ∀ i, i < j → mi N2 274 i = 0) (fun N2 => Om (fun x => x = 274) N N2 ∧ ∀ i, i < n → mi N2 274 i = 0) n fu (0, N1) (by show n < 1000000; omega) ⟨N1, rfl, hO, fun i hi => by omega⟩ (by
      rintro j st hj ⟨N2, rfl, hO2, hz⟩
      unfold f_X10_fits_b17
      dsimp only
      rw [(fr9 hO2).1.1, if_neg (nle hj (by omega)), wi_o (by omega) (by omega), bsome, oN_S]
      refine Or.inl ⟨_, rfl, _, rfl, om_si hO2 rfl, fun i hi => ?_⟩
      rw [mi_sI, u1_at]
      by_cases e : i = j
      · rw [if_pos e]
      · rw [if_neg e]; exact hz i (by omega)) (by
      rintro st ⟨N2, rfl, hO2, hz⟩
      refine ⟨N2, ?_, hO2, hz⟩
      unfold f_X10_fits_b17
      dsimp only
      rw [(fr9 hO2).1.1, if_pos (le_rf _)])
    -- the stones to their lines
    obtain ⟨N3, s1, s2, s3⟩ : ∃ N3, whl fu (f_X10_fits_b40 (fiA (mi N 196) lc lv n t) (Int32.ofNat (t + 1))) (0, N2) = some N3 ∧ Om (fun x => x = 274) N N3 ∧ ∀ j, j < n → mi N3 274 j = colN (fiP (mi N 196) (Int32.ofNat (t + 1))) (fiF (mi N 196) lc n) j (rN (mi N 196)) := by
      by_cases h0 : n = 0
      · refine ⟨N2, ?_, p2, fun j hj => by omega⟩
        show whl (999999 + 1) _ _ = _
        refine whl_e ?_
        unfold f_X10_fits_b40
        dsimp only
        rw [a196 (by omega) (fr9 p2).2 (show (360 : Int32) = Int32.ofNat 360 from rfl), bsome, (fr9 p2).1.1, h0]
        by_cases h9 : mi N 196 360 ≤ 0
        · rw [if_pos h9]
        · rw [if_neg h9, if_pos (show Int32.ofNat 0 ≤ 0 by decide)]
      · obtain ⟨m, rfl⟩ : ∃ m, n = m + 1 := ⟨n - 1, by omega⟩
        exact whl_ex (f := f_X10_fits_b40 (fiA (mi N 196) lc lv (m + 1) t) (Int32.ofNat (t + 1))) (fun i st => ∃ N3, st = (Int32.ofNat i, N3) ∧ Om (fun x => x = 274) N N3 ∧ ∀ j, j < m + 1 → mi N3 274 j = colN (fiP (mi N 196) (Int32.ofNat (t + 1))) (fiF (mi N 196) lc (m + 1)) j i) (fun N3 => Om (fun x => x = 274) N N3 ∧ ∀ j, j < m + 1 → mi N3 274 j = colN (fiP (mi N 196) (Int32.ofNat (t + 1))) (fiF (mi N 196) lc (m + 1)) j (rN (mi N 196))) (rN (mi N 196)) fu (0, N2) (by show rN (mi N 196) < 1000000; omega) ⟨N2, rfl, p2, fun j hj => p3 j hj⟩ (by
          rintro i st hi ⟨N3, rfl, hO3, hq⟩
          obtain ⟨hL3, e196⟩ := fr9 hO3
          have hV3 : VR w h (mi N3 196) := by rw [e196]; exact hV
          have no : ¬ fiP (mi N 196) (Int32.ofNat (t + 1)) i → ∀ j, j < m + 1 → mi N3 274 j = colN (fiP (mi N 196) (Int32.ofNat (t + 1))) (fiF (mi N 196) lc (m + 1)) j (i + 1) := fun z j hj => by rw [colN_s, if_neg (fun y => z y.1)]; exact hq j hj
          refine Or.inl ?_
          unfold f_X10_fits_b40
          dsimp only
          rw [a196 (by omega) e196 (show (360 : Int32) = Int32.ofNat 360 from rfl), bsome, hV.n, if_neg (nle hi (by omega)), hL3.1, if_neg (show ¬ Int32.ofNat (m + 1) ≤ 0 from nle (n := m + 1) (i := 0) (by omega) (by omega)), m_isThere LN196 hV3 (by rw [e196]; exact hi), bsome, e196, oN_S]
          by_cases h1 : Th (mi N 196) i
          · rw [if_pos h1, if_neg z10, m_of2 LN196 (by omega), bsome, e196]
            by_cases h2 : Int32.ofNat (t + 1) ≤ mi N 196 (6 * i + 2)
            · have hlt : fiF (mi N 196) lc (m + 1) i < m + 1 := nl_lt m
              rw [if_pos h2, m_nearest (n := m) hV3 (by rw [e196]; exact hi) h6 hc hL3, bsome, e196]
              have hff : nl (fun j => fr (rC (mi N 196) i) (lc j)) (m + 1) = fiF (mi N 196) lc (m + 1) i := rfl
              rw [hff, ai_o (by omega) (by omega), bsome, wi_o (by omega) (by omega), bsome]
              refine ⟨_, rfl, _, rfl, om_si hO3 rfl, fun j hj => ?_⟩
              rw [mi_sI, u1_at, colN_s]
              by_cases e : j = fiF (mi N 196) lc (m + 1) i
              · rw [if_pos e, if_pos ⟨⟨h1, fun z => lnle z h2⟩, e.symm⟩, ← e, hq j hj]
              · rw [if_neg e, if_neg (fun z => e z.2.symm), hq j hj]
            · rw [if_neg h2]
              exact ⟨_, rfl, N3, rfl, hO3, no (fun z => z.2 (Int32.not_le.mp h2))⟩
          · rw [if_neg h1, if_pos z00]
            exact ⟨_, rfl, N3, rfl, hO3, no (fun z => h1 z.1)⟩) (by
          rintro st ⟨N3, rfl, hO3, hq⟩
          obtain ⟨hL3, e196⟩ := fr9 hO3
          refine ⟨N3, ?_, hO3, hq⟩
          unfold f_X10_fits_b40
          dsimp only
          rw [a196 (by omega) e196 (show (360 : Int32) = Int32.ofNat 360 from rfl), bsome, hV.n, if_pos (le_rf _)])
    -- alike
    generalize hcn : (fun j => colN (fiP (mi N 196) (Int32.ofNat (t + 1))) (fiF (mi N 196) lc n) j (rN (mi N 196))) = cn
    have s4 : ∀ j, j < n → mi N3 274 j = cn j := fun j hj => by rw [← hcn]; exact s3 j hj
    have e5 : whl fu (f_X10_fits_b219 (fiA (mi N 196) lc lv n t) (Int32.ofNat (t + 1)) N3) (1, 0) = some (fitF cn lv n) := by
      refine whl_eq (f := f_X10_fits_b219 (fiA (mi N 196) lc lv n t) (Int32.ofNat (t + 1)) N3) (e := fitF cn lv n) n fu (fun j => (fitF cn lv j, Int32.ofNat j)) (by show n < 1000000; omega) (fun j hj => ?_) ?_
      · try dsimp only
        have hs : fitF cn lv (j + 1) = if fitF cn lv j = 0 then 0 else if cn j = lv j then 1 else 0 := rfl
        unfold f_X10_fits_b219 f_X10_fits_j255
        dsimp only
        rw [(fr9 s2).1.1, if_neg (nle hj (by omega)), hs, oN_S]
        by_cases h1 : fitF cn lv j = 0
        · rw [if_pos h1, if_pos h1]
        · rw [if_neg h1, if_neg h1, ai_o (by omega) (by omega), bsome, ar_120 (by omega), bsome, show ai N3 (121 + j) 3 2 = some (mi N3 (121 + j) 2) from ai_o (i := 2) (by omega) (by omega), bsome, s4 j hj, ((fr9 s2).1.2 j hj).2.2]
          by_cases h2 : cn j = lv j
          · rw [if_pos h2, if_pos h2]
          · rw [if_neg h2, if_neg h2]
      · try dsimp only
        unfold f_X10_fits_b219
        dsimp only
        rw [(fr9 s2).1.1, if_pos (le_rf _)]
    unfold f_X10_fits_b9 f_X10_fits_j214
    dsimp only
    rw [if_neg (show ¬ (10 : Int32) ≤ Int32.ofNat (t + 1) from nle (n := 10) (by omega) (by omega)), show whl fu (f_X10_fits_b17 (fiA (mi N 196) lc lv n t) (Int32.ofNat (t + 1))) (0, N1) = some N2 from p1, bsome, s1, bsome, e5, bsome, show Int32.ofNat (t + 1) + 1 = Int32.ofNat (t + 1 + 1) from oN_S]
    refine Or.inl ⟨_, rfl, N3, ?_, s2⟩
    rw [← hcn]
    rfl) (by
    rintro st ⟨N1, rfl, hO⟩
    refine ⟨_, ?_, N1, rfl, hO⟩
    unfold f_X10_fits_b9
    dsimp only
    rw [if_pos (show (10 : Int32) ≤ Int32.ofNat (9 + 1) by decide)])
  exact ⟨N', e1, e3⟩
theorem G_fits (hI : INV k M) : GdN k (f_X9_fits M) f_X10_fits := by
  obtain ⟨⟨q, h⟩, r⟩ := id hI
  have hn := ids_n h.1
  obtain ⟨n, lc, lv, hB, hL⟩ := bk_of h.gd.1 h.2.2.2.2.2.2.2.1
  have hl : LN (q 4 + 3) = 6 := by
    rcases hn.2.2.2.2.2 with e | e <;> rw [e] <;> decide
  obtain ⟨C', p1, p2⟩ := k_fits hB h.wd.1 h.wd.2.1 hl (by omega)
  have s1 : ∀ a, a = q 4 + 3 → frC q a ∧ frT a := fun a ha => by
    have := h.1.2.2
    unfold isL at this
    unfold frC frT
    omega
  have e1 : mi (sI C' 76 0 0) 196 = mi M 196 := (mi_sI_ne (by omega)).trans (p2.at (by omega))
  have hL1 : LT9 (sI C' 76 0 0) n lc lv := by
    refine ⟨by rw [mi_sI_o (by omega), p2.at (by omega)]; exact hL.1, fun i hi => ?_⟩
    rw [mi_sI_ne (by have := hB.1; omega), p2.at (by omega)]
    exact hL.2 i hi
  obtain ⟨N', n1, n2⟩ := m_fits (N := sI C' 76 0 0) (by rw [e1]; exact h.wd.1) hB.1 (fun j hj => (hB.2.2 j hj).1) hL1
  rw [e1] at n1
  refine gd_n (v := fiA (mi M 196) lc lv n 9) h r p2 n2 s1 (fun a ha => frT_of h.1 (by omega)) ?_ ?_
  · unfold f_X9_fits
    rw [h.b, h.w, p1]
    rfl
  · unfold f_X10_fits
    rw [n1]
    rfl
end FI
