/-! level 3: mix -/
theorem oN_div {a b : Nat} (ha : a < 2147483648) (hb : b < 2147483648) : Int32.ofNat a / Int32.ofNat b = Int32.ofNat (a / b) := by
  have h1 : a / b ≤ a := Nat.div_le_self a b
  apply Int32.toInt_inj.mp
  rw [Int32.toInt_div, oN_int ha, oN_int hb, oN_int (by omega), ← Int.ofNat_tdiv]
  generalize a / b = c at h1 ⊢
  exact Int.bmod_eq_of_le_mul_two (by omega) (by omega)
theorem oN_pred {a : Nat} (h1 : 1 ≤ a) (h : a < 2147483648) : Int32.ofNat a - 1 = Int32.ofNat (a - 1) := by
  apply Int32.toInt_inj.mp
  rw [Int32.toInt_sub, oN_int h, oN_int (by omega)]
  have h3 : (1 : Int32).toInt = 1 := rfl
  rw [h3]
  have e2 : (a : Int) - 1 = ((a - 1 : Nat) : Int) := by omega
  rw [e2]
  exact Int.bmod_eq_of_le_mul_two (by omega) (by omega)
theorem up_div {a s : Nat} (h1 : 1 ≤ s) (h : a + s < 2147483648) : ((Int32.ofNat a + Int32.ofNat s) - 1) / Int32.ofNat s = Int32.ofNat ((a + s - 1) / s) := by
  rw [← Int32.ofNat_add, oN_pred (by omega) h]
  exact oN_div (by omega) (by omega)
theorem mx_t0 : ∀ l : Nat, l < 7 → ∀ h : Nat, h < 4 → ¬ l + 3 * h = 0 → (((0 : Int32) + Int32.ofNat (l + 3 * h)) - 1) / Int32.ofNat (l + 3 * h) = 0 := by decide +kernel
section MX
variable {k : Nat} {M : Mm} {q : Nat → Nat}
theorem clr_le {T : Mm} {r : Nat → Int32} {w h i : Nat} (hT : RGt T) (hV : VR w h r) (hi : i < rN r) : ∃ f : Nat, f ≤ 270 ∧ clrO T r i = Int32.ofNat f := by
  obtain ⟨⟨x1, x2⟩, -, ⟨s, s1, s2, s3⟩, -⟩ := hV.s hi
  have h8 := hV.1
  obtain ⟨v5, -, b5, e5⟩ := hT.2.2.2.2.1
  obtain ⟨v9, -, b9, e9⟩ := hT.2.2.2.2.2.2.2.2
  unfold clrO
  by_cases hA : mi T 80 4 < r (6 * i + 2)
  · refine ⟨v9 * s, ?_, by rw [if_pos hA, e9, s3, Int32.ofNat_mul]⟩
    exact Nat.le_trans (Nat.mul_le_mul b9 s2) (by decide)
  · refine ⟨2 * v5 * (nX r i + 1) + s, ?_, by rw [if_neg hA, e5, s3, x2, oN_S, Int32.ofNat_add (2 * v5 * (nX r i + 1)), Int32.ofNat_mul (2 * v5), Int32.ofNat_mul 2]; rfl⟩
    have := Nat.mul_le_mul (show 2 * v5 ≤ 18 by omega) (show nX r i + 1 ≤ 8 by omega)
    omega
theorem clrA_le {T : Mm} {r : Nat → Int32} {w h : Nat} {s : Int32} (hT : RGt T) (hV : VR w h r) : ∃ n : Nat, n ≤ 16200 ∧ clrA T r s = Int32.ofNat n := by
  obtain ⟨n, n1, n2⟩ := sm_nn (B := 270) (F := fun i => if Th r i ∧ ¬ r (6 * i + 2) < s then clrO T r i else 0) (rN r) (fun i hi => by
    show ∃ f : Nat, f ≤ 270 ∧ (if Th r i ∧ ¬ r (6 * i + 2) < s then clrO T r i else 0) = Int32.ofNat f
    by_cases hc : Th r i ∧ ¬ r (6 * i + 2) < s
    · rw [if_pos hc]; exact clr_le hT hV hi
    · exact ⟨0, by omega, by rw [if_neg hc]; rfl⟩)
  have := hV.n60
  exact ⟨n, by omega, n2⟩
theorem m_clearsAll {N : Mm} {w h : Nat} (hV : VR w h (mi N 196)) : f_X10_clearsAll N = some (clrA N (mi N 196) 1) := by
  have h6 := hV.n60
  have a360 : ai N 196 415 360 = some (mi N 196 360) := ai_o (i := 360) (by omega) (by omega)
  have e := sum_loop (b := f_X10_clearsAll_b4 N) (rN (mi N 196)) (fun i => if Th (mi N 196) i ∧ ¬ mi N 196 (6 * i + 2) < 1 then clrO N (mi N 196) i else 0) (by omega) (by
    intro i hi acc
    have h1 : ¬ mi N 196 (6 * i + 2) < 1 := by
      obtain ⟨-, -, ⟨s, s1, s2, s3⟩, -⟩ := hV.s hi
      rw [s3]
      exact fun z => lnle z ((oN_le (i := 1) (by omega) (by omega)).mpr s1)
    unfold f_X10_clearsAll_b4
    dsimp only
    rw [a360, bsome, hV.n, if_neg (nle hi hV.n1), m_isThere LN196 hV hi, bsome]
    by_cases hT1 : Th (mi N 196) i
    · rw [if_pos hT1, if_neg z10, m_clearOf LN196 (by omega), bsome, if_pos ⟨hT1, h1⟩]
    · rw [if_neg hT1, if_pos z00, if_neg (fun z => hT1 z.1)]) (by
    intro acc
    unfold f_X10_clearsAll_b4
    dsimp only
    rw [a360, bsome, hV.n, if_pos (le_rf _)])
  unfold f_X10_clearsAll
  rw [e]
  rfl
/-- lads, horses: the better of s and (l, h) -/
def mxS (ca m a b : Int32) (l : Nat) (s : Int32 × Int32 × Int32) (h : Nat) : Int32 × Int32 × Int32 :=
  if l + 3 * h = 0 then s else if m < ((ca + Int32.ofNat (l + 3 * h)) - 1) / Int32.ofNat (l + 3 * h) then s else
  if s.1 = -1 ∨ (((ca + Int32.ofNat (l + 3 * h)) - 1) / Int32.ofNat (l + 3 * h)) * (Int32.ofNat l * a + Int32.ofNat h * b) < s.1 then ((((ca + Int32.ofNat (l + 3 * h)) - 1) / Int32.ofNat (l + 3 * h)) * (Int32.ofNat l * a + Int32.ofNat h * b), Int32.ofNat l, Int32.ofNat h) else s
def mxI (ca m a b : Int32) (l : Nat) (s : Int32 × Int32 × Int32) : Nat → Int32 × Int32 × Int32
  | 0 => s
  | h + 1 => mxS ca m a b l (mxI ca m a b l s h) h
def mxO (ca m a b : Int32) : Nat → Int32 × Int32 × Int32
  | 0 => (-1, 0, 0)
  | l + 1 => mxI ca m a b l (mxO ca m a b l) 4
theorem oN_3 {l h : Nat} : Int32.ofNat l + (3 : Int32) * Int32.ofNat h = Int32.ofNat (l + 3 * h) := by
  rw [Int32.ofNat_add, Int32.ofNat_mul]; rfl
/-- all clean: nothing, by none -/
theorem m_mix0 {N : Mm} {m : Nat} {a b x4 : Int32} (hmm : m < 2147483648) : whl fu (f_X10_mix_b80 (Int32.ofNat m) a b x4 0 N) (-1, 0, 0, 0) = some (0, 0, 0) := by
  have z6 : ∀ l h : Nat, l < 7 → h < 4 → f_X10_mix_b90 (Int32.ofNat m) a b x4 0 (Int32.ofNat l) N (if l = 0 ∧ h = 0 then -1 else 0, 0, 0, Int32.ofNat h) = some (.inl (0, 0, 0, Int32.ofNat (h + 1))) := fun l h hl hh => by
    have hm : ¬ Int32.ofNat m < 0 := oN_nn hmm
    unfold f_X10_mix_b90 f_X10_mix_j124 f_X10_mix_j150 f_X10_mix_j172
    dsimp only
    rw [if_neg (show ¬ (4 : Int32) ≤ Int32.ofNat h from nle (n := 4) hh (by omega)), oN_3, oN_S]
    by_cases hz : l + 3 * h = 0
    · have e1 : l = 0 := by omega
      have e2 : h = 0 := by omega
      have e0 : Int32.ofNat (l + 3 * h) = 0 := by rw [hz]; rfl
      rw [if_pos e0, if_pos e0, if_neg (show ¬ (0 : Int32) < 0 by decide), if_neg hm, if_pos (show (if l = 0 ∧ h = 0 then (-1 : Int32) else 0) = -1 from if_pos ⟨e1, e2⟩), Int32.zero_mul, e1, e2]
      rfl
    · have hz' : ¬ Int32.ofNat (l + 3 * h) = 0 := fun e => hz ((oN_eq (i := l + 3 * h) (j := 0) (by omega) (by omega)).mp e)
      rw [if_neg hz', if_neg hz', if_neg hz', mx_t0 l hl h hh hz, if_neg hm, Int32.zero_mul, if_neg (show ¬ (l = 0 ∧ h = 0) from fun z => hz (by omega)), if_neg (show ¬ (0 : Int32) = -1 by decide), if_neg (show ¬ (0 : Int32) < 0 by decide)]
  refine whl_eq (f := f_X10_mix_b80 (Int32.ofNat m) a b x4 0 N) (e := (0, 0, 0)) 7 fu (fun l => (if l = 0 then -1 else 0, 0, 0, Int32.ofNat l)) (by decide) (fun l hl => ?_) ?_
  · try dsimp only
    have e := whl_eq (f := f_X10_mix_b90 (Int32.ofNat m) a b x4 0 (Int32.ofNat l) N) (e := (0, 0, 0)) 4 fu (fun h => (if l = 0 ∧ h = 0 then -1 else 0, 0, 0, Int32.ofNat h)) (by decide) (fun h hh => by
      try dsimp only
      rw [z6 l h hl hh, if_neg (show ¬ (l = 0 ∧ h + 1 = 0) from fun z => by omega)]) (by
      try dsimp only
      unfold f_X10_mix_b90
      dsimp only
      rw [if_pos (show (4 : Int32) ≤ Int32.ofNat 4 from le_rf _), if_neg (show ¬ (l = 0 ∧ 4 = 0) from fun z => by omega)])
    have e' : whl fu (f_X10_mix_b90 (Int32.ofNat m) a b x4 0 (Int32.ofNat l) N) (if l = 0 then -1 else 0, 0, 0, 0) = some (0, 0, 0) := by
      rw [← e]
      by_cases h0 : l = 0
      · rw [if_pos h0, if_pos ⟨h0, rfl⟩]; rfl
      · rw [if_neg h0, if_neg (fun z => h0 z.1)]; rfl
    unfold f_X10_mix_b80
    dsimp only
    rw [if_neg (show ¬ (7 : Int32) ≤ Int32.ofNat l from nle (n := 7) hl (by omega)), e', bsome, oN_S, if_neg (show ¬ l + 1 = 0 by omega)]
  · try dsimp only
    unfold f_X10_mix_b80
    dsimp only
    rw [if_pos (show (7 : Int32) ≤ Int32.ofNat 7 from le_rf _), if_neg (show ¬ 7 = 0 by decide)]
theorem m_mixL {N : Mm} {ca m : Nat} {a b x4 : Int32} (h0 : 0 < ca) (h1 : ca ≤ 16200) : whl fu (f_X10_mix_b80 (Int32.ofNat m) a b x4 (Int32.ofNat ca) N) (-1, 0, 0, 0) = some (mxO (Int32.ofNat ca) (Int32.ofNat m) a b 7) := by
  have hal : (0 : Int32) < Int32.ofNat ca := (oN_lt (i := 0) (by omega) (by omega)).mpr h0
  refine whl_eq (f := f_X10_mix_b80 (Int32.ofNat m) a b x4 (Int32.ofNat ca) N) (e := mxO (Int32.ofNat ca) (Int32.ofNat m) a b 7) 7 fu (fun l => ((mxO (Int32.ofNat ca) (Int32.ofNat m) a b l).1, (mxO (Int32.ofNat ca) (Int32.ofNat m) a b l).2.1, (mxO (Int32.ofNat ca) (Int32.ofNat m) a b l).2.2, Int32.ofNat l)) (by decide) (fun l hl => ?_) ?_
  · try dsimp only
    generalize hs : mxO (Int32.ofNat ca) (Int32.ofNat m) a b l = s
    have e := whl_eq (f := f_X10_mix_b90 (Int32.ofNat m) a b x4 (Int32.ofNat ca) (Int32.ofNat l) N) (e := mxI (Int32.ofNat ca) (Int32.ofNat m) a b l s 4) 4 fu (fun h => ((mxI (Int32.ofNat ca) (Int32.ofNat m) a b l s h).1, (mxI (Int32.ofNat ca) (Int32.ofNat m) a b l s h).2.1, (mxI (Int32.ofNat ca) (Int32.ofNat m) a b l s h).2.2, Int32.ofNat h)) (by decide) (fun h hh => by
      try dsimp only
      rw [show mxI (Int32.ofNat ca) (Int32.ofNat m) a b l s (h + 1) = mxS (Int32.ofNat ca) (Int32.ofNat m) a b l (mxI (Int32.ofNat ca) (Int32.ofNat m) a b l s h) h from rfl]
      generalize mxI (Int32.ofNat ca) (Int32.ofNat m) a b l s h = t
      unfold f_X10_mix_b90 f_X10_mix_j124 f_X10_mix_j150 f_X10_mix_j172 mxS
      dsimp only
      rw [if_neg (show ¬ (4 : Int32) ≤ Int32.ofNat h from nle (n := 4) hh (by omega)), oN_3, oN_S]
      by_cases hz : l + 3 * h = 0
      · rw [if_pos (show Int32.ofNat (l + 3 * h) = 0 by rw [hz]; rfl), if_pos (show Int32.ofNat (l + 3 * h) = 0 by rw [hz]; rfl), if_pos hal, if_pos hz]
      · have hz' : ¬ Int32.ofNat (l + 3 * h) = 0 := fun e => hz ((oN_eq (i := l + 3 * h) (j := 0) (by omega) (by omega)).mp e)
        rw [if_neg hz', if_neg hz', if_neg hz', if_neg hz]
        by_cases hm : Int32.ofNat m < ((Int32.ofNat ca + Int32.ofNat (l + 3 * h)) - 1) / Int32.ofNat (l + 3 * h)
        · rw [if_pos hm, if_pos hm]
        · rw [if_neg hm, if_neg hm]
          by_cases h5 : t.1 = -1
          · rw [if_pos h5, if_pos (Or.inl h5)]
          · rw [if_neg h5]
            by_cases h6 : (((Int32.ofNat ca + Int32.ofNat (l + 3 * h)) - 1) / Int32.ofNat (l + 3 * h)) * (Int32.ofNat l * a + Int32.ofNat h * b) < t.1
            · rw [if_pos h6, if_pos (Or.inr h6)]
            · rw [if_neg h6, if_neg (fun z => z.elim h5 h6)]) (by
      try dsimp only
      unfold f_X10_mix_b90
      dsimp only
      rw [if_pos (show (4 : Int32) ≤ Int32.ofNat 4 from le_rf _)])
    unfold f_X10_mix_b80
    dsimp only
    rw [if_neg (show ¬ (7 : Int32) ≤ Int32.ofNat l from nle (n := 7) hl (by omega)), show whl fu (f_X10_mix_b90 (Int32.ofNat m) a b x4 (Int32.ofNat ca) (Int32.ofNat l) N) (s.1, s.2.1, s.2.2, 0) = _ from e, bsome, oN_S, show mxO (Int32.ofNat ca) (Int32.ofNat m) a b (l + 1) = mxI (Int32.ofNat ca) (Int32.ofNat m) a b l (mxO (Int32.ofNat ca) (Int32.ofNat m) a b l) 4 from rfl, hs]
  · try dsimp only
    unfold f_X10_mix_b80
    dsimp only
    rw [if_pos (show (7 : Int32) ≤ Int32.ofNat 7 from le_rf _)]
def mx3 (C : Mm) (s : Int32 × Int32 × Int32) : Prop := if s.1 = -1 then ml C 13 0 = -1 ∧ ml C 13 1 = -1 ∧ ml C 13 2 = -1 else ml C 13 0 = s.1.toInt64 ∧ ml C 13 1 = s.2.1.toInt64 ∧ ml C 13 2 = s.2.2.toInt64
theorem k_mixS {C C2 : Mm} {ca m l h : Nat} {la ho : Nat} {s : Int32 × Int32 × Int32} (h0 : ca ≤ 16200) (hl : l < 7) (hh : h < 4) (hla : la ≤ 99) (hho : ho ≤ 99) (hm9 : m ≤ 9999) (hO : Oml (fun x => x = 13) C2 C) (hA : mx3 C s) (hs : s.1 = -1 ∨ ∃ n : Nat, n ≤ 10000000 ∧ s.1 = Int32.ofNat n) : (∃ C', f_X0_planMix_b38 (Int32.ofNat ca) (Int32.ofNat m) (Int32.ofNat la) (Int32.ofNat ho) (Int32.ofNat l) (Int32.ofNat h, C) = some (.inl (Int32.ofNat (h + 1), C')) ∧ Oml (fun x => x = 13) C2 C' ∧ mx3 C' (mxS (Int32.ofNat ca) (Int32.ofNat m) (Int32.ofNat la) (Int32.ofNat ho) l s h)) ∧ ((mxS (Int32.ofNat ca) (Int32.ofNat m) (Int32.ofNat la) (Int32.ofNat ho) l s h).1 = -1 ∨ ∃ n : Nat, n ≤ 10000000 ∧ (mxS (Int32.ofNat ca) (Int32.ofNat m) (Int32.ofNat la) (Int32.ofNat ho) l s h).1 = Int32.ofNat n) := by
  unfold f_X0_planMix_b38 f_X9_dividedUpward mxS
  dsimp only
  rw [if_neg (show ¬ (3 : Int32) < Int32.ofNat h from fun z => lnle z ((oN_le (i := h) (j := 3) (by omega) (by omega)).mpr (by omega))), oN_3, oN_S]
  by_cases hz : l + 3 * h = 0
  · rw [if_pos hz, hz, if_neg (show ¬ (1 : Int32) ≤ Int32.ofNat 0 by decide), bsome, if_pos (show Int32.ofNat 0 ≤ 0 by decide)]
    exact ⟨⟨C, rfl, hO, hA⟩, hs⟩
  · have hz' : ¬ Int32.ofNat (l + 3 * h) = 0 := fun e => hz ((oN_eq (i := l + 3 * h) (j := 0) (by omega) (by omega)).mp e)
    rw [if_neg hz, if_pos (show (1 : Int32) ≤ Int32.ofNat (l + 3 * h) from (oN_le (i := 1) (by omega) (by omega)).mpr (by omega)), if_neg hz', bsome, if_neg (show ¬ Int32.ofNat (l + 3 * h) ≤ 0 from nle (n := l + 3 * h) (i := 0) (by omega) (by omega)), up_div (by omega) (by omega)]
    generalize ht : (ca + (l + 3 * h) - 1) / (l + 3 * h) = t
    have tl : t ≤ 20000 := by rw [← ht]; exact Nat.le_trans (Nat.div_le_self _ _) (by omega)
    by_cases hm : Int32.ofNat m < Int32.ofNat t
    · rw [if_pos hm, if_pos hm]
      exact ⟨⟨C, rfl, hO, hA⟩, hs⟩
    · rw [if_neg hm, if_neg hm]
      have tm : t ≤ m := (oN_le (by omega) (by omega)).mp (nlt hm)
      have p1 : Int32.ofNat t * (Int32.ofNat l * Int32.ofNat la + Int32.ofNat h * Int32.ofNat ho) = Int32.ofNat (t * (l * la + h * ho)) := by rw [Int32.ofNat_mul, Int32.ofNat_add, Int32.ofNat_mul, Int32.ofNat_mul]
      have p2 : t * (l * la + h * ho) ≤ 10000000 := by
        have b1 : l * la ≤ 6 * 99 := Nat.mul_le_mul (by omega) hla
        have b2 : h * ho ≤ 3 * 99 := Nat.mul_le_mul (by omega) hho
        exact Nat.le_trans (Nat.mul_le_mul (show t ≤ 9999 by omega) (show l * la + h * ho ≤ 891 by omega)) (by decide)
      rw [p1]
      generalize t * (l * la + h * ho) = p at p2
      have pn : ¬ Int32.ofNat p = -1 := fun e => oN_nn (i := p) (by omega) (by rw [e]; decide)
      have b0 : al C 13 3 0 = some (ml C 13 0) := al13 (i := 0) (by omega)
      have yes : ∃ C', f_X0_planMix_j113 (Int32.ofNat ca) (Int32.ofNat m) (Int32.ofNat la) (Int32.ofNat ho) (Int32.ofNat l) (Int32.ofNat h) (Int32.ofNat p) C = some (.inl (Int32.ofNat h + 1, C')) ∧ Oml (fun x => x = 13) C2 C' ∧ mx3 C' (Int32.ofNat p, Int32.ofNat l, Int32.ofNat h) := by
        unfold f_X0_planMix_j113
        rw [k_settle, bsome]
        refine ⟨_, rfl, hO.trans (setO rfl), ?_⟩
        unfold mx3
        rw [if_neg pn]
        exact ⟨set0, set1, set2⟩
      rw [b0, bsome]
      by_cases h5 : s.1 = -1
      · have hA' := hA
        unfold mx3 at hA'
        rw [if_pos h5] at hA'
        rw [hA'.1, if_pos (lg_z.mpr rfl), if_pos (Or.inl h5)]
        obtain ⟨C', c1, c2, c3⟩ := yes
        exact ⟨⟨C', by rw [c1, oN_S], c2, c3⟩, Or.inr ⟨p, p2, rfl⟩⟩
      · have hA' := hA
        unfold mx3 at hA'
        rw [if_neg h5] at hA'
        rw [hA'.1, if_neg (show ¬ lg_cmp s.1.toInt64 (-1) = 0 from fun z => h5 ((show (s.1.toInt64 = (-1 : Int32).toInt64) ↔ s.1 = -1 from t64_eq).mp (lg_z.mp z)))]
        by_cases h6 : Int32.ofNat p < s.1
        · rw [bsome, if_neg (fun z => lnle h6 (t64_le.mp (lg_lt.mp z))), if_pos (Or.inr h6)]
          obtain ⟨C', c1, c2, c3⟩ := yes
          exact ⟨⟨C', by rw [c1, oN_S], c2, c3⟩, Or.inr ⟨p, p2, rfl⟩⟩
        · rw [bsome, if_pos (lg_lt.mpr (t64_le.mpr (nlt h6))), if_neg (fun z => z.elim h5 h6)]
          exact ⟨⟨C, rfl, hO, hA⟩, hs⟩
theorem k_planMix {C : Mm} {ca m la ho : Nat} (h0 : 0 < ca) (h1 : ca ≤ 16200) (hla : la ≤ 99) (hho : ho ≤ 99) (hm9 : m ≤ 9999) : ∃ C', f_X0_planMix (Int32.ofNat ca) (Int32.ofNat m) (Int32.ofNat la) (Int32.ofNat ho) C = some C' ∧ Oml (fun x => x = 13) C C' ∧ mx3 C' (mxO (Int32.ofNat ca) (Int32.ofNat m) (Int32.ofNat la) (Int32.ofNat ho) 7) := by
  obtain ⟨C', e1, e2, e3⟩ := whl_ex (f := f_X0_planMix_b28 (Int32.ofNat ca) (Int32.ofNat m) (Int32.ofNat la) (Int32.ofNat ho)) (fun l st => ∃ C', st = (Int32.ofNat l, C') ∧ Oml (fun x => x = 13) C C' ∧ mx3 C' (mxO (Int32.ofNat ca) (Int32.ofNat m) (Int32.ofNat la) (Int32.ofNat ho) l) ∧ ((mxO (Int32.ofNat ca) (Int32.ofNat m) (Int32.ofNat la) (Int32.ofNat ho) l).1 = -1 ∨ ∃ n : Nat, n ≤ 10000000 ∧ (mxO (Int32.ofNat ca) (Int32.ofNat m) (Int32.ofNat la) (Int32.ofNat ho) l).1 = Int32.ofNat n)) (fun C' => Oml (fun x => x = 13) C C' ∧ mx3 C' (mxO (Int32.ofNat ca) (Int32.ofNat m) (Int32.ofNat la) (Int32.ofNat ho) 7)) 7 fu (0, sL (sL (sL C 13 0 (-1)) 13 1 (-1)) 13 2 (-1)) (by decide) ⟨_, rfl, setO rfl, ⟨set0, set1, set2⟩, Or.inl rfl⟩ (by
    rintro l st hl ⟨C1, rfl, hO, hA, hN⟩
    refine Or.inl ?_
    generalize hs : mxO (Int32.ofNat ca) (Int32.ofNat m) (Int32.ofNat la) (Int32.ofNat ho) l = s at hA hN
    obtain ⟨C4, f1, f2, f3, f4⟩ := whl_ex (f := f_X0_planMix_b38 (Int32.ofNat ca) (Int32.ofNat m) (Int32.ofNat la) (Int32.ofNat ho) (Int32.ofNat l)) (fun h st => ∃ C', st = (Int32.ofNat h, C') ∧ Oml (fun x => x = 13) C C' ∧ mx3 C' (mxI (Int32.ofNat ca) (Int32.ofNat m) (Int32.ofNat la) (Int32.ofNat ho) l s h) ∧ ((mxI (Int32.ofNat ca) (Int32.ofNat m) (Int32.ofNat la) (Int32.ofNat ho) l s h).1 = -1 ∨ ∃ n : Nat, n ≤ 10000000 ∧ (mxI (Int32.ofNat ca) (Int32.ofNat m) (Int32.ofNat la) (Int32.ofNat ho) l s h).1 = Int32.ofNat n)) (fun C' => Oml (fun x => x = 13) C C' ∧ mx3 C' (mxI (Int32.ofNat ca) (Int32.ofNat m) (Int32.ofNat la) (Int32.ofNat ho) l s 4) ∧ ((mxI (Int32.ofNat ca) (Int32.ofNat m) (Int32.ofNat la) (Int32.ofNat ho) l s 4).1 = -1 ∨ ∃ n : Nat, n ≤ 10000000 ∧ (mxI (Int32.ofNat ca) (Int32.ofNat m) (Int32.ofNat la) (Int32.ofNat ho) l s 4).1 = Int32.ofNat n)) 4 fu (0, C1) (by decide) ⟨C1, rfl, hO, hA, hN⟩ (by
      rintro h st hh ⟨C2, rfl, gO, gA, gN⟩
      obtain ⟨⟨C3, z1, z2, z3⟩, z4⟩ := k_mixS h1 hl hh hla hho hm9 gO gA gN
      exact Or.inl ⟨_, z1, C3, rfl, z2, z3, z4⟩) (by
      rintro st ⟨C2, rfl, gO, gA, gN⟩
      refine ⟨C2, ?_, gO, gA, gN⟩
      unfold f_X0_planMix_b38
      dsimp only
      rw [if_pos (show (3 : Int32) < Int32.ofNat 4 by decide)])
    unfold f_X0_planMix_b28
    dsimp only
    rw [if_neg (show ¬ (6 : Int32) < Int32.ofNat l from fun z => lnle z ((oN_le (i := l) (j := 6) (by omega) (by omega)).mpr (by omega))), show whl fu (f_X0_planMix_b38 (Int32.ofNat ca) (Int32.ofNat m) (Int32.ofNat la) (Int32.ofNat ho) (Int32.ofNat l)) (0, C1) = _ from f1, bsome, oN_S]
    refine ⟨_, rfl, C4, rfl, f2, ?_⟩
    rw [show mxO (Int32.ofNat ca) (Int32.ofNat m) (Int32.ofNat la) (Int32.ofNat ho) (l + 1) = mxI (Int32.ofNat ca) (Int32.ofNat m) (Int32.ofNat la) (Int32.ofNat ho) l (mxO (Int32.ofNat ca) (Int32.ofNat m) (Int32.ofNat la) (Int32.ofNat ho) l) 4 from rfl, hs]
    exact ⟨f3, f4⟩) (by
    rintro st ⟨C1, rfl, hO, hA, hN⟩
    refine ⟨C1, ?_, hO, hA⟩
    unfold f_X0_planMix_b28
    dsimp only
    rw [if_pos (show (6 : Int32) < Int32.ofNat 7 by decide)])
  unfold f_X0_planMix
  rw [if_neg (fun e => by have := (oN_eq (i := ca) (j := 0) (by omega) (by omega)).mp e; omega), k_settle, bsome, show whl fu (f_X0_planMix_b28 (Int32.ofNat ca) (Int32.ofNat m) (Int32.ofNat la) (Int32.ofNat ho)) (0, sL (sL (sL C 13 0 (-1)) 13 1 (-1)) 13 2 (-1)) = _ from e1]
  exact ⟨C', rfl, e2, e3⟩
end MX
