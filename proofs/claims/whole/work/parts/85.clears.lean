/-! level 3: a year's clearing -/
section CL
variable {w h : Nat} {r r' : Nat → Int32} {T : Mm}
def clS (T : Mm) (z : Int32) (s : Int32 × (Nat → Int32)) (i : Nat) : Int32 × (Nat → Int32) := if Th s.2 i ∧ s.2 (6 * i + 2) = z ∧ clrO T s.2 i ≤ s.1 then (s.1 - clrO T s.2 i, plR s.2 i 2) else s
def clI (T : Mm) (z : Int32) (s : Int32 × (Nat → Int32)) : Nat → Int32 × (Nat → Int32)
  | 0 => s
  | i + 1 => clS T z (clI T z s i) i
def clO (T : Mm) (s : Int32 × (Nat → Int32)) : Nat → Int32 × (Nat → Int32)
  | 0 => s
  | j + 1 => clI T (Int32.ofNat (9 - j)) (clO T s j) (rN (clO T s j).2)
theorem clS_vr {z : Int32} {s : Int32 × (Nat → Int32)} {i : Nat} (hV : VR w h s.2) (hi : i < 60) : VR w h (clS T z s i).2 ∧ rN (clS T z s i).2 = rN s.2 := by
  unfold clS
  by_cases hc : Th s.2 i ∧ s.2 (6 * i + 2) = z ∧ clrO T s.2 i ≤ s.1
  · rw [if_pos hc]
    exact ⟨pl_vr hV hi ⟨2, by omega, rfl⟩, pl_N hi⟩
  · rw [if_neg hc]
    exact ⟨hV, rfl⟩
theorem clI_vr {z : Int32} {s : Int32 × (Nat → Int32)} (hV : VR w h s.2) : ∀ i, i ≤ 60 → VR w h (clI T z s i).2 ∧ rN (clI T z s i).2 = rN s.2 := by
  intro i
  induction i with
  | zero => exact fun _ => ⟨hV, rfl⟩
  | succ i ih =>
    intro hi
    obtain ⟨a, b⟩ := ih (by omega)
    obtain ⟨c, d⟩ := clS_vr (T := T) (z := z) (i := i) a (by omega)
    exact ⟨c, d.trans b⟩
theorem clO_vr {s : Int32 × (Nat → Int32)} (hV : VR w h s.2) : ∀ j, VR w h (clO T s j).2 := by
  intro j
  induction j with
  | zero => exact hV
  | succ j ih => exact (clI_vr ih _ ih.n60).1
theorem clS_al {z : Int32} {s s' : Int32 × (Nat → Int32)} {i : Nat} (h1 : s'.1 = s.1) (h : AL s.2 s'.2) (hi : i < 60) : (clS T z s' i).1 = (clS T z s i).1 ∧ AL (clS T z s i).2 (clS T z s' i).2 := by
  unfold clS
  rw [h.clr hi, h (6 * i + 2) (by omega) (by omega), h1]
  by_cases hc : Th s.2 i ∧ s.2 (6 * i + 2) = z ∧ clrO T s.2 i ≤ s.1
  · rw [if_pos hc, if_pos ⟨(h.tt hi).mpr hc.1, hc.2⟩]
    exact ⟨rfl, h.pl⟩
  · rw [if_neg hc, if_neg (fun z => hc ⟨(h.tt hi).mp z.1, z.2⟩)]
    exact ⟨h1, h⟩
theorem clI_al {z : Int32} {s s' : Int32 × (Nat → Int32)} (h1 : s'.1 = s.1) (h : AL s.2 s'.2) : ∀ i, i ≤ 60 → (clI T z s' i).1 = (clI T z s i).1 ∧ AL (clI T z s i).2 (clI T z s' i).2 := by
  intro i
  induction i with
  | zero => exact fun _ => ⟨h1, h⟩
  | succ i ih => exact fun hi => clS_al (ih (by omega)).1 (ih (by omega)).2 (by omega)
theorem clO_al {s s' : Int32 × (Nat → Int32)} (hV : VR w h s.2) (h1 : s'.1 = s.1) (h : AL s.2 s'.2) : ∀ j, (clO T s' j).1 = (clO T s j).1 ∧ AL (clO T s j).2 (clO T s' j).2 := by
  intro j
  induction j with
  | zero => exact ⟨h1, h⟩
  | succ j ih =>
    unfold clO
    rw [ih.2.n]
    exact clI_al ih.1 ih.2 _ (clO_vr (T := T) hV j).n60
theorem clS_T {T' : Mm} (hq : TQ T T') {z : Int32} {s : Int32 × (Nat → Int32)} {i : Nat} : clS T' z s i = clS T z s i := by
  unfold clS
  rw [hq.clr]
theorem clI_T {T' : Mm} (hq : TQ T T') {z : Int32} {s : Int32 × (Nat → Int32)} : ∀ i, clI T' z s i = clI T z s i := by
  intro i
  induction i with
  | zero => rfl
  | succ i ih =>
    unfold clI
    rw [ih, clS_T hq]
theorem clO_T {T' : Mm} (hq : TQ T T') {s : Int32 × (Nat → Int32)} : ∀ j, clO T' s j = clO T s j := by
  intro j
  induction j with
  | zero => rfl
  | succ j ih =>
    unfold clO
    rw [ih, clI_T hq]
theorem clO_gt {s : Int32 × (Nat → Int32)} (hV : VR w h s.2) {j : Nat} (hj : 360 ≤ j) : ∀ n, (clO T s n).2 j = s.2 j := by
  have i1 : ∀ (z : Int32) (s : Int32 × (Nat → Int32)) (n : Nat), n ≤ 60 → (clI T z s n).2 j = s.2 j := by
    intro z s n
    induction n with
    | zero => exact fun _ => rfl
    | succ n ih =>
      intro hn
      rw [← ih (by omega)]
      show (clS T z (clI T z s n) n).2 j = _
      unfold clS
      split
      · exact pl_gt (by omega) hj
      · rfl
  intro n
  induction n with
  | zero => rfl
  | succ n ih => exact (i1 _ _ _ (clO_vr (T := T) hV n).n60).trans ih
theorem thN_al (h9 : AL r r') (hn : rN r ≤ 60) : thN r' = thN r := by
  unfold thN
  rw [h9.n]
  refine sm_congr (fun i hi => ?_)
  by_cases hT : Th r i
  · rw [if_pos hT, if_pos ((h9.tt (by omega)).mpr hT)]
  · rw [if_neg hT, if_neg (fun z => hT ((h9.tt (by omega)).mp z))]
theorem thS_al (h9 : AL r r') (hn : rN r ≤ 60) : thS r' = thS r := by
  unfold thS
  rw [h9.n]
  refine sm_congr (fun i hi => ?_)
  rw [h9 (6 * i + 2) (by omega) (by omega)]
  by_cases hT : Th r i
  · rw [if_pos hT, if_pos ((h9.tt (by omega)).mpr hT)]
  · rw [if_neg hT, if_neg (fun z => hT ((h9.tt (by omega)).mp z))]
theorem lt1_no {d : Nat} (h : 1 ≤ d) (h2 : d < 100) : ¬ Int32.ofNat d < (1 : Int32) := fun z => lnle z ((oN_le (i := 1) (by omega) (by omega)).mpr h)
theorem k_spend {C : Mm} {g : Nat} {x : Int32} (hG : RGd C T g) (hV : VR w h r) (hW : RW C 19 r) (hg : ¬ (18 ≤ g ∧ g ≤ 26)) : ∃ C', f_X2_spendYear g x C = some C' ∧ Om (fun b => 19 ≤ b ∧ b ≤ 26) C C' ∧ RW C' 19 (clO T (x, r) 9).2 := by
  obtain ⟨C', e1, e2, e3⟩ := whl_ex (f := f_X2_spendYear_b6 g) (fun j st => ∃ C1, st = ((clO T (x, r) j).1, Int32.ofNat (9 - j), C1) ∧ Om (fun b => 19 ≤ b ∧ b ≤ 26) C C1 ∧ RW C1 19 (clO T (x, r) j).2) (fun C1 => Om (fun b => 19 ≤ b ∧ b ≤ 26) C C1 ∧ RW C1 19 (clO T (x, r) 9).2) 9 fu (x, 9, C) (by decide) ⟨C, rfl, Om.refl, hW⟩ (by
    rintro j st hj ⟨C1, rfl, hO, hW1⟩
    have hV1 : VR w h (clO T (x, r) j).2 := clO_vr (T := T) (s := (x, r)) hV j
    have h6 := hV1.n60
    generalize hs : clO T (x, r) j = s at hW1 hV1 h6
    refine Or.inl ?_
    obtain ⟨⟨y1, C2⟩, p1, p2, p3, p4⟩ := whl_ex (f := f_X2_spendYear_b15 g (Int32.ofNat (9 - j))) (fun i st => ∃ C2, st = ((clI T (Int32.ofNat (9 - j)) s i).1, Int32.ofNat i, C2) ∧ Om (fun b => 19 ≤ b ∧ b ≤ 26) C C2 ∧ RW C2 19 (clI T (Int32.ofNat (9 - j)) s i).2) (fun e => e.1 = (clI T (Int32.ofNat (9 - j)) s (rN s.2)).1 ∧ Om (fun b => 19 ≤ b ∧ b ≤ 26) C e.2 ∧ RW e.2 19 (clI T (Int32.ofNat (9 - j)) s (rN s.2)).2) (rN s.2) fu (s.1, 0, C1) (by show rN s.2 < 1000000; omega) ⟨C1, rfl, hO, hW1⟩ (by
      rintro i st hi ⟨C2, rfl, hO2, hW2⟩
      obtain ⟨hV2, hn2⟩ := clI_vr (T := T) (z := Int32.ofNat (9 - j)) hV1 i (by omega)
      have hstep : clI T (Int32.ofNat (9 - j)) s (i + 1) = clS T (Int32.ofNat (9 - j)) (clI T (Int32.ofNat (9 - j)) s i) i := rfl
      rw [hstep]
      generalize clI T (Int32.ofNat (9 - j)) s i = t at hW2 hV2 hn2
      have hit : i < rN t.2 := by rw [hn2]; exact hi
      have hG2 : RGd C2 T g := hG.frame (hO2.at (by omega)) (hO2.at (by omega)) KT.refl
      refine Or.inl ?_
      unfold f_X2_spendYear_b15
      dsimp only
      rw [hW2.n, hV2.n, if_neg (nle hit (by omega)), k_isAsked hV2 hW2 hit, bsome]
      unfold clS
      by_cases h1 : Th t.2 i
      · rw [if_pos h1, if_neg z10, k_sizeOf hV2 hW2 hit, bsome]
        by_cases h2 : t.2 (6 * i + 2) = Int32.ofNat (9 - j)
        · rw [if_pos h2]
          unfold f_X2_clearWithin
          rw [k_clearingOf hG2 hV2 hW2 hit, bsome]
          by_cases h3 : clrO T t.2 i ≤ t.1
          · obtain ⟨C3, q1, q2, q3, -⟩ := k_takeUp (p := 2) hV2 hW2 hit h1.1 (by decide)
            rw [if_pos h3, q1, bsome, bsome, if_pos ⟨h1, h2, h3⟩, oN_S]
            exact ⟨_, rfl, C3, rfl, hO2.trans (q2.mono (fun b hb => by omega)), q3⟩
          · rw [if_neg h3, bsome, if_neg (fun z => h3 z.2.2), oN_S]
            dsimp only
            rw [Int32.sub_zero]
            exact ⟨_, rfl, C2, rfl, hO2, hW2⟩
        · rw [if_neg h2, if_neg (fun z => h2 z.2.1), oN_S]
          exact ⟨_, rfl, C2, rfl, hO2, hW2⟩
      · rw [if_neg h1, if_pos z00, if_neg (fun z => h1 z.1), oN_S]
        exact ⟨_, rfl, C2, rfl, hO2, hW2⟩) (by
      rintro st ⟨C2, rfl, hO2, hW2⟩
      obtain ⟨hV2, hn2⟩ := clI_vr (T := T) (z := Int32.ofNat (9 - j)) hV1 (rN s.2) h6
      refine ⟨((clI T (Int32.ofNat (9 - j)) s (rN s.2)).1, C2), ?_, rfl, hO2, hW2⟩
      unfold f_X2_spendYear_b15
      dsimp only
      rw [hW2.n, hV2.n, hn2, if_pos (le_rf _)])
    unfold f_X2_spendYear_b6
    dsimp only
    rw [if_neg (lt1_no (by omega) (by omega)), show whl fu (f_X2_spendYear_b15 g (Int32.ofNat (9 - j))) (s.1, 0, C1) = some (y1, C2) from p1, bsome]
    dsimp only
    rw [am1 (by omega), show 9 - j - 1 = 9 - (j + 1) by omega]
    refine ⟨_, rfl, C2, ?_, p3, ?_⟩
    · show (y1, _, C2) = ((clI T (Int32.ofNat (9 - j)) (clO T (x, r) j) (rN (clO T (x, r) j).2)).1, _, C2)
      rw [hs, ← p2]
    · show RW C2 19 (clI T (Int32.ofNat (9 - j)) (clO T (x, r) j) (rN (clO T (x, r) j).2)).2
      rw [hs]
      exact p4) (by
    rintro st ⟨C1, rfl, hO, hW1⟩
    refine ⟨C1, ?_, hO, hW1⟩
    unfold f_X2_spendYear_b6
    dsimp only
    rw [if_pos (show Int32.ofNat (9 - 9) < (1 : Int32) by decide)])
  unfold f_X2_spendYear
  rw [e1]
  exact ⟨C', rfl, e2, e3⟩
theorem m_clears {N : Mm} {a : Nat} {x : Int32} (hL : LN a = 415) (ha : a = 196 ∨ a = 197) (hV : VR w h (mi N a)) : ∃ N', f_X10_clears a x N = some N' ∧ Om (fun b => b = a) N N' ∧ mi N' a = (clO N (x, mi N a) 9).2 := by
  generalize hr : mi N a = r at hV
  have fr : ∀ {N1 : Mm}, Om (fun x => x = a) N N1 → TQ N N1 := fun {N1} hO => ⟨hO.at (by omega), hO.at (by omega), hO.at (by omega), hO.at (by omega), hO.at (by omega)⟩
  obtain ⟨C', e1, e2, e3⟩ := whl_ex (f := f_X10_clears_b6 a) (fun j st => ∃ C1, st = ((clO N (x, r) j).1, Int32.ofNat (9 - j), C1) ∧ Om (fun b => b = a) N C1 ∧ mi C1 a = (clO N (x, r) j).2) (fun C1 => Om (fun b => b = a) N C1 ∧ mi C1 a = (clO N (x, r) 9).2) 9 fu (x, 9, N) (by decide) ⟨N, rfl, Om.refl, hr⟩ (by
    rintro j st hj ⟨C1, rfl, hO, hW1⟩
    have hV1 : VR w h (clO N (x, r) j).2 := clO_vr (T := N) (s := (x, r)) hV j
    have h6 := hV1.n60
    generalize hs : clO N (x, r) j = s at hW1 hV1 h6
    refine Or.inl ?_
    obtain ⟨⟨y1, C2⟩, p1, p2, p3, p4⟩ := whl_ex (f := f_X10_clears_b14 a (Int32.ofNat (9 - j))) (fun i st => ∃ C2, st = ((clI N (Int32.ofNat (9 - j)) s i).1, Int32.ofNat i, C2) ∧ Om (fun b => b = a) N C2 ∧ mi C2 a = (clI N (Int32.ofNat (9 - j)) s i).2) (fun e => e.1 = (clI N (Int32.ofNat (9 - j)) s (rN s.2)).1 ∧ Om (fun b => b = a) N e.2 ∧ mi e.2 a = (clI N (Int32.ofNat (9 - j)) s (rN s.2)).2) (rN s.2) fu (s.1, 0, C1) (by show rN s.2 < 1000000; omega) ⟨C1, rfl, hO, hW1⟩ (by
      rintro i st hi ⟨C2, rfl, hO2, hW2⟩
      obtain ⟨hV2, hn2⟩ := clI_vr (T := N) (z := Int32.ofNat (9 - j)) hV1 i (by omega)
      have hstep : clI N (Int32.ofNat (9 - j)) s (i + 1) = clS N (Int32.ofNat (9 - j)) (clI N (Int32.ofNat (9 - j)) s i) i := rfl
      rw [hstep]
      generalize clI N (Int32.ofNat (9 - j)) s i = t at hW2 hV2 hn2
      have hit : i < rN t.2 := by rw [hn2]; exact hi
      refine Or.inl ?_
      have hVa : VR w h (mi C2 a) := by rw [hW2]; exact hV2
      have hia : i < rN (mi C2 a) := by rw [hW2]; exact hit
      unfold f_X10_clears_b14
      dsimp only
      rw [m_a360 hL, bsome, hVa.n, hW2, if_neg (nle hit (by omega)), m_isThere hL hVa hia, bsome, hW2]
      unfold clS
      by_cases h1 : Th t.2 i
      · rw [if_pos h1, if_neg z10, m_of2 hL (by omega), bsome, hW2]
        by_cases h2 : t.2 (6 * i + 2) = Int32.ofNat (9 - j)
        · rw [if_pos h2, m_clearOf hL (by omega), bsome, hW2, (fr hO2).clr]
          by_cases h3 : clrO N t.2 i ≤ t.1
          · rw [if_pos h3, bsome, show (6 : Int32) * Int32.ofNat i + 4 = Int32.ofNat (6 * i + 4) from ix6 (j := 4), hL, wi_o (by omega) (by omega), bsome, if_pos ⟨h1, h2, h3⟩, oN_S]
            refine ⟨_, rfl, _, rfl, om_si hO2 rfl, ?_⟩
            rw [mi_sI, hW2]
            rfl
          · rw [if_neg h3, if_neg (fun z => h3 z.2.2), oN_S]
            exact ⟨_, rfl, C2, rfl, hO2, hW2⟩
        · rw [if_neg h2, if_neg (fun z => h2 z.2.1), oN_S]
          exact ⟨_, rfl, C2, rfl, hO2, hW2⟩
      · rw [if_neg h1, if_pos z00, if_neg (fun z => h1 z.1), oN_S]
        exact ⟨_, rfl, C2, rfl, hO2, hW2⟩) (by
      rintro st ⟨C2, rfl, hO2, hW2⟩
      obtain ⟨hV2, hn2⟩ := clI_vr (T := N) (z := Int32.ofNat (9 - j)) hV1 (rN s.2) h6
      refine ⟨((clI N (Int32.ofNat (9 - j)) s (rN s.2)).1, C2), ?_, rfl, hO2, hW2⟩
      unfold f_X10_clears_b14
      dsimp only
      rw [m_a360 hL, bsome, hW2, hV2.n, hn2, if_pos (le_rf _)])
    unfold f_X10_clears_b6
    dsimp only
    rw [if_neg (show ¬ Int32.ofNat (9 - j) ≤ (0 : Int32) from nle (n := 9 - j) (i := 0) (by omega) (by omega)), show whl fu (f_X10_clears_b14 a (Int32.ofNat (9 - j))) (s.1, 0, C1) = some (y1, C2) from p1, bsome]
    dsimp only
    rw [am1 (by omega), show 9 - j - 1 = 9 - (j + 1) by omega]
    refine ⟨_, rfl, C2, ?_, p3, ?_⟩
    · show (y1, _, C2) = ((clI N (Int32.ofNat (9 - j)) (clO N (x, r) j) (rN (clO N (x, r) j).2)).1, _, C2)
      rw [hs, ← p2]
    · show mi C2 a = (clI N (Int32.ofNat (9 - j)) (clO N (x, r) j) (rN (clO N (x, r) j).2)).2
      rw [hs]
      exact p4) (by
    rintro st ⟨C1, rfl, hO, hW1⟩
    refine ⟨C1, ?_, hO, hW1⟩
    unfold f_X10_clears_b6
    dsimp only
    rw [if_pos (show Int32.ofNat (9 - 9) ≤ (0 : Int32) by decide)])
  unfold f_X10_clears
  rw [e1]
  exact ⟨C', rfl, e2, e3⟩
end CL
