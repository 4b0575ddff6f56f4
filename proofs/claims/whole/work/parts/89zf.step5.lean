/-! level 3: work: steps: winter -/
section SF9
variable {w h : Nat} {r r' : Nat → Int32} {C C' T T' N : Mm} {a g n s : Nat} {p z : Int32} {q : Nat → Nat}
theorem rf_yr (hV : VR w h r) (hW : RF C a r) : RF (sI C a 9 (r 363 + 1)) a (yrR r) := by
  obtain ⟨e1, e2, e3, -, -⟩ := st_on (r := r) (r' := yrR r) (fun j hj => yrR_o (by omega)) hV.n60
  refine ⟨rw_yr hV hW.1, ?_, ?_, fun c hc => ?_⟩
  · unfold RLd
    rw [mi_sI_o (by omega), e1]
    exact hW.2.1
  · rw [mi_sI_o (by omega), e2]
    exact hW.2.2.1
  · rw [mi_sI_ne (by omega), e3]
    exact hW.2.2.2 c hc
theorem k_raiseF {C T : Mm} {g l a m : Nat} (hG : RGd C T g) (hV : VR (tw T) (th T) r) (hW : RF C a r) (hl : rd C g 2 = l) (hR : RLaw C T l 1) (hy : r 363 = Int32.ofNat m) (hm : m < 10000000) (hS : ∀ b, ((a ≤ b ∧ b ≤ a + 7) ∨ b = l + 2 ∨ b = l + 3) → b ≠ g ∧ b ≠ g + 1 ∧ b ≠ l ∧ b ≠ l + 1) (hD : ∀ b, (b = l + 2 ∨ b = l + 3) → ¬ (a ≤ b ∧ b ≤ a + 7)) : ∃ C', f_X8_raiseStones a g C = some C' ∧ Om (fun b => (a ≤ b ∧ b ≤ a + 7) ∨ b = l + 2 ∨ b = l + 3) C C' ∧ RF C' a (upO (risN T (yrR r) (r 363 + 1) (lyN r)) (r 363 + 1) (yrR r) 48) := by
  have h6 := hV.n60
  have ey : r 363 + 1 = Int32.ofNat (m + 1) := by rw [hy, oN_S]
  have hV1 : VR (tw T) (th T) (yrR r) := yrR_rq.vr hV
  generalize hVn : risN T (yrR r) (r 363 + 1) (lyN r) = V
  have v2 : ∀ c, V c ≤ 2 := fun c => by rw [← hVn]; exact risN_2
  have vn : ∀ c, ¬ (c % 8 < tw T ∧ c / 8 < th T) → V c = 0 := fun c hc => by rw [← hVn]; exact risN_n (fun z => hc z.1)
  have hW1 : RF (sI C a 9 (r 363 + 1)) a (yrR r) := rf_yr hV hW
  have hVc : ∀ c, c ≤ 48 → VR (tw T) (th T) (upO V (r 363 + 1) (yrR r) c) := fun c hc => by rw [ey]; exact upO_vr (by omega) hV1 v2 vn c hc
  have hg9 : ∀ c, upO V (r 363 + 1) (yrR r) c 363 = r 363 + 1 := fun c => (upO_gt (by omega) c).trans yrR_k
  have fr : ∀ {C1 : Mm}, Om (fun b => (a ≤ b ∧ b ≤ a + 7) ∨ b = l + 2 ∨ b = l + 3) C C1 → RGd C1 T g ∧ rd C1 g 2 = l ∧ RLaw C1 T l 1 := fun {C1} hO => by
    have s : ∀ b, b = g ∨ b = g + 1 ∨ b = l ∨ b = l + 1 → mi C1 b = mi C b := fun b hb => hO.at (fun hs => by have := hS b hs; omega)
    refine ⟨hG.frame (s g (by omega)) (s (g + 1) (by omega)) KT.refl, ?_, hR.frame (Or.inr rfl) (by rw [s l (by omega)]) (s (l + 1) (by omega)) KT.refl⟩
    rw [← hl]
    unfold rd
    rw [hO.2.2.2.2.1]
  obtain ⟨C', e1, e2, e3⟩ := whl_ex (f := f_X8_raiseStones_b17 a g (lyN r)) (fun c st => ∃ C1, st = (Int32.ofNat c, C1) ∧ Om (fun b => (a ≤ b ∧ b ≤ a + 7) ∨ b = l + 2 ∨ b = l + 3) C C1 ∧ RF C1 a (upO V (r 363 + 1) (yrR r) c)) (fun C1 => Om (fun b => (a ≤ b ∧ b ≤ a + 7) ∨ b = l + 2 ∨ b = l + 3) C C1 ∧ RF C1 a (upO V (r 363 + 1) (yrR r) 48)) 48 fu (0, sI C a 9 (r 363 + 1)) (by decide) ⟨_, rfl, om_si Om.refl (by omega), hW1⟩ (by
    rintro c st hc ⟨C1, rfl, hO, hWc⟩
    obtain ⟨hG1, hl1, hR1⟩ := fr hO
    have hVn1 := hVc c (by omega)
    unfold f_X8_raiseStones_b17
    dsimp only
    rw [if_neg (show ¬ (48 : Int32) ≤ Int32.ofNat c from nle (n := 48) hc (by omega)), hWc.1.1.1, hVn1.n]
    by_cases hn : rN (upO V (r 363 + 1) (yrR r) c) < 60
    · rw [if_neg (show ¬ (60 : Int32) ≤ Int32.ofNat _ from nle (n := 60) hn (by omega)), k_hasCell hG1 hc, bsome]
      refine Or.inl ?_
      by_cases hf : inF T c
      · rw [if_pos hf, if_neg z10]
        obtain ⟨C2, p1, p2⟩ := k_risingIn (yr := mi C1 a 9) (all := lyN r) hG1 hVn1 hWc.1 hl1 hR1 hc
        have hv : (if upO V (r 363 + 1) (yrR r) c (367 + c) = 1 then (0 : Int32) else risO T (upO V (r 363 + 1) (yrR r) c) c (mi C1 a 9) (lyN r)) = Int32.ofNat (V c) := by
          rw [hWc.1.1.2.1, hg9, upO_gt (by omega)]
          by_cases hlost : yrR r (367 + c) = 1
          · rw [if_pos hlost, ← hVn, risN_n (fun z => z.2 hlost)]
            rfl
          · rw [if_neg hlost, ← hVn, risN_k ⟨hf, hlost⟩, hVn]
            refine risO_of rfl rfl rfl ?_
            rw [ey]
            exact upO_ly (by omega) hV1 v2 vn c (by omega) (by omega)
        rw [p1, hv, bsome]
        dsimp only
        have hO2 := hO.trans (p2.mono (fun b hb => Or.inr hb))
        have hW2 : RF C2 a (upO V (r 363 + 1) (yrR r) c) := hWc.frame (fun j hj => p2.at (fun hs => hD _ hs ⟨by omega, by omega⟩))
        obtain ⟨C4, q1, q2, q3⟩ := whl_ex (f := f_X8_raiseStones_b56 a g (lyN r) (Int32.ofNat c) (Int32.ofNat (V c))) (fun j st => ∃ C3, st = (Int32.ofNat j, C3) ∧ Om (fun b => (a ≤ b ∧ b ≤ a + 7) ∨ b = l + 2 ∨ b = l + 3) C C3 ∧ RF C3 a (upI (r 363 + 1) c (upO V (r 363 + 1) (yrR r) c) j)) (fun C3 => Om (fun b => (a ≤ b ∧ b ≤ a + 7) ∨ b = l + 2 ∨ b = l + 3) C C3 ∧ RF C3 a (upO V (r 363 + 1) (yrR r) (c + 1))) (V c) fu (0, C2) (by have := v2 c; show V c < 1000000; omega) ⟨C2, rfl, hO2, hW2⟩ (by
          rintro j st hj ⟨C3, rfl, hO3, hW3⟩
          have v2c := v2 c
          have hV3 : VR (tw T) (th T) (upI (r 363 + 1) c (upO V (r 363 + 1) (yrR r) c) j) := by
            have := upI_vr (m := m + 1) (c := c) (by omega) hc hVn1 hf.1 hf.2 j (by omega)
            rw [← ey] at this
            exact this
          have y9 : mi C3 a 9 = r 363 + 1 := by rw [hW3.1.1.2.1, upI_gt (by omega)]; exact hg9 c
          obtain ⟨C5, t1, t2, t3, t4, t5⟩ := k_addStone (s := szY (r 363 + 1) c j) (x := c % 8) (y := c / 8) hV3 hW3.1 (by omega) (by omega)
          refine Or.inl ?_
          unfold f_X8_raiseStones_b56
          dsimp only
          rw [if_neg (nle hj (by omega)), k_column hc, bsome, k_row hc, bsome, y9]
          rw [show 8 * (c / 8) + c % 8 = c by omega] at t1
          have t1' : f_X8_addStone a (Int32.ofNat c) ((1 : Int32) + ((((((3 : Int32) * Int32.ofNat (c % 8)) + ((5 : Int32) * Int32.ofNat (c / 8))) + ((7 : Int32) * (r 363 + 1))) + Int32.ofNat j) - (((((3 : Int32) * Int32.ofNat (c % 8)) + ((5 : Int32) * Int32.ofNat (c / 8))) + ((7 : Int32) * (r 363 + 1))) + Int32.ofNat j) / (9 : Int32) * (9 : Int32))) C3 = some C5 := t1
          rw [t1', bsome, oN_S]
          exact ⟨_, rfl, C5, rfl, hO3.trans (t2.mono (fun b hb => Or.inl hb)), t3, t4 hW3.2.1, t5 hW3.2.2⟩) (by
          rintro st ⟨C3, rfl, hO3, hW3⟩
          refine ⟨C3, ?_, hO3, hW3⟩
          unfold f_X8_raiseStones_b56
          dsimp only
          rw [if_pos (le_rf _)])
        rw [show whl fu (f_X8_raiseStones_b56 a g (lyN r) (Int32.ofNat c) (Int32.ofNat (V c))) (0, C2) = some C4 from q1, bsome, oN_S]
        exact ⟨_, rfl, C4, rfl, q2, q3⟩
      · rw [if_neg hf, if_pos z00, oN_S]
        refine ⟨_, rfl, C1, rfl, hO, ?_⟩
        show RF C1 a (upI (r 363 + 1) c (upO V (r 363 + 1) (yrR r) c) (V c))
        rw [vn c hf]
        exact hWc
    · have n6 := hVn1.n60
      rw [if_pos (show (60 : Int32) ≤ Int32.ofNat (rN (upO V (r 363 + 1) (yrR r) c)) by rw [show rN (upO V (r 363 + 1) (yrR r) c) = 60 by omega]; exact le_rf _)]
      refine Or.inr ⟨C1, rfl, hO, ?_⟩
      have := upO_full hn (48 - c)
      rw [show c + (48 - c) = 48 by omega] at this
      rw [this]
      exact hWc) (by
    rintro st ⟨C1, rfl, hO, hWc⟩
    refine ⟨C1, ?_, hO, hWc⟩
    unfold f_X8_raiseStones_b17
    dsimp only
    rw [if_pos (show (48 : Int32) ≤ Int32.ofNat 48 from le_rf _)])
  unfold f_X8_raiseStones
  rw [hW.1.1.2.1, mi_sI_o (by omega), hW.1.1.2.2.2.2.2.2, show whl fu (f_X8_raiseStones_b17 a g (lyN r)) (0, sI C a 9 (r 363 + 1)) = some C' from e1, bsome]
  exact ⟨C', rfl, e2, e3⟩
/-- the soil won on the class's side -/
theorem k_won {T : Mm} (hG : RGd C T g) (hg : g ≠ a ∧ g + 1 ≠ a) (hV : VR w h r) (hW : RW C a r) : ∃ C', whl fu (f_X8_passWinter_b18 a g) (0, C) = some C' ∧ Om (fun b => b = a) C C' ∧ (∀ j, j ≠ 14 → mi C' a j = mi C a j) ∧ mi C' a 14 = mi C a 14 + wonW T r := by
  exact whl_ex (f := f_X8_passWinter_b18 a g) (fun c st => ∃ C2, st = (Int32.ofNat c, C2) ∧ Om (fun b => b = a) C C2 ∧ (∀ j, j ≠ 14 → mi C2 a j = mi C a j) ∧ mi C2 a 14 = mi C a 14 + sm c (fun c => if kpt T r c then mi T 82 c else 0)) (fun C2 => Om (fun b => b = a) C C2 ∧ (∀ j, j ≠ 14 → mi C2 a j = mi C a j) ∧ mi C2 a 14 = mi C a 14 + wonW T r) 48 fu (0, C) (by decide) ⟨C, rfl, Om.refl, fun _ _ => rfl, (Int32.add_zero _).symm⟩ (by
    rintro c st hc ⟨C2, rfl, hO, ha, h14⟩
    have hG2 : RGd C2 T g := hG.frame (hO.at hg.1) (hO.at hg.2) KT.refl
    have hW2 : RW C2 a (u1 r 366 (mi C2 a 14)) := by
      obtain ⟨-, -, -, ly, li⟩ := st_on (r := r) (r' := u1 r 366 (mi C2 a 14)) (fun j hj => u1_ne (by omega)) hV.n60
      have e : ∀ j, j ≠ 366 → u1 r 366 (mi C2 a 14) j = r j := fun j hj => u1_ne hj
      have eN : rN (u1 r 366 (mi C2 a 14)) = rN r := by unfold rN; rw [e 360 (by omega)]
      have h6 := hV.n60
      have ec : ∀ k, k < 60 → rC (u1 r 366 (mi C2 a 14)) k = rC r k := fun k hk => by unfold rC nX nY; rw [e _ (by omega), e _ (by omega)]
      obtain ⟨⟨w8, w9, w10, w12, w13, w14, w7⟩, hS, hC⟩ := hW
      refine ⟨⟨?_, ?_, ?_, ?_, ?_, ?_, ?_⟩, fun k hk => ?_, fun c hc => ?_⟩
      · rw [ha _ (by omega), e _ (by omega)]; exact w8
      · rw [ha _ (by omega), e _ (by omega)]; exact w9
      · rw [ha _ (by omega), e _ (by omega), e _ (by omega)]; exact w10
      · rw [ha _ (by omega), e _ (by omega)]; exact w12
      · rw [ha _ (by omega), e _ (by omega)]; exact w13
      · rw [u1_same]
      · rw [ha _ (by omega), ly]; exact w7
      · rw [eN] at hk
        rw [hO.at (show ¬ a + 1 = a by omega), hO.at (show ¬ a + 2 = a by omega), hO.at (show ¬ a + 3 = a by omega), hO.at (show ¬ a + 4 = a by omega), ec k (by omega), e _ (by omega), e _ (by omega), e _ (by omega)]
        exact hS k hk
      · rw [hO.at (show ¬ a + 5 = a by omega), hO.at (show ¬ a + 7 = a by omega), e _ (by omega), li]
        exact hC c hc
    have hV2 : VR w h (u1 r 366 (mi C2 a 14)) := by
      obtain ⟨s, -, -, e1, e2, sw, sh⟩ := hV.sl
      exact hd_vr (fun j _ _ _ _ h5 => u1_ne h5) hV sw sh (by rw [u1_ne (by omega)]; exact e1) (by rw [u1_ne (by omega)]; exact e2)
    have e7 : u1 r 366 (mi C2 a 14) (367 + c) = r (367 + c) := u1_ne (by omega)
    refine Or.inl ?_
    unfold f_X8_passWinter_b18 f_X8_passWinter_j53
    dsimp only
    rw [if_neg (show ¬ (48 : Int32) ≤ Int32.ofNat c from nle (n := 48) hc (by omega)), k_hasCell hG2 hc, bsome]
    have no : ¬ kpt T r c → ∃ s', (some (Sum.inl (Int32.ofNat c + 1, sI C2 a 14 (mi C2 a 14 + 0))) : Option ((Int32 × Mm) ⊕ Mm)) = some (Sum.inl s') ∧ ∃ C3, s' = (Int32.ofNat (c + 1), C3) ∧ Om (fun b => b = a) C C3 ∧ (∀ j, j ≠ 14 → mi C3 a j = mi C a j) ∧ mi C3 a 14 = mi C a 14 + sm (c + 1) (fun c => if kpt T r c then mi T 82 c else 0) := fun hk => by
      rw [oN_S]
      refine ⟨_, rfl, _, rfl, om_si hO rfl, fun j hj => by rw [mi_sI_o hj]; exact ha j hj, ?_⟩
      rw [mi_sI_k, h14]
      show _ = _ + (sm c _ + (if kpt T r c then mi T 82 c else 0))
      rw [if_neg hk, Int32.add_assoc]
    by_cases h1 : inF T c
    · rw [if_pos h1, if_neg z10, k_isLost hV2 hW2 hc, bsome, e7]
      by_cases h2 : r (367 + c) = 1
      · rw [if_pos h2, if_neg z10]
        exact no (fun z => z.2 h2)
      · rw [if_neg h2, if_pos z00, k_soil hG2 hc, bsome, oN_S]
        refine ⟨_, rfl, _, rfl, om_si hO rfl, fun j hj => by rw [mi_sI_o hj]; exact ha j hj, ?_⟩
        rw [mi_sI_k, h14]
        show _ = _ + (sm c _ + (if kpt T r c then mi T 82 c else 0))
        rw [if_pos ⟨h1, h2⟩, Int32.add_assoc]
    · rw [if_neg h1, if_pos z00]
      exact no (fun z => h1 z.1)) (by
    rintro st ⟨C2, rfl, hO, ha, h14⟩
    refine ⟨C2, ?_, hO, ha, h14⟩
    unfold f_X8_passWinter_b18
    dsimp only
    rw [if_pos (show (48 : Int32) ≤ Int32.ofNat 48 from le_rf _)])
/-- what the steps may change -/
def Sc9 (q : Nat → Nat) (a : Nat) : Prop := (q 2 ≤ a ∧ a ≤ q 2 + 7) ∨ a = q 6 + 2 ∨ a = q 6 + 3 ∨ a = q 7 + 2 ∨ a = q 7 + 3
def St9 (a : Nat) : Prop := a = 115 ∨ a = 116 ∨ a = 196 ∨ a = 223
theorem sc_aw (h : IDS C q) {b : Nat} (hb : Sc9 q b) : b ≠ q 0 ∧ b ≠ q 0 + 1 ∧ b ≠ q 6 ∧ b ≠ q 6 + 1 ∧ b ≠ q 7 ∧ b ≠ q 7 + 1 := by
  obtain ⟨g, w, l6, l7, d, -⟩ := ids_n h
  unfold Sc9 at hb
  clear h
  rcases hb with hb | hb | hb | hb | hb
  · omega
  · omega
  · omega
  · omega
  · omega
theorem n60 : ¬ (6 : Int32) = 0 := by decide
theorem n61 : ¬ (6 : Int32) = 1 := by decide
theorem n62 : ¬ (6 : Int32) = 2 := by decide
theorem n63 : ¬ (6 : Int32) = 3 := by decide
theorem n64 : ¬ (6 : Int32) = 4 := by decide
theorem n65 : ¬ (6 : Int32) = 5 := by decide
theorem s_winter {x3 : Int32} {m : Nat} (hI : IDS C q) (hX : CX C T (q 0) (q 6) (q 7) (q 2) (mi T 196)) (hV : VR (tw T) (th T) (mi T 196)) (hR : RF C (q 2) (mi T 196)) (hy : mi T 196 363 = Int32.ofNat m) (hm : m < 10000000) : StpO (f_X8_passWinter (q 2) (q 0) C) (f_X10_does 196 6 x3 T) C T (q 2) (Sc9 q) St9 := by
  have h6 := hV.n60
  have hn := ids_n hI
  obtain ⟨hG, -, hhl, hrl, hL0, hL1⟩ := id hX
  have hd1 : ∀ b, (b = q 6 + 2 ∨ b = q 6 + 3) → ¬ (q 2 ≤ b ∧ b ≤ q 2 + 7) := fun b hb => by omega
  have hd2 : ∀ b, (b = q 7 + 2 ∨ b = q 7 + 3) → ¬ (q 2 ≤ b ∧ b ≤ q 2 + 7) := fun b hb => by omega
  obtain ⟨C1, p1, o1⟩ := k_harmOfAll (s := 10) hX hV (fun b hb => awy_of hI (by omega))
  have ed : dmgA T (mi T 196) 10 = dmgW T (mi T 196) := dmgA_al AL.refl hV
  rw [ed] at p1
  have w1 : ∀ j, j ≤ 7 → mi C1 (q 2 + j) = mi C (q 2 + j) := fun j hj => o1.at (fun z => hd1 _ z ⟨by omega, by omega⟩)
  have w1' : mi C1 (q 2) = mi C (q 2) := w1 0 (by omega)
  have hR1 : RF C1 (q 2) (mi T 196) := hR.frame w1
  have o1s : Om (Sc9 q) C C1 := o1.mono (fun b hb => by unfold Sc9; omega)
  generalize hv1 : dmgW T (mi T 196) = v1 at p1
  generalize hC2 : sI C1 (q 2) 13 (mi C (q 2) 13 + v1) = C2
  have hhd : Hd (mi T 196) (u1 (mi T 196) 365 (mi T 196 365 + v1)) := fun j _ _ _ h4 _ => u1_ne h4
  have a2 : ∀ j, j ≠ 13 → mi C2 (q 2) j = mi C (q 2) j := fun j hj => by rw [← hC2, mi_sI_o hj, w1']
  have a213 : mi C2 (q 2) 13 = mi C (q 2) 13 + v1 := by rw [← hC2]; exact mi_sI_k
  have b2 : ∀ b, b ≠ q 2 → mi C2 b = mi C1 b := fun b hb => by rw [← hC2]; exact mi_sI_ne hb
  have o2s : Om (Sc9 q) C C2 := by rw [← hC2]; exact om_si o1s (by unfold Sc9; omega)
  obtain ⟨s, s48, es, e1, e2, sw, sh⟩ := hV.sl
  obtain ⟨-, -, w10, w12, w13, w14, -⟩ := hR.1.1
  have cs2 : ∀ b, q 2 < b → b ≤ q 2 + 7 → mi C2 b = mi C b := fun b h1 h2 => by
    rw [b2 b (by omega)]
    have := w1 (b - q 2) (by omega)
    rw [show q 2 + (b - q 2) = b by omega] at this
    exact this
  have hR2 : RF C2 (q 2) (u1 (mi T 196) 365 (mi T 196 365 + v1)) := by
    refine hd_rf hhd hV hR (fun j _ _ h3 _ => a2 j h3) ?_ ?_ ?_ ?_ cs2
    · rw [a2 10 (by omega), u1_ne (by omega), u1_ne (by omega)]; exact w10
    · rw [a2 12 (by omega), u1_ne (by omega)]; exact w12
    · rw [a213, u1_same, w13]
    · rw [a2 14 (by omega), u1_ne (by omega)]; exact w14
  have hV2 : VR (tw T) (th T) (u1 (mi T 196) 365 (mi T 196 365 + v1)) := hd_vr hhd hV sw sh (by rw [u1_ne (by omega)]; exact e1) (by rw [u1_ne (by omega)]; exact e2)
  have fr : ∀ {D : Mm}, Om (Sc9 q) C D → RGd D T (q 0) ∧ rd D (q 0) 2 = q 7 ∧ RLaw D T (q 7) 1 := fun {D} hO => by
    have no : ∀ b, (b = q 0 ∨ b = q 0 + 1 ∨ b = q 7 ∨ b = q 7 + 1) → mi D b = mi C b := fun b hb => hO.at (fun z => by have := sc_aw hI z; omega)
    refine ⟨hG.frame (no _ (by omega)) (no _ (by omega)) KT.refl, ?_, hL1.frame (Or.inr rfl) (by rw [no _ (by omega)]) (no _ (by omega)) KT.refl⟩
    unfold rd
    rw [hO.2.2.2.2.1]
    exact hrl
  have hkp : ∀ c, kpt T (u1 (mi T 196) 365 (mi T 196 365 + v1)) c ↔ kpt T (mi T 196) c := fun c => by
    unfold kpt
    rw [u1_ne (by omega)]
  have ewon : wonW T (u1 (mi T 196) 365 (mi T 196 365 + v1)) = wonW T (mi T 196) := by
    unfold wonW
    refine sm_congr (fun c _ => ?_)
    by_cases hk : kpt T (mi T 196) c
    · rw [if_pos hk, if_pos ((hkp c).mpr hk)]
    · rw [if_neg hk, if_neg (fun z => hk ((hkp c).mp z))]
  obtain ⟨C3, p3, o3, a3, a314⟩ := k_won (fr o2s).1 (by omega) hV2 hR2.1
  rw [ewon] at a314
  generalize hv2 : wonW T (mi T 196) = v2 at a314
  have o3s : Om (Sc9 q) C C3 := o2s.trans (o3.mono (fun b hb => by unfold Sc9; omega))
  generalize hr1 : u1 (u1 (mi T 196) 365 (mi T 196 365 + v1)) 366 (mi T 196 366 + v2) = r1
  have g5 : r1 365 = mi T 196 365 + v1 := by rw [← hr1, u1_ne (by omega), u1_same]
  have g6 : r1 366 = mi T 196 366 + v2 := by rw [← hr1, u1_same]
  have gj : ∀ j, j ≠ 365 → j ≠ 366 → r1 j = mi T 196 j := fun j h1 h2 => by rw [← hr1, u1_ne h2, u1_ne h1]
  have hd1' : Hd (mi T 196) r1 := fun j _ _ _ h4 h5 => gj j h4 h5
  have hV3 : VR (tw T) (th T) r1 := hd_vr hd1' hV sw sh (by rw [gj _ (by omega) (by omega)]; exact e1) (by rw [gj _ (by omega) (by omega)]; exact e2)
  have hR3 : RF C3 (q 2) r1 := by
    refine hd_rf hd1' hV hR (fun j h1 h2 h3 h4 => by rw [a3 j h4, a2 j h3]) ?_ ?_ ?_ ?_ (fun b h1 h2 => by rw [o3.at (by omega), cs2 b h1 h2])
    · rw [a3 10 (by omega), a2 10 (by omega), gj _ (by omega) (by omega), gj _ (by omega) (by omega)]; exact w10
    · rw [a3 12 (by omega), a2 12 (by omega), gj _ (by omega) (by omega)]; exact w12
    · rw [a3 13 (by omega), a213, g5, w13]
    · rw [a314, a2 14 (by omega), g6, w14]
  have hy1 : r1 363 = Int32.ofNat m := by rw [gj _ (by omega) (by omega)]; exact hy
  obtain ⟨C4, p4, o4, hR4⟩ := k_raiseF (l := q 7) (fr o3s).1 hV3 hR3 (fr o3s).2.1 (fr o3s).2.2 hy1 hm (fun b hb => by
    have := sc_aw hI (b := b) (by unfold Sc9; omega)
    omega) hd2
  obtain ⟨T', t1, t2, t3, t4, t5⟩ := m_winters (C := C) (N := T) (a := 196) (l0 := q 6) (l := q 7) LN196 (Or.inl rfl) hG.1 hV hL0 hL1 hy hm
  have hAL : AL (mi T 196) r1 := fun j h1 h2 => gj j h1 h2
  have ew : mi T' 196 = wnt T r1 := by
    funext j
    by_cases j5 : j = 365
    · rw [j5, t4, wnt_gt (by omega), yrR_o (by omega), g5, hv1]
    · by_cases j6 : j = 366
      · rw [j6, t5, wnt_gt (by omega), yrR_o (by omega), g6, hv2]
      · rw [t3 j j5 j6, (hAL.wn h6) j j5 j6]
  have hcl : f_X8_passWinter (q 2) (q 0) C = some (1, C4) := by
    unfold f_X8_passWinter g_X8_passWinter
    rw [p1, bsome]
    dsimp only
    rw [hC2, p3, bsome, p4, bsome, bsome]
    rfl
  have hml : f_X10_does 196 6 x3 T = some (1, T') := by
    unfold f_X10_does g_X10_does
    rw [m_a362 LN196, bsome, m_a361 LN196, bsome, if_neg n60, if_neg n61, if_neg n62, if_neg n63, if_neg n64, if_neg n65, t1, bsome]
    rfl
  refine ⟨1, C4, T', hcl, hml, Or.inr rfl, o3s.trans (o4.mono (fun b hb => by unfold Sc9; omega)), t2.mono (fun b hb => by unfold St9; omega), ?_, ?_, Or.inr ?_⟩
  · rw [ew]; exact wnt_vr hV3 hy1 hm
  · rw [ew]; exact hR4
  · rw [ew, wnt_gt (by omega), yrR_k, gj _ (by omega) (by omega)]
end SF9
