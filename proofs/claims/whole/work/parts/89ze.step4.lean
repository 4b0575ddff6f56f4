/-! level 3: work: steps: heap -/
section SE9
variable {w h : Nat} {r r' : Nat → Int32} {C C' T T' N : Mm} {a g n s : Nat} {p z : Int32}
/-- stones alike -/
theorem st_on (e : ∀ j, j ≤ 360 → r' j = r j) (h6 : rN r ≤ 60) : onS r' = onS r ∧ walS r' = walS r ∧ (∀ c, hpIn r' c = hpIn r c) ∧ lyN r' = lyN r ∧ ∀ c, lyIn r' c = lyIn r c := by
  have eN : rN r' = rN r := by unfold rN; rw [e 360 (by omega)]
  have ec : ∀ k, k < 60 → rC r' k = rC r k := fun k hk => by unfold rC nX nY; rw [e _ (by omega), e _ (by omega)]
  refine ⟨?_, ?_, fun c => ?_, ?_, fun c => ?_⟩
  · unfold onS
    rw [eN]
    exact sm_congr (fun i hi => by rw [e _ (by omega), e _ (by omega)])
  · unfold walS
    rw [eN]
    exact sm_congr (fun i hi => by rw [e _ (by omega), e _ (by omega)])
  · unfold hpIn
    rw [eN]
    exact sm_congr (fun i hi => by rw [e _ (by omega), e _ (by omega)])
  · unfold lyN
    rw [eN]
    exact sm_congr (fun i hi => by rw [e _ (by omega)])
  · unfold lyIn
    rw [eN]
    exact sm_congr (fun i hi => by unfold Li; rw [e _ (by omega), ec i (by omega)])
theorem rw_5 (hV : VR w h r) (hW : RW C a r) {i : Nat} (hi : i < 60) : RW C a (u1 r (6 * i + 5) z) := by
  have e : ∀ j, j ≠ 6 * i + 5 → u1 r (6 * i + 5) z j = r j := fun j hj => u1_ne hj
  have eN : rN (u1 r (6 * i + 5) z) = rN r := by unfold rN; rw [e 360 (by omega)]
  have ec : ∀ k, rC (u1 r (6 * i + 5) z) k = rC r k := fun k => by unfold rC nX nY; rw [e _ (by omega), e _ (by omega)]
  have hs9 : ∀ {F G : Nat → Int32}, (∀ i, i < rN r → G i = F i) → sm (rN (u1 r (6 * i + 5) z)) G = sm (rN r) F := fun hh => by rw [eN]; exact sm_congr hh
  obtain ⟨⟨w8, w9, w10, w12, w13, w14, w7⟩, hS, hC⟩ := hW
  refine ⟨?_, fun k hk => ?_, fun c hc => ?_⟩
  · rw [e _ (by omega), e _ (by omega), e _ (by omega), e _ (by omega), e _ (by omega), e _ (by omega), e _ (by omega)]
    exact ⟨w8, w9, w10, w12, w13, w14, w7.trans (hs9 (fun i hi => by rw [e _ (by omega)])).symm⟩
  · rw [eN] at hk
    rw [ec, e _ (by omega), e _ (by omega), e _ (by omega)]
    exact hS k hk
  · rw [e _ (by omega)]
    exact ⟨(hC c hc).1, (hC c hc).2.trans (hs9 (fun i hi => by unfold Li; rw [e _ (by omega), ec])).symm⟩
theorem mn_rw {v : Int32} (hV : VR w h r) (hW : RW C a r) : RW (sI C a 12 (mi C a 12 + v)) a (u1 r 364 (r 364 + v)) := by
  have e : ∀ j, j ≠ 364 → u1 r 364 (r 364 + v) j = r j := fun j hj => u1_ne hj
  have h6 := hV.n60
  obtain ⟨-, -, -, ly, li⟩ := st_on (r' := u1 r 364 (r 364 + v)) (fun j hj => e j (by omega)) h6
  have eN : rN (u1 r 364 (r 364 + v)) = rN r := by unfold rN; rw [e 360 (by omega)]
  have ec : ∀ k, k < 60 → rC (u1 r 364 (r 364 + v)) k = rC r k := fun k hk => by unfold rC nX nY; rw [e _ (by omega), e _ (by omega)]
  have b0 : ∀ b, b ≠ a → mi (sI C a 12 (mi C a 12 + v)) b = mi C b := fun b hb => mi_sI_ne hb
  have b1 : ∀ j, j ≠ 12 → mi (sI C a 12 (mi C a 12 + v)) a j = mi C a j := fun j hj => mi_sI_o hj
  obtain ⟨⟨w8, w9, w10, w12, w13, w14, w7⟩, hS, hC⟩ := hW
  refine ⟨⟨?_, ?_, ?_, ?_, ?_, ?_, ?_⟩, fun k hk => ?_, fun c hc => ?_⟩
  · rw [b1 _ (by omega), e _ (by omega)]; exact w8
  · rw [b1 _ (by omega), e _ (by omega)]; exact w9
  · rw [b1 _ (by omega), e _ (by omega), e _ (by omega)]; exact w10
  · rw [mi_sI_k, u1_same, w12]
  · rw [b1 _ (by omega), e _ (by omega)]; exact w13
  · rw [b1 _ (by omega), e _ (by omega)]; exact w14
  · rw [b1 _ (by omega), ly]; exact w7
  · rw [eN] at hk
    rw [b0 _ (by omega), b0 _ (by omega), b0 _ (by omega), b0 _ (by omega), ec k (by omega), e _ (by omega), e _ (by omega), e _ (by omega)]
    exact hS k hk
  · rw [b0 _ (by omega), b0 _ (by omega), e _ (by omega), li]
    exact hC c hc
theorem k_pile (hV : VR w h r) (hW : RW C a r) (hs : s < 48) (h10 : mi C a 10 = Int32.ofNat s) : ∃ C', whl fu (f_X8_pileUp_b60 a) (0, C) = some C' ∧ Om (fun b => b = a ∨ b = a + 4 ∨ b = a + 7) C C' ∧ RW C' a (mkR (fun k => Li r s k) 3 (Int32.ofNat s) r (rN r)) ∧ ∀ j, j ≠ 7 → mi C' a j = mi C a j := by
  have h6 := hV.n60
  exact whl_ex (f := f_X8_pileUp_b60 a) (fun i st => ∃ C2, st = (Int32.ofNat i, C2) ∧ Om (fun b => b = a ∨ b = a + 4 ∨ b = a + 7) C C2 ∧ RW C2 a (mkR (fun k => Li r s k) 3 (Int32.ofNat s) r i) ∧ ∀ j, j ≠ 7 → mi C2 a j = mi C a j) (fun C2 => Om (fun b => b = a ∨ b = a + 4 ∨ b = a + 7) C C2 ∧ RW C2 a (mkR (fun k => Li r s k) 3 (Int32.ofNat s) r (rN r)) ∧ ∀ j, j ≠ 7 → mi C2 a j = mi C a j) (rN r) fu (0, C) (by show rN r < 1000000; omega) ⟨C, rfl, Om.refl, hW, fun _ _ => rfl⟩ (by
    rintro i st hi ⟨C2, rfl, hO, hW2, ha2⟩
    have hV2 : VR w h (mkR (fun k => Li r s k) 3 (Int32.ofNat s) r i) := mk_vr hV (by omega) ⟨3, by omega, rfl⟩
    have n2 : rN (mkR (fun k => Li r s k) 3 (Int32.ofNat s) r i) = rN r := mk_N (by omega)
    have p2 : mkR (fun k => Li r s k) 3 (Int32.ofNat s) r i (6 * i + 4) = r (6 * i + 4) := by rw [mk_4, if_neg (fun z => absurd z.1 (by omega))]
    have l2 : Li (mkR (fun k => Li r s k) 3 (Int32.ofNat s) r i) s i ↔ Li r s i := by unfold Li; rw [p2, mk_c]
    refine Or.inl ?_
    unfold f_X8_pileUp_b60
    dsimp only
    rw [hW2.n, hV2.n, n2, if_neg (nle hi (by omega)), ha2 10 (by omega), h10, k_liesIn hV2 hW2 (by rw [n2]; exact hi) hs, bsome]
    by_cases hL : Li r s i
    · rw [if_pos (l2.mpr hL), if_neg z10]
      obtain ⟨C3, t1, t2, t3, t4⟩ := k_takeUp (p := 3) hV2 hW2 (i := i) (by rw [n2]; exact hi) (by rw [p2]; exact hL.1) (by decide)
      rw [t1, bsome, oN_S]
      refine ⟨_, rfl, C3, rfl, hO.trans t2, ?_, fun j hj => (t4 j hj).trans (ha2 j hj)⟩
      rw [mk_y (P := fun k => Li r s k) hL]
      exact rw_5 (pl_vr hV2 (by omega) ⟨3, by omega, rfl⟩) t3 (by omega)
    · rw [if_neg (fun z => hL (l2.mp z)), if_pos z00, oN_S]
      refine ⟨_, rfl, C2, rfl, hO, ?_, ha2⟩
      rw [mk_n (P := fun k => Li r s k) hL]
      exact hW2) (by
    rintro st ⟨C2, rfl, hO, hW2, ha2⟩
    have hV2 : VR w h (mkR (fun k => Li r s k) 3 (Int32.ofNat s) r (rN r)) := mk_vr hV h6 ⟨3, by omega, rfl⟩
    refine ⟨C2, ?_, hO, hW2, ha2⟩
    unfold f_X8_pileUp_b60
    dsimp only
    rw [hW2.n, hV2.n, mk_N h6, if_pos (le_rf _)])
theorem m_pile (hV : VR w h (mi N 196)) (hs : s < 48) : ∃ N', whl fu (f_X10_does_b352 196 (Int32.ofNat s)) (0, N) = some N' ∧ Om (fun b => b = 196) N N' ∧ mi N' 196 = mkR (fun k => Li (mi N 196) s k) 3 (Int32.ofNat s) (mi N 196) (rN (mi N 196)) := by
  have h6 := hV.n60
  generalize hr : mi N 196 = r at hV h6
  exact whl_ex (f := f_X10_does_b352 196 (Int32.ofNat s)) (fun i st => ∃ N1, st = (Int32.ofNat i, N1) ∧ Om (fun b => b = 196) N N1 ∧ mi N1 196 = mkR (fun k => Li r s k) 3 (Int32.ofNat s) r i) (fun N1 => Om (fun b => b = 196) N N1 ∧ mi N1 196 = mkR (fun k => Li r s k) 3 (Int32.ofNat s) r (rN r)) (rN r) fu (0, N) (by show rN r < 1000000; omega) ⟨N, rfl, Om.refl, hr⟩ (by
    rintro i st hi ⟨N1, rfl, hO, hq⟩
    have hV1 : VR w h (mi N1 196) := by rw [hq]; exact mk_vr hV (by omega) ⟨3, by omega, rfl⟩
    have n1 : rN (mi N1 196) = rN r := by rw [hq]; exact mk_N (by omega)
    have p2 : mi N1 196 (6 * i + 4) = r (6 * i + 4) := by rw [hq, mk_4, if_neg (fun z => absurd z.1 (by omega))]
    have c2 : rC (mi N1 196) i = rC r i := by rw [hq, mk_c]
    have h48 := hV.c48 hi
    refine Or.inl ?_
    unfold f_X10_does_b352
    dsimp only
    rw [m_a360 LN196, bsome, hV1.n, n1, if_neg (nle hi (by omega)), m_isLying LN196 (by omega), bsome, p2, oN_S]
    by_cases h0 : r (6 * i + 4) = 0
    · rw [if_pos h0, if_neg z10, m_cellOf LN196 hV1 (by rw [n1]; exact hi), bsome, c2]
      by_cases h1 : rC r i = s
      · rw [if_pos (congrArg Int32.ofNat h1), LN196, show (6 : Int32) * Int32.ofNat i + 4 = Int32.ofNat (6 * i + 4) from ix6 (j := 4), show (6 : Int32) * Int32.ofNat i + 5 = Int32.ofNat (6 * i + 5) from ix6 (j := 5), wi_o (by omega) (by omega), bsome, wi_o (by omega) (by omega), bsome]
        refine ⟨_, rfl, _, rfl, om_si (om_si hO rfl) rfl, ?_⟩
        rw [mi_sI, mi_sI, hq, mk_y (P := fun k => Li r s k) ⟨h0, h1⟩]
        rfl
      · rw [if_neg (fun z => h1 ((oN_eq (by omega) (by omega)).mp z))]
        refine ⟨_, rfl, N1, rfl, hO, ?_⟩
        rw [mk_n (P := fun k => Li r s k) (fun z => h1 z.2)]
        exact hq
    · rw [if_neg h0, if_pos z00]
      refine ⟨_, rfl, N1, rfl, hO, ?_⟩
      rw [mk_n (P := fun k => Li r s k) (fun z => h0 z.1)]
      exact hq) (by
    rintro st ⟨N1, rfl, hO, hq⟩
    refine ⟨N1, ?_, hO, hq⟩
    unfold f_X10_does_b352
    dsimp only
    rw [m_a360 LN196, bsome, hq, mk_gt h6 (by omega), hV.n, if_pos (le_rf _)])
theorem s_heap {w9 : Nat} {x3 : Int32} (hV : VR (tw T) (th T) (mi T 196)) (hR : RF C w9 (mi T 196)) : StpO (f_X8_pileUp w9 C) (f_X10_does 196 4 x3 T) C T w9 (fun a => w9 ≤ a ∧ a ≤ w9 + 7) (fun a => a = 196) := by
  have h6 := hV.n60
  obtain ⟨s, s48, es, e1, e2, sw, sh⟩ := hV.sl
  have w10 : mi C w9 10 = Int32.ofNat s := hR.1.1.2.2.1.trans es
  unfold f_X8_pileUp g_X8_pileUp f_X10_does g_X10_does
  rw [show mi C w9 11 = onS (mi T 196) from hR.2.1, m_a362 LN196, bsome, m_a361 LN196, bsome, if_neg n40, if_neg n41, if_neg n42, if_neg n43, if_pos (rfl : (4 : Int32) = 4), m_onSledge LN196 hV, bsome]
  by_cases h0 : onS (mi T 196) = 0
  · rw [if_pos h0, if_pos h0]
    exact ⟨0, C, T, rfl, rfl, Or.inl rfl, Om.refl, Om.refl, hV, hR, Or.inl rfl⟩
  · obtain ⟨C4, p1, p2, p3, p4, p5⟩ := k_unload (p := 3) (z := Int32.ofNat s) hV hR.1 (by decide) (by decide)
    obtain ⟨T2, t1, t2, t3⟩ := m_unloads (p := 3) (z := Int32.ofNat s) (w := tw T) (h := th T) (N := T) hV
    rw [if_neg h0, if_neg h0, w10, k_isCell s48, bsome, if_neg z10, p1, bsome, m_a364 LN196, bsome, es, t1, bsome]
    dsimp only
    have hnn : ∀ q9 : Int32, ¬ (1 : Int32) = q9 → ∀ k, k < rN (mi T 196) → mi T 196 (6 * k + 4) = 1 → ¬ mi T 196 (6 * k + 4) = q9 := fun q9 hq k _ h1 => ne1 h1 hq
    generalize hwh : whN (mi T 196) 1 = wh
    have hsm : sm (rN (mi T 196)) (fun k => if mi T 196 (6 * k + 4) = 1 then 1 else 0) = wh := hwh
    generalize hr2 : mkR (fun k => mi T 196 (6 * k + 4) = 1) 3 (Int32.ofNat s) (mi T 196) (rN (mi T 196)) = r2 at p3 t3
    have hV2 : VR (tw T) (th T) r2 := by rw [← hr2]; exact mk_vr hV h6 ⟨3, by omega, rfl⟩
    have n2 : rN r2 ≤ 60 := hV2.n60
    have f364 : mi T 196 364 = r2 364 := by rw [← hr2, mk_gt h6 (by omega)]
    have f363 : mi T 196 363 = r2 363 := by rw [← hr2, mk_gt h6 (by omega)]
    have on2 : onS r2 = 0 := by rw [← hr2]; exact ul_on h6 (by decide)
    have wa2 : walS r2 = walS (mi T 196) := by rw [← hr2]; exact mk_wal h6 (hnn 2 (by decide)) n32
    have hp2 : ∀ c, c < 48 → hpIn r2 c = if c = s then hpIn (mi T 196) c + wh else hpIn (mi T 196) c := fun c hc => by rw [← hr2, mk_hpIn h6 hc s48 (hnn 3 (by decide)), hsm]
    rw [f364]
    generalize hC5 : sI C4 w9 12 (mi C4 w9 12 + wh) = C5
    generalize hr3 : u1 r2 364 (r2 364 + wh) = r3
    have hV3 : VR (tw T) (th T) r3 := by rw [← hr3]; exact mn_vr hV2
    have n3 : rN r3 ≤ 60 := hV3.n60
    have g3 : ∀ j, j ≠ 364 → r3 j = r2 j := fun j hj => by rw [← hr3]; exact u1_ne hj
    obtain ⟨on3, wa3, hp3, -, li3⟩ := st_on (r := r2) (r' := r3) (fun j hj => g3 j (by omega)) n2
    have hW5 : RW C5 w9 r3 := by rw [← hC5, ← hr3]; exact mn_rw hV2 p3
    have a5 : ∀ j, j ≠ 12 → mi C5 w9 j = mi C4 w9 j := fun j hj => by rw [← hC5]; exact mi_sI_o hj
    have b5 : ∀ b, b ≠ w9 → mi C5 b = mi C4 b := fun b hb => by rw [← hC5]; exact mi_sI_ne hb
    have c10 : mi C5 w9 10 = Int32.ofNat s := by rw [a5 10 (by omega), p5 10 (by omega)]; exact w10
    have v6 : mi C5 (w9 + 6) s = hpIn (mi T 196) s := by rw [b5 _ (by omega), p2.at (by omega)]; exact hR.2.2.2 s s48
    have v8 : mi C5 (w9 + 7) s = lyIn r3 s := (hW5.2.2 s s48).2
    rw [c10, ai_o s48 (by omega), bsome, ai_o s48 (by omega), bsome, wi_o s48 (by omega), bsome, v6, v8]
    generalize hC6 : sI C5 (w9 + 6) s (hpIn (mi T 196) s + (wh + lyIn r3 s)) = C6
    have b6 : ∀ b, b ≠ w9 + 6 → mi C6 b = mi C5 b := fun b hb => by rw [← hC6]; exact mi_sI_ne hb
    have hW6 : RW C6 w9 r3 := rw_11 hW5 (fun j _ _ => by rw [b6 w9 (by omega)]) (fun b _ _ h3 => b6 b h3)
    obtain ⟨C7, q1, q2, q3, q4⟩ := k_pile hV3 hW6 s48 (by rw [b6 w9 (by omega)]; exact c10)
    have w364 : wi T2 196 (LN 196) 364 (r2 364 + wh) = some (sI T2 196 364 (r2 364 + wh)) := w196_364
    have er3 : mi (sI T2 196 364 (r2 364 + wh)) 196 = r3 := by rw [mi_sI, t3]; exact hr3
    obtain ⟨T4, u1', u2, u3⟩ := m_pile (s := s) (w := tw T) (h := th T) (N := sI T2 196 364 (r2 364 + wh)) (by rw [er3]; exact hV3) s48
    rw [er3] at u3
    have h710 : mi C7 w9 10 = Int32.ofNat s := by rw [q4 10 (by omega), b6 w9 (by omega)]; exact c10
    rw [q1, bsome, h710, wi_o s48 (by omega), bsome, w364, bsome, bsome, u1', bsome, w_lost s48, bsome]
    have hLn : ∀ q9 : Int32, ¬ (0 : Int32) = q9 → ∀ k, k < rN r3 → Li r3 s k → ¬ r3 (6 * k + 4) = q9 := fun q9 hq k _ h1 z => hq (h1.1.symm.trans z)
    generalize hr4 : mkR (fun k => Li r3 s k) 3 (Int32.ofNat s) r3 (rN r3) = r4 at q3 u3
    have hV4 : VR (tw T) (th T) r4 := by rw [← hr4]; exact mk_vr hV3 n3 ⟨3, by omega, rfl⟩
    have hR4 : RF C7 w9 r4 := by
      refine ⟨q3, ?_, ?_, fun c hc => ?_⟩
      · unfold RLd
        rw [q4 11 (by omega), b6 w9 (by omega), a5 11 (by omega), p4, ← hr4, mk_on n3 (hLn 1 (by decide)) n31, on3, on2]
      · rw [q4 15 (by omega), b6 w9 (by omega), a5 15 (by omega), p5 15 (by omega), hR.2.2.1, ← hr4, mk_wal n3 (hLn 2 (by decide)) n32, wa3, wa2]
      · rw [q2.at (by omega), ← hr4, mk_hpIn n3 hc s48 (hLn 3 (by decide)), hp3 c, hp2 c hc, ← hC6, mi_sI, u1_at]
        by_cases e : c = s
        · rw [if_pos e, if_pos e, if_pos e, e, ← Int32.add_assoc]
          rfl
        · rw [if_neg e, if_neg e, if_neg e, b5 _ (by omega), p2.at (by omega)]
          exact hR.2.2.2 c hc
    have oC : Om (fun a => w9 ≤ a ∧ a ≤ w9 + 7) C C7 := by
      refine Om.trans ?_ (q2.mono (fun b hb => by omega))
      rw [← hC6, ← hC5]
      exact om_si (om_si (p2.mono (fun b hb => by omega)) (by omega)) (by omega)
    have oT : Om (fun a => a = 196) T T4 := (t2.trans (Om.sI rfl)).trans u2
    refine ⟨1, _, _, rfl, rfl, Or.inr rfl, om_si oC (by omega), om_si oT rfl, ?_, ?_, Or.inl ?_⟩
    · rw [mi_sI, u3]; exact lo_vr hV4 s48
    · rw [mi_sI, u3]; exact lo_rf hV4 hR4 s48
    · rw [mi_sI_o (by omega), u3, ← hr4, mk_gt n3 (by omega), g3 363 (by omega), f363]
end SE9
