/-! level 3: work: steps: driving -/
section SA
variable {w h : Nat} {r r' : Nat → Int32} {C C' T T' N : Mm} {a g : Nat}
/-- what stands in the head of a row may change: place of the sledge, minutes, harm, yield -/
def Hd (r r' : Nat → Int32) : Prop := ∀ j, j ≠ 361 → j ≠ 362 → j ≠ 364 → j ≠ 365 → j ≠ 366 → r' j = r j
theorem Hd.n (e : Hd r r') : rN r' = rN r := by unfold rN; rw [e 360 (by omega) (by omega) (by omega) (by omega) (by omega)]
theorem Hd.lo (e : Hd r r') {j : Nat} (hj : j < 361 ∨ 367 ≤ j) : r' j = r j := e j (by omega) (by omega) (by omega) (by omega) (by omega)
theorem Hd.c (e : Hd r r') {k : Nat} (hk : k < 60) : rC r' k = rC r k := by unfold rC nX nY; rw [e.lo (by omega), e.lo (by omega)]
theorem hd_vr (e : Hd r r') (hV : VR w h r) {x y : Nat} (hx : x < w) (hy : y < h) (e1 : r' 361 = Int32.ofNat x) (e2 : r' 362 = Int32.ofNat y) : VR w h r' := by
  obtain ⟨h0, h1, h2, h3, h4⟩ := hV
  refine ⟨h0, ⟨by rw [e.n]; exact h1.1, by rw [e.n, e.lo (by omega)]; exact h1.2⟩, fun k hk => ?_, ⟨?_, ?_⟩, fun c hc => by rw [e.lo (by omega)]; exact h4 c hc⟩
  · rw [e.n] at hk
    have := h2 k hk
    have h6 := h1.1
    unfold VS nX nY at this ⊢
    rw [e.lo (by omega), e.lo (by omega), e.lo (by omega), e.lo (by omega)]
    exact this
  · rw [e1]
    have : (Int32.ofNat x).toNatClampNeg = x := oN_nat (by omega)
    rw [this]
    exact ⟨hx, rfl⟩
  · rw [e2]
    have : (Int32.ofNat y).toNatClampNeg = y := oN_nat (by omega)
    rw [this]
    exact ⟨hy, rfl⟩
theorem hd_rf (e : Hd r r') (hV : VR w h r) (hR : RF C a r) (c0 : ∀ j, j ≠ 10 → j ≠ 12 → j ≠ 13 → j ≠ 14 → mi C' a j = mi C a j) (c10 : mi C' a 10 = 8 * r' 362 + r' 361) (c12 : mi C' a 12 = r' 364) (c13 : mi C' a 13 = r' 365) (c14 : mi C' a 14 = r' 366) (cs : ∀ b, a < b → b ≤ a + 7 → mi C' b = mi C b) : RF C' a r' := by
  have h6 := hV.n60
  have hs : ∀ {F G : Nat → Int32}, (∀ i, i < rN r → G i = F i) → sm (rN r') G = sm (rN r) F := fun hh => by rw [e.n]; exact sm_congr hh
  obtain ⟨⟨⟨w8, w9, -, -, -, -, w7⟩, hS, hC⟩, hl, hw, hh⟩ := hR
  refine ⟨⟨⟨?_, ?_, c10, c12, c13, c14, ?_⟩, fun k hk => ?_, fun c hc => ?_⟩, ?_, ?_, fun c hc => ?_⟩
  · rw [c0 8 (by omega) (by omega) (by omega) (by omega), e.lo (by omega)]; exact w8
  · rw [c0 9 (by omega) (by omega) (by omega) (by omega), e 363 (by omega) (by omega) (by omega) (by omega) (by omega)]; exact w9
  · rw [c0 7 (by omega) (by omega) (by omega) (by omega), w7]
    exact (hs (fun i hi => by rw [e.lo (by omega)])).symm
  · rw [e.n] at hk
    rw [cs _ (by omega) (by omega), cs _ (by omega) (by omega), cs _ (by omega) (by omega), cs _ (by omega) (by omega), e.c (by omega), e.lo (by omega), e.lo (by omega), e.lo (by omega)]
    exact hS k hk
  · rw [cs _ (by omega) (by omega), cs _ (by omega) (by omega), e.lo (by omega), (hC c hc).1, (hC c hc).2]
    exact ⟨rfl, (hs (fun i hi => by unfold Li; rw [e.lo (by omega), e.c (by omega)])).symm⟩
  · unfold RLd at hl ⊢
    rw [c0 11 (by omega) (by omega) (by omega) (by omega), hl]
    exact (hs (fun i hi => by rw [e.lo (by omega), e.lo (by omega)])).symm
  · rw [c0 15 (by omega) (by omega) (by omega) (by omega), hw]
    exact (hs (fun i hi => by rw [e.lo (by omega), e.lo (by omega)])).symm
  · rw [cs _ (by omega) (by omega), hh c hc]
    exact (hs (fun i hi => by rw [e.lo (by omega), e.lo (by omega)])).symm
/-- what a step of the work does on both sides -/
def StpO (k9 : Option (Int32 × Mm)) (m9 : Option (Int32 × Mm)) (C T : Mm) (w9 : Nat) (Sc St : Nat → Prop) : Prop := ∃ v C' T', k9 = some (v, C') ∧ m9 = some (v, T') ∧ (v = 0 ∨ v = 1) ∧ Om Sc C C' ∧ Om St T T' ∧ VR (tw T) (th T) (mi T' 196) ∧ RF C' w9 (mi T' 196) ∧ (mi T' 196 363 = mi T 196 363 ∨ mi T' 196 363 = mi T 196 363 + 1)
theorem a80_3 : ai N 80 10 3 = some (mi N 80 3) := ai_o (i := 3) (by omega) (by omega)
theorem a80_4 : ai N 80 10 4 = some (mi N 80 4) := ai_o (i := 4) (by omega) (by omega)
theorem a80_5 : ai N 80 10 5 = some (mi N 80 5) := ai_o (i := 5) (by omega) (by omega)
theorem a80_6 : ai N 80 10 6 = some (mi N 80 6) := ai_o (i := 6) (by omega) (by omega)
theorem a80_7 : ai N 80 10 7 = some (mi N 80 7) := ai_o (i := 7) (by omega) (by omega)
theorem a80_8 : ai N 80 10 8 = some (mi N 80 8) := ai_o (i := 8) (by omega) (by omega)
theorem a80_9 : ai N 80 10 9 = some (mi N 80 9) := ai_o (i := 9) (by omega) (by omega)
theorem w196_361 {v : Int32} : wi N 196 (LN 196) 361 v = some (sI N 196 361 v) := by
  rw [LN196]
  exact wi_o (i := 361) (by omega) (by omega)
theorem w196_362 {v : Int32} : wi N 196 (LN 196) 362 v = some (sI N 196 362 v) := by
  rw [LN196]
  exact wi_o (i := 362) (by omega) (by omega)
theorem w196_363 {v : Int32} : wi N 196 (LN 196) 363 v = some (sI N 196 363 v) := by
  rw [LN196]
  exact wi_o (i := 363) (by omega) (by omega)
theorem w196_364 {v : Int32} : wi N 196 (LN 196) 364 v = some (sI N 196 364 v) := by
  rw [LN196]
  exact wi_o (i := 364) (by omega) (by omega)
theorem w196_365 {v : Int32} : wi N 196 (LN 196) 365 v = some (sI N 196 365 v) := by
  rw [LN196]
  exact wi_o (i := 365) (by omega) (by omega)
theorem w196_366 {v : Int32} : wi N 196 (LN 196) 366 v = some (sI N 196 366 v) := by
  rw [LN196]
  exact wi_o (i := 366) (by omega) (by omega)
/-- to a cell -/
theorem s_to {w9 c : Nat} (hG : RGd C T g) (hg : ¬ (w9 ≤ g ∧ g ≤ w9 + 7)) (hV : VR (tw T) (th T) (mi T 196)) (hR : RF C w9 (mi T 196)) (hc : c % 8 < tw T ∧ c / 8 < th T) : StpO (f_X8_driveTo w9 g (Int32.ofNat c) C) (f_X10_does 196 0 (Int32.ofNat c) T) C T w9 (fun a => w9 ≤ a ∧ a ≤ w9 + 7) (fun a => a = 196) := by
  have hcb := hV.1
  have hc48 : c < 48 := by omega
  obtain ⟨s, s48, es, e1, e2, sw, sh⟩ := hV.sl
  have w10 : mi C w9 10 = Int32.ofNat s := hR.1.1.2.2.1.trans es
  unfold f_X8_driveTo g_X8_driveTo f_X10_does g_X10_does
  rw [m_a362 LN196, bsome, m_a361 LN196, bsome, if_pos rfl, es, w10]
  by_cases h0 : Int32.ofNat c = Int32.ofNat s
  · rw [if_pos h0, if_pos h0]
    exact ⟨0, C, T, rfl, rfl, Or.inl rfl, Om.refl, Om.refl, hV, hR, Or.inl rfl⟩
  · rw [if_neg h0, if_neg h0, k_far s48 hc48, bsome, m_a364 LN196, bsome, a80_6, bsome, a80_7, bsome, bsome, bsome, bsome, kmod c hc48, kdiv c hc48, e1, e2, m_far_c hc48 s48, bsome]
    rw [w196_364, bsome, w196_361, bsome, w196_362, bsome]
    obtain ⟨-, ⟨-, -, -, -, -, g8, g9, -⟩, -⟩ := hG
    generalize hC' : sI (sI C w9 12 (mi C w9 12 + (mi C g 8 + mi C g 9 * fr s c))) w9 10 (Int32.ofNat c) = C'
    generalize hT' : sI (sI (sI T 196 364 (mi T 196 364 + (mi T 80 6 + mi T 80 7 * fr c s))) 196 361 (Int32.ofNat (c % 8))) 196 362 (Int32.ofNat (c / 8)) = T'
    have frc : fr s c = fr c s := by unfold fr nab; congr 1; omega
    have eT : ∀ j, mi T' 196 j = if j = 362 then Int32.ofNat (c / 8) else if j = 361 then Int32.ofNat (c % 8) else if j = 364 then mi T 196 364 + (mi T 80 6 + mi T 80 7 * fr c s) else mi T 196 j := fun j => by rw [← hT', mi_sI, u1_at, mi_sI, u1_at, mi_sI, u1_at]
    have eC : ∀ j, mi C' w9 j = if j = 10 then Int32.ofNat c else if j = 12 then mi C w9 12 + (mi C g 8 + mi C g 9 * fr s c) else mi C w9 j := fun j => by rw [← hC', mi_sI, u1_at, mi_sI, u1_at]
    have hd : Hd (mi T 196) (mi T' 196) := fun j h1 h2 h3 _ _ => by rw [eT, if_neg h2, if_neg h1, if_neg h3]
    have oC : Om (fun a => w9 ≤ a ∧ a ≤ w9 + 7) C C' := by rw [← hC']; exact om_si (om_si Om.refl (by omega)) (by omega)
    have oT : Om (fun a => a = 196) T T' := by rw [← hT']; exact om_si (om_si (om_si Om.refl rfl) rfl) rfl
    have v61 : mi T' 196 361 = Int32.ofNat (c % 8) := by rw [eT, if_neg (by omega), if_pos rfl]
    have v62 : mi T' 196 362 = Int32.ofNat (c / 8) := by rw [eT, if_pos rfl]
    obtain ⟨-, -, -, w12, w13, w14, -⟩ := hR.1.1
    refine ⟨1, C', T', rfl, rfl, Or.inr rfl, oC, oT, hd_vr hd hV hc.1 hc.2 v61 v62, hd_rf hd hV hR (fun j h1 h2 _ _ => by rw [eC, if_neg h1, if_neg h2]) ?_ ?_ ?_ ?_ (fun b h1 h2 => by rw [← hC', mi_sI_ne (by omega), mi_sI_ne (by omega)]), Or.inl (hd 363 (by omega) (by omega) (by omega) (by omega) (by omega))⟩
    · rw [eC, if_pos rfl, v61, v62, kcel, show 8 * (c / 8) + c % 8 = c by omega]
    · rw [eC, if_neg (by omega), if_pos rfl, eT, if_neg (by omega), if_neg (by omega), if_pos rfl, w12, g8, g9, frc]
    · rw [eC, if_neg (by omega), if_neg (by omega), w13, eT, if_neg (by omega), if_neg (by omega), if_neg (by omega)]
    · rw [eC, if_neg (by omega), if_neg (by omega), w14, eT, if_neg (by omega), if_neg (by omega), if_neg (by omega)]
end SA
