/-! level 3: work: steps: lift and bar -/
section SB9
variable {w h : Nat} {r r' : Nat → Int32} {C C' T T' N : Mm} {a g : Nat} {y : Int64}
/-- the stones of y among the first n on the sledge -/
def slR (y : Int64) (r : Nat → Int32) : Nat → (Nat → Int32)
  | 0 => r
  | n + 1 => if bt (V64 y) n = 1 then plR (slR y r n) n 1 else slR y r n
theorem slR_y {n : Nat} (hb : bt (V64 y) n = 1) : slR y r (n + 1) = plR (slR y r n) n 1 := if_pos hb
theorem slR_n {n : Nat} (hb : ¬ bt (V64 y) n = 1) : slR y r (n + 1) = slR y r n := if_neg hb
theorem sl_o {j : Nat} : ∀ n, (∀ k, k < n → j ≠ 6 * k + 4) → slR y r n j = r j := by
  intro n
  induction n with
  | zero => exact fun _ => rfl
  | succ n ih =>
    intro hj
    by_cases hb : bt (V64 y) n = 1
    · rw [slR_y hb]
      unfold plR
      rw [u1_ne (hj n (by omega)), ih (fun k hk => hj k (by omega))]
    · rw [slR_n hb, ih (fun k hk => hj k (by omega))]
theorem sl_4 {k : Nat} : ∀ n, slR y r n (6 * k + 4) = if k < n ∧ bt (V64 y) k = 1 then 1 else r (6 * k + 4) := by
  intro n
  induction n with
  | zero => rw [if_neg (show ¬ (k < 0 ∧ bt (V64 y) k = 1) from fun z => absurd z.1 (by omega))]; rfl
  | succ n ih =>
    by_cases hb : bt (V64 y) n = 1
    · rw [slR_y hb, pl_4, ih]
      by_cases e : k = n
      · rw [if_pos e, if_pos ⟨by omega, by rw [e]; exact hb⟩]
      · rw [if_neg e]
        by_cases hk : k < n ∧ bt (V64 y) k = 1
        · rw [if_pos hk, if_pos ⟨by omega, hk.2⟩]
        · rw [if_neg hk, if_neg (fun z => hk ⟨by omega, z.2⟩)]
    · rw [slR_n hb, ih]
      by_cases hk : k < n ∧ bt (V64 y) k = 1
      · rw [if_pos hk, if_pos ⟨by omega, hk.2⟩]
      · rw [if_neg hk, if_neg (fun z => hk ⟨by
          by_cases e : k = n
          · rw [e] at z; exact absurd z.2 hb
          · omega, z.2⟩)]
theorem sl_gt {n j : Nat} (hn : n ≤ 60) (hj : 360 ≤ j) : slR y r n j = r j := sl_o n (fun k hk => by omega)
theorem sl_N {n : Nat} (hn : n ≤ 60) : rN (slR y r n) = rN r := by unfold rN; rw [sl_gt hn (by omega)]
theorem sl_c {n k : Nat} : rC (slR y r n) k = rC r k := by
  unfold rC nX nY
  rw [sl_o n (fun i _ => by omega), sl_o n (fun i _ => by omega)]
theorem sl_vr (hV : VR w h r) : ∀ n, n ≤ 60 → VR w h (slR y r n) := by
  intro n
  induction n with
  | zero => exact fun _ => hV
  | succ n ih =>
    intro hn
    by_cases hb : bt (V64 y) n = 1
    · rw [slR_y hb]; exact pl_vr (ih (by omega)) (by omega) ⟨1, by omega, rfl⟩
    · rw [slR_n hb]; exact ih (by omega)
theorem sl_onS (h6 : rN r ≤ 60) (hb : ∀ k, k < rN r → bt (V64 y) k = 1 → r (6 * k + 4) = 0) : onS (slR y r (rN r)) = onS r + sm (rN r) (fun i => if bt (V64 y) i = 1 then r (6 * i + 2) else 0) := by
  unfold onS
  rw [sl_N h6, ← sm_add]
  refine sm_congr (fun i hi => ?_)
  rw [sl_4, sl_o (j := 6 * i + 2) _ (fun k _ => by omega)]
  by_cases hbt : bt (V64 y) i = 1
  · rw [if_pos (And.intro hi hbt), if_pos rfl, hb i hi hbt, if_neg (show ¬ (0 : Int32) = 1 by decide), if_pos hbt, Int32.zero_add]
  · rw [if_neg (show ¬ (i < rN r ∧ bt (V64 y) i = 1) from fun z => hbt z.2), if_neg hbt, Int32.add_zero]
theorem sl_walS (h6 : rN r ≤ 60) (hb : ∀ k, k < rN r → bt (V64 y) k = 1 → r (6 * k + 4) = 0) : walS (slR y r (rN r)) = walS r := by
  unfold walS
  rw [sl_N h6]
  refine sm_congr (fun i hi => ?_)
  rw [sl_4, sl_o (j := 6 * i + 2) _ (fun k _ => by omega)]
  by_cases hbt : bt (V64 y) i = 1
  · rw [if_pos (And.intro hi hbt), hb i hi hbt, if_neg (show ¬ (1 : Int32) = 2 by decide), if_neg (show ¬ (0 : Int32) = 2 by decide)]
  · rw [if_neg (show ¬ (i < rN r ∧ bt (V64 y) i = 1) from fun z => hbt z.2)]
theorem sl_hpIn {c : Nat} (h6 : rN r ≤ 60) (hb : ∀ k, k < rN r → bt (V64 y) k = 1 → r (6 * k + 4) = 0) : hpIn (slR y r (rN r)) c = hpIn r c := by
  unfold hpIn
  rw [sl_N h6]
  refine sm_congr (fun i hi => ?_)
  rw [sl_4, sl_o (j := 6 * i + 5) _ (fun k _ => by omega)]
  by_cases hbt : bt (V64 y) i = 1
  · rw [if_pos (And.intro hi hbt), hb i hi hbt, if_neg (show ¬ ((1 : Int32) = 3 ∧ _) from fun z => absurd z.1 (by decide)), if_neg (show ¬ ((0 : Int32) = 3 ∧ _) from fun z => absurd z.1 (by decide))]
  · rw [if_neg (show ¬ (i < rN r ∧ bt (V64 y) i = 1) from fun z => hbt z.2)]
/-- the load may change, and the heaps -/
theorem rw_11 (hW : RW C a r) (e0 : ∀ j, j ≠ 11 → j ≠ 15 → mi C' a j = mi C a j) (es : ∀ b, a < b → b ≤ a + 7 → b ≠ a + 6 → mi C' b = mi C b) : RW C' a r := by
  obtain ⟨⟨w8, w9, w10, w12, w13, w14, w7⟩, hS, hC⟩ := hW
  refine ⟨⟨?_, ?_, ?_, ?_, ?_, ?_, ?_⟩, fun k hk => ?_, fun c hc => ?_⟩
  · rw [e0 _ (by omega) (by omega)]; exact w8
  · rw [e0 _ (by omega) (by omega)]; exact w9
  · rw [e0 _ (by omega) (by omega)]; exact w10
  · rw [e0 _ (by omega) (by omega)]; exact w12
  · rw [e0 _ (by omega) (by omega)]; exact w13
  · rw [e0 _ (by omega) (by omega)]; exact w14
  · rw [e0 _ (by omega) (by omega)]; exact w7
  · rw [es _ (by omega) (by omega) (by omega), es _ (by omega) (by omega) (by omega), es _ (by omega) (by omega) (by omega), es _ (by omega) (by omega) (by omega)]
    exact hS k hk
  · rw [es _ (by omega) (by omega) (by omega), es _ (by omega) (by omega) (by omega)]
    exact hC c hc
theorem k_putOn (hV : VR w h r) (hR : RF C a r) (hb : ∀ k, k < rN r → bt (V64 y) k = 1 → r (6 * k + 4) = 0) : ∃ C', f_X8_putOnSledge a y C = some C' ∧ Om (fun b => a ≤ b ∧ b ≤ a + 7) C C' ∧ RF C' a (slR y r (rN r)) := by
  have h6 := hV.n60
  obtain ⟨hW, hl, hw, hh⟩ := hR
  generalize hS : sm (rN r) (fun i => if bt (V64 y) i = 1 then r (6 * i + 2) else 0) = S
  generalize hC1 : sI C a 11 (mi C a 11 + S) = C1
  have o1 : Om (fun b => a ≤ b ∧ b ≤ a + 7) C C1 := by rw [← hC1]; exact om_si Om.refl (by omega)
  have a1 : ∀ j, j ≠ 11 → mi C1 a j = mi C a j := fun j hj => by rw [← hC1]; exact mi_sI_o hj
  have s1 : ∀ b, a < b → mi C1 b = mi C b := fun b hb => by rw [← hC1]; exact mi_sI_ne (by omega)
  have hW1 : RW C1 a r := rw_11 hW (fun j h1 _ => a1 j h1) (fun b h1 _ _ => s1 b h1)
  obtain ⟨C2, e2, o2, hW2, a2⟩ := whl_ex (f := f_X8_putOnSledge_b16 a y) (fun i st => ∃ C2, st = (Int32.ofNat i, C2) ∧ Om (fun b => b = a ∨ b = a + 4 ∨ b = a + 7) C1 C2 ∧ RW C2 a (slR y r i) ∧ ∀ j, j ≠ 7 → mi C2 a j = mi C1 a j) (fun C2 => Om (fun b => b = a ∨ b = a + 4 ∨ b = a + 7) C1 C2 ∧ RW C2 a (slR y r (rN r)) ∧ ∀ j, j ≠ 7 → mi C2 a j = mi C1 a j) (rN r) fu (0, C1) (by show rN r < 1000000; omega) ⟨C1, rfl, Om.refl, hW1, fun _ _ => rfl⟩ (by
    rintro i st hi ⟨C2, rfl, hO, hW2, ha2⟩
    have hV2 : VR w h (slR y r i) := sl_vr hV i (by omega)
    have n2 : rN (slR y r i) = rN r := sl_N (by omega)
    refine Or.inl ?_
    unfold f_X8_putOnSledge_b16
    dsimp only
    rw [hW2.n, hV2.n, n2, if_neg (nle hi (by omega)), k_holds (by omega), bsome]
    by_cases hbt : bt (V64 y) i = 1
    · rw [if_pos hbt, if_neg z10]
      obtain ⟨C3, p1, p2, p3, p4⟩ := k_takeUp (p := 1) hV2 hW2 (i := i) (by rw [n2]; exact hi) (by rw [sl_4, if_neg (fun z => absurd z.1 (by omega))]; exact hb i hi hbt) (by decide)
      rw [p1, bsome, oN_S]
      refine ⟨_, rfl, C3, rfl, hO.trans p2, ?_, fun j hj => (p4 j hj).trans (ha2 j hj)⟩
      rw [slR_y hbt]
      exact p3
    · rw [if_neg hbt, if_pos z00, oN_S]
      refine ⟨_, rfl, C2, rfl, hO, ?_, ha2⟩
      rw [slR_n hbt]
      exact hW2) (by
    rintro st ⟨C2, rfl, hO, hW2, ha2⟩
    have hV2 : VR w h (slR y r (rN r)) := sl_vr hV _ h6
    refine ⟨C2, ?_, hO, hW2, ha2⟩
    unfold f_X8_putOnSledge_b16
    dsimp only
    rw [hW2.n, hV2.n, sl_N h6, if_pos (le_rf _)])
  unfold f_X8_putOnSledge
  rw [k_sizesOf hV hW, bsome, hS, hC1, show whl fu (f_X8_putOnSledge_b16 a y) (0, C1) = some C2 from e2, bsome]
  refine ⟨C2, rfl, o1.trans (o2.mono (fun b hb => by omega)), hW2, ?_, ?_, fun c hc => ?_⟩
  · unfold RLd at hl ⊢
    rw [a2 11 (by omega), ← hC1, mi_sI_k, hl, sl_onS h6 hb, hS]
  · rw [a2 15 (by omega), a1 15 (by omega), hw, sl_walS h6 hb]
  · rw [o2.at (by omega), s1 _ (by omega), hh c hc, sl_hpIn h6 hb]
theorem m_sledges (hV : VR w h (mi N 196)) : ∃ N', f_X10_sledges 196 y N = some N' ∧ Om (fun b => b = 196) N N' ∧ mi N' 196 = slR y (mi N 196) (rN (mi N 196)) := by
  have h6 := hV.n60
  obtain ⟨N2, e2, o2, q2⟩ := whl_ex (f := f_X10_sledges_b2 196 y) (fun i st => ∃ N1, st = (Int32.ofNat i, N1) ∧ Om (fun b => b = 196) N N1 ∧ mi N1 196 = slR y (mi N 196) i) (fun N1 => Om (fun b => b = 196) N N1 ∧ mi N1 196 = slR y (mi N 196) (rN (mi N 196))) (rN (mi N 196)) fu (0, N) (by show rN (mi N 196) < 1000000; omega) ⟨N, rfl, Om.refl, rfl⟩ (by
    rintro i st hi ⟨N1, rfl, hO, hq⟩
    refine Or.inl ?_
    unfold f_X10_sledges_b2
    dsimp only
    rw [m_a360 LN196, bsome, hq, sl_gt (by omega) (by omega), hV.n, if_neg (nle hi hV.n1), bit64 (by omega)]
    by_cases hb : bt (V64 y) i = 1
    · rw [if_pos hb, if_pos (lg_z.mpr rfl), LN196, show (6 : Int32) * Int32.ofNat i + 4 = Int32.ofNat (6 * i + 4) from ix6 (j := 4), wi_o (by omega) (by omega), bsome, oN_S]
      refine ⟨_, rfl, _, rfl, om_si hO rfl, ?_⟩
      rw [mi_sI, hq, slR_y hb]
      rfl
    · rw [if_neg hb, if_neg (fun p => absurd (lg_z.mp p) (by decide)), oN_S]
      refine ⟨_, rfl, N1, rfl, hO, ?_⟩
      rw [slR_n hb]
      exact hq) (by
    rintro st ⟨N1, rfl, hO, hq⟩
    refine ⟨N1, ?_, hO, hq⟩
    unfold f_X10_sledges_b2
    dsimp only
    rw [m_a360 LN196, bsome, hq, sl_gt h6 (by omega), hV.n, if_pos (le_rf _)])
  unfold f_X10_sledges
  rw [show whl fu (f_X10_sledges_b2 196 y) (0, N) = some N2 from e2, bsome]
  exact ⟨N2, rfl, o2, q2⟩
/-- what a lift takes lies there -/
theorem ldS_li {c k : Nat} {lg l0 : Int32} : ∀ n, n ≤ 60 → bt (V64 (ldS T r c lg l0 n).1) k = 1 → Li r c k := by
  intro n
  induction n with
  | zero =>
    intro _ hb
    have e : bt (V64 0) k = 0 := by unfold bt; rw [show V64 0 = 0 by decide, Nat.zero_testBit]; rfl
    have hb' : bt (V64 0) k = 1 := hb
    rw [e] at hb'
    exact absurd hb' (by decide)
  | succ n ih =>
    intro hn hb
    by_cases hP : Li r c n ∧ (if r (6 * n + 2) ≤ mi T 80 4 then (0 : Int32) else 1) = lg ∧ (ldS T r c lg l0 n).2 + r (6 * n + 2) ≤ mi T 80 8
    · rw [show ldS T r c lg l0 (n + 1) = _ from if_pos hP] at hb
      have e : bt (V64 ((ldS T r c lg l0 n).1 ||| ((1 : Int64) <<< ((Int32.ofNat n).toInt64 &&& 63)))) k = 1 := hb
      rw [V64_or, V64_one n (by omega)] at e
      by_cases hk : n = k
      · rw [← hk]; exact hP.1
      · refine ih (by omega) ?_
        unfold bt at e ⊢
        rw [Nat.testBit_or, Nat.testBit_two_pow, decide_eq_false hk, Bool.or_false] at e
        exact e
    · rw [show ldS T r c lg l0 (n + 1) = _ from if_neg hP] at hb
      exact ih (by omega) hb
/-! minutes -/
theorem mn_hd {v : Int32} : Hd r (u1 r 364 v) := fun _ _ _ h3 _ _ => u1_ne h3
theorem mn_vr (hV : VR w h r) {v : Int32} : VR w h (u1 r 364 v) := by
  obtain ⟨s, -, -, e1, e2, sw, sh⟩ := hV.sl
  exact hd_vr mn_hd hV sw sh (by rw [u1_ne (by omega)]; exact e1) (by rw [u1_ne (by omega)]; exact e2)
theorem mn_rf (hV : VR w h r) (hR : RF C a r) {v : Int32} : RF (sI C a 12 (mi C a 12 + v)) a (u1 r 364 (r 364 + v)) := by
  obtain ⟨-, -, w10, w12, w13, w14, -⟩ := hR.1.1
  refine hd_rf mn_hd hV hR (fun j _ h2 _ _ => mi_sI_o h2) ?_ ?_ ?_ ?_ (fun b h1 h2 => mi_sI_ne (by omega))
  · rw [mi_sI_o (by omega), u1_ne (by omega), u1_ne (by omega)]; exact w10
  · rw [mi_sI_k, u1_same, w12]
  · rw [mi_sI_o (by omega), u1_ne (by omega)]; exact w13
  · rw [mi_sI_o (by omega), u1_ne (by omega)]; exact w14
/-- stones put on the sledge, so many minutes spent -/
theorem s_puts {w9 : Nat} {v : Int32} {T1 : Mm} (hV : VR (tw T) (th T) (mi T 196)) (hR : RF C w9 (mi T 196)) (hO : Om (fun a => a = 196) T T1) (er : mi T1 196 = u1 (mi T 196) 364 (mi T 196 364 + v)) (hb : ∀ k, k < rN (mi T 196) → bt (V64 y) k = 1 → mi T 196 (6 * k + 4) = 0) : ∃ C' T', f_X8_putOnSledge w9 y (sI C w9 12 (mi C w9 12 + v)) = some C' ∧ f_X10_sledges 196 y T1 = some T' ∧ Om (fun a => w9 ≤ a ∧ a ≤ w9 + 7) C C' ∧ Om (fun a => a = 196) T T' ∧ VR (tw T) (th T) (mi T' 196) ∧ RF C' w9 (mi T' 196) ∧ (mi T' 196 363 = mi T 196 363 ∨ mi T' 196 363 = mi T 196 363 + 1) := by
  have h6 := hV.n60
  generalize hr1 : u1 (mi T 196) 364 (mi T 196 364 + v) = r1 at er
  have hd : Hd (mi T 196) r1 := by rw [← hr1]; exact mn_hd
  have hV1 : VR (tw T) (th T) r1 := by rw [← hr1]; exact mn_vr hV
  have hR1 : RF (sI C w9 12 (mi C w9 12 + v)) w9 r1 := by rw [← hr1]; exact mn_rf hV hR
  have n1 : rN r1 = rN (mi T 196) := hd.n
  obtain ⟨C', p1, p2, p3⟩ := k_putOn (y := y) hV1 hR1 (fun k hk hbt => by rw [hd.lo (by omega)]; exact hb k (by omega) hbt)
  obtain ⟨T', q1, q2, q3⟩ := m_sledges (y := y) (w := tw T) (h := th T) (N := T1) (by rw [er]; exact hV1)
  rw [er] at q3
  refine ⟨C', T', p1, q1, (om_si Om.refl (by omega)).trans p2, hO.trans q2, ?_, ?_, Or.inl ?_⟩
  · rw [q3]; exact sl_vr hV1 _ (by omega)
  · rw [q3]; exact p3
  · rw [q3, sl_gt (by omega) (by omega), hd 363 (by omega) (by omega) (by omega) (by omega) (by omega)]
theorem n21 : ¬ (2 : Int32) = 1 := by decide
theorem n20 : ¬ (2 : Int32) = 0 := by decide
theorem s_lift {w9 c : Nat} (hG : RGd C T g) (hV : VR (tw T) (th T) (mi T 196)) (hR : RF C w9 (mi T 196)) (hc : c < 48) : StpO (f_X8_liftFrom w9 g (Int32.ofNat c) C) (f_X10_does 196 1 (Int32.ofNat c) T) C T w9 (fun a => w9 ≤ a ∧ a ≤ w9 + 7) (fun a => a = 196) := by
  have h6 := hV.n60
  obtain ⟨s, s48, es, e1, e2, sw, sh⟩ := hV.sl
  unfold f_X8_liftFrom g_X8_liftFrom f_X10_does g_X10_does
  rw [k_liftable hG hV hR.1 hR.2.1 hc, bsome, m_a362 LN196, bsome, m_a361 LN196, bsome, if_neg z10, if_pos (rfl : (1 : Int32) = 1), m_loadsOf LN196 hV hc, bsome]
  generalize hy : ldB T (mi T 196) c 0 = y
  by_cases h0 : y = 0
  · rw [if_pos (lg_z.mpr h0), if_pos (lg_z.mpr h0)]
    exact ⟨0, C, T, rfl, rfl, Or.inl rfl, Om.refl, Om.refl, hV, hR, Or.inl rfl⟩
  · have htop : V64 y < 2 ^ rN (mi T 196) := by rw [← hy]; exact ldS_top _ h6
    rw [if_neg (fun p => h0 (lg_z.mp p)), if_neg (fun p => h0 (lg_z.mp p)), k_liftMinutes hG hV hR.1 hc s48 es htop, bsome, m_a364 LN196, bsome, m_liftMinutes LN196 hG.1 hV hc s48 e1 e2, bsome, w196_364, bsome]
    obtain ⟨C', T', p1, p2, p3, p4, p5, p6, p7⟩ := s_puts (y := y) (v := lfM T (mi T 196) c s y) (T1 := sI T 196 364 (mi T 196 364 + lfM T (mi T 196) c s y)) hV hR (Om.sI rfl) mi_sI (fun k hk hbt => by
      rw [← hy] at hbt
      exact (ldS_li _ h6 hbt).1)
    rw [p1, bsome, p2, bsome]
    exact ⟨1, C', T', rfl, rfl, Or.inr rfl, p3, p4, p5, p6, p7⟩
/-- the bar's minutes -/
theorem m_bar (hV : VR w h (mi N 196)) : ∃ N', whl fu (f_X10_does_b207 196 y) (0, N) = some N' ∧ Om (fun b => b = 196) N N' ∧ mi N' 196 = u1 (mi N 196) 364 (mi N 196 364 + mi N 80 9 * sm (rN (mi N 196)) (fun i => if bt (V64 y) i = 1 then mi N 196 (6 * i + 2) else 0)) := by
  have h6 := hV.n60
  generalize hr : mi N 196 = r at hV h6
  have e9 : sm (rN r) (fun i => if bt (V64 y) i = 1 then mi N 80 9 * r (6 * i + 2) else 0) = mi N 80 9 * sm (rN r) (fun i => if bt (V64 y) i = 1 then r (6 * i + 2) else 0) := by
    rw [← sm_mul]
    refine sm_congr (fun i _ => ?_)
    by_cases hb : bt (V64 y) i = 1
    · rw [if_pos hb, if_pos hb]
    · rw [if_neg hb, if_neg hb, Int32.mul_zero]
  rw [← e9]
  exact whl_ex (f := f_X10_does_b207 196 y) (fun i st => ∃ N1, st = (Int32.ofNat i, N1) ∧ Om (fun b => b = 196) N N1 ∧ mi N1 196 = u1 r 364 (r 364 + sm i (fun i => if bt (V64 y) i = 1 then mi N 80 9 * r (6 * i + 2) else 0))) (fun N1 => Om (fun b => b = 196) N N1 ∧ mi N1 196 = u1 r 364 (r 364 + sm (rN r) (fun i => if bt (V64 y) i = 1 then mi N 80 9 * r (6 * i + 2) else 0))) (rN r) fu (0, N) (by show rN r < 1000000; omega) ⟨N, rfl, Om.refl, by
      rw [hr]
      funext j
      rw [u1_at]
      by_cases e : j = 364
      · rw [if_pos e, e]; exact (Int32.add_zero _).symm
      · rw [if_neg e]⟩ (by
    rintro i st hi ⟨N1, rfl, hO, hq⟩
    have q360 : mi N1 196 360 = r 360 := by rw [hq, u1_ne (by omega)]
    have q364 : mi N1 196 364 = r 364 + sm i (fun i => if bt (V64 y) i = 1 then mi N 80 9 * r (6 * i + 2) else 0) := by rw [hq, u1_same]
    refine Or.inl ?_
    unfold f_X10_does_b207
    dsimp only
    rw [m_a360 LN196, bsome, q360, hV.n, if_neg (nle hi hV.n1), m_a364 LN196, bsome, bit64 (by omega), q364]
    by_cases hb : bt (V64 y) i = 1
    · rw [if_pos hb, if_pos (lg_z.mpr rfl), a80_9, bsome, m_of2 LN196 (by omega), bsome, hO.at (show ¬ (80 : Nat) = 196 by decide), hq, u1_ne (show 6 * i + 2 ≠ 364 by omega), w196_364, bsome, oN_S]
      refine ⟨_, rfl, _, rfl, om_si hO rfl, ?_⟩
      rw [mi_sI, hq, u1_u1]
      show _ = u1 r 364 (r 364 + (sm i _ + (if bt (V64 y) i = 1 then mi N 80 9 * r (6 * i + 2) else 0)))
      rw [if_pos hb, Int32.add_assoc]
    · rw [if_neg hb, if_neg (fun p => absurd (lg_z.mp p) (by decide)), w196_364, bsome, oN_S]
      refine ⟨_, rfl, _, rfl, om_si hO rfl, ?_⟩
      rw [mi_sI, hq, u1_u1]
      show _ = u1 r 364 (r 364 + (sm i _ + (if bt (V64 y) i = 1 then mi N 80 9 * r (6 * i + 2) else 0)))
      rw [if_neg hb, Int32.add_assoc]) (by
    rintro st ⟨N1, rfl, hO, hq⟩
    refine ⟨N1, ?_, hO, hq⟩
    unfold f_X10_does_b207
    dsimp only
    rw [m_a360 LN196, bsome, hq, u1_ne (by omega), hV.n, if_pos (le_rf _)])
theorem s_bar {w9 : Nat} {x3 : Int32} (hG : RGd C T g) (hV : VR (tw T) (th T) (mi T 196)) (hR : RF C w9 (mi T 196)) : StpO (f_X8_barUp w9 g C) (f_X10_does 196 2 x3 T) C T w9 (fun a => w9 ≤ a ∧ a ≤ w9 + 7) (fun a => a = 196) := by
  have h6 := hV.n60
  obtain ⟨s, s48, es, e1, e2, sw, sh⟩ := hV.sl
  have w10 : mi C w9 10 = Int32.ofNat s := hR.1.1.2.2.1.trans es
  have g5 : mi C g 5 = mi T 80 3 := hG.2.1.2.2.1
  have g11 : mi C g 11 = mi T 80 9 := hG.2.1.2.2.2.2.2.2.2.2
  unfold f_X8_barUp g_X8_barUp f_X10_does g_X10_does
  rw [w10, k_liftable hG hV hR.1 hR.2.1 s48, bsome, m_a362 LN196, bsome, m_a361 LN196, bsome, if_neg n20, if_neg n21, if_pos (rfl : (2 : Int32) = 2), a80_3, bsome, es, m_loadsOf LN196 hV s48, bsome, g5]
  generalize hy : ldB T (mi T 196) s 1 = y
  have stay : StpO (some ((0 : Int32), C)) (some ((0 : Int32), T)) C T w9 (fun a => w9 ≤ a ∧ a ≤ w9 + 7) (fun a => a = 196) := ⟨0, C, T, rfl, rfl, Or.inl rfl, Om.refl, Om.refl, hV, hR, Or.inl rfl⟩
  by_cases h3 : mi T 80 3 = 1
  · rw [if_pos h3, if_pos h3]
    unfold f_X10_does_j193
    rw [if_pos (lg_z.mpr rfl)]
    by_cases h0 : y = 0
    · rw [if_pos (lg_z.mpr h0)]; exact stay
    · rw [if_neg (fun p => h0 (lg_z.mp p))]; exact stay
  · rw [if_neg h3, if_neg h3]
    unfold f_X10_does_j193
    by_cases h0 : y = 0
    · rw [if_pos (lg_z.mpr h0), if_pos (lg_z.mpr h0)]; exact stay
    · rw [if_neg (fun p => h0 (lg_z.mp p)), if_neg (fun p => h0 (lg_z.mp p)), k_sizesOf hV hR.1, bsome, g11]
      obtain ⟨T1, t1, t2, t3⟩ := m_bar (y := y) hV
      generalize hv : mi T 80 9 * sm (rN (mi T 196)) (fun i => if bt (V64 y) i = 1 then mi T 196 (6 * i + 2) else 0) = v at t3
      obtain ⟨C', T', p1, p2, p3, p4, p5, p6, p7⟩ := s_puts (y := y) (v := v) hV hR t2 t3 (fun k hk hbt => by
        rw [← hy] at hbt
        exact (ldS_li _ h6 hbt).1)
      rw [t1, bsome, p1, bsome, p2, bsome]
      exact ⟨1, C', T', rfl, rfl, Or.inr rfl, p3, p4, p5, p6, p7⟩
end SB9
