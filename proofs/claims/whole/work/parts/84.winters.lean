/-! level 3: winters: the reference -/
section WN
variable {w h : Nat} {r r' : Nat → Int32} {T : Mm}
/-- rows alike but for two sums -/
def AL (r r' : Nat → Int32) : Prop := ∀ j, j ≠ 365 → j ≠ 366 → r' j = r j
theorem AL.refl : AL r r := fun _ _ _ => rfl
theorem AL.symm (h : AL r r') : AL r' r := fun j h1 h2 => (h j h1 h2).symm
theorem AL.trans {r2 : Nat → Int32} (h : AL r r') (h2 : AL r' r2) : AL r r2 := fun j a b => (h2 j a b).trans (h j a b)
theorem AL.rq (h : AL r r') : Rq r r' := fun j _ h2 => h j (by omega) (by omega)
theorem AL.n (h : AL r r') : rN r' = rN r := h.rq.n
theorem AL.c (h : AL r r') {i : Nat} (hi : i < 60) : rC r' i = rC r i := h.rq.c hi
theorem AL.vr (h9 : AL r r') (hV : VR w h r) : VR w h r' := h9.rq.vr hV
theorem AL.tt (h : AL r r') {i : Nat} (hi : i < 60) : Th r' i ↔ Th r i := by
  have h48 : ∀ c, r' (367 + c) = r (367 + c) := fun c => h _ (by omega) (by omega)
  unfold Th
  rw [h.c hi, h48, h (6 * i + 4) (by omega) (by omega)]
theorem AL.kp (h : AL r r') {c : Nat} : kpt T r' c ↔ kpt T r c := by
  unfold kpt
  rw [h _ (by omega) (by omega)]
theorem AL.clr (h : AL r r') {i : Nat} (hi : i < 60) : clrO T r' i = clrO T r i := by
  unfold clrO
  rw [h (6 * i + 2) (by omega) (by omega), h (6 * i) (by omega) (by omega)]
theorem AL.come {x y : Nat} {s : Int32} (h : AL r r') : AL (come2 r x y s) (come2 r' x y s) := by
  intro j h1 h2
  unfold come2
  rw [h.n]
  by_cases hn : rN r < 60
  · rw [if_pos hn, if_pos hn]
    unfold comeR
    rw [h.n, h 360 (by omega) (by omega), h 363 (by omega) (by omega)]
    simp only [u1_at]
    rw [h j h1 h2]
  · rw [if_neg hn, if_neg hn]
    exact h j h1 h2
theorem AL.pl {i : Nat} {p : Int32} (h : AL r r') : AL (plR r i p) (plR r' i p) := by
  intro j h1 h2
  unfold plR
  rw [u1_at, u1_at, h j h1 h2]
theorem AL.yr (h : AL r r') : AL (yrR r) (yrR r') := by
  intro j h1 h2
  unfold yrR
  rw [u1_at, u1_at, h j h1 h2, h 363 (by omega) (by omega)]
theorem AL.rI {yr : Int32} {c : Nat} (h : AL r r') : ∀ n, AL (upI yr c r n) (upI yr c r' n) := by
  intro n
  induction n with
  | zero => exact h
  | succ n ih => exact ih.come
theorem AL.rO {yr : Int32} {V : Nat → Nat} (h : AL r r') : ∀ n, AL (upO V yr r n) (upO V yr r' n) := by
  intro n
  induction n with
  | zero => exact h
  | succ n ih => exact ih.rI _
theorem AL.ri {yr all : Int32} (h : AL r r') (hn : rN r ≤ 60) : risN T r' yr all = risN T r yr all := by
  funext c
  unfold risN
  rw [risO_of rfl rfl rfl (rq_lyIn h.rq hn c)]
  by_cases hk : kpt T r c
  · rw [if_pos hk, if_pos (h.kp.mpr hk)]
  · rw [if_neg hk, if_neg (fun z => hk (h.kp.mp z))]
/-- the row behind a winter, but for the sums -/
def wnt (T : Mm) (r : Nat → Int32) : Nat → Int32 := upO (risN T (yrR r) (r 363 + 1) (lyN r)) (r 363 + 1) (yrR r) 48
theorem AL.wn (h : AL r r') (hn : rN r ≤ 60) : AL (wnt T r) (wnt T r') := by
  unfold wnt
  rw [h 363 (by omega) (by omega), rq_lyN h.rq hn, h.yr.ri (by rw [yrR_rq.n]; exact hn)]
  exact h.yr.rO 48
theorem wnt_T {T' : Mm} (h : TQ T T') {r : Nat → Int32} : wnt T' r = wnt T r := by
  have e : risN T' (yrR r) (r 363 + 1) (lyN r) = risN T (yrR r) (r 363 + 1) (lyN r) := by
    funext c
    unfold risN
    rw [risO_of h.2.2.1 h.2.2.2.2 h.2.1 rfl]
    by_cases hk : kpt T (yrR r) c
    · rw [if_pos hk, if_pos ((kp_of h.1).mpr hk)]
    · rw [if_neg hk, if_neg (fun z => hk ((kp_of h.1).mp z))]
  unfold wnt
  rw [e]
theorem wnt_vr {m : Nat} (hV : VR (tw T) (th T) r) (hy : r 363 = Int32.ofNat m) (hm : m < 10000000) : VR (tw T) (th T) (wnt T r) := by
  unfold wnt
  rw [hy, oN_S]
  exact upO_vr (by omega) (yrR_rq.vr hV) (fun c => risN_2) (fun c hc => risN_n (fun z => hc z.1)) 48 (by omega)
theorem wnt_gt {j : Nat} (hj : 360 < j) : wnt T r j = yrR r j := upO_gt hj 48
def dmgW (T : Mm) (r : Nat → Int32) : Int32 := sm (rN r) (fun i => if Th r i then dmgO T r (rC r i) (r (6 * i + 2)) else 0)
def wonW (T : Mm) (r : Nat → Int32) : Int32 := sm 48 (fun c => if kpt T r c then mi T 82 c else 0)
theorem dmgO_al {c : Nat} {size : Int32} (h : AL r r') (hn : rN r ≤ 60) : dmgO T r' c size = dmgO T r c size := by
  have e : nmN T r' c size (r' 363) (lyN r') = nmN T r c size (r 363) (lyN r) := by
    funext j
    unfold nmN
    rw [h 363 (by omega) (by omega), rq_lyN h.rq hn, rq_lyIn h.rq hn c]
  unfold dmgO
  rw [e]
theorem dmgA_al (h9 : AL r r') (hV : VR w h r) : dmgA T r' 10 = dmgW T r := by
  have h6 := hV.n60
  unfold dmgA dmgW
  rw [h9.n]
  refine sm_congr (fun i hi => ?_)
  have e : dmgO T r' (rC r' i) (r' (6 * i + 2)) = dmgO T r (rC r i) (r (6 * i + 2)) := by rw [h9.c (by omega), h9 (6 * i + 2) (by omega) (by omega), dmgO_al h9 h6]
  rw [e]
  have h10 : ¬ (10 : Int32) ≤ r (6 * i + 2) := by
    obtain ⟨-, -, ⟨s, s1, s2, s3⟩, -⟩ := hV.s hi
    rw [s3]
    exact nle (n := 10) (by omega) (by omega)
  by_cases hT : Th r i
  · rw [if_pos hT, if_pos ⟨(h9.tt (by omega)).mpr hT, by rw [h9 (6 * i + 2) (by omega) (by omega)]; exact h10⟩]
  · rw [if_neg hT, if_neg (fun z => hT ((h9.tt (by omega)).mp z.1))]
end WN
section WM
variable {C N : Mm} {a l l0 m : Nat}
theorem m_winters (hL : LN a = 415) (ha : a = 196 ∨ a = 197) (hT : RGt N) (hV : VR (tw N) (th N) (mi N a)) (hR0 : RLaw C N l0 0) (hR : RLaw C N l 1) (hy : mi N a 363 = Int32.ofNat m) (hm : m < 10000000) : ∃ N', f_X10_winters a N = some N' ∧ Om (fun x => x = 115 ∨ x = 116 ∨ x = a ∨ x = 223) N N' ∧ AL (wnt N (mi N a)) (mi N' a) ∧ mi N' a 365 = mi N a 365 + dmgW N (mi N a) ∧ mi N' a 366 = mi N a 366 + wonW N (mi N a) := by
  have h6 := hV.n60
  generalize hr : mi N a = r at hV hy h6
  have fr : ∀ {N1 : Mm}, Om (fun x => x = 115 ∨ x = 116 ∨ x = a ∨ x = 223) N N1 → TQ N N1 := fun {N1} hO => ⟨hO.at (by omega), hO.at (by omega), hO.at (by omega), hO.at (by omega), hO.at (by omega)⟩
  -- damage
  obtain ⟨N1, e1, o1, q1⟩ := whl_ex (f := f_X10_winters_b2 a) (fun i st => ∃ N1, st = (Int32.ofNat i, N1) ∧ Om (fun x => x = 115 ∨ x = 116 ∨ x = a ∨ x = 223) N N1 ∧ mi N1 a = u1 r 365 (r 365 + sm i (fun i => if Th r i then dmgO N r (rC r i) (r (6 * i + 2)) else 0))) (fun N1 => Om (fun x => x = 115 ∨ x = 116 ∨ x = a ∨ x = 223) N N1 ∧ mi N1 a = u1 r 365 (r 365 + dmgW N r)) (rN r) fu (0, N) (by show rN r < 1000000; omega) ⟨N, rfl, Om.refl, by
      rw [hr]
      funext j
      rw [u1_at]
      by_cases e : j = 365
      · rw [if_pos e, e]; exact (Int32.add_zero _).symm
      · rw [if_neg e]⟩ (by
    rintro i st hi ⟨N1, rfl, hO, hq⟩
    have hA : AL r (mi N1 a) := fun j h1 h2 => by rw [hq]; exact u1_ne h1
    have hV1 := hA.vr hV
    have hi1 : i < rN (mi N1 a) := by rw [hA.n]; exact hi
    have hv : mi N1 a 365 = r 365 + sm i (fun i => if Th r i then dmgO N r (rC r i) (r (6 * i + 2)) else 0) := by rw [hq]; exact u1_same _ _ _
    have h48 := hV.c48 hi
    have hst : ∀ v : Int32, u1 (mi N1 a) 365 (mi N1 a 365 + v) = u1 r 365 (r 365 + (sm i (fun i => if Th r i then dmgO N r (rC r i) (r (6 * i + 2)) else 0) + v)) := fun v => by
      rw [hv, Int32.add_assoc, hq, u1_u1]
    refine Or.inl ?_
    unfold f_X10_winters_b2 f_X10_winters_j56
    dsimp only
    rw [m_a360 hL, bsome, hV1.n, hA.n, if_neg (nle hi (by omega)), m_a365 hL, bsome, m_isLying hL (by omega), bsome, hA (6 * i + 4) (by omega) (by omega)]
    have no : ¬ Th r i → ∃ s', (wi N1 a (LN a) 365 (mi N1 a 365 + 0)).bind (fun M6 => some (Sum.inl (Int32.ofNat i + 1, M6))) = some (Sum.inl s' : (Int32 × Mm) ⊕ Mm) ∧ ∃ N1, s' = (Int32.ofNat (i + 1), N1) ∧ Om (fun x => x = 115 ∨ x = 116 ∨ x = a ∨ x = 223) N N1 ∧ mi N1 a = u1 r 365 (r 365 + sm (i + 1) (fun i => if Th r i then dmgO N r (rC r i) (r (6 * i + 2)) else 0)) := fun hT1 => by
      rw [hL, show ∀ v : Int32, wi N1 a 415 365 v = some (sI N1 a 365 v) from fun v => wi_o (i := 365) (by omega) (by omega), bsome, oN_S]
      refine ⟨_, rfl, _, rfl, om_si hO (by omega), ?_⟩
      rw [mi_sI, hst 0]
      show _ = u1 r 365 (r 365 + (sm i _ + (if Th r i then dmgO N r (rC r i) (r (6 * i + 2)) else 0)))
      rw [if_neg hT1]
    by_cases h4 : r (6 * i + 4) = 0
    · rw [if_pos h4, if_neg z10, m_cellOf hL hV1 hi1, bsome, hA.c (by omega), m_isLost hL h48, bsome, hA (367 + rC r i) (by omega) (by omega)]
      by_cases h5 : r (367 + rC r i) = 1
      · rw [if_pos h5, if_neg z10]
        exact no (fun z => z.2 h5)
      · rw [if_neg h5, if_pos z00, bsome, m_of2 hL (by omega), bsome]
        obtain ⟨N2, p1, p2⟩ := m_damageOf (C := C) (N := N1) (a := a) (l := l0) (size := mi N1 a (6 * i + 2)) hL (by omega) hV1 (hR0.T (fr hO).2.2.1 (fr hO).2.2.2.1) h48
        have ea : mi N2 a = mi N1 a := p2.at (by omega)
        rw [p1, bsome]
        dsimp only
        rw [hL, show ∀ v : Int32, wi N2 a 415 365 v = some (sI N2 a 365 v) from fun v => wi_o (i := 365) (by omega) (by omega), bsome, oN_S]
        refine ⟨_, rfl, _, rfl, om_si (hO.trans (p2.mono (fun x hx => by omega))) (by omega), ?_⟩
        rw [mi_sI, ea, hst]
        show _ = u1 r 365 (r 365 + (sm i _ + (if Th r i then dmgO N r (rC r i) (r (6 * i + 2)) else 0)))
        rw [if_pos ⟨h4, h5⟩, dmgO_al hA h6, (fr hO).dmg, hA (6 * i + 2) (by omega) (by omega)]
    · rw [if_neg h4, if_pos z00]
      exact no (fun z => h4 z.1)) (by
    rintro st ⟨N1, rfl, hO, hq⟩
    have hA : AL r (mi N1 a) := fun j h1 h2 => by rw [hq]; exact u1_ne h1
    have hV1 := hA.vr hV
    refine ⟨N1, ?_, hO, hq⟩
    unfold f_X10_winters_b2
    dsimp only
    rw [m_a360 hL, bsome, hV1.n, hA.n, if_pos (le_rf _)])
  -- soil
  have hA1 : AL r (mi N1 a) := fun j h1 h2 => by rw [q1]; exact u1_ne h1
  obtain ⟨N2, e2, o2, q2⟩ := whl_ex (f := f_X10_winters_b67 a) (fun c st => ∃ N2, st = (Int32.ofNat c, N2) ∧ Om (fun x => x = a) N1 N2 ∧ mi N2 a = u1 (mi N1 a) 366 (r 366 + sm c (fun c => if kpt N r c then mi N 82 c else 0))) (fun N2 => Om (fun x => x = a) N1 N2 ∧ mi N2 a = u1 (mi N1 a) 366 (r 366 + wonW N r)) 48 fu (0, N1) (by decide) ⟨N1, rfl, Om.refl, by
      funext j
      rw [u1_at]
      by_cases e : j = 366
      · rw [if_pos e, e, q1, u1_at, if_neg (by omega)]; exact (Int32.add_zero _).symm
      · rw [if_neg e]⟩ (by
    rintro c st hc ⟨N2, rfl, hO, hq⟩
    have hA : AL r (mi N2 a) := fun j h1 h2 => by rw [hq, u1_ne h2]; exact hA1 j h1 h2
    have hO2 := o1.trans (hO.mono (fun x hx => by omega))
    have hv : mi N2 a 366 = r 366 + sm c (fun c => if kpt N r c then mi N 82 c else 0) := by rw [hq]; exact u1_same _ _ _
    have hst : ∀ v : Int32, u1 (mi N2 a) 366 (mi N2 a 366 + v) = u1 (mi N1 a) 366 (r 366 + (sm c (fun c => if kpt N r c then mi N 82 c else 0) + v)) := fun v => by
      rw [hv, Int32.add_assoc, hq, u1_u1]
    have hk : kpt N2 (mi N2 a) c ↔ kpt N r c := (kp_of (fr hO2).1).trans hA.kp
    refine Or.inl ?_
    unfold f_X10_winters_b67
    dsimp only
    rw [if_neg (show ¬ (48 : Int32) ≤ Int32.ofNat c from nle (n := 48) hc (by omega)), m_a366 hL, bsome, m_isKept (RGt_of (fr hO2).1 hT) hL hc, bsome]
    by_cases h1 : kpt N r c
    · rw [if_pos (hk.mpr h1), if_neg z10, show ai N2 82 48 (Int32.ofNat c) = some (mi N2 82 c) from ai_o hc (by omega), bsome, hL, show ∀ v : Int32, wi N2 a 415 366 v = some (sI N2 a 366 v) from fun v => wi_o (i := 366) (by omega) (by omega), bsome, oN_S]
      refine ⟨_, rfl, _, rfl, om_si hO rfl, ?_⟩
      rw [mi_sI, hst, (fr hO2).2.1]
      show _ = u1 (mi N1 a) 366 (r 366 + (sm c _ + (if kpt N r c then mi N 82 c else 0)))
      rw [if_pos h1]
    · rw [if_neg (fun z => h1 (hk.mp z)), if_pos z00, hL, show ∀ v : Int32, wi N2 a 415 366 v = some (sI N2 a 366 v) from fun v => wi_o (i := 366) (by omega) (by omega), bsome, oN_S]
      refine ⟨_, rfl, _, rfl, om_si hO rfl, ?_⟩
      rw [mi_sI, hst]
      show _ = u1 (mi N1 a) 366 (r 366 + (sm c _ + (if kpt N r c then mi N 82 c else 0)))
      rw [if_neg h1]) (by
    rintro st ⟨N2, rfl, hO, hq⟩
    refine ⟨N2, ?_, hO, hq⟩
    unfold f_X10_winters_b67
    dsimp only
    rw [if_pos (show (48 : Int32) ≤ Int32.ofNat 48 from le_rf _)])
  have hA2 : AL r (mi N2 a) := fun j h1 h2 => by rw [q2, u1_ne h2]; exact hA1 j h1 h2
  have oo2 := o1.trans (o2.mono (fun x hx => by omega))
  -- the year
  generalize hN3 : sI N2 a 363 (mi N2 a 363 + 1) = N3
  have oo3 : Om (fun x => x = 115 ∨ x = 116 ∨ x = a ∨ x = 223) N N3 := by rw [← hN3]; exact om_si oo2 (by omega)
  have q3 : mi N3 a = yrR (mi N2 a) := by rw [← hN3, mi_sI]; rfl
  have hA3 : AL (yrR r) (mi N3 a) := by rw [q3]; exact hA2.yr
  have hV3 : VR (tw N) (th N) (mi N3 a) := hA3.vr (yrR_rq.vr hV)
  have n3 : rN (yrR r) ≤ 60 := by rw [yrR_rq.n]; exact h6
  have y3 : mi N3 a 363 = r 363 + 1 := (hA3 363 (by omega) (by omega)).trans yrR_k
  have ly3 : lyN (mi N3 a) = lyN r := (rq_lyN hA3.rq n3).trans (rq_lyN yrR_rq h6)
  generalize hVn : risN N (yrR r) (r 363 + 1) (lyN r) = V
  have v2 : ∀ c, V c ≤ 2 := fun c => by rw [← hVn]; exact risN_2
  have vn : ∀ c, ¬ (c % 8 < tw N ∧ c / 8 < th N) → V c = 0 := fun c hc => by rw [← hVn]; exact risN_n (fun z => hc z.1)
  have ey : r 363 + 1 = Int32.ofNat (m + 1) := by rw [hy, oN_S]
  -- how many rise
  obtain ⟨N4, e4, o4, q4⟩ := whl_ex (f := f_X10_winters_b117 a) (fun c st => ∃ N4, st = (Int32.ofNat c, N4) ∧ Om (fun x => x = 115 ∨ x = 116 ∨ x = 223) N3 N4 ∧ ∀ d, d < c → mi N4 223 d = Int32.ofNat (V d)) (fun N4 => Om (fun x => x = 115 ∨ x = 116 ∨ x = 223) N3 N4 ∧ ∀ d, d < 48 → mi N4 223 d = Int32.ofNat (V d)) 48 fu (0, N3) (by decide) ⟨N3, rfl, Om.refl, fun d hd => by omega⟩ (by
    rintro c st hc ⟨N4, rfl, hO, hq⟩
    have ea : mi N4 a = mi N3 a := hO.at (by omega)
    have hO2 := oo3.trans (hO.mono (fun x hx => by omega))
    have hk : kpt N4 (mi N4 a) c ↔ kpt N (yrR r) c := by rw [ea]; exact (kp_of (fr hO2).1).trans hA3.kp
    refine Or.inl ?_
    unfold f_X10_winters_b117
    dsimp only
    rw [if_neg (show ¬ (48 : Int32) ≤ Int32.ofNat c from nle (n := 48) hc (by omega)), m_isKept (RGt_of (fr hO2).1 hT) hL hc, bsome]
    by_cases h1 : kpt N (yrR r) c
    · rw [if_pos (hk.mpr h1), if_neg z10]
      obtain ⟨N5, p1, p2⟩ := m_risesIn (C := C) (N := N4) (a := a) (l := l) hL (by omega) (by rw [ea]; exact hV3) (hR.T (fr hO2).2.2.1 (fr hO2).2.2.2.2) hc
      have hv : risO N4 (mi N4 a) c (mi N4 a 363) (lyN (mi N4 a)) = Int32.ofNat (V c) := by
        rw [ea, y3, ly3, ← hVn, risN_k h1]
        exact risO_of (fr hO2).2.2.1 (fr hO2).2.2.2.2 (fr hO2).2.1 (rq_lyIn hA3.rq n3 c)
      rw [p1, hv, bsome]
      dsimp only
      rw [show ∀ v : Int32, wi N5 223 48 (Int32.ofNat c) v = some (sI N5 223 c v) from fun v => wi_o hc (by omega), bsome, oN_S]
      refine ⟨_, rfl, _, rfl, om_si (hO.trans (p2.mono (fun x hx => by omega))) (by omega), fun d hd => ?_⟩
      rw [mi_sI, u1_at]
      by_cases e : d = c
      · rw [if_pos e, e]
      · rw [if_neg e, p2.at (by omega)]; exact hq d (by omega)
    · rw [if_neg (fun z => h1 (hk.mp z)), if_pos z00, show ∀ v : Int32, wi N4 223 48 (Int32.ofNat c) v = some (sI N4 223 c v) from fun v => wi_o hc (by omega), bsome, oN_S]
      refine ⟨_, rfl, _, rfl, om_si hO (by omega), fun d hd => ?_⟩
      rw [mi_sI, u1_at]
      by_cases e : d = c
      · rw [if_pos e, e, ← hVn, risN_n h1]; rfl
      · rw [if_neg e]; exact hq d (by omega)) (by
    rintro st ⟨N4, rfl, hO, hq⟩
    refine ⟨N4, ?_, hO, hq⟩
    unfold f_X10_winters_b117
    dsimp only
    rw [if_pos (show (48 : Int32) ≤ Int32.ofNat 48 from le_rf _)])
  have ea4 : mi N4 a = mi N3 a := o4.at (by omega)
  have oo4 := oo3.trans (o4.mono (fun x hx => by omega))
  -- they come
  have hVc : ∀ c, c ≤ 48 → VR (tw N) (th N) (upO V (r 363 + 1) (mi N3 a) c) := fun c hc => by rw [ey]; exact upO_vr (by omega) hV3 v2 vn c hc
  have hg9 : ∀ c, upO V (r 363 + 1) (mi N3 a) c 363 = r 363 + 1 := fun c => (upO_gt (by omega) c).trans y3
  obtain ⟨N5, e5, o5, q5⟩ := whl_ex (f := f_X10_winters_b156 a) (fun c st => ∃ N5, st = (Int32.ofNat c, N5) ∧ Om (fun x => x = a) N4 N5 ∧ mi N5 a = upO V (r 363 + 1) (mi N3 a) c) (fun N5 => Om (fun x => x = a) N4 N5 ∧ mi N5 a = upO V (r 363 + 1) (mi N3 a) 48) 48 fu (0, N4) (by decide) ⟨N4, rfl, Om.refl, ea4⟩ (by
    rintro c st hc ⟨N5, rfl, hO, hq⟩
    refine Or.inl ?_
    have v2c := v2 c
    obtain ⟨N6, p1, p2, p3⟩ := whl_ex (f := f_X10_winters_b164 a (Int32.ofNat c)) (fun j st => ∃ N6, st = (Int32.ofNat j, N6) ∧ Om (fun x => x = a) N4 N6 ∧ mi N6 a = upI (r 363 + 1) c (upO V (r 363 + 1) (mi N3 a) c) j) (fun N6 => Om (fun x => x = a) N4 N6 ∧ mi N6 a = upO V (r 363 + 1) (mi N3 a) (c + 1)) (V c) fu (0, N5) (by show V c < 1000000; omega) ⟨N5, rfl, hO, hq⟩ (by
      rintro j st hj ⟨N6, rfl, hO6, hq6⟩
      have hf : inF N c := by
        by_cases hf : inF N c
        · exact hf
        · have := vn c hf
          omega
      have hV6 : VR (tw N) (th N) (mi N6 a) := by
        have := upI_vr (m := m + 1) (c := c) (by omega) hc (hVc c (by omega)) hf.1 hf.2 j (by omega)
        rw [← ey] at this
        rw [hq6]
        exact this
      have y9 : mi N6 a 363 = r 363 + 1 := by rw [hq6, upI_gt (by omega)]; exact hg9 c
      obtain ⟨N7, t1, t2, t3⟩ := m_comes (N := N6) (x := c % 8) (y := c / 8) (s := szY (r 363 + 1) c j) hL hV6
      refine Or.inl ?_
      unfold f_X10_winters_b164
      dsimp only
      rw [show ai N6 223 48 (Int32.ofNat c) = some (mi N6 223 c) from ai_o hc (by omega), bsome, hO6.at (by omega), q4 c hc, if_neg (nle hj (by omega)), m_a363 hL, bsome, y9, kmod c hc, kdiv c hc]
      have t1' : f_X10_comes a (Int32.ofNat (c % 8)) (Int32.ofNat (c / 8)) ((1 : Int32) + ((((((3 : Int32) * Int32.ofNat (c % 8)) + ((5 : Int32) * Int32.ofNat (c / 8))) + ((7 : Int32) * (r 363 + 1))) + Int32.ofNat j) - (((((3 : Int32) * Int32.ofNat (c % 8)) + ((5 : Int32) * Int32.ofNat (c / 8))) + ((7 : Int32) * (r 363 + 1))) + Int32.ofNat j) / (9 : Int32) * (9 : Int32))) N6 = some N7 := t1
      rw [t1', bsome, oN_S]
      refine ⟨_, rfl, N7, rfl, hO6.trans t2, ?_⟩
      rw [t3, hq6]
      rfl) (by
      rintro st ⟨N6, rfl, hO6, hq6⟩
      refine ⟨N6, ?_, hO6, hq6⟩
      unfold f_X10_winters_b164
      dsimp only
      rw [show ai N6 223 48 (Int32.ofNat c) = some (mi N6 223 c) from ai_o hc (by omega), bsome, hO6.at (by omega), q4 c hc, if_pos (le_rf _)])
    unfold f_X10_winters_b156
    dsimp only
    rw [if_neg (show ¬ (48 : Int32) ≤ Int32.ofNat c from nle (n := 48) hc (by omega)), show whl fu (f_X10_winters_b164 a (Int32.ofNat c)) (0, N5) = some N6 from p1, bsome, oN_S]
    exact ⟨_, rfl, N6, rfl, p2, p3⟩) (by
    rintro st ⟨N5, rfl, hO, hq⟩
    refine ⟨N5, ?_, hO, hq⟩
    unfold f_X10_winters_b156
    dsimp only
    rw [if_pos (show (48 : Int32) ≤ Int32.ofNat 48 from le_rf _)])
  unfold f_X10_winters
  rw [show whl fu (f_X10_winters_b2 a) (0, N) = some N1 from e1, bsome, show whl fu (f_X10_winters_b67 a) (0, N1) = some N2 from e2, bsome, m_a363 hL, bsome, hL, show ∀ v : Int32, wi N2 a 415 363 v = some (sI N2 a 363 v) from fun v => wi_o (i := 363) (by omega) (by omega), bsome, hN3, show whl fu (f_X10_winters_b117 a) (0, N3) = some N4 from e4, bsome, show whl fu (f_X10_winters_b156 a) (0, N4) = some N5 from e5, bsome]
  refine ⟨N5, rfl, oo4.trans (o5.mono (fun x hx => by omega)), ?_, ?_, ?_⟩
  · rw [q5]
    unfold wnt
    rw [hVn]
    exact hA3.rO 48
  · rw [q5, upO_gt (by omega), q3, yrR_o (by omega), q2, u1_at, if_neg (by omega), q1, u1_at, if_pos rfl]
  · rw [q5, upO_gt (by omega), q3, yrR_o (by omega), q2, u1_at, if_pos rfl]
end WM
