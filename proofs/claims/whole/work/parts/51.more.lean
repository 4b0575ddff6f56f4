/-! level 3: cells asked, stones on a lift, the stoniest, the clean, the chosen -/
section AR
variable {k : Nat} {M : Mm} {q : Nat → Nat}
theorem m_heaped {N : Mm} {w h c : Nat} {x3 : Int32} (hV : VR w h (mi N 196)) : whl fu (f_X10_cell_b67 x3 (Int32.ofNat c) N) (0, 0) = some (hpIn (mi N 196) c) := by
  have h6 := hV.n60
  exact sum_loop (b := f_X10_cell_b67 x3 (Int32.ofNat c) N) (rN (mi N 196)) (fun k => if mi N 196 (6 * k + 4) = 3 ∧ mi N 196 (6 * k + 5) = Int32.ofNat c then 1 else 0) (by omega) (by
    intro i hi s
    unfold f_X10_cell_b67
    dsimp only
    rw [a196 (x := 360) (n := 360) (by omega) rfl rfl, bsome, hV.n, if_neg (nle hi hV.n1), m_of4 LN196 (by omega), bsome]
    by_cases h1 : mi N 196 (6 * i + 4) = 3
    · rw [if_pos h1, m_of5 LN196 (by omega), bsome]
      by_cases h2 : mi N 196 (6 * i + 5) = Int32.ofNat c
      · rw [if_pos h2, if_pos ⟨h1, h2⟩]
      · rw [if_neg h2, if_neg (fun p => h2 p.2)]; rfl
    · rw [if_neg h1, if_neg (fun p => h1 p.1)]; rfl) (by
    intro s
    unfold f_X10_cell_b67
    dsimp only
    rw [a196 (x := 360) (n := 360) (by omega) rfl rfl, bsome, hV.n, if_pos (le_rf _)])
theorem cOk_c (h : RR M M q) {x y : Int32} (hc : cOk M x y) : ∃ c : Nat, c < 48 ∧ (8 : Int32) * y + x = Int32.ofNat c ∧ c % 8 < tw M ∧ c / 8 < th M := by
  obtain ⟨a, b, ha, hb, rfl, rfl⟩ := (cOk_nat h.gd.1).mp hc
  have h1 := h.gd.1.1
  have h2 := h.gd.1.2.1
  exact ⟨8 * b + a, by omega, kcel, by omega, by omega⟩
theorem k_cellAt {x y : Int32} : f_X9_cellAt x y M = some (8 * y + x) := rfl
theorem G_cell (hI : INV k M) : ∀ x1 x2 x3 : Int32, GdI k (f_X9_cell x1 x2 x3 M) (f_X10_cell x1 x2 x3) 1 0 2 := by
  obtain ⟨⟨q, h⟩, -⟩ := id hI
  intro x y z
  unfold f_X9_cell
  by_cases hc : cOk M x y
  · rw [k_cell_y h hc, bsome]
    dsimp only
    rw [arg2]
    by_cases hz : (0 : Int32) ≤ z ∧ z ≤ 4
    · rw [if_pos hz]
      obtain ⟨c, hc48, ec, -, -⟩ := cOk_c h hc
      have hs : ∀ v : Int64, f_X10_cell x y z (sL M 275 0 v) = (whl fu (f_X10_cell_b67 z (Int32.ofNat c) (nQ M v)) (0, 0)).bind fun z5_18 => if z = 0 then (ai (nQ M v) 82 48 (Int32.ofNat c)).bind fun v30 => some (v30, nQ M v) else if z = 1 then (f_X10_lyingIn 196 (Int32.ofNat c) (nQ M v)).bind fun v28 => some (v28, nQ M v) else if z = 2 then (f_X10_sizesIn 196 (Int32.ofNat c) (nQ M v)).bind fun v26 => some (v26, nQ M v) else if z = 3 then (ai (nQ M v) 196 415 (367 + Int32.ofNat c)).bind fun v24 => some (v24, nQ M v) else some (z5_18, nQ M v) := fun v => by
        unfold f_X10_cell
        rw [m_cell_y (M := M) (by rw [nQ_def]; exact nQ_o (by omega)) h.gd.1 hc, bsome, if_neg z10, m_fine, bsome]
        dsimp only
        rw [if_pos z00, m_in, bsome, if_pos hz, if_neg z10, m_fine, bsome]
        dsimp only
        rw [if_pos z00, ec]
        rfl
      have hhp : ∀ v : Int64, whl fu (f_X10_cell_b67 z (Int32.ofNat c) (nQ M v)) (0, 0) = some (hpIn (mi M 196) c) := fun v => by
        rw [m_heaped (vr_nQ h), nQ_o (by omega)]
      unfold f_X9_cell_j21
      rw [needA1, bsome]
      dsimp only
      rw [k_cellAt, bsome, ec, h.w, h.g]
      obtain ⟨m, -, hm, rfl⟩ := (in_nat (lo := 0) (hi := 4) (by omega) (by omega)).mp hz
      have hW := h.wd.2.1
      have hV := h.wd.1
      have he : ∀ v : Int64, mi (nQ M v) 196 = mi M 196 := fun v => nQ_o (by omega)
      have h9 : m = 0 ∨ m = 1 ∨ m = 2 ∨ m = 3 ∨ m = 4 := by omega
      rcases h9 with rfl | rfl | rfl | rfl | rfl
      · rw [if_pos (by decide), k_soil h.gd hc48, bsome]
        refine gd_q hI rfl ?_
        rw [hs, hhp, bsome, if_pos (by decide), ai_o hc48 (by omega), nQ_o (by omega)]
        rfl
      · rw [if_neg (by decide), if_pos (by decide), k_lyingIn hW hc48, bsome]
        refine gd_q hI rfl ?_
        rw [hs, hhp, bsome, if_neg (by decide), if_pos (by decide), m_lyingIn LN196 (vr_nQ h) hc48, he]
        rfl
      · rw [if_neg (by decide), if_neg (by decide), if_pos (by decide), k_sizesIn hV hW hc48, bsome]
        refine gd_q hI rfl ?_
        rw [hs, hhp, bsome, if_neg (by decide), if_neg (by decide), if_pos (by decide), m_sizesIn LN196 (vr_nQ h) hc48, he]
        rfl
      · rw [if_neg (by decide), if_neg (by decide), if_neg (by decide), if_pos (by decide), k_isLost hV hW hc48, bsome]
        refine gd_q hI rfl ?_
        rw [hs, hhp, bsome, if_neg (by decide), if_neg (by decide), if_neg (by decide), if_pos (by decide), a196 (n := 367 + c) (by omega) (he _) (by rw [Int32.ofNat_add]; rfl), bsome]
        rcases hV.2.2.2.2 c hc48 with e | e <;> rw [e] <;> rfl
      · rw [if_neg (by decide), if_neg (by decide), if_neg (by decide), if_neg (by decide), k_heapedIn h.wd.2.2.2 hc48, bsome]
        refine gd_q hI rfl ?_
        rw [hs, hhp, bsome, if_neg (by decide), if_neg (by decide), if_neg (by decide), if_neg (by decide)]
    · rw [if_neg hz]
      unfold f_X9_cell_j20 f_X9_cell_j21
      rw [needA0, bsome]
      refine gd_r2 (b := 0) hI (by decide) rfl ?_
      unfold f_X10_cell
      rw [m_cell_y (M := M) (nR_o (by omega) (by omega)) h.gd.1 hc, bsome, if_neg z10, m_fine, bsome]
      dsimp only
      rw [if_pos z00, m_in, bsome, if_neg hz, if_pos z00, m_r2 2 (by decide), bsome]
      rfl
  · rw [k_cell_n h hc, bsome]
    refine gd_r0 (b := 0) hI (by decide) rfl ?_
    unfold f_X10_cell
    rw [m_cell_n (M := M) (nR_o (by omega) (by omega)) h.gd.1 hc, bsome, if_pos z00, m_r0 1 (by decide), bsome]
    rfl
/-- what a lift takes: the bits, how full the sledge is -/
def ldS (T : Mm) (r : Nat → Int32) (c : Nat) (lg l0 : Int32) : Nat → Int64 × Int32
  | 0 => (0, l0)
  | n + 1 => if Li r c n ∧ (if r (6 * n + 2) ≤ mi T 80 4 then (0 : Int32) else 1) = lg ∧ (ldS T r c lg l0 n).2 + r (6 * n + 2) ≤ mi T 80 8 then ((ldS T r c lg l0 n).1 ||| ((1 : Int64) <<< ((Int32.ofNat n).toInt64 &&& 63)), (ldS T r c lg l0 n).2 + r (6 * n + 2)) else ldS T r c lg l0 n
def ldB (T : Mm) (r : Nat → Int32) (c : Nat) (lg : Int32) : Int64 := (ldS T r c lg (onS r) (rN r)).1
theorem k_liftable {C T : Mm} {g a w h c : Nat} {r : Nat → Int32} {lg : Int32} (hG : RGd C T g) (hV : VR w h r) (hW : RW C a r) (hL : RLd C a r) (hc : c < 48) : f_X8_liftable a g (Int32.ofNat c) lg C = some (ldB T r c lg) := by
  have h6 := hV.n60
  have e := whl_eq (f := f_X8_liftable_b12 a g (Int32.ofNat c) lg C) (e := ldB T r c lg) (rN r) fu (fun i => ((ldS T r c lg (onS r) i).1, (ldS T r c lg (onS r) i).2, Int32.ofNat i)) (by show rN r < 1000000; omega) (fun i hi => by
    try dsimp only
    unfold f_X8_liftable_b12
    dsimp only
    rw [hW.n, hV.n, if_neg (nle hi hV.n1), k_sizeOf hV hW hi, bsome, k_liesIn hV hW hi hc, bsome, hG.2.1.2.2.2.1, hG.2.1.2.2.2.2.2.2.2.1, oN_S]
    by_cases h1 : Li r c i
    · rw [if_pos h1, if_neg z10]
      by_cases h2 : (if r (6 * i + 2) ≤ mi T 80 4 then (0 : Int32) else 1) = lg
      · rw [if_pos h2]
        by_cases h3 : (ldS T r c lg (onS r) i).2 + r (6 * i + 2) ≤ mi T 80 8
        · rw [if_neg (lenl h3), show ldS T r c lg (onS r) (i + 1) = _ from if_pos ⟨h1, h2, h3⟩]
        · rw [if_pos (nle' h3), show ldS T r c lg (onS r) (i + 1) = _ from if_neg (fun p => h3 p.2.2)]
      · rw [if_neg h2, show ldS T r c lg (onS r) (i + 1) = _ from if_neg (fun p => h2 p.2.1)]
    · rw [if_neg h1, if_pos z00, show ldS T r c lg (onS r) (i + 1) = _ from if_neg (fun p => h1 p.1)]) (by
    try dsimp only
    unfold f_X8_liftable_b12
    dsimp only
    rw [hW.n, hV.n, if_pos (le_rf _)]
    rfl)
  unfold f_X8_liftable
  rw [show mi C a 11 = onS r from hL]
  have e' : whl fu (f_X8_liftable_b12 a g (Int32.ofNat c) lg C) (0, onS r, 0) = some (ldB T r c lg) := e
  rw [e']
  rfl
theorem m_loadsOf {N : Mm} {a w h c : Nat} {lg : Int32} (hL : LN a = 415) (hV : VR w h (mi N a)) (hc : c < 48) : f_X10_loadsOf a (Int32.ofNat c) lg N = some (ldB N (mi N a) c lg) := by
  have h6 := hV.n60
  have e := whl_eq (f := f_X10_loadsOf_b12 a (Int32.ofNat c) lg N) (e := ldB N (mi N a) c lg) (rN (mi N a)) fu (fun i => ((ldS N (mi N a) c lg (onS (mi N a)) i).1, (ldS N (mi N a) c lg (onS (mi N a)) i).2, Int32.ofNat i)) (by show rN (mi N a) < 1000000; omega) (fun i hi => by
    try dsimp only
    unfold f_X10_loadsOf_b12
    dsimp only
    have h48 := hV.c48 hi
    rw [m_a360 hL, bsome, hV.n, if_neg (nle hi hV.n1), m_isLying hL (by omega), bsome, oN_S]
    by_cases h0 : mi N a (6 * i + 4) = 0
    · rw [if_pos h0, if_neg z10, m_cellOf hL hV hi, bsome]
      by_cases h1 : rC (mi N a) i = c
      · rw [if_pos (congrArg Int32.ofNat h1), m_of2 hL (by omega), bsome, show ai N 80 10 4 = some (mi N 80 4) from ai_o (i := 4) (by omega) (by omega), bsome]
        by_cases h2 : (if mi N a (6 * i + 2) ≤ mi N 80 4 then (0 : Int32) else 1) = lg
        · rw [if_pos h2, bsome, show ai N 80 10 8 = some (mi N 80 8) from ai_o (i := 8) (by omega) (by omega), bsome]
          by_cases h3 : (ldS N (mi N a) c lg (onS (mi N a)) i).2 + mi N a (6 * i + 2) ≤ mi N 80 8
          · rw [if_pos h3, bsome, show ldS N (mi N a) c lg (onS (mi N a)) (i + 1) = _ from if_pos ⟨⟨h0, h1⟩, h2, h3⟩]
          · rw [if_neg h3, show ldS N (mi N a) c lg (onS (mi N a)) (i + 1) = _ from if_neg (fun p => h3 p.2.2)]
        · rw [if_neg h2, show ldS N (mi N a) c lg (onS (mi N a)) (i + 1) = _ from if_neg (fun p => h2 p.2.1)]
      · rw [if_neg (fun p => h1 ((oN_eq (by omega) (by omega)).mp p)), show ldS N (mi N a) c lg (onS (mi N a)) (i + 1) = _ from if_neg (fun p => h1 p.1.2)]
    · rw [if_neg h0, if_pos z00, show ldS N (mi N a) c lg (onS (mi N a)) (i + 1) = _ from if_neg (fun p => h0 p.1.1)]) (by
    try dsimp only
    unfold f_X10_loadsOf_b12
    dsimp only
    rw [m_a360 hL, bsome, hV.n, if_pos (le_rf _)]
    rfl)
  unfold f_X10_loadsOf
  have e' : whl fu (f_X10_loadsOf_b12 a (Int32.ofNat c) lg N) (0, onS (mi N a), 0) = some (ldB N (mi N a) c lg) := e
  rw [m_onSledge hL hV, bsome, e']
  rfl
theorem ldS_of {T T' : Mm} (e : mi T' 80 = mi T 80) {r : Nat → Int32} {c : Nat} {lg l0 : Int32} : ∀ n, ldS T' r c lg l0 n = ldS T r c lg l0 n := by
  intro n
  induction n with
  | zero => rfl
  | succ n ih =>
    unfold ldS
    rw [ih, e]
theorem ldB_of {T T' : Mm} (e : mi T' 80 = mi T 80) {r : Nat → Int32} {c : Nat} {lg : Int32} : ldB T' r c lg = ldB T r c lg := by unfold ldB; rw [ldS_of e]
theorem G_loads (hI : INV k M) : ∀ x1 x2 : Int32, GdJ k (f_X9_loads x1 x2 M) (f_X10_loads x1 x2) 1 0 0 := by
  obtain ⟨⟨q, h⟩, -⟩ := id hI
  intro x y
  unfold f_X9_loads
  by_cases hc : cOk M x y
  · rw [k_cell_y h hc, bsome]
    dsimp only
    obtain ⟨c, hc48, ec, -, -⟩ := cOk_c h hc
    rw [k_cellAt, bsome, ec, h.w, h.g, k_liftable h.gd h.wd.1 h.wd.2.1 h.wd.2.2.1 hc48, bsome]
    refine gd_qJ hI rfl ?_
    unfold f_X10_loads
    rw [m_cell_y (M := M) (by rw [nQ_def]; exact nQ_o (by omega)) h.gd.1 hc, bsome, if_neg z10, m_fine, bsome]
    dsimp only
    rw [if_pos z00, ec, nQ_def, m_loadsOf LN196 (vr_nQ h) hc48, bsome, nQ_o (by omega), ldB_of (nQ_o (by omega))]
  · rw [k_cell_n h hc, bsome]
    refine gd_r0J (b := 0) hI (by decide) rfl ?_
    unfold f_X10_loads
    rw [m_cell_n (M := M) (nR_o (by omega) (by omega)) h.gd.1 hc, bsome, if_pos z00, m_r0 1 (by decide), bsome]
    rfl
def stS (r : Nat → Int32) : Nat → Int32 × Int32
  | 0 => (-1, 0)
  | n + 1 => if (stS r n).2 < szIn r n then (Int32.ofNat n, szIn r n) else stS r n
theorem G_stoniest (hI : INV k M) : GdP k (f_X9_stoniest M) (f_X10_stoniest M) := by
  obtain ⟨⟨q, h⟩, -⟩ := id hI
  have e1 := whl_eq (f := f_X9_stoniest_b6 M) (e := (stS (mi M 196) 48).1) 48 fu (fun i => ((stS (mi M 196) i).1, (stS (mi M 196) i).2, Int32.ofNat i)) (by decide) (fun i hi => by
    try dsimp only
    unfold f_X9_stoniest_b6
    dsimp only
    have h9 : ¬ (48 : Int32) ≤ Int32.ofNat i := nle (n := 48) hi (by omega)
    rw [if_neg h9, h.w, k_sizesIn h.wd.1 h.wd.2.1 hi, bsome, oN_S]
    by_cases h1 : (stS (mi M 196) i).2 < szIn (mi M 196) i
    · rw [if_neg (lnle h1), show stS (mi M 196) (i + 1) = _ from if_pos h1]
    · rw [if_pos (nlt h1), show stS (mi M 196) (i + 1) = _ from if_neg h1]) (by
    try dsimp only
    unfold f_X9_stoniest_b6
    dsimp only
    have h9 : (48 : Int32) ≤ Int32.ofNat 48 := le_rf _
    rw [if_pos h9])
  have eN : mi (sI M 76 0 0) 196 = mi M 196 := mi_sI_ne (by omega)
  have e2 := whl_eq (f := f_X10_stoniest_b11 (sI M 76 0 0)) (e := (stS (mi M 196) 48).1) 48 fu (fun i => ((stS (mi M 196) i).1, (stS (mi M 196) i).2, Int32.ofNat i)) (by decide) (fun i hi => by
    try dsimp only
    unfold f_X10_stoniest_b11
    dsimp only
    have h9 : ¬ (48 : Int32) ≤ Int32.ofNat i := nle (n := 48) hi (by omega)
    rw [if_neg h9, m_sizesIn (w := tw M) (h := th M) LN196 (by rw [eN]; exact h.wd.1) hi, bsome, oN_S, eN]
    by_cases h1 : (stS (mi M 196) i).2 < szIn (mi M 196) i
    · rw [if_pos h1, bsome, show stS (mi M 196) (i + 1) = _ from if_pos h1]
    · rw [if_neg h1, show stS (mi M 196) (i + 1) = _ from if_neg h1]) (by
    try dsimp only
    unfold f_X10_stoniest_b11
    dsimp only
    have h9 : (48 : Int32) ≤ Int32.ofNat 48 := le_rf _
    rw [if_pos h9])
  have e1' : whl fu (f_X9_stoniest_b6 M) (-1, 0, 0) = some (stS (mi M 196) 48).1 := e1
  have e2' : whl fu (f_X10_stoniest_b11 (sI M 76 0 0)) (-1, 0, 0) = some (stS (mi M 196) 48).1 := e2
  refine ⟨(stS (mi M 196) 48).1, sI M 76 0 0, ?_, ?_, hI.q1⟩
  · unfold f_X9_stoniest
    rw [e1']
    rfl
  · unfold f_X10_stoniest
    rw [e2']
    rfl
/-- what is in the field; what is not lost there -/
abbrev inF (T : Mm) (c : Nat) : Prop := c % 8 < tw T ∧ c / 8 < th T
abbrev kpt (T : Mm) (r : Nat → Int32) (c : Nat) : Prop := inF T c ∧ ¬ r (367 + c) = 1
theorem k_hasCell {C T : Mm} {g c : Nat} (hG : RGd C T g) (hc : c < 48) : f_X3_hasCell g (Int32.ofNat c) C = some (if inF T c then 1 else 0) := by
  have h1 := hG.1.1
  have h2 := hG.1.2.1
  unfold f_X3_hasCell g_X3_hasCell
  rw [k_isCell hc, bsome, if_neg z10, k_column hc, bsome, hG.2.1.1, hG.2.1.2.1, h1.2.2, h2.2.2]
  by_cases a : c % 8 < tw T
  · rw [if_neg (nle a (by omega)), k_row hc, bsome]
    by_cases b : c / 8 < th T
    · rw [if_neg (nle b (by omega)), if_pos ⟨a, b⟩]; rfl
    · rw [if_pos (lle (by omega) (by omega)), if_neg (fun p => b p.2)]; rfl
  · rw [if_pos (lle (by omega) (by omega)), if_neg (fun p => a p.1)]; rfl
theorem m_isKept {N : Mm} {a c : Nat} (hT : RGt N) (hL : LN a = 415) (hc : c < 48) : f_X10_isKept a (Int32.ofNat c) N = some (if kpt N (mi N a) c then 1 else 0) := by
  unfold f_X10_isKept g_X10_isKept
  rw [kmod c hc, kdiv c hc, m_cellq hT (inF N c) (by
    rw [cOk_nat hT]
    have h1 := hT.1
    have h2 := hT.2.1
    constructor
    · rintro ⟨a, b, ha, hb, e1, e2⟩
      rw [oN_eq (by omega) (by omega)] at e1 e2
      exact ⟨by omega, by omega⟩
    · rintro ⟨h1, h2⟩
      exact ⟨_, _, h1, h2, rfl, rfl⟩), bsome]
  by_cases a1 : inF N c
  · rw [if_pos a1, if_neg z10, m_isLost hL hc, bsome]
    by_cases b : mi N a (367 + c) = 1
    · rw [if_pos b, if_neg z10, if_neg (fun p => p.2 b)]; rfl
    · rw [if_neg b, if_pos z00, if_pos ⟨a1, b⟩]; rfl
  · rw [if_neg a1, if_pos z00, if_neg (fun p => a1 p.1)]; rfl
theorem kp_of {T T' : Mm} (e : mi T' 80 = mi T 80) {r : Nat → Int32} {c : Nat} : kpt T' r c ↔ kpt T r c := by unfold kpt inF tw th; rw [e]
theorem G_clean (hI : INV k M) : GdP k (f_X9_clean M) (f_X10_clean M) := by
  obtain ⟨⟨q, h⟩, -⟩ := id hI
  have e1 := sum_loop (b := f_X9_clean_b4 M) 48 (fun c => if kpt M (mi M 196) c ∧ lyIn (mi M 196) c = 0 then 1 else 0) (by omega) (by
    intro i hi s
    unfold f_X9_clean_b4
    dsimp only
    have h9 : ¬ (48 : Int32) ≤ Int32.ofNat i := nle (n := 48) hi (by omega)
    rw [if_neg h9, h.g, h.w, k_hasCell h.gd hi, bsome]
    by_cases a : inF M i
    · rw [if_pos a, if_neg z10, k_isLost h.wd.1 h.wd.2.1 hi, bsome]
      by_cases b : mi M 196 (367 + i) = 1
      · rw [if_pos b, if_neg z10, if_neg (fun p => p.1.2 b), Int32.add_zero]
      · rw [if_neg b, if_pos z00, k_lyingIn h.wd.2.1 hi, bsome]
        by_cases c : lyIn (mi M 196) i = 0
        · rw [if_pos c, if_pos ⟨⟨a, b⟩, c⟩]
        · rw [if_neg c, if_neg (fun p => c p.2), Int32.add_zero]
    · rw [if_neg a, if_pos z00, if_neg (fun p => a p.1.1), Int32.add_zero]) (by
    intro s
    unfold f_X9_clean_b4
    dsimp only
    have h9 : (48 : Int32) ≤ Int32.ofNat 48 := le_rf _
    rw [if_pos h9])
  have eN : mi (sI M 76 0 0) 196 = mi M 196 := mi_sI_ne (by omega)
  have e8 : mi (sI M 76 0 0) 80 = mi M 80 := mi_sI_ne (by omega)
  have e2 := sum_loop (b := f_X10_clean_b9 (sI M 76 0 0)) 48 (fun c => if kpt M (mi M 196) c ∧ lyIn (mi M 196) c = 0 then 1 else 0) (by omega) (by
    intro i hi s
    unfold f_X10_clean_b9
    dsimp only
    have h9 : ¬ (48 : Int32) ≤ Int32.ofNat i := nle (n := 48) hi (by omega)
    rw [if_neg h9, m_isKept (RGt_of e8 h.gd.1) LN196 hi, bsome, eN]
    by_cases a : kpt M (mi M 196) i
    · rw [if_pos ((kp_of e8).mpr a), if_neg z10, m_lyingIn (w := tw M) (h := th M) LN196 (by rw [eN]; exact h.wd.1) hi, bsome, eN]
      by_cases c : lyIn (mi M 196) i = 0
      · rw [if_pos c, if_pos ⟨a, c⟩]
      · rw [if_neg c, if_neg (fun p => c p.2)]; rfl
    · rw [if_neg (fun p => a ((kp_of e8).mp p)), if_pos z00, if_neg (fun p => a p.1)]; rfl) (by
    intro s
    unfold f_X10_clean_b9
    dsimp only
    have h9 : (48 : Int32) ≤ Int32.ofNat 48 := le_rf _
    rw [if_pos h9])
  refine ⟨sm 48 (fun c => if kpt M (mi M 196) c ∧ lyIn (mi M 196) c = 0 then 1 else 0), sI M 76 0 0, ?_, ?_, hI.q1⟩
  · unfold f_X9_clean
    rw [e1]
    rfl
  · unfold f_X10_clean
    rw [e2]
    rfl
end AR
