/-! level 3: the line -/
theorem in01 {x : Int32} : (0 ≤ x ∧ x ≤ 1) ↔ (x = 0 ∨ x = 1) := by
  constructor
  · intro p
    obtain ⟨n, -, hn, rfl⟩ := (in_nat (lo := 0) (hi := 1) (by omega) (by omega)).mp p
    have h9 : n = 0 ∨ n = 1 := by omega
    rcases h9 with rfl | rfl
    · exact Or.inl rfl
    · exact Or.inr rfl
  · rintro (rfl | rfl) <;> decide
section LI
variable {k : Nat} {M : Mm} {q : Nat → Nat}
def lnO (T : Mm) (r : Nat → Int32) (s y : Int32) : Int32 := sm (rN r) (fun i => if Th r i then (if r (6 * i + 2) < s then y * dmgO T r (rC r i) (r (6 * i + 2)) else clrO T r i) else 0)
theorem lnO_eq {T : Mm} {r : Nat → Int32} {s y : Int32} : clrA T r s + y * dmgA T r s = lnO T r s y := by
  unfold clrA dmgA lnO
  rw [← sm_mul, ← sm_add]
  refine sm_congr (fun i _ => ?_)
  by_cases h1 : Th r i
  · rw [if_pos h1]
    by_cases h2 : r (6 * i + 2) < s
    · rw [if_neg (fun p => p.2 h2), if_pos ⟨h1, lnle h2⟩, if_pos h2, Int32.zero_add]
    · rw [if_pos ⟨h1, h2⟩, if_neg (fun p => p.2 (nlt h2)), if_neg h2, Int32.mul_zero, Int32.add_zero]
  · rw [if_neg h1, if_neg (fun p => h1 p.1), if_neg (fun p => h1 p.1), Int32.mul_zero, Int32.add_zero]
/-- what the reference's questions read of its memory, but for its rows -/
def TQ (N N' : Mm) : Prop := mi N' 80 = mi N 80 ∧ mi N' 82 = mi N 82 ∧ mi N' 114 = mi N 114 ∧ mi N' 118 = mi N 118 ∧ mi N' 119 = mi N 119
theorem TQ.refl {N : Mm} : TQ N N := ⟨rfl, rfl, rfl, rfl, rfl⟩
theorem TQ.trans {A B C : Mm} (h1 : TQ A B) (h2 : TQ B C) : TQ A C := ⟨h2.1.trans h1.1, h2.2.1.trans h1.2.1, h2.2.2.1.trans h1.2.2.1, h2.2.2.2.1.trans h1.2.2.2.1, h2.2.2.2.2.trans h1.2.2.2.2⟩
theorem Om.tq {S : Nat → Prop} {N N' : Mm} (h : Om S N N') (hS : ∀ a, S a → frT a) : TQ N N' := ⟨h.at (fun hs => by have := hS _ hs; unfold frT at this; omega), h.at (fun hs => by have := hS _ hs; unfold frT at this; omega), h.at (fun hs => by have := hS _ hs; unfold frT at this; omega), h.at (fun hs => by have := hS _ hs; unfold frT at this; omega), h.at (fun hs => by have := hS _ hs; unfold frT at this; omega)⟩
theorem Oml.tq {S : Nat → Prop} {N N' : Mm} (h : Oml S N N') (hS : ∀ a, S a → frT a) : TQ N N' := ⟨h.at (fun hs => by have := hS _ hs; unfold frT at this; omega), h.at (fun hs => by have := hS _ hs; unfold frT at this; omega), h.at (fun hs => by have := hS _ hs; unfold frT at this; omega), h.at (fun hs => by have := hS _ hs; unfold frT at this; omega), h.at (fun hs => by have := hS _ hs; unfold frT at this; omega)⟩
theorem TQ.nQ {N : Mm} {v : Int64} : TQ N (nQ N v) := ⟨nQ_o (by omega), nQ_o (by omega), nQ_o (by omega), nQ_o (by omega), nQ_o (by omega)⟩
theorem TQ.dmg {N N' : Mm} (h : TQ N N') {r : Nat → Int32} {c : Nat} {s : Int32} : dmgO N' r c s = dmgO N r c s := dmgO_of h.2.2.1 h.2.2.2.1 h.2.1
theorem TQ.clr {N N' : Mm} (h : TQ N N') {r : Nat → Int32} {i : Nat} : clrO N' r i = clrO N r i := by unfold clrO; rw [h.1]
theorem TQ.ln {N N' : Mm} (h : TQ N N') {r : Nat → Int32} {s y : Int32} : lnO N' r s y = lnO N r s y := by
  unfold lnO
  refine sm_congr (fun i _ => ?_)
  rw [h.dmg, h.clr]
theorem TQ.lw {C N N' : Mm} (h : TQ N N') {l : Nat} (hR : RLaw C N l 0) : RLaw C N' l 0 := hR.T h.2.2.1 h.2.2.2.1
theorem m15 {a : Nat} (ha : a = 115 ∨ a = 116) : frT a := by unfold frT; omega
theorem m_lineBy {C N : Mm} {w h l : Nat} {s y : Int32} (hV : VR w h (mi N 196)) (hR : RLaw C N l 0) : ∃ N', f_X10_lineBy s y N = some (lnO N (mi N 196) s y, N') ∧ Om (fun a => a = 115 ∨ a = 116) N N' := by
  have h6 := hV.n60
  obtain ⟨N', e, hO⟩ := sum_loopM (b := f_X10_lineBy_b5 s y) (S := fun a => a = 115 ∨ a = 116) (rN (mi N 196)) (fun i => if Th (mi N 196) i then (if mi N 196 (6 * i + 2) < s then y * dmgO N (mi N 196) (rC (mi N 196) i) (mi N 196 (6 * i + 2)) else clrO N (mi N 196) i) else 0) N (by omega) (by
    intro i hi acc N1 hO
    have e1 : mi N1 196 = mi N 196 := hO.at (by omega)
    have hq := hO.tq (fun a => m15)
    have hV1 : VR w h (mi N1 196) := by rw [e1]; exact hV
    have hi1 : i < rN (mi N1 196) := by rw [e1]; exact hi
    unfold f_X10_lineBy_b5
    dsimp only
    rw [show ai N1 196 415 360 = some (mi N1 196 360) from ai_o (i := 360) (by omega) (by omega), bsome, hV1.n, if_neg (nle hi1 hV1.n1), m_isThere LN196 hV1 hi1, bsome]
    by_cases h1 : Th (mi N1 196) i
    · rw [if_pos h1, if_neg z10, m_of2 LN196 (by omega), bsome]
      by_cases h2 : mi N1 196 (6 * i + 2) < s
      · obtain ⟨N2, p1, p2⟩ := m_damageOf (C := C) (l := l) (size := mi N1 196 (6 * i + 2)) (a := 196) LN196 (by omega) hV1 (hq.lw hR) (hV1.c48 hi1)
        rw [if_pos h2, m_cellOf LN196 hV1 hi1, bsome, bsome, p1, bsome]
        refine ⟨N2, ?_, p2⟩
        unfold f_X10_lineBy_j87
        rw [e1] at h1 h2 ⊢
        rw [if_pos h1, if_pos h2, hq.dmg]
      · rw [if_neg h2, m_clearOf LN196 (by omega), bsome]
        refine ⟨N1, ?_, Om.refl⟩
        unfold f_X10_lineBy_j87
        rw [e1] at h1 h2 ⊢
        rw [if_pos h1, if_neg h2, hq.clr]
    · rw [if_neg h1, if_pos z00]
      rw [e1] at h1
      rw [if_neg h1, Int32.add_zero]
      exact ⟨N1, rfl, Om.refl⟩) (by
    intro acc N1 hO
    have e1 : mi N1 196 = mi N 196 := hO.at (by omega)
    unfold f_X10_lineBy_b5
    dsimp only
    rw [show ai N1 196 415 360 = some (mi N1 196 360) from ai_o (i := 360) (by omega) (by omega), bsome, e1, hV.n, if_pos (le_rf _)])
  unfold f_X10_lineBy
  rw [e]
  exact ⟨N', rfl, hO⟩
theorem k_settle {C : Mm} {a b c : Int64} : f_X0_settle a b c C = some (sL (sL (sL C 13 0 a) 13 1 b) 13 2 c) := by
  unfold f_X0_settle
  rw [show ∀ (N : Mm) (x : Int64), wl N 13 3 0 x = some (sL N 13 0 x) from fun N x => wl_o (i := 0) (by omega) (by omega), bsome, show ∀ (N : Mm) (x : Int64), wl N 13 3 1 x = some (sL N 13 1 x) from fun N x => wl_o (i := 1) (by omega) (by omega), bsome, show ∀ (N : Mm) (x : Int64), wl N 13 3 2 x = some (sL N 13 2 x) from fun N x => wl_o (i := 2) (by omega) (by omega), bsome]
theorem set0 {C : Mm} {a b c : Int64} : ml (sL (sL (sL C 13 0 a) 13 1 b) 13 2 c) 13 0 = a := by rw [ml_sL_o (by omega), ml_sL_o (by omega), ml_sL_k]
theorem set1 {C : Mm} {a b c : Int64} : ml (sL (sL (sL C 13 0 a) 13 1 b) 13 2 c) 13 1 = b := by rw [ml_sL_o (by omega), ml_sL_k]
theorem set2 {C : Mm} {a b c : Int64} : ml (sL (sL (sL C 13 0 a) 13 1 b) 13 2 c) 13 2 = c := ml_sL_k
theorem setO {C : Mm} {a b c : Int64} {S : Nat → Prop} (h : S 13) : Oml S C (sL (sL (sL C 13 0 a) 13 1 b) 13 2 c) := oml_sl (oml_sl (oml_sl Oml.refl h) h) h
theorem al13 {C : Mm} {i : Nat} (hi : i < 3) : al C 13 3 (Int32.ofNat i) = some (ml C 13 i) := al_o hi (by omega)
theorem k_answer {C : Mm} {i : Nat} (hi : i < 3) : f_X0_answerTo (Int32.ofNat i) C = some (ml C 13 i) := by
  unfold f_X0_answerTo
  rw [if_neg (oN_nn (by omega)), if_neg (show ¬ (3 : Int32) ≤ Int32.ofNat i from nle (n := 3) hi (by omega)), al13 hi]
  rfl
/-- the best size so far -/
def bl (f : Nat → Int32) : Nat → Nat
  | 0 => 1
  | 1 => 1
  | i + 2 => if f (bl f (i + 1)) ≤ f (i + 2) then bl f (i + 1) else i + 2
theorem bl_le {f : Nat → Int32} : ∀ i, 1 ≤ bl f (i + 1) ∧ bl f (i + 1) ≤ i + 1 := by
  intro i
  induction i with
  | zero => exact ⟨Nat.le_refl _, Nat.le_refl _⟩
  | succ i ih =>
    unfold bl
    split
    · omega
    · omega
theorem k_planLine {C T : Mm} {g hl rl w w9 h9 : Nat} {r : Nat → Int32} {y : Int32} (hX : CX C T g hl rl w r) (hV : VR w9 h9 r) (hd : ∀ a, (a = hl + 2 ∨ a = hl + 3 ∨ a = 13) → awy g hl rl w a) : ∃ C', f_X0_planLine g w y C = some C' ∧ Oml (fun a => a = hl + 2 ∨ a = hl + 3 ∨ a = 13) C C' ∧ ml C' 13 0 = (Int32.ofNat (bl (fun s => lnO T r (Int32.ofNat s) y) 10)).toInt64 ∧ ml C' 13 1 = (lnO T r (Int32.ofNat (bl (fun s => lnO T r (Int32.ofNat s) y) 10)) y).toInt64 := by
  have key := whl_ex (f := f_X0_planLine_b12 g w y) (fun i st => ∃ C1, st = (Int32.ofNat (i + 1), C1) ∧ Oml (fun a => a = hl + 2 ∨ a = hl + 3 ∨ a = 13) C C1 ∧ (i = 0 → ml C1 13 0 = -1) ∧ (0 < i → ml C1 13 0 = (Int32.ofNat (bl (fun s => lnO T r (Int32.ofNat s) y) i)).toInt64 ∧ ml C1 13 1 = (lnO T r (Int32.ofNat (bl (fun s => lnO T r (Int32.ofNat s) y) i)) y).toInt64)) (fun C' => Oml (fun a => a = hl + 2 ∨ a = hl + 3 ∨ a = 13) C C' ∧ ml C' 13 0 = (Int32.ofNat (bl (fun s => lnO T r (Int32.ofNat s) y) 10)).toInt64 ∧ ml C' 13 1 = (lnO T r (Int32.ofNat (bl (fun s => lnO T r (Int32.ofNat s) y) 10)) y).toInt64) 10 fu (1, sL (sL (sL C 13 0 (-1)) 13 1 0) 13 2 0) (by decide) ⟨_, rfl, setO (Or.inr (Or.inr rfl)), fun _ => set0, fun h => absurd h (by omega)⟩ (by
    rintro i st hi ⟨C1, rfl, hO, z0, z1⟩
    obtain ⟨x1, x2, x3, x4, x5, x6⟩ := hX.oml hO hd
    obtain ⟨C2, p1, p2⟩ := k_harmOfAll (s := Int32.ofNat (i + 1)) (hX.oml hO hd) hV (fun a ha => hd a (ha.elim Or.inl (fun b => Or.inr (Or.inl b))))
    have hO2 : Oml (fun a => a = hl + 2 ∨ a = hl + 3 ∨ a = 13) C C2 := hO.trans (p2.l.mono (fun a ha => ha.elim Or.inl (fun b => Or.inr (Or.inl b))))
    have ml2 : ml C2 = ml C1 := p2.2.2.2.1
    have h10 : ¬ (10 : Int32) < Int32.ofNat (i + 1) := lenl (show Int32.ofNat (i + 1) ≤ Int32.ofNat 10 from lle (by omega) (by omega))
    have sub : ∀ c9 : Int32, f_X0_planLine_j64 g w y (Int32.ofNat (i + 1)) c9 C2 = some (.inl (Int32.ofNat (i + 2), sL (sL (sL C2 13 0 (Int32.ofNat (i + 1)).toInt64) 13 1 c9.toInt64) 13 2 0)) := fun c9 => by
      unfold f_X0_planLine_j64
      rw [k_settle, bsome, oN_S]
    refine Or.inl ?_
    unfold f_X0_planLine_b12
    dsimp only
    rw [if_neg h10, k_clearingOfAll x1 hV x2, bsome, p1, bsome]
    dsimp only
    rw [lnO_eq, show al C2 13 3 0 = some (ml C2 13 0) from al13 (i := 0) (by omega), bsome, ml2]
    by_cases hi0 : i = 0
    · subst hi0
      rw [z0 rfl, if_pos (lg_z.mpr rfl), sub]
      exact ⟨_, rfl, _, rfl, hO2.trans (setO (Or.inr (Or.inr rfl))), fun h => absurd h (by omega), fun _ => ⟨set0, set1⟩⟩
    · obtain ⟨i, rfl⟩ : ∃ j, i = j + 1 := ⟨i - 1, by omega⟩
      obtain ⟨za, zb⟩ := z1 (by omega)
      have hb := bl_le (f := fun s => lnO T r (Int32.ofNat s) y) i
      have hz : ¬ lg_cmp (Int32.ofNat (bl (fun s => lnO T r (Int32.ofNat s) y) (i + 1))).toInt64 (-1) = 0 := fun e => by
        have e2 := lg_z.mp e
        have e3 : (Int32.ofNat (bl (fun s => lnO T r (Int32.ofNat s) y) (i + 1))).toInt64 = (-1 : Int32).toInt64 := e2
        exact oN_nn (i := bl (fun s => lnO T r (Int32.ofNat s) y) (i + 1)) (by omega) (by rw [t64_eq.mp e3]; decide)
      rw [za, if_neg hz, show al C2 13 3 1 = some (ml C2 13 1) from al13 (i := 1) (by omega), bsome, ml2, zb]
      by_cases hle : lnO T r (Int32.ofNat (bl (fun s => lnO T r (Int32.ofNat s) y) (i + 1))) y ≤ lnO T r (Int32.ofNat (i + 2)) y
      · rw [if_pos (lg_lt.mpr (t64_le.mpr hle)), oN_S]
        have eb : bl (fun s => lnO T r (Int32.ofNat s) y) (i + 2) = bl (fun s => lnO T r (Int32.ofNat s) y) (i + 1) := if_pos hle
        exact ⟨_, rfl, C2, rfl, hO2, fun h => absurd h (by omega), fun _ => by rw [eb, ml2]; exact ⟨za, zb⟩⟩
      · rw [if_neg (fun p => hle (t64_le.mp (lg_lt.mp p))), sub]
        have eb : bl (fun s => lnO T r (Int32.ofNat s) y) (i + 2) = i + 2 := if_neg hle
        exact ⟨_, rfl, _, rfl, hO2.trans (setO (Or.inr (Or.inr rfl))), fun h => absurd h (by omega), fun _ => by rw [eb]; exact ⟨set0, set1⟩⟩) (by
    rintro st ⟨C1, rfl, hO, z0, z1⟩
    refine ⟨C1, ?_, hO, z1 (by omega)⟩
    unfold f_X0_planLine_b12
    dsimp only
    rw [if_pos (show (10 : Int32) < Int32.ofNat (10 + 1) by decide)])
  obtain ⟨C', e, p⟩ := key
  unfold f_X0_planLine
  rw [k_settle, bsome, e]
  exact ⟨C', rfl, p⟩
theorem m_lineLoop {C N : Mm} {w h l : Nat} {y x2 : Int32} (hV : VR w h (mi N 196)) (hR : RLaw C N l 0) : ∃ N', whl fu (f_X10_line_b45 y x2) (1, 2, N) = some (Int32.ofNat (bl (fun s => lnO N (mi N 196) (Int32.ofNat s) y) 10), N') ∧ Om (fun a => a = 115 ∨ a = 116) N N' := by
  obtain ⟨e, h1, N', rfl, h2⟩ := whl_ex (f := f_X10_line_b45 y x2) (fun i st => ∃ N1, st = (Int32.ofNat (bl (fun s => lnO N (mi N 196) (Int32.ofNat s) y) (i + 1)), Int32.ofNat (i + 2), N1) ∧ Om (fun a => a = 115 ∨ a = 116) N N1) (fun e => ∃ N', e = (Int32.ofNat (bl (fun s => lnO N (mi N 196) (Int32.ofNat s) y) 10), N') ∧ Om (fun a => a = 115 ∨ a = 116) N N') 9 fu (1, 2, N) (by decide) ⟨N, rfl, Om.refl⟩ (by
    rintro i st hi ⟨N1, rfl, hO⟩
    have e1 : mi N1 196 = mi N 196 := hO.at (by omega)
    have hq := hO.tq (fun a => m15)
    obtain ⟨N2, p1, p2⟩ := m_lineBy (s := Int32.ofNat (i + 2)) (y := y) (w := w) (h := h) (by rw [e1]; exact hV) (hq.lw hR)
    have e2 : mi N2 196 = mi N 196 := (p2.at (by omega)).trans e1
    have hq2 := hq.trans (p2.tq (fun a => m15))
    obtain ⟨N3, p3, p4⟩ := m_lineBy (s := Int32.ofNat (bl (fun s => lnO N (mi N 196) (Int32.ofNat s) y) (i + 1))) (y := y) (w := w) (h := h) (by rw [e2]; exact hV) (hq2.lw hR)
    have h11 : ¬ (11 : Int32) ≤ Int32.ofNat (i + 2) := nle (n := 11) (by omega) (by omega)
    refine Or.inl ⟨_, ?_, N3, rfl, (hO.trans p2).trans p4⟩
    unfold f_X10_line_b45
    dsimp only
    rw [if_neg h11, p1, bsome]
    dsimp only
    rw [p3, bsome]
    dsimp only
    rw [e1, e2, hq.ln, hq2.ln, oN_S]
    by_cases hle : lnO N (mi N 196) (Int32.ofNat (bl (fun s => lnO N (mi N 196) (Int32.ofNat s) y) (i + 1))) y ≤ lnO N (mi N 196) (Int32.ofNat (i + 2)) y
    · rw [if_pos hle, show bl (fun s => lnO N (mi N 196) (Int32.ofNat s) y) (i + 2) = _ from if_pos hle]
    · rw [if_neg hle, show bl (fun s => lnO N (mi N 196) (Int32.ofNat s) y) (i + 2) = _ from if_neg hle]) (by
    rintro st ⟨N1, rfl, hO⟩
    refine ⟨_, ?_, N1, rfl, hO⟩
    unfold f_X10_line_b45
    dsimp only
    rw [if_pos (show (11 : Int32) ≤ Int32.ofNat (9 + 2) by decide)])
  exact ⟨N', h1, h2⟩
theorem G_line (hI : INV k M) : ∀ x1 x2 : Int32, GdI k (f_X9_line x1 x2 M) (f_X10_line x1 x2) 0 0 1 := by
  obtain ⟨⟨q, h⟩, r⟩ := id hI
  intro y x
  have harg : f_X9_line y x M = if (0 ≤ y ∧ y ≤ 60) ∧ (x = 0 ∨ x = 1) then f_X9_line_j25 y x 1 M else f_X9_line_j25 y x 0 M := by
    unfold f_X9_line
    rw [arg2]
    by_cases hy : (0 : Int32) ≤ y ∧ y ≤ 60
    · rw [if_pos hy]
      by_cases h0 : x = 0
      · rw [if_pos h0, if_pos ⟨hy, Or.inl h0⟩]; rfl
      · rw [if_neg h0]
        by_cases h1 : x = 1
        · rw [if_pos h1, if_pos ⟨hy, Or.inr h1⟩]; rfl
        · rw [if_neg h1, if_neg (fun p => p.2.elim h0 h1)]; rfl
    · rw [if_neg hy, if_neg (fun p => hy p.1)]; rfl
  rw [harg]
  by_cases hc : ((0 : Int32) ≤ y ∧ y ≤ 60) ∧ (x = 0 ∨ x = 1)
  · rw [if_pos hc]
    have hd : ∀ a, (a = q 6 + 2 ∨ a = q 6 + 3 ∨ a = 13) → awy (q 0) (q 6) (q 7) (q 2) a := fun a ha => awy_of h.1 (by omega)
    obtain ⟨C', p1, p2, p3, p4⟩ := k_planLine (y := y) h.cx h.wd.1 hd
    have s1 : ∀ a, (a = q 6 + 2 ∨ a = q 6 + 3 ∨ a = 13) → frC q a ∧ frT a := fun a ha => frC_of h.1 (by omega)
    have h' : RR C' C' q := h.oml p2 p2 (fun a ha => (s1 a ha).1) (fun a ha => (s1 a ha).2)
    have hq0 : TQ M C' := p2.tq (fun a ha => (s1 a ha).2)
    have e196 : mi C' 196 = mi M 196 := p2.at (fun hs => by have := (s1 196 hs).2; unfold frT at this; omega)
    unfold f_X9_line_j25
    rw [needA1, bsome]
    dsimp only
    rw [h.g, h.w, p1, bsome]
    have hm : ∀ v : Int64, ∃ N', f_X10_line y x (sL C' 275 0 v) = some (if x = 0 then Int32.ofNat (bl (fun s => lnO M (mi M 196) (Int32.ofNat s) y) 10) else lnO M (mi M 196) (Int32.ofNat (bl (fun s => lnO M (mi M 196) (Int32.ofNat s) y) 10)) y, N') ∧ Om (fun a => a = 115 ∨ a = 116) (nQ C' v) N' := fun v => by
      have hqv : TQ M (nQ C' v) := hq0.trans TQ.nQ
      have e1 : mi (nQ C' v) 196 = mi M 196 := (nQ_o (by omega)).trans e196
      obtain ⟨N1, n1, n2⟩ := m_lineLoop (C := C') (N := nQ C' v) (l := q 6) (y := y) (x2 := x) (vr_nQ h') (TQ.nQ.lw h'.lh)
      have ef : (fun s => lnO (nQ C' v) (mi (nQ C' v) 196) (Int32.ofNat s) y) = fun s => lnO M (mi M 196) (Int32.ofNat s) y := by
        funext s
        rw [e1, hqv.ln]
      rw [ef] at n1
      have hq1 := hqv.trans (n2.tq (fun a => m15))
      have e2 : mi N1 196 = mi M 196 := (n2.at (by omega)).trans e1
      have hR1 : RLaw C' N1 (q 6) 0 := (TQ.nQ.trans (n2.tq (fun a => m15))).lw h'.lh
      obtain ⟨N2, n3, n4⟩ := m_lineBy (s := Int32.ofNat (bl (fun s => lnO M (mi M 196) (Int32.ofNat s) y) 10)) (y := y) (w := tw M) (h := th M) (by rw [e2]; exact h.wd.1) hR1
      unfold f_X10_line
      rw [m_in, bsome, if_pos hc.1, if_neg z10, m_in, bsome, if_pos (in01.mpr hc.2), if_neg z10]
      unfold f_X10_line_j30
      rw [m_fine, bsome]
      dsimp only
      rw [if_pos z00, nQ_def, n1, bsome]
      dsimp only
      by_cases h0 : x = 0
      · rw [if_pos h0, if_pos h0]
        exact ⟨N1, rfl, n2⟩
      · rw [if_neg h0, if_neg h0, n3, bsome]
        dsimp only
        rw [e2, hq1.ln]
        exact ⟨N2, rfl, n2.trans n4⟩
    rcases hc.2 with rfl | rfl
    · rw [show f_X0_answerTo 0 C' = some (ml C' 13 0) from k_answer (i := 0) (by omega), bsome, p3, Int32.toInt32_toInt64]
      obtain ⟨N', n1, n2⟩ := hm (Int32.ofNat (bl (fun s => lnO M (mi M 196) (Int32.ofNat s) y) 10)).toInt64
      rw [if_pos rfl] at n1
      exact gd_ml h r p2 n2.l s1 (fun a ha => frT_of h.1 (by omega)) (by omega) rfl n1
    · rw [show f_X0_answerTo 1 C' = some (ml C' 13 1) from k_answer (i := 1) (by omega), bsome, p4, Int32.toInt32_toInt64]
      obtain ⟨N', n1, n2⟩ := hm (lnO M (mi M 196) (Int32.ofNat (bl (fun s => lnO M (mi M 196) (Int32.ofNat s) y) 10)) y).toInt64
      rw [if_neg z10] at n1
      exact gd_ml h r p2 n2.l s1 (fun a ha => frT_of h.1 (by omega)) (by omega) rfl n1
  · rw [if_neg hc]
    unfold f_X9_line_j25
    rw [needA0, bsome]
    refine gd_r2 (b := 0) hI (by decide) rfl ?_
    unfold f_X10_line
    rw [m_in, bsome]
    by_cases hy : (0 : Int32) ≤ y ∧ y ≤ 60
    · have hx : ¬ ((0 : Int32) ≤ x ∧ x ≤ 1) := fun p => hc ⟨hy, in01.mp p⟩
      rw [if_pos hy, if_neg z10, m_in, bsome, if_neg hx, if_pos z00]
      unfold f_X10_line_j25 f_X10_line_j30
      rw [m_r2 1 (by decide), bsome]
      rfl
    · rw [if_neg hy, if_pos z00]
      unfold f_X10_line_j25 f_X10_line_j30
      rw [m_r2 1 (by decide), bsome]
      rfl
end LI
