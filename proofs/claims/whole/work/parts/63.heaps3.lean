/-! level 3: heaps asked -/
section HR
variable {k : Nat} {M : Mm} {q : Nat → Nat}
def trH (v d : Int32) (s : Int32 × Int32) : Int32 × Int32 := if v < s.1 then (v, d) else s
def sgH (T : Mm) (r : Nat → Int32) (y : Int32) : Nat → Int32 × Int32
  | 0 => (hbO T r none none y, 0)
  | c + 1 => if kpt T r c then trH (hbO T r (some c) none y) (Int32.ofNat (c + 1)) (sgH T r y c) else sgH T r y c
def prI (T : Mm) (r : Nat → Int32) (y : Int32) (a : Nat) (s : Int32 × Int32) : Nat → Int32 × Int32
  | 0 => s
  | b + 1 => if a < b ∧ kpt T r b then trH (hbO T r (some a) (some b) y) (Int32.ofNat (64 * (a + 1) + b + 1)) (prI T r y a s b) else prI T r y a s b
def prO (T : Mm) (r : Nat → Int32) (y : Int32) : Nat → Int32 × Int32
  | 0 => sgH T r y 48
  | a + 1 => if kpt T r a then prI T r y a (prO T r y a) 48 else prO T r y a
theorem prI_low {T : Mm} {r : Nat → Int32} {y : Int32} {a : Nat} {s : Int32 × Int32} : ∀ b, b ≤ a + 1 → prI T r y a s b = s := by
  intro b
  induction b with
  | zero => intro _; rfl
  | succ b ih =>
    intro h
    unfold prI
    rw [if_neg (fun p => by have := p.1; omega), ih (by omega)]
/-- answers as they stand -/
def ans (C : Mm) (s : Int32 × Int32) : Prop := ml C 13 0 = s.1.toInt64 ∧ ml C 13 1 = s.2.toInt64
theorem k_tryHeaps {C : Mm} {s : Int32 × Int32} {v d : Int32} (h : ans C s) : ∃ C', f_X0_tryHeaps v d C = some C' ∧ Oml (fun a => a = 13) C C' ∧ ans C' (trH v d s) := by
  unfold f_X0_tryHeaps trH
  rw [show al C 13 3 0 = some (ml C 13 0) from al13 (i := 0) (by omega), bsome, h.1]
  by_cases h1 : v < s.1
  · rw [if_neg (fun p => lnle h1 (t64_le.mp (lg_lt.mp p))), if_pos h1, k_settle, bsome]
    exact ⟨_, rfl, setO rfl, set0, set1⟩
  · rw [if_pos (lg_lt.mpr (t64_le.mpr (nlt h1))), if_neg h1]
    exact ⟨C, rfl, Oml.refl, h⟩
theorem k_heapable {C T : Mm} {g w c w9 h9 : Nat} {r : Nat → Int32} (hG : RGd C T g) (hV : VR w9 h9 r) (hW : RW C w r) (hc : c < 48) : f_X0_isHeapable g w (Int32.ofNat c) C = some (if kpt T r c then 1 else 0) := by
  unfold f_X0_isHeapable g_X0_isHeapable
  rw [k_hasCell hG hc, bsome]
  by_cases a : inF T c
  · rw [if_pos a, if_neg z10, k_isLost hV hW hc, bsome]
    by_cases b : r (367 + c) = 1
    · rw [if_pos b, if_neg z10, if_neg (fun p => p.2 b)]; rfl
    · rw [if_neg b, if_pos z00, if_pos ⟨a, b⟩]; rfl
  · rw [if_neg a, if_pos z00, if_neg (fun p => a p.1)]; rfl
/-- ground, world, and how far all are carried -/
def HX (C T : Mm) (g w : Nat) (r : Nat → Int32) : Prop := RGd C T g ∧ RW C w r ∧ mi C 12 5 = Int32.ofNat (cnt r (rN r)) ∧ ∀ j, j < rN r → Th r j → ∀ c, c ≤ 48 → mi C 17 (c * 60 + cnt r j) = hwc r c j
theorem HX.oml {C C' T : Mm} {g w : Nat} {r : Nat → Int32} (h : HX C T g w r) (hO : Oml (fun a => a = 13) C C') (hg : g ≠ 13 ∧ g + 1 ≠ 13) (hw : ¬ (w ≤ 13 ∧ 13 ≤ w + 7)) : HX C' T g w r := by
  obtain ⟨h1, h2, h3, h4⟩ := h
  refine ⟨h1.frame (hO.at hg.1) (hO.at hg.2) KT.refl, h2.frame (fun j hj => hO.at (by omega)), by rw [hO.at (by omega)]; exact h3, fun j hj hT c hc => by rw [hO.at (by omega)]; exact h4 j hj hT c hc⟩
theorem k_planHeaps {C T : Mm} {g w w9 h9 : Nat} {r : Nat → Int32} {y : Int32} (hG : RGd C T g) (hV : VR w9 h9 r) (hW : RW C w r) (hg : 17 < g) (hw : 17 < w) : ∃ C', f_X0_planHeaps g w y C = some C' ∧ Oml (fun a => a = 12 ∨ a = 17 ∨ a = 13) C C' ∧ ans C' (prO T r y 48) := by
  obtain ⟨C1, e1, hO1, p1, p2⟩ := k_measureCarries hW hV (fun a ha => by omega)
  have hX1 : HX C1 T g w r := ⟨hG.frame (hO1.at (by omega)) (hO1.at (by omega)) KT.refl, hW.frame (fun j hj => hO1.at (by omega)), p1, p2⟩
  generalize hC2 : sL (sL (sL C1 13 0 (mi C1 g 9 * hs r 48 48).toInt64) 13 1 0) 13 2 0 = C2
  have hO2 : Oml (fun a => a = 13) C1 C2 := by rw [← hC2]; exact setO rfl
  have a2 : ans C2 (sgH T r y 0) := by
    rw [← hC2, hX1.1.2.1.2.2.2.2.2.2.1, hb0 (y := y)]
    exact ⟨set0, set1⟩
  have go : ∀ C', Oml (fun a => a = 13) C1 C' → HX C' T g w r := fun C' hO => hX1.oml hO (by omega) (by omega)
  obtain ⟨C3, e3, hO3, a3⟩ := whl_ex (f := f_X0_planHeaps_b28 g w y) (fun i st => ∃ C', st = (Int32.ofNat i, C') ∧ Oml (fun a => a = 13) C1 C' ∧ ans C' (sgH T r y i)) (fun C' => Oml (fun a => a = 13) C1 C' ∧ ans C' (sgH T r y 48)) 48 fu (0, C2) (by decide) ⟨C2, rfl, hO2, a2⟩ (by
    rintro i st hi ⟨C', rfl, hO, ha⟩
    obtain ⟨x1, x2, x3, x4⟩ := go C' hO
    have h48 : ¬ (48 : Int32) ≤ Int32.ofNat i := nle (n := 48) hi (by omega)
    refine Or.inl ?_
    unfold f_X0_planHeaps_b28
    dsimp only
    rw [if_neg h48, k_heapable x1 hV x2 hi, bsome, oN_S]
    by_cases hk : kpt T r i
    · obtain ⟨C9, t1, t2, t3⟩ := k_tryHeaps (v := hbO T r (some i) none y) (d := Int32.ofNat (i + 1)) ha
      rw [if_pos hk, if_neg z10, k_carriedBy hV (by omega) (by omega) x3 x4, bsome, k_soil x1 hi, bsome, x1.2.1.2.2.2.2.2.2.1, hb1 hi, t1, bsome]
      exact ⟨_, rfl, C9, rfl, hO.trans t2, by rw [show sgH T r y (i + 1) = _ from if_pos hk]; exact t3⟩
    · rw [if_neg hk, if_pos z00]
      exact ⟨_, rfl, C', rfl, hO, by rw [show sgH T r y (i + 1) = _ from if_neg hk]; exact ha⟩) (by
    rintro st ⟨C', rfl, hO, ha⟩
    refine ⟨C', ?_, hO, ha⟩
    unfold f_X0_planHeaps_b28
    dsimp only
    rw [if_pos (show (48 : Int32) ≤ Int32.ofNat 48 from le_rf _)])
  have pairs : ∀ (a : Nat) (C' : Mm) (s : Int32 × Int32), a < 48 → Oml (fun x => x = 13) C1 C' → ans C' s → ∃ C9, f_X0_tryPairs g w y (Int32.ofNat a) C' = some C9 ∧ Oml (fun x => x = 13) C1 C9 ∧ ans C9 (prI T r y a s 48) := by
    intro a C' s ha hO hA
    obtain ⟨C9, t1, t2, t3⟩ := whl_ex (f := f_X0_tryPairs_b6 g w y (Int32.ofNat a)) (fun i st => ∃ C8, st = (Int32.ofNat (a + 1 + i), C8) ∧ Oml (fun x => x = 13) C1 C8 ∧ ans C8 (prI T r y a s (a + 1 + i))) (fun C8 => Oml (fun x => x = 13) C1 C8 ∧ ans C8 (prI T r y a s 48)) (47 - a) fu (Int32.ofNat a + 1, C') (by show 47 - a < 1000000; omega) ⟨C', by rw [oN_S], hO, by rw [prI_low _ (by omega)]; exact hA⟩ (by
      rintro i st hi ⟨C8, rfl, hO8, hA8⟩
      obtain ⟨x1, x2, x3, x4⟩ := go C8 hO8
      have hb : a + 1 + i < 48 := by omega
      generalize hbb : a + 1 + i = b at hA8 hb
      have h48 : ¬ (48 : Int32) ≤ Int32.ofNat b := nle (n := 48) hb (by omega)
      have edg : (((Int32.ofNat a + 1) * (64 : Int32)) + Int32.ofNat b) + 1 = Int32.ofNat (64 * (a + 1) + b + 1) := by
        rw [oN_S, Int32.mul_comm, show (64 : Int32) = Int32.ofNat 64 from rfl, ← Int32.ofNat_mul, ← Int32.ofNat_add, oN_S]
      refine Or.inl ?_
      unfold f_X0_tryPairs_b6
      dsimp only
      rw [if_neg h48, k_heapable x1 hV x2 hb, bsome, edg, oN_S, show a + 1 + (i + 1) = b + 1 by omega]
      by_cases hk : kpt T r b
      · obtain ⟨C7, u1', u2', u3'⟩ := k_tryHeaps (v := hbO T r (some a) (some b) y) (d := Int32.ofNat (64 * (a + 1) + b + 1)) hA8
        rw [if_pos hk, if_neg z10, k_soil x1 ha, bsome, k_soil x1 hb, bsome, k_carriedBy hV (by omega) (by omega) x3 x4, bsome, x1.2.1.2.2.2.2.2.2.1, hb2 ha hb, u1', bsome]
        exact ⟨_, rfl, C7, rfl, hO8.trans u2', by rw [show prI T r y a s (b + 1) = _ from if_pos ⟨by omega, hk⟩]; exact u3'⟩
      · rw [if_neg hk, if_pos z00]
        exact ⟨_, rfl, C8, rfl, hO8, by rw [show prI T r y a s (b + 1) = _ from if_neg (fun p => hk p.2)]; exact hA8⟩) (by
      rintro st ⟨C8, rfl, hO8, hA8⟩
      rw [show a + 1 + (47 - a) = 48 by omega] at hA8 ⊢
      refine ⟨C8, ?_, hO8, hA8⟩
      unfold f_X0_tryPairs_b6
      dsimp only
      rw [if_pos (show (48 : Int32) ≤ Int32.ofNat 48 from le_rf _)])
    unfold f_X0_tryPairs
    rw [t1, bsome]
    exact ⟨C9, rfl, t2, t3⟩
  obtain ⟨C4, e4, hO4, a4⟩ := whl_ex (f := f_X0_planHeaps_b88 g w y) (fun i st => ∃ C', st = (Int32.ofNat i, C') ∧ Oml (fun a => a = 13) C1 C' ∧ ans C' (prO T r y i)) (fun C' => Oml (fun a => a = 13) C1 C' ∧ ans C' (prO T r y 48)) 48 fu (0, C3) (by decide) ⟨C3, rfl, hO3, a3⟩ (by
    rintro i st hi ⟨C', rfl, hO, ha⟩
    obtain ⟨x1, x2, x3, x4⟩ := go C' hO
    have h48 : ¬ (48 : Int32) ≤ Int32.ofNat i := nle (n := 48) hi (by omega)
    refine Or.inl ?_
    unfold f_X0_planHeaps_b88
    dsimp only
    rw [if_neg h48, k_heapable x1 hV x2 hi, bsome, oN_S]
    by_cases hk : kpt T r i
    · obtain ⟨C9, t1, t2, t3⟩ := pairs i C' _ hi hO ha
      rw [if_pos hk, if_neg z10, t1, bsome]
      exact ⟨_, rfl, C9, rfl, t2, by rw [show prO T r y (i + 1) = _ from if_pos hk]; exact t3⟩
    · rw [if_neg hk, if_pos z00]
      exact ⟨_, rfl, C', rfl, hO, by rw [show prO T r y (i + 1) = _ from if_neg hk]; exact ha⟩) (by
    rintro st ⟨C', rfl, hO, ha⟩
    refine ⟨C', ?_, hO, ha⟩
    unfold f_X0_planHeaps_b88
    dsimp only
    rw [if_pos (show (48 : Int32) ≤ Int32.ofNat 48 from le_rf _)])
  unfold f_X0_planHeaps
  rw [e1, bsome, show f_X0_carriedBy 48 48 C1 = some (hs r 48 48) from k_carriedBy (a := 48) (b := 48) hV (by omega) (by omega) p1 p2, bsome, k_settle, bsome, hC2, e3, bsome, e4, bsome]
  exact ⟨C4, rfl, (hO1.l.mono (fun a ha => ha.elim Or.inl (fun b => Or.inr (Or.inl b)))).trans (hO4.mono (fun a ha => Or.inr (Or.inr ha))), a4⟩
end HR
