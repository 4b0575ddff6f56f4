/-! level 3: sums over damage; the line -/
/-- only ints and longs of the things in S may differ -/
def Oml (S : Nat → Prop) (M M' : Mm) : Prop := M'.1 = M.1 ∧ mr M' = mr M ∧ ∀ a, ¬ S a → mi M' a = mi M a ∧ ml M' a = ml M a
theorem Oml.refl {S : Nat → Prop} {M : Mm} : Oml S M M := ⟨rfl, rfl, fun _ _ => ⟨rfl, rfl⟩⟩
theorem Oml.trans {S : Nat → Prop} {A B C : Mm} (h1 : Oml S A B) (h2 : Oml S B C) : Oml S A C := ⟨h2.1.trans h1.1, h2.2.1.trans h1.2.1, fun a ha => ⟨(h2.2.2 a ha).1.trans (h1.2.2 a ha).1, (h2.2.2 a ha).2.trans (h1.2.2 a ha).2⟩⟩
theorem Oml.mono {S S' : Nat → Prop} {A B : Mm} (h : Oml S A B) (hs : ∀ a, S a → S' a) : Oml S' A B := ⟨h.1, h.2.1, fun a ha => h.2.2 a (fun p => ha (hs a p))⟩
theorem Om.l {S : Nat → Prop} {A B : Mm} (h : Om S A B) : Oml S A B := ⟨h.1, h.2.2.2.2.1, fun a ha => ⟨h.at ha, by rw [h.2.2.2.1]⟩⟩
theorem oml_si {S : Nat → Prop} {A M : Mm} {a k : Nat} {x : Int32} (h : Oml S A M) (hs : S a) : Oml S A (sI M a k x) := h.trans (Om.sI hs).l
theorem ml_sL_ne {M : Mm} {a j k : Nat} {x : Int64} (h : j ≠ a) : ml (sL M a k x) j = ml M j := u1_ne h
theorem ml_sL_o {M : Mm} {a j k : Nat} {x : Int64} (h : j ≠ k) : ml (sL M a k x) a j = ml M a j := by
  show u2 (ml M) a k x a j = _
  rw [u2_same, u1_ne h]
theorem oml_sl {S : Nat → Prop} {A M : Mm} {a k : Nat} {x : Int64} (h : Oml S A M) (hs : S a) : Oml S A (sL M a k x) := h.trans ⟨rfl, rfl, fun b hb => ⟨rfl, ml_sL_ne (fun e => hb (by rw [e]; exact hs))⟩⟩
theorem Oml.at {S : Nat → Prop} {A B : Mm} (h : Oml S A B) {a : Nat} (ha : ¬ S a) : mi B a = mi A a := (h.2.2 a ha).1
theorem lg_lt {a b : Int64} : (0 ≤ lg_cmp a b) ↔ b ≤ a := lg_cmp_ge a b
theorem lg_z {a b : Int64} : (lg_cmp a b = 0) ↔ a = b := lg_cmp_eq a b
theorem t64_le {a b : Int32} : a.toInt64 ≤ b.toInt64 ↔ a ≤ b := by
  rw [Int64.le_iff_toInt_le, Int32.toInt_toInt64, Int32.toInt_toInt64, Int32.le_iff_toInt_le]
theorem t64_eq {a b : Int32} : a.toInt64 = b.toInt64 ↔ a = b := by
  rw [← Int64.toInt_inj, Int32.toInt_toInt64, Int32.toInt_toInt64, Int32.toInt_inj]
/-- a loop that adds up and changes things of S -/
theorem sum_loopM {b : (Int32 × Int32 × Mm) → Option ((Int32 × Int32 × Mm) ⊕ (Int32 × Mm))} {S : Nat → Prop} (n : Nat) (F : Nat → Int32) (M : Mm) (hn : n < 1000000) (hs : ∀ i, i < n → ∀ acc M1, Om S M M1 → ∃ M2, b (acc, Int32.ofNat i, M1) = some (.inl (acc + F i, Int32.ofNat i + 1, M2)) ∧ Om S M1 M2) (he : ∀ acc M1, Om S M M1 → b (acc, Int32.ofNat n, M1) = some (.inr (acc, M1))) : ∃ M', whl fu b (0, 0, M) = some (sm n F, M') ∧ Om S M M' := by
  obtain ⟨e, h1, M', rfl, h2⟩ := whl_ex (f := b) (fun i s => ∃ M1, s = (sm i F, Int32.ofNat i, M1) ∧ Om S M M1) (fun e => ∃ M', e = (sm n F, M') ∧ Om S M M') n fu (0, 0, M) hn ⟨M, rfl, Om.refl⟩ (by
    rintro i s hi ⟨M1, rfl, hO⟩
    obtain ⟨M2, p1, p2⟩ := hs i hi (sm i F) M1 hO
    rw [oN_S] at p1
    exact Or.inl ⟨_, p1, M2, rfl, hO.trans p2⟩) (by
    rintro s ⟨M1, rfl, hO⟩
    exact ⟨_, he _ M1 hO, M1, rfl, hO⟩)
  exact ⟨M', h1, h2⟩
section AV
variable {k : Nat} {M : Mm} {q : Nat → Nat}
/-- ground, laws, world of the class -/
def CX (C T : Mm) (g hl rl w : Nat) (r : Nat → Int32) : Prop := RGd C T g ∧ RW C w r ∧ rd C g 1 = hl ∧ rd C g 2 = rl ∧ RLaw C T hl 0 ∧ RLaw C T rl 1
def awy (g hl rl w a : Nat) : Prop := a ≠ g ∧ a ≠ g + 1 ∧ ¬ (w ≤ a ∧ a ≤ w + 7) ∧ a ≠ hl ∧ a ≠ hl + 1 ∧ a ≠ rl ∧ a ≠ rl + 1
theorem RW.frame {C C' : Mm} {w : Nat} {r : Nat → Int32} (h : RW C w r) (hw : ∀ j, j ≤ 7 → mi C' (w + j) = mi C (w + j)) : RW C' w r := by
  unfold RW at h ⊢
  rw [show mi C' w = mi C w from hw 0 (by omega), hw 1 (by omega), hw 2 (by omega), hw 3 (by omega), hw 4 (by omega), hw 5 (by omega), hw 7 (by omega)]
  exact h
theorem CX.oml {C C' T : Mm} {g hl rl w : Nat} {r : Nat → Int32} {S : Nat → Prop} (h : CX C T g hl rl w r) (hO : Oml S C C') (hS : ∀ a, S a → awy g hl rl w a) : CX C' T g hl rl w r := by
  obtain ⟨h1, h2, h3, h4, h5, h6⟩ := h
  have no : ∀ a, ¬ awy g hl rl w a → mi C' a = mi C a := fun a ha => hO.at (fun hs => ha (hS a hs))
  refine ⟨h1.frame (no g (by unfold awy; omega)) (no (g + 1) (by unfold awy; omega)) KT.refl, h2.frame (fun j hj => no _ (by unfold awy; omega)), ?_, ?_, h5.frame (Or.inl rfl) (by rw [no hl (by unfold awy; omega)]) (no (hl + 1) (by unfold awy; omega)) KT.refl, h6.frame (Or.inr rfl) (by rw [no rl (by unfold awy; omega)]) (no (rl + 1) (by unfold awy; omega)) KT.refl⟩
  · unfold rd; rw [hO.2.1]; exact h3
  · unfold rd; rw [hO.2.1]; exact h4
theorem CX.om {C C' T : Mm} {g hl rl w : Nat} {r : Nat → Int32} {S : Nat → Prop} (h : CX C T g hl rl w r) (hO : Om S C C') (hS : ∀ a, S a → awy g hl rl w a) : CX C' T g hl rl w r := h.oml hO.l hS
theorem RR.cx {C T : Mm} (h : RR C T q) : CX C T (q 0) (q 6) (q 7) (q 2) (mi T 196) := ⟨h.gd, h.wd.2.1, h.hl, h.rl, h.lh, h.lr⟩
theorem awy_of (h : IDS M q) {a : Nat} (ha : a = q 6 + 2 ∨ a = q 6 + 3 ∨ a = q 7 + 2 ∨ a = q 7 + 3 ∨ (12 ≤ a ∧ a ≤ 27) ∨ 76 ≤ a) : awy (q 0) (q 6) (q 7) (q 2) a := by
  obtain ⟨-, -, g, w, b, l, d⟩ := h
  have h6 := l 6 (by omega) (by omega)
  have h7 := l 7 (by omega) (by omega)
  have h67 := d 6 7 (by omega) (by omega) (by omega)
  clear b l d
  unfold isL at h6 h7
  unfold awy
  rcases h6 with h6 | h6 | h6 | h6 | h6 <;> rcases h7 with h7 | h7 | h7 | h7 | h7 <;> omega
theorem frC_of (h : IDS M q) {a : Nat} (ha : a = q 6 + 2 ∨ a = q 6 + 3 ∨ a = q 7 + 2 ∨ a = q 7 + 3 ∨ (12 ≤ a ∧ a ≤ 27)) : frC q a ∧ frT a := by
  obtain ⟨-, -, g, w, b, l, d⟩ := h
  have h6 := l 6 (by omega) (by omega)
  have h7 := l 7 (by omega) (by omega)
  have h67 := d 6 7 (by omega) (by omega) (by omega)
  clear l d
  unfold isL at h6 h7
  unfold frC frT
  rcases h6 with h6 | h6 | h6 | h6 | h6 <;> rcases h7 with h7 | h7 | h7 | h7 | h7 <;> omega
theorem frT_of (h : IDS M q) {a : Nat} (ha : a = 115 ∨ a = 116 ∨ a = 197 ∨ 223 ≤ a) : frC q a ∧ frT a := by
  obtain ⟨-, -, g, w, b, l, d⟩ := h
  have h6 := l 6 (by omega) (by omega)
  have h7 := l 7 (by omega) (by omega)
  unfold isL at h6 h7
  unfold frC frT
  omega
theorem RR.oml {C C' T T' : Mm} {S S' : Nat → Prop} (h : RR C T q) (hC : Oml S C C') (hT : Oml S' T T') (h1 : ∀ a, S a → frC q a) (h2 : ∀ a, S' a → frT a) : RR C' T' q := by
  refine h.same ⟨⟨hC.2.1, fun a k hk => ?_⟩, fun k _ => ?_, ?_, ?_, ?_⟩ ⟨fun a k hk => ?_, ?_, ?_, ?_, ?_, ?_⟩
  · rw [hC.at (fun hs => by have := h1 a hs; unfold frC at this; unfold kc at hk; omega)]
  · rw [hC.at (fun hs => by have := h1 0 hs; unfold frC at this; omega)]
  · rw [hC.at (fun hs => by have := h1 1 hs; unfold frC at this; omega)]
  · rw [hC.at (fun hs => by have := h1 2 hs; unfold frC at this; omega)]
  · rw [hC.at (fun hs => by have := h1 1 hs; unfold frC at this; omega)]
  · rw [hT.at (fun hs => by have := h2 a hs; unfold frT at this; unfold kt at hk; omega)]
  · rw [hT.at (fun hs => by have := h2 78 hs; unfold frT at this; omega)]
  · rw [hT.at (fun hs => by have := h2 77 hs; unfold frT at this; omega)]
  · rw [hT.at (fun hs => by have := h2 76 hs; unfold frT at this; omega)]
  · rw [hT.at (fun hs => by have := h2 76 hs; unfold frT at this; omega)]
  · rw [hT.at (fun hs => by have := h2 76 hs; unfold frT at this; omega)]
theorem rr_nQ {v : Int64} (h : RR M M q) : RR (nQ M v) (nQ M v) q := by
  refine h.same (KCx.low h.1 rfl (fun a ha => nQ_o (by omega))) ⟨fun a k hk => ?_, nQ_o (by omega), nQ_o (by omega), nQ_76 (by omega), nQ_76 (by omega), nQ_76 (by omega)⟩
  by_cases ha : a = 76
  · subst ha
    exact nQ_76 (by unfold kt at hk; omega)
  · rw [nQ_o ha]
theorem gd_ml {v : Int32} {S S' : Nat → Prop} {M1 M2 : Mm} {fc : Option ((Nat ⊕ Int32) × Mm)} {fm : Mm → Option (Int32 × Mm)} {c0 c1 c2 : Int32} (h : RR M M q) (r : RM k M) (hO : Oml S M M1) (hO2 : Oml S' (nQ M1 v.toInt64) M2) (hS : ∀ a, S a → frC q a ∧ frT a) (hS' : ∀ a, S' a → frC q a ∧ frT a) (h275 : ¬ S' 275) (h1 : fc = some (.inr v, M1)) (h2 : fm (sL M1 275 0 v.toInt64) = some (v, M2)) : GdI k fc fm c0 c1 c2 := by
  have h3 : RR M1 M1 q := h.oml hO hO (fun a ha => (hS a ha).1) (fun a ha => (hS a ha).2)
  have hI1 : INV k M1 := ⟨⟨q, h3⟩, r.of hO.1 (fun a ha => hO.at (fun hs => yr_fr ha (hS a hs).2))⟩
  have hI2 := hI1.nQ (v := v.toInt64)
  have h4 := rr_nQ h3 (v := v.toInt64)
  refine Or.inr ⟨v, M1, M2, h1, h2, ?_, ?_, ⟨q, h4.oml hO2 hO2 (fun a ha => (hS' a ha).1) (fun a ha => (hS' a ha).2)⟩, hI2.2.of hO2.1 (fun a ha => hO2.at (fun hs => yr_fr ha (hS' a hs).2))⟩
  · rw [hO2.at (fun hs => by have := (hS' 76 hs).2; unfold frT at this; omega)]
    exact nQ_t
  · rw [(hO2.2.2 275 h275).2]
    exact nQ_out
/-! clearing and damage of all that lie -/
def clrA (T : Mm) (r : Nat → Int32) (s : Int32) : Int32 := sm (rN r) (fun i => if Th r i ∧ ¬ r (6 * i + 2) < s then clrO T r i else 0)
def dmgA (T : Mm) (r : Nat → Int32) (s : Int32) : Int32 := sm (rN r) (fun i => if Th r i ∧ ¬ s ≤ r (6 * i + 2) then dmgO T r (rC r i) (r (6 * i + 2)) else 0)
theorem k_clearingOfAll {C T : Mm} {g a w h : Nat} {r : Nat → Int32} {s : Int32} (hG : RGd C T g) (hV : VR w h r) (hW : RW C a r) : f_X8_clearingOfAll a g s C = some (clrA T r s) := by
  have h6 := hV.n60
  have e := sum_loop (b := f_X8_clearingOfAll_b5 a g s C) (rN r) (fun i => if Th r i ∧ ¬ r (6 * i + 2) < s then clrO T r i else 0) (by omega) (by
    intro i hi acc
    unfold f_X8_clearingOfAll_b5
    dsimp only
    rw [hW.n, hV.n, if_neg (nle hi hV.n1), k_isAsked hV hW hi, bsome]
    by_cases h1 : Th r i
    · rw [if_pos h1, if_neg z10, k_sizeOf hV hW hi, bsome]
      by_cases h2 : r (6 * i + 2) < s
      · rw [if_pos h2, if_neg (fun p => p.2 h2)]; rfl
      · rw [if_neg h2, if_pos ⟨h1, h2⟩, k_clearingOf hG hV hW hi]; rfl
    · rw [if_neg h1, if_pos z00, if_neg (fun p => h1 p.1)]; rfl) (by
    intro acc
    unfold f_X8_clearingOfAll_b5
    dsimp only
    rw [hW.n, hV.n, if_pos (le_rf _)])
  unfold f_X8_clearingOfAll
  rw [e]
  rfl
theorem k_harmOfAll {C T : Mm} {g hl rl w w9 h9 : Nat} {r : Nat → Int32} {s : Int32} (hX : CX C T g hl rl w r) (hV : VR w9 h9 r) (hd : ∀ a, (a = hl + 2 ∨ a = hl + 3) → awy g hl rl w a) : ∃ C', f_X8_harmOfAll w g s C = some (dmgA T r s, C') ∧ Om (fun a => a = hl + 2 ∨ a = hl + 3) C C' := by
  have h6 := hV.n60
  obtain ⟨C', e, hO⟩ := sum_loopM (b := f_X8_harmOfAll_b5 w g s) (S := fun a => a = hl + 2 ∨ a = hl + 3) (rN r) (fun i => if Th r i ∧ ¬ s ≤ r (6 * i + 2) then dmgO T r (rC r i) (r (6 * i + 2)) else 0) C (by omega) (by
    intro i hi acc C1 hO
    obtain ⟨x1, x2, x3, x4, x5, x6⟩ := hX.om hO hd
    unfold f_X8_harmOfAll_b5
    dsimp only
    rw [x2.n, hV.n, if_neg (nle hi hV.n1), k_isAsked hV x2 hi, bsome]
    by_cases h1 : Th r i
    · rw [if_pos h1, if_neg z10, k_sizeOf hV x2 hi, bsome]
      by_cases h2 : s ≤ r (6 * i + 2)
      · rw [if_pos h2, if_neg (fun p => p.2 h2), Int32.add_zero]
        exact ⟨C1, rfl, Om.refl⟩
      · obtain ⟨C2, p1, p2⟩ := k_harmOf (size := r (6 * i + 2)) x1 x2 x3 x5 (hV.c48 hi)
        rw [if_neg h2, if_pos ⟨h1, h2⟩, k_cellOf hV x2 hi, bsome, bsome, p1, bsome]
        exact ⟨C2, rfl, p2⟩
    · rw [if_neg h1, if_pos z00, if_neg (fun p => h1 p.1), Int32.add_zero]
      exact ⟨C1, rfl, Om.refl⟩) (by
    intro acc C1 hO
    obtain ⟨x1, x2, x3, x4, x5, x6⟩ := hX.om hO hd
    unfold f_X8_harmOfAll_b5
    dsimp only
    rw [x2.n, hV.n, if_pos (le_rf _)])
  unfold f_X8_harmOfAll
  rw [e]
  exact ⟨C', rfl, hO⟩
end AV
