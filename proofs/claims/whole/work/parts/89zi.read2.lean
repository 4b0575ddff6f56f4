/-! level 3: work: the text: steps in a row, loops -/
section SI9
variable {b : Nat → Int32} {C C' T T' : Mm} {L p p0 cc ct dep w h n m a2 a9 kd : Nat} {f fa v last : Int32} {Q : Prop}
theorem obind {α β γ : Type} {o : Option α} {F : α → Option β} {G : β → Option γ} {z : β} (h9 : o.bind F = some z) : (o.bind fun x => (F x).bind G) = G z := by
  cases o with
  | none => cases h9
  | some x => exact congrArg (fun y => y.bind G) h9
theorem PS.of {p' : Nat} (hS : PS C T p cc ct dep) (hp : p ≤ p') (e : mi C' 3 = mi C 3) (e1 : mi T' 76 25 = mi T 76 25) (e2 : mi T' 76 8 = mi T 76 8) : PS C' T' p' cc ct dep := by
  obtain ⟨⟨h1, h2⟩, h3, h4⟩ := hS
  refine ⟨⟨by rw [e]; exact h1, by rw [e1]; exact h2⟩, ⟨by omega, by omega⟩, by rw [e2]; exact h4⟩
def HS (b : Nat → Int32) (a2 L w h dep n m : Nat) : Prop := ∀ (C T : Mm) (p cc ct : Nat), SY b C T L p → nb b L p = p → PS C T p cc ct dep → WH a2 w h C T → ∃ C' T', ((R_X6_readSteps n 1 a2 (Int32.ofNat dep) C).bind fun M7 => f_X7_readSign 59 M7) = some C' ∧ R_X10_readsStep m 0 T = some T' ∧ StR b L w h dep cc ct p C T C' T'
/-- steps in a row read -/
def LoR (b : Nat → Int32) (L w h dep cc ct p0 : Nat) (last : Int32) (C T C' T' : Mm) : Prop := Pf C C' ∧ Pt T T' ∧ ((∃ p cc' ct', p0 ≤ p ∧ SY b C' T' L p ∧ bL b L p = last ∧ PS C' T' p cc' ct' dep ∧ (cc ≤ cc' ∧ ct ≤ ct') ∧ BlkM w h C' T' (ct' - ct) cc cc' ct ct' ∧ KP cc ct C C' T T') ∨ (FL b C' T' L ∧ KB6 C'))
theorem k_b15_f {i K : Nat} {rec : Nat → Nat → Int32 → Mm → Option Mm} {x3 : Int32} (hi : i < 200) (hf : f ≠ 0) (t : TC b C L p f fa) : whl (K + 1) (f_X6_readSteps_b15 rec a2 x3 last) (Int32.ofNat i, C) = some C := by
  refine whl_e ?_
  unfold f_X6_readSteps_b15
  dsimp only
  rw [if_neg (show ¬ (200 : Int32) ≤ Int32.ofNat i from nle (n := 200) hi (by omega)), k_fine t, bsome, if_neg hf, if_pos z00]
theorem y_steps {FT : Mm → Option (Mm ⊕ Mm)} (hb : TxB b) (hL : L ≤ 200) (hH : HS b a2 L w h dep n m) (hend : ∀ T p, TT b T L p 0 (-1) → bL b L p = last → FT T = some (.inr T)) (hgo : ∀ T p, TT b T L p 0 (-1) → ¬ bL b L p = last → FT T = (R_X10_readsStep m 0 T).bind fun M => (f_X10_blanks M).bind fun M' => some (.inl M')) (hfl : ∀ T p f fa, f ≠ 0 → TT b T L p f fa → FT T = some (.inr T)) : ∀ d p C T i kC kT cc ct, L - p < d → d < kC → d < kT → TC b C L p 0 (-1) → TT b T L (nb b L p) 0 (-1) → PS C T p cc ct dep → WH a2 w h C T → i ≤ ct → ∃ C' T', whl kC (f_X6_readSteps_b15 (R_X6_readSteps n) a2 (Int32.ofNat dep) last) (Int32.ofNat i, C) = some C' ∧ whl kT FT T = some T' ∧ LoR b L w h dep cc ct p last C T C' T' := by
  intro d
  induction d with
  | zero => exact fun _ _ _ _ _ _ _ _ z => absurd z (Nat.not_lt_zero _)
  | succ d ih =>
    intro p C T i kC kT cc ct hd h1 h2 tc tt hS hw hi
    obtain ⟨kC, rfl⟩ : ∃ k, kC = k + 1 := ⟨kC - 1, by omega⟩
    obtain ⟨kT, rfl⟩ : ∃ k, kT = k + 1 := ⟨kT - 1, by omega⟩
    obtain ⟨C1, e1, t1, c1, -⟩ := k_next tc
    have hpL := tc.1.2.1
    have hge := nb_ge (b := b) hpL
    have hle : nb b L p ≤ L := nb_le hpL
    have hid : nb b L (nb b L p) = nb b L p := nb_id hpL
    have i50 : i < 100 := by
      have := hS.2.1.2
      omega
    have hb15 : f_X6_readSteps_b15 (R_X6_readSteps n) a2 (Int32.ofNat dep) last (Int32.ofNat i, C) = if bL b L (nb b L p) = last then some (.inr C1) else (R_X6_readSteps n 1 a2 (Int32.ofNat dep) C1).bind fun M7 => (f_X7_readSign 59 M7).bind fun M8 => some (.inl (Int32.ofNat i + 1, M8)) := by
      unfold f_X6_readSteps_b15
      dsimp only
      rw [if_neg (show ¬ (200 : Int32) ≤ Int32.ofNat i from nle (n := 200) (by omega) (by omega)), k_fine tc, bsome, if_pos rfl, if_neg z10, e1, bsome]
    have hS1 : PS C1 T (nb b L p) cc ct dep := hS.of hge (c1.1.at (by omega)) rfl rfl
    by_cases hv : bL b L (nb b L p) = last
    · rw [if_pos hv] at hb15
      refine ⟨C1, T, whl_e hb15, whl_e (hend T _ tt hv), c1.pf, Pt.refl, Or.inl ⟨nb b L p, cc, ct, hge, ⟨t1, tt⟩, hv, hS1, ⟨Nat.le_refl _, Nat.le_refl _⟩, blk_nil, ⟨fun t _ => ?_, fun _ _ => rfl⟩⟩⟩
      rw [c1.1.at (by omega), c1.1.at (by omega), c1.1.at (by omega)]
      exact ⟨rfl, rfl, rfl⟩
    · rw [if_neg hv] at hb15
      obtain ⟨C2, T2, p1, p2, f1, f2, hx⟩ := hH C1 T (nb b L p) cc ct ⟨t1, tt⟩ hid hS1 (hw.of c1.pf Pt.refl)
      have hs1 : f_X6_readSteps_b15 (R_X6_readSteps n) a2 (Int32.ofNat dep) last (Int32.ofNat i, C) = some (.inl (Int32.ofNat (i + 1), C2)) := by
        rw [hb15, obind p1, oN_S]
      have hg : FT T = (f_X10_blanks T2).bind fun M' => some (.inl M') := by rw [hgo T _ tt hv, p2, bsome]
      rcases hx with ⟨p', cc', ct', q1, q2, q3, ⟨q4, q5⟩, q6, q7⟩ | ⟨⟨f, fa, p3, p4, hf, x1, x2⟩, kb⟩
      · have hp9 := q2.1.1.2.1
        obtain ⟨T3, e3, t3, c3⟩ := m_blanks hb q2.2
        rw [e3, bsome] at hg
        have hS2 : PS C2 T3 p' cc' ct' dep := q3.of (Nat.le_refl _) rfl (c3.2 25 (by omega)) (c3.2 8 (by omega))
        have hw2 : WH a2 w h C2 T3 := hw.of (c1.pf.trans f1) (f2.trans c3.pt)
        obtain ⟨C4, T4, w1, w2, w3, w4, w5⟩ := ih p' C2 T3 (i + 1) kC kT cc' ct' (by omega) (by omega) (by omega) q2.1 t3 hS2 hw2 (by omega)
        have k0 : KP cc ct C C1 T T := ⟨fun t _ => by rw [c1.1.at (by omega), c1.1.at (by omega), c1.1.at (by omega)]; exact ⟨rfl, rfl, rfl⟩, fun _ _ => rfl⟩
        have k3 : ∀ c9 t9, KP c9 t9 C2 C2 T2 T3 := fun c9 t9 => ⟨fun _ _ => ⟨rfl, rfl, rfl⟩, fun t _ => c3.1.at (by omega)⟩
        refine ⟨C4, T4, by rw [whl_s hs1]; exact w1, by rw [whl_s hg]; exact w2, (c1.pf.trans f1).trans w3, (f2.trans c3.pt).trans w4, ?_⟩
        rcases w5 with ⟨p9, cc9, ct9, z1, z2, z3, z4, ⟨z5, z6⟩, z7, z8⟩ | z
        · refine Or.inl ⟨p9, cc9, ct9, by omega, z2, z3, z4, ⟨by omega, by omega⟩, ?_, ?_⟩
          · have b1 : BlkM w h C4 T4 (ct' - ct) cc cc' ct ct' := z8.blk (Nat.le_refl _) (Nat.le_refl _) ((k3 cc' ct').blk (Nat.le_refl _) (Nat.le_refl _) q6)
            have := blk_app _ _ _ b1 z7
            rw [show ct' - ct + (ct9 - ct') = ct9 - ct by omega] at this
            exact this
          · exact ((k0.trans q7 (Nat.le_refl _) (Nat.le_refl _)).trans (k3 cc ct) (Nat.le_refl _) (Nat.le_refl _)).trans z8 (by omega) (by omega)
        · exact Or.inr z
      · obtain ⟨T3, e3, t3, c3⟩ := m_blanks hb x2
        rw [e3, bsome] at hg
        obtain ⟨kC, rfl⟩ : ∃ k, kC = k + 1 := ⟨kC - 1, by omega⟩
        obtain ⟨kT, rfl⟩ : ∃ k, kT = k + 1 := ⟨kT - 1, by omega⟩
        refine ⟨C2, T3, by rw [whl_s hs1]; exact k_b15_f (by omega) hf x1, by rw [whl_s hg]; exact whl_e (hfl T3 _ f fa hf t3), c1.pf.trans f1, f2.trans c3.pt, Or.inr ⟨⟨f, fa, p3, _, hf, x1, t3⟩, kb⟩⟩
/-- a loop's steps -/
theorem st_body (hb : TxB b) (hL : L ≤ 200) (hH : HS b a2 L w h dep n m) (hd : 1 ≤ dep ∧ dep ≤ 6) (g : GX b Q C T L p0) (e4 : mi C 3 4 = Int32.ofNat cc) (e25 : mi T 76 25 = Int32.ofNat ct) (e8 : mi T 76 8 = Int32.ofNat dep) (h2 : 2 * cc ≤ p0 + 1) (h4 : 4 * ct ≤ p0 + 1) (hcc : cc ≤ 200) (hw : WH a2 w h C T) : ∃ C' T', R_X6_readSteps (n + 1) 0 a2 (Int32.ofNat dep) C = some C' ∧ ((f_X10_blanks T).bind fun M22 => whl fu (f_X10_readsStep_b124 (R_X10_readsStep m) a9) M22) = some T' ∧ Pf C C' ∧ Pt T T' ∧ ((∃ p cc' ct', Q ∧ p0 < p ∧ SY b C' T' L p ∧ PS C' T' p cc' ct' dep ∧ (cc ≤ cc' ∧ ct ≤ ct') ∧ BlkM w h C' T' (ct' - ct) cc cc' ct ct' ∧ KP cc ct C C' T T') ∨ (FL b C' T' L ∧ KB6 C')) := by
  have hR : R_X6_readSteps (n + 1) 0 a2 (Int32.ofNat dep) C = (whl fu (f_X6_readSteps_b15 (R_X6_readSteps n) a2 (Int32.ofNat dep) 93) (Int32.ofNat 0, C)).bind fun M9 => some M9 := by
    show fb_X6_readSteps (R_X6_readSteps n) a2 (Int32.ofNat dep) C = _
    unfold fb_X6_readSteps
    rw [if_neg (show ¬ Int32.ofNat dep = 0 from fun z => by have := (oN_eq (j := 0) (by omega) (by omega)).mp z; omega)]
    rfl
  have hfl : ∀ T p f fa, f ≠ 0 → TT b T L p f fa → f_X10_readsStep_b124 (R_X10_readsStep m) a9 T = some (.inr T) := fun T p f fa hf t => by
    unfold f_X10_readsStep_b124
    rw [t.1.2.2.2.2.1, if_neg hf]
  rcases g with ⟨p, g1, g2, g3⟩ | ⟨f, fa, p, p', hf, x1, x2⟩
  · obtain ⟨T1, e1, t1, c1⟩ := m_blanks hb g2.2
    have hpL := g2.1.1.2.1
    have hS1 : PS C T1 p cc ct dep := ⟨⟨e4, (c1.2 25 (by omega)).trans e25⟩, ⟨by omega, by omega⟩, (c1.2 8 (by omega)).trans e8⟩
    obtain ⟨C2, T2, w1, w2, w3, w4, w5⟩ := y_steps (last := 93) (FT := f_X10_readsStep_b124 (R_X10_readsStep m) a9) hb hL hH (fun T p t hv => by
      have := t.1.1
      have := t.1.2.1
      unfold f_X10_readsStep_b124
      rw [t.1.2.2.2.2.1, if_pos rfl, t.1.2.2.2.1, m_byte t (by omega), bsome, if_pos hv]) (fun T p t hv => by
      have := t.1.1
      have := t.1.2.1
      unfold f_X10_readsStep_b124
      rw [t.1.2.2.2.2.1, if_pos rfl, t.1.2.2.2.1, m_byte t (by omega), bsome, if_neg hv]) hfl (L - p + 1) p C T1 0 fu fu cc ct (by omega) (by show L - p + 1 < 1000000; omega) (by show L - p + 1 < 1000000; omega) g2.1 t1 hS1 (hw.of Pf.refl c1.pt) (Nat.zero_le _)
    refine ⟨C2, T2, by rw [hR, w1, bsome], by rw [e1, bsome]; exact w2, w3, c1.pt.trans w4, ?_⟩
    rcases w5 with ⟨p9, cc9, ct9, z1, z2, z3, z4, z5, z7, z8⟩ | z
    · have k3 : KP cc ct C C T T1 := ⟨fun _ _ => ⟨rfl, rfl, rfl⟩, fun t _ => c1.1.at (by omega)⟩
      exact Or.inl ⟨p9, cc9, ct9, g3, by omega, z2, z4, z5, z7, k3.trans z8 (Nat.le_refl _) (Nat.le_refl _)⟩
    · exact Or.inr z
  · obtain ⟨T1, e1, t1, c1⟩ := m_blanks hb x2
    refine ⟨C, T1, ?_, ?_, Pf.refl, c1.pt, Or.inr ⟨⟨f, fa, p, _, hf, x1, t1⟩, cc, hcc, e4⟩⟩
    · rw [hR, show whl fu (f_X6_readSteps_b15 (R_X6_readSteps n) a2 (Int32.ofNat dep) 93) (Int32.ofNat 0, C) = some C from k_b15_f (K := 999999) (by omega) hf x1, bsome]
    · rw [e1, bsome]
      exact whl_e (n := 999999) (hfl T1 _ f fa hf t1)
end SI9
