/-! level 3: the trial world -/
section TR
variable {k : Nat} {M : Mm} {q : Nat → Nat} {w h : Nat} {r r' : Nat → Int32} {C C' T N : Mm}
def trS (q : Nat → Nat) (a : Nat) : Prop := (18 ≤ a ∧ a ≤ 27) ∨ a = q 6 + 2 ∨ a = q 6 + 3 ∨ a = q 7 + 2 ∨ a = q 7 + 3
def mrS (a : Nat) : Prop := a = 115 ∨ a = 116 ∨ a = 197 ∨ a = 223
theorem ids_n (h : IDS C q) : ((q 0 = 28) ∨ (q 0 = 38)) ∧ ((q 2 = 48) ∨ (q 2 = 56)) ∧ (q 6 = 30 ∨ q 6 = 34 ∨ q 6 = 40 ∨ q 6 = 44 ∨ q 6 = 72) ∧ (q 7 = 30 ∨ q 7 = 34 ∨ q 7 = 40 ∨ q 7 = 44 ∨ q 7 = 72) ∧ q 6 ≠ q 7 ∧ ((q 4 = 64) ∨ (q 4 = 68)) := by
  obtain ⟨-, -, g, w, b, l, d⟩ := h
  have h6 := l 6 (by omega) (by omega)
  have h7 := l 7 (by omega) (by omega)
  unfold isL at h6 h7
  exact ⟨g.elim (fun z => Or.inl z.1) (fun z => Or.inr z.1), w.elim (fun z => Or.inl z.1) (fun z => Or.inr z.1), h6, h7, d 6 7 (by omega) (by omega) (by omega), b.elim (fun z => Or.inl z.1) (fun z => Or.inr z.1)⟩
theorem trS_fr (h : IDS C q) {a : Nat} (ha : trS q a) : frC q a ∧ frT a := frC_of h (by unfold trS at ha; omega)
theorem mrS_fr (h : IDS C q) {a : Nat} (ha : mrS a) : frC q a ∧ frT a := frT_of h (by unfold mrS at ha; omega)
theorem cx_new {S : Nat → Prop} {g hl rl a : Nat} (hX : CX C T g hl rl a r) (hO : Om S C C') (hS : ∀ b, S b → b ≠ g ∧ b ≠ g + 1 ∧ b ≠ hl ∧ b ≠ hl + 1 ∧ b ≠ rl ∧ b ≠ rl + 1) (hW : RW C' a r') : CX C' T g hl rl a r' := by
  obtain ⟨x1, -, x3, x4, x5, x6⟩ := hX
  have s : ∀ b, (b = g ∨ b = g + 1 ∨ b = hl ∨ b = hl + 1 ∨ b = rl ∨ b = rl + 1) → mi C' b = mi C b := fun b hb => hO.at (fun hs => by have := hS b hs; omega)
  have er : ∀ a b, rd C' a b = rd C a b := fun a b => by unfold rd; rw [hO.2.2.2.2.1]
  exact ⟨x1.frame (s g (by omega)) (s (g + 1) (by omega)) KT.refl, hW, by rw [er]; exact x3, by rw [er]; exact x4, x5.frame (Or.inl rfl) (by rw [s hl (by omega)]) (s (hl + 1) (by omega)) KT.refl, x6.frame (Or.inr rfl) (by rw [s rl (by omega)]) (s (rl + 1) (by omega)) KT.refl⟩
theorem trS_aw (h : IDS C q) : ∀ b, trS q b → b ≠ q 0 ∧ b ≠ q 0 + 1 ∧ b ≠ q 6 ∧ b ≠ q 6 + 1 ∧ b ≠ q 7 ∧ b ≠ q 7 + 1 := fun b hb => by
  have := ids_n h
  unfold trS at hb
  omega
theorem tr_begin (h : RR C T q) : ∃ C', f_X2_begin (q 2) C = some C' ∧ Om (trS q) C C' ∧ CX C' T (q 0) (q 6) (q 7) 19 (mi T 196) := by
  have hn := ids_n h.1
  obtain ⟨C', e1, e2, e3⟩ := k_begin (a := q 2) (by omega) h.wd.1 h.wd.2
  have hO : Om (trS q) C C' := e2.mono (fun a ha => by unfold trS; omega)
  obtain ⟨x1, -, x3, x4, x5, x6⟩ := h.cx
  have hS := trS_aw h.1
  have s : ∀ b, (b = q 0 ∨ b = q 0 + 1 ∨ b = q 6 ∨ b = q 6 + 1 ∨ b = q 7 ∨ b = q 7 + 1) → mi C' b = mi C b := fun b hb => hO.at (fun hs => by have := hS b hs; omega)
  have er : ∀ a b, rd C' a b = rd C a b := fun a b => by unfold rd; rw [hO.2.2.2.2.1]
  exact ⟨C', e1, hO, x1.frame (s _ (by omega)) (s _ (by omega)) KT.refl, e3.1, by rw [er]; exact x3, by rw [er]; exact x4, x5.frame (Or.inl rfl) (by rw [s (q 6) (by omega)]) (s (q 6 + 1) (by omega)) KT.refl, x6.frame (Or.inr rfl) (by rw [s (q 7) (by omega)]) (s (q 7 + 1) (by omega)) KT.refl⟩
theorem tr_spend {x : Int32} (h9 : IDS M q) (hX : CX C T (q 0) (q 6) (q 7) 19 r) (hV : VR w h r) : ∃ C', f_X2_spendYear (q 0) x C = some C' ∧ Om (trS q) C C' ∧ CX C' T (q 0) (q 6) (q 7) 19 (clO T (x, r) 9).2 := by
  have hn := ids_n h9
  obtain ⟨C', e1, e2, e3⟩ := k_spend (x := x) hX.1 hV hX.2.1 (by omega)
  have hO : Om (trS q) C C' := e2.mono (fun a ha => by unfold trS; omega)
  exact ⟨C', e1, hO, cx_new hX hO (trS_aw h9) e3⟩
theorem tr_raise {m : Nat} (h9 : IDS M q) (hX : CX C T (q 0) (q 6) (q 7) 19 r) (hV : VR (tw T) (th T) r) (hy : r 363 = Int32.ofNat m) (hm : m < 10000000) : ∃ C', f_X8_raiseStones 19 (q 0) C = some C' ∧ Om (trS q) C C' ∧ CX C' T (q 0) (q 6) (q 7) 19 (wnt T r) := by
  have hn := ids_n h9
  obtain ⟨C', e1, e2, e3⟩ := k_raise hX.1 hV hX.2.1 hX.2.2.2.1 hX.2.2.2.2.2 hy hm (fun b hb => by omega) (fun b hb => by omega)
  have hO : Om (trS q) C C' := e2.mono (fun a ha => by unfold trS; omega)
  exact ⟨C', e1, hO, cx_new hX hO (trS_aw h9) e3⟩
theorem tr_harm (h9 : IDS M q) (hX : CX C T (q 0) (q 6) (q 7) 19 r) (hV : VR w h r) : ∃ C', f_X8_harmOfAll 19 (q 0) 10 C = some (dmgW T r, C') ∧ Om (trS q) C C' ∧ CX C' T (q 0) (q 6) (q 7) 19 r := by
  have hn := ids_n h9
  obtain ⟨C', e1, e2⟩ := k_harmOfAll (s := 10) hX hV (fun a ha => by unfold awy; omega)
  have hO : Om (trS q) C C' := e2.mono (fun a ha => by unfold trS; omega)
  rw [dmgA_al AL.refl hV] at e1
  exact ⟨C', e1, hO, cx_new hX hO (trS_aw h9) (hX.2.1.frame (fun j hj => e2.at (by omega)))⟩
theorem mt_clears {x : Int32} (hq : TQ T N) (hA : AL r (mi N 197)) (hV : VR w h r) : ∃ N', f_X10_clears 197 x N = some N' ∧ Om mrS N N' ∧ AL (clO T (x, r) 9).2 (mi N' 197) ∧ mi N' 197 365 = mi N 197 365 := by
  have hV1 := hA.vr hV
  obtain ⟨N', e1, e2, e3⟩ := m_clears (x := x) LN197 (Or.inr rfl) hV1
  refine ⟨N', e1, e2.mono (fun a ha => by unfold mrS; omega), ?_, ?_⟩
  · rw [e3, clO_T hq]
    exact (clO_al (T := T) (s := (x, r)) (s' := (x, mi N 197)) hV rfl hA 9).2
  · rw [e3]
    exact clO_gt (T := N) (s := (x, mi N 197)) hV1 (by omega) 9
theorem dmgW_T {T' : Mm} (h : TQ T T') : dmgW T' r = dmgW T r := by
  unfold dmgW
  exact sm_congr (fun i _ => by rw [h.dmg])
theorem dmgW_al (h9 : AL r r') (hV : VR w h r) : dmgW T r' = dmgW T r := by
  rw [← dmgA_al AL.refl (h9.vr hV), dmgA_al h9 hV]
theorem mt_winters {m l0 l : Nat} (hT : RGt T) (hR0 : RLaw C T l0 0) (hR : RLaw C T l 1) (hq : TQ T N) (hA : AL r (mi N 197)) (hV : VR (tw T) (th T) r) (hy : r 363 = Int32.ofNat m) (hm : m < 10000000) : ∃ N', f_X10_winters 197 N = some N' ∧ Om mrS N N' ∧ AL (wnt T r) (mi N' 197) ∧ mi N' 197 365 = mi N 197 365 + dmgW T r := by
  have e : tw N = tw T ∧ th N = th T := by unfold tw th; rw [hq.1]; exact ⟨rfl, rfl⟩
  have hV1 : VR (tw N) (th N) (mi N 197) := by rw [e.1, e.2]; exact hA.vr hV
  obtain ⟨N', e1, e2, e3, e4, -⟩ := m_winters (C := C) (a := 197) LN197 (Or.inr rfl) (RGt_of hq.1 hT) hV1 (hR0.T hq.2.2.1 hq.2.2.2.1) (hR.T hq.2.2.1 hq.2.2.2.2) ((hA 363 (by omega) (by omega)).trans hy) hm
  refine ⟨N', e1, e2.mono (fun a ha => by unfold mrS; omega), ?_, ?_⟩
  · refine AL.trans ?_ e3
    rw [wnt_T hq]
    exact hA.wn hV.n60
  · rw [e4, dmgW_T hq, dmgW_al hA hV]
theorem mrS_tq (hO : Om mrS N C) : TQ N C := ⟨hO.at (by unfold mrS; omega), hO.at (by unfold mrS; omega), hO.at (by unfold mrS; omega), hO.at (by unfold mrS; omega), hO.at (by unfold mrS; omega)⟩
/-- the row copied for a trial -/
theorem mt_copy {N : Mm} : ∃ N', f_X10_copies 196 197 N = some N' ∧ Om mrS N N' ∧ (∀ j, j < 415 → mi N' 197 j = mi N 196 j) := ⟨_, m_copies LN196 LN197 (by omega), Om.sA (by unfold mrS; omega), fun j hj => by rw [mi_sA, upto_lt hj]⟩
end TR
