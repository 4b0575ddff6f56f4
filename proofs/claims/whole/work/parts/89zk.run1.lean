/-! level 3: work: carried out: an instruction on both sides -/
section SK9
variable {C C' T T' C0 T0 : Mm} {q : Nat → Nat} {w h n m i j kd b t cc Y : Nat} {S S' : Nat → Prop}
/-- field, laws, world on both sides -/
def XCr (q : Nat → Nat) (C T : Mm) : Prop := IDS C q ∧ (RGd C T (q 0) ∧ RLaw C T (q 6) 0 ∧ RLaw C T (q 7) 1) ∧ VR (tw T) (th T) (mi T 196) ∧ RF C (q 2) (mi T 196)
theorem XCr.of (hX : XCr q C T) (oC : Om S C C') (oT : Om S' T T') (hS : ∀ a, S a → a ≠ q 0 ∧ a ≠ q 0 + 1 ∧ a ≠ q 6 ∧ a ≠ q 6 + 1 ∧ a ≠ q 7 ∧ a ≠ q 7 + 1) (hS' : ∀ a, S' a → a ≠ 80 ∧ a ≠ 82 ∧ a ≠ 114 ∧ a ≠ 118 ∧ a ≠ 119) (hV : VR (tw T) (th T) (mi T' 196)) (hR : RF C' (q 2) (mi T' 196)) : XCr q C' T' := by
  obtain ⟨h1, ⟨h2, h3, h4⟩, -, -⟩ := hX
  have e : ∀ a, (a = q 0 ∨ a = q 0 + 1 ∨ a = q 6 ∨ a = q 6 + 1 ∨ a = q 7 ∨ a = q 7 + 1) → mi C' a = mi C a := fun a ha => oC.at (fun z => by have := hS a z; omega)
  have e' : ∀ a, (a = 80 ∨ a = 82 ∨ a = 114 ∨ a = 118 ∨ a = 119) → mi T' a = mi T a := fun a ha => oT.at (fun z => by have := hS' a z; omega)
  have etw := tw_eq (e' 80 (by omega))
  refine ⟨?_, ⟨rgd_eq h2 (e _ (by omega)) (e _ (by omega)) (e' _ (by omega)) (e' _ (by omega)), rlaw_eq h3 (by rw [e _ (by omega)]) (e _ (by omega)) (e' _ (by omega)) (e' _ (by omega)), rlaw_eq h4 (by rw [e _ (by omega)]) (e _ (by omega)) (e' _ (by omega)) (e' _ (by omega))⟩, ?_, hR⟩
  · unfold IDS at h1 ⊢
    rw [oC.2.2.2.2.1]
    exact h1
  · rw [etw.1, etw.2]
    exact hV
theorem XCr.cx (hX : XCr q C T) : CX C T (q 0) (q 6) (q 7) (q 2) (mi T 196) := ⟨hX.2.1.1, hX.2.2.2.1, rd_of hX.1.2.1.1, rd_of hX.1.2.1.2.1, hX.2.1.2.1, hX.2.1.2.2⟩
theorem stp_mono {k9 m9 : Option (Int32 × Mm)} {w9 : Nat} {A B A' B' : Nat → Prop} (hs : StpO k9 m9 C T w9 A B) (h1 : ∀ a, A a → A' a) (h2 : ∀ a, B a → B' a) : StpO k9 m9 C T w9 A' B' := by
  obtain ⟨v, C1, T1, a1, a2, a3, a4, a5, a6⟩ := hs
  exact ⟨v, C1, T1, a1, a2, a3, a4.mono h1, a5.mono h2, a6⟩
/-- the class's step found by its code -/
theorem stp_wrap {k9 m9 : Option (Int32 × Mm)} {w9 : Nat} {A B : Nat → Prop} (hs : StpO k9 m9 C T w9 A B) : StpO ((k9.bind fun q => some q).bind fun q => (rB q.1).bind fun v => some (v, q.2)) m9 C T w9 A B := by
  obtain ⟨v, C1, T1, a1, a2, a3, a4⟩ := hs
  refine ⟨v, C1, T1, ?_, a2, a3, a4⟩
  rw [a1]
  rcases a3 with rfl | rfl <;> rfl
theorem k_step {x3 : Int32} {y : Nat} (hi : i < 200) (hk : kd < 7) (ek : mi C 4 i = Int32.ofNat kd) (harg : (kd = 0 ∨ kd = 1 ∨ kd = 5) → ∃ c : Nat, c % 8 < tw T ∧ c / 8 < th T ∧ mi C 5 i = Int32.ofNat c ∧ x3 = Int32.ofNat c) (hX : XCr q C T) (hy : mi T 196 363 = Int32.ofNat y) (hm : y < 10000000) : StpO (f_X6_carryOutStep (q 0) (q 2) (Int32.ofNat i) C) (f_X10_does 196 (Int32.ofNat kd) x3 T) C T (q 2) (Sc9 q) St9 := by
  obtain ⟨hI, ⟨hG, hL0, hL1⟩, hV, hR⟩ := id hX
  have hn := ids_n hI
  have hV1 := hV.1
  have m1 : ∀ a, (q 2 ≤ a ∧ a ≤ q 2 + 7) → Sc9 q a := fun a ha => Or.inl ha
  have m2 : ∀ a, a = 196 → St9 a := fun a ha => Or.inr (Or.inr (Or.inl ha))
  have hgo : f_X6_carryOutStep (q 0) (q 2) (Int32.ofNat i) C = (g_X6_carryOutStep (q 0) (q 2) (Int32.ofNat i) C).bind fun q => (rB q.1).bind fun v => some (v, q.2) := rfl
  rw [hgo]
  unfold g_X6_carryOutStep
  rw [ai_o hi (by omega), bsome, ai_o hi (by omega), bsome, ek]
  have hk' : kd = 0 ∨ kd = 1 ∨ kd = 2 ∨ kd = 3 ∨ kd = 4 ∨ kd = 5 ∨ kd = 6 := by omega
  rcases hk' with rfl | rfl | rfl | rfl | rfl | rfl | rfl
  · obtain ⟨c, c1, c2, c3, c4⟩ := harg (by omega)
    rw [if_pos (by decide), c3, c4]
    exact stp_wrap (stp_mono (s_to hG (by omega) hV hR ⟨c1, c2⟩) m1 m2)
  · obtain ⟨c, c1, c2, c3, c4⟩ := harg (by omega)
    rw [if_neg (by decide), if_pos (by decide), c3, c4]
    exact stp_wrap (stp_mono (s_lift hG hV hR (by omega)) m1 m2)
  · rw [if_neg (by decide), if_neg (by decide), if_pos (by decide)]
    exact stp_wrap (stp_mono (s_bar hG hV hR) m1 m2)
  · rw [if_neg (by decide), if_neg (by decide), if_neg (by decide), if_pos (by decide)]
    exact stp_wrap (stp_mono (s_wall hG (by omega) hV hR) m1 m2)
  · rw [if_neg (by decide), if_neg (by decide), if_neg (by decide), if_neg (by decide), if_pos (by decide)]
    exact stp_wrap (stp_mono (s_heap hV hR) m1 m2)
  · obtain ⟨c, c1, c2, c3, c4⟩ := harg (by omega)
    rw [if_neg (by decide), if_neg (by decide), if_neg (by decide), if_neg (by decide), if_neg (by decide), if_pos (by decide), c3, c4]
    exact stp_wrap (stp_mono (s_round hV hR (by omega)) m1 m2)
  · rw [if_neg (by decide), if_neg (by decide), if_neg (by decide), if_neg (by decide), if_neg (by decide), if_neg (by decide)]
    exact stp_wrap (s_winter hI hX.cx hV hR hy hm)
/-- while it is carried out: C0, T0 at the start; b steps begun -/
def ER (q : Nat → Nat) (C0 T0 : Mm) (Y b : Nat) (C T : Mm) : Prop := (Om (fun a => a = 3 ∨ a = 7 ∨ Sc9 q a) C0 C ∧ Om (fun a => a = 76 ∨ St9 a) T0 T) ∧ (mi C 3 4 = mi C0 3 4 ∧ ∀ j, j ≠ 32 → j ≠ 35 → j ≠ 36 → mi T 76 j = mi T0 76 j) ∧ XCr q C T ∧ (mi C 3 5 = mi T 76 36 ∧ mi C 3 6 = mi T 76 32) ∧ mi T 76 35 = Int32.ofNat b ∧ rg (mi T 196 363) 0 (Y + b)
theorem ER.c9 (hE : ER q C0 T0 Y b C T) {a : Nat} (ha : a = 4 ∨ a = 5 ∨ a = 6) : mi C a = mi C0 a := hE.1.1.at (fun z => by
  have hn := ids_n hE.2.2.1.1
  unfold Sc9 at z
  omega)
theorem ER.t9 (hE : ER q C0 T0 Y b C T) {a : Nat} (ha : a = 80 ∨ (136 ≤ a ∧ a ≤ 195)) : mi T a = mi T0 a := hE.1.2.at (fun z => by
  unfold St9 at z
  omega)
theorem xc_7 {x y : Nat} {v : Int32} (hX : XCr q C T) (h9 : x = 3 ∨ x = 7) : XCr q (sI C x y v) T := by
  have hn := ids_n hX.1
  refine hX.of (S := fun a => a = x) (S' := fun _ => False) (Om.sI rfl) Om.refl (fun a ha => by omega) (fun a ha => ha.elim) hX.2.2.1 (hX.2.2.2.frame (fun j hj => mi_sI_ne (by omega)))
theorem xc_76 {y : Nat} {v : Int32} (hX : XCr q C T) : XCr q C (sI T 76 y v) := by
  refine hX.of (S := fun _ => False) (S' := fun a => a = 76) Om.refl (Om.sI rfl) (fun a ha => ha.elim) (fun a ha => by omega) ?_ ?_
  · rw [mi_sI_ne (by omega)]; exact hX.2.2.1
  · rw [mi_sI_ne (by omega)]; exact hX.2.2.2
theorem ER.s7 {y : Nat} {v : Int32} (hE : ER q C0 T0 Y b C T) : ER q C0 T0 Y b (sI C 7 y v) T := by
  obtain ⟨⟨a1, a2⟩, ⟨b1, b2⟩, x, ⟨d1, d2⟩, e1⟩ := hE
  exact ⟨⟨om_si a1 (Or.inr (Or.inl rfl)), a2⟩, ⟨by rw [mi_sI_ne (by omega)]; exact b1, b2⟩, xc_7 x (Or.inr rfl), ⟨by rw [mi_sI_ne (by omega)]; exact d1, by rw [mi_sI_ne (by omega)]; exact d2⟩, e1⟩
theorem ER.beg (hE : ER q C0 T0 Y b C T) : ER q C0 T0 Y (b + 1) C (sI T 76 35 (Int32.ofNat (b + 1))) := by
  obtain ⟨⟨a1, a2⟩, ⟨b1, b2⟩, x, ⟨d1, d2⟩, e1, ⟨y, y1, y2, y3⟩⟩ := hE
  refine ⟨⟨a1, om_si a2 (Or.inl rfl)⟩, ⟨b1, fun j h1 h2 h3 => by rw [mi_sI_o h2]; exact b2 j h1 h2 h3⟩, xc_76 x, ⟨by rw [mi_sI_o (by omega)]; exact d1, by rw [mi_sI_o (by omega)]; exact d2⟩, mi_sI_k, ⟨y, y1, by omega, ?_⟩⟩
  rw [mi_sI_ne (by omega)]
  exact y3
/-- an instruction that is a step -/
theorem ex_one {rec : Nat → Int32 → Int32 → Mm → Option Mm} {jE : Nat} (hE : ER q C0 T0 Y b C T) (hY : Y + b < 9000000) (hcc : mi C0 3 4 = Int32.ofNat cc) (hc2 : cc ≤ 200) (hi : i < cc) (hj : j < 60) (hjE : j < jE) (hjE2 : jE ≤ 60) (hb : b < 300) (ht : t < 6600) (hk : kd < 7) (k1 : mi C0 4 i = Int32.ofNat kd) (k2 : mi T0 (136 + j) 0 = Int32.ofNat kd) (k3 : mi T0 (136 + j) 2 = Int32.ofNat (j + 1)) (k4 : (kd = 0 ∨ kd = 1 ∨ kd = 5) → ∃ c : Nat, c % 8 < tw T0 ∧ c / 8 < th T0 ∧ mi C0 5 i = Int32.ofNat c ∧ mi T0 (136 + j) 1 = Int32.ofNat c) :
    ∃ C1 T1, f_X6_carryOut_b18 (q 0) (q 2) (Int32.ofNat b, Int32.ofNat i, Int32.ofNat t, C) = some (.inl (Int32.ofNat (b + 1), Int32.ofNat (i + 1), Int32.ofNat (t + 1), C1)) ∧ f_X10_goes_b2 rec (Int32.ofNat jE) (Int32.ofNat j, T) = some (.inl (Int32.ofNat (j + 1), T1)) ∧ ER q C0 T0 Y (b + 1) C1 T1 ∧ mi C1 7 = mi C 7 := by
  have e4 : mi C 4 i = Int32.ofNat kd := by rw [hE.c9 (by omega)]; exact k1
  have e34 : mi C 3 4 = Int32.ofNat cc := hE.2.1.1.trans hcc
  have et : ∀ (X : Mm), Om St9 (sI T 76 35 (Int32.ofNat (b + 1))) X → mi X (136 + j) = mi T0 (136 + j) := fun X hO => by
    rw [hO.at (by unfold St9; omega), mi_sI_ne (by omega), hE.t9 (by omega)]
  have hE1 := hE.beg
  have etw := tw_eq (hE1.t9 (Or.inl rfl))
  obtain ⟨y, y1, y2, y3⟩ := hE1.2.2.2.2.2
  obtain ⟨v, C1, T1, s1, s2, s3, s4, s5, s6, s7, s8⟩ := k_step (i := i) (kd := kd) (x3 := mi (sI T 76 35 (Int32.ofNat (b + 1))) (136 + j) 1) (by omega) hk e4 (fun z => by
    obtain ⟨c, c1, c2, c3, c4⟩ := k4 z
    refine ⟨c, by rw [etw.1]; exact c1, by rw [etw.2]; exact c2, by rw [hE.c9 (by omega)]; exact c3, ?_⟩
    rw [et _ Om.refl]
    exact c4) hE1.2.2.1 y3 (by omega)
  generalize hM : sI T 76 35 (Int32.ofNat (b + 1)) = TB at *
  have n8 : ¬ Int32.ofNat kd = 8 := fun z => by have := (oN_eq (j := 8) (by omega) (by omega)).mp z; omega
  have n7 : ¬ Int32.ofNat kd = 7 := fun z => by have := (oN_eq (j := 7) (by omega) (by omega)).mp z; omega
  have n3 : ¬ Int32.ofNat b = 300 := fun z => by have := (oN_eq (j := 300) (by omega) (by omega)).mp z; omega
  have hn := ids_n hE.2.2.1.1
  have sc3 : ¬ Sc9 q 3 := fun z => by unfold Sc9 at z; omega
  have sc7 : ¬ Sc9 q 7 := fun z => by unfold Sc9 at z; omega
  have st76 : ¬ St9 76 := fun z => by unfold St9 at z; omega
  have c3 : mi C1 3 = mi C 3 := s4.at sc3
  have t76 : mi T1 76 = mi TB 76 := s5.at st76
  have hcl : f_X6_carryOut_b18 (q 0) (q 2) (Int32.ofNat b, Int32.ofNat i, Int32.ofNat t, C) = some (.inl (Int32.ofNat (b + 1), Int32.ofNat (i + 1), Int32.ofNat (t + 1), sI (sI C1 3 5 (mi C1 3 5 + (if v = 0 then (0 : Int32) else 1))) 3 6 (mi C1 3 6 + (if v = 0 then (1 : Int32) else 0)))) := by
    unfold f_X6_carryOut_b18 f_X6_carryOut_j109 f_X6_passStep
    dsimp only
    rw [if_neg (show ¬ (6600 : Int32) ≤ Int32.ofNat t from nle (n := 6600) ht (by omega)), if_neg (oN_nn (by omega)), e34, if_neg (nle hi (by omega)), ai_o (by omega) (by omega), bsome, e4, if_neg n8, if_neg n3, bsome, if_neg n7, s1, bsome]
    dsimp only
    rw [bsome]
    dsimp only
    rw [oN_S, oN_S, oN_S, mi_sI_o (show (6 : Nat) ≠ 5 by omega)]
  have hml : f_X10_goes_b2 rec (Int32.ofNat jE) (Int32.ofNat j, T) = some (.inl (Int32.ofNat (j + 1), sI (sI T1 76 36 (mi T1 76 36 + (if v = 0 then (0 : Int32) else 1))) 76 32 (mi T1 76 32 + (if v = 0 then (1 : Int32) else 0)))) := by
    unfold f_X10_goes_b2
    dsimp only
    have hq : ar 135 60 (Int32.ofNat j) = some (136 + j) := ar_135 hj
    have q0 : ∀ X : Mm, ai X (136 + j) 3 0 = some (mi X (136 + j) 0) := fun X => ai_o (i := 0) (by omega) (by omega)
    have q1 : ∀ X : Mm, ai X (136 + j) 3 1 = some (mi X (136 + j) 1) := fun X => ai_o (i := 1) (by omega) (by omega)
    have q2 : ∀ X : Mm, ai X (136 + j) 3 2 = some (mi X (136 + j) 2) := fun X => ai_o (i := 2) (by omega) (by omega)
    have e0 : mi TB (136 + j) 0 = Int32.ofNat kd := by rw [et TB Om.refl]; exact k2
    rw [if_neg (nle hjE (by omega)), hE.2.2.2.2.1, if_neg (show ¬ (300 : Int32) ≤ Int32.ofNat b from nle (n := 300) hb (by omega)), hq, bsome, oN_S, hM, q0, bsome, e0, if_neg n7, bsome, q0, bsome, e0, bsome, q1, bsome, s2, bsome]
    dsimp only
    rw [bsome, q2, bsome, mi_sI_ne (by omega), mi_sI_ne (by omega), et T1 s5, k3, mi_sI_o (show (32 : Nat) ≠ 36 by omega)]
  refine ⟨_, _, hcl, hml, ⟨⟨?_, ?_⟩, ⟨?_, fun j' h1 h2 h3 => ?_⟩, ?_, ⟨?_, ?_⟩, ?_, ?_⟩, ?_⟩
  · exact om_si (om_si (hE.1.1.trans (s4.mono (fun a ha => Or.inr (Or.inr ha)))) (Or.inl rfl)) (Or.inl rfl)
  · exact om_si (om_si (hE1.1.2.trans (s5.mono (fun a ha => Or.inr ha))) (Or.inl rfl)) (Or.inl rfl)
  · rw [mi_sI_o (by omega), mi_sI_o (by omega), c3]; exact hE.2.1.1
  · rw [mi_sI_o h1, mi_sI_o h3, t76]; exact hE1.2.1.2 j' h1 h2 h3
  · exact xc_76 (xc_76 (xc_7 (xc_7 (hE1.2.2.1.of s4 s5 (fun a ha => sc_aw hE.2.2.1.1 ha) (fun a ha => by unfold St9 at ha; omega) s6 s7) (Or.inl rfl)) (Or.inl rfl)))
  · rw [mi_sI_o (by omega), mi_sI_k, mi_sI_o (by omega), mi_sI_k, c3, t76, hE1.2.2.2.1.1]
  · rw [mi_sI_k, mi_sI_k, c3, t76, hE1.2.2.2.1.2]
  · rw [mi_sI_o (by omega), mi_sI_o (by omega), t76]; exact hE1.2.2.2.2.1
  · rw [mi_sI_ne (by omega), mi_sI_ne (by omega)]
    rcases s8 with e | e
    · rw [e]; exact ⟨y, y1, y2, y3⟩
    · obtain ⟨y9, z1, z2, z3⟩ := hE.2.2.2.2.2
      have eb : mi TB 196 363 = mi T 196 363 := by rw [← hM, mi_sI_ne (by omega)]
      rw [e, eb, z3, oN_S]
      exact ⟨y9 + 1, by omega, by omega, rfl⟩
  · rw [mi_sI_ne (by omega), mi_sI_ne (by omega), s4.at sc7]
end SK9
