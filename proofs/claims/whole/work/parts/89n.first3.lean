/-! level 3: first: the pair -/
section FC
variable {k : Nat} {M : Mm} {q : Nat → Nat} {w h : Nat} {r : Nat → Int32} {C C' T N : Mm}
theorem LN15 : LN 15 = 1000 := by decide
def k13 (a : Nat) : Prop := 13 ≤ a ∧ a ≤ 16
def an4 (C : Mm) (cf : Nat → Nat) (sf : Nat → Int32) (z : Nat) : Prop := ml C 13 0 = (fF cf sf 48 z).toInt64 ∧ ml C 13 1 = (Int32.ofNat z).toInt64 ∧ ml C 13 2 = bF cf sf 48 z
theorem k_planFirst {X g a : Nat} (hX : X ≤ 999) (hG : RGd C T g) (hV : VR w h r) (hW : RW C a r) (hg : 16 < g) (ha : 16 < a) : ∃ C', f_X0_planFirst g a (Int32.ofNat X) C = some C' ∧ Oml k13 C C' ∧ an4 C' (co T r) (mi T 82) (zF (co T r) (mi T 82) X) := by
  have h6 := hV.n60
  have hs : ∀ c, c < 48 → ∃ n : Nat, n ≤ 99 ∧ mi T 82 c = Int32.ofNat n := fun c hc => by
    obtain ⟨-, n, -, n2, n3⟩ := hG.2.2 c hc
    exact ⟨n, n2, n3⟩
  generalize hC1 : sL (sI (sA C 15 (upto (LN 15) (fun _ => -1) (mi C 15))) 15 0 0) 16 0 0 = C1
  have o1 : Oml k13 C C1 := by
    rw [← hC1]
    exact oml_sl (oml_si (Om.sA (S := k13) (by unfold k13; omega)).l (by unfold k13; omega)) (by unfold k13; omega)
  have q1 : ∀ s, s ≤ X → okT C1 (co T r) (mi T 82) 0 s := fun s hs9 => by
    rw [← hC1]
    refine ⟨?_, fun hne => ?_⟩
    · show mi (sI (sA C 15 (upto (LN 15) (fun _ => -1) (mi C 15))) 15 0 0) 15 s = _
      rw [mi_sI, u1_at]
      by_cases h0 : s = 0
      · rw [if_pos h0, h0]
        exact (fF_0 0).1.symm
      · rw [if_neg h0, mi_sA, LN15, upto_lt (by omega)]
        exact (if_neg h0 : (if s = 0 then (0 : Int32) else -1) = -1).symm
    · have h0 : s = 0 := by
        by_cases h0 : s = 0
        · exact h0
        · exact absurd (if_neg h0 : (if s = 0 then (0 : Int32) else -1) = -1) hne
      subst h0
      exact ml_sL_k
  obtain ⟨C2, e2, o2, q2⟩ := whl_ex (f := f_X0_planFirst_b25 g a (Int32.ofNat X)) (fun c st => ∃ C2, st = (Int32.ofNat c, C2) ∧ Oml k13 C C2 ∧ ∀ s, s ≤ X → okT C2 (co T r) (mi T 82) c s) (fun C2 => Oml k13 C C2 ∧ ∀ s, s ≤ X → okT C2 (co T r) (mi T 82) 48 s) 48 fu (0, C1) (by decide) ⟨C1, rfl, o1, q1⟩ (by
    rintro c st hc ⟨C2, rfl, hO, hq⟩
    have hW2 : RW C2 a r := hW.frame (fun j hj => hO.at (by unfold k13; omega))
    have hG2 : RGd C2 T g := hG.frame (hO.at (by unfold k13; omega)) (hO.at (by unfold k13; omega)) KT.refl
    have skip : co T r c = 0 → ∀ s, s ≤ X → okT C2 (co T r) (mi T 82) (c + 1) s := fun h0 s hs9 => by
      have e : fF (co T r) (mi T 82) (c + 1) s = fF (co T r) (mi T 82) c s := by rw [fF_s, if_pos (Or.inl h0)]
      unfold okT
      rw [bF_s, if_pos e, e]
      exact hq s hs9
    refine Or.inl ?_
    unfold f_X0_planFirst_b25
    dsimp only
    rw [if_neg (show ¬ (48 : Int32) ≤ Int32.ofNat c from nle (n := 48) hc (by omega)), k_lyingIn hW2 hc, bsome, oN_S]
    by_cases h1 : lyIn r c ≤ 0
    · rw [if_pos h1]
      exact ⟨_, rfl, C2, rfl, hO, skip ((co_free hG.1 hV).mpr (Or.inl h1))⟩
    · rw [if_neg h1, k_isLost hV hW2 hc, bsome]
      by_cases h2 : r (367 + c) = 1
      · rw [if_pos h2, if_neg z10]
        exact ⟨_, rfl, C2, rfl, hO, skip ((co_free hG.1 hV).mpr (Or.inr h2))⟩
      · have hpos : 1 ≤ co T r c := by
          by_cases h0 : co T r c = 0
          · exact absurd ((co_free hG.1 hV).mp h0) (fun z => z.elim h1 h2)
          · omega
        have hle : co T r c ≤ 20000 := by
          have := coN_le hG.1 hV (c := c) (rN r) (Nat.le_refl _)
          unfold co
          omega
        have hso : f_X3_soilOf g (Int32.ofNat c) C2 = some (mi T 82 c) := by
          unfold f_X3_soilOf
          rw [k_isCell hc, bsome, if_neg z10, ai_o hc (by omega), (hG2.2.2 c hc).1]
          rfl
        obtain ⟨C3, p1, p2, p3⟩ := k_spendOn (C := C2) (cf := co T r) (sf := mi T 82) hX hc ⟨hpos, hle⟩ hq
        rw [if_neg h2, if_pos z00, k_clearsIn hG2 hV hW2 hc h2, bsome, hso, bsome, p1, bsome]
        exact ⟨_, rfl, C3, rfl, hO.trans (p2.mono (fun b hb => by unfold k1516 at hb; unfold k13; omega)), p3⟩) (by
    rintro st ⟨C2, rfl, hO, hq⟩
    refine ⟨C2, ?_, hO, hq⟩
    unfold f_X0_planFirst_b25
    dsimp only
    rw [if_pos (show (48 : Int32) ≤ Int32.ofNat 48 from le_rf _)])
  have an0 : an4 (sL (sL (sL C2 13 0 0) 13 1 0) 13 2 0) (co T r) (mi T 82) 0 := by
    unfold an4
    rw [(fF_0 48).1, (fF_0 48).2]
    exact ⟨set0, set1, set2⟩
  have t15 : ∀ {C3 : Mm}, Oml (fun b => b = 13) C2 C3 → ∀ s, s ≤ X → okT C3 (co T r) (mi T 82) 48 s := fun {C3} hO s hs9 => by
    unfold okT
    rw [hO.at (by omega), (hO.2.2 16 (by omega)).2]
    exact q2 s hs9
  obtain ⟨C3, e3, o3, q3⟩ := whl_ex (f := f_X0_planFirst_b86 (Int32.ofNat X)) (fun t st => ∃ C3, st = (Int32.ofNat (t + 1), C3) ∧ Oml (fun b => b = 13) C2 C3 ∧ an4 C3 (co T r) (mi T 82) (zF (co T r) (mi T 82) t)) (fun C3 => Oml (fun b => b = 13) C2 C3 ∧ an4 C3 (co T r) (mi T 82) (zF (co T r) (mi T 82) X)) X fu (1, sL (sL (sL C2 13 0 0) 13 1 0) 13 2 0) (by show X < 1000000; omega) ⟨_, rfl, setO rfl, an0⟩ (by
    rintro t st ht ⟨C3, rfl, hO, hA⟩
    have hz := zF_le (cf := co T r) (sf := mi T 82) t
    have hq := t15 hO (t + 1) (by omega)
    have b0 : al C3 13 3 0 = some (ml C3 13 0) := al13 (i := 0) (by omega)
    refine Or.inl ?_
    unfold f_X0_planFirst_b86
    dsimp only
    rw [if_neg (fun z => lnle z ((oN_le (by omega) (by omega)).mpr (by omega))), if_neg (show ¬ (999 : Int32) < Int32.ofNat (t + 1) from fun z => lnle z ((oN_le (i := t + 1) (j := 999) (by omega) (by omega)).mpr (by omega))), ai_o (by omega) (by omega), bsome, b0, bsome, hq.1, hA.1, oN_S, zF_s]
    by_cases h1 : fF (co T r) (mi T 82) 48 (t + 1) ≤ fF (co T r) (mi T 82) 48 (zF (co T r) (mi T 82) t)
    · rw [if_pos (lg_le9.mpr (t64_le.mpr h1)), if_pos h1]
      exact ⟨_, rfl, C3, rfl, hO, hA⟩
    · have hne : fF (co T r) (mi T 82) 48 (t + 1) ≠ -1 := fun e => by
        rw [e] at h1
        rcases fF_ok (cf := co T r) hs 48 (by omega) (zF (co T r) (mi T 82) t) with e2 | ⟨n, n1, n2⟩
        · exact h1 (by rw [e2]; exact Int32.le_refl _)
        · exact h1 (by rw [n2]; exact Int32.le_trans (show (-1 : Int32) ≤ 0 by decide) (lle (n := 0) (by omega) (by omega)))
      rw [if_neg (fun z => h1 (t64_le.mp (lg_le9.mp z))), bsome, show al C3 16 1000 (Int32.ofNat (t + 1)) = some (ml C3 16 (t + 1)) from al_o (by omega) (by omega), bsome, k_settle, bsome, if_neg h1, hq.2 hne]
      exact ⟨_, rfl, _, rfl, hO.trans (setO rfl), set0, set1, set2⟩) (by
    rintro st ⟨C3, rfl, hO, hA⟩
    refine ⟨C3, ?_, hO, hA⟩
    unfold f_X0_planFirst_b86
    dsimp only
    rw [if_pos ((oN_lt (by omega) (by omega)).mpr (by omega))])
  unfold f_X0_planFirst
  rw [s_fill (by rw [LN15]; omega), bsome, show ∀ (Y : Mm) (x : Int32), wi Y 15 1000 0 x = some (sI Y 15 0 x) from fun Y x => wi_o (i := 0) (by omega) (by omega), bsome, show ∀ (Y : Mm) (x : Int64), wl Y 16 1000 0 x = some (sL Y 16 0 x) from fun Y x => wl_o (i := 0) (by omega) (by omega), bsome, hC1, show whl fu (f_X0_planFirst_b25 g a (Int32.ofNat X)) (0, C1) = some C2 from e2, bsome, k_settle, bsome, show whl fu (f_X0_planFirst_b86 (Int32.ofNat X)) (1, sL (sL (sL C2 13 0 0) 13 1 0) 13 2 0) = some C3 from e3, bsome]
  exact ⟨C3, rfl, o2.trans (o3.mono (fun b hb => by unfold k13; omega)), q3⟩
theorem co_T {T' : Mm} (hq : TQ T T') : co T' r = co T r := by
  funext c
  unfold co
  have : ∀ n, coN T' r c n = coN T r c n := by
    intro n
    induction n with
    | zero => rfl
    | succ n ih => rw [coN_s, coN_s, ih, show clN T' r n = clN T r n by unfold clN; rw [hq.clr]]
  exact this _
theorem G_first (hI : INV k M) : ∀ x1 x2 : Int32, GdJ k (f_X9_first x1 x2 M) (f_X10_first x1 x2) 0 0 1 := by
  obtain ⟨⟨q, h⟩, r⟩ := id hI
  intro x y
  have hn := ids_n h.1
  have harg : f_X9_first x y M = if ((0 : Int32) ≤ x ∧ x ≤ 999) ∧ ((0 : Int32) ≤ y ∧ y ≤ 2) then f_X9_first_j26 x y 1 M else f_X9_first_j26 x y 0 M := by
    unfold f_X9_first f_X9_first_j25
    rw [arg2, arg2]
    by_cases hx : (0 : Int32) ≤ x ∧ x ≤ 999
    · rw [if_pos hx]
      by_cases hy : (0 : Int32) ≤ y ∧ y ≤ 2
      · rw [if_pos hy, if_pos ⟨hx, hy⟩]
      · rw [if_neg hy, if_neg (fun p => hy p.2)]
    · rw [if_neg hx, if_neg (fun p => hx p.1)]
  rw [harg]
  by_cases hc : ((0 : Int32) ≤ x ∧ x ≤ 999) ∧ ((0 : Int32) ≤ y ∧ y ≤ 2)
  · rw [if_pos hc]
    obtain ⟨X, -, hX, rfl⟩ := (in_nat (lo := 0) (hi := 999) (by omega) (by omega)).mp hc.1
    obtain ⟨z, -, z2, rfl⟩ := (in_nat (lo := 0) (hi := 2) (by omega) (by omega)).mp hc.2
    obtain ⟨C', p1, p2, p3⟩ := k_planFirst (g := q 0) (a := q 2) hX h.gd h.wd.1 h.wd.2.1 (by omega) (by omega)
    have s13 : ∀ a, k13 a → frC q a ∧ frT a := fun a ha => frC_of h.1 (by unfold k13 at ha; omega)
    have h' : RR C' C' q := h.oml p2 p2 (fun a ha => (s13 a ha).1) (fun a ha => (s13 a ha).2)
    have hq0 : TQ M C' := p2.tq (fun a ha => (s13 a ha).2)
    generalize hcf : co M (mi M 196) = cf at p3
    generalize hsf : mi M 82 = sf at p3
    have hzl := zF_le (cf := cf) (sf := sf) X
    generalize hz9 : zF cf sf X = s0 at p3 hzl
    have hn9 : ∀ v : Int64, ∃ M2, f_X10_first (Int32.ofNat X) (Int32.ofNat z) (sL C' 275 0 v) = some (if z = 0 then (fF cf sf 48 s0).toInt64 else if z = 1 then (Int32.ofNat s0).toInt64 else bF cf sf 48 s0, M2) ∧ Om frm (nQ C' v) M2 := fun v => by
      have hqv : TQ M (nQ C' v) := hq0.trans TQ.nQ
      have e1 : mi (nQ C' v) 196 = mi M 196 := (nQ_o (by omega)).trans (p2.at (by unfold k13; omega))
      have e82 : mi (nQ C' v) 82 = sf := hqv.2.1.trans hsf
      have hV1 := vr_nQ (v := v) h'
      have hT1 : RGt (nQ C' v) := RGt_of hqv.1 h.gd.1
      obtain ⟨M2, g1, g2, g3⟩ := m_table (N := nQ C' v) (x2 := Int32.ofNat z) hX hT1 hV1 (fun c hc => by rw [hqv.2.1]; exact (h.gd.2.2 c hc).2)
      have ecf : co (nQ C' v) (mi (nQ C' v) 196) = cf := by rw [e1, co_T hqv, hcf]
      rw [ecf, e82] at g3
      have f196 : mi M2 196 = mi M 196 := (g2.at (by unfold frm; omega)).trans e1
      have f80 : mi M2 80 = mi M 80 := (g2.at (by unfold frm; omega)).trans hqv.1
      have ecf2 : co M2 (mi M2 196) = cf := by
        rw [f196, ← hcf]
        exact co_T ⟨f80, (g2.at (by unfold frm; omega)).trans hqv.2.1, (g2.at (by unfold frm; omega)).trans hqv.2.2.1, (g2.at (by unfold frm; omega)).trans hqv.2.2.2.1, (g2.at (by unfold frm; omega)).trans hqv.2.2.2.2⟩
      have b1 := m_best (N := M2) (cf := cf) (sf := sf) (x2 := Int32.ofNat z) hX (g3 48 (by omega))
      rw [hz9] at b1
      have tr := m_trace (N := M2) (w := tw M) (h := th M) (sf := sf) hX hzl (RGt_of f80 h.gd.1) (by rw [f196]; exact h.wd.1) (by rw [ecf2]; exact g3)
      rw [ecf2] at tr
      refine ⟨M2, ?_, g2⟩
      unfold f_X10_first
      rw [m_in, bsome, if_pos hc.1, if_neg z10, m_in, bsome, if_pos hc.2, if_neg z10]
      unfold f_X10_first_j31
      rw [m_fine, bsome, nQ_def]
      dsimp only
      rw [if_pos z00]
      obtain ⟨M10, m1, m2⟩ := Option.bind_eq_some_iff.mp g1
      rw [m1, bsome, m2, bsome, b1, bsome]
      by_cases h2 : z = 2
      · rw [if_pos (show (2 : Int32) ≤ Int32.ofNat z by rw [h2]; decide), tr, bsome, if_neg (by omega), if_neg (by omega)]
      · rw [if_neg (show ¬ (2 : Int32) ≤ Int32.ofNat z from nle (n := 2) (by omega) (by omega))]
        by_cases h0 : z = 0
        · rw [if_pos (show Int32.ofNat z = 0 by rw [h0]; rfl), show ar 224 49 48 = some (225 + 48) from ar_224 (c := 48) (by omega), bsome, ai_o (by omega) (by omega), bsome, g3 48 (by omega) s0 (by omega), if_pos h0]
        · rw [if_neg (show ¬ Int32.ofNat z = 0 from fun e => h0 ((oN_eq (i := z) (j := 0) (by omega) (by omega)).mp e)), if_neg h0, if_pos (by omega)]
    generalize hv : (if z = 0 then (fF cf sf 48 s0).toInt64 else if z = 1 then (Int32.ofNat s0).toInt64 else bF cf sf 48 s0) = v at hn9
    obtain ⟨M2, n1, n2⟩ := hn9 v
    refine gd_76J (S := k13) (v := v) h r p2 (n2.l.mono (fun a ha => by unfold frm at ha; unfold mrG; omega)) (fun j hj => by rw [n2.at (by unfold frm; omega)]) s13 ?_ n1
    unfold f_X9_first_j26
    rw [needA1, bsome]
    dsimp only
    rw [h.g, h.w, p1, bsome]
    have ans : ml C' 13 z = v := by
      rw [← hv]
      have z3 : z = 0 ∨ z = 1 ∨ z = 2 := by omega
      rcases z3 with rfl | rfl | rfl
      · rw [p3.1, if_pos rfl]
      · rw [p3.2.1, if_neg (by decide), if_pos rfl]
      · rw [p3.2.2, if_neg (by decide), if_neg (by decide)]
    rw [show f_X0_answerTo (Int32.ofNat z) C' = some (ml C' 13 z) from k_answer (i := z) (by omega), bsome, ans]
  · rw [if_neg hc]
    unfold f_X9_first_j26
    rw [needA0, bsome]
    refine gd_r2J (b := 0) hI (by decide) rfl ?_
    unfold f_X10_first
    rw [m_in, bsome]
    by_cases hx : (0 : Int32) ≤ x ∧ x ≤ 999
    · have hy : ¬ ((0 : Int32) ≤ y ∧ y ≤ 2) := fun p => hc ⟨hx, p⟩
      rw [if_pos hx, if_neg z10, m_in, bsome, if_neg hy, if_pos z00]
      unfold f_X10_first_j26 f_X10_first_j31
      rw [m_r2 1 (by decide), bsome]
      rfl
    · rw [if_neg hx, if_pos z00]
      unfold f_X10_first_j26 f_X10_first_j31
      rw [m_r2 1 (by decide), bsome]
      rfl
end FC
