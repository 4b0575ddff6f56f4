/-! level 3: frost, span -/
section FP
variable {k : Nat} {M : Mm} {q : Nat → Nat} {w h : Nat} {r r' : Nat → Int32} {C C' T N : Mm}
theorem k_isFrost {a b : Int32} : f_X9_isFrost a b C = some (if ((0 : Int32) ≤ a ∧ a ≤ 16) ∧ ((1 : Int32) ≤ b ∧ b ≤ 20) then 1 else 0) := by
  unfold f_X9_isFrost g_X9_isFrost
  rw [arg2, arg2]
  by_cases ha : (0 : Int32) ≤ a ∧ a ≤ 16
  · rw [if_pos ha]
    by_cases hb : (1 : Int32) ≤ b ∧ b ≤ 20
    · rw [if_pos hb, if_pos ⟨ha, hb⟩]; rfl
    · rw [if_neg hb, if_neg (fun z => hb z.2)]; rfl
  · rw [if_neg ha, if_neg (fun z => ha z.1)]; rfl
theorem mrF_G {a : Nat} (h : mrF a) : mrG a := by
  unfold mrF mrS at h
  unfold mrG
  omega
theorem tr_no (h : RR M M q) : ∀ a, 76 ≤ a → ¬ trS q a := fun a ha hs => by
  have := ids_n h.1
  unfold trS at hs
  omega
theorem G_frost (hI : INV k M) (hk : k ≤ 600) : ∀ x1 x2 x3 x4 : Int32, GdI k (f_X9_frost x1 x2 x3 x4 M) (f_X10_frost x1 x2 x3 x4) 0 0 1 := by
  obtain ⟨⟨q, h⟩, r⟩ := id hI
  intro x1 x2 x3 x4
  obtain ⟨m, m1, m2⟩ := yb_0 r hk
  have n0 : f_X9_frost_j24 x1 x2 x3 x4 M = some (.inl 2, eRef M 2) := by
    unfold f_X9_frost_j24 f_X9_frost_j25
    rw [needA0, bsome]
  have harg : f_X9_frost x1 x2 x3 x4 M = if (((0 : Int32) ≤ x2 ∧ x2 ≤ 16) ∧ ((1 : Int32) ≤ x3 ∧ x3 ≤ 20)) ∧ ((0 : Int32) ≤ x4 ∧ x4 ≤ 2) then f_X9_frost_j25 x1 x2 x3 x4 1 M else some (.inl 2, eRef M 2) := by
    unfold f_X9_frost
    rw [arg2, k_isFrost, bsome, n0]
    by_cases ha : ((0 : Int32) ≤ x2 ∧ x2 ≤ 16) ∧ ((1 : Int32) ≤ x3 ∧ x3 ≤ 20)
    · rw [if_pos ha, if_neg z10]
      by_cases hb : (0 : Int32) ≤ x4 ∧ x4 ≤ 2
      · rw [if_pos hb, if_pos ⟨ha, hb⟩]
      · rw [if_neg hb, if_neg (fun z => hb z.2)]
    · rw [if_neg ha, if_pos z00, if_neg (fun z => ha z.1)]
  rw [harg]
  by_cases hc : (((0 : Int32) ≤ x2 ∧ x2 ≤ 16) ∧ ((1 : Int32) ≤ x3 ∧ x3 ≤ 20)) ∧ ((0 : Int32) ≤ x4 ∧ x4 ≤ 2)
  · rw [if_pos hc]
    obtain ⟨Y, y1, y2, rfl⟩ := (in_nat (lo := 1) (hi := 20) (by omega) (by omega)).mp hc.1.2
    obtain ⟨z, -, z2, rfl⟩ := (in_nat (lo := 0) (hi := 2) (by omega) (by omega)).mp hc.2
    have hV := (foN_vr (T := M) (z := x2) (s := (x1, r0 M)) (r0_vr h) m2 Y (by omega)).1
    -- what both answer
    have hcl : ∃ C', f_X9_frost_j25 x1 x2 (Int32.ofNat Y) (Int32.ofNat z) 1 M = some (.inr (if z = 2 then hmN M x2 (x1, r0 M) Y else if z = 0 then thN (foN M x2 (x1, r0 M) Y).2 else thS (foN M x2 (x1, r0 M) Y).2), C') ∧ Om (trS q) M C' := by
      unfold f_X9_frost_j25
      rw [needA1, bsome]
      dsimp only
      by_cases h2 : z = 2
      · obtain ⟨C', p1, p2⟩ := tr_harmN (z := x2) (x1 := x1) (Y := Y) h m2 (by omega)
        rw [if_pos (show Int32.ofNat z = 2 by rw [h2]; rfl), h.g, h.w, p1, bsome, if_pos h2]
        exact ⟨C', rfl, p2⟩
      · obtain ⟨C', p1, p2, p3⟩ := tr_frost (z := x2) (x1 := x1) (Y := Y) h (C := M) Om.refl m2 (by omega)
        rw [if_neg (show ¬ Int32.ofNat z = 2 from fun e => h2 ((oN_eq (i := z) (j := 2) (by omega) (by omega)).mp e)), h.g, h.w, p1, bsome, if_neg h2]
        by_cases h0 : z = 0
        · unfold f_X2_howMany
          rw [if_pos (show Int32.ofNat z = 0 by rw [h0]; rfl), if_pos h0, k_howManyAsked hV p3.2.1]
          exact ⟨C', rfl, p2⟩
        · unfold f_X2_allSizes
          rw [if_neg (show ¬ Int32.ofNat z = 0 from fun e => h0 ((oN_eq (i := z) (j := 0) (by omega) (by omega)).mp e)), if_neg h0, k_sizesAsked hV p3.2.1]
          exact ⟨C', rfl, p2⟩
    obtain ⟨C', p1, p2⟩ := hcl
    have hq0 : TQ M C' := p2.l.tq (fun a ha => (trS_fr h.1 ha).2)
    generalize hv : (if z = 2 then hmN M x2 (x1, r0 M) Y else if z = 0 then thN (foN M x2 (x1, r0 M) Y).2 else thS (foN M x2 (x1, r0 M) Y).2) = v at p1
    have f196 : mi (nQ C' v.toInt64) 196 = mi M 196 := (nQ_o (by omega)).trans (p2.at (tr_no h _ (by omega)))
    have f197 : mi (nQ C' v.toInt64) 197 = mi M 197 := (nQ_o (by omega)).trans (p2.at (tr_no h _ (by omega)))
    obtain ⟨N', n1, n2, n3, n4, n5⟩ := mt_frosts (N := nQ C' v.toInt64) (z := x2) (x1 := x1) (Y := Y) h (hq0.trans TQ.nQ) f196 (fun j _ => by rw [f197]) m2 (by omega)
    refine gd_76 (S := trS q) h r p2.l (n2.l.mono (fun a ha => mrF_G ha)) (fun j hj => n3 j (by omega)) (fun a ha => trS_fr h.1 ha) (v := v) p1 ?_
    unfold f_X10_frost
    rw [m_in, bsome, if_pos hc.1.1, if_neg z10, m_in, bsome, if_pos hc.1.2, if_neg z10, m_in, bsome, if_pos hc.2, if_neg z10, nQ_def]
    unfold f_X10_frost_j41
    rw [← nQ_def, m_fine, bsome, nQ_def]
    dsimp only
    rw [if_pos z00, n1, bsome]
    by_cases h2 : z = 2
    · rw [if_pos (show (2 : Int32) ≤ Int32.ofNat z by rw [h2]; decide), show ai N' 197 415 365 = some (mi N' 197 365) from ai_o (i := 365) (by omega) (by omega), bsome, show ai N' 196 415 365 = some (mi N' 196 365) from ai_o (i := 365) (by omega) (by omega), bsome, n5, n2.at (by unfold mrF mrS; omega), f196, ← hv, if_pos h2, Int32.add_comm, Int32.add_sub_cancel]
    · rw [if_neg (show ¬ (2 : Int32) ≤ Int32.ofNat z from nle (n := 2) (by omega) (by omega))]
      rw [if_neg h2] at hv
      by_cases h0 : z = 0
      · rw [if_neg (show ¬ Int32.ofNat z = 1 by rw [h0]; decide), m_thereN LN197 (n4.vr hV), bsome, thN_al n4 hV.n60, ← hv, if_pos h0]
      · rw [if_pos (show Int32.ofNat z = 1 by rw [show z = 1 by omega]; rfl), m_thereS LN197 (n4.vr hV), bsome, thS_al n4 hV.n60, ← hv, if_neg h0]
  · rw [if_neg hc]
    refine gd_r2 (b := 0) hI (by decide) rfl ?_
    unfold f_X10_frost
    rw [m_in, bsome]
    have no : f_X10_frost_j36 x1 x2 x3 x4 (sI (eRef M 2) 76 0 0) = some (0, eRefM (eRef M 2) 2 1) := by
      unfold f_X10_frost_j36 f_X10_frost_j41
      rw [m_r2 1 (by decide), bsome]
      rfl
    by_cases ha : (0 : Int32) ≤ x2 ∧ x2 ≤ 16
    · rw [if_pos ha, if_neg z10, m_in, bsome]
      by_cases hb : (1 : Int32) ≤ x3 ∧ x3 ≤ 20
      · have hd : ¬ ((0 : Int32) ≤ x4 ∧ x4 ≤ 2) := fun p => hc ⟨⟨ha, hb⟩, p⟩
        rw [if_pos hb, if_neg z10, m_in, bsome, if_neg hd, if_pos z00, no]
      · rw [if_neg hb, if_pos z00, no]
    · rw [if_neg ha, if_pos z00, no]
/-- many seeds: fewest, most, how many fine -/
def spV (T : Mm) (x1 z : Int32) (Y : Nat) (r : Nat → Int32) (i : Nat) : Int32 := thN (foN T z (x1 + Int32.ofNat i, r) Y).2
def spS (V : Nat → Int32) (n : Int32) : Nat → Int32 × Int32 × Int32
  | 0 => (60, 0, 0)
  | i + 1 => (mmin (spS V n i).1 (V i), mmax (spS V n i).2.1 (V i), (spS V n i).2.2 + (if n < V i then 0 else 1))
theorem thN_le (hV : VR w h r) : ∃ n : Nat, n ≤ 60 ∧ thN r = Int32.ofNat n := by
  have h6 := hV.n60
  obtain ⟨s, s1, s2⟩ := sm_nn (B := 1) (F := fun i => if Th r i then 1 else 0) (rN r) (fun i hi => by
    show ∃ f : Nat, f ≤ 1 ∧ (if Th r i then (1 : Int32) else 0) = Int32.ofNat f
    by_cases hT : Th r i
    · exact ⟨1, by omega, by rw [if_pos hT]; rfl⟩
    · exact ⟨0, by omega, by rw [if_neg hT]; rfl⟩)
  exact ⟨s, by omega, s2⟩
theorem mmin_less {a b : Int32} : (if b ≤ a then b else a) = mmin a b := by
  unfold mmin
  by_cases h1 : b < a
  · rw [if_pos h1, if_pos (Int32.le_of_lt h1)]
  · rw [if_neg h1]
    by_cases h2 : b ≤ a
    · rw [if_pos h2]
      exact Int32.le_antisymm h2 (nlt h1)
    · rw [if_neg h2]
theorem mmax_more {a b : Int32} : (if a ≤ b then b else a) = mmax a b := by
  unfold mmax
  by_cases h1 : a < b
  · rw [if_pos h1, if_pos (Int32.le_of_lt h1)]
  · rw [if_neg h1]
    by_cases h2 : a ≤ b
    · rw [if_pos h2]
      exact Int32.le_antisymm (nlt h1) h2
    · rw [if_neg h2]
theorem spS_ne {V : Nat → Int32} {n : Int32} (hV : ∀ i, ∃ m : Nat, m ≤ 60 ∧ V i = Int32.ofNat m) : ∀ i, ∃ m : Nat, m ≤ 60 ∧ (spS V n i).1 = Int32.ofNat m := by
  intro i
  induction i with
  | zero => exact ⟨60, by omega, rfl⟩
  | succ i ih =>
    obtain ⟨m, m1, m2⟩ := hV i
    show ∃ m : Nat, m ≤ 60 ∧ mmin (spS V n i).1 (V i) = Int32.ofNat m
    unfold mmin
    by_cases h1 : V i < (spS V n i).1
    · rw [if_pos h1]; exact ⟨m, m1, m2⟩
    · rw [if_neg h1]; exact ih
theorem tr_span {x1 z n x6 : Int32} {m Y X : Nat} (h : RR M M q) (hy : r0 M 363 = Int32.ofNat m) (hm : m + Y < 1000000) (hX : X ≤ 20) : ∃ C', whl fu (f_X9_span_b61 x1 (Int32.ofNat X) z (Int32.ofNat Y) n x6) (60, 0, 0, 0, M) = some ((spS (spV M x1 z Y (r0 M)) n X).1, (spS (spV M x1 z Y (r0 M)) n X).2.1, (spS (spV M x1 z Y (r0 M)) n X).2.2, C') ∧ Om (trS q) M C' := by
  obtain ⟨e, e1, C', rfl, e3⟩ := whl_ex (f := f_X9_span_b61 x1 (Int32.ofNat X) z (Int32.ofNat Y) n x6) (fun i st => ∃ C2, st = ((spS (spV M x1 z Y (r0 M)) n i).1, (spS (spV M x1 z Y (r0 M)) n i).2.1, (spS (spV M x1 z Y (r0 M)) n i).2.2, Int32.ofNat i, C2) ∧ Om (trS q) M C2) (fun e => ∃ C2, e = ((spS (spV M x1 z Y (r0 M)) n X).1, (spS (spV M x1 z Y (r0 M)) n X).2.1, (spS (spV M x1 z Y (r0 M)) n X).2.2, C2) ∧ Om (trS q) M C2) X fu (60, 0, 0, 0, M) (by show X < 1000000; omega) ⟨M, rfl, Om.refl⟩ (by
    rintro i st hi ⟨C2, rfl, hO⟩
    have er : ∀ a b, rd C2 a b = rd M a b := fun a b => by unfold rd; rw [hO.2.2.2.2.1]
    obtain ⟨C3, p1, p2, p3⟩ := tr_frost (z := z) (x1 := x1 + Int32.ofNat i) (Y := Y) h hO hy hm
    have hV := (foN_vr (T := M) (z := z) (s := (x1 + Int32.ofNat i, r0 M)) (r0_vr h) hy Y (by omega)).1
    unfold f_X9_span_b61 f_X2_howMany
    dsimp only
    rw [if_neg (nle hi (by omega)), er, er, h.g, h.w, p1, bsome, k_howManyAsked hV p3.2.1, bsome, bsome, oN_S]
    exact Or.inl ⟨_, rfl, C3, rfl, p2⟩) (by
    rintro st ⟨C2, rfl, hO⟩
    refine ⟨_, ?_, C2, rfl, hO⟩
    unfold f_X9_span_b61
    dsimp only
    rw [if_pos (le_rf _)])
  exact ⟨C', e1, e3⟩
theorem mt_span {x1 z n x6 : Int32} {m Y X : Nat} (h : RR M M q) (hq : TQ M N) (e1 : mi N 196 = mi M 196) (e2 : mi N 197 = mi M 197) (hy : r0 M 363 = Int32.ofNat m) (hm : m + Y < 1000000) (hX : X ≤ 20) (hX1 : 1 ≤ X) : ∃ N', whl fu (f_X10_span_b85 x1 (Int32.ofNat X) z (Int32.ofNat Y) n x6) (-1, 0, 0, 0, N) = some ((spS (spV M x1 z Y (r0 M)) n X).1, (spS (spV M x1 z Y (r0 M)) n X).2.1, (spS (spV M x1 z Y (r0 M)) n X).2.2, N') ∧ Om mrF N N' ∧ (∀ j, j ≠ 42 → mi N' 76 j = mi N 76 j) := by
  have hVV : ∀ i, ∃ m : Nat, m ≤ 60 ∧ spV M x1 z Y (r0 M) i = Int32.ofNat m := fun i => thN_le (foN_vr (T := M) (z := z) (s := (x1 + Int32.ofNat i, r0 M)) (r0_vr h) hy Y (by omega)).1
  obtain ⟨e, g1, N', rfl, g3, g4⟩ := whl_ex (f := f_X10_span_b85 x1 (Int32.ofNat X) z (Int32.ofNat Y) n x6) (fun i st => ∃ C2, st = (if i = 0 then -1 else (spS (spV M x1 z Y (r0 M)) n i).1, (spS (spV M x1 z Y (r0 M)) n i).2.1, (spS (spV M x1 z Y (r0 M)) n i).2.2, Int32.ofNat i, C2) ∧ Om mrF N C2 ∧ (∀ j, j ≠ 42 → mi C2 76 j = mi N 76 j) ∧ ∀ j, 415 ≤ j → mi C2 197 j = mi M 197 j) (fun e => ∃ C2, e = ((spS (spV M x1 z Y (r0 M)) n X).1, (spS (spV M x1 z Y (r0 M)) n X).2.1, (spS (spV M x1 z Y (r0 M)) n X).2.2, C2) ∧ Om mrF N C2 ∧ (∀ j, j ≠ 42 → mi C2 76 j = mi N 76 j)) X fu (-1, 0, 0, 0, N) (by show X < 1000000; omega) ⟨N, rfl, Om.refl, fun _ _ => rfl, fun j _ => by rw [e2]⟩ (by
    rintro i st hi ⟨C2, rfl, hO, h76, h415⟩
    obtain ⟨C3, p1, p2, p3, p4, -⟩ := mt_frosts (N := C2) (z := z) (x1 := x1 + Int32.ofNat i) (Y := Y) h (hq.trans (mrF_tq hO)) ((hO.at (by unfold mrF mrS; omega)).trans e1) h415 hy hm
    have hV := (foN_vr (T := M) (z := z) (s := (x1 + Int32.ofNat i, r0 M)) (r0_vr h) hy Y (by omega)).1
    have hg : ∀ j, 415 ≤ j → mi C3 197 j = mi M 197 j := fun j hj => by
      rw [p4 j (by omega) (by omega), foN_gt (r0_vr h) hy (by omega) Y (by omega)]
      show r0 M j = _
      unfold r0
      rw [upto_ge (by omega)]
    have hv : thN (mi C3 197) = spV M x1 z Y (r0 M) i := thN_al p4 hV.n60
    have h1 : spS (spV M x1 z Y (r0 M)) n (i + 1) = (mmin (spS (spV M x1 z Y (r0 M)) n i).1 (spV M x1 z Y (r0 M) i), mmax (spS (spV M x1 z Y (r0 M)) n i).2.1 (spV M x1 z Y (r0 M) i), (spS (spV M x1 z Y (r0 M)) n i).2.2 + (if n < spV M x1 z Y (r0 M) i then 0 else 1)) := rfl
    obtain ⟨vm, vm1, vm2⟩ := hVV i
    unfold f_X10_span_b85 f_X10_span_j130 f_X10_more f_X10_less
    dsimp only
    rw [if_neg (nle hi (by omega)), p1, bsome, m_thereN LN197 (p4.vr hV), bsome, hv]
    refine Or.inl ⟨_, ?_, C3, rfl, hO.trans p2, fun j hj => (p3 j hj).trans (h76 j hj), hg⟩
    rw [if_neg (show ¬ i + 1 = 0 by omega), h1, ← oN_S]
    by_cases h0 : i = 0
    · subst h0
      rw [if_pos rfl, if_pos rfl, bsome, mmax_more]
      have : mmin (spS (spV M x1 z Y (r0 M)) n 0).1 (spV M x1 z Y (r0 M) 0) = spV M x1 z Y (r0 M) 0 := by
        show mmin 60 _ = _
        rw [← mmin_less, if_pos (by rw [vm2]; exact (oN_le (j := 60) (by omega) (by omega)).mpr vm1)]
      rw [this]
    · obtain ⟨sm, sm1, sm2⟩ := spS_ne (n := n) hVV i
      have : ¬ (spS (spV M x1 z Y (r0 M)) n i).1 = -1 := by rw [sm2]; exact fun e => oN_nn (i := sm) (by omega) (by rw [e]; decide)
      rw [if_neg h0, if_neg this, bsome, bsome, mmin_less, mmax_more]) (by
    rintro st ⟨C2, rfl, hO, h76, h415⟩
    refine ⟨_, ?_, C2, rfl, hO, h76⟩
    unfold f_X10_span_b85
    dsimp only
    rw [if_pos (le_rf _), if_neg (show ¬ X = 0 by omega)])
  exact ⟨N', g1, g3, g4⟩
end FP
