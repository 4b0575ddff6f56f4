/-! level 3: left -/
section LE
variable {k : Nat} {M : Mm} {q : Nat → Nat} {w h : Nat} {r r' : Nat → Int32} {C C' T N : Mm}
def lfR (T : Mm) (x : Int32) (r : Nat → Int32) : Nat → (Nat → Int32)
  | 0 => (clO T (x, r) 9).2
  | j + 1 => (clO T (x, wnt T (lfR T x r j)) 9).2
theorem lfR_vr {x : Int32} {m : Nat} (hV : VR (tw T) (th T) r) (hy : r 363 = Int32.ofNat m) : ∀ j, m + j < 9000000 → VR (tw T) (th T) (lfR T x r j) ∧ lfR T x r j 363 = Int32.ofNat (m + j) := by
  intro j
  induction j with
  | zero => exact fun _ => ⟨clO_vr (T := T) (s := (x, r)) hV 9, (clO_gt (T := T) (s := (x, r)) hV (by omega) 9).trans hy⟩
  | succ j ih =>
    intro hj
    obtain ⟨a, b⟩ := ih (by omega)
    have c := wnt_vr a b (by omega)
    have d : wnt T (lfR T x r j) 363 = Int32.ofNat (m + (j + 1)) := by
      rw [wnt_gt (by omega), yrR_k, b, oN_S]
      rfl
    exact ⟨clO_vr (T := T) (s := (x, wnt T (lfR T x r j))) c 9, (clO_gt (T := T) (s := (x, wnt T (lfR T x r j))) c (by omega) 9).trans d⟩
theorem tr_left {x : Int32} {m Y : Nat} (h1 : Y + 1 ≤ 30) (h : RR M M q) (hy : r0 M 363 = Int32.ofNat m) (hm : m < 1000000) : ∃ C', f_X2_leftBehind (q 0) (q 2) x (Int32.ofNat (Y + 1)) M = some (thN (lfR M x (r0 M) Y), C') ∧ Om (trS q) M C' := by
  have hV := r0_vr h
  obtain ⟨C1, b1, b2, b3⟩ := tr_begin0 h
  obtain ⟨C2, p1, p2, p3⟩ := tr_spend (x := x) h.1 b3 hV
  obtain ⟨C', e1, e2, e3⟩ := whl_ex (f := f_X2_leftBehind_b14 (q 0) x (Int32.ofNat (Y + 1))) (fun j st => ∃ C2, st = (Int32.ofNat (j + 2), C2) ∧ Om (trS q) M C2 ∧ CX C2 M (q 0) (q 6) (q 7) 19 (lfR M x (r0 M) j)) (fun C' => Om (trS q) M C' ∧ CX C' M (q 0) (q 6) (q 7) 19 (lfR M x (r0 M) Y)) Y fu (2, C2) (by show Y < 1000000; omega) ⟨C2, rfl, b2.trans p2, p3⟩ (by
    rintro j st hj ⟨C2, rfl, hO, hX⟩
    obtain ⟨v1, v2⟩ := lfR_vr (x := x) hV hy j (by omega)
    obtain ⟨C3, q1, q2, q3⟩ := tr_raise h.1 hX v1 v2 (by omega)
    obtain ⟨C4, t1, t2, t3⟩ := tr_spend (x := x) h.1 q3 (wnt_vr v1 v2 (by omega))
    unfold f_X2_leftBehind_b14
    dsimp only
    rw [if_neg (show ¬ Int32.ofNat (Y + 1) < Int32.ofNat (j + 2) from fun z => lnle z ((oN_le (by omega) (by omega)).mpr (by omega))), if_neg (show ¬ (30 : Int32) < Int32.ofNat (j + 2) from fun z => lnle z ((oN_le (i := j + 2) (j := 30) (by omega) (by omega)).mpr (by omega))), q1, bsome, t1, bsome, oN_S]
    exact Or.inl ⟨_, rfl, C4, rfl, (hO.trans q2).trans t2, t3⟩) (by
    rintro st ⟨C2, rfl, hO, hX⟩
    refine ⟨C2, ?_, hO, hX⟩
    unfold f_X2_leftBehind_b14
    dsimp only
    rw [if_pos (show Int32.ofNat (Y + 1) < Int32.ofNat (Y + 2) from (oN_lt (by omega) (by omega)).mpr (by omega))])
  unfold f_X2_leftBehind
  rw [b1, bsome, p1, bsome, show whl fu (f_X2_leftBehind_b14 (q 0) x (Int32.ofNat (Y + 1))) (2, C2) = some C' from e1, bsome, k_howManyAsked (lfR_vr (x := x) hV hy Y (by omega)).1 e3.2.1]
  exact ⟨C', rfl, e2⟩
theorem mt_left {N0 : Mm} {x : Int32} {m Y : Nat} (h1 : Y + 1 ≤ 30) (h : RR M M q) (hq : TQ M N) (e1 : mi N 196 = mi M 196) (e2 : mi N 197 = mi M 197) (hy : r0 M 363 = Int32.ofNat m) (hm : m < 1000000) (hN : N = sI N0 76 0 0) : ∃ N', f_X10_left_j32 x (Int32.ofNat (Y + 1)) 0 N = some (thN (lfR M x (r0 M) Y), N') ∧ Om mrS N N' := by
  have hV := r0_vr h
  obtain ⟨N1, b1, b2, b3⟩ := mt_copy0 e1 e2
  obtain ⟨N', g1, g2, g3⟩ := whl_ex (f := f_X10_left_b55 x (Int32.ofNat (Y + 1))) (fun j st => ∃ C2, st = (Int32.ofNat (j + 1), C2) ∧ Om mrS N C2 ∧ ((j = 0 ∧ AL (r0 M) (mi C2 197)) ∨ ∃ i, j = i + 1 ∧ AL (lfR M x (r0 M) i) (mi C2 197))) (fun N' => Om mrS N N' ∧ AL (lfR M x (r0 M) Y) (mi N' 197)) (Y + 1) fu (1, N1) (by show Y + 1 < 1000000; omega) ⟨N1, rfl, b2, Or.inl ⟨rfl, by rw [b3]; exact AL.refl⟩⟩ (by
    rintro j st hj ⟨C2, rfl, hO, hA⟩
    unfold f_X10_left_b55
    dsimp only
    rw [if_neg (show ¬ Int32.ofNat (Y + 1) < Int32.ofNat (j + 1) from fun z => lnle z ((oN_le (by omega) (by omega)).mpr (by omega)))]
    rcases hA with ⟨rfl, hA⟩ | ⟨i, rfl, hA⟩
    · obtain ⟨C3, p1, p2, p3, -⟩ := mt_clears (x := x) (hq.trans (mrS_tq hO)) hA hV
      rw [if_pos (show Int32.ofNat (0 + 1) ≤ (1 : Int32) by decide), p1, bsome, oN_S]
      exact Or.inl ⟨_, rfl, C3, rfl, hO.trans p2, Or.inr ⟨0, rfl, p3⟩⟩
    · obtain ⟨v1, v2⟩ := lfR_vr (x := x) hV hy i (by omega)
      obtain ⟨C4, q1, q2, q3, -⟩ := mt_winters (C := M) h.gd.1 h.lh h.lr (hq.trans (mrS_tq hO)) hA v1 v2 (by omega)
      obtain ⟨C3, p1, p2, p3, -⟩ := mt_clears (x := x) (hq.trans (mrS_tq (hO.trans q2))) q3 (wnt_vr v1 v2 (by omega))
      rw [if_neg (show ¬ Int32.ofNat (i + 1 + 1) ≤ (1 : Int32) from nle (n := i + 1 + 1) (i := 1) (by omega) (by omega)), q1, bsome, p1, bsome, oN_S]
      exact Or.inl ⟨_, rfl, C3, rfl, (hO.trans q2).trans p2, Or.inr ⟨i + 1, rfl, p3⟩⟩) (by
    rintro st ⟨C2, rfl, hO, hA⟩
    refine ⟨C2, ?_, hO, ?_⟩
    · unfold f_X10_left_b55
      dsimp only
      rw [if_pos (show Int32.ofNat (Y + 1) < Int32.ofNat (Y + 1 + 1) from (oN_lt (by omega) (by omega)).mpr (by omega))]
    · rcases hA with ⟨z, -⟩ | ⟨i, z, hA⟩
      · omega
      · have : i = Y := by omega
        rw [← this]
        exact hA)
  unfold f_X10_left_j32
  rw [hN, m_fine, bsome, ← hN]
  dsimp only
  have v := (lfR_vr (x := x) hV hy Y (by omega)).1
  rw [if_pos z00, b1, bsome, show whl fu (f_X10_left_b55 x (Int32.ofNat (Y + 1))) (1, N1) = some N' from g1, bsome, m_thereN LN197 (g3.vr v), bsome, thN_al g3 v.n60]
  exact ⟨N', rfl, g2⟩
theorem G_left (hI : INV k M) (hk : k ≤ 600) : ∀ x1 x2 : Int32, GdI k (f_X9_left x1 x2 M) (f_X10_left x1 x2) 0 0 1 := by
  obtain ⟨⟨q, h⟩, r⟩ := id hI
  intro x y
  obtain ⟨m, m1, m2⟩ := yb_0 r hk
  have harg : f_X9_left x y M = if ((0 : Int32) ≤ x ∧ x ≤ 9999) ∧ ((1 : Int32) ≤ y ∧ y ≤ 30) then f_X9_left_j28 x y 1 M else f_X9_left_j28 x y 0 M := by
    unfold f_X9_left
    rw [arg2, arg2]
    by_cases hx : (0 : Int32) ≤ x ∧ x ≤ 9999
    · rw [if_pos hx]
      by_cases hy : (1 : Int32) ≤ y ∧ y ≤ 30
      · rw [if_pos hy, if_pos ⟨hx, hy⟩]
      · rw [if_neg hy, if_neg (fun p => hy p.2)]; rfl
    · rw [if_neg hx, if_neg (fun p => hx p.1)]; rfl
  rw [harg]
  by_cases hc : ((0 : Int32) ≤ x ∧ x ≤ 9999) ∧ ((1 : Int32) ≤ y ∧ y ≤ 30)
  · rw [if_pos hc]
    obtain ⟨Z, z1, z2, rfl⟩ := (in_nat (lo := 1) (hi := 30) (by omega) (by omega)).mp hc.2
    obtain ⟨Y, rfl⟩ : ∃ Y, Z = Y + 1 := ⟨Z - 1, by omega⟩
    obtain ⟨C', p1, p2⟩ := tr_left (x := x) z2 h m2 (by omega)
    have hq0 : TQ M C' := p2.l.tq (fun a ha => (trS_fr h.1 ha).2)
    have no : ∀ a, 76 ≤ a → ¬ trS q a := fun a ha hs => by
      have := ids_n h.1
      unfold trS at hs
      omega
    obtain ⟨N', n1, n2⟩ := mt_left (N := nQ C' (thN (lfR M x (r0 M) Y)).toInt64) (x := x) z2 h (hq0.trans TQ.nQ) ((nQ_o (by omega)).trans (p2.at (no _ (by omega)))) ((nQ_o (by omega)).trans (p2.at (no _ (by omega)))) m2 (by omega) nQ_def.symm
    refine gd_o (S := trS q) (S' := mrS) h r p2 n2 (fun a ha => trS_fr h.1 ha) (fun a ha => mrS_fr h.1 ha) (v := thN (lfR M x (r0 M) Y)) ?_ ?_
    · unfold f_X9_left_j28
      rw [needA1, bsome]
      dsimp only
      rw [h.g, h.w, p1, bsome]
    · unfold f_X10_left
      rw [m_in, bsome, if_pos hc.1, if_neg z10, m_in, bsome, if_pos hc.2, if_neg z10, nQ_def]
      exact n1
  · rw [if_neg hc]
    unfold f_X9_left_j28
    rw [needA0, bsome]
    refine gd_r2 (b := 0) hI (by decide) rfl ?_
    unfold f_X10_left
    rw [m_in, bsome]
    by_cases hx : (0 : Int32) ≤ x ∧ x ≤ 9999
    · have hy : ¬ ((1 : Int32) ≤ y ∧ y ≤ 30) := fun p => hc ⟨hx, p⟩
      rw [if_pos hx, if_neg z10, m_in, bsome, if_neg hy, if_pos z00]
      unfold f_X10_left_j27 f_X10_left_j32
      rw [m_r2 1 (by decide), bsome]
      rfl
    · rw [if_neg hx, if_pos z00]
      unfold f_X10_left_j27 f_X10_left_j32
      rw [m_r2 1 (by decide), bsome]
      rfl
end LE
