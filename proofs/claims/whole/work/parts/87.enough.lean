/-! level 3: enough -/
section EN
variable {k : Nat} {M : Mm} {q : Nat → Nat} {w h : Nat} {r r' : Nat → Int32} {C C' T N : Mm}
theorem rw_eq {a : Nat} (hV : VR w h r) (e : ∀ j, j < 415 → r' j = r j) (hW : RW C a r) : RW C a r' := by
  have hR : Rq r r' := fun j h1 _ => e j h1
  have h6 := hV.n60
  obtain ⟨⟨w8, w9, w10, w12, w13, w14, w7⟩, hS, hC⟩ := hW
  refine ⟨⟨by rw [e _ (by omega)]; exact w8, by rw [e _ (by omega)]; exact w9, by rw [e _ (by omega), e _ (by omega)]; exact w10, by rw [e _ (by omega)]; exact w12, by rw [e _ (by omega)]; exact w13, by rw [e _ (by omega)]; exact w14, by rw [rq_lyN hR h6]; exact w7⟩, fun k hk => ?_, fun c hc => ?_⟩
  · rw [hR.n] at hk
    rw [hR.c (by omega), e _ (by omega), e _ (by omega), e _ (by omega)]
    exact hS k hk
  · rw [e _ (by omega), rq_lyIn hR h6]
    exact hC c hc
/-- the row that a trial begins with -/
def r0 (M : Mm) : Nat → Int32 := upto 415 (mi M 196) (mi M 197)
theorem r0_e {j : Nat} (hj : j < 415) : r0 M j = mi M 196 j := upto_lt hj
theorem r0_vr (h : RR M M q) : VR (tw M) (th M) (r0 M) := Rq.vr (r := mi M 196) (fun j h1 _ => r0_e h1) h.wd.1
theorem yb_0 (r : RM k M) (hk : k ≤ 600) : ∃ m : Nat, m ≤ 180000 ∧ r0 M 363 = Int32.ofNat m := by
  obtain ⟨n, -, n2, n3⟩ := r.2.2.2 196 363 (Or.inl ⟨Or.inl rfl, rfl⟩)
  exact ⟨n, by omega, (r0_e (by omega)).trans n3⟩
theorem tr_begin0 (h : RR M M q) : ∃ C', f_X2_begin (q 2) M = some C' ∧ Om (trS q) M C' ∧ CX C' M (q 0) (q 6) (q 7) 19 (r0 M) := by
  obtain ⟨C', e1, e2, e3⟩ := tr_begin h
  exact ⟨C', e1, e2, e3.1, rw_eq h.wd.1 (fun j hj => r0_e hj) e3.2.1, e3.2.2⟩
theorem mt_copy0 (e1 : mi N 196 = mi M 196) (e2 : mi N 197 = mi M 197) : ∃ N', f_X10_copies 196 197 N = some N' ∧ Om mrS N N' ∧ mi N' 197 = r0 M := ⟨_, m_copies LN196 LN197 (by omega), Om.sA (by unfold mrS; omega), by rw [mi_sA, e1, e2]; rfl⟩
def enR (T : Mm) (x : Int32) (r : Nat → Int32) : Nat → (Nat → Int32)
  | 0 => r
  | j + 1 => wnt T (clO T (x, enR T x r j) 9).2
def enF (T : Mm) (x n : Int32) (r : Nat → Int32) : Nat → Option Int32
  | 0 => none
  | j + 1 => (enF T x n r j).elim (if n < thN (clO T (x, enR T x r j) 9).2 then none else some (Int32.ofNat (j + 1))) some
theorem enF_s {x n : Int32} {j : Nat} : enF T x n r (j + 1) = (enF T x n r j).elim (if n < thN (clO T (x, enR T x r j) 9).2 then none else some (Int32.ofNat (j + 1))) some := rfl
theorem enF_n {x n : Int32} {j : Nat} (h0 : enF T x n r j = none) : enF T x n r (j + 1) = if n < thN (clO T (x, enR T x r j) 9).2 then none else some (Int32.ofNat (j + 1)) := by rw [enF_s, h0, Option.elim_none]
theorem enR_vr {x : Int32} {m : Nat} (hV : VR (tw T) (th T) r) (hy : r 363 = Int32.ofNat m) : ∀ j, m + j < 9000000 → VR (tw T) (th T) (enR T x r j) ∧ enR T x r j 363 = Int32.ofNat (m + j) := by
  intro j
  induction j with
  | zero => exact fun _ => ⟨hV, hy⟩
  | succ j ih =>
    intro hj
    obtain ⟨a, b⟩ := ih (by omega)
    have c := clO_vr (T := T) (s := (x, enR T x r j)) a 9
    have d : (clO T (x, enR T x r j) 9).2 363 = Int32.ofNat (m + j) := (clO_gt (T := T) (s := (x, enR T x r j)) a (by omega) 9).trans b
    exact ⟨wnt_vr c d (by omega), by
      show wnt T _ 363 = _
      rw [wnt_gt (by omega), yrR_k, d, oN_S]
      rfl⟩
theorem enF_up {x n : Int32} {v : Int32} {j : Nat} (hj : enF T x n r j = some v) : ∀ d, enF T x n r (j + d) = some v := by
  intro d
  induction d with
  | zero => exact hj
  | succ d ih =>
    rw [show j + (d + 1) = j + d + 1 from rfl, enF_s, ih, Option.elim_some]
theorem tr_enough {x n : Int32} {m : Nat} {Y : Nat} (hY : Y = 30) (h : RR M M q) (hy : r0 M 363 = Int32.ofNat m) (hm : m < 1000000) : ∃ C', f_X2_yearOfEnough (q 0) (q 2) x n M = some ((enF M x n (r0 M) Y).getD (-1), C') ∧ Om (trS q) M C' := by
  have hV := r0_vr h
  obtain ⟨C1, b1, b2, b3⟩ := tr_begin0 h
  obtain ⟨e, e1, C', e2, e3⟩ := whl_ex (f := f_X2_yearOfEnough_b8 (q 0) x n) (fun j st => ∃ C2, st = (Int32.ofNat (j + 1), C2) ∧ Om (trS q) M C2 ∧ CX C2 M (q 0) (q 6) (q 7) 19 (enR M x (r0 M) j) ∧ enF M x n (r0 M) j = none) (fun e => ∃ C', Om (trS q) M C' ∧ ((∃ v, enF M x n (r0 M) Y = some v ∧ e = Sum.inl (v, C')) ∨ (enF M x n (r0 M) Y = none ∧ e = Sum.inr C'))) Y fu (1, C1) (by show Y < 1000000; omega) ⟨C1, rfl, b2, b3, rfl⟩ (by
    rintro j st hj ⟨C2, rfl, hO, hX, hF⟩
    obtain ⟨v1, v2⟩ := enR_vr (x := x) hV hy j (by omega)
    obtain ⟨C3, p1, p2, p3⟩ := tr_spend (x := x) h.1 hX v1
    have v3 := clO_vr (T := M) (s := (x, enR M x (r0 M) j)) v1 9
    have v4 : (clO M (x, enR M x (r0 M) j) 9).2 363 = Int32.ofNat (m + j) := (clO_gt (T := M) (s := (x, enR M x (r0 M) j)) v1 (by omega) 9).trans v2
    have hF1 : enF M x n (r0 M) (j + 1) = if n < thN (clO M (x, enR M x (r0 M) j) 9).2 then none else some (Int32.ofNat (j + 1)) := enF_n hF
    unfold f_X2_yearOfEnough_b8
    dsimp only
    rw [if_neg (show ¬ (30 : Int32) < Int32.ofNat (j + 1) from fun z => lnle z ((oN_le (i := j + 1) (j := 30) (by omega) (by omega)).mpr (by omega))), p1, bsome, k_howManyAsked v3 p3.2.1, bsome]
    by_cases hn : n < thN (clO M (x, enR M x (r0 M) j) 9).2
    · obtain ⟨C4, q1, q2, q3⟩ := tr_raise h.1 p3 v3 v4 (by omega)
      rw [if_pos hn] at hF1
      rw [if_pos hn, q1, bsome, oN_S]
      exact Or.inl ⟨_, rfl, C4, rfl, (hO.trans p2).trans q2, q3, hF1⟩
    · rw [if_neg hn] at hF1
      rw [if_neg hn]
      refine Or.inr ⟨_, rfl, C3, hO.trans p2, Or.inl ⟨_, ?_, rfl⟩⟩
      have := enF_up hF1 (Y - (j + 1))
      rw [show j + 1 + (Y - (j + 1)) = Y by omega] at this
      exact this) (by
    rintro st ⟨C2, rfl, hO, hX, hF⟩
    refine ⟨_, ?_, C2, hO, Or.inr ⟨hF, rfl⟩⟩
    unfold f_X2_yearOfEnough_b8
    dsimp only
    rw [if_pos (show (30 : Int32) < Int32.ofNat (Y + 1) by rw [hY]; decide)])
  unfold f_X2_yearOfEnough
  rw [b1, bsome, show whl fu (f_X2_yearOfEnough_b8 (q 0) x n) (1, C1) = some e from e1, bsome]
  rcases e3 with ⟨v, f1, rfl⟩ | ⟨f1, rfl⟩
  · exact ⟨C', by rw [f1]; rfl, e2⟩
  · exact ⟨C', by rw [f1]; rfl, e2⟩
theorem mt_enough {N0 : Mm} {x n : Int32} {m : Nat} {Y : Nat} (hY : Y = 30) (h : RR M M q) (hq : TQ M N) (e1 : mi N 196 = mi M 196) (e2 : mi N 197 = mi M 197) (hy : r0 M 363 = Int32.ofNat m) (hm : m < 1000000) (hN : N = sI N0 76 0 0) : ∃ N', f_X10_enough_j32 x n 0 N = some ((enF M x n (r0 M) Y).getD (-1), N') ∧ Om mrS N N' := by
  have hV := r0_vr h
  obtain ⟨N1, b1, b2, b3⟩ := mt_copy0 e1 e2
  obtain ⟨e, g1, N', g2, g3⟩ := whl_ex (f := f_X10_enough_b55 x n) (fun j st => ∃ C2, st = (Int32.ofNat (j + 1), C2) ∧ Om mrS N C2 ∧ AL (enR M x (r0 M) j) (mi C2 197) ∧ enF M x n (r0 M) j = none) (fun e => ∃ C', Om mrS N C' ∧ ((∃ v, enF M x n (r0 M) Y = some v ∧ e = Sum.inl (v, C')) ∨ (enF M x n (r0 M) Y = none ∧ e = Sum.inr C'))) Y fu (1, N1) (by show Y < 1000000; omega) ⟨N1, rfl, b2, by rw [b3]; exact AL.refl, rfl⟩ (by
    rintro j st hj ⟨C2, rfl, hO, hA, hF⟩
    obtain ⟨v1, v2⟩ := enR_vr (x := x) hV hy j (by omega)
    obtain ⟨C3, p1, p2, p3, -⟩ := mt_clears (x := x) (hq.trans (mrS_tq hO)) hA v1
    have v3 := clO_vr (T := M) (s := (x, enR M x (r0 M) j)) v1 9
    have v4 : (clO M (x, enR M x (r0 M) j) 9).2 363 = Int32.ofNat (m + j) := (clO_gt (T := M) (s := (x, enR M x (r0 M) j)) v1 (by omega) 9).trans v2
    have hF1 : enF M x n (r0 M) (j + 1) = if n < thN (clO M (x, enR M x (r0 M) j) 9).2 then none else some (Int32.ofNat (j + 1)) := enF_n hF
    have hO3 := hO.trans p2
    unfold f_X10_enough_b55
    dsimp only
    rw [if_neg (show ¬ (30 : Int32) < Int32.ofNat (j + 1) from fun z => lnle z ((oN_le (i := j + 1) (j := 30) (by omega) (by omega)).mpr (by omega))), p1, bsome, m_thereN LN197 (p3.vr v3), bsome, thN_al p3 v3.n60]
    by_cases hn : n < thN (clO M (x, enR M x (r0 M) j) 9).2
    · obtain ⟨C4, q1, q2, q3, -⟩ := mt_winters (C := M) h.gd.1 h.lh h.lr (hq.trans (mrS_tq hO3)) p3 v3 v4 (by omega)
      rw [if_pos hn] at hF1
      rw [if_pos hn, q1, bsome, oN_S]
      exact Or.inl ⟨_, rfl, C4, rfl, hO3.trans q2, q3, hF1⟩
    · rw [if_neg hn] at hF1
      rw [if_neg hn]
      refine Or.inr ⟨_, rfl, C3, hO3, Or.inl ⟨_, ?_, rfl⟩⟩
      have := enF_up hF1 (Y - (j + 1))
      rw [show j + 1 + (Y - (j + 1)) = Y by omega] at this
      exact this) (by
    rintro st ⟨C2, rfl, hO, hX, hF⟩
    refine ⟨_, ?_, C2, hO, Or.inr ⟨hF, rfl⟩⟩
    unfold f_X10_enough_b55
    dsimp only
    rw [if_pos (show (30 : Int32) < Int32.ofNat (Y + 1) by rw [hY]; decide)])
  unfold f_X10_enough_j32
  rw [hN, m_fine, bsome, ← hN]
  dsimp only
  rw [if_pos z00, b1, bsome, show whl fu (f_X10_enough_b55 x n) (1, N1) = some e from g1, bsome]
  rcases g3 with ⟨v, f1, rfl⟩ | ⟨f1, rfl⟩
  · exact ⟨N', by rw [f1]; rfl, g2⟩
  · exact ⟨N', by rw [f1]; rfl, g2⟩
theorem k_isLimit {x : Int32} {C : Mm} : f_X9_isLimit x C = some (if (0 : Int32) ≤ x ∧ x ≤ 60 then 1 else 0) := by
  unfold f_X9_isLimit g_X9_isLimit
  rw [arg2]
  by_cases hx : (0 : Int32) ≤ x ∧ x ≤ 60
  · rw [if_pos hx, if_pos hx]; rfl
  · rw [if_neg hx, if_neg hx]; rfl
theorem G_enough (hI : INV k M) (hk : k ≤ 600) : ∀ x1 x2 : Int32, GdI k (f_X9_enough x1 x2 M) (f_X10_enough x1 x2) 0 0 1 := by
  obtain ⟨⟨q, h⟩, r⟩ := id hI
  intro x y
  obtain ⟨m, m1, m2⟩ := yb_0 r hk
  have harg : f_X9_enough x y M = if ((0 : Int32) ≤ x ∧ x ≤ 9999) ∧ ((0 : Int32) ≤ y ∧ y ≤ 60) then f_X9_enough_j24 x y 1 M else f_X9_enough_j24 x y 0 M := by
    unfold f_X9_enough
    rw [arg2, k_isLimit, bsome]
    by_cases hx : (0 : Int32) ≤ x ∧ x ≤ 9999
    · rw [if_pos hx]
      by_cases hy : (0 : Int32) ≤ y ∧ y ≤ 60
      · rw [if_pos hy, if_neg z10, if_pos ⟨hx, hy⟩]
      · rw [if_neg hy, if_pos z00, if_neg (fun p => hy p.2)]; rfl
    · rw [if_neg hx, if_neg (fun p => hx p.1)]; rfl
  rw [harg]
  by_cases hc : ((0 : Int32) ≤ x ∧ x ≤ 9999) ∧ ((0 : Int32) ≤ y ∧ y ≤ 60)
  · rw [if_pos hc]
    obtain ⟨C', p1, p2⟩ := tr_enough (x := x) (n := y) (Y := 30) rfl h m2 (by omega)
    have hq0 : TQ M C' := p2.l.tq (fun a ha => (trS_fr h.1 ha).2)
    generalize hv : (enF M x y (r0 M) 30).getD (-1) = v at p1
    have no : ∀ a, 76 ≤ a → ¬ trS q a := fun a ha hs => by
      have := ids_n h.1
      unfold trS at hs
      omega
    obtain ⟨N', n1, n2⟩ := mt_enough (N := nQ C' v.toInt64) (x := x) (n := y) (Y := 30) rfl h (hq0.trans TQ.nQ) ((nQ_o (by omega)).trans (p2.at (no _ (by omega)))) ((nQ_o (by omega)).trans (p2.at (no _ (by omega)))) m2 (by omega) nQ_def.symm
    rw [hv] at n1
    refine gd_o (S := trS q) (S' := mrS) h r p2 n2 (fun a ha => trS_fr h.1 ha) (fun a ha => mrS_fr h.1 ha) (v := v) ?_ ?_
    · unfold f_X9_enough_j24
      rw [needA1, bsome]
      dsimp only
      rw [h.g, h.w, p1, bsome]
    · unfold f_X10_enough
      rw [m_in, bsome, if_pos hc.1, if_neg z10, m_in, bsome, if_pos hc.2, if_neg z10, nQ_def]
      exact n1
  · rw [if_neg hc]
    unfold f_X9_enough_j24
    rw [needA0, bsome]
    refine gd_r2 (b := 0) hI (by decide) rfl ?_
    unfold f_X10_enough
    rw [m_in, bsome]
    by_cases hx : (0 : Int32) ≤ x ∧ x ≤ 9999
    · have hy : ¬ ((0 : Int32) ≤ y ∧ y ≤ 60) := fun p => hc ⟨hx, p⟩
      rw [if_pos hx, if_neg z10, m_in, bsome, if_neg hy, if_pos z00]
      unfold f_X10_enough_j27 f_X10_enough_j32
      rw [m_r2 1 (by decide), bsome]
      rfl
    · rw [if_neg hx, if_pos z00]
      unfold f_X10_enough_j27 f_X10_enough_j32
      rw [m_r2 1 (by decide), bsome]
      rfl
end EN
