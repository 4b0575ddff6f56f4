/-! level 3: stops -/
section SX
variable {k : Nat} {M : Mm} {q : Nat → Nat}
theorem pred_i : ∀ t : Nat, t < 7 → 1 ≤ t → Int32.ofNat t - 1 = Int32.ofNat (t - 1) := by decide +kernel
theorem in_row {x : Int32} {t : Nat} (h1 : 1 ≤ t) (h2 : t < 7) : ((0 : Int32) ≤ x ∧ x ≤ Int32.ofNat t - 1) ↔ ∃ n : Nat, n < t ∧ x = Int32.ofNat n := by
  rw [pred_i t h2 h1]
  constructor
  · intro p
    obtain ⟨n, -, n2, n3⟩ := (in_nat (lo := 0) (hi := t - 1) (by omega) (by omega)).mp p
    exact ⟨n, by omega, n3⟩
  · rintro ⟨n, n1, n2⟩
    exact (in_nat (lo := 0) (hi := t - 1) (by omega) (by omega)).mpr ⟨n, by omega, by omega, n2⟩
theorem arg2' {α : Type} {A B : α} {x : Int32} {t : Nat} (h1 : 1 ≤ t) (h2 : t < 7) : (if x < 0 then A else if Int32.ofNat t ≤ x then A else B) = if (0 : Int32) ≤ x ∧ x ≤ Int32.ofNat t - 1 then B else A := by
  by_cases hx : (0 : Int32) ≤ x ∧ x ≤ Int32.ofNat t - 1
  · obtain ⟨n, n1, n2⟩ := (in_row h1 h2).mp hx
    rw [if_pos hx, if_neg (Int32.not_lt.mpr hx.1), if_neg (by rw [n2]; exact nle n1 (by omega))]
  · rw [if_neg hx]
    by_cases h0 : x < 0
    · rw [if_pos h0]
    · rw [if_neg h0]
      by_cases h3 : Int32.ofNat t ≤ x
      · rw [if_pos h3]
      · refine absurd ⟨nlt h0, ?_⟩ hx
        obtain ⟨n, -, n2, n3⟩ := (in_nat (x := x) (lo := 0) (hi := t) (by omega) (by omega)).mp ⟨nlt h0, Int32.le_of_lt (nle' h3)⟩
        rw [pred_i t h2 h1, n3]
        refine (oN_le (by omega) (by omega)).mpr ?_
        have : ¬ t ≤ n := fun z => h3 (by rw [n3]; exact (oN_le (by omega) (by omega)).mpr z)
        omega
theorem TQ.lt {N N' : Mm} (h : TQ N N') {r : Nat → Int32} {y i : Nat} : Lt N' r y i ↔ Lt N r y i := by unfold Lt; rw [h.1]
theorem an_s {P : Nat → Prop} [DecidablePred P] {n : Nat} : anN P (n + 1) = if P n then 1 else anN P n := rfl
theorem an_z {P : Nat → Prop} [DecidablePred P] : anN P 0 = 0 := rfl
theorem TQ.an {N N' : Mm} (h : TQ N N') {r : Nat → Int32} {y : Nat} : ∀ n, anN (Lt N' r y) n = anN (Lt N r y) n := by
  intro n
  induction n with
  | zero => rw [an_z, an_z]
  | succ n ih =>
    rw [an_s, an_s, ih]
    by_cases hL : Lt N r y n
    · rw [if_pos hL, if_pos (h.lt.mpr hL)]
    · rw [if_neg hL, if_neg (fun z => hL (h.lt.mp z))]
theorem TQ.so {N N' : Mm} (h : TQ N N') {r : Nat → Int32} {y m : Nat} : soV N' r y m = soV N r y m := by
  unfold soV
  rw [sm_congr (g := fun i => if Lt N r y i then ((2 : Int32) * mi N 80 5) * nrM m (rC r i % 8) 8 else 0) (fun i _ => by
    by_cases hL : Lt N r y i
    · rw [if_pos hL, if_pos (h.lt.mpr hL), h.1]
    · rw [if_neg hL, if_neg (fun z => hL (h.lt.mp z))]), h.1]
theorem TQ.st {N N' : Mm} (h : TQ N N') {r : Nat → Int32} {y : Nat} : ∀ n, stT N' r y n = stT N r y n := by
  intro n
  induction n with
  | zero => rfl
  | succ n ih =>
    unfold stT
    rw [ih, h.so]
theorem sr_s {T : Mm} {r : Nat → Int32} {y n : Nat} : stR T r y (n + 1) = if anN (Lt T r y) (rN r) = 0 then (0, 0) else if (stT T r y n).2 = 0 then (-1, 0) else (Int32.ofNat (stT T r y n).2, (stT T r y n).1) := rfl
theorem TQ.sr {N N' : Mm} (h : TQ N N') {r : Nat → Int32} {y : Nat} : ∀ n, stR N' r y n = stR N r y n := by
  intro n
  cases n with
  | zero => rfl
  | succ n =>
    rw [sr_s, sr_s, h.an, h.st]
theorem TQ.ew {N N' : Mm} (h : TQ N N') : tw N' = tw N := by unfold tw; rw [h.1]
theorem st_nz {T : Mm} {r : Nat → Int32} {y : Nat} : ∀ n, ¬ (stT T r y (n + 1)).2 = 0 := by
  intro n
  by_cases hs : ((stT T r y n).2 = 0 ∨ soV T r y (n + 1) < (stT T r y n).1 ∨ (soV T r y (n + 1) = (stT T r y n).1 ∧ onesV (n + 1) < onesV (stT T r y n).2))
  · rw [show stT T r y (n + 1) = (soV T r y (n + 1), n + 1) from if_pos hs]
    exact Nat.succ_ne_zero n
  · rw [show stT T r y (n + 1) = stT T r y n from if_neg hs]
    exact fun z => hs (Or.inl z)
theorem sr_st {T : Mm} {r : Nat → Int32} {y w : Nat} (hw : 1 ≤ w) : stR T r y (2 ^ w) = (Int32.ofNat (if anN (Lt T r y) (rN r) = 0 then ((0 : Int32), 0) else stT T r y (2 ^ w - 1)).2, (if anN (Lt T r y) (rN r) = 0 then ((0 : Int32), 0) else stT T r y (2 ^ w - 1)).1) := by
  have h2 : 2 ^ 1 ≤ 2 ^ w := Nat.pow_le_pow_right (by decide) hw
  obtain ⟨m, hm⟩ : ∃ m, 2 ^ w = m + 1 + 1 := ⟨2 ^ w - 2, by omega⟩
  rw [hm, show m + 1 + 1 - 1 = m + 1 by omega]
  by_cases h0 : anN (Lt T r y) (rN r) = 0
  · rw [show stR T r y (m + 1 + 1) = (0, 0) from if_pos h0, if_pos h0]
    rfl
  · rw [show stR T r y (m + 1 + 1) = _ from if_neg h0, if_neg (st_nz m), if_neg h0]
theorem G_stops (hI : INV k M) : ∀ x1 x2 : Int32, GdI k (f_X9_stops x1 x2 M) (f_X10_stops x1 x2) 0 0 1 := by
  obtain ⟨⟨q, h⟩, r⟩ := id hI
  intro y x
  have ht1 := h.gd.1.2.1.1
  have ht6 := h.gd.1.2.1.2.1
  have eth := h.gd.1.2.1.2.2
  have harg : f_X9_stops y x M = if ((0 : Int32) ≤ y ∧ y ≤ Int32.ofNat (th M) - 1) ∧ ((0 : Int32) ≤ x ∧ x ≤ 2) then f_X9_stops_j30 y x 1 M else f_X9_stops_j30 y x 0 M := by
    unfold f_X9_stops
    rw [h.g, h.gd.2.1.2.1, eth, arg2' ht1 (by omega), arg2]
    by_cases hy : (0 : Int32) ≤ y ∧ y ≤ Int32.ofNat (th M) - 1
    · rw [if_pos hy]
      by_cases hx : (0 : Int32) ≤ x ∧ x ≤ 2
      · rw [if_pos hx, if_pos ⟨hy, hx⟩]
      · rw [if_neg hx, if_neg (fun p => hx p.2)]; rfl
    · rw [if_neg hy, if_neg (fun p => hy p.1)]; rfl
  rw [harg]
  have a1 : ∀ (N : Mm) v, mi N 80 = mi M 80 → ai (sI N 76 0 v) 80 10 1 = some (Int32.ofNat (th M)) := fun N v e => by
    rw [show ai (sI N 76 0 v) 80 10 1 = some (mi (sI N 76 0 v) 80 1) from ai_o (i := 1) (by omega) (by omega), mi_sI_ne (by omega), e, eth]
  by_cases hc : ((0 : Int32) ≤ y ∧ y ≤ Int32.ofNat (th M) - 1) ∧ ((0 : Int32) ≤ x ∧ x ≤ 2)
  · rw [if_pos hc]
    obtain ⟨n, n1, rfl⟩ := (in_row ht1 (by omega)).mp hc.1
    obtain ⟨z, -, z2, rfl⟩ := (in_nat (lo := 0) (hi := 2) (by omega) (by omega)).mp hc.2
    have hg : 14 < q 0 := by have := h.1.2.2.1; omega
    have hw : 14 < q 2 := by have := h.1.2.2.2.1; omega
    obtain ⟨C', p1, p2, p3⟩ := k_planStops (y := n) h.gd h.wd.1 h.wd.2.1 hg hw (by omega)
    generalize hs : (if anN (Lt M (mi M 196) n) (rN (mi M 196)) = 0 then (0, 0) else stT M (mi M 196) n (2 ^ tw M - 1)) = s at p3
    have s1 : ∀ a, (a = 14 ∨ a = 13) → frC q a ∧ frT a := fun a ha => frC_of h.1 (by omega)
    have h' : RR C' C' q := h.oml p2 p2 (fun a ha => (s1 a ha).1) (fun a ha => (s1 a ha).2)
    have hq0 : TQ M C' := p2.tq (fun a ha => (s1 a ha).2)
    have e196 : mi C' 196 = mi M 196 := p2.at (by omega)
    unfold f_X9_stops_j30
    rw [needA1, bsome]
    dsimp only
    rw [h.g, h.w, p1, bsome]
    have hm : ∀ v : Int64, f_X10_stops (Int32.ofNat n) (Int32.ofNat z) (sL C' 275 0 v) = some (if z = 0 then s.1 else if z = 1 then onesV s.2 else Int32.ofNat s.2, nQ C' v) := fun v => by
      have hqv : TQ M (nQ C' v) := hq0.trans TQ.nQ
      have e1 : mi (nQ C' v) 196 = mi M 196 := (nQ_o (by omega)).trans e196
      have hV1 := vr_nQ (v := v) h'
      have hT1 : RGt (nQ C' v) := RGt_of (nQ_o (by omega)) h'.gd.1
      have l1 := m_stopsL (y := n) (x2 := Int32.ofNat z) hT1 hV1 (by omega)
      rw [e1, hqv.sr, hqv.ew, sr_st h.gd.1.1.1, hs] at l1
      unfold f_X10_stops
      rw [a1 (sL C' 275 0 v) 0 hq0.1, bsome, m_in, bsome, if_pos hc.1, if_neg z10, m_in, bsome, if_pos hc.2, if_neg z10]
      unfold f_X10_stops_j36
      rw [m_fine, bsome]
      dsimp only
      rw [if_pos z00, nQ_def, l1, bsome]
      dsimp only
      by_cases h0 : z = 0
      · rw [if_pos h0, h0, if_pos (show Int32.ofNat 0 = 0 from rfl)]
      · rw [if_neg h0, if_neg (show ¬ Int32.ofNat z = 0 from fun e => h0 ((oN_eq (i := z) (j := 0) (by omega) (by omega)).mp e))]
        by_cases h1 : z = 1
        · rw [if_pos h1, h1, if_pos (show Int32.ofNat 1 = 1 from rfl), m_ones, bsome]
        · rw [if_neg h1, if_neg (show ¬ Int32.ofNat z = 1 from fun e => h1 ((oN_eq (i := z) (j := 1) (by omega) (by omega)).mp e))]
    have fin : ∀ v : Int32, ml C' 13 z = v.toInt64 → (if z = 0 then s.1 else if z = 1 then onesV s.2 else Int32.ofNat s.2) = v → GdI k ((f_X0_answerTo (Int32.ofNat z) C').bind fun v14 => some (.inr v14.toInt32, C')) (f_X10_stops (Int32.ofNat n) (Int32.ofNat z)) 0 0 1 := fun v e1 e2 => by
      rw [show f_X0_answerTo (Int32.ofNat z) C' = some (ml C' 13 z) from k_answer (i := z) (by omega), bsome, e1, Int32.toInt32_toInt64]
      have n1 := hm v.toInt64
      rw [e2] at n1
      exact gd_ml (S' := fun _ => False) h r p2 Oml.refl s1 (fun a ha => ha.elim) (fun ha => ha) rfl n1
    have z3 : z = 0 ∨ z = 1 ∨ z = 2 := by omega
    rcases z3 with rfl | rfl | rfl
    · exact fin _ p3.1 rfl
    · exact fin _ p3.2.1 rfl
    · exact fin _ p3.2.2 rfl
  · rw [if_neg hc]
    unfold f_X9_stops_j30
    rw [needA0, bsome]
    refine gd_r2 (b := 0) hI (by decide) rfl ?_
    unfold f_X10_stops
    rw [a1 (eRef M 2) 0 (by unfold eRef; rw [mi_sX, mi_sI_ne (by omega)]), bsome, m_in, bsome]
    by_cases hy : (0 : Int32) ≤ y ∧ y ≤ Int32.ofNat (th M) - 1
    · have hx : ¬ ((0 : Int32) ≤ x ∧ x ≤ 2) := fun p => hc ⟨hy, p⟩
      rw [if_pos hy, if_neg z10, m_in, bsome, if_neg hx, if_pos z00]
      unfold f_X10_stops_j31 f_X10_stops_j36
      rw [m_r2 1 (by decide), bsome]
      rfl
    · rw [if_neg hy, if_pos z00]
      unfold f_X10_stops_j31 f_X10_stops_j36
      rw [m_r2 1 (by decide), bsome]
      rfl
end SX
