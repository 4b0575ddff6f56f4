/-! level 3: heaps asked of the reference -/
section HS
variable {k : Nat} {M : Mm} {q : Nat → Nat}
theorem m_hp129 {N : Mm} {w h a b : Nat} {y x2 x5 : Int32} {s : Int32 × Int32} {ob : Option Nat} {d : Int32} (hV : VR w h (mi N 196)) (ha : a < 48) (hob : ∀ b, ob = some b → b < 48) (h5 : (if x5 = (1 : Int32) then (-1 : Int32) else Int32.ofNat b) = enc ob) (hd : (if x5 = (1 : Int32) then (Int32.ofNat a + (1 : Int32)) else ((((64 : Int32) * (Int32.ofNat a + (1 : Int32))) + Int32.ofNat b) + (1 : Int32))) = d) : f_X10_heaps_j129 y x2 s.1 s.2 x5 (Int32.ofNat a) (Int32.ofNat b) N = some (.inl ((trH (hbO N (mi N 196) (some a) ob y) d s).1, (trH (hbO N (mi N 196) (some a) ob y) d s).2, Int32.ofNat b + 1)) := by
  unfold f_X10_heaps_j129
  rw [h5, show Int32.ofNat a = enc (some a) from rfl, m_heapsBy hV (fun c e => by cases e; exact ha) hob, bsome]
  rw [show enc (some a) = Int32.ofNat a from rfl, hd]
  unfold trH
  by_cases h1 : hbO N (mi N 196) (some a) ob y < s.1
  · rw [if_pos h1, if_pos h1]
  · rw [if_neg h1, if_neg h1]
theorem m_hpI1 {N : Mm} {w h a : Nat} {y x2 : Int32} {s : Int32 × Int32} (hT : RGt N) (hV : VR w h (mi N 196)) (ha : a < 48) : whl fu (f_X10_heaps_b87 y x2 1 (Int32.ofNat a) N) (s.1, s.2, 47) = some (if kpt N (mi N 196) a then trH (hbO N (mi N 196) (some a) none y) (Int32.ofNat (a + 1)) s else s) := by
  have st : f_X10_heaps_b87 y x2 1 (Int32.ofNat a) N (s.1, s.2, 47) = some (.inl ((if kpt N (mi N 196) a then trH (hbO N (mi N 196) (some a) none y) (Int32.ofNat (a + 1)) s else s).1, (if kpt N (mi N 196) a then trH (hbO N (mi N 196) (some a) none y) (Int32.ofNat (a + 1)) s else s).2, 48)) := by
    unfold f_X10_heaps_b87
    dsimp only
    rw [if_neg (show ¬ (48 : Int32) ≤ 47 by decide), m_isKept hT LN196 ha, bsome]
    by_cases hk : kpt N (mi N 196) a
    · rw [if_pos hk, if_neg z10, if_neg (show ¬ (1 : Int32) = 2 by decide), if_pos hk]
      have := m_hp129 (N := N) (a := a) (b := 47) (y := y) (x2 := x2) (x5 := 1) (s := s) (ob := none) (d := Int32.ofNat (a + 1)) hV ha (fun b e => by cases e) rfl (by rw [if_pos rfl, oN_S])
      exact this
    · rw [if_neg hk, if_pos z00, if_neg hk]
      rfl
  show whl (999998 + 1 + 1) _ _ = _
  rw [whl_s st]
  exact whl_e (by unfold f_X10_heaps_b87; dsimp only; rw [if_pos (by decide)])
theorem m_hpI2 {N : Mm} {w h a : Nat} {y x2 : Int32} {s : Int32 × Int32} (hT : RGt N) (hV : VR w h (mi N 196)) (ha : a < 48) : whl fu (f_X10_heaps_b87 y x2 2 (Int32.ofNat a) N) (s.1, s.2, Int32.ofNat a + 1) = some (if kpt N (mi N 196) a then prI N (mi N 196) y a s 48 else s) := by
  have key : ∀ S : Nat → Int32 × Int32, (∀ b, b ≤ a + 1 → S b = s) → (∀ b, a < b → S (b + 1) = if kpt N (mi N 196) a ∧ kpt N (mi N 196) b then trH (hbO N (mi N 196) (some a) (some b) y) (Int32.ofNat (64 * (a + 1) + b + 1)) (S b) else S b) → whl fu (f_X10_heaps_b87 y x2 2 (Int32.ofNat a) N) (s.1, s.2, Int32.ofNat a + 1) = some (S 48) := by
    intro S h0 h1
    have e := whl_eq (f := f_X10_heaps_b87 y x2 2 (Int32.ofNat a) N) (e := S 48) (47 - a) fu (fun i => ((S (a + 1 + i)).1, (S (a + 1 + i)).2, Int32.ofNat (a + 1 + i))) (by show 47 - a < 1000000; omega) (fun i hi => by
      try dsimp only
      have hb : a + 1 + i < 48 := by omega
      rw [show a + 1 + (i + 1) = (a + 1 + i) + 1 by omega]
      generalize hbb : a + 1 + i = b at hb
      have h48 : ¬ (48 : Int32) ≤ Int32.ofNat b := nle (n := 48) hb (by omega)
      unfold f_X10_heaps_b87
      dsimp only
      rw [if_neg h48, m_isKept hT LN196 ha, bsome, h1 b (by omega)]
      by_cases hk : kpt N (mi N 196) a
      · rw [if_pos hk, if_neg z10, if_pos rfl, m_isKept hT LN196 hb, bsome]
        by_cases hkb : kpt N (mi N 196) b
        · rw [if_pos hkb, if_neg z10, if_pos ⟨hk, hkb⟩, show Int32.ofNat (b + 1) = Int32.ofNat b + 1 from oN_S.symm]
          exact m_hp129 (N := N) (a := a) (b := b) (y := y) (x2 := x2) (x5 := 2) (s := S b) (ob := some b) (d := Int32.ofNat (64 * (a + 1) + b + 1)) hV ha (fun c e => by cases e; exact hb) rfl (by
            rw [if_neg (by decide), oN_S, show (64 : Int32) = Int32.ofNat 64 from rfl, ← Int32.ofNat_mul, ← Int32.ofNat_add, oN_S])
        · rw [if_neg hkb, if_pos z00, if_neg (fun p => hkb p.2), oN_S]
      · rw [if_neg hk, if_pos z00, if_neg (fun p => hk p.1), oN_S]) (by
      try dsimp only
      rw [show a + 1 + (47 - a) = 48 by omega]
      unfold f_X10_heaps_b87
      dsimp only
      rw [if_pos (show (48 : Int32) ≤ Int32.ofNat 48 from le_rf _)])
    have e2 : whl fu (f_X10_heaps_b87 y x2 2 (Int32.ofNat a) N) ((S (a + 1 + 0)).1, (S (a + 1 + 0)).2, Int32.ofNat (a + 1 + 0)) = some (S 48) := e
    rw [h0 (a + 1 + 0) (by omega), Nat.add_zero, ← oN_S] at e2
    exact e2
  by_cases hk : kpt N (mi N 196) a
  · rw [if_pos hk]
    refine key (fun b => prI N (mi N 196) y a s b) (fun b hb => prI_low b hb) (fun b hb => ?_)
    by_cases hkb : kpt N (mi N 196) b
    · rw [if_pos ⟨hk, hkb⟩]
      exact if_pos ⟨hb, hkb⟩
    · rw [if_neg (fun p => hkb p.2)]
      exact if_neg (fun p => hkb p.2)
  · rw [if_neg hk]
    exact key (fun _ => s) (fun _ _ => rfl) (fun b _ => (if_neg (fun p => hk p.1)).symm)
theorem m_hpL {N : Mm} {w h : Nat} {y x2 : Int32} (hT : RGt N) (hV : VR w h (mi N 196)) : whl fu (f_X10_heaps_b54 y x2 N) (hbO N (mi N 196) none none y, 0, 1) = some (prO N (mi N 196) y 48) := by
  have r1 : whl fu (f_X10_heaps_b63 y x2 1 N) (hbO N (mi N 196) none none y, 0, 0) = some (sgH N (mi N 196) y 48) := whl_eq (f := f_X10_heaps_b63 y x2 1 N) (e := sgH N (mi N 196) y 48) 48 fu (fun i => ((sgH N (mi N 196) y i).1, (sgH N (mi N 196) y i).2, Int32.ofNat i)) (by decide) (fun i hi => by
    try dsimp only
    have h48 : ¬ (48 : Int32) ≤ Int32.ofNat i := nle (n := 48) hi (by omega)
    unfold f_X10_heaps_b63
    dsimp only
    rw [if_neg h48, if_pos (show (1 : Int32) = 1 from rfl), m_hpI1 hT hV hi, bsome, oN_S]
    rfl) (by
    try dsimp only
    unfold f_X10_heaps_b63
    dsimp only
    rw [if_pos (show (48 : Int32) ≤ Int32.ofNat 48 from le_rf _)])
  have r2 : whl fu (f_X10_heaps_b63 y x2 2 N) ((sgH N (mi N 196) y 48).1, (sgH N (mi N 196) y 48).2, 0) = some (prO N (mi N 196) y 48) := whl_eq (f := f_X10_heaps_b63 y x2 2 N) (e := prO N (mi N 196) y 48) 48 fu (fun i => ((prO N (mi N 196) y i).1, (prO N (mi N 196) y i).2, Int32.ofNat i)) (by decide) (fun i hi => by
    try dsimp only
    have h48 : ¬ (48 : Int32) ≤ Int32.ofNat i := nle (n := 48) hi (by omega)
    unfold f_X10_heaps_b63
    dsimp only
    rw [if_neg h48, if_neg (show ¬ (2 : Int32) = 1 by decide), m_hpI2 hT hV hi, bsome, oN_S]
    rfl) (by
    try dsimp only
    unfold f_X10_heaps_b63
    dsimp only
    rw [if_pos (show (48 : Int32) ≤ Int32.ofNat 48 from le_rf _)])
  show whl (999997 + 1 + 1 + 1) _ _ = _
  rw [whl_s (s' := ((sgH N (mi N 196) y 48).1, (sgH N (mi N 196) y 48).2, 2)) (by
    unfold f_X10_heaps_b54
    dsimp only
    rw [if_neg (show ¬ (3 : Int32) ≤ 1 by decide), r1, bsome]
    rfl), whl_s (s' := ((prO N (mi N 196) y 48).1, (prO N (mi N 196) y 48).2, 3)) (by
    unfold f_X10_heaps_b54
    dsimp only
    rw [if_neg (show ¬ (3 : Int32) ≤ 2 by decide), r2, bsome]
    rfl)]
  exact whl_e (by unfold f_X10_heaps_b54; dsimp only; rw [if_pos (by decide)])
theorem TQ.hb {N N' : Mm} (h : TQ N N') {r : Nat → Int32} {oa ob : Option Nat} {y : Int32} : hbO N' r oa ob y = hbO N r oa ob y := by
  have e : ∀ o, soN N' o y = soN N o y := fun o => by
    cases o with
    | none => rfl
    | some a => show mi N' 82 a * y = mi N 82 a * y; rw [h.2.1]
  unfold hbO
  rw [e, e, h.1]
theorem TQ.sg {N N' : Mm} (h : TQ N N') {r : Nat → Int32} {y : Int32} : ∀ c, sgH N' r y c = sgH N r y c := by
  intro c
  induction c with
  | zero => unfold sgH; rw [h.hb]
  | succ c ih =>
    unfold sgH
    rw [ih, h.hb]
    by_cases hk : kpt N r c
    · rw [if_pos hk, if_pos ((kp_of h.1).mpr hk)]
    · rw [if_neg hk, if_neg (fun p => hk ((kp_of h.1).mp p))]
theorem TQ.pri {N N' : Mm} (h : TQ N N') {r : Nat → Int32} {y : Int32} {a : Nat} {s : Int32 × Int32} : ∀ b, prI N' r y a s b = prI N r y a s b := by
  intro b
  induction b with
  | zero => rfl
  | succ b ih =>
    unfold prI
    rw [ih, h.hb]
    by_cases hk : a < b ∧ kpt N r b
    · rw [if_pos hk, if_pos ⟨hk.1, (kp_of h.1).mpr hk.2⟩]
    · rw [if_neg hk, if_neg (fun p => hk ⟨p.1, (kp_of h.1).mp p.2⟩)]
theorem TQ.pro {N N' : Mm} (h : TQ N N') {r : Nat → Int32} {y : Int32} : ∀ a, prO N' r y a = prO N r y a := by
  intro a
  induction a with
  | zero => exact h.sg 48
  | succ a ih =>
    unfold prO
    rw [ih, h.pri]
    by_cases hk : kpt N r a
    · rw [if_pos hk, if_pos ((kp_of h.1).mpr hk)]
    · rw [if_neg hk, if_neg (fun p => hk ((kp_of h.1).mp p))]
theorem G_heaps (hI : INV k M) : ∀ x1 x2 : Int32, GdI k (f_X9_heaps x1 x2 M) (f_X10_heaps x1 x2) 0 0 1 := by
  obtain ⟨⟨q, h⟩, r⟩ := id hI
  intro y x
  have harg : f_X9_heaps y x M = if (0 ≤ y ∧ y ≤ 60) ∧ (x = 0 ∨ x = 1) then f_X9_heaps_j25 y x 1 M else f_X9_heaps_j25 y x 0 M := by
    unfold f_X9_heaps
    rw [arg2]
    by_cases hy : (0 : Int32) ≤ y ∧ y ≤ 60
    · rw [if_pos hy]
      by_cases h0 : x = 0
      · rw [if_pos h0, if_pos ⟨hy, Or.inl h0⟩]; rfl
      · rw [if_neg h0]
        by_cases h1 : x = 1
        · rw [if_pos h1, if_pos ⟨hy, Or.inr h1⟩]; rfl
        · rw [if_neg h1, if_neg (fun p => p.2.elim h0 h1)]; rfl
    · rw [if_neg hy, if_neg (fun p => hy p.1)]; rfl
  rw [harg]
  by_cases hc : ((0 : Int32) ≤ y ∧ y ≤ 60) ∧ (x = 0 ∨ x = 1)
  · rw [if_pos hc]
    have hg : 17 < q 0 := by have := h.1.2.2.1; omega
    have hw : 17 < q 2 := by have := h.1.2.2.2.1; omega
    obtain ⟨C', p1, p2, p3⟩ := k_planHeaps (y := y) h.gd h.wd.1 h.wd.2.1 hg hw
    have s1 : ∀ a, (a = 12 ∨ a = 17 ∨ a = 13) → frC q a ∧ frT a := fun a ha => frC_of h.1 (by omega)
    have h' : RR C' C' q := h.oml p2 p2 (fun a ha => (s1 a ha).1) (fun a ha => (s1 a ha).2)
    have hq0 : TQ M C' := p2.tq (fun a ha => (s1 a ha).2)
    have e196 : mi C' 196 = mi M 196 := p2.at (by omega)
    unfold f_X9_heaps_j25
    rw [needA1, bsome]
    dsimp only
    rw [h.g, h.w, p1, bsome]
    have hm : ∀ v : Int64, f_X10_heaps y x (sL C' 275 0 v) = some (if x = 0 then (prO M (mi M 196) y 48).1 else (prO M (mi M 196) y 48).2, nQ C' v) := fun v => by
      have hqv : TQ M (nQ C' v) := hq0.trans TQ.nQ
      have e1 : mi (nQ C' v) 196 = mi M 196 := (nQ_o (by omega)).trans e196
      have hV1 := vr_nQ (v := v) h'
      have hT1 : RGt (nQ C' v) := RGt_of (nQ_o (by omega)) h'.gd.1
      unfold f_X10_heaps
      rw [m_in, bsome, if_pos hc.1, if_neg z10, m_in, bsome, if_pos (in01.mpr hc.2), if_neg z10]
      unfold f_X10_heaps_j30
      rw [m_fine, bsome]
      dsimp only
      rw [if_pos z00, nQ_def, show f_X10_heapsBy (-1) (-1) y (nQ C' v) = _ from m_heapsBy (oa := none) (ob := none) hV1 (fun a e => by cases e) (fun a e => by cases e), bsome, m_hpL hT1 hV1, bsome, e1, hqv.pro]
    rcases hc.2 with rfl | rfl
    · rw [show f_X0_answerTo 0 C' = some (ml C' 13 0) from k_answer (i := 0) (by omega), bsome, p3.1, Int32.toInt32_toInt64]
      have n1 := hm (prO M (mi M 196) y 48).1.toInt64
      rw [if_pos rfl] at n1
      exact gd_ml (S' := fun _ => False) h r p2 Oml.refl s1 (fun a ha => ha.elim) (fun ha => ha) rfl n1
    · rw [show f_X0_answerTo 1 C' = some (ml C' 13 1) from k_answer (i := 1) (by omega), bsome, p3.2, Int32.toInt32_toInt64]
      have n1 := hm (prO M (mi M 196) y 48).2.toInt64
      rw [if_neg z10] at n1
      exact gd_ml (S' := fun _ => False) h r p2 Oml.refl s1 (fun a ha => ha.elim) (fun ha => ha) rfl n1
  · rw [if_neg hc]
    unfold f_X9_heaps_j25
    rw [needA0, bsome]
    refine gd_r2 (b := 0) hI (by decide) rfl ?_
    unfold f_X10_heaps
    rw [m_in, bsome]
    by_cases hy : (0 : Int32) ≤ y ∧ y ≤ 60
    · have hx : ¬ ((0 : Int32) ≤ x ∧ x ≤ 1) := fun p => hc ⟨hy, in01.mp p⟩
      rw [if_pos hy, if_neg z10, m_in, bsome, if_neg hx, if_pos z00]
      unfold f_X10_heaps_j25 f_X10_heaps_j30
      rw [m_r2 1 (by decide), bsome]
      rfl
    · rw [if_neg hy, if_pos z00]
      unfold f_X10_heaps_j25 f_X10_heaps_j30
      rw [m_r2 1 (by decide), bsome]
      rfl
end HS
