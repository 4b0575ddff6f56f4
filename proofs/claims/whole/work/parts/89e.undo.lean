/-! level 3: undo -/
section UN
variable {k : Nat} {M M2 : Mm} {q : Nat → Nat} {w h : Nat} {r r' : Nat → Int32} {C C' T T' N : Mm}
theorem rgd_eq {g : Nat} (h : RGd C T g) (h1 : mi C' g = mi C g) (h2 : mi C' (g + 1) = mi C (g + 1)) (t1 : mi T' 80 = mi T 80) (t2 : mi T' 82 = mi T 82) : RGd C' T' g := by
  obtain ⟨a, b, c⟩ := h
  exact ⟨RGt_of t1 a, by rw [h1, t1]; exact b, by rw [h2, t2]; exact c⟩
theorem rlaw_eq {l i : Nat} (h : RLaw C T l i) (h1 : mi C' l 3 = mi C l 3) (h2 : mi C' (l + 1) = mi C (l + 1)) (t1 : mi T' 114 = mi T 114) (t2 : mi T' (118 + i) = mi T (118 + i)) : RLaw C' T' l i := by
  unfold RLaw at h ⊢
  rw [h1, h2, t1, t2]
  exact h
theorem tw_eq (t : mi T' 80 = mi T 80) : tw T' = tw T ∧ th T' = th T := by unfold tw th; rw [t]; exact ⟨rfl, rfl⟩
theorem rbk_eq {b : Nat} (h : RBk C T b) (h0 : mi C' b = mi C b) (h1 : mi C' (b + 1) = mi C (b + 1)) (h2 : mi C' (b + 2) = mi C (b + 2)) (t0 : mi T' 80 = mi T 80) (t1 : mi T' 76 30 = mi T 76 30) (t2 : ∀ a, 121 ≤ a → a ≤ 126 → mi T' a = mi T a) : RBk C' T' b := by
  obtain ⟨n, a1, a2, a3, a4⟩ := h
  have e := tw_eq t0
  refine ⟨n, a1, by rw [h0]; exact a2, by rw [t1]; exact a3, fun i hi => ?_⟩
  obtain ⟨x, y, v, c1, c2, c3, c4, c5, c6, c7, c8⟩ := a4 i hi
  refine ⟨x, y, v, by rw [e.1]; exact c1, by rw [e.2]; exact c2, c3, by rw [h1]; exact c4, by rw [h2]; exact c5, ?_⟩
  rw [t2 _ (by omega) (by omega)]
  exact ⟨c6, c7, c8⟩
/-- a call that leaves field, laws and book as they are -/
theorem rr_step (h : RR M M q) (hr : mr M2 = mr M) (hs : ∀ a, (a = 1 ∨ a = 2 ∨ a = q 0 ∨ a = q 0 + 1 ∨ a = q 6 ∨ a = q 6 + 1 ∨ a = q 7 ∨ a = q 7 + 1 ∨ a = q 4 ∨ a = q 4 + 1 ∨ a = q 4 + 2 ∨ a = 77 ∨ a = 80 ∨ a = 82 ∨ a = 114 ∨ a = 118 ∨ a = 119 ∨ (121 ≤ a ∧ a ≤ 126)) → mi M2 a = mi M a) (h76 : ∀ j, (j = 1 ∨ j = 3 ∨ j = 30) → mi M2 76 j = mi M 76 j) (hW : RWd M2 M2 (q 2)) (hP : RP M2 M2) (hc : Rc M2 M2) : RR M2 M2 q := by
  obtain ⟨h1, h2, h3, h4, h5, -, -, h8, -⟩ := h
  refine ⟨?_, h2.frame (by rw [hs 1 (by omega)]) (hs 2 (by omega)) (by rw [hs 1 (by omega)]) (h76 1 (by omega)) (hs 77 (by omega)) (h76 3 (by omega)), rgd_eq h3 (hs _ (by omega)) (hs _ (by omega)) (hs _ (by omega)) (hs _ (by omega)), rlaw_eq h4 (by rw [hs (q 6) (by omega)]) (hs _ (by omega)) (hs _ (by omega)) (hs _ (by omega)), rlaw_eq h5 (by rw [hs (q 7) (by omega)]) (hs _ (by omega)) (hs _ (by omega)) (hs _ (by omega)), hW, hP, rbk_eq h8 (hs _ (by omega)) (hs _ (by omega)) (hs _ (by omega)) (hs _ (by omega)) (h76 30 (by omega)) (fun a h1 h2 => hs a (by omega)), hc⟩
  unfold IDS at h1 ⊢
  rw [hr]
  exact h1
theorem rq_on (h : ∀ j, j < 415 → r' j = r j) (hn : rN r ≤ 60) : onS r' = onS r ∧ walS r' = walS r ∧ ∀ c, hpIn r' c = hpIn r c := by
  have e : rN r' = rN r := by unfold rN; rw [h 360 (by omega)]
  refine ⟨?_, ?_, fun c => ?_⟩
  · unfold onS
    rw [e]
    exact sm_congr (fun i hi => by rw [h _ (by omega), h _ (by omega)])
  · unfold walS
    rw [e]
    exact sm_congr (fun i hi => by rw [h _ (by omega), h _ (by omega)])
  · unfold hpIn
    rw [e]
    exact sm_congr (fun i hi => by rw [h _ (by omega), h _ (by omega)])
theorem rf_eq {a : Nat} (hV : VR w h r) (e : ∀ j, j < 415 → r' j = r j) (hW : RF C a r) : RF C a r' := by
  obtain ⟨h1, h2, h3, h4⟩ := hW
  obtain ⟨e1, e2, e3⟩ := rq_on e hV.n60
  refine ⟨rw_eq hV e h1, ?_, ?_, fun c hc => ?_⟩
  · unfold RLd
    rw [e1]
    exact h2
  · rw [e2]
    exact h3
  · rw [e3]
    exact h4 c hc
theorem vr_eq (hV : VR w h r) (e : ∀ j, j < 415 → r' j = r j) : VR w h r' := Rq.vr (r := r) (fun j h1 _ => e j h1) hV
theorem pk_sam {f f' : Nat → Int32} {a : Nat} (h : PK f C a) (e : ∀ k, k < 393 → f' k = f k) : PK f' C a := by
  refine ⟨fun k hk => ?_, fun c hc => ?_, fun k hk => ?_⟩
  · rw [e _ (by omega), e _ (by omega), e _ (by omega), e _ (by omega)]
    exact h.1 k hk
  · rw [e _ (by omega), e _ (by omega), e _ (by omega)]
    exact h.2.1 c hc
  · rw [e _ (by omega)]
    exact h.2.2 k hk
theorem rb_eq {f f' : Nat → Int32} (hV : VR w h r) (h : RB f r) (e : ∀ k, k < 393 → f' k = f k) (e2 : ∀ j, j < 415 → r' j = r j) : RB f' r' := by
  obtain ⟨M0, w0, a, b⟩ := h
  exact ⟨M0, w0, rf_eq hV e2 a, pk_sam b e⟩
theorem rb_rf {f : Nat → Int32} {a : Nat} (hV : VR w h r) (h : RB f r) (hp : PK f C a) : RF C a r := by
  obtain ⟨M0, w0, x, y⟩ := h
  exact pk_rf hV y hp x
theorem G_undo (hI : INV k M) : GdN k (f_X9_undo M) f_X10_undo := by
  obtain ⟨⟨q, h⟩, r⟩ := id hI
  have hn := ids_n h.1
  obtain ⟨⟨n, n1, n2, n3, n4⟩, hm⟩ := h.2.2.2.2.2.2.1
  have hz : ∀ x : Nat, x ≤ 20 → (Int32.ofNat x = 0 ↔ x = 0) := fun x hx => ⟨fun e => (oN_eq (i := x) (j := 0) (by omega) (by omega)).mp e, fun e => by rw [e]; rfl⟩
  by_cases h0 : n = 0
  · refine ⟨-1, M, sI M 76 0 0, ?_, ?_, hI.q1⟩
    · unfold f_X9_undo
      rw [n2, if_pos ((hz n n1).mpr h0)]
    · unfold f_X10_undo
      rw [mi_sI_o (by omega), n3, if_pos ((hz n n1).mpr h0)]
  · have s1 : Int32.ofNat n - 1 = Int32.ofNat (n - 1) := oN_pred (by omega) (by omega)
    have l9 : LN 9 = 7860 := by decide
    obtain ⟨C2, p1, p2, p3, -⟩ := k_readFrom (C := sI M 8 3 (Int32.ofNat (n - 1))) (a := q 2) (b := 9) (o := (n - 1) * 393) (by omega) (by rw [l9]; omega) (by rw [l9]; omega)
    have hcl : f_X9_undo M = some (Int32.ofNat (n - 1), sI C2 0 12 0) := by
      unfold f_X9_undo f_X5_takeBackWork
      rw [n2, if_neg (fun e => h0 ((hz n n1).mp e)), h.w, if_neg (show ¬ Int32.ofNat n ≤ 0 from nle (n := n) (i := 0) (by omega) (by omega)), s1, mi_sI_k, show Int32.ofNat (n - 1) * 393 = Int32.ofNat ((n - 1) * 393) from (Int32.ofNat_mul (n - 1) 393).symm, p1, bsome, bsome, mi_sI_ne (by omega), p2.at (by omega), mi_sI_k]
    generalize hM1 : sI C2 0 12 0 = M1 at hcl
    have a1 : ∀ a, a ≠ 0 → a ≠ 8 → ¬ (q 2 ≤ a ∧ a ≤ q 2 + 7) → mi M1 a = mi M a := fun a h1 h2 h3 => by rw [← hM1, mi_sI_ne h1, p2.at h3, mi_sI_ne h2]
    have b1 : ∀ j, mi M1 0 j = if j = 12 then 0 else mi M 0 j := fun j => by rw [← hM1, mi_sI, u1_at, p2.at (by omega), mi_sI_ne (by omega)]
    have b8 : ∀ j, mi M1 8 j = if j = 3 then Int32.ofNat (n - 1) else mi M 8 j := fun j => by rw [← hM1, mi_sI_ne (by omega), p2.at (by omega), mi_sI, u1_at]
    have bW : ∀ a, a ≠ 0 → mi M1 a = mi C2 a := fun a ha => by rw [← hM1, mi_sI_ne ha]
    have lq : LN (199 + (n - 1)) = 415 := (by decide : ∀ i, i < 20 → LN (199 + i) = 415) (n - 1) (by omega)
    have hm9 : f_X10_undo M1 = some (Int32.ofNat (n - 1), sI (sA (sI (sI M1 76 0 0) 76 31 (Int32.ofNat (n - 1))) 196 (upto 415 (mi (sI (sI M1 76 0 0) 76 31 (Int32.ofNat (n - 1))) (199 + (n - 1))) (mi (sI (sI M1 76 0 0) 76 31 (Int32.ofNat (n - 1))) 196))) 76 32 0) := by
      unfold f_X10_undo
      rw [mi_sI_o (by omega), a1 76 (by omega) (by omega) (by omega), n3, if_neg (fun e => h0 ((hz n n1).mp e)), s1, mi_sI_k, show ar 198 20 (Int32.ofNat (n - 1)) = some (199 + (n - 1)) from ar_o (a := 198) (by omega) (by omega), bsome, m_copies lq LN196 (by omega), bsome, mi_sI_o (by omega), mi_sA_ne (by omega), mi_sI_k]
    generalize hM2 : sI (sA (sI (sI M1 76 0 0) 76 31 (Int32.ofNat (n - 1))) 196 (upto 415 (mi (sI (sI M1 76 0 0) 76 31 (Int32.ofNat (n - 1))) (199 + (n - 1))) (mi (sI (sI M1 76 0 0) 76 31 (Int32.ofNat (n - 1))) 196))) 76 32 0 = M2 at hm9
    have a2 : ∀ a, a ≠ 76 → a ≠ 196 → mi M2 a = mi M1 a := fun a h1 h2 => by rw [← hM2, mi_sI_ne h1, mi_sA_ne h2, mi_sI_ne h1, mi_sI_ne h1]
    have e76 : ∀ j, mi M2 76 j = if j = 32 then 0 else if j = 31 then Int32.ofNat (n - 1) else if j = 0 then 0 else mi M 76 j := fun j => by rw [← hM2, mi_sI, u1_at, mi_sA_ne (by omega), mi_sI, u1_at, mi_sI, u1_at, a1 76 (by omega) (by omega) (by omega)]
    have e196 : mi M2 196 = upto 415 (mi M (199 + (n - 1))) (mi M 196) := by rw [← hM2, mi_sI_ne (by omega), mi_sA, mi_sI_ne (by omega), mi_sI_ne (by omega), mi_sI_ne (by omega), mi_sI_ne (by omega), a1 _ (by omega) (by omega) (by omega), a1 _ (by omega) (by omega) (by omega)]
    have a3 : ∀ a, a ≠ 0 → a ≠ 8 → ¬ (q 2 ≤ a ∧ a ≤ q 2 + 7) → a ≠ 76 → a ≠ 196 → mi M2 a = mi M a := fun a h1 h2 h3 h4 h5 => (a2 a h4 h5).trans (a1 a h1 h2 h3)
    have hr : mr M2 = mr M := by rw [← hM2, ← hM1]; exact p2.2.2.2.2.1
    have hx : M2.1 = M.1 := by rw [← hM2, ← hM1]; exact p2.1
    have e80 : mi M2 80 = mi M 80 := a3 80 (by omega) (by omega) (by omega) (by omega) (by omega)
    have etw := tw_eq e80
    obtain ⟨v1, v2⟩ := n4 (n - 1) (by omega)
    have hr196 : ∀ j, j < 415 → mi M2 196 j = mi M (199 + (n - 1)) j := fun j hj => by rw [e196, upto_lt hj]
    have hW : RF M2 (q 2) (mi M (199 + (n - 1))) := by
      have x1 : RF C2 (q 2) (mi M (199 + (n - 1))) := rb_rf v1 (rb_eq v1 v2 (fun k _ => by rw [show (n - 1) * 393 + k = 393 * (n - 1) + k by omega, mi_sI_ne (by omega)]) (fun j _ => rfl)) p3
      exact x1.frame (fun j hj => (a2 _ (by omega) (by omega)).trans (bW _ (by omega)))
    refine ⟨Int32.ofNat (n - 1), M1, M2, hcl, hm9, ⟨q, rr_step h hr (fun a ha => a3 a (by omega) (by omega) (by omega) (by omega) (by omega)) (fun j hj => by rw [e76, if_neg (by omega), if_neg (by omega), if_neg (by omega)]) ?_ ?_ ?_⟩, ?_⟩
    · refine ⟨by rw [etw.1, etw.2]; exact vr_eq v1 hr196, rf_eq v1 hr196 hW⟩
    · refine ⟨⟨n - 1, by omega, by rw [a2 8 (by omega) (by omega), b8, if_pos rfl], by rw [e76, if_neg (by omega), if_pos rfl], fun i hi => ?_⟩, ?_⟩
      · rw [etw.1, etw.2, a3 (199 + i) (by omega) (by omega) (by omega) (by omega) (by omega), a3 9 (by omega) (by omega) (by omega) (by omega) (by omega)]
        exact n4 i (by omega)
      · obtain ⟨m, m1, m2, m3, m4⟩ := hm
        refine ⟨m, m1, by rw [a2 8 (by omega) (by omega), b8, if_neg (by omega)]; exact m2, by rw [e76, if_neg (by omega), if_neg (by omega), if_neg (by omega)]; exact m3, fun j hj => ?_⟩
        rw [etw.1, etw.2, a3 (220 + j) (by omega) (by omega) (by omega) (by omega) (by omega), a3 10 (by omega) (by omega) (by omega) (by omega) (by omega), a3 11 (by omega) (by omega) (by omega) (by omega) (by omega)]
        exact m4 j hj
    · obtain ⟨c1, c2, c3, c4⟩ := h.cnt
      unfold Rc
      rw [a2 0 (by omega) (by omega), a3 78 (by omega) (by omega) (by omega) (by omega) (by omega), b1, b1, b1, b1, e76, if_pos rfl, if_pos rfl, if_neg (by omega), if_neg (by omega), if_neg (by omega)]
      exact ⟨rfl, c2, c3, c4⟩
    · unfold RM zX zS zN at r ⊢
      rw [hx]
      refine ⟨r.1, Nat.le_succ_of_le r.2.1, r.2.2.1, fun a j hj => ?_⟩
      by_cases ha : a = 196
      · subst ha
        have : j = 363 := by unfold yj at hj; omega
        subst this
        rw [hr196 363 (by omega)]
        exact r.2.2.2.up _ _ (Or.inl ⟨Or.inr (by omega), rfl⟩)
      · rw [a3 a (by unfold yj at hj; omega) (by unfold yj at hj; omega) (by unfold yj at hj; omega) (by unfold yj at hj; omega) ha]
        exact r.2.2.2.up a j hj
end UN
