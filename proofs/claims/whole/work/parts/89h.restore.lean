/-! level 3: restore -/
section RS
variable {k : Nat} {M M2 : Mm} {q : Nat → Nat}
theorem G_restore (hI : INV k M) : GdN k (f_X9_restore M) f_X10_restore := by
  obtain ⟨⟨q, h⟩, r⟩ := id hI
  have hn := ids_n h.1
  obtain ⟨⟨n, n1, n2, n3, n4⟩, ⟨m, m1, m2, m3, m4⟩⟩ := h.2.2.2.2.2.2.1
  by_cases h0 : m = 0
  · refine ⟨-1, M, sI M 76 0 0, ?_, ?_, hI.q1⟩
    · unfold f_X9_restore
      rw [m2, if_pos ((hz9 (by omega)).mpr h0)]
    · unfold f_X10_restore
      rw [mi_sI_o (by omega), m3, if_pos ((hz9 (by omega)).mpr h0)]
  · have l10 : LN 10 = 24759 := by decide
    obtain ⟨n', x1, x2, x3, ⟨x4, x5⟩, x6⟩ := m4 (m - 1) (by omega)
    have s1 : Int32.ofNat m - 1 = Int32.ofNat (m - 1) := oN_pred (by omega) (by omega)
    obtain ⟨C1, p1, o1, v1, w1⟩ := cpy_o (M := sI M 8 4 (Int32.ofNat (m - 1))) (a0 := 10) (n0 := 24759) (sp := (m - 1) * 8253) (a := 9) (n1 := 7860) (dp := 0) (n := 7860) (by omega) (by omega) (by omega) (by omega)
    obtain ⟨C2, p2, o2, v2, -⟩ := k_readFrom (C := C1) (a := q 2) (b := 10) (o := (m - 1) * 8253 + 7860) (by omega) (by rw [l10]; omega) (by rw [l10]; omega)
    have e8 : ∀ j, mi C2 8 j = if j = 4 then Int32.ofNat (m - 1) else mi M 8 j := fun j => by rw [o2.at (by omega), o1.at (by omega), mi_sI, u1_at]
    have e11 : mi C2 11 = mi M 11 := by rw [o2.at (by omega), o1.at (by omega), mi_sI_ne (by omega)]
    have hcl : f_X9_restore M = some (Int32.ofNat (m - 1), sI (sI C2 8 3 (Int32.ofNat n')) 0 12 0) := by
      unfold f_X9_restore f_X5_takeBackImage
      rw [m2, if_neg (fun e => h0 ((hz9 (by omega)).mp e)), h.w, if_neg (show ¬ Int32.ofNat m ≤ 0 from nle (n := m) (i := 0) (by omega) (by omega)), if_pos (show Int32.ofNat m ≤ 3 from (oN_le (j := 3) (by omega) (by omega)).mpr m1), s1, mi_sI_k, show Int32.ofNat (m - 1) * 8253 = Int32.ofNat ((m - 1) * 8253) from (Int32.ofNat_mul (m - 1) 8253).symm, show cpy (sI M 8 4 (Int32.ofNat (m - 1))) 10 24759 (Int32.ofNat ((m - 1) * 8253)) 9 7860 0 7860 = some C1 from p1, bsome, show Int32.ofNat ((m - 1) * 8253) + 7860 = Int32.ofNat ((m - 1) * 8253 + 7860) from oN_A (b := 7860), p2, bsome, e8, if_pos rfl, ai_o (by omega) (by omega), bsome, e11, x2, bsome, mi_sI_ne (by omega), mi_sI_o (by omega), e8, if_pos rfl]
    generalize hM1 : sI (sI C2 8 3 (Int32.ofNat n')) 0 12 0 = M1 at hcl
    have a1 : ∀ a, a ≠ 0 → a ≠ 8 → a ≠ 9 → ¬ (q 2 ≤ a ∧ a ≤ q 2 + 7) → mi M1 a = mi M a := fun a h1 h2 h3 h4 => by rw [← hM1, mi_sI_ne h1, mi_sI_ne h2, o2.at h4, o1.at h3, mi_sI_ne h2]
    have b0 : ∀ j, mi M1 0 j = if j = 12 then 0 else mi M 0 j := fun j => by rw [← hM1, mi_sI, u1_at, mi_sI_ne (by omega), o2.at (by omega), o1.at (by omega), mi_sI_ne (by omega)]
    have b8 : ∀ j, mi M1 8 j = if j = 3 then Int32.ofNat n' else if j = 4 then Int32.ofNat (m - 1) else mi M 8 j := fun j => by rw [← hM1, mi_sI_ne (by omega), mi_sI, u1_at, e8]
    have b9 : ∀ t, t < 7860 → mi M1 9 t = mi M 10 ((m - 1) * 8253 + t) := fun t ht => by
      have := v1 t ht
      rw [show 0 + t = t by omega] at this
      rw [← hM1, mi_sI_ne (by omega), mi_sI_ne (by omega), o2.at (by omega), this, mi_sI_ne (by omega)]
    have bW : ∀ j, j ≤ 7 → mi M1 (q 2 + j) = mi C2 (q 2 + j) := fun j hj => by rw [← hM1, mi_sI_ne (by omega), mi_sI_ne (by omega)]
    obtain ⟨N', f1, f2, f3, f4, f5, f6⟩ := m_putsR (N := sI (sI M1 76 0 0) 76 33 (Int32.ofNat (m - 1))) (a := 220 + (m - 1)) (LN220 (by omega)) (by omega)
    have e76M : mi M1 76 = mi M 76 := a1 76 (by omega) (by omega) (by omega) (by omega)
    have hm9 : f_X10_restore M1 = some (Int32.ofNat (m - 1), sI N' 76 32 0) := by
      unfold f_X10_restore
      rw [mi_sI_o (by omega), e76M, m3, if_neg (fun e => h0 ((hz9 (by omega)).mp e)), s1, mi_sI_k, ar_219 (by omega), bsome, f1, bsome, mi_sI_o (by omega), f3 33 (by omega) (by omega), mi_sI_k]
    generalize hM2 : sI N' 76 32 0 = M2 at hm9
    have a2 : ∀ a, a ≠ 76 → a ≠ 196 → ¬ (199 ≤ a ∧ a ≤ 218) → mi M2 a = mi M1 a := fun a h1 h2 h3 => by rw [← hM2, mi_sI_ne h1, f2.at (by omega), mi_sI_ne h1, mi_sI_ne h1]
    have e76 : ∀ j, j ≠ 0 → j ≠ 34 → j ≠ 31 → mi M2 76 j = if j = 32 then 0 else if j = 33 then Int32.ofNat (m - 1) else mi M 76 j := fun j h1 h2 h3 => by
      rw [← hM2, mi_sI, u1_at, f3 j h2 h3, mi_sI, u1_at, mi_sI_o h1, e76M]
    have e7631 : mi M2 76 31 = Int32.ofNat n' := by rw [← hM2, mi_sI_o (by omega), f4, mi_sI_ne (by omega), mi_sI_ne (by omega), a1 _ (by omega) (by omega) (by omega) (by omega)]; exact x3
    have a3 : ∀ a, a ≠ 0 → a ≠ 8 → a ≠ 9 → ¬ (q 2 ≤ a ∧ a ≤ q 2 + 7) → a ≠ 76 → a ≠ 196 → ¬ (199 ≤ a ∧ a ≤ 218) → mi M2 a = mi M a := fun a h1 h2 h3 h4 h5 h6 h7 => (a2 a h5 h6 h7).trans (a1 a h1 h2 h3 h4)
    have hr : mr M2 = mr M := by rw [← hM2, ← hM1] at *; exact f2.2.2.2.2.1.trans ((o2.2.2.2.2.1).trans o1.2.2.2.2.1)
    have hx : M2.1 = M.1 := by rw [← hM2, ← hM1] at *; exact f2.1.trans ((o2.1).trans o1.1)
    have e80 : mi M2 80 = mi M 80 := a3 80 (by omega) (by omega) (by omega) (by omega) (by omega) (by omega) (by omega)
    have etw := tw_eq e80
    have g220 : mi (sI (sI M1 76 0 0) 76 33 (Int32.ofNat (m - 1))) (220 + (m - 1)) = mi M (220 + (m - 1)) := by rw [mi_sI_ne (by omega), mi_sI_ne (by omega), a1 _ (by omega) (by omega) (by omega) (by omega)]
    have r196 : ∀ k, k < 415 → mi M2 196 k = mi M (220 + (m - 1)) (1 + k) := fun k hk => by rw [← hM2, mi_sI_ne (by omega), f5, upto_lt hk, g220]
    have r199 : ∀ i, i < 20 → ∀ k, k < 415 → mi M2 (199 + i) k = mi M (220 + (m - 1)) (416 + 415 * i + k) := fun i hi k hk => by rw [← hM2, mi_sI_ne (by omega), f6 i hi, upto_lt hk, g220]
    have c9 : ∀ t, t < 7860 → mi M2 9 t = mi M 10 ((m - 1) * 8253 + t) := fun t ht => by rw [a2 9 (by omega) (by omega) (by omega)]; exact b9 t ht
    have hW : RF M2 (q 2) (fun k => mi M (220 + (m - 1)) (1 + k)) := by
      have y1 : RF C2 (q 2) (fun k => mi M (220 + (m - 1)) (1 + k)) := rb_rf x4 (rb_eq x4 x5 (fun k hk => by rw [show (m - 1) * 8253 + 7860 + k = 8253 * (m - 1) + 7860 + k by omega, o1.at (by omega), mi_sI_ne (by omega)]) (fun j _ => rfl)) v2
      exact y1.frame (fun j hj => (a2 _ (by omega) (by omega) (by omega)).trans (bW j hj))
    refine ⟨Int32.ofNat (m - 1), M1, M2, hcl, hm9, ⟨q, rr_step h hr (fun a ha => a3 a (by omega) (by omega) (by omega) (by omega) (by omega) (by omega) (by omega)) (fun j hj => by rw [e76 j (by omega) (by omega) (by omega), if_neg (by omega), if_neg (by omega)]) ?_ ?_ ?_⟩, ?_⟩
    · exact ⟨by rw [etw.1, etw.2]; exact vr_eq x4 r196, rf_eq x4 r196 hW⟩
    · refine ⟨⟨n', x1, by rw [a2 8 (by omega) (by omega) (by omega), b8, if_pos rfl], e7631, fun i hi => ⟨?_, ?_⟩⟩, ⟨m - 1, by omega, by rw [a2 8 (by omega) (by omega) (by omega), b8, if_neg (by omega), if_pos rfl], by rw [e76 33 (by omega) (by omega) (by omega), if_neg (by omega), if_pos rfl], fun j hj => ?_⟩⟩
      · rw [etw.1, etw.2]
        exact vr_eq (x6 i hi).1 (r199 i (by omega))
      · exact rb_eq (x6 i hi).1 (x6 i hi).2 (fun k hk => by rw [c9 _ (by omega), show (m - 1) * 8253 + (393 * i + k) = 8253 * (m - 1) + 393 * i + k by omega]) (r199 i (by omega))
      · rw [etw.1, etw.2, a3 (220 + j) (by omega) (by omega) (by omega) (by omega) (by omega) (by omega) (by omega), a3 10 (by omega) (by omega) (by omega) (by omega) (by omega) (by omega) (by omega), a3 11 (by omega) (by omega) (by omega) (by omega) (by omega) (by omega) (by omega)]
        exact m4 j (by omega)
    · obtain ⟨c1, c2, c3, c4⟩ := h.cnt
      unfold Rc
      rw [a2 0 (by omega) (by omega) (by omega), a3 78 (by omega) (by omega) (by omega) (by omega) (by omega) (by omega) (by omega), b0, b0, b0, b0, e76 32 (by omega) (by omega) (by omega), if_pos rfl, if_pos rfl, if_neg (by omega), if_neg (by omega), if_neg (by omega)]
      exact ⟨rfl, c2, c3, c4⟩
    · unfold RM zX zS zN at r ⊢
      rw [hx]
      refine ⟨r.1, Nat.le_succ_of_le r.2.1, r.2.2.1, fun a j hj => ?_⟩
      by_cases ha : a = 196
      · subst ha
        have : j = 363 := by unfold yj at hj; omega
        subst this
        rw [r196 363 (by omega)]
        exact r.2.2.2.up _ _ (Or.inr ⟨by omega, 0, by omega, by omega⟩)
      · by_cases hb : 199 ≤ a ∧ a ≤ 218
        · have : j = 363 := by unfold yj at hj; omega
          subst this
          have := r199 (a - 199) (by omega) 363 (by omega)
          rw [show 199 + (a - 199) = a by omega] at this
          rw [this]
          exact r.2.2.2.up _ _ (Or.inr ⟨by omega, a - 199 + 1, by omega, by omega⟩)
        · rw [a3 a (by unfold yj at hj; omega) (by unfold yj at hj; omega) (by unfold yj at hj; omega) (by unfold yj at hj; omega) (by unfold yj at hj; omega) ha hb]
          exact r.2.2.2.up a j hj
end RS
