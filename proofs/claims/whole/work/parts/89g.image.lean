/-! level 3: image, restore -/
section IM
variable {k : Nat} {M M2 : Mm} {q : Nat → Nat}
theorem LN220 {j : Nat} (hj : j < 3) : LN (220 + j) = 8716 := (by decide : ∀ j, j < 3 → LN (220 + j) = 8716) j hj
theorem ar_219 {j : Nat} (hj : j < 3) : ar 219 3 (Int32.ofNat j) = some (220 + j) := ar_o (a := 219) hj (by omega)
theorem hz9 {x : Nat} (hx : x ≤ 20) : Int32.ofNat x = 0 ↔ x = 0 := ⟨fun e => (oN_eq (i := x) (j := 0) (by omega) (by omega)).mp e, fun e => by rw [e]; rfl⟩
theorem G_image (hI : INV k M) : GdN k (f_X9_image M) f_X10_image := by
  obtain ⟨⟨q, h⟩, r⟩ := id hI
  have hn := ids_n h.1
  obtain ⟨⟨n, n1, n2, n3, n4⟩, ⟨m, m1, m2, m3, m4⟩⟩ := h.2.2.2.2.2.2.1
  by_cases h0 : m = 3
  · refine ⟨-1, M, sI M 76 0 0, ?_, ?_, hI.q1⟩
    · unfold f_X9_image f_X5_keepImage g_X5_keepImage
      rw [m2, h0, if_neg (show ¬ Int32.ofNat 3 < 0 by decide), if_neg (show ¬ Int32.ofNat 3 < 3 by decide), bsome]
      rfl
    · unfold f_X10_image
      rw [mi_sI_o (by omega), m3, h0, if_pos (show Int32.ofNat 3 = 3 from rfl)]
  · have l10 : LN 10 = 24759 := by decide
    obtain ⟨C1, p1, o1, v1, w1⟩ := cpy_o (M := M) (a0 := 9) (n0 := 7860) (sp := 0) (a := 10) (n1 := 24759) (dp := m * 8253) (n := 7860) (by omega) (by omega) (by omega) (by omega)
    obtain ⟨C2, p2, o2, v2, w2⟩ := k_writeTo (C := C1) (a := q 2) (b := 10) (o := m * 8253 + 7860) (by omega) (by rw [l10]; omega) (by rw [l10]; omega)
    have e8 : mi C2 8 = mi M 8 := by rw [o2.at (by omega), o1.at (by omega)]
    have hcl : f_X9_image M = some (Int32.ofNat (m + 1), sI (sI C2 11 m (Int32.ofNat n)) 8 4 (Int32.ofNat (m + 1))) := by
      unfold f_X9_image f_X5_keepImage g_X5_keepImage
      rw [m2, if_neg (oN_nn (by omega)), if_pos (show Int32.ofNat m < 3 from (oN_lt (j := 3) (by omega) (by omega)).mpr (by omega)), show Int32.ofNat m * 8253 = Int32.ofNat (m * 8253) from (Int32.ofNat_mul m 8253).symm, show cpy M 9 7860 0 10 24759 (Int32.ofNat (m * 8253)) 7860 = some C1 from p1, bsome, h.w, show Int32.ofNat (m * 8253) + 7860 = Int32.ofNat (m * 8253 + 7860) from oN_A (b := 7860), p2, bsome, e8, m2, n2, wi_o (by omega) (by omega), bsome, mi_sI_ne (show 8 ≠ 11 by omega), e8, m2, oN_S, bsome]
      dsimp only
      rw [show rB 1 = some 1 from rfl, bsome, bsome]
      dsimp only
      rw [if_neg z10, mi_sI_k]
    generalize hM1 : sI (sI C2 11 m (Int32.ofNat n)) 8 4 (Int32.ofNat (m + 1)) = M1 at hcl
    have a1 : ∀ a, a ≠ 8 → a ≠ 10 → a ≠ 11 → mi M1 a = mi M a := fun a h1 h2 h3 => by rw [← hM1, mi_sI_ne h1, mi_sI_ne h3, o2.at h2, o1.at h2]
    have b8 : ∀ j, mi M1 8 j = if j = 4 then Int32.ofNat (m + 1) else mi M 8 j := fun j => by rw [← hM1, mi_sI, u1_at, mi_sI_ne (by omega), e8]
    have b11 : ∀ j, mi M1 11 j = if j = m then Int32.ofNat n else mi M 11 j := fun j => by rw [← hM1, mi_sI_ne (by omega), mi_sI, u1_at, o2.at (by omega), o1.at (by omega)]
    have b10 : mi M1 10 = mi C2 10 := by rw [← hM1, mi_sI_ne (by omega), mi_sI_ne (by omega)]
    obtain ⟨N', f1, f2, f3, f4, f5, f6⟩ := m_putsW (N := sI M1 76 0 0) (a := 220 + m) (LN220 (by omega)) (by omega)
    have g33 : mi N' 76 33 = Int32.ofNat m := by rw [f3 33 (by omega), mi_sI_o (by omega), a1 76 (by omega) (by omega) (by omega), m3]
    have hm9 : f_X10_image M1 = some (Int32.ofNat (m + 1), sI N' 76 33 (Int32.ofNat (m + 1))) := by
      unfold f_X10_image
      rw [mi_sI_o (by omega), a1 76 (by omega) (by omega) (by omega), m3, if_neg (show ¬ Int32.ofNat m = 3 from fun e => h0 ((oN_eq (i := m) (j := 3) (by omega) (by omega)).mp e)), ar_219 (by omega), bsome, f1, bsome, g33, oN_S, mi_sI_k]
    generalize hM2 : sI N' 76 33 (Int32.ofNat (m + 1)) = M2 at hm9
    have a2 : ∀ a, a ≠ 76 → a ≠ 220 + m → mi M2 a = mi M1 a := fun a h1 h2 => by rw [← hM2, mi_sI_ne h1, f2.at (by omega), mi_sI_ne h1]
    have e76 : ∀ j, j ≠ 0 → j ≠ 34 → mi M2 76 j = if j = 33 then Int32.ofNat (m + 1) else mi M 76 j := fun j h1 h2 => by rw [← hM2, mi_sI, u1_at, f3 j h2, mi_sI_o h1, a1 76 (by omega) (by omega) (by omega)]
    have e220 : mi M2 (220 + m) = mi N' (220 + m) := by rw [← hM2, mi_sI_ne (by omega)]
    have a3 : ∀ a, a ≠ 8 → a ≠ 10 → a ≠ 11 → a ≠ 76 → a ≠ 220 + m → mi M2 a = mi M a := fun a h1 h2 h3 h4 h5 => (a2 a h4 h5).trans (a1 a h1 h2 h3)
    have hr : mr M2 = mr M := by rw [← hM2, ← hM1] at *; exact f2.2.2.2.2.1.trans ((o2.2.2.2.2.1).trans o1.2.2.2.2.1)
    have hx : M2.1 = M.1 := by rw [← hM2, ← hM1] at *; exact f2.1.trans ((o2.1).trans o1.1)
    have e80 : mi M2 80 = mi M 80 := a3 80 (by omega) (by omega) (by omega) (by omega) (by omega)
    have etw := tw_eq e80
    have r0 : mi M2 (220 + m) 0 = Int32.ofNat n := by rw [e220, f4, mi_sI_o (by omega), a1 76 (by omega) (by omega) (by omega), n3]
    have r196 : ∀ k, k < 415 → mi M2 (220 + m) (1 + k) = mi M 196 k := fun k hk => by rw [e220, f5 k hk, mi_sI_ne (by omega), a1 196 (by omega) (by omega) (by omega)]
    have r199 : ∀ i, i < 20 → ∀ k, k < 415 → mi M2 (220 + m) (416 + 415 * i + k) = mi M (199 + i) k := fun i hi k hk => by rw [e220, f6 i hi k hk, mi_sI_ne (by omega), a1 (199 + i) (by omega) (by omega) (by omega)]
    have c10 : mi M2 10 = mi C2 10 := (a2 10 (by omega) (by omega)).trans b10
    have cold : ∀ i, i < m * 8253 → mi M2 10 i = mi M 10 i := fun i hi => by rw [c10, w2 i (by omega), w1 i (by omega)]
    have cb : ∀ t, t < 7860 → mi M2 10 (m * 8253 + t) = mi M 9 t := fun t ht => by rw [c10, w2 _ (by omega), v1 t ht, show 0 + t = t by omega]
    refine ⟨Int32.ofNat (m + 1), M1, M2, hcl, hm9, ⟨q, rr_step h hr (fun a ha => a3 a (by omega) (by omega) (by omega) (by omega) (by omega)) (fun j hj => by rw [e76 j (by omega) (by omega), if_neg (by omega)]) ?_ ?_ ?_⟩, ?_⟩
    · refine ⟨by rw [etw.1, etw.2, a3 196 (by omega) (by omega) (by omega) (by omega) (by omega)]; exact h.wd.1, ?_⟩
      rw [a3 196 (by omega) (by omega) (by omega) (by omega) (by omega)]
      exact h.wd.2.frame (fun j hj => a3 _ (by omega) (by omega) (by omega) (by omega) (by omega))
    · refine ⟨⟨n, n1, by rw [a2 8 (by omega) (by omega), b8, if_neg (by omega)]; exact n2, by rw [e76 31 (by omega) (by omega), if_neg (by omega)]; exact n3, fun i hi => ?_⟩, ⟨m + 1, by omega, by rw [a2 8 (by omega) (by omega), b8, if_pos rfl], by rw [e76 33 (by omega) (by omega), if_pos rfl], fun j hj => ?_⟩⟩
      · rw [etw.1, etw.2, a3 (199 + i) (by omega) (by omega) (by omega) (by omega) (by omega), a3 9 (by omega) (by omega) (by omega) (by omega) (by omega)]
        exact n4 i hi
      · by_cases ej : j = m
        · subst ej
          refine ⟨n, n1, by rw [a2 11 (by omega) (by omega), b11, if_pos rfl], r0, ⟨?_, ?_⟩, fun i hi => ⟨?_, ?_⟩⟩
          · rw [etw.1, etw.2]
            exact vr_eq h.wd.1 r196
          · refine ⟨M, q 2, rf_eq h.wd.1 r196 h.wd.2, ?_⟩
            refine pk_sam (f := fun k => mi C2 10 (j * 8253 + 7860 + k)) ?_ (fun k hk => by rw [c10, show 8253 * j + 7860 + k = j * 8253 + 7860 + k by omega])
            have hq : ∀ i, i ≤ 7 → mi C1 (q 2 + i) = mi M (q 2 + i) := fun i hi => o1.at (by omega)
            unfold PK at v2 ⊢
            rw [hq 1 (by omega), hq 2 (by omega), hq 3 (by omega), hq 4 (by omega), hq 5 (by omega), hq 6 (by omega), hq 7 (by omega), show mi C1 (q 2) = mi M (q 2) from hq 0 (by omega)] at v2
            exact v2
          · rw [etw.1, etw.2]
            exact vr_eq (n4 i hi).1 (r199 i (by omega))
          · exact rb_eq (n4 i hi).1 (n4 i hi).2 (fun k hk => by rw [show 8253 * j + 393 * i + k = j * 8253 + (393 * i + k) by omega, cb _ (by omega)]) (r199 i (by omega))
        · obtain ⟨nj, x1, x2, x3, ⟨x4, x5⟩, x6⟩ := m4 j (by omega)
          refine ⟨nj, x1, by rw [a2 11 (by omega) (by omega), b11, if_neg ej]; exact x2, ?_, ⟨?_, ?_⟩, fun i hi => ⟨?_, ?_⟩⟩
          · rw [a3 (220 + j) (by omega) (by omega) (by omega) (by omega) (by omega)]
            exact x3
          · rw [etw.1, etw.2, a3 (220 + j) (by omega) (by omega) (by omega) (by omega) (by omega)]
            exact x4
          · rw [a3 (220 + j) (by omega) (by omega) (by omega) (by omega) (by omega)]
            exact rb_eq x4 x5 (fun k hk => cold _ (by omega)) (fun _ _ => rfl)
          · rw [etw.1, etw.2, a3 (220 + j) (by omega) (by omega) (by omega) (by omega) (by omega)]
            exact (x6 i hi).1
          · rw [a3 (220 + j) (by omega) (by omega) (by omega) (by omega) (by omega)]
            exact rb_eq (x6 i hi).1 (x6 i hi).2 (fun k hk => cold _ (by omega)) (fun _ _ => rfl)
    · obtain ⟨c1, c2, c3, c4⟩ := h.cnt
      unfold Rc
      rw [a3 0 (by omega) (by omega) (by omega) (by omega) (by omega), a3 78 (by omega) (by omega) (by omega) (by omega) (by omega), e76 32 (by omega) (by omega), if_neg (by omega)]
      exact ⟨c1, c2, c3, c4⟩
    · unfold RM zX zS zN at r ⊢
      rw [hx]
      refine ⟨r.1, Nat.le_succ_of_le r.2.1, r.2.2.1, fun a j hj => ?_⟩
      by_cases ha : a = 220 + m
      · subst ha
        rcases hj with ⟨z, -⟩ | ⟨-, t, ht, rfl⟩
        · omega
        · by_cases t0 : t = 0
          · subst t0
            rw [show 364 + 415 * 0 = 1 + 363 by omega, r196 363 (by omega)]
            exact r.2.2.2.up _ _ (Or.inl ⟨Or.inl rfl, rfl⟩)
          · obtain ⟨t', rfl⟩ : ∃ t', t = t' + 1 := ⟨t - 1, by omega⟩
            rw [show 364 + 415 * (t' + 1) = 416 + 415 * t' + 363 by omega, r199 t' (by omega) 363 (by omega)]
            exact r.2.2.2.up _ _ (Or.inl ⟨Or.inr (by omega), rfl⟩)
      · rw [a3 a (by unfold yj at hj; omega) (by unfold yj at hj; omega) (by unfold yj at hj; omega) (by unfold yj at hj; omega) ha]
        exact r.2.2.2.up a j hj
end IM
