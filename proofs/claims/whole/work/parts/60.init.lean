/-! level 3: the start -/
def q0L : Nat → Nat := fun i => ([28, 38, 48, 56, 64, 68, 30, 34, 40, 44, 72] : List Nat).getD i 0
theorem ini_r : mr mLw 0 5 = some 28 ∧ mr mLw 0 6 = some 38 ∧ mr mLw 0 7 = some 48 ∧ mr mLw 0 8 = some 56 ∧ mr mLw 0 9 = some 64 ∧ mr mLw 0 10 = some 68 ∧ mr mLw 0 11 = some 72 := by decide +kernel
theorem ini_r2 : mr mLw 28 1 = some 30 ∧ mr mLw 28 2 = some 34 ∧ mr mLw 38 1 = some 40 ∧ mr mLw 38 2 = some 44 := by decide +kernel
theorem ini_tp : mi mLw 1 1 = 0 ∧ mi mLw 76 1 = 0 ∧ mi mLw 1 6 = mi mLw 76 3 := by decide +kernel
theorem ini_by : ∀ k, k < 600 → mi mLw 2 k &&& 255 = mi mLw 77 k := by decide +kernel
theorem ini_gt : (mi mLw 80 0 = 6 ∧ mi mLw 80 1 = 4 ∧ mi mLw 80 3 = 2 ∧ mi mLw 80 4 = 4 ∧ mi mLw 80 5 = 1 ∧ mi mLw 80 6 = 3 ∧ mi mLw 80 7 = 1 ∧ mi mLw 80 8 = 12 ∧ mi mLw 80 9 = 5) := by decide +kernel
theorem ini_gd : (mi mLw 28 3 = 6 ∧ mi mLw 28 4 = 4 ∧ mi mLw 28 5 = 2 ∧ mi mLw 28 6 = 4 ∧ mi mLw 28 7 = 1 ∧ mi mLw 28 8 = 3 ∧ mi mLw 28 9 = 1 ∧ mi mLw 28 10 = 12 ∧ mi mLw 28 11 = 5) := by decide +kernel
theorem ini_so : ∀ c, c < 48 → mi mLw 29 c = 5 ∧ mi mLw 82 c = 5 := by decide +kernel
theorem ini_lw : mi mLw 114 0 = 0 ∧ mi mLw 114 1 = 0 ∧ mi mLw 30 3 = 3 ∧ mi mLw 31 0 = 1000 ∧ mi mLw 31 1 = 2 ∧ mi mLw 31 2 = -42 ∧ mi mLw 34 3 = 1 ∧ mi mLw 35 0 = 0 := by decide +kernel
theorem ini_ro : ∀ j, j < 415 → mi mLw 196 j = 0 := by decide +kernel
theorem ini_wd : ∀ j, j < 16 → 7 ≤ j → mi mLw 48 j = 0 := by decide +kernel
theorem ini_wc : ∀ c, c < 48 → mi mLw 53 c = 0 ∧ mi mLw 54 c = 0 ∧ mi mLw 55 c = 0 := by decide +kernel
theorem ini_ct : mi mLw 8 3 = 0 ∧ mi mLw 8 4 = 0 ∧ mi mLw 76 30 = 0 ∧ mi mLw 76 31 = 0 ∧ mi mLw 76 33 = 0 ∧ mi mLw 64 3 = 0 ∧ mi mLw 0 12 = mi mLw 76 32 ∧ mi mLw 0 13 = mi mLw 78 0 ∧ mi mLw 0 14 = mi mLw 78 1 ∧ mi mLw 0 15 = mi mLw 78 2 := by decide +kernel
theorem ini_zz : zN mLw = 276 ∧ zX mLw = 0 ∧ zS mLw ≤ 200000 := by decide +kernel
theorem ini_y1 : ∀ i, i < 20 → mi mLw (199 + i) 363 = 0 := by decide +kernel
theorem ini_y2 : ∀ i, i < 3 → ∀ t, t < 21 → mi mLw (220 + i) (364 + 415 * t) = 0 := by decide +kernel
theorem ini_yb : YB 0 mLw := by
  intro a j hj
  refine ⟨0, by omega, by omega, ?_⟩
  rcases hj with ⟨ha, rfl⟩ | ⟨ha, t, ht, rfl⟩
  · rcases ha with rfl | ha
    · exact ini_ro 363 (by omega)
    · have := ini_y1 (a - 199) (by omega)
      rw [show 199 + (a - 199) = a by omega] at this
      exact this
  · have := ini_y2 (a - 220) (by omega) t (by omega)
    rw [show 220 + (a - 220) = a by omega] at this
    exact this
theorem inv_init : INV 0 mLw := by
  obtain ⟨g0, g1, g3, g4, g5, g6, g7, g8, g9⟩ := ini_gt
  obtain ⟨d3, d4, d5, d6, d7, d8, d9, d10, d11⟩ := ini_gd
  obtain ⟨l0, l1, l2, l3, l4, l5, l6, l7⟩ := ini_lw
  obtain ⟨c1, c2, c3, c4, c5, c6, c7, c8, c9, c10⟩ := ini_ct
  have etw : tw mLw = 6 := by unfold tw; rw [g0]; rfl
  have eth : th mLw = 4 := by unfold th; rw [g1]; rfl
  have en : rN (mi mLw 196) = 0 := by unfold rN; rw [ini_ro 360 (by omega)]; rfl
  have hV : VR 6 4 (mi mLw 196) := by
    refine ⟨by omega, ⟨by omega, by rw [en, ini_ro 360 (by omega)]; rfl⟩, fun k hk => by omega, ?_, fun c hc => Or.inl (ini_ro _ (by omega))⟩
    rw [ini_ro 361 (by omega), ini_ro 362 (by omega)]
    decide
  have s0 : ∀ f : Nat → Int32, sm (rN (mi mLw 196)) f = 0 := fun f => by rw [en]; rfl
  refine ⟨⟨q0L, ?_, ⟨⟨0, by omega, ini_tp.1, ini_tp.2.1⟩, ini_by, ini_tp.2.2⟩, ?_, ?_, ?_, ?_, ⟨⟨0, by omega, c1, c4, fun i hi => by omega⟩, ⟨0, by omega, c2, c5, fun j hj => by omega⟩⟩, ⟨0, by omega, c6, c3, fun i hi => by omega⟩, ⟨c7, c8, c9, c10⟩⟩, ini_zz.1, by rw [ini_zz.2.1]; omega, by have := ini_zz.2.2; omega, ini_yb⟩
  · refine ⟨ini_r, ini_r2, by decide, by decide, by decide, fun i h1 h2 => ?_, fun i j h1 h2 h3 => ?_⟩
    · have h9 : i = 6 ∨ i = 7 ∨ i = 8 ∨ i = 9 ∨ i = 10 := by omega
      unfold isL
      rcases h9 with rfl | rfl | rfl | rfl | rfl <;> decide
    · have h9 : i = 6 ∨ i = 7 ∨ i = 8 ∨ i = 9 ∨ i = 10 := by omega
      have h8 : j = 6 ∨ j = 7 ∨ j = 8 ∨ j = 9 ∨ j = 10 := by omega
      rcases h9 with rfl | rfl | rfl | rfl | rfl <;> rcases h8 with rfl | rfl | rfl | rfl | rfl <;> first | (exfalso; omega) | decide
  · refine ⟨⟨⟨by omega, by omega, by rw [etw, g0]; rfl⟩, ⟨by omega, by omega, by rw [eth, g1]; rfl⟩, ⟨2, by omega, by omega, g3⟩, ⟨4, by omega, by omega, g4⟩, ⟨1, by omega, by omega, g5⟩, ⟨3, by omega, by omega, g6⟩, ⟨1, by omega, by omega, g7⟩, ⟨12, by omega, by omega, g8⟩, ⟨5, by omega, by omega, g9⟩⟩, ⟨d3.trans g0.symm, d4.trans g1.symm, d5.trans g3.symm, d6.trans g4.symm, d7.trans g5.symm, d8.trans g6.symm, d9.trans g7.symm, d10.trans g8.symm, d11.trans g9.symm⟩, fun c hc => ⟨(ini_so c hc).1.trans (ini_so c hc).2.symm, ⟨5, by omega, by omega, (ini_so c hc).2⟩⟩⟩
  · exact Or.inl ⟨l0, Or.inl ⟨rfl, l2, l3, l4, l5⟩⟩
  · exact Or.inl ⟨l1, Or.inr ⟨rfl, l6, l7⟩⟩
  · refine ⟨by rw [etw, eth]; exact hV, ⟨⟨(ini_wd 8 (by omega) (by omega)).trans (ini_ro 360 (by omega)).symm, (ini_wd 9 (by omega) (by omega)).trans (ini_ro 363 (by omega)).symm, ?_, (ini_wd 12 (by omega) (by omega)).trans (ini_ro 364 (by omega)).symm, (ini_wd 13 (by omega) (by omega)).trans (ini_ro 365 (by omega)).symm, (ini_wd 14 (by omega) (by omega)).trans (ini_ro 366 (by omega)).symm, (ini_wd 7 (by omega) (by omega)).trans (s0 _).symm⟩, fun k hk => by omega, fun c hc => ⟨(ini_wc c hc).1.trans (ini_ro _ (by omega)).symm, (ini_wc c hc).2.2.trans (s0 _).symm⟩⟩, (ini_wd 11 (by omega) (by omega)).trans (s0 _).symm, (ini_wd 15 (by omega) (by omega)).trans (s0 _).symm, fun c hc => (ini_wc c hc).2.1.trans (s0 _).symm⟩
    rw [ini_ro 361 (by omega), ini_ro 362 (by omega)]
    exact ini_wd 10 (by omega) (by omega)
