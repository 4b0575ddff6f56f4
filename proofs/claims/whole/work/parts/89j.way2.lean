/-! level 3: the way: the first best one -/
section WB
variable {k : Nat} {M : Mm} {q : Nat → Nat} {w h : Nat} {r : Nat → Int32} {C C' T N : Mm}
def wyS (w m : Nat) : Nat → Nat × Int64 × Nat × Nat
  | 0 => (0, 0, 0, 0)
  | j + 1 => if m.testBit j = true then ((wyS w m j).1 + (w - 1), (((10 : Int64) * (wyS w m j).2.1) + (Int32.ofNat j).toInt64) + (if (wyS w m j).2.2.2 = 0 then (0 : Int32) else (6 : Int32)).toInt64, j, if (wyS w m j).2.2.2 = 0 ∧ 0 < w - 1 then 1 else 0) else wyS w m j
theorem wp_yes : ∀ m : Nat, m < 64 → ∀ j : Nat, j < 6 → m.testBit j = true → popW (m % 2 ^ (j + 1)) = popW (m % 2 ^ j) + 1 ∧ topW (m % 2 ^ (j + 1)) = j := by decide +kernel
theorem wp_no : ∀ m : Nat, m < 64 → ∀ j : Nat, j < 6 → ¬ m.testBit j = true → m % 2 ^ (j + 1) = m % 2 ^ j := by decide +kernel
theorem wp_sum : ∀ m : Nat, m < 64 → ∀ j : Nat, j < 7 → popW (m % 2 ^ j) + popW (hiM m j) = popW m ∧ topW (m % 2 ^ j) + (topW (hiM m j) - topW (m % 2 ^ j)) = topW m ∧ topW (m % 2 ^ j) ≤ j ∧ topW (m % 2 ^ j) ≤ 5 := by decide +kernel
theorem wyS_cl {m : Nat} (hm : m < 64) : ∀ j, j ≤ 6 → (wyS w m j).1 = popW (m % 2 ^ j) * (w - 1) ∧ (wyS w m j).2.2.1 = topW (m % 2 ^ j) ∧ ((wyS w m j).2.2.2 = 0 ∨ ((wyS w m j).2.2.2 = 1 ∧ 0 < w - 1)) := by
  intro j
  induction j with
  | zero =>
    intro _
    rw [show m % 2 ^ 0 = 0 from Nat.mod_one m, wy_z.1, wy_z.2, Nat.zero_mul]
    exact ⟨rfl, rfl, Or.inl rfl⟩
  | succ j ih =>
    intro hj
    obtain ⟨a, b, c⟩ := ih (by omega)
    by_cases hb : m.testBit j = true
    · obtain ⟨e1, e2⟩ := wp_yes m hm j (by omega) hb
      rw [show wyS w m (j + 1) = _ from if_pos hb]
      dsimp only
      rw [e1, e2, a, Nat.succ_mul]
      refine ⟨rfl, rfl, ?_⟩
      by_cases hf : (wyS w m j).2.2.2 = 0 ∧ 0 < w - 1
      · rw [if_pos hf]
        exact Or.inr ⟨rfl, hf.2⟩
      · rw [if_neg hf]
        exact Or.inl rfl
    · rw [show wyS w m (j + 1) = _ from if_neg hb, wp_no m hm j (by omega) hb]
      exact ⟨a, b, c⟩
theorem k_wayL {x3 x4 : Int32} {m : Nat} {a1 : Nat} (hm : m < 64) (h3 : x3 = Int32.ofNat m) (hw : 1 ≤ w ∧ w ≤ 8) (h4 : x4 = Int32.ofNat (w - 1)) : whl fu (f_X0_planWay_b28 a1 x3 x4 C) (0, 0, 0, 0, 0) = some (Int32.ofNat (wyS w m 6).1, (wyS w m 6).2.1, Int32.ofNat (wyS w m 6).2.2.1) := by
  subst h3 h4
  refine whl_eq (f := f_X0_planWay_b28 a1 (Int32.ofNat m) (Int32.ofNat (w - 1)) C) (e := (Int32.ofNat (wyS w m 6).1, (wyS w m 6).2.1, Int32.ofNat (wyS w m 6).2.2.1)) 6 fu (fun j => (Int32.ofNat (wyS w m j).1, (wyS w m j).2.1, Int32.ofNat (wyS w m j).2.2.1, Int32.ofNat (wyS w m j).2.2.2, Int32.ofNat j)) (by decide) (fun j hj => ?_) ?_
  · try dsimp only
    obtain ⟨-, -, c3⟩ := wyS_cl (w := w) hm j (by omega)
    unfold f_X0_planWay_b28 f_X0_planWay_j94 f_X0_planWay_j95
    dsimp only
    rw [if_neg (show ¬ (6 : Int32) ≤ Int32.ofNat j from nle (n := 6) hj (by omega)), wy_bit m hm j hj, oN_S]
    by_cases hb : m.testBit j = true
    · rw [if_pos hb, if_neg z10, show wyS w m (j + 1) = _ from if_pos hb, oN_A, Int64.mul_comm]
      dsimp only
      rcases c3 with c3 | ⟨c3, c4⟩
      · rw [c3, if_pos (show Int32.ofNat 0 = 0 from rfl), if_pos (show Int32.ofNat 0 = 0 from rfl), if_pos rfl]
        by_cases h0 : 0 < w - 1
        · rw [if_neg (show ¬ Int32.ofNat (w - 1) ≤ 0 from nle (n := w - 1) (i := 0) h0 (by omega)), if_pos ⟨rfl, h0⟩]
          rfl
        · rw [if_pos (show Int32.ofNat (w - 1) ≤ 0 by rw [show w - 1 = 0 by omega]; decide), if_neg (fun z => h0 z.2)]
          rfl
      · rw [c3, if_neg (show ¬ Int32.ofNat 1 = 0 by decide), if_neg (show ¬ Int32.ofNat 1 = 0 by decide), if_neg (show ¬ 1 = 0 by decide), if_neg (show ¬ (1 = 0 ∧ 0 < w - 1) from fun z => absurd z.1 (by decide))]
        rfl
    · rw [if_neg hb, if_pos z00, show wyS w m (j + 1) = _ from if_neg hb]
  · try dsimp only
    unfold f_X0_planWay_b28
    dsimp only
    rw [if_pos (show (6 : Int32) ≤ Int32.ofNat 6 from le_rf _)]
def better (K : Nat) (N : Mm) : Prop := mi N 76 38 = -1 ∨ ∃ B : Nat, B ≤ 100000 ∧ mi N 76 38 = Int32.ofNat B ∧ K < B
theorem better.ok {K : Nat} (h : better K N) : okW N := h.elim Or.inl (fun ⟨B, b1, b2, _⟩ => Or.inr ⟨B, b1, b2⟩)
theorem better.rel {K K' : Nat} (h : better K N) (hR : RelK K' N C) (hk : K < K') : better K C := by
  rcases hR.2 with ⟨a, -⟩ | ⟨B, b1, b2, b3, -⟩
  · unfold better
    rw [a]
    exact h
  · exact Or.inr ⟨B, b1, b3, by omega⟩
theorem way_B {m : Nat} (hm : m < 2 ^ h) (hw : 1 ≤ w ∧ w ≤ 8) (hh : 1 ≤ h ∧ h ≤ 6) : ∀ t j n : Nat, j + t = 6 → popW (hiM m j) < n → ∀ N : Mm, wEnv N w h → better (LBw w m 0 0) N → ∃ N', R_X10_ways n 0 (Int32.ofNat (hiM m j)) (Int32.ofNat (if (wyS w m j).2.2.2 = 0 then 0 else w - 1)) (Int32.ofNat (wyS w m j).2.2.1) (Int32.ofNat ((wyS w m j).1 + (wyS w m j).2.2.1)) (wyS w m j).2.1 N = some N' ∧ WF N N' ∧ mi N' 76 38 = Int32.ofNat (LBw w m 0 0) ∧ ml N' 76 39 = (wyS w m 6).2.1 := by
  have h64 := two64 hh.2 hm
  have pt := wy_pt m h64
  have hKb : LBw w m 0 0 ≤ 100000 := by
    unfold LBw
    have : popW m * (w - 1) ≤ 6 * 8 := Nat.mul_le_mul pt.1 (by omega)
    omega
  have hKv : LBw w m 0 0 = popW m * (w - 1) + topW m := by unfold LBw; omega
  intro t
  induction t with
  | zero =>
    intro j n hj hp N hE hbt
    have : j = 6 := by omega
    subst this
    obtain ⟨n, rfl⟩ : ∃ n', n = n' + 1 := ⟨n - 1, by omega⟩
    obtain ⟨c1, c2, -⟩ := wyS_cl (w := w) h64 6 (by omega)
    obtain ⟨s1, s2, -, -⟩ := wp_sum m h64 6 (by omega)
    have e0 := hi_6 m h64
    rw [e0, wy_z.1] at s1
    rw [e0, wy_z.2] at s2
    have hc : (wyS w m 6).1 + (wyS w m 6).2.2.1 = LBw w m 0 0 := by
      rw [c1, c2, hKv, show popW (m % 2 ^ 6) = popW m by omega, show topW (m % 2 ^ 6) = topW m by omega]
    rw [e0, hc]
    show ∃ N', fb_X10_ways (R_X10_ways n) _ _ _ _ _ N = some N' ∧ _
    have hl : ∃ N', f_X10_ways_j18 (R_X10_ways n) (Int32.ofNat 0) (Int32.ofNat (if (wyS w m 6).2.2.2 = 0 then 0 else w - 1)) (Int32.ofNat (wyS w m 6).2.2.1) (Int32.ofNat (LBw w m 0 0)) (wyS w m 6).2.1 N = some N' ∧ WF N N' ∧ mi N' 76 38 = Int32.ofNat (LBw w m 0 0) ∧ ml N' 76 39 = (wyS w m 6).2.1 := by
      unfold f_X10_ways_j18
      rw [if_pos (show Int32.ofNat 0 = 0 from rfl)]
      exact ⟨_, rfl, ⟨oml_sl (oml_si Oml.refl rfl) rfl, fun j hj => (show mi (sI N 76 38 (Int32.ofNat (LBw w m 0 0))) 76 j = mi N 76 j from mi_sI_o hj)⟩, (show mi (sI N 76 38 (Int32.ofNat (LBw w m 0 0))) 76 38 = _ from mi_sI_k), ml_sL_k⟩
    unfold fb_X10_ways
    rcases hbt with h9 | ⟨B, b1, b2, b3⟩
    · rw [if_pos h9]
      exact hl
    · rw [b2, if_neg (nm1 b1), if_pos ((oN_lt (by omega) (by omega)).mpr b3)]
      exact hl
  | succ t ih =>
    intro j n hj hp N hE hbt
    by_cases hb : m.testBit j = true
    · obtain ⟨n, rfl⟩ : ∃ n', n = n' + 1 := ⟨n - 1, by omega⟩
      have hjh : j < h := by
        by_cases hj9 : j < h
        · exact hj9
        · rw [Nat.testBit_lt_two_pow (Nat.lt_of_lt_of_le hm (Nat.pow_le_pow_right (by decide) (by omega)))] at hb
          exact absurd hb (by decide)
      obtain ⟨c1, c2, c3⟩ := wyS_cl (w := w) h64 j (by omega)
      obtain ⟨s1, s2, s3, s4⟩ := wp_sum m h64 j (by omega)
      obtain ⟨g1, g2⟩ := hi_yes m h64 j (by omega) hb
      have g3 := hi_top m h64 j (by omega) hb (wyS w m j).2.2.1 (by rw [c2]; exact s3)
      have g4 := hi_le m h64 j (by omega)
      have g5 := wy_pop (hiM m j) (by omega) j (by omega) g2
      rw [g1] at g5
      have ihj := ih (j + 1) n (by omega) (by omega)
      rw [show wyS w m (j + 1) = _ from if_pos hb] at ihj
      dsimp only at ihj
      have hmj : hiM m j < 2 ^ h := Nat.lt_of_le_of_lt g4 hm
      generalize hd : (wyS w m j).2.1 = d at ihj ⊢
      generalize hy : (wyS w m j).2.2.1 = y at c2 g3 ihj ⊢
      generalize hcl : (wyS w m j).1 = cl at c1 ihj ⊢
      generalize hf : (wyS w m j).2.2.2 = fl at c3 ihj ⊢
      have hy5 : y ≤ 5 := by omega
      have hyj : y ≤ j := by omega
      -- the bound is the same at this state
      have hLB : LBw w (hiM m j) y (cl + y) = LBw w m 0 0 := by
        rw [hKv, ← s1, Nat.add_mul, ← s2, ← c1, ← c2]
        unfold LBw
        omega
      have hcK : cl + y ≤ LBw w m 0 0 := by rw [← hLB]; unfold LBw; omega
      have hcl9 : cl ≤ 48 := by
        rw [c1]
        exact Nat.le_trans (Nat.mul_le_mul (show popW (m % 2 ^ j) ≤ 6 by omega) (show w - 1 ≤ 8 by omega)) (by decide)
      have hcost : cl + y + 40 * popW (hiM m j) ≤ 1000 := by omega
      have hxw : (if fl = 0 then 0 else w - 1) < w := by
        by_cases h0 : fl = 0
        · rw [if_pos h0]; omega
        · rw [if_neg h0]; omega
      have hnab : nab y j = j - y := by unfold nab; omega
      have hends : ∃ N', whl fu (f_X10_ways_b64 (R_X10_ways n) (Int32.ofNat (hiM m j)) (Int32.ofNat (if fl = 0 then 0 else w - 1)) (Int32.ofNat y) (Int32.ofNat (cl + y)) d (Int32.ofNat j)) (0, N) = some N' ∧ WF N N' ∧ mi N' 76 38 = Int32.ofNat (LBw w m 0 0) ∧ ml N' 76 39 = (wyS w m 6).2.1 := by
        have two : ∀ N1 N2, f_X10_ways_j87 (R_X10_ways n) (Int32.ofNat (hiM m j)) (Int32.ofNat (if fl = 0 then 0 else w - 1)) (Int32.ofNat y) (Int32.ofNat (cl + y)) d (Int32.ofNat j) 0 (Int32.ofNat 0) N = some (.inl (0 + 1, N1)) → wEnv N1 w h → f_X10_ways_j87 (R_X10_ways n) (Int32.ofNat (hiM m j)) (Int32.ofNat (if fl = 0 then 0 else w - 1)) (Int32.ofNat y) (Int32.ofNat (cl + y)) d (Int32.ofNat j) 1 (Int32.ofNat (w - 1)) N1 = some (.inl (1 + 1, N2)) → whl fu (f_X10_ways_b64 (R_X10_ways n) (Int32.ofNat (hiM m j)) (Int32.ofNat (if fl = 0 then 0 else w - 1)) (Int32.ofNat y) (Int32.ofNat (cl + y)) d (Int32.ofNat j)) (0, N) = some N2 := fun N1 N2 e1 hE1 e2 => by
          have a0 : ai N1 80 10 0 = some (mi N1 80 0) := ai_o (i := 0) (by omega) (by omega)
          show whl (999997 + 1 + 1 + 1) _ _ = _
          rw [whl_s (s' := (1, N1)) (by
            unfold f_X10_ways_b64
            dsimp only
            rw [if_neg (show ¬ (2 : Int32) ≤ 0 by decide), if_pos rfl]
            exact e1), whl_s (s' := (2, N2)) (by
            unfold f_X10_ways_b64
            dsimp only
            rw [if_neg (show ¬ (2 : Int32) ≤ 1 by decide), if_neg z10, a0, bsome, hE1.1.2.2, oN_pred (by omega) (by omega)]
            exact e2)]
          exact whl_e (by unfold f_X10_ways_b64; dsimp only; rw [if_pos (by decide)])
        rcases c3 with c3 | ⟨c3, c4⟩
        · -- from the left end
          subst c3
          rw [show (if (0 : Nat) = 0 then 0 else w - 1) = 0 from if_pos rfl] at two ⊢
          rw [show (if (0 : Nat) = 0 then (0 : Int32) else 6) = 0 from if_pos rfl] at ihj
          have hx' : (if (if (0 : Nat) = 0 ∧ 0 < w - 1 then 1 else 0) = 0 then 0 else w - 1) = w - 1 - 0 := by
            by_cases h0 : 0 < w - 1
            · rw [show (if (0 : Nat) = 0 ∧ 0 < w - 1 then 1 else 0) = 1 from if_pos ⟨rfl, h0⟩]
              exact if_neg (by decide)
            · rw [show (if (0 : Nat) = 0 ∧ 0 < w - 1 then 1 else 0) = 0 from if_neg (fun z => h0 z.2)]
              exact (if_pos rfl).trans (by omega)
          obtain ⟨N1, p1, p2, p3, p4⟩ := ihj N hE hbt
          have j0 : f_X10_ways_j87 (R_X10_ways n) (Int32.ofNat (hiM m j)) (Int32.ofNat 0) (Int32.ofNat y) (Int32.ofNat (cl + y)) d (Int32.ofNat j) 0 (Int32.ofNat 0) N = some (.inl (0 + 1, N1)) := by
            rw [way_j87 hE (by omega) (by omega) g2 (by omega) (by omega) (by omega), g1, show cl + y + (nab 0 0 + nab y j) + (w - 1) = cl + (w - 1) + j by rw [hnab]; unfold nab; omega, show ((6 : Int32) * 0) = 0 by decide]
            rw [hx'] at p1
            rw [p1, bsome]
          obtain ⟨N2, q1, q2⟩ := way_child (x := 0) (y := y) (c := cl + y) (x8 := 1) (xs := w - 1) (d := d) (way_C n) hmj hp hjh g2 (by omega) (by omega) (by omega) hcost (hE.of p2) (Or.inr ⟨_, hKb, p3⟩)
          have q3 := q2.mono (LB_child (x := 0) (xs := w - 1) (w := w) (c := cl + y) (by omega) (by omega) g2 (by omega))
          rw [hLB] at q3
          obtain ⟨t1, t2⟩ := q3.sat p3 hKb
          exact ⟨N2, two N1 N2 j0 (hE.of p2) q1, p2.trans q2.1, t1, t2.trans p4⟩
        · -- from the right end
          subst c3
          rw [show (if (1 : Nat) = 0 then 0 else w - 1) = w - 1 from if_neg (by decide)] at two ⊢
          rw [show (if (1 : Nat) = 0 then (0 : Int32) else 6) = 6 from if_neg (by decide), show (if (1 : Nat) = 0 ∧ 0 < w - 1 then 1 else 0) = 0 from if_neg (fun z => absurd z.1 (by decide)), show (if (0 : Nat) = 0 then 0 else w - 1) = 0 from if_pos rfl] at ihj
          obtain ⟨N1, q1, q2⟩ := way_child (x := w - 1) (y := y) (c := cl + y) (x8 := 0) (xs := 0) (d := d) (way_C n) hmj hp hjh g2 (by omega) (by omega) (by omega) hcost hE hbt.ok
          have hK0 : LBw w m 0 0 < LBw w (hiM m j - 2 ^ j) j (cl + y + (nab (w - 1) 0 + nab y j) + (w - 1)) := by
            rw [← hLB, g1]
            unfold LBw
            rw [g5, Nat.succ_mul, g3]
            unfold nab
            omega
          have hbt1 := hbt.rel q2 hK0
          obtain ⟨N2, p1, p2, p3, p4⟩ := ihj N1 (hE.of q2.1) hbt1
          have j1 : f_X10_ways_j87 (R_X10_ways n) (Int32.ofNat (hiM m j)) (Int32.ofNat (w - 1)) (Int32.ofNat y) (Int32.ofNat (cl + y)) d (Int32.ofNat j) 1 (Int32.ofNat (w - 1)) N1 = some (.inl (1 + 1, N2)) := by
            rw [way_j87 (hE.of q2.1) (by omega) (by omega) g2 (by omega) (by omega) (by omega), g1, show cl + y + (nab (w - 1) (w - 1) + nab y j) + (w - 1) = cl + (w - 1) + j by rw [hnab]; unfold nab; omega, show w - 1 - (w - 1) = 0 by omega, show ((6 : Int32) * 1) = 6 by decide, p1, bsome]
          exact ⟨N2, two N1 N2 q1 (hE.of q2.1) j1, q2.1.trans p2, p3, p4⟩
      obtain ⟨Nj, u1', u2, u3, u4⟩ := hends
      show ∃ N', fb_X10_ways (R_X10_ways n) _ _ _ _ _ N = some N' ∧ _
      have hl : ∃ N', f_X10_ways_j18 (R_X10_ways n) (Int32.ofNat (hiM m j)) (Int32.ofNat (if fl = 0 then 0 else w - 1)) (Int32.ofNat y) (Int32.ofNat (cl + y)) d N = some N' ∧ WF N N' ∧ mi N' 76 38 = Int32.ofNat (LBw w m 0 0) ∧ ml N' 76 39 = (wyS w m 6).2.1 := by
        have hn0 : ¬ hiM m j = 0 := fun e => by
          rw [e, Nat.zero_testBit] at g2
          exact absurd g2 (by decide)
        unfold f_X10_ways_j18
        rw [if_neg (show ¬ Int32.ofNat (hiM m j) = 0 from fun e => hn0 ((oN_eq (i := hiM m j) (j := 0) (by omega) (by omega)).mp e))]
        obtain ⟨N', e1, e2⟩ := whl_ex (f := f_X10_ways_b38 (R_X10_ways n) (Int32.ofNat (hiM m j)) (Int32.ofNat (if fl = 0 then 0 else w - 1)) (Int32.ofNat y) (Int32.ofNat (cl + y)) d) (fun z st => ∃ N1, st = (Int32.ofNat z, N1) ∧ ((z ≤ j ∧ N1 = N) ∨ (j < z ∧ WF N N1 ∧ mi N1 76 38 = Int32.ofNat (LBw w m 0 0) ∧ ml N1 76 39 = (wyS w m 6).2.1))) (fun N1 => WF N N1 ∧ mi N1 76 38 = Int32.ofNat (LBw w m 0 0) ∧ ml N1 76 39 = (wyS w m 6).2.1) h fu (0, N) (by show h < 1000000; omega) ⟨N, rfl, Or.inl ⟨by omega, rfl⟩⟩ (by
          rintro z st hz ⟨N1, rfl, hI⟩
          refine Or.inl ?_
          have hE1 : wEnv N1 w h := by
            rcases hI with ⟨-, rfl⟩ | ⟨-, i2, -, -⟩
            · exact hE
            · exact hE.of i2
          have a1 : ai N1 80 10 1 = some (mi N1 80 1) := ai_o (i := 1) (by omega) (by omega)
          unfold f_X10_ways_b38
          dsimp only
          rw [a1, bsome, hE1.2.2.2, if_neg (nle hz (by omega)), wy_bit _ (by omega) z (by omega), oN_S]
          by_cases hzj : z < j
          · rw [hi_low m h64 j (by omega) z hzj, if_neg (show ¬ false = true by decide), if_pos z00]
            rcases hI with ⟨-, i2⟩ | ⟨i1, -⟩
            · exact ⟨_, rfl, N1, rfl, Or.inl ⟨by omega, i2⟩⟩
            · omega
          · by_cases hze : z = j
            · subst hze
              rcases hI with ⟨-, rfl⟩ | ⟨i1, -⟩
              · rw [if_pos g2, if_neg z10, u1', bsome]
                exact ⟨_, rfl, Nj, rfl, Or.inr ⟨by omega, u2, u3, u4⟩⟩
              · omega
            · rcases hI with ⟨i1, -⟩ | ⟨i1, i2, i3, i4⟩
              · omega
              · by_cases hb2 : (hiM m j).testBit z = true
                · rw [if_pos hb2, if_neg z10]
                  obtain ⟨N2, p1, p2⟩ := way_ends (y := y) (c := cl + y) (d := d) (way_C n) hmj hp hz hb2 hxw (by omega) hcost hE1 (Or.inr ⟨_, hKb, i3⟩)
                  rw [p1, bsome]
                  rw [hLB] at p2
                  obtain ⟨t1, t2⟩ := p2.sat i3 hKb
                  exact ⟨_, rfl, N2, rfl, Or.inr ⟨by omega, i2.trans p2.1, t1, t2.trans i4⟩⟩
                · rw [if_neg hb2, if_pos z00]
                  exact ⟨_, rfl, N1, rfl, Or.inr ⟨by omega, i2, i3, i4⟩⟩) (by
          rintro st ⟨N1, rfl, hI⟩
          rcases hI with ⟨i1, -⟩ | ⟨i1, i2, i3, i4⟩
          · omega
          · have hE1 := hE.of i2
            have a1 : ai N1 80 10 1 = some (mi N1 80 1) := ai_o (i := 1) (by omega) (by omega)
            refine ⟨N1, ?_, i2, i3, i4⟩
            unfold f_X10_ways_b38
            dsimp only
            rw [a1, bsome, hE1.2.2.2, if_pos (le_rf _)])
        rw [show whl fu (f_X10_ways_b38 (R_X10_ways n) (Int32.ofNat (hiM m j)) (Int32.ofNat (if fl = 0 then 0 else w - 1)) (Int32.ofNat y) (Int32.ofNat (cl + y)) d) (0, N) = some N' from e1]
        exact ⟨N', rfl, e2⟩
      unfold fb_X10_ways
      rcases hbt with h9 | ⟨B, b1, b2, b3⟩
      · rw [if_pos h9]
        exact hl
      · rw [b2, if_neg (nm1 b1), if_pos ((oN_lt (by omega) (by omega)).mpr (by omega))]
        exact hl
    · have e1 := hi_no m h64 j (by omega) hb
      have e2 : wyS w m (j + 1) = wyS w m j := if_neg hb
      have := ih (j + 1) n (by omega) (by rw [← e1]; exact hp) N hE hbt
      rw [← e1, e2] at this
      exact this
end WB
