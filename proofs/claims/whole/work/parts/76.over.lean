/-! level 3: stops: the reference over sets -/
section SW
def stR (T : Mm) (r : Nat → Int32) (y : Nat) : Nat → Int32 × Int32
  | 0 => (-1, 0)
  | n + 1 => if anN (Lt T r y) (rN r) = 0 then (0, 0) else if (stT T r y n).2 = 0 then (-1, 0) else (Int32.ofNat (stT T r y n).2, (stT T r y n).1)
theorem soV_0 {T : Mm} {r : Nat → Int32} {y m : Nat} (h : anN (Lt T r y) (rN r) = 0) : soV T r y m = mi T 80 6 * onesV m := by
  unfold soV
  rw [sm_zero (fun i hi => if_neg (an_no _ h i hi)), Int32.add_zero]
theorem m_stopsL {N : Mm} {y w h : Nat} {x2 : Int32} (hT : RGt N) (hV : VR w h (mi N 196)) (hy : y < 48) : whl fu (f_X10_stops_b54 (Int32.ofNat y) x2 N) (-1, 0, 0) = some (stR N (mi N 196) y (2 ^ tw N)) := by
  have t8 := hT.1.2.1
  have hp : 2 ^ tw N ≤ 256 := Nat.pow_le_pow_right (i := tw N) (j := 8) (by decide) t8
  have a0 : ai N 80 10 0 = some (mi N 80 0) := ai_o (i := 0) (by omega) (by omega)
  exact whl_eq (f := f_X10_stops_b54 (Int32.ofNat y) x2 N) (e := stR N (mi N 196) y (2 ^ tw N)) (2 ^ tw N) fu (fun m => ((stR N (mi N 196) y m).1, (stR N (mi N 196) y m).2, Int32.ofNat m)) (by show 2 ^ tw N < 1000000; omega) (fun m hm => by
    try dsimp only
    unfold f_X10_stops_b54 f_X10_stops_j116
    dsimp only
    rw [a0, bsome, hT.1.2.2, w_shift _ (by omega), if_neg (nle hm (by omega)), oN_S]
    by_cases hm0 : m = 0
    · subst hm0
      rw [m_stopsBy0 hT hV hy, bsome]
      by_cases h0 : anN (Lt N (mi N 196) y) (rN (mi N 196)) = 0
      · rw [if_pos h0, if_neg (show ¬ (0 : Int32) = -1 by decide), if_pos (show (stR N (mi N 196) y 0).1 = -1 from rfl), show stR N (mi N 196) y (0 + 1) = (0, 0) from if_pos h0]
        rfl
      · rw [if_neg h0, if_pos rfl, show stR N (mi N 196) y (0 + 1) = (-1, 0) from (if_neg h0).trans (if_pos rfl)]
        rfl
    · obtain ⟨n, rfl⟩ : ∃ n, m = n + 1 := ⟨m - 1, by omega⟩
      obtain ⟨K, k1, k2⟩ := soV_nn (y := y) hT hV hm0 (show n + 1 < 256 by omega)
      have hne : ¬ soV N (mi N 196) y (n + 1) = -1 := by rw [k2]; exact fun e => oN_nn (i := K) (by omega) (by rw [e]; decide)
      have hb := stT_le (T := N) (r := mi N 196) (y := y) n
      rw [m_stopsBy hT hV hy hm0 hm, bsome, if_neg hne]
      by_cases h0 : anN (Lt N (mi N 196) y) (rN (mi N 196)) = 0
      · rw [show stR N (mi N 196) y (n + 1) = (0, 0) from if_pos h0, show stR N (mi N 196) y (n + 1 + 1) = (0, 0) from if_pos h0, if_neg (show ¬ ((0 : Int32), (0 : Int32)).1 = -1 by decide)]
        dsimp only
        have hz : (0 : Int32) ≤ soV N (mi N 196) y (n + 1) := by rw [k2]; exact (show Int32.ofNat 0 ≤ Int32.ofNat K from (oN_le (by omega) (by omega)).mpr (by omega))
        by_cases h1 : (0 : Int32) < soV N (mi N 196) y (n + 1)
        · rw [if_pos h1]
        · have h2 : soV N (mi N 196) y (n + 1) = 0 := Int32.le_antisymm (nlt h1) hz
          obtain ⟨o, o1, o2⟩ := ones_nn (n + 1) (by omega)
          have ho : ¬ onesV (n + 1) < onesV 0 := by
            rw [o2, show onesV 0 = Int32.ofNat 0 by decide]
            exact fun z => lnle z ((oN_le (by omega) (by omega)).mpr (by omega))
          rw [if_neg h1, if_pos h2, m_ones, bsome, show f_X10_ones 0 N = some (onesV 0) from m_ones (m := 0), bsome, if_neg ho]
      · have e1 : stR N (mi N 196) y (n + 1) = if (stT N (mi N 196) y n).2 = 0 then (-1, 0) else (Int32.ofNat (stT N (mi N 196) y n).2, (stT N (mi N 196) y n).1) := if_neg h0
        have e2 : stR N (mi N 196) y (n + 1 + 1) = if (stT N (mi N 196) y (n + 1)).2 = 0 then (-1, 0) else (Int32.ofNat (stT N (mi N 196) y (n + 1)).2, (stT N (mi N 196) y (n + 1)).1) := if_neg h0
        have yes : ((stT N (mi N 196) y n).2 = 0 ∨ soV N (mi N 196) y (n + 1) < (stT N (mi N 196) y n).1 ∨ (soV N (mi N 196) y (n + 1) = (stT N (mi N 196) y n).1 ∧ onesV (n + 1) < onesV (stT N (mi N 196) y n).2)) → stR N (mi N 196) y (n + 1 + 1) = (Int32.ofNat (n + 1), soV N (mi N 196) y (n + 1)) := fun z => by
          rw [e2, show stT N (mi N 196) y (n + 1) = (soV N (mi N 196) y (n + 1), n + 1) from if_pos z, if_neg (show ¬ n + 1 = 0 by omega)]
        have no : ¬ ((stT N (mi N 196) y n).2 = 0 ∨ soV N (mi N 196) y (n + 1) < (stT N (mi N 196) y n).1 ∨ (soV N (mi N 196) y (n + 1) = (stT N (mi N 196) y n).1 ∧ onesV (n + 1) < onesV (stT N (mi N 196) y n).2)) → stR N (mi N 196) y (n + 1 + 1) = stR N (mi N 196) y (n + 1) := fun z => by
          rw [e2, e1, show stT N (mi N 196) y (n + 1) = stT N (mi N 196) y n from if_neg z]
        by_cases h1 : (stT N (mi N 196) y n).2 = 0
        · rw [yes (Or.inl h1), e1, if_pos h1, if_pos rfl]
        · have hx : ¬ Int32.ofNat (stT N (mi N 196) y n).2 = -1 := fun e => oN_nn (i := (stT N (mi N 196) y n).2) (by omega) (by rw [e]; decide)
          have e3 : stR N (mi N 196) y (n + 1) = (Int32.ofNat (stT N (mi N 196) y n).2, (stT N (mi N 196) y n).1) := e1.trans (if_neg h1)
          rw [e3] at no ⊢
          dsimp only
          rw [if_neg hx]
          by_cases h2 : (stT N (mi N 196) y n).1 < soV N (mi N 196) y (n + 1)
          · rw [if_pos h2, no (fun z => z.elim h1 (fun z => z.elim (fun z => lnle h2 (Int32.le_of_lt z)) (fun z => lnle h2 (by rw [z.1]; exact Int32.le_refl _))))]
          · rw [if_neg h2]
            by_cases h3 : soV N (mi N 196) y (n + 1) = (stT N (mi N 196) y n).1
            · rw [if_pos h3, m_ones, bsome, m_ones, bsome]
              by_cases h4 : onesV (n + 1) < onesV (stT N (mi N 196) y n).2
              · rw [if_pos h4, yes (Or.inr (Or.inr ⟨h3, h4⟩))]
              · rw [if_neg h4, no (fun z => z.elim h1 (fun z => z.elim (fun z => lnle z (by rw [h3]; exact Int32.le_refl _)) (fun z => h4 z.2)))]
            · rw [if_neg h3, yes (Or.inr (Or.inl (Int32.not_le.mp (fun z => h3 (Int32.le_antisymm (nlt h2) z)))))]) (by
    try dsimp only
    unfold f_X10_stops_b54
    dsimp only
    rw [a0, bsome, hT.1.2.2, w_shift _ (by omega), if_pos (le_rf _)])
end SW
