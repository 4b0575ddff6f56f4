/-! level 3: counting bits by lanes -/
section BC
def lan (w : Nat) (f : Nat → Nat) : Nat → Nat
  | 0 => 0
  | n + 1 => 2 ^ (w * n) * f n + lan w f n
theorem lan_lt {w : Nat} {f : Nat → Nat} : ∀ n, (∀ j, j < n → f j < 2 ^ w) → lan w f n < 2 ^ (w * n) := by
  intro n
  induction n with
  | zero => intro _; exact Nat.pow_pos (by decide)
  | succ n ih =>
    intro h
    have h1 := ih (fun j hj => h j (by omega))
    have h2 : 2 ^ (w * n) * (f n + 1) ≤ 2 ^ (w * n) * 2 ^ w := Nat.mul_le_mul_left _ (h n (by omega))
    rw [Nat.mul_succ, Nat.pow_add]
    rw [Nat.mul_add, Nat.mul_one] at h2
    show 2 ^ (w * n) * f n + lan w f n < _
    omega
theorem lan_congr {w : Nat} {f g : Nat → Nat} : ∀ n, (∀ j, j < n → f j = g j) → lan w f n = lan w g n := by
  intro n
  induction n with
  | zero => intro _; rfl
  | succ n ih =>
    intro h
    unfold lan
    rw [ih (fun j hj => h j (by omega)), h n (by omega)]
theorem lan_add {w : Nat} {f g : Nat → Nat} : ∀ n, lan w f n + lan w g n = lan w (fun j => f j + g j) n := by
  intro n
  induction n with
  | zero => rfl
  | succ n ih =>
    show (2 ^ (w * n) * f n + lan w f n) + (2 ^ (w * n) * g n + lan w g n) = 2 ^ (w * n) * (f n + g n) + lan w (fun j => f j + g j) n
    rw [← ih, Nat.mul_add]
    omega
theorem lan_bit {w : Nat} (hw : 0 < w) {f : Nat → Nat} (i : Nat) : ∀ n, (∀ j, j < n → f j < 2 ^ w) → (lan w f n).testBit i = (decide (i < w * n) && (f (i / w)).testBit (i % w)) := by
  intro n
  induction n with
  | zero => intro _; show (0 : Nat).testBit i = _; rw [Nat.zero_testBit, Nat.mul_zero, decide_eq_false (by omega)]; rfl
  | succ n ih =>
    intro h
    have h1 := ih (fun j hj => h j (by omega))
    show (2 ^ (w * n) * f n + lan w f n).testBit i = _
    rw [Nat.testBit_two_pow_mul_add _ (lan_lt n (fun j hj => h j (by omega))), h1]
    by_cases hi : i < w * n
    · rw [if_pos hi, decide_eq_true hi, decide_eq_true (show i < w * (n + 1) by rw [Nat.mul_succ]; omega)]
    · rw [if_neg hi]
      by_cases h2 : i < w * (n + 1)
      · have e1 : i / w = n := by
          have hd : w * (i / w) + i % w = i := Nat.div_add_mod i w
          have hm : i % w < w := Nat.mod_lt _ hw
          rw [Nat.div_eq_iff hw]
          rw [Nat.mul_succ] at h2
          rw [Nat.mul_comm n w]
          omega
        have e2 : i % w = i - w * n := by
          have hd : w * (i / w) + i % w = i := Nat.div_add_mod i w
          rw [e1] at hd
          omega
        rw [decide_eq_true h2, e1, e2, Bool.true_and]
      · rw [decide_eq_false h2, Bool.false_and]
        refine Nat.testBit_lt_two_pow (Nat.lt_of_lt_of_le (h n (by omega)) (Nat.pow_le_pow_right (by decide) ?_))
        rw [Nat.mul_succ] at h2
        omega
theorem lan_and {w m n : Nat} (hw : 0 < w) {f : Nat → Nat} (hf : ∀ j, j < n → f j < 2 ^ w) (hm : m < 2 ^ w) : lan w f n &&& lan w (fun _ => m) n = lan w (fun j => f j &&& m) n := by
  refine Nat.eq_of_testBit_eq (fun i => ?_)
  rw [Nat.testBit_and, lan_bit hw i n hf, lan_bit hw i n (fun _ _ => hm), lan_bit hw i n (fun j hj => Nat.lt_of_le_of_lt Nat.and_le_left (hf j hj)), Nat.testBit_and]
  cases decide (i < w * n) <;> rfl
/-- two lanes made one -/
theorem lan_two {w : Nat} {f : Nat → Nat} : ∀ n, lan w f (2 * n) = lan (2 * w) (fun j => f (2 * j) + 2 ^ w * f (2 * j + 1)) n := by
  intro n
  induction n with
  | zero => rfl
  | succ n ih =>
    show 2 ^ (w * (2 * n + 1)) * f (2 * n + 1) + (2 ^ (w * (2 * n)) * f (2 * n) + lan w f (2 * n)) = 2 ^ (2 * w * n) * (f (2 * n) + 2 ^ w * f (2 * n + 1)) + lan (2 * w) (fun j => f (2 * j) + 2 ^ w * f (2 * j + 1)) n
    rw [ih, Nat.mul_add (2 ^ (2 * w * n)), ← Nat.mul_assoc (2 ^ (2 * w * n)), ← Nat.pow_add, show w * (2 * n + 1) = 2 * w * n + w by rw [Nat.mul_succ, ← Nat.mul_assoc, Nat.mul_comm w 2], show w * (2 * n) = 2 * w * n by rw [← Nat.mul_assoc, Nat.mul_comm w 2]]
    omega
/-- a shift by whole lanes -/
theorem lan_shift {w : Nat} {f : Nat → Nat} (n : Nat) (hf : f 0 < 2 ^ w) : lan w f (n + 1) >>> w = lan w (fun j => f (j + 1)) n := by
  have e : lan w f (n + 1) = 2 ^ w * lan w (fun j => f (j + 1)) n + f 0 := by
    induction n with
    | zero => show 2 ^ (w * 0) * f 0 + 0 = 2 ^ w * 0 + f 0; rw [Nat.mul_zero, Nat.pow_zero]; omega
    | succ n ih =>
      show 2 ^ (w * (n + 1)) * f (n + 1) + lan w f (n + 1) = 2 ^ w * (2 ^ (w * n) * f (n + 1) + lan w (fun j => f (j + 1)) n) + f 0
      rw [ih, Nat.mul_add (2 ^ w), ← Nat.mul_assoc (2 ^ w), ← Nat.pow_add, show w + w * n = w * (n + 1) by rw [Nat.mul_succ]; omega]
      omega
  rw [e, Nat.shiftRight_eq_div_pow, Nat.mul_add_div (Nat.pow_pos (by decide)), Nat.div_eq_of_lt hf, Nat.add_zero]
end BC
