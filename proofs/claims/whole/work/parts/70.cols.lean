/-! level 3: stops: stones by columns -/
section SQ
/-- of the first n things, how many with P fall to column d -/
def colN (P : Nat → Prop) [DecidablePred P] (f : Nat → Nat) (d : Nat) : Nat → Int32
  | 0 => 0
  | n + 1 => if P n ∧ f n = d then colN P f d n + 1 else colN P f d n
theorem sm_exch {P : Nat → Prop} [DecidablePred P] {f : Nat → Nat} {w : Nat} {g : Nat → Int32} : ∀ n, (∀ i, i < n → f i < w) → sm w (fun d => colN P f d n * g d) = sm n (fun i => if P i then g (f i) else 0) := by
  intro n
  induction n with
  | zero =>
    intro _
    refine sm_zero (fun d _ => ?_)
    show (0 : Int32) * g d = 0
    exact Int32.zero_mul
  | succ n ih =>
    intro h
    have h1 := ih (fun i hi => h i (by omega))
    show _ = sm n _ + (if P n then g (f n) else 0)
    by_cases hP : P n
    · have o := sm_one (n := w) (j := f n) (f := fun d => colN P f d n * g d) (g := fun d => colN P f d (n + 1) * g d) (h n (by omega)) (fun d _ hd => by
        show colN P f d (n + 1) * g d = colN P f d n * g d
        rw [show colN P f d (n + 1) = colN P f d n from if_neg (fun p => hd p.2.symm)])
      have e : colN P f (f n) (n + 1) = colN P f (f n) n + 1 := if_pos ⟨hP, rfl⟩
      have o2 : sm w (fun d => colN P f d (n + 1) * g d) + colN P f (f n) n * g (f n) = sm w (fun d => colN P f d n * g d) + (colN P f (f n) n + 1) * g (f n) := by rw [← e]; exact o
      rw [if_pos hP, ← h1]
      have o3 : (colN P f (f n) n + 1) * g (f n) = g (f n) + colN P f (f n) n * g (f n) := by rw [Int32.add_mul, Int32.one_mul, Int32.add_comm]
      rw [o3, ← Int32.add_assoc] at o2
      exact (Int32.add_left_inj _).mp o2
    · rw [if_neg hP, Int32.add_zero, ← h1]
      exact sm_congr (fun d _ => by rw [show colN P f d (n + 1) = colN P f d n from if_neg (fun p => hP p.1)])
end SQ
