/-! level 3: stops: a set's cost is not below 0 -/
section SV
theorem ones_nn : ∀ m : Nat, m < 256 → ∃ n : Nat, n < 9 ∧ onesV m = Int32.ofNat n := by decide +kernel
theorem nr_nn : ∀ c : Nat, c < 8 → ∀ m : Nat, m < 256 → (m = 0 ∨ ∃ n : Nat, n < 8 ∧ nrM m c 8 = Int32.ofNat n) := by decide +kernel
theorem sm_nn {B : Nat} {F : Nat → Int32} : ∀ n, (∀ i, i < n → ∃ f : Nat, f ≤ B ∧ F i = Int32.ofNat f) → ∃ s : Nat, s ≤ n * B ∧ sm n F = Int32.ofNat s := by
  intro n
  induction n with
  | zero => intro _; exact ⟨0, by omega, rfl⟩
  | succ n ih =>
    intro h
    obtain ⟨s, h1, h2⟩ := ih (fun i hi => h i (by omega))
    obtain ⟨f, h3, h4⟩ := h n (by omega)
    refine ⟨s + f, by rw [Nat.succ_mul]; omega, ?_⟩
    show sm n F + F n = _
    rw [h2, h4, Int32.ofNat_add]
theorem soV_nn {T : Mm} {r : Nat → Int32} {y m w h : Nat} (hT : RGt T) (hV : VR w h r) (hm0 : ¬ m = 0) (hm : m < 256) : ∃ K : Nat, K ≤ 9120 ∧ soV T r y m = Int32.ofNat K := by
  have h6 := hV.n60
  obtain ⟨o, o1, o2⟩ := ones_nn m hm
  obtain ⟨v6, -, b6, e6⟩ := hT.2.2.2.2.2.1
  obtain ⟨v5, -, b5, e5⟩ := hT.2.2.2.2.1
  obtain ⟨s, s1, s2⟩ := sm_nn (B := 144) (F := fun i => if Lt T r y i then ((2 : Int32) * mi T 80 5) * nrM m (rC r i % 8) 8 else 0) (rN r) (fun i hi => by
    show ∃ f : Nat, f ≤ 144 ∧ (if Lt T r y i then ((2 : Int32) * mi T 80 5) * nrM m (rC r i % 8) 8 else 0) = Int32.ofNat f
    by_cases hL : Lt T r y i
    · obtain ⟨n, n1, n2⟩ := (nr_nn (rC r i % 8) (Nat.mod_lt _ (by decide)) m hm).resolve_left hm0
      refine ⟨2 * v5 * n, ?_, ?_⟩
      · exact Nat.le_trans (Nat.mul_le_mul (show 2 * v5 ≤ 18 by omega) (show n ≤ 8 by omega)) (by decide)
      · rw [if_pos hL, n2, e5, show (2 : Int32) = Int32.ofNat 2 from rfl, Int32.ofNat_mul, Int32.ofNat_mul]
    · exact ⟨0, by omega, by rw [if_neg hL]; rfl⟩)
  refine ⟨v6 * o + s, ?_, ?_⟩
  · have a := Nat.mul_le_mul b6 (show o ≤ 8 by omega)
    have b : rN r * 144 ≤ 60 * 144 := Nat.mul_le_mul_right _ h6
    omega
  · unfold soV
    rw [s2, o2, e6, Int32.ofNat_add, Int32.ofNat_mul]
end SV
