/-! level 3: ints, counting loops, sums -/
theorem oN_nat {i : Nat} (h : i < 2147483648) : (Int32.ofNat i).toNatClampNeg = i := Int32.toNatClampNeg_ofNat_of_lt h
theorem oN_int {i : Nat} (h : i < 2147483648) : (Int32.ofNat i).toInt = (i : Int) := Int32.toInt_ofNat_of_lt h
theorem oN_lt {i j : Nat} (hi : i < 2147483648) (hj : j < 2147483648) : (Int32.ofNat i < Int32.ofNat j) ↔ i < j := Int32.ofNat_lt_iff_lt hi hj
theorem oN_le {i j : Nat} (hi : i < 2147483648) (hj : j < 2147483648) : (Int32.ofNat i ≤ Int32.ofNat j) ↔ i ≤ j := Int32.ofNat_le_iff_le hi hj
theorem oN_eq {i j : Nat} (hi : i < 2147483648) (hj : j < 2147483648) : (Int32.ofNat i = Int32.ofNat j) ↔ i = j :=
  ⟨fun h => by have h2 := congrArg Int32.toNatClampNeg h; rwa [oN_nat hi, oN_nat hj] at h2, fun h => by rw [h]⟩
theorem oN_nn {i : Nat} (h : i < 2147483648) : ¬ Int32.ofNat i < 0 := by
  intro q
  have q2 : Int32.ofNat i < Int32.ofNat 0 := q
  rw [oN_lt h (by omega)] at q2
  omega
theorem oN_S {i : Nat} : Int32.ofNat i + 1 = Int32.ofNat (i + 1) := by rw [Int32.ofNat_add]; rfl
theorem nle {i n : Nat} (h : i < n) (hn : n < 2147483648) : ¬ Int32.ofNat n ≤ Int32.ofNat i := by
  rw [oN_le hn (by omega)]; omega
theorem lle {i n : Nat} (h : n ≤ i) (hn : i < 2147483648) : Int32.ofNat n ≤ Int32.ofNat i := by
  rw [oN_le (by omega) hn]; exact h
theorem le_rf (x : Int32) : x ≤ x := Int32.le_refl x
theorem ai_o {M : Mm} {a n i : Nat} (h : i < n) (hn : n ≤ 1000000) : ai M a n (Int32.ofNat i) = some (mi M a i) := by
  unfold ai
  rw [oN_nat (by omega), if_neg]
  rintro (q | q)
  · exact oN_nn (by omega) q
  · omega
theorem al_o {M : Mm} {a n i : Nat} (h : i < n) (hn : n ≤ 1000000) : al M a n (Int32.ofNat i) = some (ml M a i) := by
  unfold al
  rw [oN_nat (by omega), if_neg]
  rintro (q | q)
  · exact oN_nn (by omega) q
  · omega
theorem wi_o {M : Mm} {a n i : Nat} {x : Int32} (h : i < n) (hn : n ≤ 1000000) : wi M a n (Int32.ofNat i) x = some (sI M a i x) := by
  unfold wi
  rw [oN_nat (by omega), if_neg]
  rintro (q | q)
  · exact oN_nn (by omega) q
  · omega
theorem wl_o {M : Mm} {a n i : Nat} {x : Int64} (h : i < n) (hn : n ≤ 1000000) : wl M a n (Int32.ofNat i) x = some (sL M a i x) := by
  unfold wl
  rw [oN_nat (by omega), if_neg]
  rintro (q | q)
  · exact oN_nn (by omega) q
  · omega
theorem ar_o {a n i : Nat} (h : i < n) (hn : n ≤ 1000000) : ar a n (Int32.ofNat i) = some (a + 1 + i) := by
  unfold ar
  rw [oN_nat (by omega), if_neg]
  rintro (q | q)
  · exact oN_nn (by omega) q
  · omega
theorem ax_o {xs : Nat → Int32} {n i : Nat} (h : i < n) (hn : n ≤ 1000000) : ax xs n (Int32.ofNat i) = some (xs i) := by
  unfold ax
  rw [oN_nat (by omega), if_neg]
  rintro (q | q)
  · exact oN_nn (by omega) q
  · omega
theorem ai_e {M : Mm} {a n i : Nat} {x : Int32} (e : x = Int32.ofNat i) (h : i < n) (hn : n ≤ 1000000) : ai M a n x = some (mi M a i) := by rw [e]; exact ai_o h hn
theorem wi_e {M : Mm} {a n i : Nat} {x y : Int32} (e : x = Int32.ofNat i) (h : i < n) (hn : n ≤ 1000000) : wi M a n x y = some (sI M a i y) := by rw [e]; exact wi_o h hn
/-- a loop whose states are known -/
theorem whl_eq {σ ε : Type} {f : σ → Option (σ ⊕ ε)} {e : ε} : ∀ (n k : Nat) (S : Nat → σ), n < k → (∀ i, i < n → f (S i) = some (.inl (S (i + 1)))) → f (S n) = some (.inr e) → whl k f (S 0) = some e := by
  intro n
  induction n with
  | zero =>
    intro k S hk _ he
    obtain ⟨k, rfl⟩ : ∃ k', k = k' + 1 := ⟨k - 1, by omega⟩
    show (f (S 0)).bind _ = _
    rw [he]
    rfl
  | succ n ih =>
    intro k S hk hs he
    obtain ⟨k, rfl⟩ : ∃ k', k = k' + 1 := ⟨k - 1, by omega⟩
    show (f (S 0)).bind _ = _
    rw [hs 0 (by omega)]
    exact ih k (fun i => S (i + 1)) (by omega) (fun i hi => hs (i + 1) (by omega)) he
/-- a loop with an invariant: it may end at any turn, n turns at most -/
theorem whl_ex {σ ε : Type} {f : σ → Option (σ ⊕ ε)} (I : Nat → σ → Prop) (Q : ε → Prop) : ∀ (n k : Nat) (s : σ), n < k → I 0 s → (∀ i s, i < n → I i s → (∃ s', f s = some (.inl s') ∧ I (i + 1) s') ∨ (∃ e, f s = some (.inr e) ∧ Q e)) → (∀ s, I n s → ∃ e, f s = some (.inr e) ∧ Q e) → ∃ e, whl k f s = some e ∧ Q e := by
  intro n
  induction n generalizing I with
  | zero =>
    intro k s hk h0 _ he
    obtain ⟨k, rfl⟩ : ∃ k', k = k' + 1 := ⟨k - 1, by omega⟩
    obtain ⟨e, h1, h2⟩ := he s h0
    refine ⟨e, ?_, h2⟩
    show (f s).bind _ = _
    rw [h1]
    rfl
  | succ n ih =>
    intro k s hk h0 hs he
    obtain ⟨k, rfl⟩ : ∃ k', k = k' + 1 := ⟨k - 1, by omega⟩
    rcases hs 0 s (by omega) h0 with ⟨s', h1, h2⟩ | ⟨e, h1, h2⟩
    · obtain ⟨e, h3, h4⟩ := ih (fun i => I (i + 1)) k s' (by omega) h2 (fun i s hi h => hs (i + 1) s (by omega) h) he
      refine ⟨e, ?_, h4⟩
      show (f s).bind _ = _
      rw [h1]
      exact h3
    · refine ⟨e, ?_, h2⟩
      show (f s).bind _ = _
      rw [h1]
      rfl
def sm : Nat → (Nat → Int32) → Int32
  | 0, _ => 0
  | n + 1, f => sm n f + f n
theorem sm_congr {n : Nat} {f g : Nat → Int32} (h : ∀ i, i < n → f i = g i) : sm n f = sm n g := by
  induction n with
  | zero => rfl
  | succ n ih =>
    show sm n f + f n = sm n g + g n
    rw [ih (fun i hi => h i (by omega)), h n (by omega)]
/-- a loop that adds up -/
theorem sum_loop {b : (Int32 × Int32) → Option ((Int32 × Int32) ⊕ Int32)} (n : Nat) (F : Nat → Int32) (hn : n < 1000000) (hs : ∀ i, i < n → ∀ s, b (s, Int32.ofNat i) = some (.inl (s + F i, Int32.ofNat i + 1))) (he : ∀ s, b (s, Int32.ofNat n) = some (.inr s)) : whl fu b (0, 0) = some (sm n F) :=
  whl_eq n fu (fun i => (sm i F, Int32.ofNat i)) hn (fun i hi => by
    show b (sm i F, Int32.ofNat i) = _
    rw [hs i hi, oN_S]
    rfl) (he _)
theorem sm_add {n : Nat} {f g : Nat → Int32} : sm n (fun i => f i + g i) = sm n f + sm n g := by
  induction n with
  | zero => rfl
  | succ n ih =>
    show sm n (fun i => f i + g i) + (f n + g n) = (sm n f + f n) + (sm n g + g n)
    rw [ih, Int32.add_assoc, Int32.add_assoc, ← Int32.add_assoc (sm n g), Int32.add_comm (sm n g) (f n), Int32.add_assoc (f n)]
theorem sm_mul {n : Nat} {c : Int32} {f : Nat → Int32} : sm n (fun i => c * f i) = c * sm n f := by
  induction n with
  | zero => exact (Int32.mul_zero).symm
  | succ n ih =>
    show sm n (fun i => c * f i) + c * f n = c * (sm n f + f n)
    rw [ih, Int32.mul_add]
theorem sm_zero {n : Nat} {f : Nat → Int32} (h : ∀ i, i < n → f i = 0) : sm n f = 0 := by
  induction n with
  | zero => rfl
  | succ n ih =>
    show sm n f + f n = 0
    rw [ih (fun i hi => h i (by omega)), h n (by omega)]
    rfl
/-- the sum when one place changes -/
theorem sm_one {n j : Nat} {f g : Nat → Int32} (hj : j < n) (h : ∀ i, i < n → i ≠ j → g i = f i) : sm n g + f j = sm n f + g j := by
  induction n with
  | zero => omega
  | succ n ih =>
    show sm n g + g n + f j = sm n f + f n + g j
    by_cases e : j = n
    · subst e
      rw [sm_congr (n := j) (f := g) (g := f) (fun i hi => h i (by omega) (by omega)), Int32.add_assoc, Int32.add_assoc, Int32.add_comm (g j)]
    · have h1 := ih (by omega) (fun i hi hne => h i (by omega) hne)
      rw [h n (by omega) (fun q => e q.symm), Int32.add_assoc, Int32.add_comm (f n), ← Int32.add_assoc, h1, Int32.add_assoc, Int32.add_comm (g j), ← Int32.add_assoc]
theorem ix6 {k j : Nat} : (6 : Int32) * Int32.ofNat k + Int32.ofNat j = Int32.ofNat (6 * k + j) := by
  rw [Int32.ofNat_add, Int32.ofNat_mul]; rfl
theorem bsome {α β : Type} {x : α} {f : α → Option β} : (some x).bind f = f x := rfl
theorem rB_b {c : Prop} [Decidable c] : rB (if c then (1 : Int32) else 0) = some (if c then 1 else 0) := by
  by_cases h : c
  · rw [if_pos h]; rfl
  · rw [if_neg h]; rfl
theorem rB_nb {c : Prop} [Decidable c] : rB (if c then (0 : Int32) else 1) = some (if c then 0 else 1) := by
  by_cases h : c
  · rw [if_pos h]; rfl
  · rw [if_neg h]; rfl
theorem ite_z {c : Prop} [Decidable c] : ((if c then (1 : Int32) else 0) = 0) ↔ ¬ c := by
  by_cases h : c
  · rw [if_pos h]; exact ⟨fun q => absurd q (by decide), fun q => absurd h q⟩
  · rw [if_neg h]; exact ⟨fun _ => h, fun _ => rfl⟩
theorem ite_nz {c : Prop} [Decidable c] : ((if c then (0 : Int32) else 1) = 0) ↔ c := by
  by_cases h : c
  · rw [if_pos h]; exact ⟨fun _ => h, fun _ => rfl⟩
  · rw [if_neg h]; exact ⟨fun q => absurd q (by decide), fun q => absurd q h⟩
