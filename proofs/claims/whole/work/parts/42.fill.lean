/-! level 3: rows that are filled; what forgets -/
theorem sA_id {M : Mm} {a : Nat} : sA M a (mi M a) = M := by
  have e : u1 (mi M) a (mi M a) = mi M := by
    funext j
    unfold u1
    by_cases h : j = a
    · rw [if_pos h, h]
    · rw [if_neg h]
  unfold sA
  rw [e]
  rfl
theorem u1_u1 {α : Type} {f : Nat → α} {a : Nat} {x y : α} : u1 (u1 f a x) a y = u1 f a y := by
  funext j
  unfold u1
  by_cases h : j = a
  · rw [if_pos h, if_pos h]
  · rw [if_neg h, if_neg h, if_neg h]
theorem sI_sA {M : Mm} {a i : Nat} {g : Nat → Int32} {x : Int32} : sI (sA M a g) a i x = sA M a (u1 g i x) := by
  have e : u2 (mi (sA M a g)) a i x = u1 (mi M) a (u1 g i x) := by
    show u1 (u1 (mi M) a g) a (u1 (u1 (mi M) a g a) i x) = _
    rw [u1_u1, u1_same]
  unfold sI
  rw [e]
  rfl
theorem mi_sA {M : Mm} {a : Nat} {g : Nat → Int32} : mi (sA M a g) a = g := u1_same _ _ _
theorem mi_sA_ne {M : Mm} {a j : Nat} {g : Nat → Int32} (h : j ≠ a) : mi (sA M a g) j = mi M j := u1_ne h
theorem mi_sI_ne {M : Mm} {a j k : Nat} {x : Int32} (h : j ≠ a) : mi (sI M a k x) j = mi M j := u1_ne h
theorem mi_sI {M : Mm} {a k : Nat} {x : Int32} : mi (sI M a k x) a = u1 (mi M a) k x := u1_same _ _ _
theorem mi_sI_k {M : Mm} {a k : Nat} {x : Int32} : mi (sI M a k x) a k = x := by rw [mi_sI]; exact u1_same _ _ _
theorem mi_sI_o {M : Mm} {a k j : Nat} {x : Int32} (h : j ≠ k) : mi (sI M a k x) a j = mi M a j := by rw [mi_sI]; exact u1_ne h
/-- the first n places of f are F's -/
def upto (n : Nat) (F f : Nat → Int32) : Nat → Int32 := fun k => if k < n then F k else f k
theorem upto0 {F f : Nat → Int32} : upto 0 F f = f := by
  funext k
  exact if_neg (Nat.not_lt_zero k)
theorem uptoS {n : Nat} {F f : Nat → Int32} : u1 (upto n F f) n (F n) = upto (n + 1) F f := by
  funext k
  unfold u1 upto
  by_cases h : k = n
  · rw [if_pos h, h, if_pos (by omega)]
  · rw [if_neg h]
    by_cases h2 : k < n
    · rw [if_pos h2, if_pos (by omega)]
    · rw [if_neg h2, if_neg (by omega)]
theorem upto_lt {n k : Nat} {F f : Nat → Int32} (h : k < n) : upto n F f k = F k := if_pos h
theorem upto_ge {n k : Nat} {F f : Nat → Int32} (h : ¬ k < n) : upto n F f k = f k := if_neg h
theorem fill_loop {b : (Int32 × Mm) → Option ((Int32 × Mm) ⊕ Mm)} (n a : Nat) (F : Nat → Int32) (M : Mm) (hn : n < 1000000) (hs : ∀ i, i < n → b (Int32.ofNat i, sA M a (upto i F (mi M a))) = some (.inl (Int32.ofNat i + 1, sI (sA M a (upto i F (mi M a))) a i (F i)))) (he : b (Int32.ofNat n, sA M a (upto n F (mi M a))) = some (.inr (sA M a (upto n F (mi M a))))) : whl fu b (0, M) = some (sA M a (upto n F (mi M a))) := by
  have e0 : M = sA M a (upto 0 F (mi M a)) := by rw [upto0, sA_id]
  have h := whl_eq (f := b) (e := sA M a (upto n F (mi M a))) n fu (fun i => (Int32.ofNat i, sA M a (upto i F (mi M a)))) hn (fun i hi => by
    show b (Int32.ofNat i, sA M a (upto i F (mi M a))) = _
    rw [hs i hi, oN_S, sI_sA, uptoS]) he
  have h2 : whl fu b (Int32.ofNat 0, sA M a (upto 0 F (mi M a))) = some (sA M a (upto n F (mi M a))) := h
  rw [← e0] at h2
  exact h2
theorem s_fill {a : Nat} {x : Int32} {M : Mm} (hn : LN a ≤ 100000) : f_J7_fill_53178 a x M = some (sA M a (upto (LN a) (fun _ => x) (mi M a))) := by
  unfold f_J7_fill_53178
  rw [fill_loop (b := f_J7_fill_53178_b5 a x (Int32.ofNat (LN a))) (LN a) a (fun _ => x) M (by omega) (by
    intro i hi
    unfold f_J7_fill_53178_b5
    dsimp only
    rw [if_neg (nle hi (by omega)), wi_o hi (by omega)]
    rfl) (by
    unfold f_J7_fill_53178_b5
    dsimp only
    rw [if_pos (le_rf _)])]
  rfl
theorem s_put {l i : Nat} {x x9 : Int32} {M : Mm} (h : mi M l 3 = Int32.ofNat i) (hi : i < 150) (h9 : Int32.ofNat (i + 1) = x9) : f_X4_put l x M = some (sI (sI M (l + 1) i x) l 3 x9) := by
  unfold f_X4_put
  have h9' : ¬ (150 : Int32) ≤ Int32.ofNat i := nle (n := 150) hi (by omega)
  rw [h, if_neg h9', wi_o hi (by omega), bsome, mi_sI_ne (by omega), h, oN_S, h9]
theorem rd_sI {M : Mm} {a k b j : Nat} {x : Int32} : rd (sI M a k x) b j = rd M b j := rfl
theorem rd_sA {M : Mm} {a b j : Nat} {g : Nat → Int32} : rd (sA M a g) b j = rd M b j := rfl
/-- the laws of a field of which nothing is told -/
def e_twice (l : Nat) (M : Mm) : Mm := sI (sI (sI (sI (sI (sI (sI M l 3 0) (l + 1) 0 1000) l 3 1) (l + 1) 1 2) l 3 2) (l + 1) 2 (-42)) l 3 3
def e_nothing (l : Nat) (M : Mm) : Mm := sI (sI (sI M l 3 0) (l + 1) 0 0) l 3 1
theorem s_twice {l : Nat} {M : Mm} : f_X4_becomeTwiceSize l M = some (e_twice l M) := by
  unfold f_X4_becomeTwiceSize
  have h0 : mi (sI M l 3 0) l 3 = Int32.ofNat 0 := mi_sI_k
  rw [s_put (x9 := 1) h0 (by omega) rfl, bsome]
  unfold e_twice
  generalize sI (sI M l 3 0) (l + 1) 0 1000 = M1
  have h1 : mi (sI M1 l 3 1) l 3 = Int32.ofNat 1 := mi_sI_k
  rw [s_put (x9 := 2) h1 (by omega) rfl, bsome]
  generalize sI (sI M1 l 3 1) (l + 1) 1 2 = M2
  have h2 : mi (sI M2 l 3 2) l 3 = Int32.ofNat 2 := mi_sI_k
  rw [s_put (x9 := 3) h2 (by omega) rfl, bsome]
theorem s_nothing {l : Nat} {M : Mm} : f_X4_becomeNothing l M = some (e_nothing l M) := by
  unfold f_X4_becomeNothing
  have h0 : mi (sI M l 3 0) l 3 = Int32.ofNat 0 := mi_sI_k
  rw [s_put (x9 := 1) h0 (by omega) rfl, bsome]
  rfl
theorem rd_twice {l : Nat} {M : Mm} {b j : Nat} : rd (e_twice l M) b j = rd M b j := by
  unfold e_twice
  simp only [rd_sI]
def e_forget (a l1 l2 : Nat) (M : Mm) : Mm := e_nothing l2 (e_twice l1 (sI (sI (sI (sI (sI (sI (sI (sA (sI (sI M a 3 6) a 4 4) (a + 1) (upto 48 (fun _ => 5) (mi (sI (sI M a 3 6) a 4 4) (a + 1)))) a 5 2) a 6 4) a 7 1) a 8 3) a 9 1) a 10 12) a 11 5))
theorem s_forget {a l1 l2 : Nat} {M : Mm} (hl : LN (a + 1) = 48) (h1 : rd M a 1 = l1) (h2 : rd M a 2 = l2) : f_X3_forget a M = some (e_forget a l1 l2 M) := by
  unfold f_X3_forget
  rw [s_fill (by omega), bsome, hl]
  simp only [rd_sI, rd_sA, h1]
  rw [s_twice, bsome, rd_twice]
  simp only [rd_sI, rd_sA, h2]
  rw [s_nothing]
  rfl
def e_clear (a : Nat) (M : Mm) : Mm := sA M a (upto 48 (fun _ => 0) (mi M a))
def e_wforget (a : Nat) (M : Mm) : Mm := sI (sI (sI (sI (sI (sI (sI (sI (sI (e_clear (a + 7) (e_clear (a + 6) (e_clear (a + 5) M))) a 7 0) a 8 0) a 9 0) a 10 0) a 11 0) a 12 0) a 13 0) a 14 0) a 15 0
theorem s_wforget {a : Nat} {M : Mm} (h5 : LN (a + 5) = 48) (h6 : LN (a + 6) = 48) (h7 : LN (a + 7) = 48) : f_X8_forget a M = some (e_wforget a M) := by
  unfold f_X8_forget
  rw [s_fill (by omega), bsome, s_fill (by omega), bsome, s_fill (by omega), h5, h6, h7]
  rfl
def e_fill5 (M : Mm) : Mm := sA M 81 (upto 48 (fun _ => 5) (mi M 81))
def e_tells (M : Mm) : Mm := e_fill5 (sI (sI (sI (sI (sI (sI (sI (sI (sI (sI M 79 0 6) 79 1 4) 79 2 0) 79 3 2) 79 4 4) 79 5 1) 79 6 3) 79 7 1) 79 8 12) 79 9 5)
theorem s_tells {M : Mm} : f_X10_tellsNothing M = some (e_tells M) := by
  unfold f_X10_tellsNothing
  rw [show ∀ (N : Mm) (x : Int32), wi N 79 10 0 x = some (sI N 79 0 x) from fun N x => wi_o (i := 0) (by omega) (by omega), bsome]
  rw [show ∀ (N : Mm) (x : Int32), wi N 79 10 1 x = some (sI N 79 1 x) from fun N x => wi_o (i := 1) (by omega) (by omega), bsome]
  rw [show ∀ (N : Mm) (x : Int32), wi N 79 10 2 x = some (sI N 79 2 x) from fun N x => wi_o (i := 2) (by omega) (by omega), bsome]
  rw [show ∀ (N : Mm) (x : Int32), wi N 79 10 3 x = some (sI N 79 3 x) from fun N x => wi_o (i := 3) (by omega) (by omega), bsome]
  rw [show ∀ (N : Mm) (x : Int32), wi N 79 10 4 x = some (sI N 79 4 x) from fun N x => wi_o (i := 4) (by omega) (by omega), bsome]
  rw [show ∀ (N : Mm) (x : Int32), wi N 79 10 5 x = some (sI N 79 5 x) from fun N x => wi_o (i := 5) (by omega) (by omega), bsome]
  rw [show ∀ (N : Mm) (x : Int32), wi N 79 10 6 x = some (sI N 79 6 x) from fun N x => wi_o (i := 6) (by omega) (by omega), bsome]
  rw [show ∀ (N : Mm) (x : Int32), wi N 79 10 7 x = some (sI N 79 7 x) from fun N x => wi_o (i := 7) (by omega) (by omega), bsome]
  rw [show ∀ (N : Mm) (x : Int32), wi N 79 10 8 x = some (sI N 79 8 x) from fun N x => wi_o (i := 8) (by omega) (by omega), bsome]
  rw [show ∀ (N : Mm) (x : Int32), wi N 79 10 9 x = some (sI N 79 9 x) from fun N x => wi_o (i := 9) (by omega) (by omega), bsome]
  rw [fill_loop (b := f_X10_tellsNothing_b78) 48 81 (fun _ => 5) _ (by omega) (by
    intro i hi
    unfold f_X10_tellsNothing_b78
    dsimp only
    have h9 : ¬ (48 : Int32) ≤ Int32.ofNat i := nle (n := 48) hi (by omega)
    rw [if_neg h9, wi_o hi (by omega)]
    rfl) (by
    unfold f_X10_tellsNothing_b78
    dsimp only
    have h9 : (48 : Int32) ≤ Int32.ofNat 48 := le_rf _
    rw [if_pos h9])]
  rfl
/-- a row copied from another one -/
def e_cp (n a c : Nat) (M : Mm) : Mm := sA M a (upto n (mi M c) (mi M a))
def e_stand0 (M : Mm) : Mm := sI (sI (sI (sI (sI (sI (sA (e_cp 48 82 81 (e_cp 10 80 79 M)) 196 (upto 415 (fun _ => 0) (mi (e_cp 48 82 81 (e_cp 10 80 79 M)) 196))) 114 0 0) 114 1 0) 76 30 0) 76 31 0) 76 32 0) 76 33 0
theorem s_stand1 {M : Mm} : whl fu f_X10_stands_b2 (0, M) = some (e_cp 10 80 79 M) :=
  fill_loop (b := f_X10_stands_b2) 10 80 (mi M 79) M (by omega) (by
    intro i hi
    unfold f_X10_stands_b2
    dsimp only
    have h9 : ¬ (10 : Int32) ≤ Int32.ofNat i := nle (n := 10) hi (by omega)
    rw [if_neg h9, ai_o hi (by omega), bsome, wi_o hi (by omega), mi_sA_ne (by omega)]
    rfl) (by
    unfold f_X10_stands_b2
    dsimp only
    have h9 : (10 : Int32) ≤ Int32.ofNat 10 := le_rf _
    rw [if_pos h9])
theorem s_stand2 {M : Mm} : whl fu f_X10_stands_b28 (0, M) = some (e_cp 48 82 81 M) :=
  fill_loop (b := f_X10_stands_b28) 48 82 (mi M 81) M (by omega) (by
    intro i hi
    unfold f_X10_stands_b28
    dsimp only
    have h9 : ¬ (48 : Int32) ≤ Int32.ofNat i := nle (n := 48) hi (by omega)
    rw [if_neg h9, ai_o hi (by omega), bsome, wi_o hi (by omega), mi_sA_ne (by omega)]
    rfl) (by
    unfold f_X10_stands_b28
    dsimp only
    have h9 : (48 : Int32) ≤ Int32.ofNat 48 := le_rf _
    rw [if_pos h9])
theorem s_stand3 {M : Mm} : whl fu f_X10_stands_b54 (0, M) = some (sA M 196 (upto 415 (fun _ => 0) (mi M 196))) :=
  fill_loop (b := f_X10_stands_b54) 415 196 (fun _ => 0) M (by omega) (by
    intro i hi
    unfold f_X10_stands_b54
    dsimp only
    have h9 : ¬ (415 : Int32) ≤ Int32.ofNat i := nle (n := 415) hi (by omega)
    rw [if_neg h9, wi_o hi (by omega)]
    rfl) (by
    unfold f_X10_stands_b54
    dsimp only
    have h9 : (415 : Int32) ≤ Int32.ofNat 415 := le_rf _
    rw [if_pos h9])
theorem s_stand0 {M : Mm} (h : mi M 79 2 = 0) : f_X10_stands M = some (e_stand0 M) := by
  unfold f_X10_stands
  rw [s_stand1, bsome, s_stand2, bsome, s_stand3, bsome]
  generalize hN : sA (e_cp 48 82 81 (e_cp 10 80 79 M)) 196 (upto 415 (fun _ => 0) (mi (e_cp 48 82 81 (e_cp 10 80 79 M)) 196)) = N
  have h2 : mi N 80 2 = 0 := by
    rw [← hN, mi_sA_ne (by omega)]
    unfold e_cp
    rw [mi_sA_ne (by omega), mi_sA, upto_lt (by omega), h]
  have h3 : ai N 80 10 2 = some 0 := by
    have := ai_o (M := N) (a := 80) (n := 10) (i := 2) (by omega) (by omega)
    rw [h2] at this
    exact this
  have e : whl fu f_X10_stands_b76 (0, N) = some N := whl_eq 0 fu (fun _ => (0, N)) (by decide) (fun i hi => absurd hi (by omega)) (by
    unfold f_X10_stands_b76
    dsimp only
    rw [h3, bsome, if_pos (le_rf _)])
  rw [e, bsome, show ∀ (N : Mm) (x : Int32), wi N 114 2 0 x = some (sI N 114 0 x) from fun N x => wi_o (i := 0) (by omega) (by omega), bsome, show ∀ (N : Mm) (x : Int32), wi N 114 2 1 x = some (sI N 114 1 x) from fun N x => wi_o (i := 1) (by omega) (by omega), bsome, ← hN]
  rfl
