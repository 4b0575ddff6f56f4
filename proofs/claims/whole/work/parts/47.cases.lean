/-! level 3: a call of both sides, and the law's case out of it -/
/-- a call that may throw: the class and then the reference (codes of IOOBE, NSEE, IAE) -/
def GdI (k : Nat) (fc : Option ((Nat ⊕ Int32) × Mm)) (fm : Mm → Option (Int32 × Mm)) (c0 c1 c2 : Int32) : Prop :=
  (∃ (e : Nat) (M1 : Mm) (c b : Int32) (M2 : Mm), fc = some (.inl e, M1) ∧ ((e = 0 ∧ c = c0) ∨ (e = 1 ∧ c = c1) ∨ (e = 2 ∧ c = c2)) ∧ c ≠ 0 ∧ fm M1 = some (b, M2) ∧ mi M2 76 0 = c ∧ INV (k + 1) M2) ∨
  (∃ (v : Int32) (M1 M2 : Mm), fc = some (.inr v, M1) ∧ fm (sL M1 275 0 v.toInt64) = some (v, M2) ∧ mi M2 76 0 = 0 ∧ ml M2 275 0 = v.toInt64 ∧ INV (k + 1) M2)
def GdJ (k : Nat) (fc : Option ((Nat ⊕ Int64) × Mm)) (fm : Mm → Option (Int64 × Mm)) (c0 c1 c2 : Int32) : Prop :=
  (∃ (e : Nat) (M1 : Mm) (c : Int32) (b : Int64) (M2 : Mm), fc = some (.inl e, M1) ∧ ((e = 0 ∧ c = c0) ∨ (e = 1 ∧ c = c1) ∨ (e = 2 ∧ c = c2)) ∧ c ≠ 0 ∧ fm M1 = some (b, M2) ∧ mi M2 76 0 = c ∧ INV (k + 1) M2) ∨
  (∃ (v : Int64) (M1 M2 : Mm), fc = some (.inr v, M1) ∧ fm (sL M1 275 0 v) = some (v, M2) ∧ mi M2 76 0 = 0 ∧ ml M2 275 0 = v ∧ INV (k + 1) M2)
def GdN (k : Nat) (fc : Option (Int32 × Mm)) (fm : Mm → Option (Int32 × Mm)) : Prop := ∃ (v : Int32) (M1 M2 : Mm), fc = some (v, M1) ∧ fm M1 = some (v, M2) ∧ INV (k + 1) M2
def GdP (k : Nat) (fc : Option Int32) (fm : Option (Int32 × Mm)) : Prop := ∃ (v : Int32) (M2 : Mm), fc = some v ∧ fm = some (v, M2) ∧ INV (k + 1) M2
theorem lg_eq (x : Int64) : lg_cmp x x = 0 := by
  unfold lg_cmp
  simp
theorem al0 {M : Mm} : al M 275 1 0 = some (ml M 275 0) := al_o (i := 0) (by omega) (by omega)
theorem wl0 {M : Mm} {v : Int64} : wl M 275 1 0 v = some (sL M 275 0 v) := wl_o (i := 0) (by omega) (by omega)
section LC
variable {xs : Nat → Int32} {L i k : Nat} {M : Mm}
theorem e7 : Int32.ofNat (7 * i) + (7 : Int32) = Int32.ofNat (7 * (i + 1)) := by
  rw [show 7 * (i + 1) = 7 * i + 7 by omega, Int32.ofNat_add]; rfl
theorem ax0 (h : 7 * i + 7 ≤ L) (hL : L ≤ 3584) : ax xs L (Int32.ofNat (7 * i)) = some (xs (7 * i)) := ax_o (by omega) (by omega)
theorem ax1 (h : 7 * i + 7 ≤ L) (hL : L ≤ 3584) : ax xs L (Int32.ofNat (7 * i) + 1) = some (xs (7 * i + 1)) := by
  rw [show Int32.ofNat (7 * i) + (1 : Int32) = Int32.ofNat (7 * i + 1) from by rw [Int32.ofNat_add]; rfl]
  exact ax_o (by omega) (by omega)
theorem ax2 (h : 7 * i + 7 ≤ L) (hL : L ≤ 3584) : ax xs L (Int32.ofNat (7 * i) + 2) = some (xs (7 * i + 2)) := by
  rw [show Int32.ofNat (7 * i) + (2 : Int32) = Int32.ofNat (7 * i + 2) from by rw [Int32.ofNat_add]; rfl]
  exact ax_o (by omega) (by omega)
theorem ax3 (h : 7 * i + 7 ≤ L) (hL : L ≤ 3584) : ax xs L (Int32.ofNat (7 * i) + 3) = some (xs (7 * i + 3)) := by
  rw [show Int32.ofNat (7 * i) + (3 : Int32) = Int32.ofNat (7 * i + 3) from by rw [Int32.ofNat_add]; rfl]
  exact ax_o (by omega) (by omega)
theorem ax4 (h : 7 * i + 7 ≤ L) (hL : L ≤ 3584) : ax xs L (Int32.ofNat (7 * i) + 4) = some (xs (7 * i + 4)) := by
  rw [show Int32.ofNat (7 * i) + (4 : Int32) = Int32.ofNat (7 * i + 4) from by rw [Int32.ofNat_add]; rfl]
  exact ax_o (by omega) (by omega)
theorem ax5 (h : 7 * i + 7 ≤ L) (hL : L ≤ 3584) : ax xs L (Int32.ofNat (7 * i) + 5) = some (xs (7 * i + 5)) := by
  rw [show Int32.ofNat (7 * i) + (5 : Int32) = Int32.ofNat (7 * i + 5) from by rw [Int32.ofNat_add]; rfl]
  exact ax_o (by omega) (by omega)
theorem ax6 (h : 7 * i + 7 ≤ L) (hL : L ≤ 3584) : ax xs L (Int32.ofNat (7 * i) + 6) = some (xs (7 * i + 6)) := by
  rw [show Int32.ofNat (7 * i) + (6 : Int32) = Int32.ofNat (7 * i + 6) from by rw [Int32.ofNat_add]; rfl]
  exact ax_o (by omega) (by omega)
theorem case_0 (h : 7 * i + 7 ≤ L) (hL : L ≤ 3584) (hG : ∀ x1 x2 x3 x4 x5 : Int32, GdN k (f_X9_feed x1 x2 x3 x4 x5 M) (f_X10_feed x1 x2 x3 x4 x5)) : ∃ M', f_L_case_0 xs L (Int32.ofNat (7 * i)) M = some (.inl (Int32.ofNat (7 * (i + 1)), M')) ∧ INV (k + 1) M' := by
  unfold f_L_case_0
  obtain ⟨v, M1, M2, h1, h2, h3⟩ := hG (xs (7 * i + 1)) (xs (7 * i + 2)) (xs (7 * i + 3)) (xs (7 * i + 4)) (xs (7 * i + 5))
  refine ⟨M2, ?_, h3⟩
  rw [ax1 h hL, bsome, ax2 h hL, bsome, ax3 h hL, bsome, ax4 h hL, bsome, ax5 h hL, bsome, h1, bsome]
  dsimp only
  rw [bsome, bsome, bsome, bsome, bsome, h2, bsome]
  dsimp only
  rw [if_pos rfl, e7]
theorem case_1 (h : 7 * i + 7 ≤ L) (hL : L ≤ 3584) (hG : ∀ x1 : Int32, GdI k (f_X9_field x1 M) (f_X10_field x1) 0 0 1) : ∃ M', f_L_case_1 xs L (Int32.ofNat (7 * i)) M = some (.inl (Int32.ofNat (7 * (i + 1)), M')) ∧ INV (k + 1) M' := by
  unfold f_L_case_1
  rw [ax1 h hL, bsome]
  unfold f_L_field
  rcases hG (xs (7 * i + 1)) with ⟨e, M1, c, b, M2, h1, h2, h3, h4, h5, h6⟩ | ⟨v, M1, M2, h1, h2, h3, h4, h5⟩
  · rw [h1, bsome]
    have hc : catE (none) (none) (some 1) e M1 = some (c, M1) := by
      rcases h2 with ⟨rfl, rfl⟩ | ⟨rfl, rfl⟩ | ⟨rfl, rfl⟩ <;> first | rfl | exact absurd rfl h3
    refine ⟨M2, ?_, h6⟩
    dsimp only
    rw [hc, bsome]
    dsimp only
    rw [bsome, h4, bsome]
    dsimp only
    rw [show f_X10_thrown M2 = some c from congrArg some h5, bsome, if_pos rfl, if_neg h3]
    unfold f_L_law__j322
    rw [e7]
  · rw [h1, bsome]
    refine ⟨M2, ?_, h5⟩
    dsimp only
    rw [wl0, bsome, bsome]
    dsimp only
    rw [bsome, h2, bsome]
    dsimp only
    rw [show f_X10_thrown M2 = some 0 from congrArg some h3, bsome, if_pos rfl, if_pos rfl, al0, bsome, h4, lg_eq, if_pos rfl]
    unfold f_L_law__j322
    rw [e7]
theorem case_2 (h : 7 * i + 7 ≤ L) (hL : L ≤ 3584) (hG : ∀ x1 x2 : Int32, GdI k (f_X9_law x1 x2 M) (f_X10_law x1 x2) 0 0 1) : ∃ M', f_L_case_2 xs L (Int32.ofNat (7 * i)) M = some (.inl (Int32.ofNat (7 * (i + 1)), M')) ∧ INV (k + 1) M' := by
  unfold f_L_case_2
  rw [ax1 h hL, bsome, ax2 h hL, bsome]
  unfold f_L_law
  rcases hG (xs (7 * i + 1)) (xs (7 * i + 2)) with ⟨e, M1, c, b, M2, h1, h2, h3, h4, h5, h6⟩ | ⟨v, M1, M2, h1, h2, h3, h4, h5⟩
  · rw [h1, bsome]
    have hc : catE (none) (none) (some 1) e M1 = some (c, M1) := by
      rcases h2 with ⟨rfl, rfl⟩ | ⟨rfl, rfl⟩ | ⟨rfl, rfl⟩ <;> first | rfl | exact absurd rfl h3
    refine ⟨M2, ?_, h6⟩
    dsimp only
    rw [hc, bsome]
    dsimp only
    rw [bsome, bsome, h4, bsome]
    dsimp only
    rw [show f_X10_thrown M2 = some c from congrArg some h5, bsome, if_pos rfl, if_neg h3]
    unfold f_L_law__j390
    rw [e7]
  · rw [h1, bsome]
    refine ⟨M2, ?_, h5⟩
    dsimp only
    rw [wl0, bsome, bsome]
    dsimp only
    rw [bsome, bsome, h2, bsome]
    dsimp only
    rw [show f_X10_thrown M2 = some 0 from congrArg some h3, bsome, if_pos rfl, if_pos rfl, al0, bsome, h4, lg_eq, if_pos rfl]
    unfold f_L_law__j390
    rw [e7]
theorem case_3 (h : 7 * i + 7 ≤ L) (hL : L ≤ 3584) (hG : ∀ x1 : Int32, GdI k (f_X9_work x1 M) (f_X10_work x1) 0 0 1) : ∃ M', f_L_case_3 xs L (Int32.ofNat (7 * i)) M = some (.inl (Int32.ofNat (7 * (i + 1)), M')) ∧ INV (k + 1) M' := by
  unfold f_L_case_3
  rw [ax1 h hL, bsome]
  unfold f_L_work
  rcases hG (xs (7 * i + 1)) with ⟨e, M1, c, b, M2, h1, h2, h3, h4, h5, h6⟩ | ⟨v, M1, M2, h1, h2, h3, h4, h5⟩
  · rw [h1, bsome]
    have hc : catE (none) (none) (some 1) e M1 = some (c, M1) := by
      rcases h2 with ⟨rfl, rfl⟩ | ⟨rfl, rfl⟩ | ⟨rfl, rfl⟩ <;> first | rfl | exact absurd rfl h3
    refine ⟨M2, ?_, h6⟩
    dsimp only
    rw [hc, bsome]
    dsimp only
    rw [bsome, h4, bsome]
    dsimp only
    rw [show f_X10_thrown M2 = some c from congrArg some h5, bsome, if_pos rfl, if_neg h3]
    unfold f_L_law__j446
    rw [e7]
  · rw [h1, bsome]
    refine ⟨M2, ?_, h5⟩
    dsimp only
    rw [wl0, bsome, bsome]
    dsimp only
    rw [bsome, h2, bsome]
    dsimp only
    rw [show f_X10_thrown M2 = some 0 from congrArg some h3, bsome, if_pos rfl, if_pos rfl, al0, bsome, h4, lg_eq, if_pos rfl]
    unfold f_L_law__j446
    rw [e7]
theorem case_4 (h : 7 * i + 7 ≤ L) (hL : L ≤ 3584) (hG : ∀ x1 : Int32, GdI k (f_X9_book x1 M) (f_X10_book x1) 0 0 1) : ∃ M', f_L_case_4 xs L (Int32.ofNat (7 * i)) M = some (.inl (Int32.ofNat (7 * (i + 1)), M')) ∧ INV (k + 1) M' := by
  unfold f_L_case_4
  rw [ax1 h hL, bsome]
  unfold f_L_book
  rcases hG (xs (7 * i + 1)) with ⟨e, M1, c, b, M2, h1, h2, h3, h4, h5, h6⟩ | ⟨v, M1, M2, h1, h2, h3, h4, h5⟩
  · rw [h1, bsome]
    have hc : catE (none) (none) (some 1) e M1 = some (c, M1) := by
      rcases h2 with ⟨rfl, rfl⟩ | ⟨rfl, rfl⟩ | ⟨rfl, rfl⟩ <;> first | rfl | exact absurd rfl h3
    refine ⟨M2, ?_, h6⟩
    dsimp only
    rw [hc, bsome]
    dsimp only
    rw [bsome, h4, bsome]
    dsimp only
    rw [show f_X10_thrown M2 = some c from congrArg some h5, bsome, if_pos rfl, if_neg h3]
    unfold f_L_law__j502
    rw [e7]
  · rw [h1, bsome]
    refine ⟨M2, ?_, h5⟩
    dsimp only
    rw [wl0, bsome, bsome]
    dsimp only
    rw [bsome, h2, bsome]
    dsimp only
    rw [show f_X10_thrown M2 = some 0 from congrArg some h3, bsome, if_pos rfl, if_pos rfl, al0, bsome, h4, lg_eq, if_pos rfl]
    unfold f_L_law__j502
    rw [e7]
theorem case_5 (h : 7 * i + 7 ≤ L) (hL : L ≤ 3584) (hG : GdP k (f_X9_fault M) (f_X10_fault M)) : ∃ M', f_L_case_5 xs L (Int32.ofNat (7 * i)) M = some (.inl (Int32.ofNat (7 * (i + 1)), M')) ∧ INV (k + 1) M' := by
  unfold f_L_case_5
  obtain ⟨v, M2, h1, h2, h3⟩ := hG 
  refine ⟨M2, ?_, h3⟩
  rw [h1, bsome, h2, bsome]
  dsimp only
  rw [if_pos rfl, e7]
theorem case_6 (h : 7 * i + 7 ≤ L) (hL : L ≤ 3584) (hG : GdN k (f_X9_undo M) f_X10_undo) : ∃ M', f_L_case_6 xs L (Int32.ofNat (7 * i)) M = some (.inl (Int32.ofNat (7 * (i + 1)), M')) ∧ INV (k + 1) M' := by
  unfold f_L_case_6
  obtain ⟨v, M1, M2, h1, h2, h3⟩ := hG 
  refine ⟨M2, ?_, h3⟩
  rw [h1, bsome]
  dsimp only
  rw [h2, bsome]
  dsimp only
  rw [if_pos rfl, e7]
theorem case_7 (h : 7 * i + 7 ≤ L) (hL : L ≤ 3584) (hG : ∀ x1 : Int32, GdI k (f_X9_told x1 M) (f_X10_told x1) 0 0 1) : ∃ M', f_L_case_7 xs L (Int32.ofNat (7 * i)) M = some (.inl (Int32.ofNat (7 * (i + 1)), M')) ∧ INV (k + 1) M' := by
  unfold f_L_case_7
  rw [ax1 h hL, bsome]
  unfold f_L_told
  rcases hG (xs (7 * i + 1)) with ⟨e, M1, c, b, M2, h1, h2, h3, h4, h5, h6⟩ | ⟨v, M1, M2, h1, h2, h3, h4, h5⟩
  · rw [h1, bsome]
    have hc : catE (none) (none) (some 1) e M1 = some (c, M1) := by
      rcases h2 with ⟨rfl, rfl⟩ | ⟨rfl, rfl⟩ | ⟨rfl, rfl⟩ <;> first | rfl | exact absurd rfl h3
    refine ⟨M2, ?_, h6⟩
    dsimp only
    rw [hc, bsome]
    dsimp only
    rw [bsome, h4, bsome]
    dsimp only
    rw [show f_X10_thrown M2 = some c from congrArg some h5, bsome, if_pos rfl, if_neg h3]
    unfold f_L_law__j584
    rw [e7]
  · rw [h1, bsome]
    refine ⟨M2, ?_, h5⟩
    dsimp only
    rw [wl0, bsome, bsome]
    dsimp only
    rw [bsome, h2, bsome]
    dsimp only
    rw [show f_X10_thrown M2 = some 0 from congrArg some h3, bsome, if_pos rfl, if_pos rfl, al0, bsome, h4, lg_eq, if_pos rfl]
    unfold f_L_law__j584
    rw [e7]
theorem case_8 (h : 7 * i + 7 ≤ L) (hL : L ≤ 3584) (hG : ∀ x1 x2 : Int32, GdI k (f_X9_stone x1 x2 M) (f_X10_stone x1 x2) 0 1 2) : ∃ M', f_L_case_8 xs L (Int32.ofNat (7 * i)) M = some (.inl (Int32.ofNat (7 * (i + 1)), M')) ∧ INV (k + 1) M' := by
  unfold f_L_case_8
  rw [ax1 h hL, bsome, ax2 h hL, bsome]
  unfold f_L_stone
  rcases hG (xs (7 * i + 1)) (xs (7 * i + 2)) with ⟨e, M1, c, b, M2, h1, h2, h3, h4, h5, h6⟩ | ⟨v, M1, M2, h1, h2, h3, h4, h5⟩
  · rw [h1, bsome]
    have hc : catE (none) (some 1) (some 2) e M1 = some (c, M1) := by
      rcases h2 with ⟨rfl, rfl⟩ | ⟨rfl, rfl⟩ | ⟨rfl, rfl⟩ <;> first | rfl | exact absurd rfl h3
    refine ⟨M2, ?_, h6⟩
    dsimp only
    rw [hc, bsome]
    dsimp only
    rw [bsome, bsome, h4, bsome]
    dsimp only
    rw [show f_X10_thrown M2 = some c from congrArg some h5, bsome, if_pos rfl, if_neg h3]
    unfold f_L_law__j652
    rw [e7]
  · rw [h1, bsome]
    refine ⟨M2, ?_, h5⟩
    dsimp only
    rw [wl0, bsome, bsome]
    dsimp only
    rw [bsome, bsome, h2, bsome]
    dsimp only
    rw [show f_X10_thrown M2 = some 0 from congrArg some h3, bsome, if_pos rfl, if_pos rfl, al0, bsome, h4, lg_eq, if_pos rfl]
    unfold f_L_law__j652
    rw [e7]
theorem case_9 (h : 7 * i + 7 ≤ L) (hL : L ≤ 3584) (hG : ∀ x1 x2 x3 : Int32, GdI k (f_X9_cell x1 x2 x3 M) (f_X10_cell x1 x2 x3) 1 0 2) : ∃ M', f_L_case_9 xs L (Int32.ofNat (7 * i)) M = some (.inl (Int32.ofNat (7 * (i + 1)), M')) ∧ INV (k + 1) M' := by
  unfold f_L_case_9
  rw [ax1 h hL, bsome, ax2 h hL, bsome, ax3 h hL, bsome]
  unfold f_L_cell
  rcases hG (xs (7 * i + 1)) (xs (7 * i + 2)) (xs (7 * i + 3)) with ⟨e, M1, c, b, M2, h1, h2, h3, h4, h5, h6⟩ | ⟨v, M1, M2, h1, h2, h3, h4, h5⟩
  · rw [h1, bsome]
    have hc : catE (some 1) (none) (some 2) e M1 = some (c, M1) := by
      rcases h2 with ⟨rfl, rfl⟩ | ⟨rfl, rfl⟩ | ⟨rfl, rfl⟩ <;> first | rfl | exact absurd rfl h3
    refine ⟨M2, ?_, h6⟩
    dsimp only
    rw [hc, bsome]
    dsimp only
    rw [bsome, bsome, bsome, h4, bsome]
    dsimp only
    rw [show f_X10_thrown M2 = some c from congrArg some h5, bsome, if_pos rfl, if_neg h3]
    unfold f_L_law__j732
    rw [e7]
  · rw [h1, bsome]
    refine ⟨M2, ?_, h5⟩
    dsimp only
    rw [wl0, bsome, bsome]
    dsimp only
    rw [bsome, bsome, bsome, h2, bsome]
    dsimp only
    rw [show f_X10_thrown M2 = some 0 from congrArg some h3, bsome, if_pos rfl, if_pos rfl, al0, bsome, h4, lg_eq, if_pos rfl]
    unfold f_L_law__j732
    rw [e7]
theorem case_10 (h : 7 * i + 7 ≤ L) (hL : L ≤ 3584) (hG : ∀ x1 : Int32, GdI k (f_X9_sledge x1 M) (f_X10_sledge x1) 0 0 1) : ∃ M', f_L_case_10 xs L (Int32.ofNat (7 * i)) M = some (.inl (Int32.ofNat (7 * (i + 1)), M')) ∧ INV (k + 1) M' := by
  unfold f_L_case_10
  rw [ax1 h hL, bsome]
  unfold f_L_sledge
  rcases hG (xs (7 * i + 1)) with ⟨e, M1, c, b, M2, h1, h2, h3, h4, h5, h6⟩ | ⟨v, M1, M2, h1, h2, h3, h4, h5⟩
  · rw [h1, bsome]
    have hc : catE (none) (none) (some 1) e M1 = some (c, M1) := by
      rcases h2 with ⟨rfl, rfl⟩ | ⟨rfl, rfl⟩ | ⟨rfl, rfl⟩ <;> first | rfl | exact absurd rfl h3
    refine ⟨M2, ?_, h6⟩
    dsimp only
    rw [hc, bsome]
    dsimp only
    rw [bsome, h4, bsome]
    dsimp only
    rw [show f_X10_thrown M2 = some c from congrArg some h5, bsome, if_pos rfl, if_neg h3]
    unfold f_L_law__j788
    rw [e7]
  · rw [h1, bsome]
    refine ⟨M2, ?_, h5⟩
    dsimp only
    rw [wl0, bsome, bsome]
    dsimp only
    rw [bsome, h2, bsome]
    dsimp only
    rw [show f_X10_thrown M2 = some 0 from congrArg some h3, bsome, if_pos rfl, if_pos rfl, al0, bsome, h4, lg_eq, if_pos rfl]
    unfold f_L_law__j788
    rw [e7]
theorem case_11 (h : 7 * i + 7 ≤ L) (hL : L ≤ 3584) (hG : ∀ x1 : Int32, GdI k (f_X9_sums x1 M) (f_X10_sums x1) 0 0 1) : ∃ M', f_L_case_11 xs L (Int32.ofNat (7 * i)) M = some (.inl (Int32.ofNat (7 * (i + 1)), M')) ∧ INV (k + 1) M' := by
  unfold f_L_case_11
  rw [ax1 h hL, bsome]
  unfold f_L_sums
  rcases hG (xs (7 * i + 1)) with ⟨e, M1, c, b, M2, h1, h2, h3, h4, h5, h6⟩ | ⟨v, M1, M2, h1, h2, h3, h4, h5⟩
  · rw [h1, bsome]
    have hc : catE (none) (none) (some 1) e M1 = some (c, M1) := by
      rcases h2 with ⟨rfl, rfl⟩ | ⟨rfl, rfl⟩ | ⟨rfl, rfl⟩ <;> first | rfl | exact absurd rfl h3
    refine ⟨M2, ?_, h6⟩
    dsimp only
    rw [hc, bsome]
    dsimp only
    rw [bsome, h4, bsome]
    dsimp only
    rw [show f_X10_thrown M2 = some c from congrArg some h5, bsome, if_pos rfl, if_neg h3]
    unfold f_L_law__j844
    rw [e7]
  · rw [h1, bsome]
    refine ⟨M2, ?_, h5⟩
    dsimp only
    rw [wl0, bsome, bsome]
    dsimp only
    rw [bsome, h2, bsome]
    dsimp only
    rw [show f_X10_thrown M2 = some 0 from congrArg some h3, bsome, if_pos rfl, if_pos rfl, al0, bsome, h4, lg_eq, if_pos rfl]
    unfold f_L_law__j844
    rw [e7]
theorem case_12 (h : 7 * i + 7 ≤ L) (hL : L ≤ 3584) (hG : ∀ x1 x2 x3 : Int32, GdI k (f_X9_damage x1 x2 x3 M) (f_X10_damage x1 x2 x3) 1 0 2) : ∃ M', f_L_case_12 xs L (Int32.ofNat (7 * i)) M = some (.inl (Int32.ofNat (7 * (i + 1)), M')) ∧ INV (k + 1) M' := by
  unfold f_L_case_12
  rw [ax1 h hL, bsome, ax2 h hL, bsome, ax3 h hL, bsome]
  unfold f_L_damage
  rcases hG (xs (7 * i + 1)) (xs (7 * i + 2)) (xs (7 * i + 3)) with ⟨e, M1, c, b, M2, h1, h2, h3, h4, h5, h6⟩ | ⟨v, M1, M2, h1, h2, h3, h4, h5⟩
  · rw [h1, bsome]
    have hc : catE (some 1) (none) (some 2) e M1 = some (c, M1) := by
      rcases h2 with ⟨rfl, rfl⟩ | ⟨rfl, rfl⟩ | ⟨rfl, rfl⟩ <;> first | rfl | exact absurd rfl h3
    refine ⟨M2, ?_, h6⟩
    dsimp only
    rw [hc, bsome]
    dsimp only
    rw [bsome, bsome, bsome, h4, bsome]
    dsimp only
    rw [show f_X10_thrown M2 = some c from congrArg some h5, bsome, if_pos rfl, if_neg h3]
    unfold f_L_law__j924
    rw [e7]
  · rw [h1, bsome]
    refine ⟨M2, ?_, h5⟩
    dsimp only
    rw [wl0, bsome, bsome]
    dsimp only
    rw [bsome, bsome, bsome, h2, bsome]
    dsimp only
    rw [show f_X10_thrown M2 = some 0 from congrArg some h3, bsome, if_pos rfl, if_pos rfl, al0, bsome, h4, lg_eq, if_pos rfl]
    unfold f_L_law__j924
    rw [e7]
theorem case_13 (h : 7 * i + 7 ≤ L) (hL : L ≤ 3584) (hG : ∀ x1 x2 : Int32, GdI k (f_X9_rises x1 x2 M) (f_X10_rises x1 x2) 1 0 0) : ∃ M', f_L_case_13 xs L (Int32.ofNat (7 * i)) M = some (.inl (Int32.ofNat (7 * (i + 1)), M')) ∧ INV (k + 1) M' := by
  unfold f_L_case_13
  rw [ax1 h hL, bsome, ax2 h hL, bsome]
  unfold f_L_rises
  rcases hG (xs (7 * i + 1)) (xs (7 * i + 2)) with ⟨e, M1, c, b, M2, h1, h2, h3, h4, h5, h6⟩ | ⟨v, M1, M2, h1, h2, h3, h4, h5⟩
  · rw [h1, bsome]
    have hc : catE (some 1) (none) (none) e M1 = some (c, M1) := by
      rcases h2 with ⟨rfl, rfl⟩ | ⟨rfl, rfl⟩ | ⟨rfl, rfl⟩ <;> first | rfl | exact absurd rfl h3
    refine ⟨M2, ?_, h6⟩
    dsimp only
    rw [hc, bsome]
    dsimp only
    rw [bsome, bsome, h4, bsome]
    dsimp only
    rw [show f_X10_thrown M2 = some c from congrArg some h5, bsome, if_pos rfl, if_neg h3]
    unfold f_L_law__j992
    rw [e7]
  · rw [h1, bsome]
    refine ⟨M2, ?_, h5⟩
    dsimp only
    rw [wl0, bsome, bsome]
    dsimp only
    rw [bsome, bsome, h2, bsome]
    dsimp only
    rw [show f_X10_thrown M2 = some 0 from congrArg some h3, bsome, if_pos rfl, if_pos rfl, al0, bsome, h4, lg_eq, if_pos rfl]
    unfold f_L_law__j992
    rw [e7]
theorem case_14 (h : 7 * i + 7 ≤ L) (hL : L ≤ 3584) (hG : ∀ x1 : Int32, GdI k (f_X9_clear x1 M) (f_X10_clear x1) 0 1 0) : ∃ M', f_L_case_14 xs L (Int32.ofNat (7 * i)) M = some (.inl (Int32.ofNat (7 * (i + 1)), M')) ∧ INV (k + 1) M' := by
  unfold f_L_case_14
  rw [ax1 h hL, bsome]
  unfold f_L_clear
  rcases hG (xs (7 * i + 1)) with ⟨e, M1, c, b, M2, h1, h2, h3, h4, h5, h6⟩ | ⟨v, M1, M2, h1, h2, h3, h4, h5⟩
  · rw [h1, bsome]
    have hc : catE (none) (some 1) (none) e M1 = some (c, M1) := by
      rcases h2 with ⟨rfl, rfl⟩ | ⟨rfl, rfl⟩ | ⟨rfl, rfl⟩ <;> first | rfl | exact absurd rfl h3
    refine ⟨M2, ?_, h6⟩
    dsimp only
    rw [hc, bsome]
    dsimp only
    rw [bsome, h4, bsome]
    dsimp only
    rw [show f_X10_thrown M2 = some c from congrArg some h5, bsome, if_pos rfl, if_neg h3]
    unfold f_L_law__j1048
    rw [e7]
  · rw [h1, bsome]
    refine ⟨M2, ?_, h5⟩
    dsimp only
    rw [wl0, bsome, bsome]
    dsimp only
    rw [bsome, h2, bsome]
    dsimp only
    rw [show f_X10_thrown M2 = some 0 from congrArg some h3, bsome, if_pos rfl, if_pos rfl, al0, bsome, h4, lg_eq, if_pos rfl]
    unfold f_L_law__j1048
    rw [e7]
theorem case_15 (h : 7 * i + 7 ≤ L) (hL : L ≤ 3584) (hG : ∀ x1 x2 : Int32, GdI k (f_X9_stops x1 x2 M) (f_X10_stops x1 x2) 0 0 1) : ∃ M', f_L_case_15 xs L (Int32.ofNat (7 * i)) M = some (.inl (Int32.ofNat (7 * (i + 1)), M')) ∧ INV (k + 1) M' := by
  unfold f_L_case_15
  rw [ax1 h hL, bsome, ax2 h hL, bsome]
  unfold f_L_stops
  rcases hG (xs (7 * i + 1)) (xs (7 * i + 2)) with ⟨e, M1, c, b, M2, h1, h2, h3, h4, h5, h6⟩ | ⟨v, M1, M2, h1, h2, h3, h4, h5⟩
  · rw [h1, bsome]
    have hc : catE (none) (none) (some 1) e M1 = some (c, M1) := by
      rcases h2 with ⟨rfl, rfl⟩ | ⟨rfl, rfl⟩ | ⟨rfl, rfl⟩ <;> first | rfl | exact absurd rfl h3
    refine ⟨M2, ?_, h6⟩
    dsimp only
    rw [hc, bsome]
    dsimp only
    rw [bsome, bsome, h4, bsome]
    dsimp only
    rw [show f_X10_thrown M2 = some c from congrArg some h5, bsome, if_pos rfl, if_neg h3]
    unfold f_L_law__j1116
    rw [e7]
  · rw [h1, bsome]
    refine ⟨M2, ?_, h5⟩
    dsimp only
    rw [wl0, bsome, bsome]
    dsimp only
    rw [bsome, bsome, h2, bsome]
    dsimp only
    rw [show f_X10_thrown M2 = some 0 from congrArg some h3, bsome, if_pos rfl, if_pos rfl, al0, bsome, h4, lg_eq, if_pos rfl]
    unfold f_L_law__j1116
    rw [e7]
theorem case_16 (h : 7 * i + 7 ≤ L) (hL : L ≤ 3584) (hG : ∀ x1 : Int32, GdJ k (f_X9_way x1 M) (f_X10_way x1) 0 0 1) : ∃ M', f_L_case_16 xs L (Int32.ofNat (7 * i)) M = some (.inl (Int32.ofNat (7 * (i + 1)), M')) ∧ INV (k + 1) M' := by
  unfold f_L_case_16
  rw [ax1 h hL, bsome]
  unfold f_L_way
  rcases hG (xs (7 * i + 1)) with ⟨e, M1, c, b, M2, h1, h2, h3, h4, h5, h6⟩ | ⟨v, M1, M2, h1, h2, h3, h4, h5⟩
  · rw [h1, bsome]
    have hc : catE (none) (none) (some 1) e M1 = some (c, M1) := by
      rcases h2 with ⟨rfl, rfl⟩ | ⟨rfl, rfl⟩ | ⟨rfl, rfl⟩ <;> first | rfl | exact absurd rfl h3
    refine ⟨M2, ?_, h6⟩
    dsimp only
    rw [hc, bsome]
    dsimp only
    rw [bsome, h4, bsome]
    dsimp only
    rw [show f_X10_thrown M2 = some c from congrArg some h5, bsome, if_pos rfl, if_neg h3]
    unfold f_L_law__j1171
    rw [e7]
  · rw [h1, bsome]
    refine ⟨M2, ?_, h5⟩
    dsimp only
    rw [wl0, bsome, bsome]
    dsimp only
    rw [bsome, h2, bsome]
    dsimp only
    rw [show f_X10_thrown M2 = some 0 from congrArg some h3, bsome, if_pos rfl, if_pos rfl, al0, bsome, h4, lg_eq, if_pos rfl]
    unfold f_L_law__j1171
    rw [e7]
theorem case_17 (h : 7 * i + 7 ≤ L) (hL : L ≤ 3584) (hG : ∀ x1 x2 : Int32, GdI k (f_X9_heaps x1 x2 M) (f_X10_heaps x1 x2) 0 0 1) : ∃ M', f_L_case_17 xs L (Int32.ofNat (7 * i)) M = some (.inl (Int32.ofNat (7 * (i + 1)), M')) ∧ INV (k + 1) M' := by
  unfold f_L_case_17
  rw [ax1 h hL, bsome, ax2 h hL, bsome]
  unfold f_L_heaps
  rcases hG (xs (7 * i + 1)) (xs (7 * i + 2)) with ⟨e, M1, c, b, M2, h1, h2, h3, h4, h5, h6⟩ | ⟨v, M1, M2, h1, h2, h3, h4, h5⟩
  · rw [h1, bsome]
    have hc : catE (none) (none) (some 1) e M1 = some (c, M1) := by
      rcases h2 with ⟨rfl, rfl⟩ | ⟨rfl, rfl⟩ | ⟨rfl, rfl⟩ <;> first | rfl | exact absurd rfl h3
    refine ⟨M2, ?_, h6⟩
    dsimp only
    rw [hc, bsome]
    dsimp only
    rw [bsome, bsome, h4, bsome]
    dsimp only
    rw [show f_X10_thrown M2 = some c from congrArg some h5, bsome, if_pos rfl, if_neg h3]
    unfold f_L_law__j1239
    rw [e7]
  · rw [h1, bsome]
    refine ⟨M2, ?_, h5⟩
    dsimp only
    rw [wl0, bsome, bsome]
    dsimp only
    rw [bsome, bsome, h2, bsome]
    dsimp only
    rw [show f_X10_thrown M2 = some 0 from congrArg some h3, bsome, if_pos rfl, if_pos rfl, al0, bsome, h4, lg_eq, if_pos rfl]
    unfold f_L_law__j1239
    rw [e7]
theorem case_18 (h : 7 * i + 7 ≤ L) (hL : L ≤ 3584) (hG : ∀ x1 x2 : Int32, GdI k (f_X9_line x1 x2 M) (f_X10_line x1 x2) 0 0 1) : ∃ M', f_L_case_18 xs L (Int32.ofNat (7 * i)) M = some (.inl (Int32.ofNat (7 * (i + 1)), M')) ∧ INV (k + 1) M' := by
  unfold f_L_case_18
  rw [ax1 h hL, bsome, ax2 h hL, bsome]
  unfold f_L_line
  rcases hG (xs (7 * i + 1)) (xs (7 * i + 2)) with ⟨e, M1, c, b, M2, h1, h2, h3, h4, h5, h6⟩ | ⟨v, M1, M2, h1, h2, h3, h4, h5⟩
  · rw [h1, bsome]
    have hc : catE (none) (none) (some 1) e M1 = some (c, M1) := by
      rcases h2 with ⟨rfl, rfl⟩ | ⟨rfl, rfl⟩ | ⟨rfl, rfl⟩ <;> first | rfl | exact absurd rfl h3
    refine ⟨M2, ?_, h6⟩
    dsimp only
    rw [hc, bsome]
    dsimp only
    rw [bsome, bsome, h4, bsome]
    dsimp only
    rw [show f_X10_thrown M2 = some c from congrArg some h5, bsome, if_pos rfl, if_neg h3]
    unfold f_L_law__j1307
    rw [e7]
  · rw [h1, bsome]
    refine ⟨M2, ?_, h5⟩
    dsimp only
    rw [wl0, bsome, bsome]
    dsimp only
    rw [bsome, bsome, h2, bsome]
    dsimp only
    rw [show f_X10_thrown M2 = some 0 from congrArg some h3, bsome, if_pos rfl, if_pos rfl, al0, bsome, h4, lg_eq, if_pos rfl]
    unfold f_L_law__j1307
    rw [e7]
theorem case_19 (h : 7 * i + 7 ≤ L) (hL : L ≤ 3584) (hG : ∀ x1 x2 : Int32, GdJ k (f_X9_first x1 x2 M) (f_X10_first x1 x2) 0 0 1) : ∃ M', f_L_case_19 xs L (Int32.ofNat (7 * i)) M = some (.inl (Int32.ofNat (7 * (i + 1)), M')) ∧ INV (k + 1) M' := by
  unfold f_L_case_19
  rw [ax1 h hL, bsome, ax2 h hL, bsome]
  unfold f_L_first
  rcases hG (xs (7 * i + 1)) (xs (7 * i + 2)) with ⟨e, M1, c, b, M2, h1, h2, h3, h4, h5, h6⟩ | ⟨v, M1, M2, h1, h2, h3, h4, h5⟩
  · rw [h1, bsome]
    have hc : catE (none) (none) (some 1) e M1 = some (c, M1) := by
      rcases h2 with ⟨rfl, rfl⟩ | ⟨rfl, rfl⟩ | ⟨rfl, rfl⟩ <;> first | rfl | exact absurd rfl h3
    refine ⟨M2, ?_, h6⟩
    dsimp only
    rw [hc, bsome]
    dsimp only
    rw [bsome, bsome, h4, bsome]
    dsimp only
    rw [show f_X10_thrown M2 = some c from congrArg some h5, bsome, if_pos rfl, if_neg h3]
    unfold f_L_law__j1374
    rw [e7]
  · rw [h1, bsome]
    refine ⟨M2, ?_, h5⟩
    dsimp only
    rw [wl0, bsome, bsome]
    dsimp only
    rw [bsome, bsome, h2, bsome]
    dsimp only
    rw [show f_X10_thrown M2 = some 0 from congrArg some h3, bsome, if_pos rfl, if_pos rfl, al0, bsome, h4, lg_eq, if_pos rfl]
    unfold f_L_law__j1374
    rw [e7]
theorem case_20 (h : 7 * i + 7 ≤ L) (hL : L ≤ 3584) (hG : ∀ x1 x2 x3 x4 : Int32, GdI k (f_X9_mix x1 x2 x3 x4 M) (f_X10_mix x1 x2 x3 x4) 0 0 1) : ∃ M', f_L_case_20 xs L (Int32.ofNat (7 * i)) M = some (.inl (Int32.ofNat (7 * (i + 1)), M')) ∧ INV (k + 1) M' := by
  unfold f_L_case_20
  rw [ax1 h hL, bsome, ax2 h hL, bsome, ax3 h hL, bsome, ax4 h hL, bsome]
  unfold f_L_mix
  rcases hG (xs (7 * i + 1)) (xs (7 * i + 2)) (xs (7 * i + 3)) (xs (7 * i + 4)) with ⟨e, M1, c, b, M2, h1, h2, h3, h4, h5, h6⟩ | ⟨v, M1, M2, h1, h2, h3, h4, h5⟩
  · rw [h1, bsome]
    have hc : catE (none) (none) (some 1) e M1 = some (c, M1) := by
      rcases h2 with ⟨rfl, rfl⟩ | ⟨rfl, rfl⟩ | ⟨rfl, rfl⟩ <;> first | rfl | exact absurd rfl h3
    refine ⟨M2, ?_, h6⟩
    dsimp only
    rw [hc, bsome]
    dsimp only
    rw [bsome, bsome, bsome, bsome, h4, bsome]
    dsimp only
    rw [show f_X10_thrown M2 = some c from congrArg some h5, bsome, if_pos rfl, if_neg h3]
    unfold f_L_law__j1466
    rw [e7]
  · rw [h1, bsome]
    refine ⟨M2, ?_, h5⟩
    dsimp only
    rw [wl0, bsome, bsome]
    dsimp only
    rw [bsome, bsome, bsome, bsome, h2, bsome]
    dsimp only
    rw [show f_X10_thrown M2 = some 0 from congrArg some h3, bsome, if_pos rfl, if_pos rfl, al0, bsome, h4, lg_eq, if_pos rfl]
    unfold f_L_law__j1466
    rw [e7]
theorem case_21 (h : 7 * i + 7 ≤ L) (hL : L ≤ 3584) (hG : ∀ x1 x2 : Int32, GdI k (f_X9_enough x1 x2 M) (f_X10_enough x1 x2) 0 0 1) : ∃ M', f_L_case_21 xs L (Int32.ofNat (7 * i)) M = some (.inl (Int32.ofNat (7 * (i + 1)), M')) ∧ INV (k + 1) M' := by
  unfold f_L_case_21
  rw [ax1 h hL, bsome, ax2 h hL, bsome]
  unfold f_L_enough
  rcases hG (xs (7 * i + 1)) (xs (7 * i + 2)) with ⟨e, M1, c, b, M2, h1, h2, h3, h4, h5, h6⟩ | ⟨v, M1, M2, h1, h2, h3, h4, h5⟩
  · rw [h1, bsome]
    have hc : catE (none) (none) (some 1) e M1 = some (c, M1) := by
      rcases h2 with ⟨rfl, rfl⟩ | ⟨rfl, rfl⟩ | ⟨rfl, rfl⟩ <;> first | rfl | exact absurd rfl h3
    refine ⟨M2, ?_, h6⟩
    dsimp only
    rw [hc, bsome]
    dsimp only
    rw [bsome, bsome, h4, bsome]
    dsimp only
    rw [show f_X10_thrown M2 = some c from congrArg some h5, bsome, if_pos rfl, if_neg h3]
    unfold f_L_law__j1534
    rw [e7]
  · rw [h1, bsome]
    refine ⟨M2, ?_, h5⟩
    dsimp only
    rw [wl0, bsome, bsome]
    dsimp only
    rw [bsome, bsome, h2, bsome]
    dsimp only
    rw [show f_X10_thrown M2 = some 0 from congrArg some h3, bsome, if_pos rfl, if_pos rfl, al0, bsome, h4, lg_eq, if_pos rfl]
    unfold f_L_law__j1534
    rw [e7]
theorem case_22 (h : 7 * i + 7 ≤ L) (hL : L ≤ 3584) (hG : ∀ x1 x2 : Int32, GdI k (f_X9_left x1 x2 M) (f_X10_left x1 x2) 0 0 1) : ∃ M', f_L_case_22 xs L (Int32.ofNat (7 * i)) M = some (.inl (Int32.ofNat (7 * (i + 1)), M')) ∧ INV (k + 1) M' := by
  unfold f_L_case_22
  rw [ax1 h hL, bsome, ax2 h hL, bsome]
  unfold f_L_left
  rcases hG (xs (7 * i + 1)) (xs (7 * i + 2)) with ⟨e, M1, c, b, M2, h1, h2, h3, h4, h5, h6⟩ | ⟨v, M1, M2, h1, h2, h3, h4, h5⟩
  · rw [h1, bsome]
    have hc : catE (none) (none) (some 1) e M1 = some (c, M1) := by
      rcases h2 with ⟨rfl, rfl⟩ | ⟨rfl, rfl⟩ | ⟨rfl, rfl⟩ <;> first | rfl | exact absurd rfl h3
    refine ⟨M2, ?_, h6⟩
    dsimp only
    rw [hc, bsome]
    dsimp only
    rw [bsome, bsome, h4, bsome]
    dsimp only
    rw [show f_X10_thrown M2 = some c from congrArg some h5, bsome, if_pos rfl, if_neg h3]
    unfold f_L_law__j1602
    rw [e7]
  · rw [h1, bsome]
    refine ⟨M2, ?_, h5⟩
    dsimp only
    rw [wl0, bsome, bsome]
    dsimp only
    rw [bsome, bsome, h2, bsome]
    dsimp only
    rw [show f_X10_thrown M2 = some 0 from congrArg some h3, bsome, if_pos rfl, if_pos rfl, al0, bsome, h4, lg_eq, if_pos rfl]
    unfold f_L_law__j1602
    rw [e7]
theorem case_23 (h : 7 * i + 7 ≤ L) (hL : L ≤ 3584) (hG : GdN k (f_X9_fits M) f_X10_fits) : ∃ M', f_L_case_23 xs L (Int32.ofNat (7 * i)) M = some (.inl (Int32.ofNat (7 * (i + 1)), M')) ∧ INV (k + 1) M' := by
  unfold f_L_case_23
  obtain ⟨v, M1, M2, h1, h2, h3⟩ := hG 
  refine ⟨M2, ?_, h3⟩
  rw [h1, bsome]
  dsimp only
  rw [h2, bsome]
  dsimp only
  rw [if_pos rfl, e7]
theorem case_24 (h : 7 * i + 7 ≤ L) (hL : L ≤ 3584) (hG : ∀ x1 x2 x3 x4 : Int32, GdI k (f_X9_frost x1 x2 x3 x4 M) (f_X10_frost x1 x2 x3 x4) 0 0 1) : ∃ M', f_L_case_24 xs L (Int32.ofNat (7 * i)) M = some (.inl (Int32.ofNat (7 * (i + 1)), M')) ∧ INV (k + 1) M' := by
  unfold f_L_case_24
  rw [ax1 h hL, bsome, ax2 h hL, bsome, ax3 h hL, bsome, ax4 h hL, bsome]
  unfold f_L_frost
  rcases hG (xs (7 * i + 1)) (xs (7 * i + 2)) (xs (7 * i + 3)) (xs (7 * i + 4)) with ⟨e, M1, c, b, M2, h1, h2, h3, h4, h5, h6⟩ | ⟨v, M1, M2, h1, h2, h3, h4, h5⟩
  · rw [h1, bsome]
    have hc : catE (none) (none) (some 1) e M1 = some (c, M1) := by
      rcases h2 with ⟨rfl, rfl⟩ | ⟨rfl, rfl⟩ | ⟨rfl, rfl⟩ <;> first | rfl | exact absurd rfl h3
    refine ⟨M2, ?_, h6⟩
    dsimp only
    rw [hc, bsome]
    dsimp only
    rw [bsome, bsome, bsome, bsome, h4, bsome]
    dsimp only
    rw [show f_X10_thrown M2 = some c from congrArg some h5, bsome, if_pos rfl, if_neg h3]
    unfold f_L_law__j1707
    rw [e7]
  · rw [h1, bsome]
    refine ⟨M2, ?_, h5⟩
    dsimp only
    rw [wl0, bsome, bsome]
    dsimp only
    rw [bsome, bsome, bsome, bsome, h2, bsome]
    dsimp only
    rw [show f_X10_thrown M2 = some 0 from congrArg some h3, bsome, if_pos rfl, if_pos rfl, al0, bsome, h4, lg_eq, if_pos rfl]
    unfold f_L_law__j1707
    rw [e7]
theorem case_25 (h : 7 * i + 7 ≤ L) (hL : L ≤ 3584) (hG : ∀ x1 x2 x3 x4 x5 x6 : Int32, GdI k (f_X9_span x1 x2 x3 x4 x5 x6 M) (f_X10_span x1 x2 x3 x4 x5 x6) 0 0 1) : ∃ M', f_L_case_25 xs L (Int32.ofNat (7 * i)) M = some (.inl (Int32.ofNat (7 * (i + 1)), M')) ∧ INV (k + 1) M' := by
  unfold f_L_case_25
  rw [ax1 h hL, bsome, ax2 h hL, bsome, ax3 h hL, bsome, ax4 h hL, bsome, ax5 h hL, bsome, ax6 h hL, bsome]
  unfold f_L_span
  rcases hG (xs (7 * i + 1)) (xs (7 * i + 2)) (xs (7 * i + 3)) (xs (7 * i + 4)) (xs (7 * i + 5)) (xs (7 * i + 6)) with ⟨e, M1, c, b, M2, h1, h2, h3, h4, h5, h6⟩ | ⟨v, M1, M2, h1, h2, h3, h4, h5⟩
  · rw [h1, bsome]
    have hc : catE (none) (none) (some 1) e M1 = some (c, M1) := by
      rcases h2 with ⟨rfl, rfl⟩ | ⟨rfl, rfl⟩ | ⟨rfl, rfl⟩ <;> first | rfl | exact absurd rfl h3
    refine ⟨M2, ?_, h6⟩
    dsimp only
    rw [hc, bsome]
    dsimp only
    rw [bsome, bsome, bsome, bsome, bsome, bsome, h4, bsome]
    dsimp only
    rw [show f_X10_thrown M2 = some c from congrArg some h5, bsome, if_pos rfl, if_neg h3]
    unfold f_L_law__j1825
    rw [e7]
  · rw [h1, bsome]
    refine ⟨M2, ?_, h5⟩
    dsimp only
    rw [wl0, bsome, bsome]
    dsimp only
    rw [bsome, bsome, bsome, bsome, bsome, bsome, h2, bsome]
    dsimp only
    rw [show f_X10_thrown M2 = some 0 from congrArg some h3, bsome, if_pos rfl, if_pos rfl, al0, bsome, h4, lg_eq, if_pos rfl]
    unfold f_L_law__j1825
    rw [e7]
theorem case_26 (h : 7 * i + 7 ≤ L) (hL : L ≤ 3584) (hG : ∀ x1 : Int32, GdI k (f_X9_chosen x1 M) (f_X10_chosen x1) 0 0 1) : ∃ M', f_L_case_26 xs L (Int32.ofNat (7 * i)) M = some (.inl (Int32.ofNat (7 * (i + 1)), M')) ∧ INV (k + 1) M' := by
  unfold f_L_case_26
  rw [ax1 h hL, bsome]
  unfold f_L_chosen
  rcases hG (xs (7 * i + 1)) with ⟨e, M1, c, b, M2, h1, h2, h3, h4, h5, h6⟩ | ⟨v, M1, M2, h1, h2, h3, h4, h5⟩
  · rw [h1, bsome]
    have hc : catE (none) (none) (some 1) e M1 = some (c, M1) := by
      rcases h2 with ⟨rfl, rfl⟩ | ⟨rfl, rfl⟩ | ⟨rfl, rfl⟩ <;> first | rfl | exact absurd rfl h3
    refine ⟨M2, ?_, h6⟩
    dsimp only
    rw [hc, bsome]
    dsimp only
    rw [bsome, h4, bsome]
    dsimp only
    rw [show f_X10_thrown M2 = some c from congrArg some h5, bsome, if_pos rfl, if_neg h3]
    unfold f_L_law__j1881
    rw [e7]
  · rw [h1, bsome]
    refine ⟨M2, ?_, h5⟩
    dsimp only
    rw [wl0, bsome, bsome]
    dsimp only
    rw [bsome, h2, bsome]
    dsimp only
    rw [show f_X10_thrown M2 = some 0 from congrArg some h3, bsome, if_pos rfl, if_pos rfl, al0, bsome, h4, lg_eq, if_pos rfl]
    unfold f_L_law__j1881
    rw [e7]
theorem case_27 (h : 7 * i + 7 ≤ L) (hL : L ≤ 3584) (hG : ∀ x1 x2 : Int32, GdI k (f_X9_lifts x1 x2 M) (f_X10_lifts x1 x2) 1 0 0) : ∃ M', f_L_case_27 xs L (Int32.ofNat (7 * i)) M = some (.inl (Int32.ofNat (7 * (i + 1)), M')) ∧ INV (k + 1) M' := by
  unfold f_L_case_27
  rw [ax1 h hL, bsome, ax2 h hL, bsome]
  unfold f_L_lifts
  rcases hG (xs (7 * i + 1)) (xs (7 * i + 2)) with ⟨e, M1, c, b, M2, h1, h2, h3, h4, h5, h6⟩ | ⟨v, M1, M2, h1, h2, h3, h4, h5⟩
  · rw [h1, bsome]
    have hc : catE (some 1) (none) (none) e M1 = some (c, M1) := by
      rcases h2 with ⟨rfl, rfl⟩ | ⟨rfl, rfl⟩ | ⟨rfl, rfl⟩ <;> first | rfl | exact absurd rfl h3
    refine ⟨M2, ?_, h6⟩
    dsimp only
    rw [hc, bsome]
    dsimp only
    rw [bsome, bsome, h4, bsome]
    dsimp only
    rw [show f_X10_thrown M2 = some c from congrArg some h5, bsome, if_pos rfl, if_neg h3]
    unfold f_L_law__j1949
    rw [e7]
  · rw [h1, bsome]
    refine ⟨M2, ?_, h5⟩
    dsimp only
    rw [wl0, bsome, bsome]
    dsimp only
    rw [bsome, bsome, h2, bsome]
    dsimp only
    rw [show f_X10_thrown M2 = some 0 from congrArg some h3, bsome, if_pos rfl, if_pos rfl, al0, bsome, h4, lg_eq, if_pos rfl]
    unfold f_L_law__j1949
    rw [e7]
theorem case_28 (h : 7 * i + 7 ≤ L) (hL : L ≤ 3584) (hG : ∀ x1 x2 : Int32, GdJ k (f_X9_loads x1 x2 M) (f_X10_loads x1 x2) 1 0 0) : ∃ M', f_L_case_28 xs L (Int32.ofNat (7 * i)) M = some (.inl (Int32.ofNat (7 * (i + 1)), M')) ∧ INV (k + 1) M' := by
  unfold f_L_case_28
  rw [ax1 h hL, bsome, ax2 h hL, bsome]
  unfold f_L_loads
  rcases hG (xs (7 * i + 1)) (xs (7 * i + 2)) with ⟨e, M1, c, b, M2, h1, h2, h3, h4, h5, h6⟩ | ⟨v, M1, M2, h1, h2, h3, h4, h5⟩
  · rw [h1, bsome]
    have hc : catE (some 1) (none) (none) e M1 = some (c, M1) := by
      rcases h2 with ⟨rfl, rfl⟩ | ⟨rfl, rfl⟩ | ⟨rfl, rfl⟩ <;> first | rfl | exact absurd rfl h3
    refine ⟨M2, ?_, h6⟩
    dsimp only
    rw [hc, bsome]
    dsimp only
    rw [bsome, bsome, h4, bsome]
    dsimp only
    rw [show f_X10_thrown M2 = some c from congrArg some h5, bsome, if_pos rfl, if_neg h3]
    unfold f_L_law__j2016
    rw [e7]
  · rw [h1, bsome]
    refine ⟨M2, ?_, h5⟩
    dsimp only
    rw [wl0, bsome, bsome]
    dsimp only
    rw [bsome, bsome, h2, bsome]
    dsimp only
    rw [show f_X10_thrown M2 = some 0 from congrArg some h3, bsome, if_pos rfl, if_pos rfl, al0, bsome, h4, lg_eq, if_pos rfl]
    unfold f_L_law__j2016
    rw [e7]
theorem case_29 (h : 7 * i + 7 ≤ L) (hL : L ≤ 3584) (hG : GdP k (f_X9_stoniest M) (f_X10_stoniest M)) : ∃ M', f_L_case_29 xs L (Int32.ofNat (7 * i)) M = some (.inl (Int32.ofNat (7 * (i + 1)), M')) ∧ INV (k + 1) M' := by
  unfold f_L_case_29
  obtain ⟨v, M2, h1, h2, h3⟩ := hG 
  refine ⟨M2, ?_, h3⟩
  rw [h1, bsome, h2, bsome]
  dsimp only
  rw [if_pos rfl, e7]
theorem case_30 (h : 7 * i + 7 ≤ L) (hL : L ≤ 3584) (hG : GdP k (f_X9_clean M) (f_X10_clean M)) : ∃ M', f_L_case_30 xs L (Int32.ofNat (7 * i)) M = some (.inl (Int32.ofNat (7 * (i + 1)), M')) ∧ INV (k + 1) M' := by
  unfold f_L_case_30
  obtain ⟨v, M2, h1, h2, h3⟩ := hG 
  refine ⟨M2, ?_, h3⟩
  rw [h1, bsome, h2, bsome]
  dsimp only
  rw [if_pos rfl, e7]
theorem case_31 (h : 7 * i + 7 ≤ L) (hL : L ≤ 3584) (hG : GdN k (f_X9_image M) f_X10_image) : ∃ M', f_L_case_31 xs L (Int32.ofNat (7 * i)) M = some (.inl (Int32.ofNat (7 * (i + 1)), M')) ∧ INV (k + 1) M' := by
  unfold f_L_case_31
  obtain ⟨v, M1, M2, h1, h2, h3⟩ := hG 
  refine ⟨M2, ?_, h3⟩
  rw [h1, bsome]
  dsimp only
  rw [h2, bsome]
  dsimp only
  rw [if_pos rfl, e7]
theorem case_32 (h : 7 * i + 7 ≤ L) (hL : L ≤ 3584) (hG : GdN k (f_X9_restore M) f_X10_restore) : ∃ M', f_L_case_32 xs L (Int32.ofNat (7 * i)) M = some (.inl (Int32.ofNat (7 * (i + 1)), M')) ∧ INV (k + 1) M' := by
  unfold f_L_case_32
  obtain ⟨v, M1, M2, h1, h2, h3⟩ := hG 
  refine ⟨M2, ?_, h3⟩
  rw [h1, bsome]
  dsimp only
  rw [h2, bsome]
  dsimp only
  rw [if_pos rfl, e7]
theorem case_33 (h : 7 * i + 7 ≤ L) (hL : L ≤ 3584) (hG : ∀ x1 : Int32, GdP k (f_X9_status x1 M) (f_X10_status x1 M)) : ∃ M', f_L_case_33 xs L (Int32.ofNat (7 * i)) M = some (.inl (Int32.ofNat (7 * (i + 1)), M')) ∧ INV (k + 1) M' := by
  unfold f_L_case_33
  obtain ⟨v, M2, h1, h2, h3⟩ := hG (xs (7 * i + 1))
  refine ⟨M2, ?_, h3⟩
  rw [ax1 h hL, bsome, h1, bsome, bsome, h2, bsome]
  dsimp only
  rw [if_pos rfl, e7]
theorem case_34 (h : 7 * i + 7 ≤ L) (hL : L ≤ 3584) (hG : ∀ x1 : Int32, GdP k (f_X9_count x1 M) (f_X10_count x1 M)) : ∃ M', f_L_case_34 xs L (Int32.ofNat (7 * i)) M = some (.inl (Int32.ofNat (7 * (i + 1)), M')) ∧ INV (k + 1) M' := by
  unfold f_L_case_34
  obtain ⟨v, M2, h1, h2, h3⟩ := hG (xs (7 * i + 1))
  refine ⟨M2, ?_, h3⟩
  rw [ax1 h hL, bsome, h1, bsome, bsome, h2, bsome]
  dsimp only
  rw [if_pos rfl, e7]
end LC
