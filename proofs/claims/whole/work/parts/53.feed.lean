/-! level 3: the tape fed -/
theorem whl_s {σ ε : Type} {f : σ → Option (σ ⊕ ε)} {s s' : σ} {n : Nat} (h : f s = some (.inl s')) : whl (n + 1) f s = whl n f s' := by
  show (f s).bind _ = _
  rw [h]
  rfl
theorem whl_e {σ ε : Type} {f : σ → Option (σ ⊕ ε)} {s : σ} {e : ε} {n : Nat} (h : f s = some (.inr e)) : whl (n + 1) f s = some e := by
  show (f s).bind _ = _
  rw [h]
  rfl
theorem b8 (y : Int32) : y.toInt8.toInt32 &&& 255 = y &&& 255 := by
  apply Int32.toBitVec_inj.mp
  rw [Int32.toBitVec_and, Int32.toBitVec_and, Int8.toBitVec_toInt32, Int32.toBitVec_toInt8]
  apply BitVec.eq_of_getLsbD_eq
  intro i hi
  have h255 : ∀ j, j < 32 → ((255 : Int32).toBitVec).getLsbD j = decide (j < 8) := by decide +kernel
  rw [BitVec.getLsbD_and, BitVec.getLsbD_and, h255 i hi]
  by_cases h8 : i < 8
  · rw [BitVec.getLsbD_signExtend]
    simp [h8, hi, BitVec.getElem_signExtend]
  · simp [h8]
theorem b88 (y : Int32) : y.toInt8.toInt32.toInt8.toInt32 &&& 255 = y &&& 255 := by rw [b8, b8]
section FD
variable {k : Nat} {M : Mm} {q : Nat → Nat}
def tpM (C : Mm) (g : Nat → Int32) (n : Nat) : Mm := sI (sA C 2 g) 1 1 (Int32.ofNat n)
def tmM (C : Mm) (g : Nat → Int32) (n : Nat) : Mm := sI (sA C 77 g) 76 1 (Int32.ofNat n)
theorem u2_u2 {α : Type} {f : Nat → Nat → α} {a b k j : Nat} {x y : α} (h : a ≠ b) : u2 (u2 f a k x) b j y = u2 (u2 f b j y) a k x := by
  funext c d
  unfold u2 u1
  by_cases h1 : c = b
  · have h2 : c ≠ a := fun e => h (e.symm.trans h1)
    have h3 : b ≠ a := fun e => h e.symm
    simp [h1, h3]
  · by_cases h2 : c = a
    · simp [h2, h]
    · simp [h1, h2]
theorem sI_comm {C : Mm} {a b k j : Nat} {x y : Int32} (h : a ≠ b) : sI (sI C a k x) b j y = sI (sI C b j y) a k x := by
  show (_, _, _, u2 (u2 (mi C) a k x) b j y, _, _) = _
  rw [u2_u2 h]
  rfl
theorem sI_sI {C : Mm} {a k : Nat} {x y : Int32} : sI (sI C a k x) a k y = sI C a k y := by
  have e : u2 (u2 (mi C) a k x) a k y = u2 (mi C) a k y := by
    unfold u2
    rw [u1_u1, u1_same, u1_u1]
  show (_, _, _, u2 (u2 (mi C) a k x) a k y, _, _) = _
  rw [e]
  rfl
theorem tp_step {C : Mm} {g : Nat → Int32} {n : Nat} {b x : Int32} (hx : x = Int32.ofNat (n + 1)) : sI (sI (tpM C g n) 2 n b) 1 1 x = tpM C (u1 g n b) (n + 1) := by
  unfold tpM
  rw [sI_comm (a := 2) (b := 1) (by omega), sI_sI, sI_comm (a := 1) (b := 2) (by omega), sI_sA, hx]
theorem tm_step {C : Mm} {g : Nat → Int32} {n : Nat} {b x : Int32} (hx : x = Int32.ofNat (n + 1)) : sI (sI (tmM C g n) 77 n b) 76 1 x = tmM C (u1 g n b) (n + 1) := by
  unfold tmM
  rw [sI_comm (a := 77) (b := 76) (by omega), sI_sI, sI_comm (a := 76) (b := 77) (by omega), sI_sA, hx]
theorem tp_n {C : Mm} {g : Nat → Int32} {n : Nat} : mi (tpM C g n) 1 1 = Int32.ofNat n := mi_sI_k
theorem tm_n {C : Mm} {g : Nat → Int32} {n : Nat} : mi (tmM C g n) 76 1 = Int32.ofNat n := mi_sI_k
theorem tp_0 {C : Mm} {n : Nat} (h : mi C 1 1 = Int32.ofNat n) : tpM C (mi C 2) n = C := by
  unfold tpM
  rw [sA_id, ← h]
  have e : u2 (mi C) 1 1 (mi C 1 1) = mi C := by
    funext c d
    unfold u2 u1
    by_cases h1 : c = 1
    · by_cases h2 : d = 1
      · simp [h1, h2]
      · simp [h1, h2]
    · simp [h1]
  show (_, _, _, u2 (mi C) 1 1 (mi C 1 1), _, _) = C
  rw [e]
  rfl
theorem tm_0 {C : Mm} {n : Nat} (h : mi C 76 1 = Int32.ofNat n) : tmM C (mi C 77) n = C := by
  unfold tmM
  rw [sA_id, ← h]
  have e : u2 (mi C) 76 1 (mi C 76 1) = mi C := by
    funext c d
    unfold u2 u1
    by_cases h1 : c = 76
    · by_cases h2 : d = 1
      · simp [h1, h2]
      · simp [h1, h2]
    · simp [h1]
  show (_, _, _, u2 (mi C) 76 1 (mi C 76 1), _, _) = C
  rw [e]
  rfl
def pb (x s : Int32) : Int32 := (x >>> (s &&& 31)).toInt8.toInt32.toInt8.toInt32
theorem push_step {C : Mm} {g : Nat → Int32} {n : Nat} {x s s' : Int32} (hs : ¬ s < 0) (hn : n < 600) (he : s + -8 = s') : f_X7_pushNumber_b3 x (s, tpM C g n) = some (.inl (s', tpM C (u1 g n (pb x s)) (n + 1))) := by
  unfold f_X7_pushNumber_b3
  dsimp only
  have h9 : ¬ (600 : Int32) ≤ Int32.ofNat n := nle (n := 600) hn (by omega)
  rw [if_neg hs, tp_n, if_neg h9, wi_o hn (by omega), bsome, mi_sI_ne (by omega), tp_n, oN_S, tp_step rfl, he]
  rfl
theorem pushN {C : Mm} {g : Nat → Int32} {n : Nat} {x : Int32} (hn : n + 4 ≤ 600) : f_X7_pushNumber x (tpM C g n) = some (tpM C (u1 (u1 (u1 (u1 g n (pb x 24)) (n + 1) (pb x 16)) (n + 2) (pb x 8)) (n + 3) (pb x 0)) (n + 4)) := by
  unfold f_X7_pushNumber
  rw [show whl fu (f_X7_pushNumber_b3 x) (24, tpM C g n) = some (tpM C (u1 (u1 (u1 (u1 g n (pb x 24)) (n + 1) (pb x 16)) (n + 2) (pb x 8)) (n + 3) (pb x 0)) (n + 4)) from by
    show whl (999995 + 1 + 1 + 1 + 1 + 1) _ _ = _
    rw [whl_s (push_step (by decide) (by omega) (show (24 : Int32) + -8 = 16 from rfl)), whl_s (push_step (by decide) (by omega) (show (16 : Int32) + -8 = 8 from rfl)), whl_s (push_step (by decide) (by omega) (show (8 : Int32) + -8 = 0 from rfl)), whl_s (push_step (by decide) (by omega) (show (0 : Int32) + -8 = -8 from rfl))]
    exact whl_e (by unfold f_X7_pushNumber_b3; dsimp only; rw [if_pos (by decide)])]
  rfl
def xsel (x1 x2 x3 x4 x5 : Int32) (i : Nat) : Int32 := if i < 4 then x1 else if i < 8 then x2 else if i < 12 then x3 else if i < 16 then x4 else x5
def shi (i : Nat) : Int32 := if i % 4 = 0 then 24 else if i % 4 = 1 then 16 else if i % 4 = 2 then 8 else 0
def gc (x1 x2 x3 x4 x5 : Int32) (n : Nat) (g : Nat → Int32) : Nat → Nat → Int32
  | 0 => g
  | i + 1 => u1 (gc x1 x2 x3 x4 x5 n g i) (n + i) (pb (xsel x1 x2 x3 x4 x5 i) (shi i))
def gm (x1 x2 x3 x4 x5 : Int32) (n : Nat) (g : Nat → Int32) : Nat → Nat → Int32
  | 0 => g
  | i + 1 => u1 (gm x1 x2 x3 x4 x5 n g i) (n + i) ((xsel x1 x2 x3 x4 x5 i >>> (shi i &&& 31)) &&& 255)
theorem gcm {x1 x2 x3 x4 x5 : Int32} {n : Nat} {g g' : Nat → Int32} (h : ∀ k, k < 600 → g k &&& 255 = g' k) : ∀ i k, k < 600 → gc x1 x2 x3 x4 x5 n g i k &&& 255 = gm x1 x2 x3 x4 x5 n g' i k := by
  intro i
  induction i with
  | zero => exact h
  | succ i ih =>
    intro k hk
    unfold gc gm u1
    by_cases e : k = n + i
    · rw [if_pos e, if_pos e]
      exact b88 _
    · rw [if_neg e, if_neg e]
      exact ih k hk
theorem k_push {C : Mm} {n : Nat} {x1 x2 x3 x4 x5 : Int32} (h : mi C 1 1 = Int32.ofNat n) (hn : n + 20 ≤ 600) : f_X9_feed x1 x2 x3 x4 x5 C = some (Int32.ofNat (n + 20), tpM C (gc x1 x2 x3 x4 x5 n (mi C 2) 20) (n + 20)) := by
  unfold f_X9_feed f_X7_push
  have e : Int32.ofNat n + (20 : Int32) = Int32.ofNat (n + 20) := by rw [Int32.ofNat_add]; rfl
  have h9 : Int32.ofNat (n + 20) ≤ (600 : Int32) := lle (i := 600) hn (by omega)
  rw [h, e, if_pos h9]
  have p0 : f_X7_pushNumber x1 C = some (tpM C (gc x1 x2 x3 x4 x5 n (mi C 2) 4) (n + 4)) := by
    have := pushN (C := C) (g := mi C 2) (n := n) (x := x1) (by omega)
    rw [tp_0 h] at this
    exact this
  have p1 : f_X7_pushNumber x2 (tpM C (gc x1 x2 x3 x4 x5 n (mi C 2) 4) (n + 4)) = some (tpM C (gc x1 x2 x3 x4 x5 n (mi C 2) 8) (n + 8)) := pushN (by omega)
  have p2 : f_X7_pushNumber x3 (tpM C (gc x1 x2 x3 x4 x5 n (mi C 2) 8) (n + 8)) = some (tpM C (gc x1 x2 x3 x4 x5 n (mi C 2) 12) (n + 12)) := pushN (by omega)
  have p3 : f_X7_pushNumber x4 (tpM C (gc x1 x2 x3 x4 x5 n (mi C 2) 12) (n + 12)) = some (tpM C (gc x1 x2 x3 x4 x5 n (mi C 2) 16) (n + 16)) := pushN (by omega)
  have p4 : f_X7_pushNumber x5 (tpM C (gc x1 x2 x3 x4 x5 n (mi C 2) 16) (n + 16)) = some (tpM C (gc x1 x2 x3 x4 x5 n (mi C 2) 20) (n + 20)) := pushN (by omega)
  rw [p0, bsome, p1, bsome, p2, bsome, p3, bsome, p4, bsome, tp_n]
  rfl
theorem m_feedj {C : Mm} {g : Nat → Int32} {n i : Nat} {x1 x2 x3 x4 x5 y : Int32} (hi : i < 20) (hn : n < 600) : f_X10_feed_j76 x1 x2 x3 x4 x5 (Int32.ofNat i) y (tmM C g n) = some (.inl (Int32.ofNat i + 1, tmM C (u1 g n ((y >>> (shi i &&& 31)) &&& 255)) (n + 1))) := by
  unfold f_X10_feed_j76
  have e : ∀ j, j < 20 → (((24 : Int32) - ((8 : Int32) * (Int32.ofNat j - Int32.ofNat j / (4 : Int32) * (4 : Int32)))) &&& 31) = shi j &&& 31 := by decide +kernel
  rw [tm_n, e i hi, wi_o hn (by omega), bsome, mi_sI_ne (by omega), tm_n, oN_S (i := n), tm_step rfl]
theorem m_feedb {C : Mm} {g : Nat → Int32} {n i : Nat} {x1 x2 x3 x4 x5 : Int32} (hi : i < 20) (hn : n < 600) : f_X10_feed_b23 x1 x2 x3 x4 x5 (Int32.ofNat i, tmM C g n) = some (.inl (Int32.ofNat i + 1, tmM C (u1 g n ((xsel x1 x2 x3 x4 x5 i >>> (shi i &&& 31)) &&& 255)) (n + 1))) := by
  unfold f_X10_feed_b23
  dsimp only
  have hj := fun y => m_feedj (C := C) (g := g) (x1 := x1) (x2 := x2) (x3 := x3) (x4 := x4) (x5 := x5) (y := y) hi hn
  have h20 : ¬ (20 : Int32) ≤ Int32.ofNat i := nle (n := 20) hi (by omega)
  rw [if_neg h20, hj, hj, hj, hj, hj]
  unfold xsel
  by_cases h4 : i < 4
  · have g4 : ¬ (4 : Int32) ≤ Int32.ofNat i := nle (n := 4) h4 (by omega)
    rw [if_neg g4, if_pos h4]
  have g4 : (4 : Int32) ≤ Int32.ofNat i := lle (n := 4) (by omega) (by omega)
  rw [if_pos g4, if_neg h4]
  by_cases h8 : i < 8
  · have g8 : ¬ (8 : Int32) ≤ Int32.ofNat i := nle (n := 8) h8 (by omega)
    rw [if_neg g8, if_pos h8]
  have g8 : (8 : Int32) ≤ Int32.ofNat i := lle (n := 8) (by omega) (by omega)
  rw [if_pos g8, if_neg h8]
  by_cases h12 : i < 12
  · have g12 : ¬ (12 : Int32) ≤ Int32.ofNat i := nle (n := 12) h12 (by omega)
    rw [if_neg g12, if_pos h12]
  have g12 : (12 : Int32) ≤ Int32.ofNat i := lle (n := 12) (by omega) (by omega)
  rw [if_pos g12, if_neg h12]
  by_cases h16 : i < 16
  · have g16 : ¬ (16 : Int32) ≤ Int32.ofNat i := nle (n := 16) h16 (by omega)
    rw [if_neg g16, if_pos h16]
  have g16 : (16 : Int32) ≤ Int32.ofNat i := lle (n := 16) (by omega) (by omega)
  rw [if_pos g16, if_neg h16]
theorem m_feed {C : Mm} {n : Nat} {x1 x2 x3 x4 x5 : Int32} (h : mi C 76 1 = Int32.ofNat n) (hn : n + 20 ≤ 600) : f_X10_feed x1 x2 x3 x4 x5 C = some (Int32.ofNat (n + 20), tmM (sI C 76 0 0) (gm x1 x2 x3 x4 x5 n (mi C 77) 20) (n + 20)) := by
  unfold f_X10_feed
  have e : Int32.ofNat n + (20 : Int32) = Int32.ofNat (n + 20) := by rw [Int32.ofNat_add]; rfl
  have h9 : Int32.ofNat (n + 20) ≤ (600 : Int32) := lle (i := 600) hn (by omega)
  have h1 : mi (sI C 76 0 0) 76 1 = Int32.ofNat n := by rw [mi_sI_o (by omega), h]
  have h77 : mi (sI C 76 0 0) 77 = mi C 77 := mi_sI_ne (by omega)
  have w := whl_eq (f := f_X10_feed_b23 x1 x2 x3 x4 x5) (e := tmM (sI C 76 0 0) (gm x1 x2 x3 x4 x5 n (mi C 77) 20) (n + 20)) 20 fu (fun i => (Int32.ofNat i, tmM (sI C 76 0 0) (gm x1 x2 x3 x4 x5 n (mi C 77) i) (n + i))) (by decide) (fun i hi => by
    try dsimp only
    rw [m_feedb hi (by omega), oN_S]
    rfl) (by
    try dsimp only
    unfold f_X10_feed_b23
    dsimp only
    have h9 : (20 : Int32) ≤ Int32.ofNat 20 := le_rf _
    rw [if_pos h9])
  have w0 : tmM (sI C 76 0 0) (gm x1 x2 x3 x4 x5 n (mi C 77) 0) (n + 0) = sI C 76 0 0 := by
    have := tm_0 h1
    rw [h77] at this
    exact this
  have w' : whl fu (f_X10_feed_b23 x1 x2 x3 x4 x5) (Int32.ofNat 0, tmM (sI C 76 0 0) (gm x1 x2 x3 x4 x5 n (mi C 77) 0) (n + 0)) = _ := w
  rw [w0] at w'
  have w2 : whl fu (f_X10_feed_b23 x1 x2 x3 x4 x5) (0, sI C 76 0 0) = some (tmM (sI C 76 0 0) (gm x1 x2 x3 x4 x5 n (mi C 77) 20) (n + 20)) := w'
  rw [h1, e, if_pos h9, w2, bsome, tm_n]
theorem mi_tp {C : Mm} {g : Nat → Int32} {n a : Nat} (h1 : a ≠ 1) (h2 : a ≠ 2) : mi (tpM C g n) a = mi C a := by unfold tpM; rw [mi_sI_ne h1, mi_sA_ne h2]
theorem mi_tm {C : Mm} {g : Nat → Int32} {n a : Nat} (h1 : a ≠ 76) (h2 : a ≠ 77) : mi (tmM C g n) a = mi C a := by unfold tmM; rw [mi_sI_ne h1, mi_sA_ne h2]
theorem G_feed (hI : INV k M) : ∀ x1 x2 x3 x4 x5 : Int32, GdN k (f_X9_feed x1 x2 x3 x4 x5 M) (f_X10_feed x1 x2 x3 x4 x5) := by
  obtain ⟨⟨q, h⟩, r⟩ := id hI
  intro x1 x2 x3 x4 x5
  obtain ⟨⟨n, hn, e1, e2⟩, e3, e4⟩ := h.2.1
  by_cases h20 : n + 20 ≤ 600
  · have hc := k_push (x1 := x1) (x2 := x2) (x3 := x3) (x4 := x4) (x5 := x5) e1 h20
    generalize hC : tpM M (gc x1 x2 x3 x4 x5 n (mi M 2) 20) (n + 20) = C at hc
    have a1 : ∀ a, a ≠ 1 → a ≠ 2 → mi C a = mi M a := fun a h1 h2 => by rw [← hC]; exact mi_tp h1 h2
    have hm := m_feed (C := C) (x1 := x1) (x2 := x2) (x3 := x3) (x4 := x4) (x5 := x5) ((congrFun (a1 76 (by omega) (by omega)) 1).trans e2) h20
    generalize hT : tmM (sI C 76 0 0) (gm x1 x2 x3 x4 x5 n (mi C 77) 20) (n + 20) = T at hm
    refine ⟨_, _, _, hc, hm, ?_⟩
    have a2 : ∀ a, a ≠ 1 → a ≠ 2 → a ≠ 76 → a ≠ 77 → mi T a = mi M a := fun a h1 h2 h3 h4 => by rw [← hT, mi_tm h3 h4, mi_sI_ne h3, a1 a h1 h2]
    have b1 : mi T 1 = mi C 1 := by rw [← hT, mi_tm (by omega) (by omega), mi_sI_ne (by omega)]
    have b2 : mi T 2 = mi C 2 := by rw [← hT, mi_tm (by omega) (by omega), mi_sI_ne (by omega)]
    have b3 : ∀ j, j ≠ 0 → j ≠ 1 → mi T 76 j = mi M 76 j := fun j h0 h1 => by
      rw [← hT]
      unfold tmM
      rw [mi_sI_o h1, mi_sA_ne (by omega), mi_sI_o h0, a1 76 (by omega) (by omega)]
    have hr : T.1 = M.1 ∧ mr T = mr M := by rw [← hT, ← hC]; exact ⟨rfl, rfl⟩
    have ids := h.1
    obtain ⟨-, -, g, w, b, l, -⟩ := h.1
    have h6 := l 6 (by omega) (by omega)
    have h7 := l 7 (by omega) (by omega)
    unfold isL at h6 h7
    refine ⟨⟨q, h.body ⟨hr.2, fun a j hk => ?_⟩ (fun a j hk => ?_) ⟨⟨n + 20, h20, ?_, ?_⟩, ?_, ?_⟩ (h.cnt.frame (fun j hj => by rw [a2 0 (by omega) (by omega) (by omega) (by omega)]) (a2 78 (by omega) (by omega) (by omega) (by omega)) (b3 32 (by omega) (by omega)))⟩, ?_⟩
    · unfold kc at hk
      rw [a2 a (by omega) (by omega) (by omega) (by omega)]
    · by_cases ha : a = 76
      · subst ha
        exact b3 j (by unfold kt at hk; omega) (by unfold kt at hk; omega)
      · rw [a2 a (by unfold kt at hk; omega) (by unfold kt at hk; omega) ha (by unfold kt at hk; omega)]
    · rw [b1, ← hC]; exact tp_n
    · rw [← hT]; exact tm_n
    · intro j hj
      rw [b2, ← hC, ← hT]
      unfold tpM tmM
      rw [mi_sI_ne (by omega), mi_sA, mi_sI_ne (by omega), mi_sA, a1 77 (by omega) (by omega)]
      exact gcm e3 20 j hj
    · rw [b1, b3 3 (by omega) (by omega), ← e4, ← hC]
      unfold tpM
      rw [mi_sI_o (by omega), mi_sA_ne (by omega)]
    · unfold RM zX zS zN at r ⊢
      rw [hr.1]
      exact ⟨r.1, Nat.le_succ_of_le r.2.1, r.2.2.1, r.2.2.2.up.of (fun a ha => by unfold yr9 at ha; exact a2 a (by omega) (by omega) (by omega) (by omega))⟩
  · have e : Int32.ofNat n + (20 : Int32) = Int32.ofNat (n + 20) := by rw [Int32.ofNat_add]; rfl
    have h9 : ¬ Int32.ofNat (n + 20) ≤ (600 : Int32) := nle (i := 600) (by omega) (by omega)
    refine ⟨-1, M, sI M 76 0 0, ?_, ?_, hI.q1⟩
    · unfold f_X9_feed f_X7_push
      rw [e1, e, if_neg h9]
      rfl
    · unfold f_X10_feed
      rw [mi_sI_o (by omega), e2, e, if_neg h9]
end FD
