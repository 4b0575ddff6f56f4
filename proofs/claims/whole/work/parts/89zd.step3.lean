/-! level 3: work: steps: wall, heap, round -/
section SD9
variable {w h : Nat} {r r' : Nat → Int32} {C C' T T' N : Mm} {a g n : Nat} {p z : Int32}
/-- those of the first n that are P get a place, and a cell of a heap -/
def mkR (P : Nat → Prop) [DecidablePred P] (p z : Int32) (r : Nat → Int32) : Nat → (Nat → Int32)
  | 0 => r
  | n + 1 => if P n then u1 (plR (mkR P p z r n) n p) (6 * n + 5) z else mkR P p z r n
theorem mk_y {P : Nat → Prop} [DecidablePred P] (hP : P n) : mkR P p z r (n + 1) = u1 (plR (mkR P p z r n) n p) (6 * n + 5) z := if_pos hP
theorem mk_n {P : Nat → Prop} [DecidablePred P] (hP : ¬ P n) : mkR P p z r (n + 1) = mkR P p z r n := if_neg hP
theorem mk_o {P : Nat → Prop} [DecidablePred P] {j : Nat} : ∀ n, (∀ i, i < n → j ≠ 6 * i + 4 ∧ j ≠ 6 * i + 5) → mkR P p z r n j = r j := by
  intro n
  induction n with
  | zero => exact fun _ => rfl
  | succ n ih =>
    intro hj
    have hn := hj n (by omega)
    by_cases hP : P n
    · rw [mk_y hP, u1_ne hn.2]
      unfold plR
      rw [u1_ne hn.1, ih (fun i hi => hj i (by omega))]
    · rw [mk_n hP, ih (fun i hi => hj i (by omega))]
theorem mk_4 {P : Nat → Prop} [DecidablePred P] {k : Nat} : ∀ n, mkR P p z r n (6 * k + 4) = if k < n ∧ P k then p else r (6 * k + 4) := by
  intro n
  induction n with
  | zero => rw [if_neg (show ¬ (k < 0 ∧ P k) from fun z => absurd z.1 (by omega))]; rfl
  | succ n ih =>
    by_cases hP : P n
    · rw [mk_y hP, u1_ne (by omega), pl_4, ih]
      by_cases e : k = n
      · rw [if_pos e, if_pos ⟨by omega, by rw [e]; exact hP⟩]
      · rw [if_neg e]
        by_cases hk : k < n ∧ P k
        · rw [if_pos hk, if_pos ⟨by omega, hk.2⟩]
        · rw [if_neg hk, if_neg (fun z => hk ⟨by omega, z.2⟩)]
    · rw [mk_n hP, ih]
      by_cases hk : k < n ∧ P k
      · rw [if_pos hk, if_pos ⟨by omega, hk.2⟩]
      · rw [if_neg hk, if_neg (fun z => hk ⟨by
          by_cases e : k = n
          · rw [e] at z; exact absurd z.2 hP
          · omega, z.2⟩)]
theorem mk_5 {P : Nat → Prop} [DecidablePred P] {k : Nat} : ∀ n, mkR P p z r n (6 * k + 5) = if k < n ∧ P k then z else r (6 * k + 5) := by
  intro n
  induction n with
  | zero => rw [if_neg (show ¬ (k < 0 ∧ P k) from fun z => absurd z.1 (by omega))]; rfl
  | succ n ih =>
    by_cases hP : P n
    · rw [mk_y hP, u1_at]
      by_cases e : k = n
      · rw [if_pos (by omega), if_pos ⟨by omega, by rw [e]; exact hP⟩]
      · rw [if_neg (by omega)]
        unfold plR
        rw [u1_ne (by omega), ih]
        by_cases hk : k < n ∧ P k
        · rw [if_pos hk, if_pos ⟨by omega, hk.2⟩]
        · rw [if_neg hk, if_neg (fun z => hk ⟨by omega, z.2⟩)]
    · rw [mk_n hP, ih]
      by_cases hk : k < n ∧ P k
      · rw [if_pos hk, if_pos ⟨by omega, hk.2⟩]
      · rw [if_neg hk, if_neg (fun z => hk ⟨by
          by_cases e : k = n
          · rw [e] at z; exact absurd z.2 hP
          · omega, z.2⟩)]
section MK
variable {P : Nat → Prop}
theorem mk_gt [DecidablePred P] {j : Nat} (hn : n ≤ 60) (hj : 360 ≤ j) : mkR P p z r n j = r j := mk_o n (fun i hi => ⟨by omega, by omega⟩)
theorem mk_t [DecidablePred P] {k t : Nat} (ht : t < 4) : mkR P p z r n (6 * k + t) = r (6 * k + t) := mk_o n (fun i hi => ⟨by omega, by omega⟩)
theorem mk_N [DecidablePred P] (hn : n ≤ 60) : rN (mkR P p z r n) = rN r := by unfold rN; rw [mk_gt hn (by omega)]
theorem mk_c [DecidablePred P] {k : Nat} : rC (mkR P p z r n) k = rC r k := by
  unfold rC nX nY
  rw [show mkR P p z r n (6 * k) = r (6 * k) from mk_t (t := 0) (by omega), mk_t (by omega)]
theorem mk_vr [DecidablePred P] (hV : VR w h r) (hn : n ≤ 60) (hp : ∃ m : Nat, m < 4 ∧ p = Int32.ofNat m) : VR w h (mkR P p z r n) := by
  refine ⟨hV.1, by rw [mk_N hn, mk_gt hn (by omega)]; exact hV.2.1, fun k hk => ?_, ?_, fun c hc => ?_⟩
  · rw [mk_N hn] at hk
    have := hV.s hk
    unfold VS nX nY at this ⊢
    rw [show mkR P p z r n (6 * k) = r (6 * k) from mk_t (t := 0) (by omega), mk_t (t := 1) (by omega), mk_t (t := 2) (by omega), mk_4]
    obtain ⟨t1, t2, t3, t4⟩ := this
    refine ⟨t1, t2, t3, ?_⟩
    by_cases e : k < n ∧ P k
    · rw [if_pos e]; exact hp
    · rw [if_neg e]; exact t4
  · rw [mk_gt hn (by omega), mk_gt hn (by omega)]
    exact hV.2.2.2.1
  · rw [mk_gt hn (by omega)]
    exact hV.2.2.2.2 c hc
/-- no one that lies is touched -/
theorem mk_lyN [DecidablePred P] (h6 : rN r ≤ 60) (hP : ∀ k, k < rN r → P k → ¬ r (6 * k + 4) = 0) (hp : ¬ p = 0) : lyN (mkR P p z r (rN r)) = lyN r := by
  unfold lyN
  rw [mk_N h6]
  refine sm_congr (fun k hk => ?_)
  rw [mk_4]
  by_cases e : k < rN r ∧ P k
  · rw [if_pos e, if_neg hp, if_neg (hP k hk e.2)]
  · rw [if_neg e]
theorem mk_lyIn [DecidablePred P] {c : Nat} (h6 : rN r ≤ 60) (hP : ∀ k, k < rN r → P k → ¬ r (6 * k + 4) = 0) (hp : ¬ p = 0) : lyIn (mkR P p z r (rN r)) c = lyIn r c := by
  unfold lyIn
  rw [mk_N h6]
  refine sm_congr (fun k hk => ?_)
  unfold Li
  rw [mk_4, mk_c]
  by_cases e : k < rN r ∧ P k
  · rw [if_pos e, if_neg (fun z => hp z.1), if_neg (fun z => hP k hk e.2 z.1)]
  · rw [if_neg e]
theorem mk_hpIn [DecidablePred P] {c s : Nat} (h6 : rN r ≤ 60) (hc : c < 48) (hs : s < 48) (hP : ∀ k, k < rN r → P k → ¬ r (6 * k + 4) = 3) : hpIn (mkR P 3 (Int32.ofNat s) r (rN r)) c = if c = s then hpIn r c + sm (rN r) (fun k => if P k then 1 else 0) else hpIn r c := by
  unfold hpIn
  rw [mk_N h6]
  by_cases e : c = s
  · subst e
    rw [if_pos rfl, ← sm_add]
    refine sm_congr (fun k hk => ?_)
    rw [mk_4, mk_5]
    by_cases e : P k
    · rw [if_pos (And.intro hk e), if_pos (And.intro hk e), if_pos ⟨rfl, rfl⟩, if_neg (fun z => hP k hk e z.1), if_pos e, Int32.zero_add]
    · rw [if_neg (show ¬ (k < rN r ∧ P k) from fun z => e z.2), if_neg (show ¬ (k < rN r ∧ P k) from fun z => e z.2), if_neg e, Int32.add_zero]
  · rw [if_neg e]
    refine sm_congr (fun k hk => ?_)
    rw [mk_4, mk_5]
    by_cases e9 : P k
    · rw [if_pos (And.intro hk e9), if_pos (And.intro hk e9), if_neg (fun z => e ((oN_eq (by omega) (by omega)).mp z.2).symm), if_neg (fun z => hP k hk e9 z.1)]
    · rw [if_neg (show ¬ (k < rN r ∧ P k) from fun z => e9 z.2), if_neg (show ¬ (k < rN r ∧ P k) from fun z => e9 z.2)]
theorem mk_hp2 [DecidablePred P] {c : Nat} (h6 : rN r ≤ 60) (hP : ∀ k, k < rN r → P k → ¬ r (6 * k + 4) = 3) (hp : ¬ p = 3) : hpIn (mkR P p z r (rN r)) c = hpIn r c := by
  unfold hpIn
  rw [mk_N h6]
  refine sm_congr (fun k hk => ?_)
  rw [mk_4, mk_5]
  by_cases e : P k
  · rw [if_pos (And.intro hk e), if_pos (And.intro hk e), if_neg (fun z => hp z.1), if_neg (fun z => hP k hk e z.1)]
  · rw [if_neg (show ¬ (k < rN r ∧ P k) from fun z => e z.2), if_neg (show ¬ (k < rN r ∧ P k) from fun z => e z.2)]
theorem mk_wal [DecidablePred P] (h6 : rN r ≤ 60) (hP : ∀ k, k < rN r → P k → ¬ r (6 * k + 4) = 2) (hp : ¬ p = 2) : walS (mkR P p z r (rN r)) = walS r := by
  unfold walS
  rw [mk_N h6]
  refine sm_congr (fun k hk => ?_)
  rw [mk_4, mk_t (t := 2) (by omega)]
  by_cases e : P k
  · rw [if_pos (And.intro hk e), if_neg hp, if_neg (hP k hk e)]
  · rw [if_neg (show ¬ (k < rN r ∧ P k) from fun z => e z.2)]
theorem mk_on [DecidablePred P] (h6 : rN r ≤ 60) (hP : ∀ k, k < rN r → P k → ¬ r (6 * k + 4) = 1) (hp : ¬ p = 1) : onS (mkR P p z r (rN r)) = onS r := by
  unfold onS
  rw [mk_N h6]
  refine sm_congr (fun k hk => ?_)
  rw [mk_4, mk_t (t := 2) (by omega)]
  by_cases e : P k
  · rw [if_pos (And.intro hk e), if_neg hp, if_neg (hP k hk e)]
  · rw [if_neg (show ¬ (k < rN r ∧ P k) from fun z => e z.2)]
end MK
/-! what leaves the sledge -/
theorem ul_on (h6 : rN r ≤ 60) (hp : ¬ p = 1) : onS (mkR (fun k => r (6 * k + 4) = 1) p z r (rN r)) = 0 := by
  unfold onS
  rw [mk_N h6]
  refine sm_zero (fun k hk => ?_)
  rw [mk_4]
  by_cases e : r (6 * k + 4) = 1
  · rw [if_pos (And.intro hk e), if_neg hp]
  · rw [if_neg (show ¬ (k < rN r ∧ r (6 * k + 4) = 1) from fun z => e z.2), if_neg e]
theorem ul_wal2 (h6 : rN r ≤ 60) : walS (mkR (fun k => r (6 * k + 4) = 1) 2 z r (rN r)) = walS r + onS r := by
  unfold walS onS
  rw [mk_N h6, ← sm_add]
  refine sm_congr (fun k hk => ?_)
  rw [mk_4, mk_t (t := 2) (by omega)]
  by_cases e : r (6 * k + 4) = 1
  · rw [if_pos (And.intro hk e), if_pos rfl, if_neg (fun z => absurd (e.symm.trans z) (by decide)), if_pos e, Int32.zero_add]
  · rw [if_neg (show ¬ (k < rN r ∧ r (6 * k + 4) = 1) from fun z => e z.2), if_neg e, Int32.add_zero]
theorem ne1 {x q9 : Int32} (h1 : x = 1) (hq : ¬ (1 : Int32) = q9) : ¬ x = q9 := fun z => hq (h1.symm.trans z)
theorem k_unload (hV : VR w h r) (hW : RW C a r) (hp0 : ¬ p = 0) (hp1 : ¬ p = 1) : ∃ C', f_X8_unload a p C = some (whN r 1, C') ∧ Om (fun b => b = a ∨ b = a + 4) C C' ∧ RW C' a (mkR (fun k => r (6 * k + 4) = 1) p z r (rN r)) ∧ mi C' a 11 = 0 ∧ ∀ j, j ≠ 11 → mi C' a j = mi C a j := by
  have h6 := hV.n60
  obtain ⟨e, e1, C2, rfl, o2, q2⟩ := whl_ex (f := f_X8_unload_b4 a p) (fun i st => ∃ C2, st = (sm i (fun k => if r (6 * k + 4) = 1 then 1 else 0), Int32.ofNat i, C2) ∧ Om (fun b => b = a + 4) C C2 ∧ ∀ k, k < rN r → mi C2 (a + 4) k = if k < i ∧ r (6 * k + 4) = 1 then p else r (6 * k + 4)) (fun e => ∃ C2, e = (whN r 1, C2) ∧ Om (fun b => b = a + 4) C C2 ∧ ∀ k, k < rN r → mi C2 (a + 4) k = if k < rN r ∧ r (6 * k + 4) = 1 then p else r (6 * k + 4)) (rN r) fu (0, 0, C) (by show rN r < 1000000; omega) ⟨C, rfl, Om.refl, fun k hk => by rw [if_neg (fun z => absurd z.1 (by omega))]; exact (hW.2.1 k hk).2.2.2⟩ (by
    rintro i st hi ⟨C2, rfl, hO, hq⟩
    refine Or.inl ?_
    unfold f_X8_unload_b4
    dsimp only
    rw [hO.at (by omega), hW.n, hV.n, if_neg (nle hi hV.n1), if_neg (show ¬ (60 : Int32) ≤ Int32.ofNat i from nle (n := 60) (by omega) (by omega)), ai_o (by omega) (by omega), bsome, hq i hi, if_neg (show ¬ (i < i ∧ r (6 * i + 4) = 1) from fun z => absurd z.1 (by omega)), oN_S]
    by_cases h1 : r (6 * i + 4) = 1
    · rw [if_pos h1, wi_o (by omega) (by omega), bsome]
      refine ⟨_, rfl, sI C2 (a + 4) i p, ?_, om_si hO rfl, fun k hk => ?_⟩
      · show (sm i _ + 1, _, _) = (sm i _ + (if r (6 * i + 4) = 1 then 1 else 0), _, _)
        rw [if_pos h1]
      · rw [mi_sI, u1_at]
        by_cases e : k = i
        · rw [if_pos e, if_pos ⟨by omega, by rw [e]; exact h1⟩]
        · rw [if_neg e, hq k hk]
          by_cases e9 : k < i ∧ r (6 * k + 4) = 1
          · rw [if_pos e9, if_pos ⟨by omega, e9.2⟩]
          · rw [if_neg e9, if_neg (fun z => e9 ⟨by omega, z.2⟩)]
    · rw [if_neg h1]
      refine ⟨_, rfl, C2, ?_, hO, fun k hk => ?_⟩
      · show (sm i _, _, _) = (sm i _ + (if r (6 * i + 4) = 1 then 1 else 0), _, _)
        rw [if_neg h1, Int32.add_zero]
      · rw [hq k hk]
        by_cases e9 : k < i ∧ r (6 * k + 4) = 1
        · rw [if_pos e9, if_pos ⟨by omega, e9.2⟩]
        · rw [if_neg e9, if_neg (fun z => e9 ⟨by
            by_cases e : k = i
            · rw [e] at z; exact absurd z.2 h1
            · omega, z.2⟩)]) (by
    rintro st ⟨C2, rfl, hO, hq⟩
    refine ⟨_, ?_, C2, rfl, hO, hq⟩
    unfold f_X8_unload_b4
    dsimp only
    rw [hO.at (by omega), hW.n, hV.n, if_pos (le_rf _)]
    rfl)
  have e1' : whl fu (f_X8_unload_b4 a p) (0, 0, C) = some (whN r 1, C2) := e1
  unfold f_X8_unload
  rw [e1', bsome]
  dsimp only
  have hn0 : ∀ k, k < rN r → r (6 * k + 4) = 1 → ¬ r (6 * k + 4) = 0 := fun k _ h1 => ne1 h1 (by decide)
  have e0 : ∀ j, j ≠ 11 → mi (sI C2 a 11 0) a j = mi C a j := fun j hj => by rw [mi_sI_o hj, o2.at (by omega)]
  have es : ∀ b, a < b → b ≠ a + 4 → mi (sI C2 a 11 0) b = mi C b := fun b h1 h2 => by rw [mi_sI_ne (by omega), o2.at h2]
  obtain ⟨⟨w8, w9, w10, w12, w13, w14, w7⟩, hS, hC⟩ := hW
  refine ⟨_, rfl, om_si (o2.mono (fun b hb => Or.inr hb)) (Or.inl rfl), ⟨⟨?_, ?_, ?_, ?_, ?_, ?_, ?_⟩, fun k hk => ?_, fun c hc => ?_⟩, mi_sI_k, e0⟩
  · rw [e0 _ (by omega), mk_gt h6 (by omega)]; exact w8
  · rw [e0 _ (by omega), mk_gt h6 (by omega)]; exact w9
  · rw [e0 _ (by omega), mk_gt h6 (by omega), mk_gt h6 (by omega)]; exact w10
  · rw [e0 _ (by omega), mk_gt h6 (by omega)]; exact w12
  · rw [e0 _ (by omega), mk_gt h6 (by omega)]; exact w13
  · rw [e0 _ (by omega), mk_gt h6 (by omega)]; exact w14
  · rw [e0 _ (by omega), mk_lyN h6 hn0 hp0]; exact w7
  · rw [mk_N h6] at hk
    rw [es (a + 1) (by omega) (by omega), es (a + 2) (by omega) (by omega), es (a + 3) (by omega) (by omega), mi_sI_ne (show a + 4 ≠ a by omega), q2 k hk, mk_c, mk_t (t := 2) (by omega), mk_t (t := 3) (by omega), mk_4]
    obtain ⟨t1, t2, t3, t4⟩ := hS k hk
    exact ⟨t1, t2, t3, rfl⟩
  · rw [es (a + 5) (by omega) (by omega), es (a + 7) (by omega) (by omega), mk_gt h6 (by omega), mk_lyIn h6 hn0 hp0]
    exact hC c hc
theorem m_unloads (hV : VR w h (mi N 196)) : ∃ N', f_X10_unloads 196 p z N = some (whN (mi N 196) 1, N') ∧ Om (fun b => b = 196) N N' ∧ mi N' 196 = mkR (fun k => mi N 196 (6 * k + 4) = 1) p z (mi N 196) (rN (mi N 196)) := by
  have h6 := hV.n60
  generalize hr : mi N 196 = r at hV h6
  obtain ⟨e, e1, N2, rfl, o2, q2⟩ := whl_ex (f := f_X10_unloads_b5 196 p z) (fun i st => ∃ N1, st = (sm i (fun k => if r (6 * k + 4) = 1 then 1 else 0), Int32.ofNat i, N1) ∧ Om (fun b => b = 196) N N1 ∧ mi N1 196 = mkR (fun k => r (6 * k + 4) = 1) p z r i) (fun e => ∃ N1, e = (whN r 1, N1) ∧ Om (fun b => b = 196) N N1 ∧ mi N1 196 = mkR (fun k => r (6 * k + 4) = 1) p z r (rN r)) (rN r) fu (0, 0, N) (by show rN r < 1000000; omega) ⟨N, rfl, Om.refl, hr⟩ (by
    rintro i st hi ⟨N1, rfl, hO, hq⟩
    refine Or.inl ?_
    unfold f_X10_unloads_b5
    dsimp only
    rw [m_a360 LN196, bsome, m_of4 LN196 (by omega), hq, mk_gt (by omega) (by omega), hV.n, if_neg (nle hi hV.n1), bsome, mk_4, if_neg (show ¬ (i < i ∧ r (6 * i + 4) = 1) from fun z => absurd z.1 (by omega)), oN_S]
    by_cases h1 : r (6 * i + 4) = 1
    · rw [if_pos h1, LN196, show (6 : Int32) * Int32.ofNat i + 4 = Int32.ofNat (6 * i + 4) from ix6 (j := 4), show (6 : Int32) * Int32.ofNat i + 5 = Int32.ofNat (6 * i + 5) from ix6 (j := 5), wi_o (by omega) (by omega), bsome, wi_o (by omega) (by omega), bsome]
      refine ⟨_, rfl, sI (sI N1 196 (6 * i + 4) p) 196 (6 * i + 5) z, ?_, om_si (om_si hO rfl) rfl, ?_⟩
      · show (sm i _ + 1, _, _) = (sm i _ + (if r (6 * i + 4) = 1 then 1 else 0), _, _)
        rw [if_pos h1]
      · rw [mi_sI, mi_sI, hq]
        show _ = mkR (fun k => r (6 * k + 4) = 1) p z r (i + 1)
        rw [mk_y (P := fun k => r (6 * k + 4) = 1) h1]
        rfl
    · rw [if_neg h1]
      refine ⟨_, rfl, N1, ?_, hO, ?_⟩
      · show (sm i _, _, _) = (sm i _ + (if r (6 * i + 4) = 1 then 1 else 0), _, _)
        rw [if_neg h1, Int32.add_zero]
      · show _ = mkR (fun k => r (6 * k + 4) = 1) p z r (i + 1)
        rw [mk_n (P := fun k => r (6 * k + 4) = 1) h1]
        exact hq) (by
    rintro st ⟨N1, rfl, hO, hq⟩
    refine ⟨_, ?_, N1, rfl, hO, hq⟩
    unfold f_X10_unloads_b5
    dsimp only
    rw [m_a360 LN196, bsome, hq, mk_gt h6 (by omega), hV.n, if_pos (le_rf _)]
    rfl)
  have e1' : whl fu (f_X10_unloads_b5 196 p z) (0, 0, N) = some (whN r 1, N2) := e1
  unfold f_X10_unloads
  rw [e1', bsome]
  exact ⟨N2, rfl, o2, q2⟩
theorem n30 : ¬ (3 : Int32) = 0 := by decide
theorem n31 : ¬ (3 : Int32) = 1 := by decide
theorem n32 : ¬ (3 : Int32) = 2 := by decide
theorem n40 : ¬ (4 : Int32) = 0 := by decide
theorem n41 : ¬ (4 : Int32) = 1 := by decide
theorem n42 : ¬ (4 : Int32) = 2 := by decide
theorem n43 : ¬ (4 : Int32) = 3 := by decide
theorem n23 : ¬ (2 : Int32) = 3 := by decide
theorem s_wall {w9 : Nat} {x3 : Int32} (hG : RGd C T g) (hg : ¬ (w9 ≤ g ∧ g ≤ w9 + 7)) (hV : VR (tw T) (th T) (mi T 196)) (hR : RF C w9 (mi T 196)) : StpO (f_X8_bringToWall w9 g C) (f_X10_does 196 3 x3 T) C T w9 (fun a => w9 ≤ a ∧ a ≤ w9 + 7) (fun a => a = 196) := by
  have h6 := hV.n60
  have hw1 := hV.1
  obtain ⟨s, s48, es, e1, e2, sw, sh⟩ := hV.sl
  have w10 : mi C w9 10 = Int32.ofNat s := hR.1.1.2.2.1.trans es
  have g8 : mi C g 8 = mi T 80 6 := hG.2.1.2.2.2.2.2.1
  have g9 : mi C g 9 = mi T 80 7 := hG.2.1.2.2.2.2.2.2.1
  unfold f_X8_bringToWall g_X8_bringToWall f_X10_does g_X10_does
  rw [show mi C w9 11 = onS (mi T 196) from hR.2.1, m_a362 LN196, bsome, m_a361 LN196, bsome, if_neg n30, if_neg n31, if_neg n32, if_pos (rfl : (3 : Int32) = 3), m_onSledge LN196 hV, bsome]
  by_cases h0 : onS (mi T 196) = 0
  · rw [if_pos h0, if_pos h0]
    exact ⟨0, C, T, rfl, rfl, Or.inl rfl, Om.refl, Om.refl, hV, hR, Or.inl rfl⟩
  · rw [if_neg h0, if_neg h0, w10, k_column s48, bsome, m_a364 LN196, bsome, a80_6, bsome, a80_7, bsome, bsome, e1, w196_364, bsome, g8, g9]
    generalize hv : mi T 80 6 + mi T 80 7 * (Int32.ofNat (s % 8) + 1) = v
    generalize hC1 : sI C w9 12 (mi C w9 12 + v) = C1
    generalize hT1 : sI T 196 364 (mi T 196 364 + v) = T1
    generalize hr1 : u1 (mi T 196) 364 (mi T 196 364 + v) = r1
    have er1 : mi T1 196 = r1 := by rw [← hT1, mi_sI]; exact hr1
    have hd : Hd (mi T 196) r1 := by rw [← hr1]; exact mn_hd
    have hV1 : VR (tw T) (th T) r1 := by rw [← hr1]; exact mn_vr hV
    have hR1 : RF C1 w9 r1 := by rw [← hr1, ← hC1]; exact mn_rf hV hR
    have n1 : rN r1 ≤ 60 := hV1.n60
    have s1 : (8 : Int32) * r1 362 + r1 361 = Int32.ofNat s := by rw [← hr1, u1_ne (by omega), u1_ne (by omega)]; exact es
    have y1 : r1 362 = Int32.ofNat (s / 8) := by rw [← hr1, u1_ne (by omega)]; exact e2
    generalize hC2 : sI C1 w9 15 (mi C1 w9 15 + mi C1 w9 11) = C2
    have a2 : ∀ j, j ≠ 15 → mi C2 w9 j = mi C1 w9 j := fun j hj => by rw [← hC2]; exact mi_sI_o hj
    have b2 : ∀ b, b ≠ w9 → mi C2 b = mi C1 b := fun b hb => by rw [← hC2]; exact mi_sI_ne hb
    have hW2 : RW C2 w9 r1 := rw_11 hR1.1 (fun j _ h2 => a2 j h2) (fun b h1 _ _ => b2 b (by omega))
    obtain ⟨C3, p1, p2, p3, p4, p5⟩ := k_unload (p := 2) (z := -1) hV1 hW2 (by decide) (by decide)
    obtain ⟨T3, t1, t2, t3⟩ := m_unloads (p := 2) (z := -1) (w := tw T) (h := th T) (N := T1) (by rw [er1]; exact hV1)
    rw [er1] at t1 t3
    have c10 : mi C3 w9 10 = Int32.ofNat s := by rw [p5 10 (by omega), a2 10 (by omega), hR1.1.1.2.2.1]; exact s1
    have w361 : wi T3 196 (LN 196) 361 0 = some (sI T3 196 361 0) := w196_361
    rw [p1, bsome]
    dsimp only
    rw [c10, k_row s48, bsome, t1, bsome]
    dsimp only
    rw [w361, bsome]
    have hV3 : VR (tw T) (th T) (mkR (fun k => r1 (6 * k + 4) = 1) 2 (-1) r1 (rN r1)) := mk_vr hV1 n1 ⟨2, by omega, rfl⟩
    have hnn : ∀ q9 : Int32, ¬ (1 : Int32) = q9 → ∀ k, k < rN r1 → r1 (6 * k + 4) = 1 → ¬ r1 (6 * k + 4) = q9 := fun q9 hq k _ h1 => ne1 h1 hq
    have hR3 : RF C3 w9 (mkR (fun k => r1 (6 * k + 4) = 1) 2 (-1) r1 (rN r1)) := by
      refine ⟨p3, ?_, ?_, fun c hc => ?_⟩
      · unfold RLd
        rw [p4, ul_on n1 (by decide)]
      · rw [p5 15 (by omega), ← hC2, mi_sI_k, hR1.2.2.1, show mi C1 w9 11 = onS r1 from hR1.2.1, ul_wal2 n1]
      · rw [p2.at (by omega), b2 _ (by omega), hR1.2.2.2 c hc, mk_hp2 n1 (hnn 3 (by decide)) n23]
    generalize hr3 : mkR (fun k => r1 (6 * k + 4) = 1) 2 (-1) r1 (rN r1) = r3 at t3 hV3 hR3
    have y3 : r3 362 = Int32.ofNat (s / 8) := by rw [← hr3, mk_gt n1 (by omega)]; exact y1
    have hd3 : Hd r3 (u1 r3 361 0) := fun j h1 _ _ _ _ => u1_ne h1
    have e4 : mi (sI T3 196 361 0) 196 = u1 r3 361 0 := by rw [mi_sI, t3]
    have o3 : Om (fun a => w9 ≤ a ∧ a ≤ w9 + 7) C C3 := by
      refine Om.trans ?_ (p2.mono (fun b hb => by omega))
      rw [← hC2, ← hC1]
      exact om_si (om_si Om.refl (by omega)) (by omega)
    have ot3 : Om (fun a => a = 196) T T3 := by
      refine Om.trans ?_ t2
      rw [← hT1]
      exact Om.sI rfl
    refine ⟨1, _, _, rfl, rfl, Or.inr rfl, om_si o3 (by omega), om_si ot3 rfl, ?_, ?_, Or.inl ?_⟩
    · rw [e4]
      exact hd_vr hd3 hV3 (x := 0) (y := s / 8) (by omega) sh (by rw [u1_same]; rfl) (by rw [u1_ne (by omega)]; exact y3)
    · rw [e4]
      refine hd_rf hd3 hV3 hR3 (fun j h1 _ _ _ => mi_sI_o h1) ?_ ?_ ?_ ?_ (fun b h1 h2 => mi_sI_ne (by omega))
      · rw [mi_sI_k, u1_same, u1_ne (by omega), y3]
      · rw [mi_sI_o (by omega), u1_ne (by omega)]; exact hR3.1.1.2.2.2.1
      · rw [mi_sI_o (by omega), u1_ne (by omega)]; exact hR3.1.1.2.2.2.2.1
      · rw [mi_sI_o (by omega), u1_ne (by omega)]; exact hR3.1.1.2.2.2.2.2.1
    · rw [e4, u1_ne (by omega), ← hr3, mk_gt n1 (by omega), hd 363 (by omega) (by omega) (by omega) (by omega) (by omega)]
/-! a cell is lost -/
theorem lo_vr {s : Nat} (hV : VR w h r) (hs : s < 48) : VR w h (u1 r (367 + s) 1) := by
  have e : ∀ j, j < 367 → u1 r (367 + s) 1 j = r j := fun j hj => u1_ne (by omega)
  have eN : rN (u1 r (367 + s) 1) = rN r := by unfold rN; rw [e 360 (by omega)]
  have h6 := hV.n60
  refine ⟨hV.1, by rw [eN, e 360 (by omega)]; exact hV.2.1, fun k hk => ?_, ?_, fun c hc => ?_⟩
  · rw [eN] at hk
    have := hV.s hk
    unfold VS nX nY at this ⊢
    rw [e _ (by omega), e _ (by omega), e _ (by omega), e _ (by omega)]
    exact this
  · rw [e _ (by omega), e _ (by omega)]
    exact hV.2.2.2.1
  · rw [u1_at]
    by_cases e9 : 367 + c = 367 + s
    · rw [if_pos e9]; exact Or.inr rfl
    · rw [if_neg e9]; exact hV.2.2.2.2 c hc
theorem lo_rf {s : Nat} (hV : VR w h r) (hR : RF C a r) (hs : s < 48) : RF (sI C (a + 5) s 1) a (u1 r (367 + s) 1) := by
  have e : ∀ j, j < 367 → u1 r (367 + s) 1 j = r j := fun j hj => u1_ne (by omega)
  have eN : rN (u1 r (367 + s) 1) = rN r := by unfold rN; rw [e 360 (by omega)]
  have h6 := hV.n60
  have ec : ∀ k, k < 60 → rC (u1 r (367 + s) 1) k = rC r k := fun k hk => by unfold rC nX nY; rw [e _ (by omega), e _ (by omega)]
  have hs9 : ∀ {F G : Nat → Int32}, (∀ i, i < rN r → G i = F i) → sm (rN (u1 r (367 + s) 1)) G = sm (rN r) F := fun hh => by rw [eN]; exact sm_congr hh
  have b0 : ∀ b, b ≠ a + 5 → mi (sI C (a + 5) s 1) b = mi C b := fun b hb => mi_sI_ne hb
  obtain ⟨⟨⟨w8, w9, w10, w12, w13, w14, w7⟩, hS, hC⟩, hl, hw, hh⟩ := hR
  refine ⟨⟨?_, fun k hk => ?_, fun c hc => ?_⟩, ?_, ?_, fun c hc => ?_⟩
  · rw [b0 a (by omega), e _ (by omega), e _ (by omega), e _ (by omega), e _ (by omega), e _ (by omega), e _ (by omega), e _ (by omega)]
    refine ⟨w8, w9, w10, w12, w13, w14, w7.trans ?_⟩
    exact (hs9 (fun i hi => by rw [e _ (by omega)])).symm
  · rw [eN] at hk
    rw [b0 _ (by omega), b0 _ (by omega), b0 _ (by omega), b0 _ (by omega), ec k (by omega), e _ (by omega), e _ (by omega), e _ (by omega)]
    exact hS k hk
  · rw [mi_sI, b0 _ (by omega), u1_at, u1_at]
    refine ⟨?_, (hC c hc).2.trans (hs9 (fun i hi => by unfold Li; rw [e _ (by omega), ec i (by omega)])).symm⟩
    by_cases e9 : c = s
    · rw [if_pos e9, if_pos (by omega)]
    · rw [if_neg e9, if_neg (by omega)]; exact (hC c hc).1
  · unfold RLd at hl ⊢
    rw [b0 a (by omega), hl]
    exact (hs9 (fun i hi => by rw [e _ (by omega), e _ (by omega)])).symm
  · rw [b0 a (by omega), hw]
    exact (hs9 (fun i hi => by rw [e _ (by omega), e _ (by omega)])).symm
  · rw [b0 _ (by omega), hh c hc]
    exact (hs9 (fun i hi => by rw [e _ (by omega), e _ (by omega)])).symm
theorem w_lost {s : Nat} {v : Int32} (hs : s < 48) : wi N 196 (LN 196) ((367 : Int32) + Int32.ofNat s) v = some (sI N 196 (367 + s) v) := by
  rw [LN196, show (367 : Int32) + Int32.ofNat s = Int32.ofNat (367 + s) from oN_A (a := 367)]
  exact wi_o (by omega) (by omega)
theorem n50 : ¬ (5 : Int32) = 0 := by decide
theorem n51 : ¬ (5 : Int32) = 1 := by decide
theorem n52 : ¬ (5 : Int32) = 2 := by decide
theorem n53 : ¬ (5 : Int32) = 3 := by decide
theorem n54 : ¬ (5 : Int32) = 4 := by decide
theorem s_round {w9 c : Nat} (hV : VR (tw T) (th T) (mi T 196)) (hR : RF C w9 (mi T 196)) (hc : c < 48) : StpO (f_X8_giveUp w9 (Int32.ofNat c) C) (f_X10_does 196 5 (Int32.ofNat c) T) C T w9 (fun a => w9 ≤ a ∧ a ≤ w9 + 7) (fun a => a = 196) := by
  unfold f_X8_giveUp g_X8_giveUp f_X10_does g_X10_does
  rw [k_isCell hc, bsome, if_neg z10, k_isLost hV hR.1 hc, bsome, m_a362 LN196, bsome, m_a361 LN196, bsome, if_neg n50, if_neg n51, if_neg n52, if_neg n53, if_neg n54, if_pos (rfl : (5 : Int32) = 5), m_isLost LN196 hc, bsome]
  by_cases h1 : mi T 196 (367 + c) = 1
  · rw [if_pos h1, if_neg z10, if_neg z10]
    exact ⟨0, C, T, rfl, rfl, Or.inl rfl, Om.refl, Om.refl, hV, hR, Or.inl rfl⟩
  · rw [if_neg h1, if_pos z00, if_pos z00, wi_o hc (by omega), bsome, w_lost hc, bsome]
    refine ⟨1, _, _, rfl, rfl, Or.inr rfl, Om.sI (by omega), Om.sI rfl, ?_, ?_, Or.inl ?_⟩
    · rw [mi_sI]; exact lo_vr hV hc
    · rw [mi_sI]; exact lo_rf hV hR hc
    · rw [mi_sI_o (by omega)]
end SD9
