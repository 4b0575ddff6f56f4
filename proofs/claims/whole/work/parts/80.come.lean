/-! level 3: a stone comes: rows -/
section RC
variable {w h : Nat} {r : Nat → Int32} {x y : Nat} {s : Int32}
def comeR (r : Nat → Int32) (x y : Nat) (s : Int32) : Nat → Int32 := u1 (u1 (u1 (u1 (u1 (u1 (u1 r 360 (r 360 + 1)) (6 * rN r) (Int32.ofNat x)) (6 * rN r + 1) (Int32.ofNat y)) (6 * rN r + 2) s) (6 * rN r + 3) (r 363)) (6 * rN r + 4) 0) (6 * rN r + 5) (-1)
theorem come_lt (hn : rN r < 60) {j : Nat} (hj : j < 6 * rN r) : comeR r x y s j = r j := by
  unfold comeR
  rw [u1_at, if_neg (by omega), u1_at, if_neg (by omega), u1_at, if_neg (by omega), u1_at, if_neg (by omega), u1_at, if_neg (by omega), u1_at, if_neg (by omega), u1_at, if_neg (by omega)]
theorem come_gt (hn : rN r < 60) {j : Nat} (hj : 360 < j) : comeR r x y s j = r j := by
  unfold comeR
  rw [u1_at, if_neg (by omega), u1_at, if_neg (by omega), u1_at, if_neg (by omega), u1_at, if_neg (by omega), u1_at, if_neg (by omega), u1_at, if_neg (by omega), u1_at, if_neg (by omega)]
theorem come_n (hn : rN r < 60) : comeR r x y s 360 = r 360 + 1 := by
  unfold comeR
  rw [u1_at, if_neg (by omega), u1_at, if_neg (by omega), u1_at, if_neg (by omega), u1_at, if_neg (by omega), u1_at, if_neg (by omega), u1_at, if_neg (by omega), u1_at, if_pos rfl]
theorem come_0 (hn : rN r < 60) : comeR r x y s (6 * rN r) = Int32.ofNat x := by
  unfold comeR
  rw [u1_at, if_neg (by omega), u1_at, if_neg (by omega), u1_at, if_neg (by omega), u1_at, if_neg (by omega), u1_at, if_neg (by omega), u1_at, if_pos rfl]
theorem come_1 (hn : rN r < 60) : comeR r x y s (6 * rN r + 1) = Int32.ofNat y := by
  unfold comeR
  rw [u1_at, if_neg (by omega), u1_at, if_neg (by omega), u1_at, if_neg (by omega), u1_at, if_neg (by omega), u1_at, if_pos rfl]
theorem come_2 (hn : rN r < 60) : comeR r x y s (6 * rN r + 2) = s := by
  unfold comeR
  rw [u1_at, if_neg (by omega), u1_at, if_neg (by omega), u1_at, if_neg (by omega), u1_at, if_pos rfl]
theorem come_3 (hn : rN r < 60) : comeR r x y s (6 * rN r + 3) = r 363 := by
  unfold comeR
  rw [u1_at, if_neg (by omega), u1_at, if_neg (by omega), u1_at, if_pos rfl]
theorem come_4 (hn : rN r < 60) : comeR r x y s (6 * rN r + 4) = 0 := by
  unfold comeR
  rw [u1_at, if_neg (by omega), u1_at, if_pos rfl]
theorem come_5 (hn : rN r < 60) : comeR r x y s (6 * rN r + 5) = -1 := by
  unfold comeR
  rw [u1_at, if_pos rfl]
theorem come_N (hV : VR w h r) (hn : rN r < 60) : rN (comeR r x y s) = rN r + 1 := by
  rw [show rN (comeR r x y s) = (comeR r x y s 360).toNatClampNeg from rfl, come_n hn, hV.n, oN_S, oN_nat (by omega)]
theorem come_c (hn : rN r < 60) {i : Nat} (hi : i < rN r) : rC (comeR r x y s) i = rC r i := by
  unfold rC nX nY
  rw [come_lt hn (by omega), come_lt hn (by omega)]
theorem come_cn (hn : rN r < 60) (hx : x < 8) (hy : y < 6) : rC (comeR r x y s) (rN r) = 8 * y + x := by
  unfold rC nX nY
  rw [come_0 hn, come_1 hn, oN_nat (by omega), oN_nat (by omega)]
theorem come_vr (hV : VR w h r) (hn : rN r < 60) (hx : x < w) (hy : y < h) (hs : ∃ m : Nat, 1 ≤ m ∧ m ≤ 9 ∧ s = Int32.ofNat m) : VR w h (comeR r x y s) := by
  have h8 := hV.1
  refine ⟨hV.1, ⟨by rw [come_N hV hn]; omega, by rw [come_N hV hn, come_n hn, hV.n, oN_S]⟩, fun k hk => ?_, ?_, fun c hc => ?_⟩
  · rw [come_N hV hn] at hk
    by_cases e : k < rN r
    · have := hV.s e
      unfold VS nX nY at this ⊢
      rw [come_lt hn (by omega), come_lt hn (by omega), come_lt hn (by omega), come_lt hn (by omega)]
      exact this
    · have e' : k = rN r := by omega
      subst e'
      unfold VS nX nY
      rw [come_0 hn, come_1 hn, come_2 hn, come_4 hn, oN_nat (by omega), oN_nat (by omega)]
      exact ⟨⟨hx, rfl⟩, ⟨hy, rfl⟩, hs, 0, by omega, rfl⟩
  · rw [come_gt hn (by omega), come_gt hn (by omega)]
    exact hV.2.2.2.1
  · rw [come_gt hn (by omega)]
    exact hV.2.2.2.2 c hc
theorem come_sm (hV : VR w h r) (hn : rN r < 60) {F G : Nat → Int32} (h1 : ∀ i, i < rN r → G i = F i) : sm (rN (comeR r x y s)) G = sm (rN r) F + G (rN r) := by
  rw [come_N hV hn]
  show sm (rN r) G + G (rN r) = _
  rw [sm_congr h1]
theorem come_lyN (hV : VR w h r) (hn : rN r < 60) : lyN (comeR r x y s) = lyN r + 1 := by
  unfold lyN
  rw [come_sm hV hn (F := fun k => if r (6 * k + 4) = 0 then 1 else 0) (fun i hi => by rw [come_lt hn (by omega)]), come_4 hn, if_pos rfl]
theorem come_lyIn (hV : VR w h r) (hn : rN r < 60) (hx : x < 8) (hy : y < 6) {c : Nat} : lyIn (comeR r x y s) c = if c = 8 * y + x then lyIn r c + 1 else lyIn r c := by
  unfold lyIn
  rw [come_sm hV hn (F := fun k => if Li r c k then 1 else 0) (fun i hi => by unfold Li; rw [come_lt hn (by omega), come_c hn hi])]
  have e : Li (comeR r x y s) c (rN r) ↔ c = 8 * y + x := by
    unfold Li
    rw [come_4 hn, come_cn hn hx hy]
    exact ⟨fun z => z.2.symm, fun z => ⟨rfl, z.symm⟩⟩
  by_cases hc : c = 8 * y + x
  · rw [if_pos hc, if_pos (e.mpr hc)]
  · rw [if_neg hc, if_neg (fun z => hc (e.mp z)), Int32.add_zero]
theorem come_onS (hV : VR w h r) (hn : rN r < 60) : onS (comeR r x y s) = onS r := by
  unfold onS
  rw [come_sm hV hn (F := fun k => if r (6 * k + 4) = 1 then r (6 * k + 2) else 0) (fun i hi => by rw [come_lt hn (by omega), come_lt hn (by omega)]), come_4 hn, if_neg (show ¬ (0 : Int32) = 1 by decide), Int32.add_zero]
theorem come_walS (hV : VR w h r) (hn : rN r < 60) : walS (comeR r x y s) = walS r := by
  unfold walS
  rw [come_sm hV hn (F := fun k => if r (6 * k + 4) = 2 then r (6 * k + 2) else 0) (fun i hi => by rw [come_lt hn (by omega), come_lt hn (by omega)]), come_4 hn, if_neg (show ¬ (0 : Int32) = 2 by decide), Int32.add_zero]
theorem come_hpIn (hV : VR w h r) (hn : rN r < 60) {c : Nat} : hpIn (comeR r x y s) c = hpIn r c := by
  unfold hpIn
  rw [come_sm hV hn (F := fun k => if r (6 * k + 4) = 3 ∧ r (6 * k + 5) = Int32.ofNat c then 1 else 0) (fun i hi => by rw [come_lt hn (by omega), come_lt hn (by omega)]), come_4 hn, if_neg (show ¬ ((0 : Int32) = 3 ∧ _) from fun z => absurd z.1 (by decide)), Int32.add_zero]
/-- a stone comes, if there is room -/
def come2 (r : Nat → Int32) (x y : Nat) (s : Int32) : Nat → Int32 := if rN r < 60 then comeR r x y s else r
theorem come2_vr (hV : VR w h r) (hx : x < w) (hy : y < h) (hs : ∃ m : Nat, 1 ≤ m ∧ m ≤ 9 ∧ s = Int32.ofNat m) : VR w h (come2 r x y s) := by
  unfold come2
  by_cases hn : rN r < 60
  · rw [if_pos hn]; exact come_vr hV hn hx hy hs
  · rw [if_neg hn]; exact hV
theorem come2_gt {j : Nat} (hj : 360 < j) : come2 r x y s j = r j := by
  unfold come2
  by_cases hn : rN r < 60
  · rw [if_pos hn]; exact come_gt hn hj
  · rw [if_neg hn]
end RC
section RD
variable {w h : Nat} {r : Nat → Int32} {x y : Nat} {s : Int32} {C N : Mm}
theorem m_comes {a : Nat} (hL : LN a = 415) (hV : VR w h (mi N a)) : ∃ N', f_X10_comes a (Int32.ofNat x) (Int32.ofNat y) s N = some N' ∧ Om (fun b => b = a) N N' ∧ mi N' a = come2 (mi N a) x y s := by
  unfold f_X10_comes come2
  rw [hL, show ai N a 415 360 = some (mi N a 360) from ai_o (i := 360) (by omega) (by omega), bsome, hV.n]
  by_cases hn : rN (mi N a) < 60
  · have h9 : ¬ Int32.ofNat (rN (mi N a)) = 60 := fun e => by
      have := (oN_eq (i := rN (mi N a)) (j := 60) (by omega) (by omega)).mp e
      omega
    rw [if_neg h9, if_pos hn, bsome, show ∀ (X : Mm) (v : Int32), wi X a 415 360 v = some (sI X a 360 v) from fun X v => wi_o (i := 360) (by omega) (by omega), bsome]
    rw [show (6 : Int32) * Int32.ofNat (rN (mi N a)) + 0 = Int32.ofNat (6 * rN (mi N a)) from ix6 (j := 0), wi_o (by omega) (by omega), bsome]
    rw [show (6 : Int32) * Int32.ofNat (rN (mi N a)) + 1 = Int32.ofNat (6 * rN (mi N a) + 1) from ix6 (j := 1), wi_o (by omega) (by omega), bsome]
    rw [show (6 : Int32) * Int32.ofNat (rN (mi N a)) + 2 = Int32.ofNat (6 * rN (mi N a) + 2) from ix6 (j := 2), wi_o (by omega) (by omega), bsome]
    rw [show ∀ (X : Mm), ai X a 415 363 = some (mi X a 363) from fun X => ai_o (i := 363) (by omega) (by omega), bsome, mi_sI_o (by omega), mi_sI_o (by omega), mi_sI_o (by omega), mi_sI_o (by omega)]
    rw [show (6 : Int32) * Int32.ofNat (rN (mi N a)) + 3 = Int32.ofNat (6 * rN (mi N a) + 3) from ix6 (j := 3), wi_o (by omega) (by omega), bsome]
    rw [show (6 : Int32) * Int32.ofNat (rN (mi N a)) + 4 = Int32.ofNat (6 * rN (mi N a) + 4) from ix6 (j := 4), wi_o (by omega) (by omega), bsome]
    rw [show (6 : Int32) * Int32.ofNat (rN (mi N a)) + 5 = Int32.ofNat (6 * rN (mi N a) + 5) from ix6 (j := 5), wi_o (by omega) (by omega), bsome]
    refine ⟨_, rfl, om_si (om_si (om_si (om_si (om_si (om_si (om_si Om.refl rfl) rfl) rfl) rfl) rfl) rfl) rfl, ?_⟩
    unfold comeR
    rw [mi_sI, mi_sI, mi_sI, mi_sI, mi_sI, mi_sI, mi_sI, hV.n]
  · have h6 := hV.n60
    have h9 : rN (mi N a) = 60 := by omega
    rw [h9, if_pos (show Int32.ofNat 60 = 60 from rfl), if_neg (by omega)]
    exact ⟨N, rfl, Om.refl, rfl⟩
theorem k_addStone {a : Nat} (hV : VR w h r) (hW : RW C a r) (hx : x < 8) (hy : y < 6) : ∃ C', f_X8_addStone a (Int32.ofNat (8 * y + x)) s C = some C' ∧ Om (fun b => a ≤ b ∧ b ≤ a + 7) C C' ∧ RW C' a (come2 r x y s) ∧ (RLd C a r → RLd C' a (come2 r x y s)) ∧ (RH C a r → RH C' a (come2 r x y s)) := by
  obtain ⟨⟨w8, w9, w10, w12, w13, w14, w7⟩, hS, hC⟩ := id hW
  unfold f_X8_addStone come2
  rw [w8, hV.n]
  by_cases hn : rN r < 60
  · rw [if_neg (show ¬ (60 : Int32) ≤ Int32.ofNat (rN r) from nle (n := 60) hn (by omega)), if_pos hn, k_isCell (by omega), bsome, if_neg z10]
    rw [wi_o hn (by omega), bsome, mi_sI_ne (by omega), w8, hV.n, wi_o hn (by omega), bsome, mi_sI_ne (by omega), mi_sI_ne (by omega), w8, hV.n, wi_o hn (by omega), bsome, mi_sI_ne (by omega), mi_sI_ne (by omega), mi_sI_ne (by omega), w8, hV.n, wi_o hn (by omega), bsome, ai_o (by omega) (by omega), bsome, wi_o (by omega) (by omega), bsome]
    rw [mi_sI_ne (show a + 7 ≠ a by omega), mi_sI_ne (show a + 7 ≠ a + 4 by omega), mi_sI_ne (show a + 7 ≠ a + 3 by omega), mi_sI_ne (show a + 7 ≠ a + 2 by omega), mi_sI_ne (show a + 7 ≠ a + 1 by omega)]
    rw [mi_sI_ne (show a ≠ a + 4 by omega), mi_sI_ne (show a ≠ a + 3 by omega), mi_sI_ne (show a ≠ a + 2 by omega), mi_sI_ne (show a ≠ a + 1 by omega), w8, w9, hV.n, oN_S]
    generalize hD : sI (sI (sI (sI C (a + 1) (rN r) (Int32.ofNat (8 * y + x))) (a + 2) (rN r) s) (a + 3) (rN r) (r 363)) (a + 4) (rN r) 0 = D
    have d0 : mi D a = mi C a := by rw [← hD, mi_sI_ne (by omega), mi_sI_ne (by omega), mi_sI_ne (by omega), mi_sI_ne (by omega)]
    have d5 : mi D (a + 5) = mi C (a + 5) := by rw [← hD, mi_sI_ne (by omega), mi_sI_ne (by omega), mi_sI_ne (by omega), mi_sI_ne (by omega)]
    have d6 : mi D (a + 6) = mi C (a + 6) := by rw [← hD, mi_sI_ne (by omega), mi_sI_ne (by omega), mi_sI_ne (by omega), mi_sI_ne (by omega)]
    have d7 : mi D (a + 7) = mi C (a + 7) := by rw [← hD, mi_sI_ne (by omega), mi_sI_ne (by omega), mi_sI_ne (by omega), mi_sI_ne (by omega)]
    have d1 : mi D (a + 1) = u1 (mi C (a + 1)) (rN r) (Int32.ofNat (8 * y + x)) := by rw [← hD, mi_sI_ne (by omega), mi_sI_ne (by omega), mi_sI_ne (by omega), mi_sI]
    have d2 : mi D (a + 2) = u1 (mi C (a + 2)) (rN r) s := by rw [← hD, mi_sI_ne (by omega), mi_sI_ne (by omega), mi_sI, mi_sI_ne (by omega)]
    have d3 : mi D (a + 3) = u1 (mi C (a + 3)) (rN r) (r 363) := by rw [← hD, mi_sI_ne (by omega), mi_sI, mi_sI_ne (by omega), mi_sI_ne (by omega)]
    have d4 : mi D (a + 4) = u1 (mi C (a + 4)) (rN r) 0 := by rw [← hD, mi_sI, mi_sI_ne (by omega), mi_sI_ne (by omega), mi_sI_ne (by omega)]
    have dO : Om (fun b => a ≤ b ∧ b ≤ a + 7) C D := by
      rw [← hD]
      exact om_si (om_si (om_si (om_si Om.refl (by omega)) (by omega)) (by omega)) (by omega)
    generalize hE : sI (sI (sI D a 8 (Int32.ofNat (rN r + 1))) (a + 7) (8 * y + x) (mi C (a + 7) (8 * y + x) + 1)) a 7 (mi (sI (sI D a 8 (Int32.ofNat (rN r + 1))) (a + 7) (8 * y + x) (mi C (a + 7) (8 * y + x) + 1)) a 7 + 1) = E
    have e0 : ∀ j, mi E a j = if j = 7 then mi C a 7 + 1 else if j = 8 then Int32.ofNat (rN r + 1) else mi C a j := fun j => by
      rw [← hE, mi_sI, u1_at, mi_sI_ne (show a ≠ a + 7 by omega), mi_sI, u1_at, u1_at, d0, if_neg (show ¬ 7 = 8 by decide)]
    have eb : ∀ b, b ≠ a → b ≠ a + 7 → mi E b = mi D b := fun b h1 h2 => by rw [← hE, mi_sI_ne h1, mi_sI_ne h2, mi_sI_ne h1]
    have e7 : mi E (a + 7) = u1 (mi C (a + 7)) (8 * y + x) (mi C (a + 7) (8 * y + x) + 1) := by rw [← hE, mi_sI_ne (by omega), mi_sI, mi_sI_ne (by omega), d7]
    refine ⟨E, rfl, by rw [← hE]; exact om_si (om_si (om_si dO (by omega)) (by omega)) (by omega), ⟨?_, fun k hk => ?_, fun c hc => ?_⟩, ?_, ?_⟩
    · rw [e0, e0, e0, e0, e0, e0, e0, come_n hn, come_gt hn (by omega), come_gt hn (by omega), come_gt hn (by omega), come_gt hn (by omega), come_gt hn (by omega), come_gt hn (by omega), come_lyN hV hn]
      exact ⟨by rw [hV.n, oN_S]; rfl, w9, w10, w12, w13, w14, by rw [← w7]; rfl⟩
    · rw [come_N hV hn] at hk
      rw [eb (a + 1) (by omega) (by omega), eb (a + 2) (by omega) (by omega), eb (a + 3) (by omega) (by omega), eb (a + 4) (by omega) (by omega), d1, d2, d3, d4, u1_at, u1_at, u1_at, u1_at]
      by_cases e : k < rN r
      · rw [if_neg (by omega), if_neg (by omega), if_neg (by omega), if_neg (by omega), come_c hn e, come_lt hn (by omega), come_lt hn (by omega), come_lt hn (by omega)]
        exact hS k e
      · have e' : k = rN r := by omega
        subst e'
        rw [if_pos rfl, if_pos rfl, if_pos rfl, if_pos rfl, come_cn hn hx hy, come_2 hn, come_3 hn, come_4 hn]
        exact ⟨rfl, rfl, rfl, rfl⟩
    · rw [eb (a + 5) (by omega) (by omega), d5, e7, u1_at, come_gt hn (by omega), come_lyIn hV hn hx hy]
      refine ⟨(hC c hc).1, ?_⟩
      by_cases hcc : c = 8 * y + x
      · rw [if_pos hcc, if_pos hcc, ← hcc, (hC c hc).2]
      · rw [if_neg hcc, if_neg hcc, (hC c hc).2]
    · intro hl
      unfold RLd at hl ⊢
      rw [e0, come_onS hV hn]
      exact hl
    · rintro ⟨h1, h2⟩
      refine ⟨by rw [e0, come_walS hV hn]; exact h1, fun c hc => ?_⟩
      rw [eb (a + 6) (by omega) (by omega), d6, come_hpIn hV hn]
      exact h2 c hc
  · have h6 := hV.n60
    have h9 : rN r = 60 := by omega
    rw [h9, if_pos (show (60 : Int32) ≤ Int32.ofNat 60 from le_rf _), if_neg (by omega)]
    exact ⟨C, rfl, Om.refl, hW, fun z => z, fun z => z⟩
end RD
