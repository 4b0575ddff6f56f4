/-! level 3: frost -/
theorem dr_bits (s : Int32) : ((s.toUInt32 >>> ((16:Int32).toUInt32 &&& Int32.toUInt32 31)).toInt32 &&& 32767) &&& 15 = (s >>> ((16:Int32) &&& 31)) &&& 15 := by
  apply Int32.toBitVec_inj.mp
  rw [Int32.toBitVec_and, Int32.toBitVec_and, Int32.toBitVec_and, Int32.toBitVec_shiftRight]
  have e1 : (s.toUInt32 >>> ((16:Int32).toUInt32 &&& Int32.toUInt32 31)).toInt32.toBitVec = s.toBitVec >>> 16 := by
    rw [show ((16:Int32).toUInt32 &&& Int32.toUInt32 31) = 16 by decide]
    rfl
  rw [e1]
  have e2 : (16 &&& 31 : Int32).toBitVec.smod 32 = 16#32 := by decide
  rw [e2]
  apply BitVec.eq_of_getLsbD_eq
  intro i hi
  rw [BitVec.getLsbD_and, BitVec.getLsbD_and, BitVec.getLsbD_and]
  by_cases h : i < 4
  · have h1 : (Int32.toBitVec 32767).getLsbD i = true := (by decide : ∀ i, i < 4 → (Int32.toBitVec 32767).getLsbD i = true) i h
    rw [h1, Bool.and_true, BitVec.getLsbD_ushiftRight]
    congr 1
    rw [BitVec.sshiftRight', BitVec.getLsbD_sshiftRight]
    rw [show (16#32).toNat = 16 from rfl, if_pos (by omega), show decide (32 ≤ i) = false from decide_eq_false (by omega)]
    rfl
  · have h1 : (Int32.toBitVec 15).getLsbD i = false := by
      have := (by decide : ∀ i : Nat, i < 32 → ¬ i < 4 → (Int32.toBitVec 15).getLsbD i = false) i hi h
      exact this
    rw [h1, Bool.and_false, Bool.and_false]
theorem dr_nat (s : Int32) : ∃ n : Nat, n < 32768 ∧ (s &&& 32767) = Int32.ofNat n := by
  refine ⟨s.toBitVec.toNat &&& 32767, ?_, ?_⟩
  · have := Nat.and_le_right (n := s.toBitVec.toNat) (m := 32767)
    omega
  · apply Int32.toBitVec_inj.mp
    rw [Int32.toBitVec_and]
    apply BitVec.eq_of_toNat_eq
    rw [BitVec.toNat_and]
    have := Nat.and_le_right (n := s.toBitVec.toNat) (m := 32767)
    show _ = (BitVec.ofNat 32 _).toNat
    rw [BitVec.toNat_ofNat]
    have e : ((Int32.toBitVec 32767).toNat) = 32767 := by decide
    rw [e]
    generalize s.toBitVec.toNat &&& 32767 = n at this
    omega
theorem dr_mod {n : Nat} (h : n < 32768) : Int32.ofNat n &&& 15 = Int32.ofNat (n % 16) := by
  apply Int32.toBitVec_inj.mp
  rw [Int32.toBitVec_and]
  apply BitVec.eq_of_toNat_eq
  rw [BitVec.toNat_and]
  show (BitVec.ofNat 32 _).toNat &&& _ = (BitVec.ofNat 32 _).toNat
  rw [BitVec.toNat_ofNat, BitVec.toNat_ofNat]
  have e : ((Int32.toBitVec 15).toNat) = 15 := by decide
  rw [e]
  have e1 : n % 2 ^ 32 = n := by omega
  have e2 : n % 16 % 2 ^ 32 = n % 16 := by omega
  rw [e1, e2]
  exact Nat.and_two_pow_sub_one_eq_mod n 4
theorem dr_c (s : Int32) : (((s.toUInt32 >>> ((16:Int32).toUInt32 &&& Int32.toUInt32 31)).toInt32 &&& 32767) - ((s.toUInt32 >>> ((16:Int32).toUInt32 &&& Int32.toUInt32 31)).toInt32 &&& 32767) / 16 * 16) = (s >>> ((16:Int32) &&& 31)) &&& 15 := by
  rw [← dr_bits]
  obtain ⟨n, n1, n2⟩ := dr_nat ((s.toUInt32 >>> ((16:Int32).toUInt32 &&& Int32.toUInt32 31)).toInt32)
  have h1 : n / 16 * 16 ≤ n := Nat.div_mul_le_self n 16
  rw [n2, dr_mod n1, show Int32.ofNat n / 16 = Int32.ofNat (n / 16) from oN_div (b := 16) (by omega) (by omega), show Int32.ofNat (n / 16) * 16 = Int32.ofNat (n / 16 * 16) from (Int32.ofNat_mul (n / 16) 16).symm, oN_sub h1 (by omega)]
  congr 1
  omega
section FO
variable {k : Nat} {M : Mm} {q : Nat → Nat} {w h : Nat} {r r' : Nat → Int32} {C C' T N : Mm}
def drS (s : Int32) : Int32 := s * (1103515245 : Int32) + (12345 : Int32)
def drV (s : Int32) : Int32 := (s >>> ((16 : Int32) &&& 31)) &&& (15 : Int32)
def foC (T : Mm) (z : Int32) (s : Int32 × (Nat → Int32)) (c : Nat) : Int32 × (Nat → Int32) := if kpt T s.2 c then (drS s.1, if z ≤ drV (drS s.1) then s.2 else come2 s.2 (c % 8) (c / 8) 1) else s
def foI (T : Mm) (z : Int32) (s : Int32 × (Nat → Int32)) : Nat → Int32 × (Nat → Int32)
  | 0 => s
  | c + 1 => foC T z (foI T z s c) c
def foN (T : Mm) (z : Int32) (s : Int32 × (Nat → Int32)) : Nat → Int32 × (Nat → Int32)
  | 0 => s
  | j + 1 => foI T z ((foN T z s j).1, wnt T (foN T z s j).2) 48
theorem foC_vr {z : Int32} {s : Int32 × (Nat → Int32)} {c : Nat} (hV : VR (tw T) (th T) s.2) : VR (tw T) (th T) (foC T z s c).2 ∧ ∀ j, 360 < j → (foC T z s c).2 j = s.2 j := by
  unfold foC
  by_cases hk : kpt T s.2 c
  · rw [if_pos hk]
    by_cases hz : z ≤ drV (drS s.1)
    · rw [if_pos hz]
      exact ⟨hV, fun _ _ => rfl⟩
    · rw [if_neg hz]
      exact ⟨come2_vr hV hk.1.1 hk.1.2 ⟨1, by omega, by omega, rfl⟩, fun j hj => come2_gt hj⟩
  · rw [if_neg hk]
    exact ⟨hV, fun _ _ => rfl⟩
theorem foI_vr {z : Int32} {s : Int32 × (Nat → Int32)} (hV : VR (tw T) (th T) s.2) : ∀ c, VR (tw T) (th T) (foI T z s c).2 ∧ ∀ j, 360 < j → (foI T z s c).2 j = s.2 j := by
  intro c
  induction c with
  | zero => exact ⟨hV, fun _ _ => rfl⟩
  | succ c ih =>
    have := foC_vr (z := z) (c := c) ih.1
    exact ⟨this.1, fun j hj => (this.2 j hj).trans (ih.2 j hj)⟩
theorem foN_vr {z : Int32} {s : Int32 × (Nat → Int32)} {m : Nat} (hV : VR (tw T) (th T) s.2) (hy : s.2 363 = Int32.ofNat m) : ∀ j, m + j < 9000000 → VR (tw T) (th T) (foN T z s j).2 ∧ (foN T z s j).2 363 = Int32.ofNat (m + j) := by
  intro j
  induction j with
  | zero => exact fun _ => ⟨hV, hy⟩
  | succ j ih =>
    intro hj
    obtain ⟨a, b⟩ := ih (by omega)
    have c := foI_vr (z := z) (s := ((foN T z s j).1, wnt T (foN T z s j).2)) (wnt_vr a b (by omega)) 48
    exact ⟨c.1, (c.2 363 (by omega)).trans (by
      show wnt T _ 363 = _
      rw [wnt_gt (by omega), yrR_k, b, oN_S]
      rfl)⟩
theorem foC_al {z : Int32} {s s' : Int32 × (Nat → Int32)} {c : Nat} (h1 : s'.1 = s.1) (h : AL s.2 s'.2) : (foC T z s' c).1 = (foC T z s c).1 ∧ AL (foC T z s c).2 (foC T z s' c).2 := by
  unfold foC
  rw [h1]
  by_cases hk : kpt T s.2 c
  · rw [if_pos hk, if_pos (h.kp.mpr hk)]
    by_cases hz : z ≤ drV (drS s.1)
    · rw [if_pos hz, if_pos hz]
      exact ⟨rfl, h⟩
    · rw [if_neg hz, if_neg hz]
      exact ⟨rfl, h.come⟩
  · rw [if_neg hk, if_neg (fun z => hk (h.kp.mp z))]
    exact ⟨h1, h⟩
theorem k_draw : f_X2_draw C = some (drV (drS (mi C 18 2)), sI C 18 2 (drS (mi C 18 2))) := by
  unfold f_X2_draw
  rw [mi_sI_k, dr_c]
  rfl
theorem tr_frosty {z : Int32} {m : Nat} {s : Int32 × (Nat → Int32)} (h9 : IDS M q) (hX : CX C T (q 0) (q 6) (q 7) 19 s.2) (h18 : mi C 18 2 = s.1) (hV : VR (tw T) (th T) s.2) (hy : s.2 363 = Int32.ofNat m) (hm : m < 9000000) : ∃ C', f_X2_passFrostyWinter (q 0) z C = some C' ∧ Om (trS q) C C' ∧ CX C' T (q 0) (q 6) (q 7) 19 (foI T z (s.1, wnt T s.2) 48).2 ∧ mi C' 18 2 = (foI T z (s.1, wnt T s.2) 48).1 := by
  have hn := ids_n h9
  obtain ⟨C1, p1, p2, p3⟩ := tr_raise h9 hX hV hy (by omega)
  have hV1 := wnt_vr hV hy (by omega)
  have q18 : mi C1 18 2 = s.1 := by
    obtain ⟨C2, q1, q2, -⟩ := k_raise hX.1 hV hX.2.1 hX.2.2.2.1 hX.2.2.2.2.2 hy (by omega) (fun b hb => by omega) (fun b hb => by omega)
    rw [q1] at p1
    have : C2 = C1 := Option.some.inj p1
    rw [← this, q2.at (by omega)]
    exact h18
  obtain ⟨C', e1, e2, e3, e4⟩ := whl_ex (f := f_X2_passFrostyWinter_b10 (q 0) z) (fun c st => ∃ C2, st = (Int32.ofNat c, C2) ∧ Om (trS q) C C2 ∧ CX C2 T (q 0) (q 6) (q 7) 19 (foI T z (s.1, wnt T s.2) c).2 ∧ mi C2 18 2 = (foI T z (s.1, wnt T s.2) c).1) (fun C2 => Om (trS q) C C2 ∧ CX C2 T (q 0) (q 6) (q 7) 19 (foI T z (s.1, wnt T s.2) 48).2 ∧ mi C2 18 2 = (foI T z (s.1, wnt T s.2) 48).1) 48 fu (0, C1) (by decide) ⟨C1, rfl, p2, p3, q18⟩ (by
    rintro c st hc ⟨C2, rfl, hO, hX2, h2⟩
    have hV2 := (foI_vr (T := T) (z := z) (s := (s.1, wnt T s.2)) hV1 c).1
    have hstep : foI T z (s.1, wnt T s.2) (c + 1) = foC T z (foI T z (s.1, wnt T s.2) c) c := rfl
    rw [hstep]
    generalize foI T z (s.1, wnt T s.2) c = t at hX2 h2 hV2
    refine Or.inl ?_
    unfold f_X2_passFrostyWinter_b10 foC
    dsimp only
    rw [if_neg (show ¬ (48 : Int32) ≤ Int32.ofNat c from nle (n := 48) hc (by omega)), k_hasCell hX2.1 hc, bsome, oN_S]
    by_cases hf : inF T c
    · rw [if_pos hf, if_neg z10, k_isLost hV2 hX2.2.1 hc, bsome]
      by_cases hl : t.2 (367 + c) = 1
      · rw [if_pos hl, if_neg z10, if_neg (fun z => z.2 hl)]
        exact ⟨_, rfl, C2, rfl, hO, hX2, h2⟩
      · rw [if_neg hl, if_pos z00, if_pos ⟨hf, hl⟩, k_draw, bsome, h2]
        dsimp only
        have hO3 : Om (trS q) C (sI C2 18 2 (drS t.1)) := om_si hO (by unfold trS; omega)
        have hX3 : CX (sI C2 18 2 (drS t.1)) T (q 0) (q 6) (q 7) 19 t.2 := cx_new (S := trS q) hX2 (om_si Om.refl (by unfold trS; omega)) (trS_aw h9) (hX2.2.1.frame (fun j hj => mi_sI_ne (by omega)))
        by_cases hz : z ≤ drV (drS t.1)
        · rw [if_pos hz, if_pos hz]
          exact ⟨_, rfl, _, rfl, hO3, hX3, mi_sI_k⟩
        · rw [if_neg hz, if_neg hz]
          obtain ⟨C4, t1, t2, t3, -⟩ := k_addStone (s := 1) (x := c % 8) (y := c / 8) hV2 hX3.2.1 (by omega) (by omega)
          rw [show 8 * (c / 8) + c % 8 = c by omega] at t1
          rw [t1, bsome]
          have t2' : Om (trS q) (sI C2 18 2 (drS t.1)) C4 := t2.mono (fun b hb => by unfold trS; omega)
          exact ⟨_, rfl, C4, rfl, hO3.trans t2', cx_new hX3 t2' (trS_aw h9) t3, by rw [t2.at (by omega)]; exact mi_sI_k⟩
    · rw [if_neg hf, if_pos z00, if_neg (fun z => hf z.1)]
      exact ⟨_, rfl, C2, rfl, hO, hX2, h2⟩) (by
    rintro st ⟨C2, rfl, hO, hX2, h2⟩
    refine ⟨C2, ?_, hO, hX2, h2⟩
    unfold f_X2_passFrostyWinter_b10
    dsimp only
    rw [if_pos (show (48 : Int32) ≤ Int32.ofNat 48 from le_rf _)])
  unfold f_X2_passFrostyWinter
  rw [p1, bsome, show whl fu (f_X2_passFrostyWinter_b10 (q 0) z) (0, C1) = some C' from e1, bsome]
  exact ⟨C', rfl, e2, e3, e4⟩
def mrG (a : Nat) : Prop := a = 115 ∨ a = 116 ∨ a = 197 ∨ (223 ≤ a ∧ a ≠ 275) ∨ a = 76
theorem mrG_yr {a : Nat} (h : yr9 a) (h2 : mrG a) : False := by
  unfold yr9 at h
  unfold mrG at h2
  omega
theorem rr_76 {P M2 : Mm} (h4 : RR P P q) (hO : Oml mrG P M2) (h76 : ∀ j, ¬ (38 ≤ j ∧ j ≤ 42) → mi M2 76 j = mi P 76 j) : RR M2 M2 q := by
  refine h4.same (KCx.low h4.1 hO.2.1 (fun a ha => hO.at (by unfold mrG; omega))) ⟨fun a k hk => ?_, hO.at (by unfold mrG; omega), hO.at (by unfold mrG; omega), h76 1 (by omega), h76 3 (by omega), h76 32 (by omega)⟩
  by_cases ha : a = 76
  · subst ha
    exact h76 k (by unfold kt at hk; omega)
  · rw [hO.at (by unfold mrG; unfold kt at hk; omega)]
theorem gd_76 {v : Int32} {S : Nat → Prop} {M1 M2 : Mm} {fc : Option ((Nat ⊕ Int32) × Mm)} {fm : Mm → Option (Int32 × Mm)} {c0 c1 c2 : Int32} (h : RR M M q) (r : RM k M) (hO : Oml S M M1) (hO2 : Oml mrG (nQ M1 v.toInt64) M2) (h76 : ∀ j, ¬ (38 ≤ j ∧ j ≤ 42) → mi M2 76 j = mi (nQ M1 v.toInt64) 76 j) (hS : ∀ a, S a → frC q a ∧ frT a) (h1 : fc = some (.inr v, M1)) (h2 : fm (sL M1 275 0 v.toInt64) = some (v, M2)) : GdI k fc fm c0 c1 c2 := by
  have h3 : RR M1 M1 q := h.oml hO hO (fun a ha => (hS a ha).1) (fun a ha => (hS a ha).2)
  have hI1 : INV k M1 := ⟨⟨q, h3⟩, r.of hO.1 (fun a ha => hO.at (fun hs => yr_fr ha (hS a hs).2))⟩
  have hI2 := hI1.nQ (v := v.toInt64)
  have h4 := rr_nQ h3 (v := v.toInt64)
  refine Or.inr ⟨v, M1, M2, h1, h2, ?_, ?_, ⟨q, rr_76 h4 hO2 h76⟩, hI2.2.of hO2.1 (fun a ha => hO2.at (fun hs => mrG_yr ha hs))⟩
  · rw [h76 0 (by omega)]
    exact nQ_t
  · rw [(hO2.2.2 275 (by unfold mrG; omega)).2]
    exact nQ_out
theorem gd_76J {v : Int64} {S : Nat → Prop} {M1 M2 : Mm} {fc : Option ((Nat ⊕ Int64) × Mm)} {fm : Mm → Option (Int64 × Mm)} {c0 c1 c2 : Int32} (h : RR M M q) (r : RM k M) (hO : Oml S M M1) (hO2 : Oml mrG (nQ M1 v) M2) (h76 : ∀ j, ¬ (38 ≤ j ∧ j ≤ 42) → mi M2 76 j = mi (nQ M1 v) 76 j) (hS : ∀ a, S a → frC q a ∧ frT a) (h1 : fc = some (.inr v, M1)) (h2 : fm (sL M1 275 0 v) = some (v, M2)) : GdJ k fc fm c0 c1 c2 := by
  have h3 : RR M1 M1 q := h.oml hO hO (fun a ha => (hS a ha).1) (fun a ha => (hS a ha).2)
  have hI1 : INV k M1 := ⟨⟨q, h3⟩, r.of hO.1 (fun a ha => hO.at (fun hs => yr_fr ha (hS a hs).2))⟩
  have hI2 := hI1.nQ (v := v)
  have h4 := rr_nQ h3 (v := v)
  refine Or.inr ⟨v, M1, M2, h1, h2, ?_, ?_, ⟨q, rr_76 h4 hO2 h76⟩, hI2.2.of hO2.1 (fun a ha => hO2.at (fun hs => mrG_yr ha hs))⟩
  · rw [h76 0 (by omega)]
    exact nQ_t
  · rw [(hO2.2.2 275 (by unfold mrG; omega)).2]
    exact nQ_out
def mrF (a : Nat) : Prop := mrS a ∨ a = 76
theorem mrF_tq (hO : Om mrF N C) : TQ N C := ⟨hO.at (by unfold mrF mrS; omega), hO.at (by unfold mrF mrS; omega), hO.at (by unfold mrF mrS; omega), hO.at (by unfold mrF mrS; omega), hO.at (by unfold mrF mrS; omega)⟩
theorem mt_frostI {z x3 x4 : Int32} {s : Int32 × (Nat → Int32)} (hT : RGt T) (hq : TQ T N) (hA : AL s.2 (mi N 197)) (h42 : mi N 76 42 = s.1) (hV : VR (tw T) (th T) s.2) : ∃ N', whl fu (f_X10_frosts_b36 z x3 x4) (0, N) = some N' ∧ Om mrF N N' ∧ (∀ j, j ≠ 42 → mi N' 76 j = mi N 76 j) ∧ AL (foI T z s 48).2 (mi N' 197) ∧ mi N' 76 42 = (foI T z s 48).1 ∧ mi N' 197 365 = mi N 197 365 := by
  exact whl_ex (f := f_X10_frosts_b36 z x3 x4) (fun c st => ∃ N', st = (Int32.ofNat c, N') ∧ Om mrF N N' ∧ (∀ j, j ≠ 42 → mi N' 76 j = mi N 76 j) ∧ AL (foI T z s c).2 (mi N' 197) ∧ mi N' 76 42 = (foI T z s c).1 ∧ mi N' 197 365 = mi N 197 365) (fun N' => Om mrF N N' ∧ (∀ j, j ≠ 42 → mi N' 76 j = mi N 76 j) ∧ AL (foI T z s 48).2 (mi N' 197) ∧ mi N' 76 42 = (foI T z s 48).1 ∧ mi N' 197 365 = mi N 197 365) 48 fu (0, N) (by decide) ⟨N, rfl, Om.refl, fun _ _ => rfl, hA, h42, rfl⟩ (by
    rintro c st hc ⟨N2, rfl, hO, h76, hA2, h2, h365⟩
    have hV2 := (foI_vr (T := T) (z := z) (s := s) hV c).1
    have hstep : foI T z s (c + 1) = foC T z (foI T z s c) c := rfl
    rw [hstep]
    generalize foI T z s c = t at hA2 h2 hV2
    have hq2 := hq.trans (mrF_tq hO)
    have hk : kpt N2 (mi N2 197) c ↔ kpt T t.2 c := (kp_of hq2.1).trans hA2.kp
    refine Or.inl ?_
    unfold f_X10_frosts_b36 foC
    dsimp only
    rw [if_neg (show ¬ (48 : Int32) ≤ Int32.ofNat c from nle (n := 48) hc (by omega)), m_isKept (RGt_of hq2.1 hT) LN197 hc, bsome, oN_S]
    by_cases h1 : kpt T t.2 c
    · rw [if_pos (hk.mpr h1), if_neg z10, if_pos h1, mi_sI_k, h2]
      have hd : t.1 * (1103515245 : Int32) + (12345 : Int32) = drS t.1 := rfl
      rw [hd]
      have hO3 : Om mrF N (sI N2 76 42 (drS t.1)) := om_si hO (Or.inr rfl)
      have h763 : ∀ j, j ≠ 42 → mi (sI N2 76 42 (drS t.1)) 76 j = mi N 76 j := fun j hj => (mi_sI_o hj).trans (h76 j hj)
      have e197 : mi (sI N2 76 42 (drS t.1)) 197 = mi N2 197 := mi_sI_ne (by omega)
      by_cases hz : z ≤ drV (drS t.1)
      · rw [if_pos (show z ≤ (drS t.1 >>> ((16 : Int32) &&& 31)) &&& 15 from hz), if_pos hz]
        exact ⟨_, rfl, _, rfl, hO3, h763, by rw [e197]; exact hA2, mi_sI_k, by rw [e197]; exact h365⟩
      · rw [if_neg (show ¬ z ≤ (drS t.1 >>> ((16 : Int32) &&& 31)) &&& 15 from hz), if_neg hz]
        obtain ⟨N4, t1, t2, t3⟩ := m_comes (N := sI N2 76 42 (drS t.1)) (a := 197) (x := c % 8) (y := c / 8) (s := 1) LN197 (by rw [e197]; exact hA2.vr hV2)
        rw [kmod c hc, kdiv c hc, t1, bsome]
        refine ⟨_, rfl, N4, rfl, hO3.trans (t2.mono (fun b hb => by unfold mrF mrS; omega)), fun j hj => by rw [t2.at (by omega)]; exact h763 j hj, ?_, by rw [t2.at (by omega)]; exact mi_sI_k, ?_⟩
        · rw [t3, e197]
          exact hA2.come
        · rw [t3, e197, come2_gt (by omega)]
          exact h365
    · rw [if_neg (fun z => h1 (hk.mp z)), if_pos z00, if_neg h1]
      exact ⟨_, rfl, N2, rfl, hO, h76, hA2, h2, h365⟩) (by
    rintro st ⟨N2, rfl, hO, h76, hA2, h2, h365⟩
    refine ⟨N2, ?_, hO, h76, hA2, h2, h365⟩
    unfold f_X10_frosts_b36
    dsimp only
    rw [if_pos (show (48 : Int32) ≤ Int32.ofNat 48 from le_rf _)])
def hmN (T : Mm) (z : Int32) (s : Int32 × (Nat → Int32)) : Nat → Int32
  | 0 => 0
  | j + 1 => hmN T z s j + dmgW T (foN T z s j).2
theorem foN_gt {z : Int32} {s : Int32 × (Nat → Int32)} {m : Nat} (hV : VR (tw T) (th T) s.2) (hy : s.2 363 = Int32.ofNat m) {j : Nat} (hj : 366 < j) : ∀ i, m + i < 9000000 → (foN T z s i).2 j = s.2 j := by
  intro i
  induction i with
  | zero => exact fun _ => rfl
  | succ i ih =>
    intro hi
    obtain ⟨a, b⟩ := foN_vr (z := z) hV hy i (by omega)
    have c := foI_vr (z := z) (s := ((foN T z s i).1, wnt T (foN T z s i).2)) (wnt_vr a b (by omega)) 48
    exact (c.2 j (by omega)).trans ((wnt_gt (by omega)).trans ((yrR_o (by omega)).trans (ih (by omega))))
theorem mt_copy1 (e1 : mi N 196 = mi M 196) (e2 : ∀ j, 415 ≤ j → mi N 197 j = mi M 197 j) : ∃ N', f_X10_copies 196 197 N = some N' ∧ Om mrS N N' ∧ mi N' 197 = r0 M := ⟨_, m_copies LN196 LN197 (by omega), Om.sA (by unfold mrS; omega), by
  rw [mi_sA, e1]
  funext j
  unfold r0 upto
  by_cases hj : j < 415
  · rw [if_pos hj, if_pos hj]
  · rw [if_neg hj, if_neg hj]
    exact e2 j (by omega)⟩
theorem mt_frosts {z x1 : Int32} {m Y : Nat} (h : RR M M q) (hq : TQ M N) (e1 : mi N 196 = mi M 196) (e2 : ∀ j, 415 ≤ j → mi N 197 j = mi M 197 j) (hy : r0 M 363 = Int32.ofNat m) (hm : m + Y < 1000000) : ∃ N', f_X10_frosts x1 z (Int32.ofNat Y) N = some N' ∧ Om mrF N N' ∧ (∀ j, j ≠ 42 → mi N' 76 j = mi N 76 j) ∧ AL (foN M z (x1, r0 M) Y).2 (mi N' 197) ∧ mi N' 197 365 = mi M 196 365 + hmN M z (x1, r0 M) Y := by
  have hV := r0_vr h
  obtain ⟨N1, b1, b2, b3⟩ := mt_copy1 e1 e2
  have h1 : Om mrF N (sI N1 76 42 x1) := om_si (b2.mono (fun a ha => Or.inl ha)) (Or.inr rfl)
  obtain ⟨N', g1, g2, g3, g4, -, g6⟩ := whl_ex (f := f_X10_frosts_b19 z (Int32.ofNat Y)) (fun j st => ∃ C2, st = (Int32.ofNat j, C2) ∧ Om mrF N C2 ∧ (∀ j, j ≠ 42 → mi C2 76 j = mi N 76 j) ∧ AL (foN M z (x1, r0 M) j).2 (mi C2 197) ∧ mi C2 76 42 = (foN M z (x1, r0 M) j).1 ∧ mi C2 197 365 = mi M 196 365 + hmN M z (x1, r0 M) j) (fun C2 => Om mrF N C2 ∧ (∀ j, j ≠ 42 → mi C2 76 j = mi N 76 j) ∧ AL (foN M z (x1, r0 M) Y).2 (mi C2 197) ∧ mi C2 76 42 = (foN M z (x1, r0 M) Y).1 ∧ mi C2 197 365 = mi M 196 365 + hmN M z (x1, r0 M) Y) Y fu (0, sI N1 76 42 x1) (by show Y < 1000000; omega) ⟨_, rfl, h1, fun j hj => by rw [mi_sI_o hj, b2.at (by unfold mrS; omega)], by rw [mi_sI_ne (by omega), b3]; exact AL.refl, mi_sI_k, by rw [mi_sI_ne (by omega), b3, r0_e (by omega)]; exact (Int32.add_zero _).symm⟩ (by
    rintro j st hj ⟨C2, rfl, hO, h76, hA, h42, h365⟩
    obtain ⟨v1, v2⟩ := foN_vr (z := z) (s := (x1, r0 M)) hV hy j (by omega)
    obtain ⟨C4, q1, q2, q3, q4⟩ := mt_winters (C := M) h.gd.1 h.lh h.lr (hq.trans (mrF_tq hO)) hA v1 v2 (by omega)
    have hO4 := hO.trans (q2.mono (fun a ha => Or.inl ha))
    have e76 : mi C4 76 = mi C2 76 := q2.at (by unfold mrS; omega)
    obtain ⟨C5, t1, t2, t3, t4, t5, t6⟩ := mt_frostI (z := z) (x3 := Int32.ofNat Y) (x4 := Int32.ofNat j) (s := ((foN M z (x1, r0 M) j).1, wnt M (foN M z (x1, r0 M) j).2)) h.gd.1 (hq.trans (mrF_tq hO4)) q3 (by rw [e76]; exact h42) (wnt_vr v1 v2 (by omega))
    unfold f_X10_frosts_b19
    dsimp only
    rw [if_neg (nle hj (by omega)), q1, bsome, t1, bsome, oN_S]
    refine Or.inl ⟨_, rfl, C5, rfl, hO4.trans t2, fun i hi => by rw [t3 i hi, e76]; exact h76 i hi, t4, t5, ?_⟩
    rw [t6, q4, h365, Int32.add_assoc]
    rfl) (by
    rintro st ⟨C2, rfl, hO, h76, hA, h42, h365⟩
    refine ⟨C2, ?_, hO, h76, hA, h42, h365⟩
    unfold f_X10_frosts_b19
    dsimp only
    rw [if_pos (le_rf _)])
  unfold f_X10_frosts
  rw [b1, bsome, show whl fu (f_X10_frosts_b19 z (Int32.ofNat Y)) (0, sI N1 76 42 x1) = some N' from g1, bsome]
  exact ⟨N', rfl, g2, g3, g4, g6⟩
theorem tr_begin1 (h : RR M M q) (hO : Om (trS q) M C) : ∃ C', f_X2_begin (q 2) C = some C' ∧ Om (trS q) C C' ∧ CX C' M (q 0) (q 6) (q 7) 19 (r0 M) := by
  have h' : RR C M q := h.om hO (S' := fun _ => False) Om.refl (fun a ha => (trS_fr h.1 ha).1) (fun a ha => ha.elim)
  obtain ⟨C', e1, e2, e3⟩ := tr_begin h'
  exact ⟨C', e1, e2, e3.1, rw_eq h.wd.1 (fun j hj => r0_e hj) e3.2.1, e3.2.2⟩
theorem tr_frost {z x1 : Int32} {m Y : Nat} (h : RR M M q) (hO0 : Om (trS q) M C) (hy : r0 M 363 = Int32.ofNat m) (hm : m + Y < 1000000) : ∃ C', f_X2_passFrost (q 0) (q 2) x1 z (Int32.ofNat Y) C = some C' ∧ Om (trS q) M C' ∧ CX C' M (q 0) (q 6) (q 7) 19 (foN M z (x1, r0 M) Y).2 := by
  have hV := r0_vr h
  obtain ⟨C1, b1, b2, b3⟩ := tr_begin1 h hO0
  have hO1 : Om (trS q) M (sI C1 18 2 x1) := om_si (hO0.trans b2) (by unfold trS; omega)
  have hX1 : CX (sI C1 18 2 x1) M (q 0) (q 6) (q 7) 19 (r0 M) := cx_new (S := trS q) b3 (om_si Om.refl (by unfold trS; omega)) (trS_aw h.1) (b3.2.1.frame (fun j hj => mi_sI_ne (by omega)))
  obtain ⟨C', g1, g2, g3, -⟩ := whl_ex (f := f_X2_passFrost_b13 (q 0) z (Int32.ofNat Y)) (fun j st => ∃ C2, st = (Int32.ofNat j, C2) ∧ Om (trS q) M C2 ∧ CX C2 M (q 0) (q 6) (q 7) 19 (foN M z (x1, r0 M) j).2 ∧ mi C2 18 2 = (foN M z (x1, r0 M) j).1) (fun C2 => Om (trS q) M C2 ∧ CX C2 M (q 0) (q 6) (q 7) 19 (foN M z (x1, r0 M) Y).2 ∧ mi C2 18 2 = (foN M z (x1, r0 M) Y).1) Y fu (0, sI C1 18 2 x1) (by show Y < 1000000; omega) ⟨_, rfl, hO1, hX1, mi_sI_k⟩ (by
    rintro j st hj ⟨C2, rfl, hO, hX, h2⟩
    obtain ⟨v1, v2⟩ := foN_vr (z := z) (s := (x1, r0 M)) hV hy j (by omega)
    obtain ⟨C3, t1, t2, t3, t4⟩ := tr_frosty (z := z) h.1 hX h2 v1 v2 (by omega)
    unfold f_X2_passFrost_b13
    dsimp only
    rw [if_neg (nle hj (by omega)), t1, bsome, oN_S]
    exact Or.inl ⟨_, rfl, C3, rfl, hO.trans t2, t3, t4⟩) (by
    rintro st ⟨C2, rfl, hO, hX, h2⟩
    refine ⟨C2, ?_, hO, hX, h2⟩
    unfold f_X2_passFrost_b13
    dsimp only
    rw [if_pos (le_rf _)])
  unfold f_X2_passFrost
  rw [b1, bsome, show whl fu (f_X2_passFrost_b13 (q 0) z (Int32.ofNat Y)) (0, sI C1 18 2 x1) = some C' from g1, bsome]
  exact ⟨C', rfl, g2, g3⟩
theorem tr_harmN {z x1 : Int32} {m Y : Nat} (h : RR M M q) (hy : r0 M 363 = Int32.ofNat m) (hm : m + Y < 1000000) : ∃ C', f_X2_harmOfFrost (q 0) (q 2) x1 z (Int32.ofNat Y) M = some (hmN M z (x1, r0 M) Y, C') ∧ Om (trS q) M C' := by
  have hV := r0_vr h
  obtain ⟨C1, b1, b2, b3⟩ := tr_begin1 h (C := M) Om.refl
  have hO1 : Om (trS q) M (sI C1 18 2 x1) := om_si b2 (by unfold trS; omega)
  have hX1 : CX (sI C1 18 2 x1) M (q 0) (q 6) (q 7) 19 (r0 M) := cx_new (S := trS q) b3 (om_si Om.refl (by unfold trS; omega)) (trS_aw h.1) (b3.2.1.frame (fun j hj => mi_sI_ne (by omega)))
  obtain ⟨e, g1, C', g2, g3⟩ := whl_ex (f := f_X2_harmOfFrost_b16 (q 0) z (Int32.ofNat Y)) (fun j st => ∃ C2, st = (hmN M z (x1, r0 M) j, Int32.ofNat j, C2) ∧ Om (trS q) M C2 ∧ CX C2 M (q 0) (q 6) (q 7) 19 (foN M z (x1, r0 M) j).2 ∧ mi C2 18 2 = (foN M z (x1, r0 M) j).1) (fun e => ∃ C2, e = (hmN M z (x1, r0 M) Y, C2) ∧ Om (trS q) M C2) Y fu (0, 0, sI C1 18 2 x1) (by show Y < 1000000; omega) ⟨_, rfl, hO1, hX1, mi_sI_k⟩ (by
    rintro j st hj ⟨C2, rfl, hO, hX, h2⟩
    have hn := ids_n h.1
    obtain ⟨v1, v2⟩ := foN_vr (z := z) (s := (x1, r0 M)) hV hy j (by omega)
    obtain ⟨C4, p1, p2⟩ := k_harmOfAll (s := 10) hX v1 (fun a ha => by unfold awy; omega)
    have p2' : Om (trS q) C2 C4 := p2.mono (fun a ha => by unfold trS; omega)
    have hX4 := cx_new hX p2' (trS_aw h.1) (hX.2.1.frame (fun j hj => p2.at (by omega)))
    obtain ⟨C3, t1, t2, t3, t4⟩ := tr_frosty (z := z) h.1 hX4 (by rw [p2.at (by omega)]; exact h2) v1 v2 (by omega)
    unfold f_X2_harmOfFrost_b16
    dsimp only
    rw [if_neg (nle hj (by omega)), p1, bsome]
    dsimp only
    rw [t1, bsome, oN_S, dmgA_al AL.refl v1]
    exact Or.inl ⟨_, rfl, C3, rfl, (hO.trans p2').trans t2, t3, t4⟩) (by
    rintro st ⟨C2, rfl, hO, hX, h2⟩
    refine ⟨_, ?_, C2, rfl, hO⟩
    unfold f_X2_harmOfFrost_b16
    dsimp only
    rw [if_pos (le_rf _)])
  subst g2
  unfold f_X2_harmOfFrost
  rw [b1, bsome, show whl fu (f_X2_harmOfFrost_b16 (q 0) z (Int32.ofNat Y)) (0, 0, sI C1 18 2 x1) = some (hmN M z (x1, r0 M) Y, C') from g1, bsome]
  exact ⟨C', rfl, g3⟩
end FO
