/-! level 3's end -/
theorem YB.le {i k : Nat} {M : Mm} (h : YB i M) (hk : i ≤ k) : YB k M := fun a j hj => by
  obtain ⟨n, n1, n2, n3⟩ := h a j hj
  exact ⟨n, n1, by omega, n3⟩
theorem INV.mono {k : Nat} {M : Mm} (h : INV k M) : INV (k + 1) M := ⟨h.1, h.2.1, Nat.le_succ_of_le h.2.2.1, h.2.2.2.1, h.2.2.2.2.up⟩
theorem law_turn {xs : Nat → Int32} {L i k : Nat} {M : Mm} (hI : INV k M) (hk : k ≤ 600) (h : 7 * i + 7 ≤ L) (hL : L ≤ 3584) : ∃ M', f_L_law__b23 xs L (Int32.ofNat (7 * i), M) = some (.inl (Int32.ofNat (7 * (i + 1)), M')) ∧ INV (k + 1) M' := by
  unfold f_L_law__b23
  dsimp only
  have h1 : ¬ (Int32.ofNat L - (7 : Int32)) < Int32.ofNat (7 * i) := by
    have e : Int32.ofNat L - (7 : Int32) = Int32.ofNat (L - 7) := by rw [Int32.ofNat_sub _ _ (by omega)]; rfl
    rw [e, oN_lt (by omega) (by omega)]
    omega
  rw [if_neg h1, ax0 h hL, bsome]
  by_cases h100 : (xs (7 * i) &&& (63 : Int32)) = 0
  · rw [if_pos h100]
    exact case_0 h hL (G_feed hI)
  rw [if_neg h100]
  by_cases h101 : (xs (7 * i) &&& (63 : Int32)) = 1
  · rw [if_pos h101]
    exact case_1 h hL (G_field hI)
  rw [if_neg h101]
  by_cases h102 : (xs (7 * i) &&& (63 : Int32)) = 2
  · rw [if_pos h102]
    exact case_2 h hL (G_law hI)
  rw [if_neg h102]
  by_cases h103 : (xs (7 * i) &&& (63 : Int32)) = 3
  · rw [if_pos h103]
    exact case_3 h hL (G_work hI hk)
  rw [if_neg h103]
  by_cases h104 : (xs (7 * i) &&& (63 : Int32)) = 4
  · rw [if_pos h104]
    exact case_4 h hL (G_book hI)
  rw [if_neg h104]
  by_cases h105 : (xs (7 * i) &&& (63 : Int32)) = 5
  · rw [if_pos h105]
    exact case_5 h hL (G_fault hI)
  rw [if_neg h105]
  by_cases h106 : (xs (7 * i) &&& (63 : Int32)) = 6
  · rw [if_pos h106]
    exact case_6 h hL (G_undo hI)
  rw [if_neg h106]
  by_cases h107 : (xs (7 * i) &&& (63 : Int32)) = 7
  · rw [if_pos h107]
    exact case_7 h hL (G_told hI)
  rw [if_neg h107]
  by_cases h108 : (xs (7 * i) &&& (63 : Int32)) = 8
  · rw [if_pos h108]
    exact case_8 h hL (G_stone hI)
  rw [if_neg h108]
  by_cases h109 : (xs (7 * i) &&& (63 : Int32)) = 9
  · rw [if_pos h109]
    exact case_9 h hL (G_cell hI)
  rw [if_neg h109]
  by_cases h110 : (xs (7 * i) &&& (63 : Int32)) = 10
  · rw [if_pos h110]
    exact case_10 h hL (G_sledge hI)
  rw [if_neg h110]
  by_cases h111 : (xs (7 * i) &&& (63 : Int32)) = 11
  · rw [if_pos h111]
    exact case_11 h hL (G_sums hI)
  rw [if_neg h111]
  by_cases h112 : (xs (7 * i) &&& (63 : Int32)) = 12
  · rw [if_pos h112]
    exact case_12 h hL (G_damage hI)
  rw [if_neg h112]
  by_cases h113 : (xs (7 * i) &&& (63 : Int32)) = 13
  · rw [if_pos h113]
    exact case_13 h hL (G_rises hI)
  rw [if_neg h113]
  by_cases h114 : (xs (7 * i) &&& (63 : Int32)) = 14
  · rw [if_pos h114]
    exact case_14 h hL (G_clear hI)
  rw [if_neg h114]
  by_cases h115 : (xs (7 * i) &&& (63 : Int32)) = 15
  · rw [if_pos h115]
    exact case_15 h hL (G_stops hI)
  rw [if_neg h115]
  by_cases h116 : (xs (7 * i) &&& (63 : Int32)) = 16
  · rw [if_pos h116]
    exact case_16 h hL (G_way hI)
  rw [if_neg h116]
  by_cases h117 : (xs (7 * i) &&& (63 : Int32)) = 17
  · rw [if_pos h117]
    exact case_17 h hL (G_heaps hI)
  rw [if_neg h117]
  by_cases h118 : (xs (7 * i) &&& (63 : Int32)) = 18
  · rw [if_pos h118]
    exact case_18 h hL (G_line hI)
  rw [if_neg h118]
  by_cases h119 : (xs (7 * i) &&& (63 : Int32)) = 19
  · rw [if_pos h119]
    exact case_19 h hL (G_first hI)
  rw [if_neg h119]
  by_cases h120 : (xs (7 * i) &&& (63 : Int32)) = 20
  · rw [if_pos h120]
    exact case_20 h hL (G_mix hI)
  rw [if_neg h120]
  by_cases h121 : (xs (7 * i) &&& (63 : Int32)) = 21
  · rw [if_pos h121]
    exact case_21 h hL (G_enough hI hk)
  rw [if_neg h121]
  by_cases h122 : (xs (7 * i) &&& (63 : Int32)) = 22
  · rw [if_pos h122]
    exact case_22 h hL (G_left hI hk)
  rw [if_neg h122]
  by_cases h123 : (xs (7 * i) &&& (63 : Int32)) = 23
  · rw [if_pos h123]
    exact case_23 h hL (G_fits hI)
  rw [if_neg h123]
  by_cases h124 : (xs (7 * i) &&& (63 : Int32)) = 24
  · rw [if_pos h124]
    exact case_24 h hL (G_frost hI hk)
  rw [if_neg h124]
  by_cases h125 : (xs (7 * i) &&& (63 : Int32)) = 25
  · rw [if_pos h125]
    exact case_25 h hL (G_span hI hk)
  rw [if_neg h125]
  by_cases h126 : (xs (7 * i) &&& (63 : Int32)) = 26
  · rw [if_pos h126]
    exact case_26 h hL (G_chosen hI)
  rw [if_neg h126]
  by_cases h127 : (xs (7 * i) &&& (63 : Int32)) = 27
  · rw [if_pos h127]
    exact case_27 h hL (G_lifts hI)
  rw [if_neg h127]
  by_cases h128 : (xs (7 * i) &&& (63 : Int32)) = 28
  · rw [if_pos h128]
    exact case_28 h hL (G_loads hI)
  rw [if_neg h128]
  by_cases h129 : (xs (7 * i) &&& (63 : Int32)) = 29
  · rw [if_pos h129]
    exact case_29 h hL (G_stoniest hI)
  rw [if_neg h129]
  by_cases h130 : (xs (7 * i) &&& (63 : Int32)) = 30
  · rw [if_pos h130]
    exact case_30 h hL (G_clean hI)
  rw [if_neg h130]
  by_cases h131 : (xs (7 * i) &&& (63 : Int32)) = 31
  · rw [if_pos h131]
    exact case_31 h hL (G_image hI)
  rw [if_neg h131]
  by_cases h132 : (xs (7 * i) &&& (63 : Int32)) = 32
  · rw [if_pos h132]
    exact case_32 h hL (G_restore hI)
  rw [if_neg h132]
  by_cases h133 : (xs (7 * i) &&& (63 : Int32)) = 33
  · rw [if_pos h133]
    exact case_33 h hL (G_status hI)
  rw [if_neg h133]
  by_cases h134 : (xs (7 * i) &&& (63 : Int32)) = 34
  · rw [if_pos h134]
    exact case_34 h hL (G_count hI)
  rw [if_neg h134]
  exact ⟨M, by rw [e7], hI.mono⟩
theorem law_pure {L : Nat} {xs : Nat → Int32} (hL : L ≤ 3584) : ∃ M' : Mm, f_L_law_20 xs L mLw = some (1, M') ∧ zC M' ≤ 601024 ∧ zS M' ≤ 7293034 := by
  have hw := whl_ex (f := f_L_law__b23 xs L) (fun i s => ∃ M, s = (Int32.ofNat (7 * i), M) ∧ INV i M ∧ 7 * i ≤ L) (fun e => ∃ M, e = .inr M ∧ INV 600 M) 513 fu (0, mLw) (by decide) ⟨mLw, rfl, inv_init, by omega⟩ (by
    rintro i s hi ⟨M, rfl, hI, hiL⟩
    by_cases h : 7 * i + 7 ≤ L
    · obtain ⟨M', h1, h2⟩ := law_turn (xs := xs) hI (by omega) h hL
      exact Or.inl ⟨_, h1, M', rfl, h2, by omega⟩
    · refine Or.inr ⟨.inr M, ?_, M, rfl, hI.1, hI.2.1, Nat.le_trans hI.2.2.1 (by omega), hI.2.2.2.1, hI.2.2.2.2.le (by omega)⟩
      unfold f_L_law__b23
      dsimp only
      have h1 : (Int32.ofNat L - (7 : Int32)) < Int32.ofNat (7 * i) := by
        rw [Int32.lt_iff_toInt_lt, oN_int (by omega), Int32.toInt_sub, oN_int (by omega), show (7 : Int32).toInt = 7 from rfl, Int.bmod_eq_of_le (by omega) (by omega)]
        omega
      rw [if_pos h1]) (by
    rintro s ⟨M, rfl, hI, hiL⟩
    omega)
  obtain ⟨e, h1, M, rfl, h2⟩ := hw
  refine ⟨M, ?_, ?_, ?_⟩
  · unfold f_L_law_20
    rw [h1]
    rfl
  · have a := h2.2.1
    have b := h2.2.2.1
    unfold zC
    omega
  · have b := h2.2.2.1
    have c := h2.2.2.2
    omega
