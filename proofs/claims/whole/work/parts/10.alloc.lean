/-! rules: new things, throwing and catching, copying of rows, constants, the script -/
def cAll (c : Nat) : Prop := ∃ (C : String) (T : u_T) (N : Nat) (ty : Nat → FieldType), clX[c]? = some (C, T, N) ∧ cFt C T N ty ∧ c < 11 ∧ N = (fk c).length ∧ (∀ j, j < N → ∃ kd, (fk c)[j]? = some kd ∧ kdT kd (ty j)) ∧ Cond.instantiable C N ∈ lw_tbl ∧ Cond.initialized C ∈ lw_tbl
section RN
variable {l : Launch} {s0 : State} {b L : Nat} {xs : Nat → Int32} {D : va_G} {cy : Nat → ClassId} {ad : Nat → Nat} {d : Nat} {I : MI} {pc : Nat} {lo st : List Value} {M M' : Mm} {res : Rs}
theorem r_objinit (G : GG l s0 b L xs D cy ad) {a idx : Nat} (hL : Cond.methodLink I.1.cls idx Lib.objectInit ∈ lw_tbl) (h1 : Cond.instanceMethod Lib.objectInit ∈ lw_tbl) (h2 : Cond.code Lib.objectInit ⟨#[0xb1]⟩ 1 none ∈ lw_tbl) (hd1 : 1 ≤ d) (hw8 : (st.map (fun v => v.category)).sum ≤ 8) (hd : decode I.2.1 pc = .ok (.invokespecial idx, 3)) (k : Run l s0 D cy ad d I (pc + 3) lo st M res M') : Run l s0 D cy ad d I pc lo (.ref a :: st) M res M' := by
  obtain ⟨hm, k⟩ := k
  refine ⟨hm, ?_⟩
  intro p e R s m args below meth c0 H locs ls k0 z0 Q F hW hl hn hS hR g1 g2 kr kx
  have hWa := F.2.2.2.2.2.2.2.1
  have hw9 : ((st.map (gv ad)).map (fun v => v.category)).sum ≤ 8 := by
    rw [List.map_map]
    have : ((fun v : Value => v.category) ∘ gv ad) = fun v => v.category := by funext v; exact gv_cat v
    rw [this]; exact hw8
  exact W.objInit F.1 F.2.1 F.2.2.2.2.1 (gwm G hWa hL w_link args) (gwm G hWa h1 w_inst args) (gwm G hWa h2 w_code args) (g := F0 m pc ls (.ref (ad a) :: st.map (gv ad))) rfl (by rw [F.2.2.1]; exact hl.1.trans hn) rfl hd (by omega) (by show 2 * 0 + ((st.map (gv ad)).map (fun v => v.category)).sum + 12 ≤ R.locals; omega) (k F hW hl hn hS hR g1 g2 kr kx)
/-- the address of a new thing is the next -/
theorem new_at (G : GG l s0 b L xs D cy ad) {q : Nat} {e9 : va_E} {H1 : Heap} (hn : zN M < 100000) (hx : H1.size ≤ s0.heap.size + zN M + 1) (hP : va_P D clX (pool cy ad M ++ [(q, e9)]) H1) (hD : va_D (AF s0) (pool cy ad M ++ [(q, e9)])) : q = ad (zN M) := by
  have hz := G.2.2.2.1
  rw [hz _ hn]
  have hq : (pool cy ad M ++ [(q, e9)])[zN M]? = some (q, e9) := by rw [List.getElem?_append_right (by rw [pool_len]; exact Nat.le_refl _), pool_len, Nat.sub_self]; rfl
  have h1 : q < H1.size := (hP _ _ hq).lt
  have h2 : s0.heap.size ≤ q := hD.2 _ _ hq
  by_cases h3 : q = s0.heap.size + zN M
  · exact h3
  · have h4 : q - s0.heap.size < zN M := by omega
    have hp : (pool cy ad M ++ [(q, e9)])[q - s0.heap.size]? = some (ad (q - s0.heap.size), ent cy ad M (q - s0.heap.size)) := by
      rw [List.getElem?_append_left (by rw [pool_len]; exact h4), pool_at h4]
    have := hD.1 _ _ _ _ hp hq (by show ad (q - s0.heap.size) = q; rw [hz _ (by omega)]; omega)
    omega
theorem pool_new {M1 : Mm} {e9 : va_E} (hn : zN M1 = zN M + 1) (he : ent cy ad M1 (zN M) = e9) (ho : ∀ j, j < zN M → ent cy ad M1 j = ent cy ad M j) : pool cy ad M ++ [(ad (zN M), e9)] = pool cy ad M1 := by
  unfold pool
  rw [hn, List.range_succ, List.map_append]
  refine congr (congrArg _ (List.map_congr_left fun j hj => ?_)) ?_
  · rw [ho j (List.mem_range.mp hj)]
  · show _ = [(ad (zN M), ent cy ad M1 (zN M))]
    rw [he]
theorem sN_off {k n w j : Nat} (hj : j < zN M) : ent cy ad (sN M k n w) j = ent cy ad M j := by
  have h : j ≠ zN M := by omega
  have e1 : sh (sN M k n w) j = sh M j := u1_ne h
  have e2 : ln (sN M k n w) j = ln M j := u1_ne h
  have e3 : mi (sN M k n w) j = mi M j := u1_ne h
  have e4 : ml (sN M k n w) j = ml M j := u1_ne h
  have e5 : mr (sN M k n w) j = mr M j := u1_ne h
  unfold ent fvs fv
  rw [e1, e2, e3, e4, e5]
theorem r_new (G : GG l s0 b L xs D cy ad) {idx c w : Nat} {C : String} (hc : cAll c) (hC : clX[c]?.map (fun q => (q.1, q.2.2)) = some (C, w)) (hL : Cond.classLink I.1.cls idx C ∈ lw_tbl) (hx0 : zX M = 0) (hn9 : zN M < 99999) (hd : decode I.2.1 pc = .ok (.new idx, 3)) (k : Run l s0 D cy ad d I (pc + 3) lo (.ref (zN M) :: st) (sN M c 0 w) res M') : Run l s0 D cy ad d I pc lo st M res M' := by
  obtain ⟨hm, k⟩ := k
  have c1 : zC (sN M c 0 w) = zC M + 1 := by show (zN M + 1) + zX M = (zN M + zX M) + 1; omega
  have c2 : zS (sN M c 0 w) = zS M + w := rfl
  refine ⟨⟨by omega, by omega, fun _ => hx0⟩, ?_⟩
  intro p e R s m args below meth c0 H locs ls k0 z0 Q F hW hl hn hS hR g1 g2 kr kx
  obtain ⟨C', T, N, ty, q1, q2, q3, q4, q5, q6, q7⟩ := hc
  rw [q1] at hC
  have hC1 : (C', N) = (C, w) := Option.some.inj hC
  have hC2 : C' = C := congrArg Prod.fst hC1
  have hC3 : N = w := congrArg Prod.snd hC1
  clear hC hC1
  subst hC2
  subst hC3
  have hWa := F.2.2.2.2.2.2.2.1
  have hs9 : sh (sN M c 0 N) (zN M) = c := u1_same _ _ _
  have hfs : ∀ j, j < N → defaultValue (ty j) = vp_V (fvs ad (sN M c 0 N) (zN M) c) j := by
    intro j hj
    obtain ⟨kd, r1, r2⟩ := q5 j hj
    have r3 : (fvs ad (sN M c 0 N) (zN M) c).getD j .null = fv ad (sN M c 0 N) (zN M) j kd := by rw [List.getD_eq_getElem?_getD, fvs_at r1]; rfl
    show _ = (fvs ad (sN M c 0 N) (zN M) c).getD j .null
    rw [r3]
    have e3 : mi (sN M c 0 N) (zN M) = fun _ => 0 := u1_same _ _ _
    have e4 : ml (sN M c 0 N) (zN M) = fun _ => 0 := u1_same _ _ _
    have e5 : mr (sN M c 0 N) (zN M) = fun _ => none := u1_same _ _ _
    unfold fv
    unfold kdT at r2
    split at r2
    · rw [r2, e3]; rfl
    · rw [r2, e4]; rfl
    · rename_i h0 h1
      split
      · exact absurd rfl h0
      · exact absurd rfl h1
      · rw [e5]
        cases hty : ty j <;> first | rfl | (rw [hty] at r2; cases r2)
  refine va_new (ci := c) (fs := fvs ad (sN M c 0 N) (zN M) c) (Ts := u_ws C' T N) F.1 F.2.1 (gws G hWa q2.1 args) (fun w h => h) ty q2.2.1 F.2.2.2.2.1 (gwm G hWa hL rfl args) (gwm G hWa q6 rfl args) (gwm G hWa q7 w_ini args) (gK G hWa) hW.2 (gD G hW.1) hS (fun q hq => Nat.le_trans F.2.2.2.2.2.2.2.2.2.1 hq) q1 hfs (by omega) (by omega) hd (fun q H1 hP hD hS1 T0 hT X => ?_)
  have hsz : H1.size ≤ s0.heap.size + zN M + 1 := by
    have h9 := X.heapSize
    rw [hT] at h9
    have := g1.2 hx0
    have : zC M = zN M := by unfold zC; omega
    omega
  have hq := new_at G (by omega) hsz hP hD
  subst hq
  rw [pool_new (M1 := sN M c 0 N) rfl (ent_obj hs9 q3) (fun j hj => sN_off hj)] at hP
  rw [show zC M - k0 + 1 = zC (sN M c 0 N) - k0 by omega, show zS M - z0 + N = zS (sN M c 0 N) - z0 by omega] at X
  exact k F ⟨by show zN M + 1 ≤ 100000; omega, hP⟩ hl hn hS1 hR ⟨by omega, g1.2⟩ (by omega) kr kx T0 hT X
/-- new arrays of kinds 11, 12, 13 -/
def atK (at9 : ArrayType) : Nat := match at9 with | .byte => 11 | .int => 12 | .long => 13 | _ => 99
theorem r_newarr (G : GG l s0 b L xs D cy ad) {at9 : ArrayType} {n : Int32} {N k : Nat} (hk : atK at9 = k) (hk9 : k ≠ 99) (hL : Cond.arrayClass (newarray.typeOf at9) ∈ lw_tbl) (hn0 : ¬ n < 0) (hN : n.toNatClampNeg = N) (hN9 : N ≤ 60000) (hx0 : zX M = 0) (hn9 : zN M < 99999) (hd : decode I.2.1 pc = .ok (.newarray at9, 2)) (k9 : Run l s0 D cy ad d I (pc + 2) lo (.ref (zN M) :: st) (sN M k N N) res M') : Run l s0 D cy ad d I pc lo (.int n :: st) M res M' := by
  obtain ⟨hm, k9⟩ := k9
  have c1 : zC (sN M k N N) = zC M + 1 := by show (zN M + 1) + zX M = (zN M + zX M) + 1; omega
  have c2 : zS (sN M k N N) = zS M + N := rfl
  refine ⟨⟨by omega, by omega, fun _ => hx0⟩, ?_⟩
  intro p e R s m args below meth c0 H locs ls k0 z0 Q F hW hl hn hS hR g1 g2 kr kx
  have hWa := F.2.2.2.2.2.2.2.1
  have hs9 : sh (sN M k N N) (zN M) = k := u1_same _ _ _
  have e2 : ln (sN M k N N) (zN M) = N := u1_same _ _ _
  have e3 : mi (sN M k N N) (zN M) = fun _ => 0 := u1_same _ _ _
  have e4 : ml (sN M k N N) (zN M) = fun _ => 0 := u1_same _ _ _
  have go : ∀ (a0 : vp_A) (ty : FieldType) (t0 : Nat), newarray.typeOf at9 = ty → (tyA cy)[t0]? = some (cy k, ty) → (∀ cA : ClassId, vp_cell cA a0 = arrV cA N (fun _ => defaultValue ty)) → (∀ cA dA : ClassId, va_RA s cA ty → va_RA s dA ty → cA = dA) → N * componentBytes ty ≤ 536870912 → ent cy ad (sN M k N N) (zN M) = .inl (cy k, a0) →
      W p l e R s m args below meth c0 H locs (zC M - k0) (zS M - z0) Q (F0 m pc ls (.int n :: st.map (gv ad))) := by
    intro a0 ty t0 hty ht0 ha huq hby he
    refine va_newa F.1 F.2.1 (gwm G hWa hL rfl args) hty (gK G hWa) hW.2 (gD G hW.1) hS (fun q hq => Nat.le_trans F.2.2.2.2.2.2.2.2.2.1 hq) ha hn0 hN hby (by omega) (by omega) hd (fun q cA H1 hK hP hD hS1 T0 hT X => ?_)
    have hcA : cA = cy k := by
      have h1 : (tyA cy ++ [(cA, ty)])[4]? = some (cA, ty) := rfl
      have h2 := (hK.2 4 _ h1).2
      have h3 := ((gK G hWa).2 t0 _ ht0).2
      exact huq _ _ h2 h3
    subst hcA
    have hsz : H1.size ≤ s0.heap.size + zN M + 1 := by
      have h9 := X.heapSize
      rw [hT] at h9
      have := g1.2 hx0
      have : zC M = zN M := by unfold zC; omega
      omega
    have hq := new_at G (by omega) hsz hP hD
    subst hq
    rw [pool_new (M1 := sN M k N N) rfl he (fun j hj => sN_off hj)] at hP
    rw [show zC M - k0 + 1 = zC (sN M k N N) - k0 by omega, show zS M - z0 + N = zS (sN M k N N) - z0 by omega] at X
    exact k9 F ⟨by show zN M + 1 ≤ 100000; omega, hP⟩ hl hn hS1 hR ⟨by omega, g1.2⟩ (by omega) kr kx T0 hT X
  have uq : ∀ t : FieldType, (∀ C, t ≠ .object C) → ∀ cA dA : ClassId, va_RA s cA t → va_RA s dA t → cA = dA := by
    intro t ht cA dA h1 h2
    cases t <;> first | exact Option.some.inj (Eq.trans (Eq.symm h1) h2) | exact absurd rfl (ht _)
  cases at9 <;> first | (exact absurd hk.symm hk9) | skip
  all_goals subst hk
  · exact go (N, .inl (fun _ => 0)) .byte 0 rfl rfl (fun cA => rfl) (uq .byte (fun C h => by cases h)) (by show N * 1 ≤ _; omega) (by rw [ent_b hs9, e2, e3]; rfl)
  · exact go (N, .inl (fun _ => 0)) .int 1 rfl rfl (fun cA => rfl) (uq .int (fun C h => by cases h)) (by show N * 4 ≤ _; omega) (by rw [ent_i hs9, e2, e3]; rfl)
  · exact go (N, .inr (.inl (fun _ => 0))) .long 2 rfl rfl (fun cA => rfl) (uq .long (fun C h => by cases h)) (by show N * 8 ≤ _; omega) (by rw [ent_l hs9, e2, e4]; rfl)
end RN
