/-! the texts: length, charAt of the claim's constants, by the JDK's own code -/
section NX
variable {l : Launch} {s0 : State} {b L : Nat} {xs : Nat → Int32} {D : va_G} {cy : Nat → ClassId} {ad : Nat → Nat} {d : Nat} {I : MI} {pc : Nat} {lo st : List Value} {M M' : Mm} {res : Rs}
theorem str_at {s : State} {p : Program} {m : MethodId} {meth : Method} {c : Code} (G : GG l s0 b L xs D cy ad) (F : Fx s0 I p s m meth c) : vk_S 6 strL strB (fun i => ad (100001 + i)) (fun i => ad (100011 + i)) (AF s0) s s.heap :=
  (vk_S.moved F.2.2.2.2.2.2.2.1.alike G.2.2.2.2.2.2.2.2.2.2.1).kept (fun a ha _ => F.2.2.2.2.2.2.2.2.1 a ha)
theorem z_at {s : State} {p : Program} {m : MethodId} {meth : Method} {c : Code} (F : Fx s0 I p s m meth c) {C n dd : String} {v : Value} (h : va_Z C n dd v (AF s0) s0 s0.heap) : va_Z C n dd v (AF s0) s s.heap := (va_Z.moved F.2.2.2.2.2.2.2.1.alike h).kept (fun a ha _ => F.2.2.2.2.2.2.2.2.1 a ha)
theorem r_xcoder (G : GG l s0 b L xs D cy ad) {idx i : Nat} (hi : i < 6) (hL : Cond.fieldLink I.1.cls idx "java/lang/String" "coder" "B" ∈ lw_tbl) (hd : decode I.2.1 pc = .ok (.getfield idx, 3)) (k : Run l s0 D cy ad d I (pc + 3) lo (.int 0 :: st) M res M') : Run l s0 D cy ad d I pc lo (.ref (100001 + i) :: st) M res M' := by
  obtain ⟨hm, k⟩ := k
  refine ⟨hm, ?_⟩
  intro p e R s m args below meth c0 H locs ls k0 z0 Q F hW hl hn hS hR h1 h2 kr kx
  have hWa := F.2.2.2.2.2.2.2.1
  exact vk_getf F.1 F.2.1 ((str_at G F).1 i hi).2.1 hS F.2.2.2.2.1 (gwm G hWa hL rfl args) (fun x h => h) hd (k F hW hl hn hS hR h1 h2 kr kx)
theorem r_xvalue (G : GG l s0 b L xs D cy ad) {idx i : Nat} (hi : i < 6) (hL : Cond.fieldLink I.1.cls idx "java/lang/String" "value" "[B" ∈ lw_tbl) (hd : decode I.2.1 pc = .ok (.getfield idx, 3)) (k : Run l s0 D cy ad d I (pc + 3) lo (.ref (100011 + i) :: st) M res M') : Run l s0 D cy ad d I pc lo (.ref (100001 + i) :: st) M res M' := by
  obtain ⟨hm, k⟩ := k
  refine ⟨hm, ?_⟩
  intro p e R s m args below meth c0 H locs ls k0 z0 Q F hW hl hn hS hR h1 h2 kr kx
  have hWa := F.2.2.2.2.2.2.2.1
  exact vk_getf F.1 F.2.1 ((str_at G F).1 i hi).2.2.1 hS F.2.2.2.2.1 (gwm G hWa hL rfl args) (fun x h => h) hd (k F hW hl hn hS hR h1 h2 kr kx)
theorem r_xlen (G : GG l s0 b L xs D cy ad) {i : Nat} (hi : i < 6) (hd : decode I.2.1 pc = .ok (.arraylength, 1)) (k : Run l s0 D cy ad d I (pc + 1) lo (.int (Int32.ofNat (strL.getD i 0)) :: st) M res M') : Run l s0 D cy ad d I pc lo (.ref (100011 + i) :: st) M res M' := by
  obtain ⟨hm, k⟩ := k
  refine ⟨hm, ?_⟩
  intro p e R s m args below meth c0 H locs ls k0 z0 Q F hW hl hn hS hR h1 h2 kr kx
  have hWa := F.2.2.2.2.2.2.2.1
  obtain ⟨cell, g1, g2, g3, g4, g5, g6, g7⟩ := ((str_at G F).1 i hi).2.2.2
  exact W.alen F.1 F.2.1 (by rw [hS.2.1 _ (Array.getElem?_eq_some_iff.mp g1).1 g7]; exact g1) g2 g5 rfl rfl hd (k F hW hl hn hS hR h1 h2 kr kx)
theorem r_xbald (G : GG l s0 b L xs D cy ad) {i : Nat} {j : Int32} (hi : i < 6) (hin : vp_in j (strL.getD i 0)) (hd : decode I.2.1 pc = .ok (.baload, 1)) (k : Run l s0 D cy ad d I (pc + 1) lo (.int ((strB.getD i []).getD j.toNatClampNeg 0) :: st) M res M') : Run l s0 D cy ad d I pc lo (.int j :: .ref (100011 + i) :: st) M res M' := by
  obtain ⟨hm, k⟩ := k
  refine ⟨hm, ?_⟩
  intro p e R s m args below meth c0 H locs ls k0 z0 Q F hW hl hn hS hR h1 h2 kr kx
  have hWa := F.2.2.2.2.2.2.2.1
  exact va_tb F.1 F.2.1 ((str_at G F).1 i hi).2.2.2 hS hin rfl hd (k F hW hl hn hS hR h1 h2 kr kx)
theorem r_compact (G : GG l s0 b L xs D cy ad) {idx : Nat} (hL : Cond.fieldLink I.1.cls idx "java/lang/String" "COMPACT_STRINGS" "Z" ∈ lw_tbl) (hd : decode I.2.1 pc = .ok (.getstatic idx, 3)) (k : Run l s0 D cy ad d I (pc + 3) lo (.int 1 :: st) M res M') : Run l s0 D cy ad d I pc lo st M res M' := by
  obtain ⟨hm, k⟩ := k
  refine ⟨hm, ?_⟩
  intro p e R s m args below meth c0 H locs ls k0 z0 Q F hW hl hn hS hR h1 h2 kr kx
  have hWa := F.2.2.2.2.2.2.2.1
  exact va_gets F.1 F.2.1 (z_at F G.2.2.2.2.2.2.2.2.2.2.2.1) hS F.2.2.2.2.1 (gwm G hWa hL rfl args) (fun x h => h) hd (k F hW hl hn hS hR h1 h2 kr kx)
theorem r_formatter (G : GG l s0 b L xs D cy ad) {idx : Nat} (hL : Cond.fieldLink I.1.cls idx "jdk/internal/util/Preconditions" "SIOOBE_FORMATTER" "Ljava/util/function/BiFunction;" ∈ lw_tbl) (hd : decode I.2.1 pc = .ok (.getstatic idx, 3)) (k : ∀ v : Value, (v = .null ∨ v = .ref 100020) → Run l s0 D cy ad d I (pc + 3) lo (v :: st) M res M') : Run l s0 D cy ad d I pc lo st M res M' := by
  obtain ⟨v, hv, hz⟩ := G.2.2.2.2.2.2.2.2.2.2.2.2.1
  have k := k v hv
  obtain ⟨hm, k⟩ := k
  refine ⟨hm, ?_⟩
  intro p e R s m args below meth c0 H locs ls k0 z0 Q F hW hl hn hS hR h1 h2 kr kx
  have hWa := F.2.2.2.2.2.2.2.1
  exact va_gets F.1 F.2.1 (z_at F hz) hS F.2.2.2.2.1 (gwm G hWa hL rfl args) (fun x h => h) hd (k F hW hl hn hS hR h1 h2 kr kx)
theorem r_i2c {x v : Int32} (hv : (x.toUInt32 % 65536).toInt32 = v) (hd : decode I.2.1 pc = .ok (.i2c, 1)) (k : Run l s0 D cy ad d I (pc + 1) lo (.int v :: st) M res M') : Run l s0 D cy ad d I pc lo (.int x :: st) M res M' := by
  obtain ⟨hm, k⟩ := k
  refine ⟨hm, ?_⟩
  intro p e R s m args below meth c0 H locs ls k0 z0 Q F hW hl hn hS hR h1 h2 kr kx
  exact lv_i2c F.1 F.2.1 hd hv (k F hW hl hn hS hR h1 h2 kr kx)
theorem v_VX (G : GG l s0 b L xs D cy ad) {y : MethodName} {cc : ByteArray} {maxL : Nat} {ret : Option FieldType} {d' n idx : Nat} {i : Nat} {as : List Value} {r1 : Rs} {M1 : Mm} (hc : Cal l s0 D cy ad d' (y, cc, maxL, ret, []) (.ref (100001 + i) :: as) M r1 M1) (hd' : d' < d) (hK : mF (y, cc, maxL, ret, []) n ∧ Cond.instanceMethod y ∈ lw_tbl ∧ Cond.selects y.cls y y ∈ lw_tbl) (hyc : y.cls = "java/lang/String") (hi : i < 6) (hL : mL I.1.cls idx (y, cc, maxL, ret, [])) (ha : as.length = n) (hw8 : (st.map (fun v => v.category)).sum ≤ 8) (hd : decode I.2.1 pc = .ok (.invokevirtual idx, 3)) : VxR l s0 D cy ad d I pc (as.reverse ++ .ref (100001 + i) :: st) st M r1 M1 := by
  obtain ⟨hm, hM⟩ := hc
  refine ⟨hm, ?_⟩
  intro p e R s m args below meth c0 H locs ls k0 z0 F hW hl hS hR h1 h2
  refine ⟨((.ref (100001 + i) :: as).map (gv ad)).toArray, ?_⟩
  intro T hT X
  have hup : zX M = 0 → H.size ≤ s0.heap.size + zC M := fun hz => by have := X.heapSize; rw [hT] at this; have := h1.2 hz; omega
  have hWa := F.2.2.2.2.2.2.2.1
  obtain ⟨⟨-, k2, k3, k4, k5, k6⟩, k7, k8⟩ := hK
  dsimp only at k2 k3 k4 k5 k6 k7
  have hB := pcB (as := (.ref (100001 + i) :: as).map (gv ad)) (k0 := k0) G hW hWa F.2.2.2.2.2.2.2.2.1 F.2.2.2.2.2.2.2.2.2.1 hS hup
  have hM' : vx_Met l y [Cond.code y cc maxL ret] (rmK d' (zC M1 - zC M) (zS M1 - zS M)) (va_Pc ((.ref (100001 + i) :: as).map (gv ad)) (fun U => Wc s0 D cy ad U M)) (QC s0 D cy ad r1 M1) (XC s0 D cy ad r1 M1) (zC M1 - zC M) (zS M1 - zS M) (AF s0) := hM
  have hS' : CallFix p m c0 I.2.1 I.2.2.1 s args [] I.1.cls := ⟨F.1, F.2.1, F.2.2.1, F.2.2.2.2.1, fun w h => nomatch h⟩
  have hfr : (rmK d' (zC M1 - zC M) (zS M1 - zS M)).frames + 1 ≤ R.frames := by show d' + 1 ≤ R.frames; omega
  have hlo : 8 + (maxL + 11) + (rmK d' (zC M1 - zC M) (zS M1 - zS M)).locals ≤ R.locals := by show 8 + (maxL + 11) + (100 * d' + 100) ≤ R.locals; omega
  have hws : ∀ w ∈ [Cond.code y cc maxL ret], ∀ (a' : Array Value) (U : State), s.WarmedH U.vm → w.before a' U = true := by
    intro w hw a' U hWU
    rw [List.mem_singleton] at hw
    subst hw
    exact gwm G (State.WarmedH.trans hWa hWU) k2 w_code a'
  have hlen : ∀ sig, parseMethodDescriptor y.desc = some sig → n = sig.parameters.length := by
    intro sig h
    rw [h] at k5
    exact (Option.some.inj k5).symm
  have hcb : CallB R s args I.1.cls idx y cc maxL ret [Cond.code y cc maxL ret] (rmK d' (zC M1 - zC M) (zS M1 - zS M)) (zC M1 - zC M) (zS M1 - zS M) n :=
    ⟨rfl, rfl, hfr, hlo, hws, List.mem_cons_self, gwm G hWa k2 w_code args, gwm G hWa k3 w_ini args, k4, hlen, gwm G hWa hL w_link args⟩
  have hlm : (as.map (gv ad)).length = n := by rw [List.length_map]; exact ha
  have hstk : (F0 m pc ls ((as.reverse ++ .ref (100001 + i) :: st).map (gv ad))).stack = (as.map (gv ad)).reverse ++ .ref (ad (100001 + i)) :: st.map (gv ad) := by
    show (as.reverse ++ .ref (100001 + i) :: st).map (gv ad) = _
    rw [List.map_append, List.map_reverse]
    rfl
  have hw9 : 2 * (F0 m pc ls ((as.reverse ++ .ref (100001 + i) :: st).map (gv ad))).monitorRoom + ((st.map (gv ad)).map (fun v => v.category)).sum ≤ 8 := by
    refine lv_room ?_
    rw [List.map_map]
    have : ((fun v : Value => v.category) ∘ gv ad) = fun v => v.category := by funext v; exact gv_cat v
    rw [this]; exact hw8
  have hrv := vk_recv (str_at G F) hi hS
  rw [← hyc] at hrv
  exact vx_runV hS' hM' ⟨hcb, gwm G hWa k7 w_inst args, gwm G hWa k8 w_sel args⟩ ⟨hB.1, hrv, hB.2⟩ rfl hlm hl hstk hw9 hd ⟨by omega, by omega⟩ T hT X
end NX

def sln (i : Nat) : Int32 := Int32.ofNat (strL.getD i 0)
def sch (i : Nat) (k : Int32) : Option Int32 := if k < 0 ∨ strL.getD i 0 ≤ k.toNatClampNeg then none else some ((strB.getD i []).getD k.toNatClampNeg 0)
theorem str_val : ∀ i < 6, ∀ j < strL.getD i 0, (((strB.getD i []).getD j 0 &&& 255).toUInt32 % 65536).toInt32 = (strB.getD i []).getD j 0 ∧ narrow .char (.int ((strB.getD i []).getD j 0)) = .int ((strB.getD i []).getD j 0) := by decide +kernel
theorem str_len : ∀ i < 6, (Int32.ofNat (strL.getD i 0)) >>> ((0 : Int32) &&& 31) = Int32.ofNat (strL.getD i 0) ∧ (Int32.ofNat (strL.getD i 0)).toInt = (strL.getD i 0 : Int) := by decide +kernel
section NX2
variable {l : Launch} {s0 : State} {b L : Nat} {xs : Nat → Int32} {D : va_G} {cy : Nat → ClassId} {ad : Nat → Nat} {d : Nat} {I : MI} {pc : Nat} {lo st : List Value} {M M' : Mm} {res : Rs}
theorem c_coder (G : GG l s0 b L xs D cy ad) {i : Nat} (hi : i < 6) : Cal l s0 D cy ad d KJ0_coder_7d493 [.ref (100001 + i)] M (.inl (some (.int 0))) M := by
  refine cal_of (by decide +kernel) (noD_in _ rfl) (Nat.le_of_ble_eq_true rfl) ⟨_, rfl, rfl⟩ ?_
  show Run l s0 D cy ad d KJ0_coder_7d493 0 [.ref (100001 + i)] [] M _ M
  refine r_compact G (idx := 38) (tin3 (List.mem_of_getElem? (i := 208) rfl)) (by decide +kernel) ?_
  refine r_if_eq (off := 10) (tgt := 13) (by decide +kernel) (by decide) (fun h => absurd h (by decide)) (fun _ => ?_)
  refine r_aload_n (n := 0) (by decide +kernel) rfl ?_
  refine r_xcoder G (idx := 15) hi (tin9 (List.mem_of_getElem? (i := 86) rfl)) (by decide +kernel) ?_
  refine r_goto (off := 4) (tgt := 14) (by decide +kernel) (by decide) ?_
  exact r_ireturn (by decide +kernel)
theorem c_isLatin1 (G : GG l s0 b L xs D cy ad) {i : Nat} (hi : i < 6) : Cal l s0 D cy ad d KJ0_isLatin1_aae02 [.ref (100001 + i)] M (.inl (some (.int 1))) M := by
  refine cal_of (by decide +kernel) (noD_in _ rfl) (Nat.le_of_ble_eq_true rfl) ⟨_, rfl, rfl⟩ ?_
  show Run l s0 D cy ad d KJ0_isLatin1_aae02 0 [.ref (100001 + i)] [] M _ M
  refine r_compact G (idx := 38) (tin3 (List.mem_of_getElem? (i := 208) rfl)) (by decide +kernel) ?_
  refine r_if_eq (off := 14) (tgt := 17) (by decide +kernel) (by decide) (fun h => absurd h (by decide)) (fun _ => ?_)
  refine r_aload_n (n := 0) (by decide +kernel) rfl ?_
  refine r_xcoder G (idx := 15) hi (tin9 (List.mem_of_getElem? (i := 86) rfl)) (by decide +kernel) ?_
  refine r_if_ne (off := 7) (tgt := 17) (by decide +kernel) (by decide) (fun h => absurd rfl h) (fun _ => ?_)
  refine r_iconst (n := 1) (v := 1) (by decide) (by decide +kernel) ?_
  refine r_goto (off := 4) (tgt := 18) (by decide +kernel) (by decide) ?_
  exact r_ireturn (by decide +kernel)
theorem c_length (G : GG l s0 b L xs D cy ad) {i : Nat} (hi : i < 6) (h1 : 1 ≤ d) : Cal l s0 D cy ad d KJ0_length_8abf5 [.ref (100001 + i)] M (.inl (some (.int (sln i)))) M := by
  refine cal_of (by decide +kernel) (noD_in _ rfl) (Nat.le_of_ble_eq_true rfl) ⟨_, rfl, rfl⟩ ?_
  show Run l s0 D cy ad d KJ0_length_8abf5 0 [.ref (100001 + i)] [] M _ M
  refine r_aload_n (n := 0) (by decide +kernel) rfl ?_
  refine r_xvalue G (idx := 9) hi (tin9 (List.mem_of_getElem? (i := 85) rfl)) (by decide +kernel) ?_
  refine r_xlen G hi (by decide +kernel) ?_
  refine r_aload_n (n := 0) (by decide +kernel) rfl ?_
  refine r_ret_of (v_VX (as := []) G (c_coder (d := 0) G hi) (by omega) mJ0_coder_7d493 rfl hi ml_RJ0_335 rfl (Nat.le_of_ble_eq_true rfl) (by decide +kernel)) ?_
  refine r_ishr (by decide +kernel) ?_
  show Run l s0 D cy ad d KJ0_length_8abf5 10 _ [.int ((Int32.ofNat (strL.getD i 0)) >>> ((0 : Int32) &&& 31))] M _ M
  rw [(str_len i hi).1]
  exact r_ireturn (by decide +kernel)
theorem c_pcheck {j n : Int32} {v : Value} (h1 : 0 ≤ j) (h2 : j < n) (hv : ∀ z, v ≠ .double z) (hv2 : ∀ z, v ≠ .long z) : Cal l s0 D cy ad d KJ3_checkIndex_8e157 [.int j, .int n, v] M (.inl (some (.int j))) M := by
  have hen : entL [.int j, .int n, v] = [.int j, .int n, v] := by
    cases v <;> first | rfl | exact absurd rfl (hv2 _) | exact absurd rfl (hv _)
  refine cal_of (by decide +kernel) (fun x hx z => ?_) (by rw [hen]; exact Nat.le_refl _) ⟨_, rfl, rfl⟩ ?_
  · intro h
    subst h
    simp only [List.mem_cons, List.not_mem_nil, or_false, reduceCtorEq, false_or] at hx
    exact hv z hx.symm
  have he : entLo [.int j, .int n, v] 3 = [.int j, .int n, v] := by unfold entLo; rw [hen]; rfl
  show Run l s0 D cy ad d KJ3_checkIndex_8e157 0 (entLo [.int j, .int n, v] 3) [] M _ M
  rw [he]
  refine r_iload_n (n := 0) (by decide +kernel) rfl ?_
  refine r_if_lt (off := 8) (tgt := 9) (by decide +kernel) (by decide) (fun h => absurd h (Int32.not_lt.mpr h1)) (fun _ => ?_)
  refine r_iload_n (n := 0) (by decide +kernel) rfl ?_
  refine r_iload_n (n := 1) (by decide +kernel) rfl ?_
  refine r_icmp_lt (off := 10) (tgt := 16) (by decide +kernel) (by decide) (fun _ => ?_) (fun h => absurd h2 h)
  refine r_iload_n (n := 0) (by decide +kernel) rfl ?_
  exact r_ireturn (by decide +kernel)
theorem c_scheck (G : GG l s0 b L xs D cy ad) {j n : Int32} (h1 : 0 ≤ j) (h2 : j < n) (hd1 : 1 ≤ d) : Cal l s0 D cy ad d KJ0_checkIndex_df160 [.int j, .int n] M (.inl none) M := by
  refine cal_of (by decide +kernel) (noD_in _ rfl) (Nat.le_of_ble_eq_true rfl) rfl ?_
  show Run l s0 D cy ad d KJ0_checkIndex_df160 0 [.int j, .int n] [] M _ M
  refine r_iload_n (n := 0) (by decide +kernel) rfl ?_
  refine r_iload_n (n := 1) (by decide +kernel) rfl ?_
  refine r_formatter G (idx := 1053) (tin3 (List.mem_of_getElem? (i := 224) rfl)) (by decide +kernel) (fun v hv => ?_)
  refine r_ret_of (v_S (as := [.int j, .int n, v]) (st := []) G (c_pcheck (d := 0) h1 h2 (by rcases hv with h | h <;> subst h <;> exact fun z h => nomatch h) (by rcases hv with h | h <;> subst h <;> exact fun z h => nomatch h)) (by omega) mJ3_checkIndex_8e157 ml_RJ0_1059 rfl (Nat.le_of_ble_eq_true rfl) (by decide +kernel)) ?_
  refine r_pop rfl (by decide +kernel) ?_
  exact r_return (by decide +kernel)
theorem c_lcharAt (G : GG l s0 b L xs D cy ad) {i : Nat} {j : Int32} (hi : i < 6) (h1 : 0 ≤ j) (h2 : j < Int32.ofNat (strL.getD i 0)) (hin : vp_in j (strL.getD i 0)) (hk : j.toNatClampNeg < strL.getD i 0) (hd1 : 2 ≤ d) : Cal l s0 D cy ad d KJ1_charAt_3b067 [.ref (100011 + i), .int j] M (.inl (some (.int ((strB.getD i []).getD j.toNatClampNeg 0)))) M := by
  refine cal_of (by decide +kernel) (noD_in _ rfl) (Nat.le_of_ble_eq_true rfl) ⟨_, rfl, (str_val i hi _ hk).2⟩ ?_
  show Run l s0 D cy ad d KJ1_charAt_3b067 0 [.ref (100011 + i), .int j] [] M _ M
  refine r_iload_n (n := 1) (by decide +kernel) rfl ?_
  refine r_aload_n (n := 0) (by decide +kernel) rfl ?_
  refine r_xlen G hi (by decide +kernel) ?_
  refine r_ret_of (v_S (as := [.int j, .int _]) (st := []) G (c_scheck (d := 1) G h1 h2 (Nat.le_refl 1)) (by omega) mJ0_checkIndex_df160 ml_RJ1_9 rfl (Nat.le_of_ble_eq_true rfl) (by decide +kernel)) ?_
  refine r_aload_n (n := 0) (by decide +kernel) rfl ?_
  refine r_iload_n (n := 1) (by decide +kernel) rfl ?_
  refine r_xbald G hi hin (by decide +kernel) ?_
  refine r_sipush (n := 255) (v := 255) (by decide) (by decide +kernel) ?_
  refine r_iand (by decide +kernel) ?_
  refine r_i2c (str_val i hi _ hk).1 (by decide +kernel) ?_
  exact r_ireturn (by decide +kernel)
theorem c_charAt (G : GG l s0 b L xs D cy ad) {i : Nat} {j v : Int32} (hi : i < 6) (h : sch i j = some v) (hd1 : 3 ≤ d) : Cal l s0 D cy ad d KJ0_charAt_5068e [.ref (100001 + i), .int j] M (.inl (some (.int v))) M := by
  unfold sch at h
  by_cases hc : j < 0 ∨ strL.getD i 0 ≤ j.toNatClampNeg
  · rw [if_pos hc] at h; cases h
  rw [if_neg hc] at h
  cases h
  have h1 : 0 ≤ j := Int32.not_lt.mp (fun h => hc (Or.inl h))
  have hk : j.toNatClampNeg < strL.getD i 0 := Nat.lt_of_not_le (fun h => hc (Or.inr h))
  have hj0 : 0 ≤ j.toInt := by have := Int32.le_iff_toInt_le.mp h1; simpa using this
  have hjn : j.toInt < (strL.getD i 0 : Int) := by have : j.toInt = (j.toNatClampNeg : Int) := (Int.toNat_of_nonneg hj0).symm
                                                   omega
  have h2 : j < Int32.ofNat (strL.getD i 0) := Int32.lt_iff_toInt_lt.mpr (by rw [(str_len i hi).2]; exact hjn)
  refine cal_of (by decide +kernel) (noD_in _ rfl) (Nat.le_of_ble_eq_true rfl) ⟨_, rfl, (str_val i hi _ hk).2⟩ ?_
  show Run l s0 D cy ad d KJ0_charAt_5068e 0 [.ref (100001 + i), .int j] [] M _ M
  refine r_aload_n (n := 0) (by decide +kernel) rfl ?_
  refine r_ret_of (v_VX (as := []) (st := []) G (c_isLatin1 (d := 0) G hi) (by omega) mJ0_isLatin1_aae02 rfl hi ml_RJ0_492 rfl (Nat.le_of_ble_eq_true rfl) (by decide +kernel)) ?_
  refine r_if_eq (off := 12) (tgt := 16) (by decide +kernel) (by decide) (fun h => absurd h (by decide)) (fun _ => ?_)
  refine r_aload_n (n := 0) (by decide +kernel) rfl ?_
  refine r_xvalue G (idx := 9) hi (tin9 (List.mem_of_getElem? (i := 85) rfl)) (by decide +kernel) ?_
  refine r_iload_n (n := 1) (by decide +kernel) rfl ?_
  refine r_ret_of (v_S (as := [.ref (100011 + i), .int j]) (st := []) G (c_lcharAt (d := 2) G hi h1 h2 hc hk (Nat.le_refl 2)) (by omega) mJ1_charAt_3b067 ml_RJ0_495 rfl (Nat.le_of_ble_eq_true rfl) (by decide +kernel)) ?_
  exact r_ireturn (by decide +kernel)
variable {P : Nat → Prop}
theorem n_slenS (G : GG l s0 b L xs D cy ad) {idx i : Nat} (hi : i < 6) (hL : mL I.1.cls idx KJ0_length_8abf5) (hd8 : 8 ≤ d) (hw8 : (st.map (fun v => v.category)).sum ≤ 8) (hd : decode I.2.1 pc = .ok (.invokevirtual idx, 3)) (k : Rn l s0 D cy ad P d I (pc + 3) lo (.int (sln i) :: st) M res M') : Rn l s0 D cy ad P d I pc lo (.ref (100001 + i) :: st) M res M' := fun hY => ⟨r_ret_of (v_VX (as := []) G (c_length (d := 7) G hi (by omega)) (by omega) mJ0_length_8abf5 rfl hi hL rfl hw8 hd) (k hY).1, (k hY).2⟩
theorem n_schr (G : GG l s0 b L xs D cy ad) {idx i : Nat} {j v : Int32} (h : sch i j = some v) (hi : i < 6) (hL : mL I.1.cls idx KJ0_charAt_5068e) (hd8 : 8 ≤ d) (hw8 : (st.map (fun v => v.category)).sum ≤ 8) (hd : decode I.2.1 pc = .ok (.invokevirtual idx, 3)) (k : Rn l s0 D cy ad P d I (pc + 3) lo (.int v :: st) M res M') : Rn l s0 D cy ad P d I pc lo (.int j :: .ref (100001 + i) :: st) M res M' := fun hY => ⟨r_ret_of (v_VX (as := [.int j]) G (c_charAt (d := 7) G hi h (by omega)) (by omega) mJ0_charAt_5068e rfl hi hL rfl hw8 hd) (k hY).1, (k hY).2⟩
end NX2
