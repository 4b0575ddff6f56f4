/-! rules of fields and arrays -/
def cFt (C : String) (T : u_T) (N : Nat) (ty : Nat → FieldType) : Prop := (∀ w ∈ u_ws C T N, w ∈ lw_tbl) ∧ (∀ k, k < N → parseFieldDescriptor (T k).2.2.1 = some (ty k)) ∧ (∀ a, a < N → ∀ b, b < N → a ≠ b → (T a).2.1 ≠ (T b).2.1)
def kdT (kd : Nat) (ty : FieldType) : Prop := match kd with | 0 => ty = .int | 1 => ty = .long | _ => ty.isReference = true
/-- entry idx of the class own names field k, of kind kd, of class c -/
def fL (own : String) (idx c k kd : Nat) (fin : Bool) : Prop := ∃ (C : String) (T : u_T) (N : Nat) (ty : Nat → FieldType), clX[c]? = some (C, T, N) ∧ cFt C T N ty ∧ k < N ∧ c < 11 ∧ (fk c)[k]? = some kd ∧ (T k).1 = C ∧ (T k).2.2.2 = fin ∧ Cond.fieldLink own idx C (T k).2.1 (T k).2.2.1 ∈ lw_tbl ∧ kdT kd (ty k)
theorem good_lay (C : String) (T : u_T) (k : Nat) : goodWord (u_lay C T k) = true := by unfold u_lay; split <;> rfl
theorem gwm {l : Launch} {s0 s : State} {b L : Nat} {xs : Nat → Int32} {D : va_G} {cy : Nat → ClassId} {ad : Nat → Nat} (G : GG l s0 b L xs D cy ad) (hW : s0.WarmedH s.vm) {w : Cond} (hi : w ∈ lw_tbl) (hg : goodWord w = true) (args : Array Value) : w.before args s = true :=
  word_at hW (good_of_word hg) (G.2.1 w hi)
theorem gws {l : Launch} {s0 s : State} {b L : Nat} {xs : Nat → Int32} {D : va_G} {cy : Nat → ClassId} {ad : Nat → Nat} (G : GG l s0 b L xs D cy ad) (hW : s0.WarmedH s.vm) {C : String} {T : u_T} {N : Nat} (h : ∀ w ∈ u_ws C T N, w ∈ lw_tbl) (args : Array Value) : ∀ w ∈ u_ws C T N, w.before args s = true := by
  intro w hw
  refine gwm G hW (h w hw) ?_ args
  obtain ⟨k, -, rfl⟩ := List.mem_map.mp hw
  exact good_lay C T k
theorem ent_obj {cy : Nat → ClassId} {ad : Nat → Nat} {M : Mm} {a c : Nat} (h : sh M a = c) (hc : c < 11) : ent cy ad M a = .inr (c, fvs ad M a c) := by
  unfold ent
  rw [h]
  split <;> first | omega | rfl
theorem ent_b {cy : Nat → ClassId} {ad : Nat → Nat} {M : Mm} {a : Nat} (h : sh M a = 11) : ent cy ad M a = .inl (cy 11, ln M a, .inl (mi M a)) := by unfold ent; rw [h]; rfl
theorem ent_i {cy : Nat → ClassId} {ad : Nat → Nat} {M : Mm} {a : Nat} (h : sh M a = 12) : ent cy ad M a = .inl (cy 12, ln M a, .inl (mi M a)) := by unfold ent; rw [h]; rfl
theorem ent_l {cy : Nat → ClassId} {ad : Nat → Nat} {M : Mm} {a : Nat} (h : sh M a = 13) : ent cy ad M a = .inl (cy 13, ln M a, .inr (.inl (ml M a))) := by unfold ent; rw [h]; rfl
theorem ent_r {cy : Nat → ClassId} {ad : Nat → Nat} {M : Mm} {a : Nat} (h : sh M a = 14) : ent cy ad M a = .inl (cy 14, ln M a, .inr (.inr (.inr (.inr (fun i => (mr M a i).map ad))))) := by unfold ent; rw [h]; rfl
/-- a thing of a memory changed at one thing only -/
theorem ent_off {cy : Nat → ClassId} {ad : Nat → Nat} {M M' : Mm} {j : Nat} (h1 : sh M' = sh M) (h2 : ln M' = ln M) (h3 : mi M' j = mi M j) (h4 : ml M' j = ml M j) (h5 : mr M' j = mr M j) : ent cy ad M' j = ent cy ad M j := by
  unfold ent fvs fv
  rw [h1, h2, h3, h4, h5]
section RH
variable {l : Launch} {s0 : State} {b L : Nat} {xs : Nat → Int32} {D : va_G} {cy : Nat → ClassId} {ad : Nat → Nat} {d : Nat} {I : MI} {pc : Nat} {lo st : List Value} {M M' : Mm} {res : Rs}
theorem r_get (G : GG l s0 b L xs D cy ad) {idx a c k kd : Nat} {fin : Bool} {v : Value} (hl0 : fL I.1.cls idx c k kd fin) (ha : a < zN M) (hs : sh M a = c) (hv : fv ad M a k kd = gv ad v) (hd : decode I.2.1 pc = .ok (.getfield idx, 3)) (k9 : Run l s0 D cy ad d I (pc + 3) lo (v :: st) M res M') : Run l s0 D cy ad d I pc lo (.ref a :: st) M res M' := by
  obtain ⟨hm, k9⟩ := k9
  refine ⟨hm, ?_⟩
  intro p e R s m args below meth c0 H locs ls k0 z0 Q F hW hl hn hS hR h1 h2 kr kx
  obtain ⟨C, T, N, ty, g1, g2, g3, g4, g5, g6, g7, g8, g9⟩ := hl0
  have hWa := F.2.2.2.2.2.2.2.1
  refine va_get (Ts := u_ws C T N) (ref := C) F.1 F.2.1 (gws G hWa g2.1 args) (fun w h => h) F.2.2.2.2.1 (gK G hWa) hW.2 a (pool_at ha |>.trans (by rw [ent_obj hs g4])) g1 k g3 (gwm G hWa g8 rfl args) (fun x h => by rw [g6] at h; exact h) (v := gv ad v) ?_ hd (k9 F hW hl hn hS hR h1 h2 kr kx)
  rw [fvs_at g5, hv]
theorem r_getI (G : GG l s0 b L xs D cy ad) {idx a c k : Nat} {fin : Bool} (hl0 : fL I.1.cls idx c k 0 fin) (ha : a < zN M) (hs : sh M a = c) (hd : decode I.2.1 pc = .ok (.getfield idx, 3)) (k9 : Run l s0 D cy ad d I (pc + 3) lo (.int (mi M a k) :: st) M res M') : Run l s0 D cy ad d I pc lo (.ref a :: st) M res M' := r_get G hl0 ha hs rfl hd k9
theorem r_getL (G : GG l s0 b L xs D cy ad) {idx a c k : Nat} {fin : Bool} (hl0 : fL I.1.cls idx c k 1 fin) (ha : a < zN M) (hs : sh M a = c) (hd : decode I.2.1 pc = .ok (.getfield idx, 3)) (k9 : Run l s0 D cy ad d I (pc + 3) lo (.long (ml M a k) :: st) M res M') : Run l s0 D cy ad d I pc lo (.ref a :: st) M res M' := r_get G hl0 ha hs rfl hd k9
theorem r_getR (G : GG l s0 b L xs D cy ad) {idx a c k q : Nat} {fin : Bool} (hl0 : fL I.1.cls idx c k 2 fin) (ha : a < zN M) (hs : sh M a = c) (hq : mr M a k = some q) (hd : decode I.2.1 pc = .ok (.getfield idx, 3)) (k9 : Run l s0 D cy ad d I (pc + 3) lo (.ref q :: st) M res M') : Run l s0 D cy ad d I pc lo (.ref a :: st) M res M' := r_get G hl0 ha hs (by show va_rf ((mr M a k).map ad) = _; rw [hq]; rfl) hd k9
theorem r_put (G : GG l s0 b L xs D cy ad) {idx a c k kd : Nat} {fin : Bool} {v : Value} {M1 : Mm} (hl0 : fL I.1.cls idx c k kd fin) (hf : fin = true → I.1.name = "<init>" ∧ clX[c]?.map (fun q => q.1) = some I.1.cls) (ha : a < zN M) (hs : sh M a = c)
    (hv : ∀ ty : FieldType, kdT kd ty → narrow ty (gv ad v) = gv ad v ∧ fits ty (gv ad v) = true) (hn1 : zN M1 = zN M) (hx1 : zX M1 = zX M) (hs1 : zS M1 = zS M) (hsh : sh M1 = sh M) (hset : fv ad M1 a k kd = gv ad v) (hoth : ∀ j kd', j ≠ k → fv ad M1 a j kd' = fv ad M a j kd') (hoff : ∀ j, j ≠ a → ent cy ad M1 j = ent cy ad M j)
    (hd : decode I.2.1 pc = .ok (.putfield idx, 3)) (k9 : Run l s0 D cy ad d I (pc + 3) lo st M1 res M') : Run l s0 D cy ad d I pc lo (v :: .ref a :: st) M res M' := by
  have hc1 : zC M1 = zC M := by unfold zC; rw [hn1, hx1]
  obtain ⟨hm, k9⟩ := k9
  refine ⟨by rw [← hc1, ← hs1, ← hx1]; exact hm, ?_⟩
  intro p e R s m args below meth c0 H locs ls k0 z0 Q F hW hl hn hS hR h1 h2 kr kx
  obtain ⟨C, T, N, ty, g1, g2, g3, g4, g5, g6, g7, g8, g9⟩ := hl0
  have hWa := F.2.2.2.2.2.2.2.1
  have hset2 : (pool cy ad M).set a (ad a, .inr (c, (fvs ad M a c).set k (gv ad v))) = pool cy ad M1 := by
    refine pool_set hn1 ?_ hoff
    rw [ent_obj (M := M1) (by rw [hsh]; exact hs) g4, fvs_set g5 hset hoth]
  have hpool : (pool cy ad M)[a]? = some (ad a, .inr (c, fvs ad M a c)) := pool_at ha |>.trans (by rw [ent_obj hs g4])
  have hlen : k < (fvs ad M a c).length := by rw [fvs_len]; exact (List.getElem?_eq_some_iff.mp g5).1
  have hgo : ∀ (H1 : Heap) (locs1 : List Loc), va_P D clX ((pool cy ad M).set a (ad a, .inr (c, (fvs ad M a c).set k (gv ad v)))) H1 → va_D (AF s0) ((pool cy ad M).set a (ad a, .inr (c, (fvs ad M a c).set k (gv ad v)))) → va_S (AF s0) s.heap H1 locs1 → W p l e R s m args below meth c0 H1 locs1 (zC M - k0) (zS M - z0) Q (F0 m (pc + 3) ls (st.map (gv ad))) := by
    intro H1 locs1 q1 q2 q3
    rw [hset2] at q1
    rw [← hc1, ← hs1]
    exact k9 F ⟨by rw [hn1]; exact hW.1, q1⟩ hl hn q3 hR (by rw [hc1, hx1]; exact h1) (by rw [hs1]; exact h2) kr kx
  cases fin with
  | false => exact va_put (Ts := u_ws C T N) (ref := C) F.1 F.2.1 (gws G hWa g2.1 args) (fun w h => h) ty g2.2.1 g2.2.2 F.2.2.2.2.1 (gK G hWa) hW.2 (gD G hW.1) hS a hpool g1 k g3 (gwm G hWa g8 rfl args) (fun x h => by rw [g6] at h; exact h) g7 (g2.2.1 k g3) (hv _ g9).1 (hv _ g9).2 hlen hd hgo
  | true =>
    obtain ⟨e1, e2⟩ := hf rfl
    rw [g1] at e2
    have e3 : C = I.1.cls := Option.some.inj e2
    exact va_putF (Ts := u_ws C T N) (ref := C) F.1 F.2.1 (gws G hWa g2.1 args) (fun w h => h) ty g2.2.1 g2.2.2 F.2.2.2.2.1 (gK G hWa) hW.2 (gD G hW.1) hS a hpool g1 k g3 (gwm G hWa g8 rfl args) (fun x h => by rw [g6] at h; exact h) g7 (F.2.2.2.2.2.2.2.2.2.2.trans e1) (g6.trans e3) (g2.2.1 k g3) (hv _ g9).1 (hv _ g9).2 hlen hd hgo
theorem r_putI (G : GG l s0 b L xs D cy ad) {idx a c k : Nat} {x : Int32} (hl0 : fL I.1.cls idx c k 0 false) (ha : a < zN M) (hs : sh M a = c) (hd : decode I.2.1 pc = .ok (.putfield idx, 3)) (k9 : Run l s0 D cy ad d I (pc + 3) lo st (sI M a k x) res M') : Run l s0 D cy ad d I pc lo (.int x :: .ref a :: st) M res M' := by
  refine r_put G (M1 := sI M a k x) (v := .int x) hl0 (fun q => by cases q) ha hs (fun ty h => ?_) rfl rfl rfl rfl ?_ (fun j kd' hj => ?_) (fun j hj => ent_off rfl rfl (u2_ne hj) rfl rfl) hd k9
  · have h : ty = .int := h
    subst h
    exact ⟨rfl, rfl⟩
  · show Value.int (u2 (mi M) a k x a k) = .int x
    rw [u2_same, u1_same]
  · show fv ad (sI M a k x) a j kd' = _
    unfold fv
    have : mi (sI M a k x) a j = mi M a j := by show u2 (mi M) a k x a j = _; rw [u2_same, u1_ne hj]
    rw [this]; rfl
theorem r_putL (G : GG l s0 b L xs D cy ad) {idx a c k : Nat} {x : Int64} (hl0 : fL I.1.cls idx c k 1 false) (ha : a < zN M) (hs : sh M a = c) (hd : decode I.2.1 pc = .ok (.putfield idx, 3)) (k9 : Run l s0 D cy ad d I (pc + 3) lo st (sL M a k x) res M') : Run l s0 D cy ad d I pc lo (.long x :: .ref a :: st) M res M' := by
  refine r_put G (M1 := sL M a k x) (v := .long x) hl0 (fun q => by cases q) ha hs (fun ty h => ?_) rfl rfl rfl rfl ?_ (fun j kd' hj => ?_) (fun j hj => ent_off rfl rfl rfl (u2_ne hj) rfl) hd k9
  · have h : ty = .long := h
    subst h
    exact ⟨rfl, rfl⟩
  · show Value.long (u2 (ml M) a k x a k) = .long x
    rw [u2_same, u1_same]
  · show fv ad (sL M a k x) a j kd' = _
    unfold fv
    have : ml (sL M a k x) a j = ml M a j := by show u2 (ml M) a k x a j = _; rw [u2_same, u1_ne hj]
    rw [this]; rfl
theorem r_putR (G : GG l s0 b L xs D cy ad) {idx a c k q : Nat} {fin : Bool} (hl0 : fL I.1.cls idx c k 2 fin) (hf : fin = true → I.1.name = "<init>" ∧ clX[c]?.map (fun q => q.1) = some I.1.cls) (ha : a < zN M) (hs : sh M a = c) (hd : decode I.2.1 pc = .ok (.putfield idx, 3)) (k9 : Run l s0 D cy ad d I (pc + 3) lo st (sR M a k (some q)) res M') : Run l s0 D cy ad d I pc lo (.ref q :: .ref a :: st) M res M' := by
  refine r_put G (M1 := sR M a k (some q)) (v := .ref q) hl0 hf ha hs (fun ty h => ?_) rfl rfl rfl rfl ?_ (fun j kd' hj => ?_) (fun j hj => ent_off rfl rfl rfl rfl (u2_ne hj)) hd k9
  · have h : ty.isReference = true := h
    cases ty <;> first | exact ⟨rfl, rfl⟩ | cases h
  · show va_rf ((u2 (mr M) a k (some q) a k).map ad) = _
    rw [u2_same, u1_same]; rfl
  · show fv ad (sR M a k (some q)) a j kd' = _
    unfold fv
    have : mr (sR M a k (some q)) a j = mr M a j := by show u2 (mr M) a k (some q) a j = _; rw [u2_same, u1_ne hj]
    rw [this]; rfl

theorem r_iald (G : GG l s0 b L xs D cy ad) {a n : Nat} {i : Int32} (ha : a < zN M) (hs : sh M a = 12) (hn9 : ln M a = n) (hin : vp_in i n) (hd : decode I.2.1 pc = .ok (.iaload, 1)) (k9 : Run l s0 D cy ad d I (pc + 1) lo (.int (mi M a i.toNatClampNeg) :: st) M res M') : Run l s0 D cy ad d I pc lo (.int i :: .ref a :: st) M res M' := by
  obtain ⟨hm, k9⟩ := k9
  refine ⟨hm, ?_⟩
  intro p e R s m args below meth c0 H locs ls k0 z0 Q F hW hl hn hS hR h1 h2 kr kx
  subst hn9
  exact va_iald F.1 F.2.1 (gK G F.2.2.2.2.2.2.2.1) hW.2 a 1 (pool_at ha |>.trans (by rw [ent_i hs])) rfl hin hd (k9 F hW hl hn hS hR h1 h2 kr kx)
theorem r_bald (G : GG l s0 b L xs D cy ad) {a n : Nat} {i : Int32} (ha : a < zN M) (hs : sh M a = 11) (hn9 : ln M a = n) (hin : vp_in i n) (hd : decode I.2.1 pc = .ok (.baload, 1)) (k9 : Run l s0 D cy ad d I (pc + 1) lo (.int (mi M a i.toNatClampNeg) :: st) M res M') : Run l s0 D cy ad d I pc lo (.int i :: .ref a :: st) M res M' := by
  obtain ⟨hm, k9⟩ := k9
  refine ⟨hm, ?_⟩
  intro p e R s m args below meth c0 H locs ls k0 z0 Q F hW hl hn hS hR h1 h2 kr kx
  subst hn9
  exact va_bald F.1 F.2.1 (gK G F.2.2.2.2.2.2.2.1) hW.2 a 0 (pool_at ha |>.trans (by rw [ent_b hs])) rfl hin hd (k9 F hW hl hn hS hR h1 h2 kr kx)
theorem r_lald (G : GG l s0 b L xs D cy ad) {a n : Nat} {i : Int32} (ha : a < zN M) (hs : sh M a = 13) (hn9 : ln M a = n) (hin : vp_in i n) (hd : decode I.2.1 pc = .ok (.laload, 1)) (k9 : Run l s0 D cy ad d I (pc + 1) lo (.long (ml M a i.toNatClampNeg) :: st) M res M') : Run l s0 D cy ad d I pc lo (.int i :: .ref a :: st) M res M' := by
  obtain ⟨hm, k9⟩ := k9
  refine ⟨hm, ?_⟩
  intro p e R s m args below meth c0 H locs ls k0 z0 Q F hW hl hn hS hR h1 h2 kr kx
  subst hn9
  exact va_lald F.1 F.2.1 (gK G F.2.2.2.2.2.2.2.1) hW.2 a 2 (pool_at ha |>.trans (by rw [ent_l hs])) rfl hin hd (k9 F hW hl hn hS hR h1 h2 kr kx)
theorem r_aald (G : GG l s0 b L xs D cy ad) {a n q : Nat} {i : Int32} (ha : a < zN M) (hs : sh M a = 14) (hn9 : ln M a = n) (hin : vp_in i n) (hq : mr M a i.toNatClampNeg = some q) (hd : decode I.2.1 pc = .ok (.aaload, 1)) (k9 : Run l s0 D cy ad d I (pc + 1) lo (.ref q :: st) M res M') : Run l s0 D cy ad d I pc lo (.int i :: .ref a :: st) M res M' := by
  obtain ⟨hm, k9⟩ := k9
  refine ⟨hm, ?_⟩
  intro p e R s m args below meth c0 H locs ls k0 z0 Q F hW hl hn hS hR h1 h2 kr kx
  subst hn9
  have hP := hW.2 a _ (pool_at ha |>.trans (by rw [ent_r hs]))
  have hlt : i.toNatClampNeg < ln M a := Nat.not_le.mp fun q => hin (Or.inr q)
  exact W.aald (v := .ref (ad q)) (ty := .array .int) F.1 F.2.1 hP (((gK G F.2.2.2.2.2.2.2.1).2 3 _ rfl).1 (ln M a) (fun j => va_rf ((mr M a j).map ad))) rfl (fun q => by cases q) (by show ¬ (i < 0 ∨ (arrV _ _ _).slots.size ≤ _); rw [arrV_size]; exact hin) (by show (arrV _ _ _).slots[_]? = _; rw [arrV_read _ _ hlt]; dsimp only; rw [hq]; rfl) rfl rfl hd (k9 F hW hl hn hS hR h1 h2 kr kx)
theorem r_alen (G : GG l s0 b L xs D cy ad) {a n : Nat} {v : Int32} (ha : a < zN M) (hs : sh M a = 11 ∨ sh M a = 12 ∨ sh M a = 13 ∨ sh M a = 14) (hn9 : ln M a = n) (hv : Int32.ofNat n = v) (hd : decode I.2.1 pc = .ok (.arraylength, 1)) (k9 : Run l s0 D cy ad d I (pc + 1) lo (.int v :: st) M res M') : Run l s0 D cy ad d I pc lo (.ref a :: st) M res M' := by
  obtain ⟨hm, k9⟩ := k9
  refine ⟨hm, ?_⟩
  intro p e R s m args below meth c0 H locs ls k0 z0 Q F hW hl hn hS hR h1 h2 kr kx
  subst hn9
  rcases hs with hs | hs | hs | hs
  · exact va_alen F.1 F.2.1 (gK G F.2.2.2.2.2.2.2.1) hW.2 a 0 (pool_at ha |>.trans (by rw [ent_b hs])) rfl hv hd (k9 F hW hl hn hS hR h1 h2 kr kx)
  · exact va_alen F.1 F.2.1 (gK G F.2.2.2.2.2.2.2.1) hW.2 a 1 (pool_at ha |>.trans (by rw [ent_i hs])) rfl hv hd (k9 F hW hl hn hS hR h1 h2 kr kx)
  · exact va_alen F.1 F.2.1 (gK G F.2.2.2.2.2.2.2.1) hW.2 a 2 (pool_at ha |>.trans (by rw [ent_l hs])) rfl hv hd (k9 F hW hl hn hS hR h1 h2 kr kx)
  · exact va_alen F.1 F.2.1 (gK G F.2.2.2.2.2.2.2.1) hW.2 a 3 (pool_at ha |>.trans (by rw [ent_r hs])) rfl hv hd (k9 F hW hl hn hS hR h1 h2 kr kx)
theorem u1_upd (f : Nat → Int32) (k : Nat) (v : Int32) : upd f k v = u1 f k v := by
  funext j
  simp [upd, u1]
theorem u1_updL (f : Nat → Int64) (k : Nat) (v : Int64) : vp_updL f k v = u1 f k v := rfl
theorem r_iast (G : GG l s0 b L xs D cy ad) {a n : Nat} {i x : Int32} (ha : a < zN M) (hs : sh M a = 12) (hn9 : ln M a = n) (hin : vp_in i n) (hd : decode I.2.1 pc = .ok (.iastore, 1)) (k9 : Run l s0 D cy ad d I (pc + 1) lo st (sI M a i.toNatClampNeg x) res M') : Run l s0 D cy ad d I pc lo (.int x :: .int i :: .ref a :: st) M res M' := by
  obtain ⟨hm, k9⟩ := k9
  refine ⟨hm, ?_⟩
  intro p e R s m args below meth c0 H locs ls k0 z0 Q F hW hl hn hS hR h1 h2 kr kx
  subst hn9
  refine va_iast F.1 F.2.1 (gK G F.2.2.2.2.2.2.2.1) hW.2 (gD G hW.1) hS a 1 (pool_at ha |>.trans (by rw [ent_i hs])) rfl hin hd (fun H1 locs1 q1 q2 q3 => ?_)
  rw [u1_upd, pool_set (M := M) (M' := sI M a i.toNatClampNeg x) rfl ((ent_i (M := sI M a i.toNatClampNeg x) hs).trans (by rw [sI_mi, u2_same]; rfl)) (fun j hj => ent_off rfl rfl (u2_ne hj) rfl rfl)] at q1
  exact k9 F ⟨hW.1, q1⟩ hl hn q3 hR h1 h2 kr kx
theorem r_bast (G : GG l s0 b L xs D cy ad) {a n : Nat} {i x : Int32} (ha : a < zN M) (hs : sh M a = 11) (hn9 : ln M a = n) (hin : vp_in i n) (hd : decode I.2.1 pc = .ok (.bastore, 1)) (k9 : Run l s0 D cy ad d I (pc + 1) lo st (sI M a i.toNatClampNeg x.toInt8.toInt32) res M') : Run l s0 D cy ad d I pc lo (.int x :: .int i :: .ref a :: st) M res M' := by
  obtain ⟨hm, k9⟩ := k9
  refine ⟨hm, ?_⟩
  intro p e R s m args below meth c0 H locs ls k0 z0 Q F hW hl hn hS hR h1 h2 kr kx
  subst hn9
  refine va_bast F.1 F.2.1 (gK G F.2.2.2.2.2.2.2.1) hW.2 (gD G hW.1) hS a 0 (pool_at ha |>.trans (by rw [ent_b hs])) rfl hin hd (fun H1 locs1 q1 q2 q3 => ?_)
  rw [u1_upd, vp_nar_byte, pool_set (M := M) (M' := sI M a i.toNatClampNeg x.toInt8.toInt32) rfl ((ent_b (M := sI M a i.toNatClampNeg x.toInt8.toInt32) hs).trans (by rw [sI_mi, u2_same]; rfl)) (fun j hj => ent_off rfl rfl (u2_ne hj) rfl rfl)] at q1
  exact k9 F ⟨hW.1, q1⟩ hl hn q3 hR h1 h2 kr kx
theorem r_last (G : GG l s0 b L xs D cy ad) {a n : Nat} {i : Int32} {x : Int64} (ha : a < zN M) (hs : sh M a = 13) (hn9 : ln M a = n) (hin : vp_in i n) (hd : decode I.2.1 pc = .ok (.lastore, 1)) (k9 : Run l s0 D cy ad d I (pc + 1) lo st (sL M a i.toNatClampNeg x) res M') : Run l s0 D cy ad d I pc lo (.long x :: .int i :: .ref a :: st) M res M' := by
  obtain ⟨hm, k9⟩ := k9
  refine ⟨hm, ?_⟩
  intro p e R s m args below meth c0 H locs ls k0 z0 Q F hW hl hn hS hR h1 h2 kr kx
  subst hn9
  refine va_last F.1 F.2.1 (gK G F.2.2.2.2.2.2.2.1) hW.2 (gD G hW.1) hS a 2 (pool_at ha |>.trans (by rw [ent_l hs])) rfl hin hd (fun H1 locs1 q1 q2 q3 => ?_)
  rw [u1_updL, pool_set (M := M) (M' := sL M a i.toNatClampNeg x) rfl ((ent_l (M := sL M a i.toNatClampNeg x) hs).trans (by show Sum.inl (_, _, Sum.inr (Sum.inl (u2 (ml M) a i.toNatClampNeg x a))) = _; rw [u2_same]; rfl)) (fun j hj => ent_off rfl rfl rfl (u2_ne hj) rfl)] at q1
  exact k9 F ⟨hW.1, q1⟩ hl hn q3 hR h1 h2 kr kx
end RH
