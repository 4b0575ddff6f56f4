/-! level 3: what holds between class and reference from call to call (C: memory of the class's part, T: of the reference's part) -/
def tw (T : Mm) : Nat := (mi T 80 0).toNatClampNeg
def th (T : Mm) : Nat := (mi T 80 1).toNatClampNeg
def isL (a : Nat) : Prop := a = 30 ∨ a = 34 ∨ a = 40 ∨ a = 44 ∨ a = 72
/-- which things are the ground (0), spare (1), world (2), spare (3), book (4), spare (5), laws: harm (6), rise (7), the spare ground's (8, 9), spare (10) -/
def IDS (C : Mm) (q : Nat → Nat) : Prop :=
  (mr C 0 5 = some (q 0) ∧ mr C 0 6 = some (q 1) ∧ mr C 0 7 = some (q 2) ∧ mr C 0 8 = some (q 3) ∧ mr C 0 9 = some (q 4) ∧ mr C 0 10 = some (q 5) ∧ mr C 0 11 = some (q 10)) ∧
  (mr C (q 0) 1 = some (q 6) ∧ mr C (q 0) 2 = some (q 7) ∧ mr C (q 1) 1 = some (q 8) ∧ mr C (q 1) 2 = some (q 9)) ∧
  ((q 0 = 28 ∧ q 1 = 38) ∨ (q 0 = 38 ∧ q 1 = 28)) ∧ ((q 2 = 48 ∧ q 3 = 56) ∨ (q 2 = 56 ∧ q 3 = 48)) ∧ ((q 4 = 64 ∧ q 5 = 68) ∨ (q 4 = 68 ∧ q 5 = 64)) ∧
  (∀ i, 6 ≤ i → i ≤ 10 → isL (q i)) ∧ (∀ i j, 6 ≤ i → i < j → j ≤ 10 → q i ≠ q j)
def RTp (C T : Mm) : Prop := (∃ n : Nat, n ≤ 600 ∧ mi C 1 1 = Int32.ofNat n ∧ mi T 76 1 = Int32.ofNat n) ∧ (∀ k, k < 600 → mi C 2 k &&& 255 = mi T 77 k) ∧ mi C 1 6 = mi T 76 3
def rg (x : Int32) (lo hi : Nat) : Prop := ∃ n : Nat, lo ≤ n ∧ n ≤ hi ∧ x = Int32.ofNat n
def RGt (T : Mm) : Prop := (1 ≤ tw T ∧ tw T ≤ 8 ∧ mi T 80 0 = Int32.ofNat (tw T)) ∧ (1 ≤ th T ∧ th T ≤ 6 ∧ mi T 80 1 = Int32.ofNat (th T)) ∧ rg (mi T 80 3) 1 6 ∧ rg (mi T 80 4) 1 9 ∧ rg (mi T 80 5) 1 9 ∧ rg (mi T 80 6) 0 60 ∧ rg (mi T 80 7) 1 9 ∧ rg (mi T 80 8) 1 99 ∧ rg (mi T 80 9) 1 30
def RGd (C T : Mm) (g : Nat) : Prop := RGt T ∧ (mi C g 3 = mi T 80 0 ∧ mi C g 4 = mi T 80 1 ∧ mi C g 5 = mi T 80 3 ∧ mi C g 6 = mi T 80 4 ∧ mi C g 7 = mi T 80 5 ∧ mi C g 8 = mi T 80 6 ∧ mi C g 9 = mi T 80 7 ∧ mi C g 10 = mi T 80 8 ∧ mi C g 11 = mi T 80 9) ∧ (∀ c, c < 48 → mi C (g + 1) c = mi T 82 c ∧ rg (mi T 82 c) 0 99)
/-- a code of the class and a pair of the reference -/
def cdE (c how v : Int32) : Prop := (how = 0 ∧ v = c ∧ rg v 0 999) ∨ (how = 1 ∧ rg v 0 6 ∧ c = 1000 + v) ∨ (how = 2 ∧ c = -43) ∨ (how = 3 ∧ c = -45) ∨ (how = 4 ∧ c = -42) ∨ (how = 5 ∧ c = -47) ∨ (how = 6 ∧ c = -37) ∨ (how = 7 ∧ c = -63)
/-- how high the stack stands behind a code -/
def dpS (how : Int32) (d : Nat) : Nat := if how = 0 ∨ how = 1 then d + 1 else if how = 7 then d - 2 else d - 1
def dpOk (how : Int32) (d : Nat) : Prop := (how = 0 ∨ how = 1) ∨ (how = 7 ∧ 3 ≤ d) ∨ (2 ≤ d ∧ how ≠ 0 ∧ how ≠ 1 ∧ how ≠ 7)
def dp (f : Nat → Int32) : Nat → Nat
  | 0 => 0
  | n + 1 => dpS (f (2 * n)) (dp f n)
def lwE (c : Nat → Int32) (f : Nat → Int32) (n : Nat) : Prop := (∀ j, j < n → cdE (c j) (f (2 * j)) (f (2 * j + 1)) ∧ dpOk (f (2 * j)) (dp f j))
def RLaw (C T : Mm) (l i : Nat) : Prop := (mi T 114 i = 0 ∧ ((i = 0 ∧ mi C l 3 = 3 ∧ mi C (l + 1) 0 = 1000 ∧ mi C (l + 1) 1 = 2 ∧ mi C (l + 1) 2 = -42) ∨ (i = 1 ∧ mi C l 3 = 1 ∧ mi C (l + 1) 0 = 0))) ∨ (∃ n : Nat, 0 < n ∧ n ≤ 150 ∧ mi C l 3 = Int32.ofNat n ∧ mi T 114 i = Int32.ofNat n ∧ lwE (mi C (l + 1)) (mi T (118 + i)) n ∧ dp (mi T (118 + i)) n = 1)
/-- world and row, load and walled and heaped too -/
def RF (M : Mm) (w : Nat) (r : Nat → Int32) : Prop := RW M w r ∧ RLd M w r ∧ RH M w r
/-- the numbers f are those of the world at w in M -/
def PK (f : Nat → Int32) (M : Mm) (w : Nat) : Prop := (∀ k, k < 60 → f k = mi M (w + 1) k ∧ f (60 + k) = mi M (w + 2) k ∧ f (120 + k) = mi M (w + 3) k ∧ f (180 + k) = mi M (w + 4) k) ∧ (∀ c, c < 48 → f (240 + c) = mi M (w + 5) c ∧ f (288 + c) = mi M (w + 6) c ∧ f (336 + c) = mi M (w + 7) c) ∧ (∀ k, k < 9 → f (384 + k) = mi M w (7 + k))
def RB (f : Nat → Int32) (r : Nat → Int32) : Prop := ∃ (M : Mm) (w : Nat), RF M w r ∧ PK f M w
def RP (C T : Mm) : Prop :=
  (∃ n : Nat, n ≤ 20 ∧ mi C 8 3 = Int32.ofNat n ∧ mi T 76 31 = Int32.ofNat n ∧ ∀ i, i < n → VR (tw T) (th T) (mi T (199 + i)) ∧ RB (fun k => mi C 9 (393 * i + k)) (mi T (199 + i))) ∧
  (∃ m : Nat, m ≤ 3 ∧ mi C 8 4 = Int32.ofNat m ∧ mi T 76 33 = Int32.ofNat m ∧ ∀ j, j < m → ∃ n : Nat, n ≤ 20 ∧ mi C 11 j = Int32.ofNat n ∧ mi T (220 + j) 0 = Int32.ofNat n ∧
    (VR (tw T) (th T) (fun k => mi T (220 + j) (1 + k)) ∧ RB (fun k => mi C 10 (8253 * j + 7860 + k)) (fun k => mi T (220 + j) (1 + k))) ∧
    ∀ i, i < n → VR (tw T) (th T) (fun k => mi T (220 + j) (416 + 415 * i + k)) ∧ RB (fun k => mi C 10 (8253 * j + 393 * i + k)) (fun k => mi T (220 + j) (416 + 415 * i + k)))
def RBk (C T : Mm) (b : Nat) : Prop := ∃ n : Nat, n ≤ 6 ∧ mi C b 3 = Int32.ofNat n ∧ mi T 76 30 = Int32.ofNat n ∧ ∀ i, i < n → ∃ x y v : Nat, x < tw T ∧ y < th T ∧ v ≤ 60 ∧ mi C (b + 1) i = Int32.ofNat (8 * y + x) ∧ mi C (b + 2) i = Int32.ofNat v ∧ mi T (121 + i) 0 = Int32.ofNat x ∧ mi T (121 + i) 1 = Int32.ofNat y ∧ mi T (121 + i) 2 = Int32.ofNat v
def Rc (C T : Mm) : Prop := mi C 0 12 = mi T 76 32 ∧ mi C 0 13 = mi T 78 0 ∧ mi C 0 14 = mi T 78 1 ∧ mi C 0 15 = mi T 78 2
def RWd (C T : Mm) (w : Nat) : Prop := VR (tw T) (th T) (mi T 196) ∧ RF C w (mi T 196)
def RR (C T : Mm) (q : Nat → Nat) : Prop := IDS C q ∧ RTp C T ∧ RGd C T (q 0) ∧ RLaw C T (q 6) 0 ∧ RLaw C T (q 7) 1 ∧ RWd C T (q 2) ∧ RP C T ∧ RBk C T (q 4) ∧ Rc C T
/-- where years stand -/
def yr9 (a : Nat) : Prop := a = 196 ∨ (199 ≤ a ∧ a ≤ 218) ∨ (220 ≤ a ∧ a ≤ 222)
def yj (a j : Nat) : Prop := ((a = 196 ∨ (199 ≤ a ∧ a ≤ 218)) ∧ j = 363) ∨ ((220 ≤ a ∧ a ≤ 222) ∧ ∃ i : Nat, i ≤ 20 ∧ j = 364 + 415 * i)
def YB (k : Nat) (M : Mm) : Prop := ∀ a j, yj a j → rg (mi M a j) 0 (300 * k)
theorem YB.of {k : Nat} {M M' : Mm} (h : YB k M) (e : ∀ a, yr9 a → mi M' a = mi M a) : YB k M' := fun a j hj => by
  have h9 : yr9 a := by
    unfold yj at hj
    unfold yr9
    omega
  rw [e a h9]
  exact h a j hj
theorem YB.up {k : Nat} {M : Mm} (h : YB k M) : YB (k + 1) M := fun a j hj => by
  obtain ⟨n, n1, n2, n3⟩ := h a j hj
  exact ⟨n, n1, by omega, n3⟩
def RM (k : Nat) (M : Mm) : Prop := zN M = 276 ∧ zX M ≤ k ∧ zS M ≤ 200000 + 6 * zX M ∧ YB k M
def INV (k : Nat) (M : Mm) : Prop := (∃ q, RR M M q) ∧ RM k M
/-! what the relation reads, but for the tape and the counters: the class's part (kc) and the reference's (kt) -/
def kc (q : Nat → Nat) (a k : Nat) : Prop := (8 ≤ a ∧ a ≤ 11) ∨ a = q 0 ∨ a = q 0 + 1 ∨ (q 2 ≤ a ∧ a ≤ q 2 + 7) ∨ (q 4 ≤ a ∧ a ≤ q 4 + 2) ∨ a = q 6 ∧ k = 3 ∨ a = q 6 + 1 ∨ a = q 7 ∧ k = 3 ∨ a = q 7 + 1
def kt (a k : Nat) : Prop := (a = 76 ∧ (k = 30 ∨ k = 31 ∨ k = 33)) ∨ a = 80 ∨ a = 82 ∨ a = 114 ∨ a = 118 ∨ a = 119 ∨ (121 ≤ a ∧ a ≤ 126) ∨ a = 196 ∨ (199 ≤ a ∧ a ≤ 218) ∨ (220 ≤ a ∧ a ≤ 222)
def KC (q : Nat → Nat) (C C' : Mm) : Prop := mr C' = mr C ∧ ∀ a k, kc q a k → mi C' a k = mi C a k
def KT (T T' : Mm) : Prop := ∀ a k, kt a k → mi T' a k = mi T a k
theorem KC.refl {q : Nat → Nat} {C : Mm} : KC q C C := ⟨rfl, fun _ _ _ => rfl⟩
theorem KT.refl {T : Mm} : KT T T := fun _ _ _ => rfl
theorem KC.trans {q : Nat → Nat} {A B C : Mm} (h1 : KC q A B) (h2 : KC q B C) : KC q A C := ⟨h2.1.trans h1.1, fun a k h => (h2.2 a k h).trans (h1.2 a k h)⟩
theorem KT.trans {A B C : Mm} (h1 : KT A B) (h2 : KT B C) : KT A C := fun a k h => (h2 a k h).trans (h1 a k h)
section FR
variable {C C' T T' : Mm} {q : Nat → Nat}
theorem KT.row (h : KT T T') {a : Nat} (ha : ∀ k, kt a k) : mi T' a = mi T a := funext fun k => h a k (ha k)
theorem KC.row (h : KC q C C') {a : Nat} (ha : ∀ k, kc q a k) : mi C' a = mi C a := funext fun k => h.2 a k (ha k)
theorem kt_80 (k : Nat) : kt 80 k := by unfold kt; omega
theorem kt_82 (k : Nat) : kt 82 k := by unfold kt; omega
theorem kt_114 (k : Nat) : kt 114 k := by unfold kt; omega
theorem kt_196 (k : Nat) : kt 196 k := by unfold kt; omega
theorem kt_law {i : Nat} (hi : i = 0 ∨ i = 1) (k : Nat) : kt (118 + i) k := by unfold kt; omega
theorem kt_bef {i : Nat} (hi : i < 20) (k : Nat) : kt (199 + i) k := by unfold kt; omega
theorem kt_kep {i : Nat} (hi : i < 3) (k : Nat) : kt (220 + i) k := by unfold kt; omega
theorem kt_bok {i : Nat} (hi : i < 6) (k : Nat) : kt (121 + i) k := by unfold kt; omega
theorem KT.ew (h : KT T T') : tw T' = tw T := by unfold tw; rw [h 80 0 (kt_80 0)]
theorem KT.eh (h : KT T T') : th T' = th T := by unfold th; rw [h 80 1 (kt_80 1)]
theorem IDS.frame (h : IDS C q) (hC : KC q C C') : IDS C' q := by
  unfold IDS at h ⊢
  rw [hC.1]
  exact h
theorem RTp.frame (h : RTp C T) (h1 : mi C' 1 1 = mi C 1 1) (h2 : mi C' 2 = mi C 2) (h3 : mi C' 1 6 = mi C 1 6) (t1 : mi T' 76 1 = mi T 76 1) (t2 : mi T' 77 = mi T 77) (t3 : mi T' 76 3 = mi T 76 3) : RTp C' T' := by
  unfold RTp at h ⊢
  rw [h1, h2, h3, t1, t2, t3]
  exact h
theorem RGt.frame (h : RGt T) (hT : KT T T') : RGt T' := by
  unfold RGt at h ⊢
  rw [hT.ew, hT.eh, hT.row kt_80]
  exact h
theorem RGd.frame {g : Nat} (h : RGd C T g) (hg : mi C' g = mi C g) (hs : mi C' (g + 1) = mi C (g + 1)) (hT : KT T T') : RGd C' T' g := by
  obtain ⟨h1, h2, h3⟩ := h
  refine ⟨h1.frame hT, ?_, ?_⟩
  · rw [hg, hT.row kt_80]; exact h2
  · rw [hs, hT.row kt_82]; exact h3
theorem RLaw.frame {l i : Nat} (hi : i = 0 ∨ i = 1) (h : RLaw C T l i) (hl : mi C' l 3 = mi C l 3) (hs : mi C' (l + 1) = mi C (l + 1)) (hT : KT T T') : RLaw C' T' l i := by
  unfold RLaw at h ⊢
  rw [hl, hs, hT.row (kt_law hi), hT.row kt_114]
  exact h
theorem RF.frame {w : Nat} {r : Nat → Int32} (h : RF C w r) (hw : ∀ j, j ≤ 7 → mi C' (w + j) = mi C (w + j)) : RF C' w r := by
  unfold RF RW RLd RH at h ⊢
  rw [show mi C' w = mi C w from hw 0 (by omega), hw 1 (by omega), hw 2 (by omega), hw 3 (by omega), hw 4 (by omega), hw 5 (by omega), hw 6 (by omega), hw 7 (by omega)]
  exact h
theorem RWd.frame {w : Nat} (h : RWd C T w) (hw : ∀ j, j ≤ 7 → mi C' (w + j) = mi C (w + j)) (hT : KT T T') : RWd C' T' w := by
  unfold RWd at h ⊢
  rw [hT.ew, hT.eh, hT.row kt_196]
  exact ⟨h.1, h.2.frame hw⟩
theorem RP.frame (h : RP C T) (h8 : mi C' 8 = mi C 8) (h9 : mi C' 9 = mi C 9) (h10 : mi C' 10 = mi C 10) (h11 : mi C' 11 = mi C 11) (hT : KT T T') : RP C' T' := by
  obtain ⟨⟨n, a1, a2, a3, a4⟩, ⟨m, b1, b2, b3, b4⟩⟩ := h
  refine ⟨⟨n, a1, by rw [h8]; exact a2, by rw [hT 76 31 (by unfold kt; omega)]; exact a3, fun i hi => ?_⟩, ⟨m, b1, by rw [h8]; exact b2, by rw [hT 76 33 (by unfold kt; omega)]; exact b3, fun j hj => ?_⟩⟩
  · rw [hT.ew, hT.eh, hT.row (kt_bef (by omega)), h9]
    exact a4 i hi
  · obtain ⟨n, c1, c2, c3, c4, c5⟩ := b4 j hj
    refine ⟨n, c1, by rw [h11]; exact c2, by rw [hT.row (kt_kep (by omega))]; exact c3, ?_, fun i hi => ?_⟩
    · rw [hT.ew, hT.eh, hT.row (kt_kep (by omega)), h10]
      exact c4
    · rw [hT.ew, hT.eh, hT.row (kt_kep (by omega)), h10]
      exact c5 i hi
theorem RBk.frame {b : Nat} (h : RBk C T b) (h0 : mi C' b = mi C b) (h1 : mi C' (b + 1) = mi C (b + 1)) (h2 : mi C' (b + 2) = mi C (b + 2)) (hT : KT T T') : RBk C' T' b := by
  obtain ⟨n, a1, a2, a3, a4⟩ := h
  refine ⟨n, a1, by rw [h0]; exact a2, by rw [hT 76 30 (by unfold kt; omega)]; exact a3, fun i hi => ?_⟩
  obtain ⟨x, y, v, c1, c2, c3, c4, c5, c6, c7, c8⟩ := a4 i hi
  exact ⟨x, y, v, by rw [hT.ew]; exact c1, by rw [hT.eh]; exact c2, c3, by rw [h1]; exact c4, by rw [h2]; exact c5, by rw [hT.row (kt_bok (by omega))]; exact c6, by rw [hT.row (kt_bok (by omega))]; exact c7, by rw [hT.row (kt_bok (by omega))]; exact c8⟩
theorem Rc.frame (h : Rc C T) (h0 : ∀ k, 12 ≤ k → mi C' 0 k = mi C 0 k) (t1 : mi T' 78 = mi T 78) (t2 : mi T' 76 32 = mi T 76 32) : Rc C' T' := by
  unfold Rc at h ⊢
  rw [h0 12 (by omega), h0 13 (by omega), h0 14 (by omega), h0 15 (by omega), t1, t2]
  exact h
/-- tape and counters anew; what lies apart from all that is read may change -/
theorem RR.body (h : RR C T q) (hC : KC q C C') (hT : KT T T') (hTp : RTp C' T') (hRc : Rc C' T') : RR C' T' q := by
  obtain ⟨h1, h2, h3, h4, h5, h6, h7, h8, h9⟩ := h
  exact ⟨h1.frame hC, hTp, h3.frame (hC.row (fun k => by unfold kc; omega)) (hC.row (fun k => by unfold kc; omega)) hT,
    h4.frame (Or.inl rfl) (hC.2 _ _ (by unfold kc; omega)) (hC.row (fun k => by unfold kc; omega)) hT,
    h5.frame (Or.inr rfl) (hC.2 _ _ (by unfold kc; omega)) (hC.row (fun k => by unfold kc; omega)) hT,
    h6.frame (fun j hj => hC.row (fun k => by unfold kc; omega)) hT,
    h7.frame (hC.row (fun k => by unfold kc; omega)) (hC.row (fun k => by unfold kc; omega)) (hC.row (fun k => by unfold kc; omega)) (hC.row (fun k => by unfold kc; omega)) hT,
    h8.frame (hC.row (fun k => by unfold kc; omega)) (hC.row (fun k => by unfold kc; omega)) (hC.row (fun k => by unfold kc; omega)) hT,
    hRc⟩
/-- the tape's and the counters' parts too -/
def KCx (q : Nat → Nat) (C C' : Mm) : Prop := KC q C C' ∧ (∀ k, 12 ≤ k → mi C' 0 k = mi C 0 k) ∧ mi C' 1 1 = mi C 1 1 ∧ mi C' 2 = mi C 2 ∧ mi C' 1 6 = mi C 1 6
def KTx (T T' : Mm) : Prop := KT T T' ∧ mi T' 78 = mi T 78 ∧ mi T' 77 = mi T 77 ∧ mi T' 76 1 = mi T 76 1 ∧ mi T' 76 3 = mi T 76 3 ∧ mi T' 76 32 = mi T 76 32
theorem RR.same (h : RR C T q) (hC : KCx q C C') (hT : KTx T T') : RR C' T' q :=
  h.body hC.1 hT.1 (h.2.1.frame hC.2.2.1 hC.2.2.2.1 hC.2.2.2.2 hT.2.2.2.1 hT.2.2.1 hT.2.2.2.2.1) (h.2.2.2.2.2.2.2.2.frame hC.2.1 hT.2.1 hT.2.2.2.2.2)
end FR
/-! small changes -/
section SC
variable {M : Mm} {k : Nat}
theorem mi_sL {M : Mm} {a j : Nat} {x : Int64} : mi (sL M a j x) = mi M := rfl
theorem mi_sX {M : Mm} : mi (sX M) = mi M := rfl
/-- where ids below 76 keep their ints, and references -/
theorem KCx.low {q : Nat → Nat} {C C' : Mm} (hq : IDS C q) (hr : mr C' = mr C) (h : ∀ a, a < 76 → mi C' a = mi C a) : KCx q C C' := by
  obtain ⟨-, -, g, w, b, l, -⟩ := hq
  have h6 := l 6 (by omega) (by omega)
  have h7 := l 7 (by omega) (by omega)
  unfold isL at h6 h7
  refine ⟨⟨hr, fun a k hk => ?_⟩, fun k _ => by rw [h 0 (by omega)], by rw [h 1 (by omega)], h 2 (by omega), by rw [h 1 (by omega)]⟩
  unfold kc at hk
  rw [h a (by omega)]
/-- where the reference's fields 0 alone and what lies behind 223 changes -/
theorem INV.q1 (hI : INV k M) : INV (k + 1) (sI M 76 0 0) := by
  obtain ⟨⟨q, h⟩, r⟩ := hI
  refine ⟨⟨q, h.same (KCx.low h.1 rfl (fun a ha => mi_sI_ne (by omega))) ⟨fun a k hk => ?_, mi_sI_ne (by omega), mi_sI_ne (by omega), mi_sI_o (by omega), mi_sI_o (by omega), mi_sI_o (by omega)⟩⟩, r.1, Nat.le_succ_of_le r.2.1, r.2.2.1, r.2.2.2.up.of (fun a ha => mi_sI_ne (by unfold yr9 at ha; omega))⟩
  by_cases ha : a = 76
  · subst ha
    exact mi_sI_o (by unfold kt at hk; omega)
  · rw [mi_sI_ne ha]
theorem INV.sL {x : Int64} (hI : INV k M) : INV k (sL M 275 0 x) := by
  obtain ⟨⟨q, h⟩, r⟩ := hI
  exact ⟨⟨q, h.same (KCx.low h.1 rfl (fun a ha => rfl)) ⟨fun a k hk => rfl, rfl, rfl, rfl, rfl, rfl⟩⟩, r⟩
/-- a call refused: the class counts it, then the reference -/
def eRef (M : Mm) (j : Nat) : Mm := sX (sI M 0 (13 + j) (mi M 0 (13 + j) + 1))
def eRefM (M : Mm) (j : Nat) (c : Int32) : Mm := sI (sI (sI M 76 0 0) 76 0 c) 78 j (mi M 78 j + 1)
theorem INV.ref {j : Nat} {c : Int32} (hj : j < 3) (hI : INV k M) : INV (k + 1) (eRefM (eRef M j) j c) := by
  obtain ⟨⟨q, h⟩, r⟩ := hI
  have e1 : ∀ a, a ≠ 0 → a ≠ 76 → a ≠ 78 → mi (eRefM (eRef M j) j c) a = mi M a := fun a h1 h2 h3 => by
    unfold eRefM eRef
    rw [mi_sI_ne h3, mi_sI_ne h2, mi_sI_ne h2, mi_sX, mi_sI_ne h1]
  have e2 : ∀ n, n ≠ 0 → mi (eRefM (eRef M j) j c) 76 n = mi M 76 n := fun n hn => by
    unfold eRefM eRef
    rw [mi_sI_ne (by omega), mi_sI_o hn, mi_sI_o hn, mi_sX, mi_sI_ne (by omega)]
  have e3 : ∀ n, mi (eRefM (eRef M j) j c) 0 n = if n = 13 + j then mi M 0 (13 + j) + 1 else mi M 0 n := fun n => by
    unfold eRefM eRef
    rw [mi_sI_ne (by omega), mi_sI_ne (by omega), mi_sI_ne (by omega), mi_sX, mi_sI]
    rfl
  have e4 : ∀ n, mi (eRefM (eRef M j) j c) 78 n = if n = j then mi M 78 j + 1 else mi M 78 n := fun n => by
    unfold eRefM eRef
    rw [mi_sI, mi_sI_ne (by omega), mi_sI_ne (by omega), mi_sX, mi_sI_ne (by omega)]
    rfl
  have ids := h.1
  obtain ⟨-, -, g, w, b, l, -⟩ := h.1
  have h6 := l 6 (by omega) (by omega)
  have h7 := l 7 (by omega) (by omega)
  unfold isL at h6 h7
  refine ⟨⟨q, h.body ⟨rfl, fun a k hk => ?_⟩ (fun a k hk => ?_) (h.2.1.frame (by rw [e1 1 (by omega) (by omega) (by omega)]) (e1 2 (by omega) (by omega) (by omega)) (by rw [e1 1 (by omega) (by omega) (by omega)]) (e2 1 (by omega)) (e1 77 (by omega) (by omega) (by omega)) (e2 3 (by omega))) ?_⟩, r.1, Nat.succ_le_succ r.2.1, ?_, r.2.2.2.up.of (fun a ha => e1 a (by unfold yr9 at ha; omega) (by unfold yr9 at ha; omega) (by unfold yr9 at ha; omega))⟩
  · unfold kc at hk
    rw [e1 a (by omega) (by omega) (by omega)]
  · by_cases ha : a = 76
    · subst ha
      exact e2 k (by unfold kt at hk; omega)
    · rw [e1 a (by unfold kt at hk; omega) ha (by unfold kt at hk; omega)]
  · obtain ⟨c1, c2, c3, c4⟩ := h.2.2.2.2.2.2.2.2
    unfold Rc
    rw [e3, e3, e3, e3, e4, e4, e4, e2 32 (by omega)]
    have h9 : j = 0 ∨ j = 1 ∨ j = 2 := by omega
    rcases h9 with rfl | rfl | rfl
    · exact ⟨c1, by rw [if_pos rfl, if_pos rfl, c2], c3, c4⟩
    · exact ⟨c1, c2, by rw [if_pos rfl, if_pos rfl, c3], c4⟩
    · exact ⟨c1, c2, c3, by rw [if_pos rfl, if_pos rfl, c4]⟩
  · have := r.2.2.1
    show zS M + 6 ≤ 200000 + 6 * (zX M + 1)
    omega
theorem eRefM_t {j : Nat} {c : Int32} : mi (eRefM M j c) 76 0 = c := by
  unfold eRefM
  rw [mi_sI_ne (by omega), mi_sI_k]
end SC
/-! the reference's refusals -/
section MB
variable {M : Mm}
theorem m_in {x lo hi : Int32} : f_X10_in x lo hi M = some (if lo ≤ x ∧ x ≤ hi then 1 else 0) := by
  unfold f_X10_in g_X10_in
  by_cases h1 : x < lo
  · rw [if_pos h1, if_neg (fun q => Int32.not_lt.mpr q.1 h1)]; rfl
  · rw [if_neg h1]
    by_cases h2 : hi < x
    · rw [if_pos h2, if_neg (fun q => Int32.not_lt.mpr q.2 h2)]; rfl
    · rw [if_neg h2, if_pos ⟨Int32.not_lt.mp h1, Int32.not_lt.mp h2⟩]; rfl
theorem bad_no {what reason : Int32} (h : mi M 76 0 = 0) : f_X10_bad 0 what reason M = some (0, M) := by
  unfold f_X10_bad g_X10_bad
  rw [if_pos rfl]
  unfold f_X10_bad_j26
  rw [h]
  rfl
theorem bad_yes {what reason : Int32} {j : Nat} (h : mi M 76 0 = 0) (hw : what ≠ 0) (hj : j < 3) (hr : reason = Int32.ofNat j) : f_X10_bad 1 what reason M = some (1, sI (sI M 76 0 what) 78 j (mi M 78 j + 1)) := by
  unfold f_X10_bad g_X10_bad
  rw [if_neg (by decide), if_pos h, hr, ai_o hj (by omega), bsome, wi_o hj (by omega), bsome]
  unfold f_X10_bad_j26
  rw [mi_sI_ne (by omega), mi_sI_k, if_neg hw, mi_sI_ne (by omega)]
  rfl
end MB
