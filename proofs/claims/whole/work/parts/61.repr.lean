/-! the reference: a plan, laws and a world as they lie in its heap -/
def gl (g : Int32) : Int32 := if g = -2 then -1 else g
def sy (m : Int32) : Int32 := m ||| ((m &&& 2) <<< 3) ||| ((m &&& 4) <<< 6) ||| ((m &&& 8) <<< 9) ||| ((m &&& 64) <<< 3) ||| ((m &&& 128) <<< 6) ||| ((m &&& 2048) <<< 3)
def RP (h : Hp) (P : Pl) : Prop :=
  (h.1 0 12 = P 0 3 ∧ h.1 0 13 = P 0 4 ∧ h.1 0 14 = P 0 5 ∧ h.1 0 15 = P 0 0 ∧ h.1 4 0 = P 0 1 ∧ h.1 4 1 = P 0 2) ∧
  (∀ t, 0 ≤ t → t < P 0 3 → h.1 5 (ix t) = P 1 t ∧ h.1 6 (ix t) = P 2 t ∧ h.1 7 (ix t) = P 3 t ∧ h.1 8 (ix t) = P 4 t) ∧
  (∀ t, 0 ≤ t → t < P 0 4 → h.1 9 (ix t) = P 6 t ∧ h.1 10 (ix t) = P 7 t ∧ h.1 11 (ix t) = P 8 t ∧ h.1 12 (ix t) = P 9 t ∧ h.1 13 (ix t) = P 10 t) ∧
  (∀ t, 0 ≤ t → t < P 0 5 → h.1 14 (ix t) = P 11 t ∧ h.1 15 (ix t) = P 12 t ∧ h.1 16 (ix t) = P 13 t)
def RLa (h : Hp) (L : Lw) : Prop := ∀ q, q < 3 → h.1 17 q = (if L.2.1 q < L.2.2 q then 1 else 0) ∧ (L.2.1 q < L.2.2 q → h.1 18 q = nI (L.2.1 q) ∧ h.1 19 q = nI (L.2.2 q) ∧ RKn h L.1 (L.2.1 q) (L.2.2 q))
def RR (h : Hp) (P : Pl) (M : Mo) (d : Prop) (n : Int64) : Prop :=
  (h.1 0 70 = 0 ∧ ¬ h.1 0 69 = 0 ∧ M.1 = P 0 1 ∧ h.2 0 67 = n ∧ d) ∨ (M.1 = 0 ∧ (¬ h.1 0 70 = 0 ∨ (h.1 0 69 = 0 ∧ P 0 1 < 50))) ∨ (M.1 = 100 ∧ h.1 0 70 = 0 ∧ h.1 0 69 = 0 ∧ 50 ≤ P 0 1)
def RMo (h : Hp) (M : Mo) : Prop := ((h.1 0 72 = 0 ∧ M.2.2 = 1) ∨ (¬ h.1 0 72 = 0 ∧ M.2.2 = 2)) ∧ (h.1 0 71 = 0 ↔ ¬ M.2.1 = 0)
def RW (h : Hp) (P : Pl) (b : Int32) (A : Aw) : Prop :=
  (∀ i, 0 ≤ i → i < P 0 4 → h.1 27 (ix (6 * b + i)) = A.1 1 i) ∧
  (∀ i, 0 ≤ i → i < P 0 4 → h.1 28 (ix (6 * b + i)) = A.1 2 i) ∧
  (∀ i, 0 ≤ i → i < P 0 4 → h.1 29 (ix (6 * b + i)) = gl (A.1 4 i)) ∧
  (∀ i, 0 ≤ i → i < P 0 4 → h.1 30 (ix (6 * b + i)) = A.1 3 i) ∧
  (∀ i, 0 ≤ i → i < P 0 4 → h.1 31 (ix (6 * b + i)) = bt (A.1 0 2) i) ∧
  (∀ i, 0 ≤ i → i < P 0 3 → h.1 33 (ix (6 * b + i)) = A.1 6 i) ∧
  (h.1 34 (ix b) = A.1 0 3 ∧ h.1 35 (ix b) = A.1 0 4 ∧ h.1 36 (ix b) = A.1 0 5 ∧ h.1 37 (ix b) = A.1 0 0 ∧ h.1 38 (ix b) = sy (A.1 0 6) ∧ h.1 39 (ix b) = sy (A.1 0 7))
/-- what was drunk this hour, by the horses ahead of n -/
def RD (h : Hp) (b n : Int32) (A : Aw) : Prop := ∀ i, 0 ≤ i → i < n → h.1 32 (ix (6 * b + i)) = A.1 5 i
def BOK (b : Int32) : Prop := b = 0 ∨ b = 1
/-- where an hour of the world b may write -/
def RS (b : Int32) (c s : Nat) : Prop := (c = 0 ∧ (s = 53 ∨ s = 68)) ∨ (27 ≤ c ∧ c ≤ 33 ∧ ix (6 * b) ≤ s ∧ s < ix (6 * b) + 6) ∨ (34 ≤ c ∧ c ≤ 39 ∧ s = ix b)
def RT (d : Prop) (c s : Nat) : Prop := c = 25 ∨ c = 26 ∨ (d ∧ c = 0 ∧ s = 67)
/-- whether one is on is told by 0 and 1 alone -/
def OZ (h : Hp) : Prop := ∀ s, bit (h.1 31 s) = true
def RF (b : Int32) (d : Prop) (h h' : Hp) : Prop := (∀ c s, ¬ RS b c s → h'.1 c s = h.1 c s) ∧ (∀ c s, ¬ RT d c s → h'.2 c s = h.2 c s) ∧ (OZ h → OZ h')
theorem RF.rf {b : Int32} {d : Prop} {h : Hp} : RF b d h h := ⟨fun _ _ _ => rfl, fun _ _ _ => rfl, id⟩
theorem RF.tr {b : Int32} {d : Prop} {h h' h'' : Hp} (x : RF b d h h') (y : RF b d h' h'') : RF b d h h'' := ⟨fun c s q => (y.1 c s q).trans (x.1 c s q), fun c s q => (y.2.1 c s q).trans (x.2.1 c s q), fun q => y.2.2 (x.2.2 q)⟩
theorem RF.pI {b : Int32} {d : Prop} {h : Hp} {c a : Nat} {x : Int32} (q : RS b c a) (k : c = 31 → bit x = true := by intro z; exact absurd z (by decide)) : RF b d h (pI h c a x) := by
  refine ⟨fun e s z => ?_, fun e s z => by rw [pI_l], fun z s => ?_⟩
  case refine_2 =>
    rw [pI_1]
    by_cases k1 : 31 = c
    · rw [if_pos k1]
      by_cases k2 : s = a
      · rw [if_pos k2]
        exact k k1.symm
      · rw [if_neg k2]
        exact z s
    · rw [if_neg k1]
      exact z s
  rw [pI_1]
  by_cases k : e = c
  · rw [if_pos k]
    by_cases k2 : s = a
    · subst k k2
      exact absurd q z
    · rw [if_neg k2]
  · rw [if_neg k]
theorem ix6 {b i : Int32} (hb : BOK b) (h0 : 0 ≤ i) (h1 : i < 6) : ix (6 * b) ≤ ix (6 * b + i) ∧ ix (6 * b + i) < ix (6 * b) + 6 := by
  have z0 : (0 : Int32).toInt = 0 := by decide
  have z6 : (6 : Int32).toInt = 6 := by decide
  have a1 := ix_int (i := 6 * b) (by rcases hb with rfl | rfl <;> decide)
  have a2 := ix_int (i := 6 * b + i) (by rcases hb with rfl | rfl <;> lia)
  have c1 : 6 * b ≤ 6 * b + i := by rcases hb with rfl | rfl <;> lia
  have c2 : 6 * b + i < 6 * b + 6 := by rcases hb with rfl | rfl <;> lia
  have a3 := ix_int (i := 6 * b + 6) (by rcases hb with rfl | rfl <;> decide)
  have a4 : ix (6 * b + 6) = ix (6 * b) + 6 := by rcases hb with rfl | rfl <;> decide
  have d1 := Int32.le_iff_toInt_le.mp c1
  have d2 := Int32.lt_iff_toInt_lt.mp c2
  omega
theorem rs6 {b i : Int32} {c : Nat} (hb : BOK b) (h0 : 0 ≤ i) (h1 : i < 6) (c0 : 27 ≤ c) (c1 : c ≤ 33) : RS b c (ix (6 * b + i)) := .inr (.inl ⟨c0, c1, ix6 hb h0 h1⟩)
theorem rs1 {b : Int32} {c : Nat} (c0 : 34 ≤ c) (c1 : c ≤ 39) : RS b c (ix b) := .inr (.inr ⟨c0, c1, rfl⟩)
theorem ib0 {b i : Int32} (hb : BOK b) (h0 : 0 ≤ i) (h1 : i < 6) : 0 ≤ 6 * b + i ∧ 6 * b + i < 12 := by
  rcases hb with rfl | rfl <;> lia
theorem ibe {b i j : Int32} : 6 * b + i = 6 * b + j ↔ i = j := ⟨fun q => by lia, fun q => by rw [q]⟩
theorem p6 {b i j x : Int32} {h : Hp} {c : Nat} (hb : BOK b) (h0 : 0 ≤ i) (h1 : i < 6) (j0 : 0 ≤ j) (j1 : j < 6) : (pI h c (ix (6 * b + i)) x).1 c (ix (6 * b + j)) = if j = i then x else h.1 c (ix (6 * b + j)) := by
  rw [pI_ix (ib0 hb h0 h1).1 (ib0 hb j0 j1).1]
  simp only [ibe]
/-- plan, laws, modes, world -/
def RH (h : Hp) (P : Pl) (L : Lw) (M : Mo) (d : Prop) (b : Int32) (A : Aw) : Prop := RP h P ∧ RLa h L ∧ RMo h M ∧ RR h P M d A.2 ∧ RW h P b A
theorem RP.mv {b : Int32} {d : Prop} {h h' : Hp} {P : Pl} (ok : POK P) (f : RF b d h h') (x : RP h P) : RP h' P := by
  have g : ∀ c s, (c = 0 → ¬ s = 53 ∧ ¬ s = 68) → c < 27 → h'.1 c s = h.1 c s := fun c s q1 q2 => f.1 c s (fun z => by unfold RS at z; omega)
  obtain ⟨⟨a1, a2, a3, a4, a5, a6⟩, x2, x3, x4⟩ := x
  refine ⟨⟨?_, ?_, ?_, ?_, ?_, ?_⟩, fun t t0 t1 => ?_, fun t t0 t1 => ?_, fun t t0 t1 => ?_⟩
  · rw [g 0 12 (by omega) (by omega)]; exact a1
  · rw [g 0 13 (by omega) (by omega)]; exact a2
  · rw [g 0 14 (by omega) (by omega)]; exact a3
  · rw [g 0 15 (by omega) (by omega)]; exact a4
  · rw [g 4 0 (by omega) (by omega)]; exact a5
  · rw [g 4 1 (by omega) (by omega)]; exact a6
  · rw [g 5 _ (by omega) (by omega), g 6 _ (by omega) (by omega), g 7 _ (by omega) (by omega), g 8 _ (by omega) (by omega)]
    exact x2 t t0 t1
  · rw [g 9 _ (by omega) (by omega), g 10 _ (by omega) (by omega), g 11 _ (by omega) (by omega), g 12 _ (by omega) (by omega), g 13 _ (by omega) (by omega)]
    exact x3 t t0 t1
  · rw [g 14 _ (by omega) (by omega), g 15 _ (by omega) (by omega), g 16 _ (by omega) (by omega)]
    exact x4 t t0 t1
theorem RKn.mq {h h' : Hp} {K : Kn} {fr to : Nat} (g : ∀ c s, 17 ≤ c → c ≤ 22 → h'.1 c s = h.1 c s) (x : RKn h K fr to) : RKn h' K fr to := by
  intro i a b
  have y := x i a b
  rw [g 20 i (by omega) (by omega), g 21 i (by omega) (by omega), g 22 i (by omega) (by omega)]
  exact y
theorem RLa.mv {h h' : Hp} {L : Lw} (g : ∀ c s, 17 ≤ c → c ≤ 22 → h'.1 c s = h.1 c s) (x : RLa h L) : RLa h' L := by
  intro q hq
  obtain ⟨x1, x2⟩ := x q hq
  rw [g 17 _ (by omega) (by omega), g 18 _ (by omega) (by omega), g 19 _ (by omega) (by omega)]
  exact ⟨x1, fun z => ⟨(x2 z).1, (x2 z).2.1, (x2 z).2.2.mq g⟩⟩
theorem RMo.mv {b : Int32} {d : Prop} {h h' : Hp} {M : Mo} (f : RF b d h h') (x : RMo h M) : RMo h' M := by
  unfold RMo at x ⊢
  rw [f.1 0 72 (fun z => by unfold RS at z; omega), f.1 0 71 (fun z => by unfold RS at z; omega)]
  exact x
theorem RR.mv {b : Int32} {d : Prop} {h h' : Hp} {P : Pl} {M : Mo} {n : Int64} (f : RF b d h h') (e : h'.2 0 67 = h.2 0 67) (x : RR h P M d n) : RR h' P M d n := by
  unfold RR at x ⊢
  rw [f.1 0 70 (fun z => by unfold RS at z; omega), f.1 0 69 (fun z => by unfold RS at z; omega), e]
  exact x
theorem RH.chU {h h' : Hp} {P : Pl} {L : Lw} {M : Mo} {d : Prop} {b : Int32} {A A' : Aw} (ok : POK P) (x : RH h P L M d b A) (f : RF b d h h') (e : RR h' P M d A'.2) (y : RW h' P b A') : RH h' P L M d b A' :=
  ⟨x.1.mv ok f, x.2.1.mv (fun c s q1 q2 => f.1 c s (fun z => by unfold RS at z; omega)), x.2.2.1.mv f, e, y⟩
/-- the law's own scratch -/
def RG (h h' : Hp) : Prop := (∀ c s, (c ≠ 0 ∨ s ≠ 53) → h'.1 c s = h.1 c s) ∧ (∀ c, c ≠ 25 → c ≠ 26 → h'.2 c = h.2 c)
theorem RG.rf {h : Hp} : RG h h := ⟨fun _ _ _ => rfl, fun _ _ _ => rfl⟩
theorem RG.tr {h h' h'' : Hp} (x : RG h h') (y : RG h' h'') : RG h h'' := ⟨fun c s q => (y.1 c s q).trans (x.1 c s q), fun c q1 q2 => (y.2 c q1 q2).trans (x.2 c q1 q2)⟩
theorem RG.RF {b : Int32} {d : Prop} {h h' : Hp} (x : RG h h') : RF b d h h' := ⟨fun c s q => x.1 c s (by unfold RS at q; omega), fun c s q => by
  unfold RT at q
  rw [x.2 c (fun z => q (.inl z)) (fun z => q (.inr (.inl z)))], fun q s => by
  rw [x.1 31 s (.inl (by decide))]
  exact q s⟩
theorem RW.mg {h h' : Hp} {P : Pl} {b : Int32} {A : Aw} (g : ∀ c s, 27 ≤ c → c ≤ 39 → h'.1 c s = h.1 c s) (x : RW h P b A) : RW h' P b A := by
  obtain ⟨x1, x2, x3, x4, x5, x6, x7⟩ := x
  refine ⟨fun i a c => ?_, fun i a c => ?_, fun i a c => ?_, fun i a c => ?_, fun i a c => ?_, fun i a c => ?_, ?_⟩
  · rw [g 27 _ (by omega) (by omega)]; exact x1 i a c
  · rw [g 28 _ (by omega) (by omega)]; exact x2 i a c
  · rw [g 29 _ (by omega) (by omega)]; exact x3 i a c
  · rw [g 30 _ (by omega) (by omega)]; exact x4 i a c
  · rw [g 31 _ (by omega) (by omega)]; exact x5 i a c
  · rw [g 33 _ (by omega) (by omega)]; exact x6 i a c
  · rw [g 34 _ (by omega) (by omega), g 35 _ (by omega) (by omega), g 36 _ (by omega) (by omega), g 37 _ (by omega) (by omega), g 38 _ (by omega) (by omega), g 39 _ (by omega) (by omega)]
    exact x7
theorem RH.mg {h h' : Hp} {P : Pl} {L : Lw} {M : Mo} {d : Prop} {b : Int32} {A : Aw} (ok : POK P) (x : RH h P L M d b A) (f : RG h h') : RH h' P L M d b A :=
  x.chU ok f.RF (x.2.2.2.1.mv (b := b) f.RF (by rw [f.2 0 (by decide) (by decide)])) (x.2.2.2.2.mg fun c s q1 q2 => f.1 c s (by omega))
theorem RH.g {h : Hp} {P : Pl} {L : Lw} {M : Mo} {d : Prop} {b : Int32} {A : Aw} (x : RH h P L M d b A) :
    (h.1 0 12 = P 0 3 ∧ h.1 0 13 = P 0 4 ∧ h.1 0 14 = P 0 5 ∧ h.1 0 15 = P 0 0 ∧ h.1 4 (ix 0) = P 0 1 ∧ h.1 4 (ix 1) = P 0 2) ∧
    (∀ t, 0 ≤ t → t < P 0 3 → h.1 5 (ix t) = P 1 t) ∧ (∀ t, 0 ≤ t → t < P 0 3 → h.1 6 (ix t) = P 2 t) ∧ (∀ t, 0 ≤ t → t < P 0 3 → h.1 7 (ix t) = P 3 t) ∧ (∀ t, 0 ≤ t → t < P 0 3 → h.1 8 (ix t) = P 4 t) ∧
    (∀ t, 0 ≤ t → t < P 0 4 → h.1 9 (ix t) = P 6 t) ∧ (∀ t, 0 ≤ t → t < P 0 4 → h.1 10 (ix t) = P 7 t) ∧ (∀ t, 0 ≤ t → t < P 0 4 → h.1 11 (ix t) = P 8 t) ∧ (∀ t, 0 ≤ t → t < P 0 4 → h.1 12 (ix t) = P 9 t) ∧ (∀ t, 0 ≤ t → t < P 0 4 → h.1 13 (ix t) = P 10 t) ∧
    (∀ t, 0 ≤ t → t < P 0 5 → h.1 14 (ix t) = P 11 t) ∧ (∀ t, 0 ≤ t → t < P 0 5 → h.1 15 (ix t) = P 12 t) ∧ (∀ t, 0 ≤ t → t < P 0 5 → h.1 16 (ix t) = P 13 t) ∧
    (∀ i, 0 ≤ i → i < P 0 4 → h.1 27 (ix (6 * b + i)) = A.1 1 i) ∧ (∀ i, 0 ≤ i → i < P 0 4 → h.1 28 (ix (6 * b + i)) = A.1 2 i) ∧ (∀ i, 0 ≤ i → i < P 0 4 → h.1 29 (ix (6 * b + i)) = gl (A.1 4 i)) ∧ (∀ i, 0 ≤ i → i < P 0 4 → h.1 30 (ix (6 * b + i)) = A.1 3 i) ∧ (∀ i, 0 ≤ i → i < P 0 4 → h.1 31 (ix (6 * b + i)) = bt (A.1 0 2) i) ∧ (∀ i, 0 ≤ i → i < P 0 3 → h.1 33 (ix (6 * b + i)) = A.1 6 i) ∧
    h.1 34 (ix b) = A.1 0 3 ∧ h.1 35 (ix b) = A.1 0 4 ∧ h.1 36 (ix b) = A.1 0 5 ∧ h.1 37 (ix b) = A.1 0 0 ∧ h.1 38 (ix b) = sy (A.1 0 6) ∧ h.1 39 (ix b) = sy (A.1 0 7) := by
  obtain ⟨⟨p0, p1, p6, p11⟩, -, -, -, x1, x2, x3, x4, x5, x6, x7⟩ := x
  refine ⟨⟨p0.1, p0.2.1, p0.2.2.1, p0.2.2.2.1, ?_, ?_⟩, fun t a b => (p1 t a b).1, fun t a b => (p1 t a b).2.1, fun t a b => (p1 t a b).2.2.1, fun t a b => (p1 t a b).2.2.2, fun t a b => (p6 t a b).1, fun t a b => (p6 t a b).2.1, fun t a b => (p6 t a b).2.2.1, fun t a b => (p6 t a b).2.2.2.1, fun t a b => (p6 t a b).2.2.2.2, fun t a b => (p11 t a b).1, fun t a b => (p11 t a b).2.1, fun t a b => (p11 t a b).2.2, x1, x2, x3, x4, x5, x6, x7⟩
  · simp only [ixl]
    exact p0.2.2.2.2.1
  · simp only [ixl]
    exact p0.2.2.2.2.2
theorem RW.w27 {h : Hp} {P : Pl} {b i y : Int32} {A : Aw} (hb : BOK b) (ok : POK P) (h0 : 0 ≤ i) (h1 : i < P 0 4) (x : RW h P b A) : RW (pI h 27 (ix (6 * b + i)) y) P b (up A 1 i y) := by
  have o1 := ok.1
  obtain ⟨x1, x2, x3, x4, x5, x6, x7⟩ := x
  refine ⟨fun j j0 j1 => ?_, fun j j0 j1 => ?_, fun j j0 j1 => ?_, fun j j0 j1 => ?_, fun j j0 j1 => ?_, fun j j0 j1 => ?_, ?_⟩
  · rw [p6 hb h0 (by lia) j0 (by lia), up_s, x1 j j0 j1]
  · rw [pI_n (by decide), up_n (by decide), x2 j j0 j1]
  · rw [pI_n (by decide), up_n (by decide), x3 j j0 j1]
  · rw [pI_n (by decide), up_n (by decide), x4 j j0 j1]
  · rw [pI_n (by decide), up_n (by decide), x5 j j0 j1]
  · rw [pI_n (by decide), up_n (by decide), x6 j j0 j1]
  · simp only [pI_n (show ¬ 34 = 27 by decide), pI_n (show ¬ 35 = 27 by decide), pI_n (show ¬ 36 = 27 by decide), pI_n (show ¬ 37 = 27 by decide), pI_n (show ¬ 38 = 27 by decide), pI_n (show ¬ 39 = 27 by decide), up_n (show ¬ 0 = 1 by decide)]
    exact x7
theorem RW.w28 {h : Hp} {P : Pl} {b i y : Int32} {A : Aw} (hb : BOK b) (ok : POK P) (h0 : 0 ≤ i) (h1 : i < P 0 4) (x : RW h P b A) : RW (pI h 28 (ix (6 * b + i)) y) P b (up A 2 i y) := by
  have o1 := ok.1
  obtain ⟨x1, x2, x3, x4, x5, x6, x7⟩ := x
  refine ⟨fun j j0 j1 => ?_, fun j j0 j1 => ?_, fun j j0 j1 => ?_, fun j j0 j1 => ?_, fun j j0 j1 => ?_, fun j j0 j1 => ?_, ?_⟩
  · rw [pI_n (by decide), up_n (by decide), x1 j j0 j1]
  · rw [p6 hb h0 (by lia) j0 (by lia), up_s, x2 j j0 j1]
  · rw [pI_n (by decide), up_n (by decide), x3 j j0 j1]
  · rw [pI_n (by decide), up_n (by decide), x4 j j0 j1]
  · rw [pI_n (by decide), up_n (by decide), x5 j j0 j1]
  · rw [pI_n (by decide), up_n (by decide), x6 j j0 j1]
  · simp only [pI_n (show ¬ 34 = 28 by decide), pI_n (show ¬ 35 = 28 by decide), pI_n (show ¬ 36 = 28 by decide), pI_n (show ¬ 37 = 28 by decide), pI_n (show ¬ 38 = 28 by decide), pI_n (show ¬ 39 = 28 by decide), up_n (show ¬ 0 = 2 by decide)]
    exact x7
theorem RW.w29 {h : Hp} {P : Pl} {b i y : Int32} {A : Aw} (hb : BOK b) (ok : POK P) (h0 : 0 ≤ i) (h1 : i < P 0 4) (x : RW h P b A) : RW (pI h 29 (ix (6 * b + i)) (gl y)) P b (up A 4 i y) := by
  have o1 := ok.1
  obtain ⟨x1, x2, x3, x4, x5, x6, x7⟩ := x
  refine ⟨fun j j0 j1 => ?_, fun j j0 j1 => ?_, fun j j0 j1 => ?_, fun j j0 j1 => ?_, fun j j0 j1 => ?_, fun j j0 j1 => ?_, ?_⟩
  · rw [pI_n (by decide), up_n (by decide), x1 j j0 j1]
  · rw [pI_n (by decide), up_n (by decide), x2 j j0 j1]
  · rw [p6 hb h0 (by lia) j0 (by lia), up_s, x3 j j0 j1]
    split <;> rfl
  · rw [pI_n (by decide), up_n (by decide), x4 j j0 j1]
  · rw [pI_n (by decide), up_n (by decide), x5 j j0 j1]
  · rw [pI_n (by decide), up_n (by decide), x6 j j0 j1]
  · simp only [pI_n (show ¬ 34 = 29 by decide), pI_n (show ¬ 35 = 29 by decide), pI_n (show ¬ 36 = 29 by decide), pI_n (show ¬ 37 = 29 by decide), pI_n (show ¬ 38 = 29 by decide), pI_n (show ¬ 39 = 29 by decide), up_n (show ¬ 0 = 4 by decide)]
    exact x7
theorem RW.w30 {h : Hp} {P : Pl} {b i y : Int32} {A : Aw} (hb : BOK b) (ok : POK P) (h0 : 0 ≤ i) (h1 : i < P 0 4) (x : RW h P b A) : RW (pI h 30 (ix (6 * b + i)) y) P b (up A 3 i y) := by
  have o1 := ok.1
  obtain ⟨x1, x2, x3, x4, x5, x6, x7⟩ := x
  refine ⟨fun j j0 j1 => ?_, fun j j0 j1 => ?_, fun j j0 j1 => ?_, fun j j0 j1 => ?_, fun j j0 j1 => ?_, fun j j0 j1 => ?_, ?_⟩
  · rw [pI_n (by decide), up_n (by decide), x1 j j0 j1]
  · rw [pI_n (by decide), up_n (by decide), x2 j j0 j1]
  · rw [pI_n (by decide), up_n (by decide), x3 j j0 j1]
  · rw [p6 hb h0 (by lia) j0 (by lia), up_s, x4 j j0 j1]
  · rw [pI_n (by decide), up_n (by decide), x5 j j0 j1]
  · rw [pI_n (by decide), up_n (by decide), x6 j j0 j1]
  · simp only [pI_n (show ¬ 34 = 30 by decide), pI_n (show ¬ 35 = 30 by decide), pI_n (show ¬ 36 = 30 by decide), pI_n (show ¬ 37 = 30 by decide), pI_n (show ¬ 38 = 30 by decide), pI_n (show ¬ 39 = 30 by decide), up_n (show ¬ 0 = 3 by decide)]
    exact x7
theorem RW.w33 {h : Hp} {P : Pl} {b i y : Int32} {A : Aw} (hb : BOK b) (ok : POK P) (h0 : 0 ≤ i) (h1 : i < P 0 3) (x : RW h P b A) : RW (pI h 33 (ix (6 * b + i)) y) P b (up A 6 i y) := by
  have o1 := ok.1
  obtain ⟨x1, x2, x3, x4, x5, x6, x7⟩ := x
  refine ⟨fun j j0 j1 => ?_, fun j j0 j1 => ?_, fun j j0 j1 => ?_, fun j j0 j1 => ?_, fun j j0 j1 => ?_, fun j j0 j1 => ?_, ?_⟩
  · rw [pI_n (by decide), up_n (by decide), x1 j j0 j1]
  · rw [pI_n (by decide), up_n (by decide), x2 j j0 j1]
  · rw [pI_n (by decide), up_n (by decide), x3 j j0 j1]
  · rw [pI_n (by decide), up_n (by decide), x4 j j0 j1]
  · rw [pI_n (by decide), up_n (by decide), x5 j j0 j1]
  · rw [p6 hb h0 (by lia) j0 (by lia), up_s, x6 j j0 j1]
  · simp only [pI_n (show ¬ 34 = 33 by decide), pI_n (show ¬ 35 = 33 by decide), pI_n (show ¬ 36 = 33 by decide), pI_n (show ¬ 37 = 33 by decide), pI_n (show ¬ 38 = 33 by decide), pI_n (show ¬ 39 = 33 by decide), up_n (show ¬ 0 = 6 by decide)]
    exact x7
theorem RW.w31 {h : Hp} {P : Pl} {b i y z : Int32} {A : Aw} (hb : BOK b) (ok : POK P) (h0 : 0 ≤ i) (h1 : i < P 0 4) (e1 : bt z i = y) (e2 : ∀ j, 0 ≤ j → j < P 0 4 → ¬ j = i → bt z j = bt (A.1 0 2) j) (x : RW h P b A) : RW (pI h 31 (ix (6 * b + i)) y) P b (up A 0 2 z) := by
  have o1 := ok.1
  obtain ⟨x1, x2, x3, x4, x5, x6, x7⟩ := x
  refine ⟨fun j j0 j1 => ?_, fun j j0 j1 => ?_, fun j j0 j1 => ?_, fun j j0 j1 => ?_, fun j j0 j1 => ?_, fun j j0 j1 => ?_, ?_⟩
  · rw [pI_n (by decide), up_n (by decide), x1 j j0 j1]
  · rw [pI_n (by decide), up_n (by decide), x2 j j0 j1]
  · rw [pI_n (by decide), up_n (by decide), x3 j j0 j1]
  · rw [pI_n (by decide), up_n (by decide), x4 j j0 j1]
  · rw [p6 hb h0 (by lia) j0 (by lia), up_s, if_pos rfl, x5 j j0 j1]
    by_cases q : j = i
    · rw [if_pos q, q, e1]
    · rw [if_neg q, e2 j j0 j1 q]
  · rw [pI_n (by decide), up_n (by decide), x6 j j0 j1]
  · obtain ⟨d1, d2, d3, d4, d5, d6⟩ := x7
    refine ⟨?_, ?_, ?_, ?_, ?_, ?_⟩
    · rw [pI_n (by decide), up_s, if_neg (by decide)]; exact d1
    · rw [pI_n (by decide), up_s, if_neg (by decide)]; exact d2
    · rw [pI_n (by decide), up_s, if_neg (by decide)]; exact d3
    · rw [pI_n (by decide), up_s, if_neg (by decide)]; exact d4
    · rw [pI_n (by decide), up_s, if_neg (by decide)]; exact d5
    · rw [pI_n (by decide), up_s, if_neg (by decide)]; exact d6
theorem RW.w34 {h : Hp} {P : Pl} {b y : Int32} {A : Aw} (x : RW h P b A) : RW (pI h 34 (ix b) y) P b (up A 0 3 y) := by
  obtain ⟨x1, x2, x3, x4, x5, x6, x7⟩ := x
  refine ⟨fun j j0 j1 => ?_, fun j j0 j1 => ?_, fun j j0 j1 => ?_, fun j j0 j1 => ?_, fun j j0 j1 => ?_, fun j j0 j1 => ?_, ?_⟩
  · rw [pI_n (by decide), up_n (by decide), x1 j j0 j1]
  · rw [pI_n (by decide), up_n (by decide), x2 j j0 j1]
  · rw [pI_n (by decide), up_n (by decide), x3 j j0 j1]
  · rw [pI_n (by decide), up_n (by decide), x4 j j0 j1]
  · rw [pI_n (by decide), up_s, if_neg (by decide), x5 j j0 j1]
  · rw [pI_n (by decide), up_n (by decide), x6 j j0 j1]
  · obtain ⟨d1, d2, d3, d4, d5, d6⟩ := x7
    refine ⟨?_, ?_, ?_, ?_, ?_, ?_⟩
    · rw [pI_t, if_pos rfl, up_s, if_pos rfl]
    · rw [pI_n (by decide), up_s, if_neg (by decide)]; exact d2
    · rw [pI_n (by decide), up_s, if_neg (by decide)]; exact d3
    · rw [pI_n (by decide), up_s, if_neg (by decide)]; exact d4
    · rw [pI_n (by decide), up_s, if_neg (by decide)]; exact d5
    · rw [pI_n (by decide), up_s, if_neg (by decide)]; exact d6
theorem RW.w35 {h : Hp} {P : Pl} {b y : Int32} {A : Aw} (x : RW h P b A) : RW (pI h 35 (ix b) y) P b (up A 0 4 y) := by
  obtain ⟨x1, x2, x3, x4, x5, x6, x7⟩ := x
  refine ⟨fun j j0 j1 => ?_, fun j j0 j1 => ?_, fun j j0 j1 => ?_, fun j j0 j1 => ?_, fun j j0 j1 => ?_, fun j j0 j1 => ?_, ?_⟩
  · rw [pI_n (by decide), up_n (by decide), x1 j j0 j1]
  · rw [pI_n (by decide), up_n (by decide), x2 j j0 j1]
  · rw [pI_n (by decide), up_n (by decide), x3 j j0 j1]
  · rw [pI_n (by decide), up_n (by decide), x4 j j0 j1]
  · rw [pI_n (by decide), up_s, if_neg (by decide), x5 j j0 j1]
  · rw [pI_n (by decide), up_n (by decide), x6 j j0 j1]
  · obtain ⟨d1, d2, d3, d4, d5, d6⟩ := x7
    refine ⟨?_, ?_, ?_, ?_, ?_, ?_⟩
    · rw [pI_n (by decide), up_s, if_neg (by decide)]; exact d1
    · rw [pI_t, if_pos rfl, up_s, if_pos rfl]
    · rw [pI_n (by decide), up_s, if_neg (by decide)]; exact d3
    · rw [pI_n (by decide), up_s, if_neg (by decide)]; exact d4
    · rw [pI_n (by decide), up_s, if_neg (by decide)]; exact d5
    · rw [pI_n (by decide), up_s, if_neg (by decide)]; exact d6
theorem RW.w36 {h : Hp} {P : Pl} {b y : Int32} {A : Aw} (x : RW h P b A) : RW (pI h 36 (ix b) y) P b (up A 0 5 y) := by
  obtain ⟨x1, x2, x3, x4, x5, x6, x7⟩ := x
  refine ⟨fun j j0 j1 => ?_, fun j j0 j1 => ?_, fun j j0 j1 => ?_, fun j j0 j1 => ?_, fun j j0 j1 => ?_, fun j j0 j1 => ?_, ?_⟩
  · rw [pI_n (by decide), up_n (by decide), x1 j j0 j1]
  · rw [pI_n (by decide), up_n (by decide), x2 j j0 j1]
  · rw [pI_n (by decide), up_n (by decide), x3 j j0 j1]
  · rw [pI_n (by decide), up_n (by decide), x4 j j0 j1]
  · rw [pI_n (by decide), up_s, if_neg (by decide), x5 j j0 j1]
  · rw [pI_n (by decide), up_n (by decide), x6 j j0 j1]
  · obtain ⟨d1, d2, d3, d4, d5, d6⟩ := x7
    refine ⟨?_, ?_, ?_, ?_, ?_, ?_⟩
    · rw [pI_n (by decide), up_s, if_neg (by decide)]; exact d1
    · rw [pI_n (by decide), up_s, if_neg (by decide)]; exact d2
    · rw [pI_t, if_pos rfl, up_s, if_pos rfl]
    · rw [pI_n (by decide), up_s, if_neg (by decide)]; exact d4
    · rw [pI_n (by decide), up_s, if_neg (by decide)]; exact d5
    · rw [pI_n (by decide), up_s, if_neg (by decide)]; exact d6
theorem RW.w37 {h : Hp} {P : Pl} {b y : Int32} {A : Aw} (x : RW h P b A) : RW (pI h 37 (ix b) y) P b (up A 0 0 y) := by
  obtain ⟨x1, x2, x3, x4, x5, x6, x7⟩ := x
  refine ⟨fun j j0 j1 => ?_, fun j j0 j1 => ?_, fun j j0 j1 => ?_, fun j j0 j1 => ?_, fun j j0 j1 => ?_, fun j j0 j1 => ?_, ?_⟩
  · rw [pI_n (by decide), up_n (by decide), x1 j j0 j1]
  · rw [pI_n (by decide), up_n (by decide), x2 j j0 j1]
  · rw [pI_n (by decide), up_n (by decide), x3 j j0 j1]
  · rw [pI_n (by decide), up_n (by decide), x4 j j0 j1]
  · rw [pI_n (by decide), up_s, if_neg (by decide), x5 j j0 j1]
  · rw [pI_n (by decide), up_n (by decide), x6 j j0 j1]
  · obtain ⟨d1, d2, d3, d4, d5, d6⟩ := x7
    refine ⟨?_, ?_, ?_, ?_, ?_, ?_⟩
    · rw [pI_n (by decide), up_s, if_neg (by decide)]; exact d1
    · rw [pI_n (by decide), up_s, if_neg (by decide)]; exact d2
    · rw [pI_n (by decide), up_s, if_neg (by decide)]; exact d3
    · rw [pI_t, if_pos rfl, up_s, if_pos rfl]
    · rw [pI_n (by decide), up_s, if_neg (by decide)]; exact d5
    · rw [pI_n (by decide), up_s, if_neg (by decide)]; exact d6
theorem RW.w38 {h : Hp} {P : Pl} {b y : Int32} {A : Aw} (x : RW h P b A) : RW (pI h 38 (ix b) (sy y)) P b (up A 0 6 y) := by
  obtain ⟨x1, x2, x3, x4, x5, x6, x7⟩ := x
  refine ⟨fun j j0 j1 => ?_, fun j j0 j1 => ?_, fun j j0 j1 => ?_, fun j j0 j1 => ?_, fun j j0 j1 => ?_, fun j j0 j1 => ?_, ?_⟩
  · rw [pI_n (by decide), up_n (by decide), x1 j j0 j1]
  · rw [pI_n (by decide), up_n (by decide), x2 j j0 j1]
  · rw [pI_n (by decide), up_n (by decide), x3 j j0 j1]
  · rw [pI_n (by decide), up_n (by decide), x4 j j0 j1]
  · rw [pI_n (by decide), up_s, if_neg (by decide), x5 j j0 j1]
  · rw [pI_n (by decide), up_n (by decide), x6 j j0 j1]
  · obtain ⟨d1, d2, d3, d4, d5, d6⟩ := x7
    refine ⟨?_, ?_, ?_, ?_, ?_, ?_⟩
    · rw [pI_n (by decide), up_s, if_neg (by decide)]; exact d1
    · rw [pI_n (by decide), up_s, if_neg (by decide)]; exact d2
    · rw [pI_n (by decide), up_s, if_neg (by decide)]; exact d3
    · rw [pI_n (by decide), up_s, if_neg (by decide)]; exact d4
    · rw [pI_t, if_pos rfl, up_s, if_pos rfl]
    · rw [pI_n (by decide), up_s, if_neg (by decide)]; exact d6
theorem RW.w39 {h : Hp} {P : Pl} {b y : Int32} {A : Aw} (x : RW h P b A) : RW (pI h 39 (ix b) (sy y)) P b (up A 0 7 y) := by
  obtain ⟨x1, x2, x3, x4, x5, x6, x7⟩ := x
  refine ⟨fun j j0 j1 => ?_, fun j j0 j1 => ?_, fun j j0 j1 => ?_, fun j j0 j1 => ?_, fun j j0 j1 => ?_, fun j j0 j1 => ?_, ?_⟩
  · rw [pI_n (by decide), up_n (by decide), x1 j j0 j1]
  · rw [pI_n (by decide), up_n (by decide), x2 j j0 j1]
  · rw [pI_n (by decide), up_n (by decide), x3 j j0 j1]
  · rw [pI_n (by decide), up_n (by decide), x4 j j0 j1]
  · rw [pI_n (by decide), up_s, if_neg (by decide), x5 j j0 j1]
  · rw [pI_n (by decide), up_n (by decide), x6 j j0 j1]
  · obtain ⟨d1, d2, d3, d4, d5, d6⟩ := x7
    refine ⟨?_, ?_, ?_, ?_, ?_, ?_⟩
    · rw [pI_n (by decide), up_s, if_neg (by decide)]; exact d1
    · rw [pI_n (by decide), up_s, if_neg (by decide)]; exact d2
    · rw [pI_n (by decide), up_s, if_neg (by decide)]; exact d3
    · rw [pI_n (by decide), up_s, if_neg (by decide)]; exact d4
    · rw [pI_n (by decide), up_s, if_neg (by decide)]; exact d5
    · rw [pI_t, if_pos rfl, up_s, if_pos rfl]
theorem RW.w8 {h : Hp} {P : Pl} {b y : Int32} {A : Aw} (x : RW h P b A) : RW h P b (up A 0 8 y) := by
  obtain ⟨x1, x2, x3, x4, x5, x6, x7⟩ := x
  refine ⟨fun j j0 j1 => ?_, fun j j0 j1 => ?_, fun j j0 j1 => ?_, fun j j0 j1 => ?_, fun j j0 j1 => ?_, fun j j0 j1 => ?_, ?_⟩
  · rw [up_n (by decide), x1 j j0 j1]
  · rw [up_n (by decide), x2 j j0 j1]
  · rw [up_n (by decide), x3 j j0 j1]
  · rw [up_n (by decide), x4 j j0 j1]
  · rw [up_s, if_neg (by decide), x5 j j0 j1]
  · rw [up_n (by decide), x6 j j0 j1]
  · obtain ⟨d1, d2, d3, d4, d5, d6⟩ := x7
    refine ⟨?_, ?_, ?_, ?_, ?_, ?_⟩
    · rw [up_s, if_neg (by decide)]; exact d1
    · rw [up_s, if_neg (by decide)]; exact d2
    · rw [up_s, if_neg (by decide)]; exact d3
    · rw [up_s, if_neg (by decide)]; exact d4
    · rw [up_s, if_neg (by decide)]; exact d5
    · rw [up_s, if_neg (by decide)]; exact d6
theorem RW.w5 {h : Hp} {P : Pl} {b i y : Int32} {A : Aw} (x : RW h P b A) : RW h P b (up A 5 i y) := by
  obtain ⟨x1, x2, x3, x4, x5, x6, x7⟩ := x
  refine ⟨fun j j0 j1 => ?_, fun j j0 j1 => ?_, fun j j0 j1 => ?_, fun j j0 j1 => ?_, fun j j0 j1 => ?_, fun j j0 j1 => ?_, ?_⟩
  · rw [up_n (by decide), x1 j j0 j1]
  · rw [up_n (by decide), x2 j j0 j1]
  · rw [up_n (by decide), x3 j j0 j1]
  · rw [up_n (by decide), x4 j j0 j1]
  · rw [up_n (by decide), x5 j j0 j1]
  · rw [up_n (by decide), x6 j j0 j1]
  · simp only [up_n (show ¬ 0 = 5 by decide)]
    exact x7
theorem dz_n {A : Aw} {r : Nat} {j : Int32} (e : ¬ r = 5) : (dz A).1 r j = A.1 r j := by
  unfold dz
  rw [fst_q]
  exact if_neg e
theorem dz_5 {A : Aw} {j : Int32} : (dz A).1 5 j = 0 := by
  unfold dz
  rw [fst_q]
  exact if_pos rfl
theorem RW.eq {h : Hp} {P : Pl} {b : Int32} {A B : Aw} (e : ∀ r j, ¬ r = 5 → B.1 r j = A.1 r j) (x : RW h P b A) : RW h P b B := by
  obtain ⟨x1, x2, x3, x4, x5, x6, x7⟩ := x
  refine ⟨fun j j0 j1 => ?_, fun j j0 j1 => ?_, fun j j0 j1 => ?_, fun j j0 j1 => ?_, fun j j0 j1 => ?_, fun j j0 j1 => ?_, ?_⟩
  · rw [e _ _ (by decide), x1 j j0 j1]
  · rw [e _ _ (by decide), x2 j j0 j1]
  · rw [e _ _ (by decide), x3 j j0 j1]
  · rw [e _ _ (by decide), x4 j j0 j1]
  · rw [e _ _ (by decide), x5 j j0 j1]
  · rw [e _ _ (by decide), x6 j j0 j1]
  · rw [e _ _ (by decide), e _ _ (by decide), e _ _ (by decide), e _ _ (by decide), e _ _ (by decide), e _ _ (by decide)]
    exact x7
theorem up_self {A : Aw} {r : Nat} {i : Int32} : up A r i (A.1 r i) = A := by
  refine Prod.ext (funext fun a => funext fun b => ?_) rfl
  rw [up_1]
  split
  · split
    · subst_vars; rfl
    · rfl
  · rfl
