/-! the class: a plan and a world as they lie in the heap; the names; an amount -/
def WC (w : Nat) : Prop := w = 45 ∨ w = 52 ∨ w = 75 ∨ w = 82
theorem WC.ly {w : Nat} (hw : WC w) : lay TC w 9 = w + 1 ∧ lay TC w 10 = w + 2 ∧ lay TC w 11 = w + 3 ∧ lay TC w 12 = w + 4 ∧ lay TC w 13 = w + 5 ∧ lay TC w 14 = w + 6 := by
  rcases hw with rfl | rfl | rfl | rfl <;> simp only [lyC, and_self]
theorem WC.al {w : Nat} (hw : WC w) : al TC (w + 1) = 6 ∧ al TC (w + 2) = 6 ∧ al TC (w + 3) = 6 ∧ al TC (w + 4) = 6 ∧ al TC (w + 5) = 6 ∧ al TC (w + 6) = 6 := by
  rcases hw with rfl | rfl | rfl | rfl <;> simp only [alC, Nat.reduceAdd, and_self]
theorem WC.ne {w : Nat} (hw : WC w) : 45 ≤ w ∧ w ≤ 82 ∧ (w ≤ 52 ∨ 75 ≤ w) := by
  rcases hw with rfl | rfl | rfl | rfl <;> omega
theorem WC.n73 {w : Nat} (hw : WC w) : ¬ w = 73 ∧ ¬ w + 1 = 73 ∧ ¬ w + 2 = 73 ∧ ¬ w + 3 = 73 ∧ ¬ w + 4 = 73 ∧ ¬ w + 5 = 73 ∧ ¬ w + 6 = 73 := by
  have := hw.ne
  refine ⟨?_, ?_, ?_, ?_, ?_, ?_, ?_⟩ <;> omega
theorem WC.rd {w : Nat} (hw : WC w) : (∀ (h : Hp) (i : Int32), 0 ≤ i → i < 6 → rI TC h (w + 1) i = some (h.1 (w + 1) (ix i))) ∧ (∀ (h : Hp) (i : Int32), 0 ≤ i → i < 6 → rI TC h (w + 2) i = some (h.1 (w + 2) (ix i))) ∧ (∀ (h : Hp) (i : Int32), 0 ≤ i → i < 6 → rI TC h (w + 3) i = some (h.1 (w + 3) (ix i))) ∧ (∀ (h : Hp) (i : Int32), 0 ≤ i → i < 6 → rI TC h (w + 4) i = some (h.1 (w + 4) (ix i))) ∧ (∀ (h : Hp) (i : Int32), 0 ≤ i → i < 6 → rI TC h (w + 5) i = some (h.1 (w + 5) (ix i))) ∧ (∀ (h : Hp) (i : Int32), 0 ≤ i → i < 6 → rI TC h (w + 6) i = some (h.1 (w + 6) (ix i))) := by
  obtain ⟨a1, a2, a3, a4, a5, a6⟩ := hw.al
  exact ⟨fun h i a b => rI_i 6 a1 (by decide) a b, fun h i a b => rI_i 6 a2 (by decide) a b, fun h i a b => rI_i 6 a3 (by decide) a b, fun h i a b => rI_i 6 a4 (by decide) a b, fun h i a b => rI_i 6 a5 (by decide) a b, fun h i a b => rI_i 6 a6 (by decide) a b⟩
theorem WC.wt {w : Nat} (hw : WC w) : (∀ (h : Hp) (i x : Int32), 0 ≤ i → i < 6 → wI TC h (w + 1) i x = some (pI h (w + 1) (ix i) x)) ∧ (∀ (h : Hp) (i x : Int32), 0 ≤ i → i < 6 → wI TC h (w + 2) i x = some (pI h (w + 2) (ix i) x)) ∧ (∀ (h : Hp) (i x : Int32), 0 ≤ i → i < 6 → wI TC h (w + 3) i x = some (pI h (w + 3) (ix i) x)) ∧ (∀ (h : Hp) (i x : Int32), 0 ≤ i → i < 6 → wI TC h (w + 4) i x = some (pI h (w + 4) (ix i) x)) ∧ (∀ (h : Hp) (i x : Int32), 0 ≤ i → i < 6 → wI TC h (w + 5) i x = some (pI h (w + 5) (ix i) x)) ∧ (∀ (h : Hp) (i x : Int32), 0 ≤ i → i < 6 → wI TC h (w + 6) i x = some (pI h (w + 6) (ix i) x)) := by
  obtain ⟨a1, a2, a3, a4, a5, a6⟩ := hw.al
  exact ⟨fun h i x a b => wI_i 6 a1 (by decide) a b, fun h i x a b => wI_i 6 a2 (by decide) a b, fun h i x a b => wI_i 6 a3 (by decide) a b, fun h i x a b => wI_i 6 a4 (by decide) a b, fun h i x a b => wI_i 6 a5 (by decide) a b, fun h i x a b => wI_i 6 a6 (by decide) a b⟩
def CP (h : Hp) (p : Nat) (P : Pl) : Prop :=
  (h.1 p 0 = P 0 0 ∧ h.1 p 1 = P 0 1 ∧ h.1 p 2 = P 0 2 ∧ h.1 p 3 = P 0 3 ∧ h.1 p 4 = P 0 4 ∧ h.1 p 5 = P 0 5) ∧
  (∀ t, 0 ≤ t → t < P 0 3 → h.1 (p + 1) (ix t) = P 1 t ∧ h.1 (p + 2) (ix t) = P 2 t ∧ h.1 (p + 3) (ix t) = P 3 t ∧ h.1 (p + 4) (ix t) = P 4 t) ∧
  (∀ t, 0 ≤ t → t < 61 → h.1 (p + 5) (ix t) = P 5 t) ∧
  (∀ t, 0 ≤ t → t < P 0 4 → h.1 (p + 6) (ix t) = P 6 t ∧ h.1 (p + 7) (ix t) = P 7 t ∧ h.1 (p + 8) (ix t) = P 8 t ∧ h.1 (p + 9) (ix t) = P 9 t ∧ h.1 (p + 10) (ix t) = P 10 t) ∧
  (∀ t, 0 ≤ t → t < P 0 5 → h.1 (p + 11) (ix t) = P 11 t ∧ h.1 (p + 12) (ix t) = P 12 t ∧ h.1 (p + 13) (ix t) = P 13 t)
def CLa (h : Hp) (l : Nat) (L : Lw) : Prop := ∀ q, q < 3 → h.1 (l + 2) q = nI (L.2.1 q) ∧ h.1 (l + 3) q = nI (L.2.2 q) ∧ ∀ j, L.2.1 q ≤ j → j < L.2.2 q → h.1 (l + 1) j = cdOf (L.1 j)
def CW (h : Hp) (P : Pl) (w : Nat) (A : Aw) : Prop :=
  (∀ r, 1 ≤ r → r ≤ 5 → ∀ i, 0 ≤ i → i < P 0 4 → h.1 (w + r) (ix i) = A.1 r i) ∧ (∀ t, 0 ≤ t → t < P 0 3 → h.1 (w + 6) (ix t) = A.1 6 t) ∧
  (h.1 w 0 = A.1 0 0 ∧ h.1 w 2 = A.1 0 2 ∧ h.1 w 3 = A.1 0 3 ∧ h.1 w 4 = A.1 0 4 ∧ h.1 w 5 = A.1 0 5 ∧ h.1 w 6 = A.1 0 6 ∧ h.1 w 7 = A.1 0 7 ∧ h.1 w 8 = A.1 0 8) ∧ h.2 w 1 = A.2
/-- a plan, laws, how hours go, a world -/
def CH (h : Hp) (P : Pl) (L : Lw) (M : Mo) (w : Nat) (A : Aw) : Prop := CP h 26 P ∧ CLa h 40 L ∧ (h.1 72 2 = M.1 ∧ h.1 72 3 = M.2.1 ∧ h.1 72 4 = M.2.2) ∧ CW h P w A
theorem CH.g {h : Hp} {P : Pl} {L : Lw} {M : Mo} {w : Nat} {A : Aw} (x : CH h P L M w A) :
    (h.1 26 0 = P 0 0 ∧ h.1 26 1 = P 0 1 ∧ h.1 26 2 = P 0 2 ∧ h.1 26 3 = P 0 3 ∧ h.1 26 4 = P 0 4 ∧ h.1 26 5 = P 0 5) ∧ (h.1 72 2 = M.1 ∧ h.1 72 3 = M.2.1 ∧ h.1 72 4 = M.2.2) ∧
    (h.1 w 0 = A.1 0 0 ∧ h.1 w 2 = A.1 0 2 ∧ h.1 w 3 = A.1 0 3 ∧ h.1 w 4 = A.1 0 4 ∧ h.1 w 5 = A.1 0 5 ∧ h.1 w 6 = A.1 0 6 ∧ h.1 w 7 = A.1 0 7 ∧ h.1 w 8 = A.1 0 8) ∧
    (∀ t, 0 ≤ t → t < P 0 3 → h.1 27 (ix t) = P 1 t) ∧ (∀ t, 0 ≤ t → t < P 0 3 → h.1 28 (ix t) = P 2 t) ∧ (∀ t, 0 ≤ t → t < P 0 3 → h.1 29 (ix t) = P 3 t) ∧ (∀ t, 0 ≤ t → t < P 0 3 → h.1 30 (ix t) = P 4 t) ∧
    (∀ t, 0 ≤ t → t < 61 → h.1 31 (ix t) = P 5 t) ∧
    (∀ t, 0 ≤ t → t < P 0 4 → h.1 32 (ix t) = P 6 t) ∧ (∀ t, 0 ≤ t → t < P 0 4 → h.1 33 (ix t) = P 7 t) ∧ (∀ t, 0 ≤ t → t < P 0 4 → h.1 34 (ix t) = P 8 t) ∧ (∀ t, 0 ≤ t → t < P 0 4 → h.1 35 (ix t) = P 9 t) ∧ (∀ t, 0 ≤ t → t < P 0 4 → h.1 36 (ix t) = P 10 t) ∧
    (∀ t, 0 ≤ t → t < P 0 5 → h.1 37 (ix t) = P 11 t) ∧ (∀ t, 0 ≤ t → t < P 0 5 → h.1 38 (ix t) = P 12 t) ∧ (∀ t, 0 ≤ t → t < P 0 5 → h.1 39 (ix t) = P 13 t) ∧
    (∀ i, 0 ≤ i → i < P 0 4 → h.1 (w + 1) (ix i) = A.1 1 i) ∧ (∀ i, 0 ≤ i → i < P 0 4 → h.1 (w + 2) (ix i) = A.1 2 i) ∧ (∀ i, 0 ≤ i → i < P 0 4 → h.1 (w + 3) (ix i) = A.1 3 i) ∧ (∀ i, 0 ≤ i → i < P 0 4 → h.1 (w + 4) (ix i) = A.1 4 i) ∧ (∀ i, 0 ≤ i → i < P 0 4 → h.1 (w + 5) (ix i) = A.1 5 i) ∧ (∀ i, 0 ≤ i → i < P 0 3 → h.1 (w + 6) (ix i) = A.1 6 i) := by
  obtain ⟨⟨p0, p1, p5, p6, p11⟩, x2, x3, ⟨w1, w6, w0, wn⟩⟩ := x
  exact ⟨p0, x3, w0, fun t a b => (p1 t a b).1, fun t a b => (p1 t a b).2.1, fun t a b => (p1 t a b).2.2.1, fun t a b => (p1 t a b).2.2.2, p5, fun t a b => (p6 t a b).1, fun t a b => (p6 t a b).2.1, fun t a b => (p6 t a b).2.2.1, fun t a b => (p6 t a b).2.2.2.1, fun t a b => (p6 t a b).2.2.2.2, fun t a b => (p11 t a b).1, fun t a b => (p11 t a b).2.1, fun t a b => (p11 t a b).2.2, w1 1 (by decide) (by decide), w1 2 (by decide) (by decide), w1 3 (by decide) (by decide), w1 4 (by decide) (by decide), w1 5 (by decide) (by decide), w6⟩
def S4473 (c : Nat) : Prop := c = 44 ∨ c = 73
def WS (w c : Nat) : Prop := c = 44 ∨ c = 73 ∨ (w ≤ c ∧ c ≤ w + 6)
theorem WS.of {w c : Nat} (h : S4473 c) : WS w c := h.elim .inl (fun q => .inr (.inl q))
theorem CP.mv {S : Nat → Prop} {h h' : Hp} {p : Nat} {P : Pl} (f : Fr S h h') (hS : ∀ c, S c → c < p ∨ p + 13 < c) (x : CP h p P) : CP h' p P := by
  have g : ∀ c, p ≤ c → c ≤ p + 13 → h'.1 c = h.1 c := fun c a b => (f c (fun z => by have := hS c z; omega)).1
  unfold CP at x ⊢
  rw [g p (by omega) (by omega), g (p + 1) (by omega) (by omega), g (p + 2) (by omega) (by omega), g (p + 3) (by omega) (by omega), g (p + 4) (by omega) (by omega), g (p + 5) (by omega) (by omega), g (p + 6) (by omega) (by omega), g (p + 7) (by omega) (by omega), g (p + 8) (by omega) (by omega), g (p + 9) (by omega) (by omega), g (p + 10) (by omega) (by omega), g (p + 11) (by omega) (by omega), g (p + 12) (by omega) (by omega), g (p + 13) (by omega) (by omega)]
  exact x
theorem CLa.mv {S : Nat → Prop} {h h' : Hp} {l : Nat} {L : Lw} (f : Fr S h h') (hS : ∀ c, S c → c ≤ l ∨ l + 3 < c) (x : CLa h l L) : CLa h' l L := by
  have g : ∀ c, l < c → c ≤ l + 3 → h'.1 c = h.1 c := fun c a b => (f c (fun z => by have := hS c z; omega)).1
  unfold CLa at x ⊢
  rw [g (l + 1) (by omega) (by omega), g (l + 2) (by omega) (by omega), g (l + 3) (by omega) (by omega)]
  exact x
theorem CW.mv {S : Nat → Prop} {h h' : Hp} {P : Pl} {w : Nat} {A : Aw} (f : Fr S h h') (hS : ∀ c, S c → c < w ∨ w + 6 < c) (x : CW h P w A) : CW h' P w A := by
  have g : ∀ c, w ≤ c → c ≤ w + 6 → h'.1 c = h.1 c := fun c a b => (f c (fun z => by have := hS c z; omega)).1
  have g2 : h'.2 w = h.2 w := (f w (fun z => by have := hS w z; omega)).2
  unfold CW at x ⊢
  rw [g w (by omega) (by omega), g2, g (w + 6) (by omega) (by omega)]
  refine ⟨fun r a b i c d => ?_, x.2⟩
  rw [g (w + r) (by omega) (by omega)]
  exact x.1 r a b i c d
/-- a world's own cells changed: the rest stands -/
theorem CH.chU {h h' : Hp} {P : Pl} {L : Lw} {M : Mo} {w : Nat} {A A' : Aw} (hw : WC w) (x : CH h P L M w A) (f : Fr (WS w) h h') (y : CW h' P w A') : CH h' P L M w A' := by
  obtain ⟨x1, x2, x3, x4⟩ := x
  have hn := hw.ne
  refine ⟨x1.mv f (fun c q => by unfold WS at q; omega), x2.mv f (fun c q => by unfold WS at q; omega), ?_, y⟩
  rw [(f 72 (fun q => by unfold WS at q; omega)).1]
  exact x3
theorem CH.mv {h h' : Hp} {P : Pl} {L : Lw} {M : Mo} {w : Nat} {A : Aw} (hw : WC w) (x : CH h P L M w A) (f : Fr S4473 h h') : CH h' P L M w A := by
  have hn := hw.ne
  exact x.chU hw (f.mono fun c => WS.of) (x.2.2.2.mv f (fun c q => by unfold S4473 at q; omega))
theorem CW.wr {h : Hp} {P : Pl} {w : Nat} {A : Aw} {i x : Int32} (r : Nat) (h1 : 1 ≤ r) (h5 : r ≤ 5) (h0 : 0 ≤ i) (c : CW h P w A) : CW (pI h (w + r) (ix i) x) P w (up A r i x) := by
  obtain ⟨c1, c2, c3, c4⟩ := c
  refine ⟨fun q a b j d e => ?_, fun t a b => ?_, ?_, c4⟩
  · rw [up_1, ← c1 q a b j d e]
    by_cases z : q = r
    · subst z
      rw [pI_ix h0 d, if_pos rfl]
    · rw [pI_n (by omega), if_neg z]
  · rw [up_1, if_neg (by omega), pI_n (by omega)]
    exact c2 t a b
  · simp only [up_1, if_neg (show ¬ 0 = r by omega), pI_n (show ¬ w = w + r by omega)]
    exact c3
theorem CW.ww {h : Hp} {P : Pl} {w : Nat} {A : Aw} {i x : Int32} (h0 : 0 ≤ i) (c : CW h P w A) : CW (pI h (w + 6) (ix i) x) P w (up A 6 i x) := by
  obtain ⟨c1, c2, c3, c4⟩ := c
  refine ⟨fun q a b j d e => ?_, fun t a b => ?_, ?_, c4⟩
  · rw [up_1, ← c1 q a b j d e, if_neg (by omega), pI_n (by omega)]
  · rw [up_1, if_pos rfl, pI_ix h0 a, c2 t a b]
  · simp only [up_1, if_neg (show ¬ 0 = 6 by omega), pI_n (show ¬ w = w + 6 by omega)]
    exact c3
theorem CW.s0 {h : Hp} {P : Pl} {w : Nat} {A : Aw} {x : Int32} (c : CW h P w A) : CW (pI h w 0 x) P w (up A 0 0 x) := by
  obtain ⟨c1, c2, c3, c4⟩ := c
  refine ⟨fun q a b j d e => ?_, fun t a b => ?_, ?_, c4⟩
  · rw [up_1, ← c1 q a b j d e, if_neg (by omega), pI_n (by omega)]
  · rw [up_1, if_neg (by omega), pI_n (by omega)]
    exact c2 t a b
  · obtain ⟨d0, d2, d3, d4, d5, d6, d7, d8⟩ := c3
    simp only [up_s, pI_t]
    exact ⟨rfl, d2, d3, d4, d5, d6, d7, d8⟩
theorem CW.s2 {h : Hp} {P : Pl} {w : Nat} {A : Aw} {x : Int32} (c : CW h P w A) : CW (pI h w 2 x) P w (up A 0 2 x) := by
  obtain ⟨c1, c2, c3, c4⟩ := c
  refine ⟨fun q a b j d e => ?_, fun t a b => ?_, ?_, c4⟩
  · rw [up_1, ← c1 q a b j d e, if_neg (by omega), pI_n (by omega)]
  · rw [up_1, if_neg (by omega), pI_n (by omega)]
    exact c2 t a b
  · obtain ⟨d0, d2, d3, d4, d5, d6, d7, d8⟩ := c3
    simp only [up_s, pI_t]
    exact ⟨d0, rfl, d3, d4, d5, d6, d7, d8⟩
theorem CW.s3 {h : Hp} {P : Pl} {w : Nat} {A : Aw} {x : Int32} (c : CW h P w A) : CW (pI h w 3 x) P w (up A 0 3 x) := by
  obtain ⟨c1, c2, c3, c4⟩ := c
  refine ⟨fun q a b j d e => ?_, fun t a b => ?_, ?_, c4⟩
  · rw [up_1, ← c1 q a b j d e, if_neg (by omega), pI_n (by omega)]
  · rw [up_1, if_neg (by omega), pI_n (by omega)]
    exact c2 t a b
  · obtain ⟨d0, d2, d3, d4, d5, d6, d7, d8⟩ := c3
    simp only [up_s, pI_t]
    exact ⟨d0, d2, rfl, d4, d5, d6, d7, d8⟩
theorem CW.s4 {h : Hp} {P : Pl} {w : Nat} {A : Aw} {x : Int32} (c : CW h P w A) : CW (pI h w 4 x) P w (up A 0 4 x) := by
  obtain ⟨c1, c2, c3, c4⟩ := c
  refine ⟨fun q a b j d e => ?_, fun t a b => ?_, ?_, c4⟩
  · rw [up_1, ← c1 q a b j d e, if_neg (by omega), pI_n (by omega)]
  · rw [up_1, if_neg (by omega), pI_n (by omega)]
    exact c2 t a b
  · obtain ⟨d0, d2, d3, d4, d5, d6, d7, d8⟩ := c3
    simp only [up_s, pI_t]
    exact ⟨d0, d2, d3, rfl, d5, d6, d7, d8⟩
theorem CW.s5 {h : Hp} {P : Pl} {w : Nat} {A : Aw} {x : Int32} (c : CW h P w A) : CW (pI h w 5 x) P w (up A 0 5 x) := by
  obtain ⟨c1, c2, c3, c4⟩ := c
  refine ⟨fun q a b j d e => ?_, fun t a b => ?_, ?_, c4⟩
  · rw [up_1, ← c1 q a b j d e, if_neg (by omega), pI_n (by omega)]
  · rw [up_1, if_neg (by omega), pI_n (by omega)]
    exact c2 t a b
  · obtain ⟨d0, d2, d3, d4, d5, d6, d7, d8⟩ := c3
    simp only [up_s, pI_t]
    exact ⟨d0, d2, d3, d4, rfl, d6, d7, d8⟩
theorem CW.s6 {h : Hp} {P : Pl} {w : Nat} {A : Aw} {x : Int32} (c : CW h P w A) : CW (pI h w 6 x) P w (up A 0 6 x) := by
  obtain ⟨c1, c2, c3, c4⟩ := c
  refine ⟨fun q a b j d e => ?_, fun t a b => ?_, ?_, c4⟩
  · rw [up_1, ← c1 q a b j d e, if_neg (by omega), pI_n (by omega)]
  · rw [up_1, if_neg (by omega), pI_n (by omega)]
    exact c2 t a b
  · obtain ⟨d0, d2, d3, d4, d5, d6, d7, d8⟩ := c3
    simp only [up_s, pI_t]
    exact ⟨d0, d2, d3, d4, d5, rfl, d7, d8⟩
theorem CW.s7 {h : Hp} {P : Pl} {w : Nat} {A : Aw} {x : Int32} (c : CW h P w A) : CW (pI h w 7 x) P w (up A 0 7 x) := by
  obtain ⟨c1, c2, c3, c4⟩ := c
  refine ⟨fun q a b j d e => ?_, fun t a b => ?_, ?_, c4⟩
  · rw [up_1, ← c1 q a b j d e, if_neg (by omega), pI_n (by omega)]
  · rw [up_1, if_neg (by omega), pI_n (by omega)]
    exact c2 t a b
  · obtain ⟨d0, d2, d3, d4, d5, d6, d7, d8⟩ := c3
    simp only [up_s, pI_t]
    exact ⟨d0, d2, d3, d4, d5, d6, rfl, d8⟩
theorem CW.s8 {h : Hp} {P : Pl} {w : Nat} {A : Aw} {x : Int32} (c : CW h P w A) : CW (pI h w 8 x) P w (up A 0 8 x) := by
  obtain ⟨c1, c2, c3, c4⟩ := c
  refine ⟨fun q a b j d e => ?_, fun t a b => ?_, ?_, c4⟩
  · rw [up_1, ← c1 q a b j d e, if_neg (by omega), pI_n (by omega)]
  · rw [up_1, if_neg (by omega), pI_n (by omega)]
    exact c2 t a b
  · obtain ⟨d0, d2, d3, d4, d5, d6, d7, d8⟩ := c3
    simp only [up_s, pI_t]
    exact ⟨d0, d2, d3, d4, d5, d6, d7, rfl⟩
theorem CW.n {h : Hp} {P : Pl} {w : Nat} {A : Aw} {x : Int64} (c : CW h P w A) : CW (pL h w 1 x) P w (A.1, x) := by
  obtain ⟨c1, c2, c3, c4⟩ := c
  exact ⟨c1, c2, c3, by rw [pL_t, if_pos rfl]⟩
theorem thC {h : Hp} {P : Pl} {L : Lw} {M : Mo} {w : Nat} {A : Aw} {p : Int32} (x : CH h P L M w A) (h0 : 0 ≤ p) (h1 : p < 61) : f_Pl_troughThere TC h 26 p = some (P 5 p) := by
  have g := x.g
  unfold f_Pl_troughThere
  have e : Int32.ofNat 61 = 61 := by decide
  simp only [lyC, alC, e]
  rw [if_neg (by lia), if_neg (by lia)]
  simp (disch := lia) only [rdC, bnd_q, g]
theorem htC {h : Hp} {P : Pl} {L : Lw} {M : Mo} {w : Nat} {A : Aw} {p : Int32} (x : CH h P L M w A) : f_Pl_hasTrough TC h 26 p = if 0 ≤ p ∧ p < P 0 3 then 1 else 0 := by
  have g := x.1.1
  unfold f_Pl_hasTrough
  simp only [g]
  split
  · rw [if_neg (by lia)]
  split
  · rw [if_neg (by lia)]
  · rw [if_pos (by lia)]
theorem onC {h : Hp} {P : Pl} {L : Lw} {M : Mo} {w : Nat} {A : Aw} {i : Int32} (x : CH h P L M w A) : f_Wo_isOn TC h w i = bt (A.1 0 2) i := by
  unfold f_Wo_isOn bt
  rw [x.2.2.2.2.2.1.2.1]
theorem fr_w {S : Nat → Prop} {h h' : Hp} {c j : Nat} {x : Int32} (f : Fr S h h') (hc : S c) : Fr S h (pI h' c j x) := f.tr (Fr.pI hc)
set_option maxRecDepth 4000 in
theorem snC {h : Hp} {P : Pl} {L : Lw} {M : Mo} {w : Nat} {A : Aw} {i : Int32} (hw : WC w) (ok : POK P) (wo : WOK P A) (x : CH h P L M w A) (h0 : 0 ≤ i) (h1 : i < P 0 4) : ∃ h', f_Ho_setNames TC h 72 w i = some h' ∧ Fr (fun c => c = 73) h h' ∧ ∀ j, j < 7 → h'.1 73 j = nmA P M.2.2 A i j := by
  have g := x.g
  obtain ⟨l1, l2, l3, l4, l5, l6⟩ := hw.ly
  obtain ⟨r1, r2, r3, r4, r5, r6⟩ := hw.rd
  obtain ⟨n0, n1, n2, n3, n4, n5, n6⟩ := hw.n73
  have o1 := ok.1
  have w1 := wo.1 i h0 h1
  have hi6 : i < 6 := by lia
  have hp61 : A.1 1 i < 61 := by lia
  have ta := tat_ok ok w1.1 w1.2.1
  unfold f_Ho_setNames
  simp (disch := first | assumption | lia) only [lyC, l1, l2, l3, l4, l5, l6, r1, r2, r3, r4, rdC, wtC, bnd_q, nmd_q, pI_n, g]
  rw [thC x w1.1 hp61, bnd_q]
  have k89 : ∀ z : Int32, ∃ h', jb_Ho_setNames_89 TC (pI (pI (pI h 73 (ix 0) (A.1 2 i)) 73 (ix 1) (P 10 i * M.2.2)) 73 (ix 2) (P 7 i)) 72 w i (A.1 4 i) 73 3 z = some h' ∧ Fr (fun c => c = 73) h h' ∧ h'.1 73 0 = A.1 2 i ∧ h'.1 73 1 = P 10 i * M.2.2 ∧ h'.1 73 2 = P 7 i ∧ h'.1 73 3 = z ∧ h'.1 73 4 = (if 0 ≤ A.1 4 i ∧ A.1 4 i < P 0 3 then abI (P 2 (A.1 4 i) - A.1 1 i) else 0) ∧ h'.1 73 5 = A.1 3 i ∧ h'.1 73 6 = A.1 0 0 := by
    intro z
    unfold jb_Ho_setNames_89 f_Pl_hasTrough
    simp (disch := first | assumption | lia) only [lyC, l1, l2, l3, l4, l5, l6, r1, r2, r3, r4, rdC, wtC, bnd_q, nmd_q, pI_n, g]
    by_cases q : 0 ≤ A.1 4 i ∧ A.1 4 i < P 0 3
    · have q6 : A.1 4 i < 6 := by lia
      rw [if_neg (show ¬ A.1 4 i < 0 by lia), if_neg (show ¬ P 0 3 ≤ A.1 4 i by lia), if_neg (by decide), if_pos q]
      unfold jb_Ho_setNames_131
      obtain ⟨q1, q2⟩ := q
      simp (disch := first | assumption | lia) only [lyC, l1, l2, l3, l4, l5, l6, r1, r2, r3, r4, rdC, wtC, bnd_q, nmd_q, pI_n, g]
      refine ⟨_, rfl, fr_w (fr_w (fr_w (fr_w (fr_w (fr_w (fr_w Fr.rf rfl) rfl) rfl) rfl) rfl) rfl) rfl, ?_⟩
      simp [pI_t, ixl]
    · rw [if_neg q]
      have q2 : (if A.1 4 i < 0 then (0 : Int32) else if P 0 3 ≤ A.1 4 i then 0 else 1) = 0 := by
        split
        · rfl
        split
        · rfl
        · exact absurd ⟨by lia, by lia⟩ q
      rw [q2, if_pos rfl]
      unfold jb_Ho_setNames_131
      simp (disch := first | assumption | lia) only [lyC, l1, l2, l3, l4, l5, l6, r1, r2, r3, r4, rdC, wtC, bnd_q, nmd_q, pI_n, g]
      refine ⟨_, rfl, fr_w (fr_w (fr_w (fr_w (fr_w (fr_w (fr_w Fr.rf rfl) rfl) rfl) rfl) rfl) rfl) rfl, ?_⟩
      simp [pI_t, ixl]
  have fin : ∀ z : Int32, z = (if P 5 (A.1 1 i) = -1 then 0 else A.1 6 (P 5 (A.1 1 i))) → ∃ h', jb_Ho_setNames_89 TC (pI (pI (pI h 73 (ix 0) (A.1 2 i)) 73 (ix 1) (P 10 i * M.2.2)) 73 (ix 2) (P 7 i)) 72 w i (A.1 4 i) 73 3 z = some h' ∧ Fr (fun c => c = 73) h h' ∧ ∀ j, j < 7 → h'.1 73 j = nmA P M.2.2 A i j := by
    intro z hz
    obtain ⟨h', c1, c2, d0, d1, d2, d3, d4, d5, d6⟩ := k89 z
    refine ⟨h', c1, c2, fun j hj => ?_⟩
    unfold nmA
    rcases (show j = 0 ∨ j = 1 ∨ j = 2 ∨ j = 3 ∨ j = 4 ∨ j = 5 ∨ j = 6 by omega) with rfl | rfl | rfl | rfl | rfl | rfl | rfl
    · exact d0
    · exact d1
    · exact d2
    · exact d3.trans hz
    · exact d4
    · exact d5
    · exact d6
  by_cases q : P 5 (A.1 1 i) = -1
  · rw [if_pos q]
    exact fin 0 (by rw [if_pos q])
  · rw [if_neg q]
    obtain ⟨t0, t1, t2⟩ := ta q
    have t6 : P 5 (A.1 1 i) < 6 := by lia
    simp (disch := first | assumption | lia) only [r6, bnd_q, pI_n, g]
    exact fin _ (by rw [if_neg q])
theorem al42 : al TC 42 = 3 := by simp only [alC]
theorem nI_lt31 {a : Nat} (h : a ≤ 64) : a < 2 ^ 31 := by omega
/-- what a law of a horse says -/
theorem woC {h : Hp} {P : Pl} {L : Lw} {M : Mo} {w : Nat} {A : Aw} {i : Int32} {q : Nat} (hw : WC w) (ok : POK P) (lk : LOK L) (wo : WOK P A) (x : CH h P L M w A) (h0 : 0 ≤ i) (h1 : i < P 0 4) (hq : q < 3) : ∃ h', f_Ho_worth TC h 72 w (nI q) i = some (er (lawE L q (nmL P M.2.2 A i)), h') ∧ Fr S4473 h h' := by
  obtain ⟨h1', e1, f1, n1⟩ := snC hw ok wo x h0 h1
  obtain ⟨k1, k2, k3⟩ := lk q hq
  obtain ⟨c1, c2, c3⟩ := x.2.1 q hq
  have g : ∀ c, ¬ c = 73 → h1'.1 c = h.1 c := fun c hc => (f1 c hc).1
  have hK : KnOK L.1 (L.2.1 q) (L.2.2 q) := by
    by_cases ht : L.2.1 q < L.2.2 q
    · exact (k3 ht).1
    · intro i a b
      omega
  obtain ⟨h2, e2, e3⟩ := evC (nm := nmL P M.2.2 A i) k2 hq hK (L.2.2 q - L.2.1 q) fu (by unfold fu; omega) (L.2.1 q) 0 h1' [] (by omega) (Nat.le_refl _) (Nat.zero_le _) trivial (by intro v hv; cases hv) (fun j a b => by rw [g 41 (by decide)]; exact c3 j a b) (by rw [g 43 (by decide)]; exact c2) (fun j hj => by rw [n1 j hj]; rfl)
  refine ⟨h2, ?_, ?_⟩
  · unfold f_Ho_worth f_La_worthOf
    rw [e1, bnd_q]
    simp only [lyC]
    rw [rI_ok (n := 3) al42 hq (by decide), g 42 (by decide), bnd_q]
    have c1' : h.1 42 q = nI (L.2.1 q) := c1
    rw [c1']
    rw [show (0 : Int32) = nI 0 from rfl, e3, bnd_q]
    rfl
  · intro c hc
    unfold S4473 at hc
    have a := f1 c (by omega)
    exact ⟨(congrFun e2.1 c).trans a.1, (e2.2 c (by omega)).trans a.2⟩
theorem evS_inL {K : Kn} {nm : Nat → Int64} {fr to : Nat} (hK : KnOK K fr to) (hn : ∀ j, j < 7 → inL (nm j)) : ∀ (m i : Nat) (s r : List Int64), i + m = to → fr ≤ i → (∀ v ∈ s, inL v) → evS K nm m i s = some r → ∀ v ∈ r, inL v := by
  intro m
  induction m with
  | zero =>
    intro i s r _ _ hs h
    rw [evS_0] at h
    injection h with h
    exact h ▸ hs
  | succ m ih =>
    intro i s r e1 e2 hs h
    obtain ⟨o1, o2, o3⟩ := hK i e2 (by omega)
    have push : ∀ (x : Int64) (t : List Int64), inL x → (∀ v ∈ t, inL v) → ∀ v ∈ x :: t, inL v := fun x t hx ht v hv => by
      rcases List.mem_cons.mp hv with rfl | hv
      · exact hx
      · exact ht v hv
    rcases (show (K i).1 = 0 ∨ (K i).1 = 1 ∨ (K i).1 = 2 ∨ 3 ≤ (K i).1 by omega) with q | q | q | q
    · rw [evS_num q] at h
      refine ih (i + 1) _ r (by omega) (by omega) (push _ _ ?_ hs) h
      rw [← nI_l (by have := o2 q; omega)]
      exact inL_i32 _
    · rw [evS_nam q] at h
      exact ih (i + 1) _ r (by omega) (by omega) (push _ _ (hn _ (o3 q)) hs) h
    · match s, hs with
      | [], _ =>
        rw [evS_not0 q] at h
        cases h
      | a :: t, hs =>
        rw [evS_not q] at h
        refine ih (i + 1) _ r (by omega) (by omega) (push _ _ ?_ (fun v hv => hs v (List.mem_cons_of_mem _ hv))) h
        split
        · exact inL_1
        · exact inL_0
    · match s, hs with
      | [], _ =>
        rw [evS_op0 q] at h
        cases h
      | [a], _ =>
        rw [evS_op1 q] at h
        cases h
      | b :: a :: t, hs =>
        cases hop : op2 (K i).1 a b with
        | none =>
          rw [evS_opn q hop] at h
          cases h
        | some x =>
          rw [evS_op q hop] at h
          exact ih (i + 1) _ r (by omega) (by omega) (push _ _ (op2_inL q o1 (hs a (List.mem_cons_of_mem _ List.mem_cons_self)) (hs b List.mem_cons_self) hop) (fun v hv => hs v (List.mem_cons_of_mem _ (List.mem_cons_of_mem _ hv)))) h
theorem nmL_inL {P : Pl} {pt : Int32} {A : Aw} {i : Int32} (j : Nat) : inL (nmL P pt A i j) := inL_i32 _
theorem lawE_inL {L : Lw} {q : Nat} {nm : Nat → Int64} {v : Int64} (lk : LOK L) (hq : q < 3) (ht : L.2.1 q < L.2.2 q) (hn : ∀ j, j < 7 → inL (nm j)) (h : lawE L q nm = some v) : inL v := by
  obtain ⟨k1, k2, k3⟩ := lk q hq
  unfold lawE at h
  cases he : evS L.1 nm (L.2.2 q - L.2.1 q) (L.2.1 q) [] with
  | none =>
    rw [he] at h
    cases h
  | some r =>
    rw [he] at h
    match r, h, he with
    | [u], h, he =>
      injection h with h
      subst h
      exact evS_inL (k3 ht).1 hn _ _ _ _ (by omega) (Nat.le_refl _) (by intro v hv; cases hv) he u List.mem_cons_self
/-- an amount -/
theorem amC {h : Hp} {P : Pl} {L : Lw} {M : Mo} {w : Nat} {A : Aw} {i : Int32} {q : Nat} (oth : Int32) (hw : WC w) (ok : POK P) (lk : LOK L) (wo : WOK P A) (x : CH h P L M w A) (h0 : 0 ≤ i) (h1 : i < P 0 4) (hq : q < 3) : ∃ h', f_Ho_amount TC h 72 w (nI q) i oth = some (amt L (nmL P M.2.2 A i) q oth, h') ∧ Fr S4473 h h' := by
  obtain ⟨k1, k2, k3⟩ := lk q hq
  obtain ⟨c1, c2, c3⟩ := x.2.1 q hq
  have c1' : h.1 42 q = nI (L.2.1 q) := c1
  have c2' : h.1 43 q = nI (L.2.2 q) := c2
  unfold f_Ho_amount f_La_isTold
  simp only [lyC]
  rw [rI_ok (n := 3) alC3 hq (by decide), bnd_q, c2', rI_ok (n := 3) al42 hq (by decide), bnd_q, c1']
  by_cases ht : L.2.1 q < L.2.2 q
  · rw [if_neg (nI_ge ht (by omega)), bnd_q, if_neg (by decide)]
    obtain ⟨h2, e2, f2⟩ := woC hw ok lk wo x h0 h1 hq
    unfold f_Ho_worth at e2
    obtain ⟨hs, es, e3⟩ := bnd_e e2
    simp only [lyC] at e3
    obtain ⟨r3, e4, e5⟩ := bnd_e e3
    rw [es, bnd_q, e4, bnd_q]
    injection e5 with e6
    injection e6 with e7 e8
    refine ⟨h2, ?_, f2⟩
    rw [e7, e8]
    unfold amt
    rw [if_pos ht]
    cases hl : lawE L q (nmL P M.2.2 A i) with
    | none =>
      rw [er_n, if_pos ((lc_eq0 _ _).mpr rfl)]
    | some v =>
      rw [er_s]
      rw [if_neg (inL_ERR (lawE_inL lk hq ht (fun j _ => nmL_inL j) hl))]
      rfl
  · rw [if_pos (nI_le (by omega) (by omega)), bnd_q, if_pos rfl]
    refine ⟨h, ?_, Fr.rf⟩
    unfold amt
    rw [if_neg ht]
