/-! how both stand between two calls -/
abbrev Ud : Type := Int32 → Nat → Int32 → Int32
/-- places, ways and water laid by at o -/
def SNP (h : Hp) (P : Pl) (c : Nat) (o : Int32) (V : Nat → Int32 → Int32) : Prop := (∀ i, 0 ≤ i → i < P 0 4 → h.1 c (ix (o + i)) = V 1 i) ∧ (∀ i, 0 ≤ i → i < P 0 4 → h.1 c (ix (o + 6 + i)) = gl (V 4 i)) ∧ (∀ t, 0 ≤ t → t < P 0 3 → h.1 c (ix (o + 12 + t)) = V 6 t)
def RIm (h : Hp) (P : Pl) (B : Aw) : Prop := SNP h P 44 0 B.1 ∧ (∀ i, 0 ≤ i → i < P 0 4 → h.1 45 (ix i) = B.1 2 i ∧ h.1 45 (ix (6 + i)) = B.1 3 i ∧ h.1 45 (ix (12 + i)) = bt (B.1 0 2) i ∧ h.1 45 (ix (18 + i)) = B.1 5 i) ∧ (h.1 45 24 = B.1 0 3 ∧ h.1 45 25 = B.1 0 4 ∧ h.1 45 26 = B.1 0 5 ∧ h.1 45 27 = B.1 0 0 ∧ h.1 45 28 = sy (B.1 0 6) ∧ h.1 45 29 = sy (B.1 0 7)) ∧ h.2 0 83 = B.2
/-- the words of the language, as the class has them (packed) and as the reference has them (letters, a blank behind each) -/
def wdC (j : Nat) : Int32 := ([619745280, 690476264, 284773536, 404226048, 605337600, 642945024, 404455424, 153911296, 257310720, 211001984, 48365568, 522190848, 486146048, 679791220, 538022912, 647107584, 773461568, 202964992, 291065856, 284870656] : List Int32).getD j 0
def wdR (j : Nat) : Int32 := ([114, 111, 97, 100, 32, 116, 114, 111, 117, 103, 104, 32, 104, 111, 114, 115, 101, 32, 108, 97, 112, 32, 114, 97, 105, 110, 32, 115, 101, 101, 100, 32, 108, 97, 119, 32, 100, 114, 121, 32, 103, 117, 108, 112, 32, 102, 105, 103, 104, 116, 32, 97, 110, 100, 32, 111, 114, 32, 110, 111, 116, 32, 116, 104, 105, 114, 115, 116, 32, 112, 97, 99, 101, 32, 115, 105, 100, 101, 32, 119, 97, 116, 101, 114, 32, 102, 97, 114, 32, 104, 117, 114, 116, 32, 104, 111, 117, 114, 32] : List Int32).getD j 0
/-- X: 0 what has no index (0 the tape's size, 1 the fault, 2 its place, 3 knots, 4 whether an image is kept, 5 deeds, 6 seen, 7 known), 1 the tape, 2..6 deeds (horse, trough, place, goal, water), 7..11 seen (hour, trough, water, at least, strike of) -/
def CRel (h : Hp) (P : Pl) (L : Lw) (A B : Aw) (X : Pl) : Prop :=
  CNo h P L A ∧ (X 0 4 = 1 → CW h P 52 B) ∧
  (h.1 0 1 = X 0 0 ∧ h.1 2 1 = X 0 1 ∧ h.1 2 2 = X 0 2 ∧ h.1 40 0 = X 0 3 ∧ h.1 0 6 = X 0 4 ∧ h.1 59 0 = X 0 5 ∧ h.1 65 0 = X 0 6 ∧ h.1 65 1 = X 0 7) ∧
  (∀ j, 0 ≤ j → j < X 0 0 → h.1 1 (ix j) = (X 1 j).toInt8.toInt32) ∧
  (∀ k, 0 ≤ k → k < X 0 5 → h.1 60 (ix k) = X 2 k ∧ h.1 61 (ix k) = X 3 k ∧ (¬ X 2 k = -1 → h.1 62 (ix k) = X 4 k ∧ h.1 63 (ix k) = X 5 k) ∧ (X 2 k = -1 → h.1 64 (ix k) = X 6 k)) ∧
  (∀ k, 0 ≤ k → k < X 0 6 → h.1 70 (ix k) = X 11 k ∧ (X 11 k = -1 → h.1 66 (ix k) = X 7 k ∧ h.1 67 (ix k) = X 8 k ∧ h.1 68 (ix k) = X 9 k ∧ h.1 69 (ix k) = X 10 k)) ∧
  (∀ j, j < 20 → h.1 23 j = wdC j)
def RRel (h : Hp) (P : Pl) (L : Lw) (A B : Aw) (X : Pl) (U : Ud) : Prop :=
  RK h P L A ∧ (X 0 4 = 1 → RIm h P B) ∧
  (h.1 0 1 = X 0 0 ∧ h.1 0 4 = X 0 1 ∧ h.1 0 5 = X 0 2 ∧ h.1 0 16 = X 0 3 ∧ h.1 0 80 = X 0 4 ∧ h.1 0 78 = X 0 5 ∧ h.1 0 74 = X 0 6 ∧ h.1 0 75 = X 0 7) ∧
  (∀ j, 0 ≤ j → j < X 0 0 → h.1 1 (ix j) = X 1 j) ∧
  (∀ k, 0 ≤ k → k < X 0 5 → SNP h P 43 (18 * k) (U k)) ∧
  (∀ k, 0 ≤ k → k < X 0 6 → h.1 41 (ix (4 * k)) = (if X 11 k = -1 then X 7 k else -1) ∧ h.1 41 (ix (4 * k + 1)) = (if X 11 k = -1 then X 8 k else X 11 k) ∧ (X 11 k = -1 → h.1 41 (ix (4 * k + 2)) = X 9 k ∧ h.1 41 (ix (4 * k + 3)) = X 10 k)) ∧
  (∀ j, j < 99 → h.1 2 j = wdR j)
def UNK (P : Pl) (X : Pl) (U : Ud) (k : Int32) : Prop :=
  (¬ X 2 k = -1 → (0 ≤ X 2 k ∧ X 2 k < P 0 4 ∧ 0 ≤ X 4 k ∧ X 4 k ≤ P 0 0 ∧ (X 5 k = -2 ∨ (0 ≤ X 5 k ∧ X 5 k < P 0 3))) ∧ (∀ i, 0 ≤ i → i < P 0 4 → U k 1 i = (if i = X 2 k then X 4 k else U (k + 1) 1 i) ∧ U k 4 i = (if i = X 2 k then X 5 k else U (k + 1) 4 i)) ∧ (∀ t, 0 ≤ t → t < P 0 3 → U k 6 t = U (k + 1) 6 t)) ∧
  (X 2 k = -1 → (0 ≤ X 3 k ∧ X 3 k < P 0 3 ∧ 0 ≤ X 6 k ∧ X 6 k ≤ 99) ∧ (∀ i, 0 ≤ i → i < P 0 4 → U k 1 i = U (k + 1) 1 i ∧ U k 4 i = U (k + 1) 4 i) ∧ (∀ t, 0 ≤ t → t < P 0 3 → U k 6 t = (if t = X 3 k then X 6 k else U (k + 1) 6 t)))
def DOK (P : Pl) (A : Aw) (X : Pl) (U : Ud) : Prop :=
  (0 ≤ X 0 5 ∧ X 0 5 ≤ 20) ∧ (∀ i, 0 ≤ i → i < P 0 4 → U (X 0 5) 1 i = A.1 1 i ∧ U (X 0 5) 4 i = A.1 4 i) ∧ (∀ t, 0 ≤ t → t < P 0 3 → U (X 0 5) 6 t = A.1 6 t) ∧ ∀ k, 0 ≤ k → k < X 0 5 → UNK P X U k
def SOK (P : Pl) (X : Pl) : Prop :=
  (0 ≤ X 0 6 ∧ X 0 6 ≤ 24 ∧ -1 ≤ X 0 7 ∧ X 0 7 ≤ X 0 6) ∧ ∀ k, 0 ≤ k → k < X 0 6 → (X 11 k = -1 ∧ 1 ≤ X 7 k ∧ X 7 k ≤ 60 ∧ 0 ≤ X 8 k ∧ X 8 k < P 0 3 ∧ 0 ≤ X 9 k ∧ X 9 k ≤ 99 ∧ (X 10 k = 0 ∨ X 10 k = 1)) ∨ (0 ≤ X 11 k ∧ X 11 k < k)
/-- who talked and who fought: bits of two sides alone -/
def TK (A : Aw) : Prop := A.1 0 6 &&& 2254 = A.1 0 6 ∧ A.1 0 7 &&& 2254 = A.1 0 7
def PRel (P : Pl) (L : Lw) (A B : Aw) (X : Pl) (U : Ud) : Prop :=
  POK P ∧ LOK L ∧ WOK P A ∧ ONK P 0 A ∧ (X 0 4 = 0 ∨ X 0 4 = 1) ∧ (X 0 4 = 1 → WOK P B ∧ ONK P 0 B) ∧ (0 ≤ X 0 0 ∧ X 0 0 ≤ 700) ∧ (∀ j, 0 ≤ j → j < X 0 0 → 0 ≤ X 1 j ∧ X 1 j ≤ 255) ∧ DOK P A X U ∧ SOK P X ∧ TK A ∧ (X 0 4 = 1 → TK B)
def Rl (hC hR : Hp) : Prop := ∃ (P : Pl) (L : Lw) (A B : Aw) (X : Pl) (U : Ud), PRel P L A B X U ∧ CRel hC P L A B X ∧ RRel hR P L A B X U
theorem CRel.mv {h h' : Hp} {P : Pl} {L : Lw} {A B : Aw} {X : Pl} (f : Fr SC h h') (x : CRel h P L A B X) : CRel h' P L A B X := by
  have g : ∀ c, ¬ c = 44 → c ≤ 70 → h'.1 c = h.1 c := fun c a b => (f c (fun z => by unfold SC at z; omega)).1
  obtain ⟨x1, x2, x3, x4, x5, x6, x7⟩ := x
  refine ⟨x1.mv f, fun q => (x2 q).mv f (fun c z => by unfold SC at z; omega), ?_, ?_, ?_, ?_, by rw [g 23 (by decide) (by decide)]; exact x7⟩
  · rw [g 0 (by decide) (by decide), g 2 (by decide) (by decide), g 40 (by decide) (by decide), g 59 (by decide) (by decide), g 65 (by decide) (by decide)]
    exact x3
  · rw [g 1 (by decide) (by decide)]
    exact x4
  · rw [g 60 (by decide) (by decide), g 61 (by decide) (by decide), g 62 (by decide) (by decide), g 63 (by decide) (by decide), g 64 (by decide) (by decide)]
    exact x5
  · rw [g 70 (by decide) (by decide), g 66 (by decide) (by decide), g 67 (by decide) (by decide), g 68 (by decide) (by decide), g 69 (by decide) (by decide)]
    exact x6
theorem RRel.mv {h h' : Hp} {P : Pl} {L : Lw} {A B : Aw} {X : Pl} {U : Ud} (ok : POK P) (f : KF h h') (x : RRel h P L A B X U) : RRel h' P L A B X U := by
  have g : ∀ c, ¬ c = 0 → ¬ c = 40 → ¬ c = 42 → (c < 27 ∨ 39 < c) → h'.1 c = h.1 c := fun c a b d e => funext fun s => f.1 c s (fun z => by unfold RX at z; omega)
  have g0 : ∀ s, ¬ (s = 2 ∨ s = 53 ∨ (68 ≤ s ∧ s ≤ 72)) → h'.1 0 s = h.1 0 s := fun s a => f.1 0 s (fun z => by unfold RX at z; omega)
  obtain ⟨x1, x2, x3, x4, x5, x6, x7⟩ := x
  refine ⟨x1.mv ok f, ?_, ?_, ?_, ?_, ?_, by rw [g 2 (by decide) (by decide) (by decide) (by decide)]; exact x7⟩
  · unfold RIm SNP at x2 ⊢
    rw [g 44 (by decide) (by decide) (by decide) (by decide), g 45 (by decide) (by decide) (by decide) (by decide), f.2.1 0 83 (by decide)]
    exact x2
  · rw [g0 1 (by decide), g0 4 (by decide), g0 5 (by decide), g0 16 (by decide), g0 80 (by decide), g0 78 (by decide), g0 74 (by decide), g0 75 (by decide)]
    exact x3
  · rw [g 1 (by decide) (by decide) (by decide) (by decide)]
    exact x4
  · unfold SNP at x5 ⊢
    rw [g 43 (by decide) (by decide) (by decide) (by decide)]
    exact x5
  · rw [g 41 (by decide) (by decide) (by decide) (by decide)]
    exact x6
theorem Rl.mk {hC hR : Hp} {P : Pl} {L : Lw} {A B : Aw} {X : Pl} {U : Ud} (p : PRel P L A B X U) (x : CRel hC P L A B X) (y : RRel hR P L A B X U) : Rl hC hR := ⟨P, L, A, B, X, U, p, x, y⟩
theorem RRel.th {h : Hp} {P : Pl} {L : Lw} {A B : Aw} {X : Pl} {U : Ud} {v : Int32} (ok : POK P) (x : RRel h P L A B X U) : RRel (pI h 0 2 v) P L A B X U := x.mv ok (KF.pI (.inl ⟨rfl, .inl rfl⟩) (by decide))
theorem CNo.h {h : Hp} {P : Pl} {L : Lw} {A : Aw} (x : CNo h P L A) : CH h P L (h.1 72 2, h.1 72 3, h.1 72 4) 45 A := ⟨x.1, x.2.1, ⟨rfl, rfl, rfl⟩, x.2.2⟩
theorem RK.g {h : Hp} {P : Pl} {L : Lw} {A : Aw} (x : RK h P L A) :
    (h.1 0 12 = P 0 3 ∧ h.1 0 13 = P 0 4 ∧ h.1 0 14 = P 0 5 ∧ h.1 0 15 = P 0 0 ∧ h.1 4 (ix 0) = P 0 1 ∧ h.1 4 (ix 1) = P 0 2) ∧
    (∀ t, 0 ≤ t → t < P 0 3 → h.1 5 (ix t) = P 1 t) ∧ (∀ t, 0 ≤ t → t < P 0 3 → h.1 6 (ix t) = P 2 t) ∧ (∀ t, 0 ≤ t → t < P 0 3 → h.1 7 (ix t) = P 3 t) ∧ (∀ t, 0 ≤ t → t < P 0 3 → h.1 8 (ix t) = P 4 t) ∧
    (∀ t, 0 ≤ t → t < P 0 4 → h.1 9 (ix t) = P 6 t) ∧ (∀ t, 0 ≤ t → t < P 0 4 → h.1 10 (ix t) = P 7 t) ∧ (∀ t, 0 ≤ t → t < P 0 4 → h.1 11 (ix t) = P 8 t) ∧ (∀ t, 0 ≤ t → t < P 0 4 → h.1 12 (ix t) = P 9 t) ∧ (∀ t, 0 ≤ t → t < P 0 4 → h.1 13 (ix t) = P 10 t) ∧
    (∀ i, 0 ≤ i → i < P 0 4 → h.1 27 (ix i) = A.1 1 i) ∧ (∀ i, 0 ≤ i → i < P 0 4 → h.1 28 (ix i) = A.1 2 i) ∧ (∀ i, 0 ≤ i → i < P 0 4 → h.1 29 (ix i) = gl (A.1 4 i)) ∧ (∀ i, 0 ≤ i → i < P 0 4 → h.1 30 (ix i) = A.1 3 i) ∧ (∀ i, 0 ≤ i → i < P 0 4 → h.1 31 (ix i) = bt (A.1 0 2) i) ∧ (∀ i, 0 ≤ i → i < P 0 4 → h.1 32 (ix i) = A.1 5 i) ∧ (∀ i, 0 ≤ i → i < P 0 3 → h.1 33 (ix i) = A.1 6 i) ∧
    h.1 34 (ix 0) = A.1 0 3 ∧ h.1 35 (ix 0) = A.1 0 4 ∧ h.1 36 (ix 0) = A.1 0 5 ∧ h.1 37 (ix 0) = A.1 0 0 ∧ h.1 38 (ix 0) = sy (A.1 0 6) ∧ h.1 39 (ix 0) = sy (A.1 0 7) := by
  obtain ⟨⟨p0, p1, p6, p11⟩, -, ⟨x1, x2, x3, x4, x5, x6, x7⟩, x8, -, -⟩ := x
  simp only [i60] at x1 x2 x3 x4 x5 x6 x8
  refine ⟨⟨p0.1, p0.2.1, p0.2.2.1, p0.2.2.2.1, ?_, ?_⟩, fun t a b => (p1 t a b).1, fun t a b => (p1 t a b).2.1, fun t a b => (p1 t a b).2.2.1, fun t a b => (p1 t a b).2.2.2, fun t a b => (p6 t a b).1, fun t a b => (p6 t a b).2.1, fun t a b => (p6 t a b).2.2.1, fun t a b => (p6 t a b).2.2.2.1, fun t a b => (p6 t a b).2.2.2.2, x1, x2, x3, x4, x5, fun i a b => ?_, x6, x7⟩
  · simp only [ixl]
    exact p0.2.2.2.2.1
  · simp only [ixl]
    exact p0.2.2.2.2.2
  · have := x8 i a b
    rwa [i60] at this
/-- two loops side by side -/
theorem lock {S S' R R' : Type} {N : Int32} {lp : Nat → Int32 → S → R} {lp' : Nat → Int32 → S' → R'} (Q : R → R' → Prop) (I : Int32 → S → S' → Prop) (hN0 : 0 ≤ N) (hN : N ≤ 900)
    (hend : ∀ n m s s', I N s s' → Q (lp (n + 1) N s) (lp' (m + 1) N s'))
    (hstep : ∀ n m i s s', 0 ≤ i → i < N → I i s s' → Q (lp (n + 1) i s) (lp' (m + 1) i s') ∨ ∃ t t', lp (n + 1) i s = lp n (i + 1) t ∧ lp' (m + 1) i s' = lp' m (i + 1) t' ∧ I (i + 1) t t') : ∀ i, 0 ≤ i → i ≤ N → ∀ s s', I i s s' → Q (lp fu i s) (lp' fu i s') := by
  intro i h0 h1
  refine loop_fu (P := fun n i => i ≤ N → ∀ s s', I i s s' → Q (lp n i s) (lp' n i s')) hN ?_ ?_ i h0 h1
  · intro n i h0 h1 h2 s s' hI
    have e : i = N := by lia
    subst e
    exact hend n n s s' hI
  · intro n i h0 h1 ih _ s s' hI
    rcases hstep n n i s s' h0 h1 hI with q | ⟨t, t', e, e', hI'⟩
    · exact q
    · rw [e, e']
      exact ih (by lia) t t' hI'
/-- one loop -/
theorem loopV {S R : Type} {f : Int32 → S → S} {N : Int32} {lp : Nat → Int32 → S → R} {res : S → R} (hN0 : 0 ≤ N) (hN : N ≤ 900) (hend : ∀ n s, lp (n + 1) N s = res s) (hstep : ∀ n i s, 0 ≤ i → i < N → lp (n + 1) i s = lp n (i + 1) (f i s)) : ∀ i, 0 ≤ i → i ≤ N → ∀ s, lp fu i s = res (Fold f N i s) := by
  intro i h0 h1
  refine loop_fu (P := fun n i => i ≤ N → ∀ s, lp n i s = res (Fold f N i s)) hN ?_ ?_ i h0 h1
  · intro n i h0 h1 h2 s
    have e : i = N := by lia
    rw [Fold_ge h0 hN0 h1]
    subst e
    exact hend n s
  · intro n i h0 h1 ih _ s
    rw [Fold_lt h0 h1, hstep n i s h0 h1]
    exact ih (by lia) _
