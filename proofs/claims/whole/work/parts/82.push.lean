/-! a deed is laid by -/
def psX (X : Pl) (a t pl go w : Int32) : Pl := fun r j =>
  if r = 0 then (if j = 5 then X 0 5 + 1 else X 0 j)
  else if j = X 0 5 then (if r = 2 then a else if r = 3 then t else if r = 4 then pl else if r = 5 then go else if r = 6 then w else X r j)
  else X r j
theorem psX_0 {X : Pl} {a t pl go w j : Int32} (q : ¬ j = 5) : psX X a t pl go w 0 j = X 0 j := by
  unfold psX
  rw [if_pos rfl, if_neg q]
theorem psX_5 {X : Pl} {a t pl go w : Int32} : psX X a t pl go w 0 5 = X 0 5 + 1 := by
  unfold psX
  rw [if_pos rfl, if_pos rfl]
theorem psX_n {X : Pl} {a t pl go w j : Int32} {r : Nat} (q : ¬ r = 0) (z : ¬ j = X 0 5) : psX X a t pl go w r j = X r j := by
  unfold psX
  rw [if_neg q, if_neg z]
theorem psX_r {X : Pl} {a t pl go w j : Int32} {r : Nat} (q : ¬ r = 0) (z : ¬ (2 ≤ r ∧ r ≤ 6)) : psX X a t pl go w r j = X r j := by
  unfold psX
  rw [if_neg q, if_neg (show ¬ r = 2 by omega), if_neg (show ¬ r = 3 by omega), if_neg (show ¬ r = 4 by omega), if_neg (show ¬ r = 5 by omega), if_neg (show ¬ r = 6 by omega), ite_self]
theorem psX_m {X : Pl} {a t pl go w : Int32} : psX X a t pl go w 2 (X 0 5) = a ∧ psX X a t pl go w 3 (X 0 5) = t ∧ psX X a t pl go w 4 (X 0 5) = pl ∧ psX X a t pl go w 5 (X 0 5) = go ∧ psX X a t pl go w 6 (X 0 5) = w := by
  unfold psX
  refine ⟨?_, ?_, ?_, ?_, ?_⟩ <;> rw [if_neg (by decide), if_pos rfl] <;> rfl
theorem CRel.pu {h h' : Hp} {P : Pl} {L : Lw} {A B : Aw} {X : Pl} {a t pl go w : Int32} (m0 : 0 ≤ X 0 5) (m1 : X 0 5 ≤ 19) (x : CRel h P L A B X) (g : ∀ d, (d < 59 ∨ 64 < d) → h'.1 d = h.1 d) (g2 : h'.2 = h.2) (e : h'.1 59 0 = X 0 5 + 1) (o : ∀ r, 60 ≤ r → r ≤ 64 → ∀ k : Int32, 0 ≤ k → k < X 0 5 → h'.1 r (ix k) = h.1 r (ix k)) (ea : h'.1 60 (ix (X 0 5)) = a) (et : h'.1 61 (ix (X 0 5)) = t) (ep : ¬ a = -1 → h'.1 62 (ix (X 0 5)) = pl ∧ h'.1 63 (ix (X 0 5)) = go) (ew : a = -1 → h'.1 64 (ix (X 0 5)) = w) : CRel h' P L A B (psX X a t pl go w) := by
  have f : Fr (fun c => 59 ≤ c ∧ c ≤ 64) h h' := fun c hc => ⟨g c (by omega), by rw [g2]⟩
  obtain ⟨x1, x2, x3, x4, x5, x6, x7⟩ := x
  refine ⟨⟨x1.1.mv f (fun c q => by omega), x1.2.1.mv f (fun c q => by omega), x1.2.2.mv f (fun c q => by omega)⟩, ?_, ?_, ?_, ?_, ?_, by rw [g 23 (by decide)]; exact x7⟩
  · rw [psX_0 (by decide)]
    exact fun q => (x2 q).mv f (fun c q => by omega)
  · obtain ⟨a1, a2, a3, a4, a5, a6, a7, a8⟩ := x3
    rw [psX_0 (show ¬ (0 : Int32) = 5 by decide), psX_0 (show ¬ (1 : Int32) = 5 by decide), psX_0 (show ¬ (2 : Int32) = 5 by decide), psX_0 (show ¬ (3 : Int32) = 5 by decide), psX_0 (show ¬ (4 : Int32) = 5 by decide), psX_0 (show ¬ (6 : Int32) = 5 by decide), psX_0 (show ¬ (7 : Int32) = 5 by decide), psX_5, g 0 (by decide), g 2 (by decide), g 40 (by decide), g 65 (by decide), e]
    exact ⟨a1, a2, a3, a4, a5, rfl, a7, a8⟩
  · rw [psX_0 (by decide), g 1 (by decide)]
    intro j p q
    rw [psX_r (by decide) (by decide)]
    exact x4 j p q
  · rw [psX_5]
    intro k k0 k1
    by_cases z : k = X 0 5
    · subst z
      obtain ⟨b1, b2, b3, b4, b5⟩ := psX_m (X := X) (a := a) (t := t) (pl := pl) (go := go) (w := w)
      rw [b1, b2, b3, b4, b5]
      exact ⟨ea, et, ep, ew⟩
    · rw [psX_n (by decide) z, psX_n (by decide) z, psX_n (by decide) z, psX_n (by decide) z, psX_n (by decide) z, o 60 (by decide) (by decide) k k0 (by lia), o 61 (by decide) (by decide) k k0 (by lia), o 62 (by decide) (by decide) k k0 (by lia), o 63 (by decide) (by decide) k k0 (by lia), o 64 (by decide) (by decide) k k0 (by lia)]
      exact x5 k k0 (by lia)
  · rw [psX_0 (by decide), g 70 (by decide), g 66 (by decide), g 67 (by decide), g 68 (by decide), g 69 (by decide)]
    intro k p q
    rw [psX_r (by decide) (by decide), psX_r (by decide) (by decide), psX_r (by decide) (by decide), psX_r (by decide) (by decide), psX_r (by decide) (by decide)]
    exact x6 k p q
/-- the class remembers a horse -/
theorem rhC {h : Hp} {P : Pl} {L : Lw} {A B : Aw} {X : Pl} {i : Int32} (ok : POK P) (h20 : X 0 5 ≤ 20) (h00 : 0 ≤ X 0 5) (x : CRel h P L A B X) (i0 : 0 ≤ i) (i4 : i < P 0 4) : ∃ h', f_De_rememberHorse TC h 59 i 45 = some h' ∧ CRel h' P L A B (psX (shX X) i (-1) (A.1 1 i) (A.1 4 i) 0) := by
  have o1 := ok.1
  have i6 : i < 6 := by lia
  obtain ⟨h1, e1, x1⟩ := roC h20 x
  have m19 := (shX_5 h20).2
  have m0 : 0 ≤ shX X 0 5 := by
    rw [(shX_5 h20).1]
    split
    · exact h00
    · decide
  have e59 := x1.2.2.1.2.2.2.2.2.1
  have g := x1.1.h.g
  simp only [Nat.reduceAdd] at g
  have g46 := g.2.2.2.2.2.2.2.2.2.2.2.2.2.2.2.2.1 i i0 i4
  have g49 := g.2.2.2.2.2.2.2.2.2.2.2.2.2.2.2.2.2.2.2.1 i i0 i4
  clear g
  unfold f_De_rememberHorse
  rw [e1, bnd_q]
  generalize shX X = Y at x1 m19 m0 e59 ⊢
  have m20 : Y 0 5 < 20 := by lia
  simp (disch := first | assumption | decide | omega) only [lyC, rdC, wtC, bnd_q, nmd_q, e59, pI_n, g46, g49]
  refine ⟨_, rfl, x1.pu m0 m19 (fun d hd => ?_) ?_ ?_ (fun r r0 r1 k k0 k1 => ?_) ?_ ?_ (fun _ => ⟨?_, ?_⟩) (fun z => absurd z (by lia))⟩
  · rw [pI_f (by omega), pI_f (by omega), pI_f (by omega), pI_f (by omega), pI_f (by omega)]
  · simp only [pI_l]
  · rw [pI_t, if_pos rfl]
  · rw [pI_n (by omega)]
    have z : ¬ k = Y 0 5 := by lia
    rcases (show r = 60 ∨ r = 61 ∨ r = 62 ∨ r = 63 ∨ r = 64 by omega) with rfl | rfl | rfl | rfl | rfl
    · rw [pI_n (by decide), pI_n (by decide), pI_n (by decide), pI_ix m0 k0, if_neg z]
    · rw [pI_n (by decide), pI_n (by decide), pI_ix m0 k0, if_neg z, pI_n (by decide)]
    · rw [pI_n (by decide), pI_ix m0 k0, if_neg z, pI_n (by decide), pI_n (by decide)]
    · rw [pI_ix m0 k0, if_neg z, pI_n (by decide), pI_n (by decide), pI_n (by decide)]
    · rw [pI_n (by decide), pI_n (by decide), pI_n (by decide), pI_n (by decide)]
  · rw [pI_n (by decide), pI_n (by decide), pI_n (by decide), pI_n (by decide), pI_ix m0 m0, if_pos rfl]
  · rw [pI_n (by decide), pI_n (by decide), pI_n (by decide), pI_ix m0 m0, if_pos rfl]
  · rw [pI_n (by decide), pI_n (by decide), pI_ix m0 m0, if_pos rfl]
  · rw [pI_n (by decide), pI_ix m0 m0, if_pos rfl]
theorem rtC {h : Hp} {P : Pl} {L : Lw} {A B : Aw} {X : Pl} {i : Int32} (ok : POK P) (h20 : X 0 5 ≤ 20) (h00 : 0 ≤ X 0 5) (x : CRel h P L A B X) (i0 : 0 ≤ i) (i4 : i < P 0 3) : ∃ h', f_De_rememberTrough TC h 59 i 45 = some h' ∧ CRel h' P L A B (psX (shX X) (-1) i 0 0 (A.1 6 i)) := by
  have o1 := ok.1
  have i6 : i < 6 := by lia
  obtain ⟨h1, e1, x1⟩ := roC h20 x
  have m19 := (shX_5 h20).2
  have m0 : 0 ≤ shX X 0 5 := by
    rw [(shX_5 h20).1]
    split
    · exact h00
    · decide
  have e59 := x1.2.2.1.2.2.2.2.2.1
  have g := x1.1.h.g
  simp only [Nat.reduceAdd] at g
  have g51 := g.2.2.2.2.2.2.2.2.2.2.2.2.2.2.2.2.2.2.2.2.2 i i0 i4
  clear g
  unfold f_De_rememberTrough
  rw [e1, bnd_q]
  generalize shX X = Y at x1 m19 m0 e59 ⊢
  have m20 : Y 0 5 < 20 := by lia
  simp (disch := first | assumption | decide | omega) only [lyC, rdC, wtC, bnd_q, nmd_q, e59, pI_n, g51]
  refine ⟨_, rfl, x1.pu m0 m19 (fun d hd => ?_) ?_ ?_ (fun r r0 r1 k k0 k1 => ?_) ?_ ?_ (fun z => absurd rfl z) (fun _ => ?_)⟩
  · rw [pI_f (by omega), pI_f (by omega), pI_f (by omega), pI_f (by omega)]
  · simp only [pI_l]
  · rw [pI_t, if_pos rfl]
  · rw [pI_n (by omega)]
    have z : ¬ k = Y 0 5 := by lia
    rcases (show r = 60 ∨ r = 61 ∨ r = 62 ∨ r = 63 ∨ r = 64 by omega) with rfl | rfl | rfl | rfl | rfl
    · rw [pI_n (by decide), pI_n (by decide), pI_ix m0 k0, if_neg z]
    · rw [pI_n (by decide), pI_ix m0 k0, if_neg z, pI_n (by decide)]
    · rw [pI_n (by decide), pI_n (by decide), pI_n (by decide)]
    · rw [pI_n (by decide), pI_n (by decide), pI_n (by decide)]
    · rw [pI_ix m0 k0, if_neg z, pI_n (by decide), pI_n (by decide)]
  · rw [pI_n (by decide), pI_n (by decide), pI_n (by decide), pI_ix m0 m0, if_pos rfl]
  · rw [pI_n (by decide), pI_n (by decide), pI_ix m0 m0, if_pos rfl]
  · rw [pI_n (by decide), pI_ix m0 m0, if_pos rfl]
def puU (X : Pl) (A A' : Aw) (U : Ud) : Ud := fun k => if k = X 0 5 then A.1 else if k = X 0 5 + 1 then A'.1 else U k
/-- the reference remembers -/
theorem reR {h : Hp} {P : Pl} {L : Lw} {A A' B : Aw} {X : Pl} {U : Ud} {a t pl go w : Int32} (ok : POK P) (h20 : X 0 5 ≤ 20) (h00 : 0 ≤ X 0 5) (x : RRel h P L A B X U) : ∃ h', f_Md_remember TR h 0 = some h' ∧ RRel h' P L A B (psX (shX X) a t pl go w) (puU (shX X) A A' (shU X U)) := by
  have o1 := ok.1
  obtain ⟨h1, e1, x1⟩ := roR h20 h00 ok x
  have m19 := (shX_5 h20).2
  have m0 : 0 ≤ shX X 0 5 := by
    rw [(shX_5 h20).1]
    split
    · exact h00
    · decide
  have e78 := x1.2.2.1.2.2.2.2.2.1
  rw [e1]
  generalize shX X = Y at x1 m19 m0 e78 ⊢
  generalize shU X U = V at x1 ⊢
  unfold jb_Md_remember_49
  simp only [lyR]
  rw [e78]
  have b18 : 18 * Y 0 5 + 18 ≤ nI 360 := by
    have : nI 360 = 360 := by decide
    rw [this]
    lia
  obtain ⟨h2, e2, p1, p2, p3, p4⟩ := ptR (h := h1) (o := 18 * Y 0 5) alD.1 (by decide) (by lia) b18 (by lia) (by decide)
  rw [e2, bnd_q, nmd_q]
  refine ⟨_, rfl, ?_⟩
  have g : ∀ c s, ¬ (c = 43 ∨ (c = 0 ∧ s = 78)) → (pI h2 0 78 (h2.1 0 78 + 1)).1 c s = h1.1 c s := fun c s z => by
    rw [pI_1]
    split
    · rw [if_neg (by omega), p2 c (by omega)]
    · rw [p2 c (by omega)]
  have g2 : (pI h2 0 78 (h2.1 0 78 + 1)).2 = h1.2 := by rw [pI_l, p1]
  have g78 : (pI h2 0 78 (h2.1 0 78 + 1)).1 0 78 = Y 0 5 + 1 := by
    rw [pI_t, if_pos rfl, p2 0 (by decide), e78]
  have g43 : ∀ s : Int32, (pI h2 0 78 (h2.1 0 78 + 1)).1 43 (ix s) = h2.1 43 (ix s) := fun s => by rw [pI_n (by decide)]
  generalize pI h2 0 78 (h2.1 0 78 + 1) = h3 at g g2 g78 g43 ⊢
  have kk := x1.1.g
  obtain ⟨⟨a1, a2, a3, a4, a5, a6⟩, x2, x3, x4, x5, x6, x7⟩ := x1
  refine ⟨⟨a1.mw (fun c s q _ => g c s (by omega)) (fun s p q => g 0 s (by omega)), a2.mv (fun c s p q => g c s (by omega)), a3.mg (fun c s p q => g c s (by omega)), ?_, ?_, ?_⟩, ?_, ?_, ?_, ?_, ?_, fun j a => by rw [g 2 j (by omega)]; exact x7 j a⟩
  · intro i j0 j1
    rw [g 32 _ (by omega)]
    exact a4 i j0 j1
  · rw [g2]; exact a5
  · intro s
    rw [g 31 s (by omega)]
    exact a6 s
  · rw [psX_0 (by decide)]
    intro q
    obtain ⟨⟨z1, z2, z3⟩, z4, z5, z6⟩ := x2 q
    refine ⟨⟨fun i a b => ?_, fun i a b => ?_, fun i a b => ?_⟩, fun i a b => ?_, ?_, ?_⟩
    · rw [g 44 _ (by omega)]; exact z1 i a b
    · rw [g 44 _ (by omega)]; exact z2 i a b
    · rw [g 44 _ (by omega)]; exact z3 i a b
    · rw [g 45 _ (by omega), g 45 _ (by omega), g 45 _ (by omega), g 45 _ (by omega)]; exact z4 i a b
    · rw [g 45 _ (by omega), g 45 _ (by omega), g 45 _ (by omega), g 45 _ (by omega), g 45 _ (by omega), g 45 _ (by omega)]; exact z5
    · rw [g2]; exact z6
  · obtain ⟨b1, b2, b3, b4, b5, b6, b7, b8⟩ := x3
    rw [psX_0 (show ¬ (0 : Int32) = 5 by decide), psX_0 (show ¬ (1 : Int32) = 5 by decide), psX_0 (show ¬ (2 : Int32) = 5 by decide), psX_0 (show ¬ (3 : Int32) = 5 by decide), psX_0 (show ¬ (4 : Int32) = 5 by decide), psX_0 (show ¬ (6 : Int32) = 5 by decide), psX_0 (show ¬ (7 : Int32) = 5 by decide), psX_5, g 0 1 (by decide), g 0 4 (by decide), g 0 5 (by decide), g 0 16 (by decide), g 0 80 (by decide), g 0 74 (by decide), g 0 75 (by decide), g78]
    exact ⟨b1, b2, b3, b4, b5, rfl, b7, b8⟩
  · rw [psX_0 (by decide)]
    intro j a b
    rw [g 1 _ (by omega), psX_r (by decide) (by decide)]
    exact x4 j a b
  · rw [psX_5]
    intro k k0 k1
    unfold puU
    by_cases z : k = Y 0 5
    · rw [if_pos z, z]
      refine ⟨fun i a b => ?_, fun i a b => ?_, fun i a b => ?_⟩
      · rw [g43, (p4 i a (by lia)).1]
        exact kk.2.2.2.2.2.2.2.2.2.2.1 i a b
      · rw [g43, (p4 i a (by lia)).2.1]
        exact kk.2.2.2.2.2.2.2.2.2.2.2.2.1 i a b
      · rw [g43, (p4 i a (by lia)).2.2]
        exact kk.2.2.2.2.2.2.2.2.2.2.2.2.2.2.2.2.1 i a b
    · rw [if_neg z, if_neg (by lia)]
      obtain ⟨z1, z2, z3⟩ := x5 k k0 (by lia)
      refine ⟨fun i a b => ?_, fun i a b => ?_, fun i a b => ?_⟩
      · rw [g43, p3 _ (by lia) (.inl (by lia))]
        exact z1 i a b
      · rw [g43, p3 _ (by lia) (.inl (by lia))]
        exact z2 i a b
      · rw [g43, p3 _ (by lia) (.inl (by lia))]
        exact z3 i a b
  · rw [psX_0 (by decide)]
    intro k p q
    rw [psX_r (by decide) (by decide), psX_r (by decide) (by decide), psX_r (by decide) (by decide), psX_r (by decide) (by decide), psX_r (by decide) (by decide), g 41 _ (by omega), g 41 _ (by omega), g 41 _ (by omega), g 41 _ (by omega)]
    exact x6 k p q
theorem PRel.pu {P : Pl} {L : Lw} {A A' B : Aw} {X : Pl} {U : Ud} {a t pl go w : Int32} (p : PRel P L A B X U) (m19 : X 0 5 ≤ 19) (wo : WOK P A') (on : ONK P 0 A') (tk : TK A')
    (hH : ¬ a = -1 → (0 ≤ a ∧ a < P 0 4 ∧ pl = A.1 1 a ∧ go = A.1 4 a) ∧ (∀ i, ¬ i = a → A'.1 1 i = A.1 1 i ∧ A'.1 4 i = A.1 4 i) ∧ ∀ i, A'.1 6 i = A.1 6 i)
    (hT : a = -1 → (0 ≤ t ∧ t < P 0 3 ∧ w = A.1 6 t) ∧ (∀ i, A'.1 1 i = A.1 1 i ∧ A'.1 4 i = A.1 4 i) ∧ ∀ i, ¬ i = t → A'.1 6 i = A.1 6 i) : PRel P L A' B (psX X a t pl go w) (puU X A A' U) := by
  obtain ⟨p1, p2, p3, p4, p5, p6, p7, p8, ⟨d1, d2, d3, d4⟩, p10, p11, p12⟩ := p
  have um : puU X A A' U (X 0 5) = A.1 := by unfold puU; rw [if_pos rfl]
  have um1 : puU X A A' U (X 0 5 + 1) = A'.1 := by unfold puU; rw [if_neg (by lia), if_pos rfl]
  have un : ∀ k, k < X 0 5 → puU X A A' U k = U k := fun k hk => by unfold puU; rw [if_neg (by lia), if_neg (by lia)]
  refine ⟨p1, p2, wo, on, ?_, ?_, ?_, ?_, ⟨?_, ?_, ?_, ?_⟩, ?_, tk, ?_⟩
  · rw [psX_0 (by decide)]; exact p5
  · rw [psX_0 (by decide)]; exact p6
  · rw [psX_0 (by decide)]; exact p7
  · rw [psX_0 (by decide)]
    intro j q1 q2
    rw [psX_r (by decide) (by decide)]
    exact p8 j q1 q2
  · rw [psX_5]
    exact ⟨by lia, by lia⟩
  · rw [psX_5, um1]
    exact fun i _ _ => ⟨rfl, rfl⟩
  · rw [psX_5, um1]
    exact fun i _ _ => rfl
  · rw [psX_5]
    intro k k0 k1
    unfold UNK
    by_cases z : k = X 0 5
    · subst z
      obtain ⟨b1, b2, b3, b4, b5⟩ := psX_m (X := X) (a := a) (t := t) (pl := pl) (go := go) (w := w)
      rw [b1, b2, b3, b4, b5, um, um1]
      refine ⟨fun q => ?_, fun q => ?_⟩
      · obtain ⟨⟨q1, q2, rfl, rfl⟩, q4, q5⟩ := hH q
        have w1 := p3.1 a q1 q2
        refine ⟨⟨q1, q2, w1.1, w1.2.1, w1.2.2.2.2.2.2.1⟩, fun i _ _ => ?_, fun i _ _ => (q5 i).symm⟩
        by_cases y : i = a
        · rw [if_pos y, if_pos y, y]
          exact ⟨rfl, rfl⟩
        · rw [if_neg y, if_neg y]
          exact ⟨(q4 i y).1.symm, (q4 i y).2.symm⟩
      · obtain ⟨⟨q1, q2, rfl⟩, q4, q5⟩ := hT q
        have w1 := p3.2.1 t q1 q2
        refine ⟨⟨q1, q2, w1.1, w1.2⟩, fun i _ _ => ⟨(q4 i).1.symm, (q4 i).2.symm⟩, fun i _ _ => ?_⟩
        by_cases y : i = t
        · rw [if_pos y, y]
        · rw [if_neg y]
          exact (q5 i y).symm
    · have hk : k < X 0 5 := by lia
      have u := d4 k k0 hk
      unfold UNK at u
      rw [psX_n (by decide) z, psX_n (by decide) z, psX_n (by decide) z, psX_n (by decide) z, psX_n (by decide) z, un k hk]
      by_cases y : k + 1 = X 0 5
      · rw [y, um]
        rw [y] at u
        refine ⟨fun q => ?_, fun q => ?_⟩
        · obtain ⟨u1, u2, u3⟩ := u.1 q
          refine ⟨u1, fun i i0 i1 => ?_, fun i i0 i1 => ?_⟩
          · rw [← (d2 i i0 i1).1, ← (d2 i i0 i1).2]
            exact u2 i i0 i1
          · rw [← d3 i i0 i1]
            exact u3 i i0 i1
        · obtain ⟨u1, u2, u3⟩ := u.2 q
          refine ⟨u1, fun i i0 i1 => ?_, fun i i0 i1 => ?_⟩
          · rw [← (d2 i i0 i1).1, ← (d2 i i0 i1).2]
            exact u2 i i0 i1
          · rw [← d3 i i0 i1]
            exact u3 i i0 i1
      · rw [un (k + 1) (by lia)]
        exact u
  · unfold SOK at p10 ⊢
    simp only [psX_r (X := X) (show ¬ 11 = 0 by decide) (by decide), psX_r (X := X) (show ¬ 7 = 0 by decide) (by decide), psX_r (X := X) (show ¬ 8 = 0 by decide) (by decide), psX_r (X := X) (show ¬ 9 = 0 by decide) (by decide), psX_r (X := X) (show ¬ 10 = 0 by decide) (by decide), psX_0 (X := X) (show ¬ (6 : Int32) = 5 by decide), psX_0 (X := X) (show ¬ (7 : Int32) = 5 by decide)]
    exact p10
  · rw [psX_0 (by decide)]; exact p12
