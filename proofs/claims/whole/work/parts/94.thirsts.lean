/-! whose thirst it was -/
theorem lockD {S S' R R' : Type} {lp : Nat → Int32 → S → R} {lp' : Nat → Int32 → S' → R'} {N : Nat} (Q : R → R' → Prop) (I : S → S' → Prop) (hN : N ≤ 900)
    (hend : ∀ n m s s', I s s' → Q (lp (n + 1) (-1) s) (lp' (m + 1) (-1) s'))
    (hstep : ∀ n m i s s', 0 ≤ i → i < nI N → I s s' → ∃ t t', lp (n + 1) i s = lp n (i + -1) t ∧ lp' (m + 1) i s' = lp' m (i + -1) t' ∧ I t t') : ∀ s s', I s s' → Q (lp fu (nI N - 1) s) (lp' fu (nI N - 1) s') := by
  have key : ∀ k, k ≤ N → ∀ n, k < n → ∀ s s', I s s' → Q (lp n (nI k - 1) s) (lp' n (nI k - 1) s') := by
    intro k
    induction k with
    | zero =>
      intro _ n hn s s' hI
      obtain ⟨n, rfl⟩ : ∃ m, n = m + 1 := ⟨n - 1, by omega⟩
      rw [show nI 0 - 1 = -1 by decide]
      exact hend n n s s' hI
    | succ k ih =>
      intro hk n hn s s' hI
      obtain ⟨n, rfl⟩ : ∃ m, n = m + 1 := ⟨n - 1, by omega⟩
      have e : nI (k + 1) - 1 = nI k := by
        rw [← nI_1]
        lia
      rw [e]
      obtain ⟨t, t', e1, e2, e3⟩ := hstep n n (nI k) s s' (nI_pos' (by omega)) (nI_lt (by omega) (by omega)) hI
      rw [e1, e2, show nI k + -1 = nI k - 1 by lia]
      exact ih (by omega) n (by omega) t t' e3
  exact key N (Nat.le_refl _) fu (by unfold fu; omega)
def nk (X : Pl) : Int32 := if X 0 7 = -1 then X 0 6 else X 0 7
theorem nk_ok {P X : Pl} (so : SOK P X) : 0 ≤ nk X ∧ nk X ≤ 24 ∧ nk X ≤ X 0 6 := by
  have := so.1
  unfold nk
  split <;> lia
theorem mkC {h : Hp} {X : Pl} (e0 : h.1 65 0 = X 0 6) (e1 : h.1 65 1 = X 0 7) : f_Se_manyKnown TC h 65 = nk X := by
  unfold f_Se_manyKnown nk
  rw [e0, e1]
theorem mkR {P : Pl} {h : Hp} {X : Pl} (so : SOK P X) (e0 : h.1 0 74 = X 0 6) (e1 : h.1 0 75 = X 0 7) : f_Md_knownBy TR h 0 = nk X := by
  have := so.1
  unfold f_Md_knownBy nk
  rw [e0, e1]
  by_cases c : X 0 7 = -1
  · rw [if_pos c, if_neg (by lia)]
  · rw [if_neg c, if_pos (by lia)]
/-- what was seen, as either side has it -/
def SeC (h : Hp) (X : Pl) : Prop := h.1 65 0 = X 0 6 ∧ h.1 65 1 = X 0 7 ∧ ∀ k, 0 ≤ k → k < X 0 6 → h.1 70 (ix k) = X 11 k ∧ (X 11 k = -1 → h.1 66 (ix k) = X 7 k ∧ h.1 67 (ix k) = X 8 k ∧ h.1 68 (ix k) = X 9 k ∧ h.1 69 (ix k) = X 10 k)
def SeR (h : Hp) (X : Pl) : Prop := h.1 0 74 = X 0 6 ∧ h.1 0 75 = X 0 7 ∧ ∀ k, 0 ≤ k → k < X 0 6 → h.1 41 (ix (4 * k)) = (if X 11 k = -1 then X 7 k else -1) ∧ h.1 41 (ix (4 * k + 1)) = (if X 11 k = -1 then X 8 k else X 11 k) ∧ (X 11 k = -1 → h.1 41 (ix (4 * k + 2)) = X 9 k ∧ h.1 41 (ix (4 * k + 3)) = X 10 k)
theorem SeC.mv {h h' : Hp} {X : Pl} (x : SeC h X) (g : ∀ c, 65 ≤ c → c ≤ 70 → h'.1 c = h.1 c) : SeC h' X := by
  unfold SeC at x ⊢
  rw [g 65 (by decide) (by decide), g 66 (by decide) (by decide), g 67 (by decide) (by decide), g 68 (by decide) (by decide), g 69 (by decide) (by decide), g 70 (by decide) (by decide)]
  exact x
theorem SeR.mv {h h' : Hp} {X : Pl} (x : SeR h X) (g : ∀ c s, (c = 41 ∨ (c = 0 ∧ (s = 74 ∨ s = 75))) → h'.1 c s = h.1 c s) : SeR h' X := by
  obtain ⟨x1, x2, x3⟩ := x
  refine ⟨by rw [g 0 74 (by decide)]; exact x1, by rw [g 0 75 (by decide)]; exact x2, fun k a b => ?_⟩
  rw [g 41 _ (.inl rfl), g 41 _ (.inl rfl), g 41 _ (.inl rfl), g 41 _ (.inl rfl)]
  exact x3 k a b
def F42 (h h' : Hp) : Prop := (∀ c s, ¬ c = 42 → h'.1 c s = h.1 c s) ∧ h'.2 = h.2
def F71 (h h' : Hp) : Prop := (∀ c, ¬ c = 71 → h'.1 c = h.1 c) ∧ h'.2 = h.2
theorem F42.KF {h h' : Hp} (x : F42 h h') : KF h h' := ⟨fun c s q => x.1 c s (fun z => q (by unfold RX; omega)), fun c s _ => by rw [x.2], fun q s => by rw [x.1 31 s (by decide)]; exact q s⟩
theorem F71.Fr {h h' : Hp} (x : F71 h h') : Fr SC h h' := fun c hc => ⟨x.1 c (fun z => hc (by unfold SC; omega)), by rw [x.2]⟩
theorem mk1C {h : Hp} {X : Pl} (x : SeC h X) : ∃ h', f_Se_markStruck TC h 65 = lp_Se_markStruck_28 TC fu h' 65 (nk X - 1) ∧ F71 h h' ∧ ∀ k, 0 ≤ k → k < 24 → h'.1 71 (ix k) = 0 := by
  unfold f_Se_markStruck
  exact loopF (S := Unit) (R := Hp) (f := fun _ s => s) (N := 24) (lp := fun n h k => lp_Se_markStruck_2 TC n h 65 k) (res := fun h => lp_Se_markStruck_28 TC fu h 65 (nk X - 1)) (fun k _ h' => F71 h h' ∧ ∀ j, 0 ≤ j → j < k → h'.1 71 (ix j) = 0) (by decide) (by decide)
    (fun n h' _ I => by
      simp only [lp_Se_markStruck_2, nmd_q]
      rw [if_pos (by decide), mkC (h := h') (X := X) (by rw [I.1.1 65 (by decide)]; exact x.1) (by rw [I.1.1 65 (by decide)]; exact x.2.1)])
    (fun n h' k _ k0 k1 I => by
      refine ⟨pI h' 71 (ix k) 0, ?_, ⟨fun c q => by rw [pI_f q]; exact I.1.1 c q, by rw [pI_l]; exact I.1.2⟩, fun j a b => ?_⟩
      · simp only [lp_Se_markStruck_2]
        simp (disch := first | assumption | decide | omega) only [lyC, wtC, bnd_q, nmd_q]
        rw [if_neg (by lia)]
      · rw [pI_ix k0 a]
        by_cases z : j = k
        · rw [if_pos z]
        · rw [if_neg z]
          exact I.2 j a (by lia)) 0 (by decide) (by decide) () h ⟨⟨fun _ _ => rfl, rfl⟩, fun j a b => absurd b (by lia)⟩
theorem mk1R {P : Pl} {h : Hp} {X : Pl} {a1 : Int32} (so : SOK P X) (x : SeR h X) : ∃ h', lp_Md_thirsts_17 TR fu h 0 a1 0 = lp_Md_thirsts_45 TR fu h' 0 a1 (nk X - 1) ∧ F42 h h' ∧ ∀ k, 0 ≤ k → k < nk X → h'.1 42 (ix k) = 1 := by
  have nn := nk_ok so
  exact loopF (S := Unit) (R := Int32 × Hp) (f := fun _ s => s) (N := nk X) (lp := fun n h k => lp_Md_thirsts_17 TR n h 0 a1 k) (res := fun h => lp_Md_thirsts_45 TR fu h 0 a1 (nk X - 1)) (fun k _ h' => F42 h h' ∧ ∀ j, 0 ≤ j → j < k → h'.1 42 (ix j) = 1) (by lia) (by lia)
    (fun n h' _ I => by
      simp only [lp_Md_thirsts_17, nmd_q]
      rw [mkR (h := h') (X := X) so (by rw [I.1.1 0 74 (by decide)]; exact x.1) (by rw [I.1.1 0 75 (by decide)]; exact x.2.1), if_pos (by lia)])
    (fun n h' k _ k0 k1 I => by
      have k24 : k < 24 := by lia
      refine ⟨pI h' 42 (ix k) 1, ?_, ⟨fun c s q => by rw [pI_n q]; exact I.1.1 c s q, by rw [pI_l]; exact I.1.2⟩, fun j a b => ?_⟩
      · simp only [lp_Md_thirsts_17]
        simp (disch := first | assumption | decide | omega) only [lyR, wtR, bnd_q, nmd_q]
        rw [mkR (h := h') (X := X) so (by rw [I.1.1 0 74 (by decide)]; exact x.1) (by rw [I.1.1 0 75 (by decide)]; exact x.2.1), if_neg (by lia)]
      · rw [pI_ix k0 a]
        by_cases z : j = k
        · rw [if_pos z]
        · rw [if_neg z]
          exact I.2 j a (by lia)) 0 (by decide) (by lia) () h ⟨⟨fun _ _ _ => rfl, rfl⟩, fun j a b => absurd b (by lia)⟩
theorem mk2 {P : Pl} {hC h1 s s' : Hp} {X : Pl} {a1 : Int32} (so : SOK P X) (x : SeC hC X) (y : SeR h1 X) (f : F71 hC s) (f' : F42 h1 s') (i : ∀ k, 0 ≤ k → k < nk X → (s'.1 42 (ix k) = 0 ↔ ¬ s.1 71 (ix k) = 0)) : ∃ t t', lp_Se_markStruck_28 TC fu s 65 (nk X - 1) = some t ∧ lp_Md_thirsts_45 TR fu s' 0 a1 (nk X - 1) = lp_Md_thirsts_95 TR fu t' 0 a1 0 0 ∧ F71 hC t ∧ F42 h1 t' ∧ ∀ k, 0 ≤ k → k < nk X → (t'.1 42 (ix k) = 0 ↔ ¬ t.1 71 (ix k) = 0) := by
  have nn := nk_ok so
  have en : nI (ix (nk X)) = nk X := nI_ix nn.1
  rw [← en]
  refine lockD (S := Hp) (S' := Hp) (N := ix (nk X)) (lp := fun n i s => lp_Se_markStruck_28 TC n s 65 i) (lp' := fun n i s => lp_Md_thirsts_45 TR n s 0 a1 i) (fun a b => ∃ t t', a = some t ∧ b = lp_Md_thirsts_95 TR fu t' 0 a1 0 0 ∧ F71 hC t ∧ F42 h1 t' ∧ ∀ k, 0 ≤ k → k < nI (ix (nk X)) → (t'.1 42 (ix k) = 0 ↔ ¬ t.1 71 (ix k) = 0)) (fun s s' => F71 hC s ∧ F42 h1 s' ∧ ∀ k, 0 ≤ k → k < nk X → (s'.1 42 (ix k) = 0 ↔ ¬ s.1 71 (ix k) = 0)) ?_ ?_ ?_ s s' ⟨f, f', i⟩
  · have := ix_lt (n := 25) nn.1 (by decide) (show nk X < 25 by lia)
    omega
  · intro n m s s' ⟨f, f', i⟩
    simp only [lp_Se_markStruck_28, lp_Md_thirsts_45]
    rw [if_pos (by decide), if_pos (by decide)]
    exact ⟨_, _, rfl, rfl, f, f', by rw [en]; exact i⟩
  · intro n m k s s' k0 k1 ⟨f, f', i⟩
    rw [en] at k1
    have k24 : k < 24 := by lia
    have c1 := x.2.2 k k0 (by lia)
    have c2 := y.2.2 k k0 (by lia)
    have sk := so.2 k k0 (by lia)
    have j0 : 0 ≤ 4 * k := by lia
    have j1 : 4 * k < 96 := by lia
    have j2 : 0 ≤ 4 * k + 1 := by lia
    have j3 : 4 * k + 1 < 96 := by lia
    have e70 : s.1 70 (ix k) = X 11 k := by rw [f.1 70 (by decide)]; exact c1.1
    have e41 : s'.1 41 (ix (4 * k)) = (if X 11 k = -1 then X 7 k else -1) := by rw [f'.1 41 _ (by decide)]; exact c2.1
    have e42 : s'.1 41 (ix (4 * k + 1)) = (if X 11 k = -1 then X 8 k else X 11 k) := by rw [f'.1 41 _ (by decide)]; exact c2.2.1
    have ik := i k k0 k1
    simp only [lp_Se_markStruck_28, lp_Md_thirsts_45]
    unfold jb_Se_markStruck_63 jb_Md_thirsts_85
    simp (disch := first | assumption | decide | omega) only [lyC, lyR, rdC, rdR, bnd_q, nmd_q, e70, e41, e42]
    rw [if_neg (show ¬ k < 0 by lia), if_neg (show ¬ k < 0 by lia)]
    by_cases c : X 11 k = -1
    · rw [if_pos c, if_pos c, if_pos c]
      refine ⟨s, s', rfl, ?_, f, f', i⟩
      by_cases d : s'.1 42 (ix k) = 0
      · rw [if_pos d]
      · rw [if_neg d, if_pos (show 0 ≤ X 7 k by lia)]
    · rw [if_neg c, if_neg c, if_neg c]
      have z0 : 0 ≤ X 11 k := by lia
      have z1 : X 11 k < k := by lia
      have z24 : X 11 k < 24 := by lia
      by_cases d : s.1 71 (ix k) = 0
      · have d' : ¬ s'.1 42 (ix k) = 0 := fun w => ik.mp w d
        rw [if_pos d, if_neg d', if_neg (show ¬ (0 : Int32) ≤ -1 by decide)]
        simp (disch := first | assumption | decide | omega) only [wtC, wtR, bnd_q]
        refine ⟨_, _, rfl, rfl, ⟨fun c q => by rw [pI_f q]; exact f.1 c q, by rw [pI_l]; exact f.2⟩, ⟨fun c s q => by rw [pI_n q]; exact f'.1 c s q, by rw [pI_l]; exact f'.2⟩, fun j a b => ?_⟩
        rw [pI_ix z0 a, pI_ix z0 a]
        by_cases w : j = X 11 k
        · rw [if_pos w, if_pos w]
          simp
        · rw [if_neg w, if_neg w]
          exact i j a b
      · have d' : s'.1 42 (ix k) = 0 := ik.mpr d
        rw [if_neg d, if_pos d']
        exact ⟨s, s', rfl, rfl, f, f', i⟩
/-- which of what was seen counts; whether it is so -/
def cts (X : Pl) (F : Int32 → Int32) (j : Int32) : Prop := X 11 j = -1 ∧ F j = 0
def okj (X : Pl) (F : Int32 → Int32) (A : Aw) (n j : Int32) : Prop := cts X F j → X 7 j = n → (X 9 j ≤ A.1 6 (X 8 j) ↔ X 10 j = 1)
def FlC (h : Hp) (X : Pl) (F : Int32 → Int32) : Prop := ∀ k, 0 ≤ k → k < nk X → h.1 71 (ix k) = F k
def FlR (h : Hp) (X : Pl) (F : Int32 → Int32) : Prop := ∀ k, 0 ≤ k → k < nk X → (h.1 42 (ix k) = 0 ↔ ¬ F k = 0)
theorem ctC {P : Pl} {h : Hp} {X : Pl} {F : Int32 → Int32} {k : Int32} (so : SOK P X) (x : SeC h X) (fl : FlC h X F) (k0 : 0 ≤ k) (k1 : k < nk X) : ∃ v, f_Se_counts TC h 65 k = some v ∧ (v = 0 ↔ ¬ cts X F k) := by
  have nn := nk_ok so
  have k24 : k < 24 := by lia
  have e70 := (x.2.2 k k0 (by lia)).1
  have e71 := fl k k0 k1
  unfold f_Se_counts cts
  simp (disch := first | assumption | decide | omega) only [lyC, rdC, bnd_q, e70, e71]
  by_cases c : X 11 k = -1
  · rw [if_pos c]
    by_cases d : F k = 0
    · rw [if_pos d]
      exact ⟨1, rfl, by simp [c, d]⟩
    · rw [if_neg d]
      exact ⟨0, rfl, by simp [d]⟩
  · rw [if_neg c]
    exact ⟨0, rfl, by simp [c]⟩
theorem fiC {P : Pl} {L : Lw} {M : Mo} {A : Aw} {h : Hp} {X : Pl} {F : Int32 → Int32} {n : Int32} (ok : POK P) (so : SOK P X) (x : SeC h X) (fl : FlC h X F) (c : CH h P L M 75 A) (hn : A.1 0 0 = n) : ∃ v, f_Se_fits TC h 65 75 = some v ∧ (v = 0 ∨ v = 1) ∧ (v = 1 ↔ ∀ j, 0 ≤ j → j < nk X → okj X F A n j) := by
  have nn := nk_ok so
  have o1 := ok.1
  have cg := c.g
  have h75 := cg.2.2.1.1
  have w6 := c.2.2.2.2.1
  unfold f_Se_fits
  refine loop_fu (N := nk X) (P := fun m i => i ≤ nk X → (∀ j, 0 ≤ j → j < i → okj X F A n j) → ∃ v, lp_Se_fits_2 TC m h 65 75 i = some v ∧ (v = 0 ∨ v = 1) ∧ (v = 1 ↔ ∀ j, 0 ≤ j → j < nk X → okj X F A n j)) (by lia) ?_ ?_ 0 (by decide) nn.1 (fun j a b => absurd b (by lia))
  · intro m i i0 i1 i2 I
    simp only [lp_Se_fits_2, nmd_q]
    rw [mkC x.1 x.2.1, if_pos i1]
    exact ⟨1, rfl, .inr rfl, fun _ j a b => I j a (by lia), fun _ => rfl⟩
  · intro m i i0 i1 ih _ I
    have i24 : i < 24 := by lia
    obtain ⟨v, e1, e2⟩ := ctC so x fl i0 i1
    have go : okj X F A n i → ∃ v, lp_Se_fits_2 TC m h 65 75 (i + 1) = some v ∧ (v = 0 ∨ v = 1) ∧ (v = 1 ↔ ∀ j, 0 ≤ j → j < nk X → okj X F A n j) := fun z => ih (by lia) (fun j a b => by
      by_cases w : j = i
      · rw [w]
        exact z
      · exact I j a (by lia))
    simp only [lp_Se_fits_2, nmd_q]
    unfold jb_Se_fits_56 jb_Se_fits_67
    simp only [nmd_q]
    rw [mkC x.1 x.2.1, if_neg (by lia), e1, bnd_q]
    by_cases c0 : v = 0
    · rw [if_pos c0]
      exact go (fun z => absurd z (e2.mp c0))
    rw [if_neg c0]
    have ct : cts X F i := by
      by_cases z : cts X F i
      · exact z
      · exact absurd (e2.mpr z) c0
    obtain ⟨s1, s2, s3, s4⟩ := (x.2.2 i i0 (by lia)).2 ct.1
    have sk := so.2 i i0 (by lia)
    have sk' : 0 ≤ X 8 i ∧ X 8 i < P 0 3 ∧ (X 10 i = 0 ∨ X 10 i = 1) := by
      rcases sk with sk | sk
      · exact ⟨sk.2.2.2.1, sk.2.2.2.2.1, sk.2.2.2.2.2.2.2⟩
      · have := ct.1
        exact absurd sk.1 (by lia)
    obtain ⟨t0, t1, b01⟩ := sk'
    have t6 : X 8 i < 6 := by lia
    have e81 : h.1 81 (ix (X 8 i)) = A.1 6 (X 8 i) := w6 _ t0 t1
    simp (disch := first | assumption | decide | omega) only [lyC, rdC, bnd_q, s1, s2, s3, s4, e81]
    rw [h75, hn]
    by_cases c1 : X 7 i = n
    case neg =>
      rw [if_neg c1]
      exact go (fun _ z => absurd z c1)
    rw [if_pos c1]
    have ek : okj X F A n i ↔ (X 9 i ≤ A.1 6 (X 8 i) ↔ X 10 i = 1) := ⟨fun z => z ct c1, fun z _ _ => z⟩
    have stop : ¬ okj X F A n i → ∃ v : Int32, some (0 : Int32) = some v ∧ (v = 0 ∨ v = 1) ∧ (v = 1 ↔ ∀ j, 0 ≤ j → j < nk X → okj X F A n j) := fun z => ⟨0, rfl, .inl rfl, fun w => absurd w (by decide), fun w => absurd (w i i0 i1) z⟩
    by_cases c2 : A.1 6 (X 8 i) < X 9 i
    · rw [if_pos c2]
      by_cases c3 : 0 = X 10 i
      · rw [if_pos c3]
        exact go (ek.mpr ⟨fun z => absurd z (by lia), fun z => absurd z (by lia)⟩)
      · rw [if_neg c3]
        exact stop (fun z => absurd ((ek.mp z).mpr (by lia)) (by lia))
    · rw [if_neg c2]
      by_cases c3 : 1 = X 10 i
      · rw [if_pos c3]
        exact go (ek.mpr ⟨fun z => c3.symm, fun z => by lia⟩)
      · rw [if_neg c3]
        exact stop (fun z => absurd ((ek.mp z).mp (by lia)) (by lia))
theorem fiR {P : Pl} {L : Lw} {M : Mo} {A : Aw} {h : Hp} {X : Pl} {F : Int32 → Int32} {n : Int32} (ok : POK P) (so : SOK P X) (x : SeR h X) (fl : FlR h X F) (c : RH h P L M False 1 A) (n1 : 1 ≤ n) : ∃ v, f_Md_isSo TR h 0 n = some v ∧ (v = 0 ∨ v = 1) ∧ (v = 1 ↔ ∀ j, 0 ≤ j → j < nk X → okj X F A n j) := by
  have nn := nk_ok so
  have o1 := ok.1
  have w6 := c.2.2.2.2.2.2.2.2.2.1
  simp only [i61] at w6
  unfold f_Md_isSo
  refine loop_fu (N := nk X) (P := fun m i => i ≤ nk X → (∀ j, 0 ≤ j → j < i → okj X F A n j) → ∃ v, lp_Md_isSo_2 TR m h 0 n i = some v ∧ (v = 0 ∨ v = 1) ∧ (v = 1 ↔ ∀ j, 0 ≤ j → j < nk X → okj X F A n j)) (by lia) ?_ ?_ 0 (by decide) nn.1 (fun j a b => absurd b (by lia))
  · intro m i i0 i1 i2 I
    simp only [lp_Md_isSo_2, nmd_q]
    rw [mkR so x.1 x.2.1, if_pos i1]
    exact ⟨1, rfl, .inr rfl, fun _ j a b => I j a (by lia), fun _ => rfl⟩
  · intro m i i0 i1 ih _ I
    have i24 : i < 24 := by lia
    have j0 : 0 ≤ 4 * i := by lia
    have j1 : 4 * i < 96 := by lia
    have j2 : 0 ≤ 4 * i + 1 := by lia
    have j3 : 4 * i + 1 < 96 := by lia
    have j4 : 0 ≤ 4 * i + 2 := by lia
    have j5 : 4 * i + 2 < 96 := by lia
    have j6 : 0 ≤ 4 * i + 3 := by lia
    have j7 : 4 * i + 3 < 96 := by lia
    have fk := fl i i0 i1
    obtain ⟨s1, s2, s3⟩ := x.2.2 i i0 (by lia)
    have go : okj X F A n i → ∃ v, lp_Md_isSo_2 TR m h 0 n (i + 1) = some v ∧ (v = 0 ∨ v = 1) ∧ (v = 1 ↔ ∀ j, 0 ≤ j → j < nk X → okj X F A n j) := fun z => ih (by lia) (fun j a b => by
      by_cases w : j = i
      · rw [w]
        exact z
      · exact I j a (by lia))
    simp only [lp_Md_isSo_2, nmd_q]
    unfold jb_Md_isSo_70 jb_Md_isSo_89 jb_Md_isSo_94
    simp (disch := first | assumption | decide | omega) only [lyR, rdR, nmd_q, bnd_q, s1, s2]
    rw [mkR so x.1 x.2.1, if_neg (show ¬ nk X ≤ i by lia)]
    by_cases c0 : h.1 42 (ix i) = 0
    · rw [if_pos c0]
      exact go (fun z => absurd z.2 (fk.mp c0))
    rw [if_neg c0]
    have f0 : F i = 0 := by
      by_cases z : F i = 0
      · exact z
      · exact absurd (fk.mpr z) c0
    by_cases ct : X 11 i = -1
    case neg =>
      rw [if_neg ct, if_neg (show ¬ (-1 : Int32) = n by lia)]
      exact go (fun z => absurd z.1 ct)
    rw [if_pos ct, if_pos ct]
    by_cases c1 : X 7 i = n
    case neg =>
      rw [if_neg c1]
      exact go (fun _ z => absurd z c1)
    rw [if_pos c1]
    have sk := so.2 i i0 (by lia)
    have sk' : 0 ≤ X 8 i ∧ X 8 i < P 0 3 ∧ (X 10 i = 0 ∨ X 10 i = 1) := by
      rcases sk with sk | sk
      · exact ⟨sk.2.2.2.1, sk.2.2.2.2.1, sk.2.2.2.2.2.2.2⟩
      · exact absurd sk.1 (by lia)
    obtain ⟨t0, t1, b01⟩ := sk'
    have t6 : 0 ≤ 6 + X 8 i := by lia
    have t12 : 6 + X 8 i < 12 := by lia
    have e33 := w6 _ t0 t1
    simp (disch := first | assumption | decide | omega) only [rdR, bnd_q, (s3 ct).1, (s3 ct).2, e33]
    have ek : okj X F A n i ↔ (X 9 i ≤ A.1 6 (X 8 i) ↔ X 10 i = 1) := ⟨fun z => z ⟨ct, f0⟩ c1, fun z _ _ => z⟩
    have stop : ¬ okj X F A n i → ∃ v : Int32, some (0 : Int32) = some v ∧ (v = 0 ∨ v = 1) ∧ (v = 1 ↔ ∀ j, 0 ≤ j → j < nk X → okj X F A n j) := fun z => ⟨0, rfl, .inl rfl, fun w => absurd w (by decide), fun w => absurd (w i i0 i1) z⟩
    by_cases c2 : A.1 6 (X 8 i) < X 9 i
    · rw [if_pos c2]
      by_cases c3 : X 10 i = 1
      · rw [if_pos c3, if_neg (show ¬ (0 : Int32) = 1 by decide)]
        exact stop (fun z => absurd ((ek.mp z).mpr c3) (by lia))
      · rw [if_neg c3, if_pos trivial]
        exact go (ek.mpr ⟨fun z => absurd z (by lia), fun z => absurd z c3⟩)
    · rw [if_neg c2]
      by_cases c3 : X 10 i = 1
      · rw [if_pos c3, if_pos trivial]
        exact go (ek.mpr ⟨fun z => c3, fun z => by lia⟩)
      · rw [if_neg c3, if_neg (show ¬ (1 : Int32) = 0 by decide)]
        exact stop (fun z => absurd ((ek.mp z).mp (by lia)) c3)
theorem laC {P : Pl} {h : Hp} {X : Pl} {F : Int32 → Int32} (so : SOK P X) (x : SeC h X) (fl : FlC h X F) : ∃ l, f_Se_lastHour TC h 65 = some l ∧ 0 ≤ l ∧ l ≤ 60 ∧ ∀ j, 0 ≤ j → j < nk X → cts X F j → X 7 j ≤ l := by
  have nn := nk_ok so
  unfold f_Se_lastHour
  refine loop_fu (N := nk X) (P := fun m i => i ≤ nk X → ∀ l, 0 ≤ l → l ≤ 60 → (∀ j, 0 ≤ j → j < i → cts X F j → X 7 j ≤ l) → ∃ l', lp_Se_lastHour_4 TC m h 65 l i = some l' ∧ 0 ≤ l' ∧ l' ≤ 60 ∧ ∀ j, 0 ≤ j → j < nk X → cts X F j → X 7 j ≤ l') (by lia) ?_ ?_ 0 (by decide) nn.1 0 (by decide) (by decide) (fun j a b => absurd b (by lia))
  · intro m i i0 i1 i2 l l0 l1 I
    simp only [lp_Se_lastHour_4, nmd_q]
    rw [mkC x.1 x.2.1, if_pos i1]
    exact ⟨l, rfl, l0, l1, fun j a b => I j a (by lia)⟩
  · intro m i i0 i1 ih _ l l0 l1 I
    have i24 : i < 24 := by lia
    obtain ⟨v, e1, e2⟩ := ctC so x fl i0 i1
    simp only [lp_Se_lastHour_4, nmd_q]
    unfold jb_Se_lastHour_34
    simp only [nmd_q]
    rw [mkC x.1 x.2.1, if_neg (by lia), e1, bnd_q]
    by_cases c0 : v = 0
    · rw [if_pos c0]
      refine ih (by lia) l l0 l1 (fun j a b => ?_)
      by_cases w : j = i
      · rw [w]
        exact fun z => absurd z (e2.mp c0)
      · exact I j a (by lia)
    rw [if_neg c0]
    have ct : cts X F i := by
      by_cases z : cts X F i
      · exact z
      · exact absurd (e2.mpr z) c0
    have s1 := ((x.2.2 i i0 (by lia)).2 ct.1).1
    have sk := so.2 i i0 (by lia)
    have sk' : 1 ≤ X 7 i ∧ X 7 i ≤ 60 := by
      rcases sk with sk | sk
      · exact ⟨sk.2.1, sk.2.2.1⟩
      · have := ct.1
        exact absurd sk.1 (by lia)
    simp (disch := first | assumption | decide | omega) only [lyC, rdC, bnd_q, s1]
    refine ih (by lia) (mxI l (X 7 i)) ?_ ?_ (fun j a b z => ?_)
    · unfold mxI
      split <;> lia
    · unfold mxI
      split <;> lia
    · by_cases w : j = i
      · rw [w]
        unfold mxI
        split <;> lia
      · have := I j a (by lia) z
        unfold mxI
        split <;> lia
theorem hrN_00 {P : Pl} {L : Lw} {M : Mo} {A : Aw} {N : Int32} (N0 : 0 ≤ N) : (hrN P L M N A).1 0 0 = A.1 0 0 + N := by
  unfold hrN
  exact Fold_inv (f := fun _ A => hr P L M A) (N := N) (fun k s => s.1 0 0 = A.1 0 0 + k) N0 (fun i s i0 i1 z => by rw [hr_00, z]; lia) _ 0 A (by decide) N0 rfl (by lia)
theorem up2_ok {P : Pl} {A : Aw} {h t : Int32} (wo : WOK P A) (on : ONK P 0 A) (t0 : 0 ≤ t) (t1 : t < 100) : WOK P (up A 2 h t) ∧ ONK P 0 (up A 2 h t) := by
  refine ⟨⟨fun i a b => ?_, fun i a b => ?_, ?_⟩, fun i a b c => ?_⟩
  · rw [up_n (by decide), up_s, up_n (by decide), up_n (by decide), up_n (by decide)]
    have := wo.1 i a b
    refine ⟨this.1, this.2.1, ?_, ?_, this.2.2.2.2⟩
    · split
      · exact t0
      · exact this.2.2.1
    · split
      · lia
      · exact this.2.2.2.1
  · rw [up_n (by decide)]
    exact wo.2.1 i a b
  · rw [up_n (by decide)]
    exact wo.2.2
  · rw [up_n (by decide)] at c
    rw [up_s]
    split
    · exact t1
    · exact on i a b c
/-- whether all is so, hour by hour: the class -/
theorem agC {P : Pl} {L : Lw} {A : Aw} {b : Hp} {X : Pl} {F : Int32 → Int32} {l : Int32} (ok : POK P) (lk : LOK L) (so : SOK P X) (x : SeC b X) (fl : FlC b X F) (wo : WOK P A) (on : ONK P 0 A) (h00 : A.1 0 0 = 0) (c : CH b P L (mT P) 75 A) (l0 : 0 ≤ l) (l6 : l ≤ 60) : ∃ v t, lp_Fo_agrees_37 TC fu b 74 65 l 1 = some (v, t) ∧ Fr (WS 75) b t ∧ (v = 0 ∨ v = 1) ∧ (v = 1 ↔ ∀ n, 1 ≤ n → n ≤ l → ∀ j, 0 ≤ j → j < nk X → okj X F (hrN P L (mT P) n A) n j) := by
  have W7 : WC 75 := .inr (.inr (.inl rfl))
  refine loop_fu (N := l + 1) (P := fun m i => 1 ≤ i → i ≤ l + 1 → ∀ s, CH s P L (mT P) 75 (hrN P L (mT P) (i - 1) A) → Fr (WS 75) b s → (∀ n, 1 ≤ n → n < i → ∀ j, 0 ≤ j → j < nk X → okj X F (hrN P L (mT P) n A) n j) → ∃ v t, lp_Fo_agrees_37 TC m s 74 65 l i = some (v, t) ∧ Fr (WS 75) b t ∧ (v = 0 ∨ v = 1) ∧ (v = 1 ↔ ∀ n, 1 ≤ n → n ≤ l → ∀ j, 0 ≤ j → j < nk X → okj X F (hrN P L (mT P) n A) n j)) (by lia) ?_ ?_ 1 (by decide) (by decide) (by lia) b (by
      rw [show (1 : Int32) - 1 = 0 by decide, hrN_0]
      exact c) Fr.rf (fun n a b => absurd b (by lia))
  · intro m i i0 i1 i2 i3 s c f I
    simp only [lp_Fo_agrees_37]
    rw [if_pos (by lia)]
    exact ⟨1, s, rfl, f, .inr rfl, fun _ n a b => I n a (by lia), fun _ => rfl⟩
  · intro m i i0 i1 ih i2 i3 s c f I
    have wi := hrN_ok (L := L) (N := i - 1) ok (mT_ok (P := P)) wo on (by lia)
    obtain ⟨t, e1, c1, f1⟩ := paC (N := 1) mT_ok W7 ok lk wi.1 c wi.2 (by decide) (by decide)
    rw [hrN_1, ← hrN_s (by lia) (by lia), show i - 1 + 1 = i by lia] at c1
    have f2 := f.tr f1
    have g : ∀ d, 65 ≤ d → d ≤ 71 → t.1 d = b.1 d := fun d a b => (f2 d (fun z => by unfold WS at z; omega)).1
    have x' := x.mv (h' := t) (fun d a b => g d a (by omega))
    have fl' : FlC t X F := fun k a b => by
      rw [g 71 (by decide) (by decide)]
      exact fl k a b
    obtain ⟨v, e2, b01, ev⟩ := fiC (n := i) ok so x' fl' c1 (by rw [hrN_00 (by lia), h00]; lia)
    simp only [lp_Fo_agrees_37, lyC]
    rw [if_neg (show ¬ l < i by lia), if_neg (show ¬ (60 : Int32) < i by lia), e1, bnd_q, e2, bnd_q]
    by_cases c0 : v = 0
    · rw [if_pos c0]
      refine ⟨0, t, rfl, f2, .inl rfl, fun z => absurd z (by decide), fun z => ?_⟩
      have := ev.mpr (z i (by lia) (by lia))
      exact absurd c0 (by rw [this]; decide)
    · rw [if_neg c0, nmd_q]
      have oki := ev.mp (b01.resolve_left c0)
      refine ih (by lia) (by lia) t (by rw [show i + 1 - 1 = i by lia]; exact c1) f2 (fun n a b => ?_)
      by_cases w : n = i
      · rw [w]
        exact oki
      · exact I n a (by lia)
/-- and the reference -/
theorem agR {P : Pl} {L : Lw} {A : Aw} {b : Hp} {X : Pl} {F : Int32 → Int32} (ok : POK P) (lk : LOK L) (so : SOK P X) (x : SeR b X) (fl : FlR b X F) (wo : WOK P A) (on : ONK P 0 A) (c : RH b P L (mT P) False 1 A) : ∃ v t, lp_Md_fits_21 TR fu b 0 1 = some (v, t) ∧ RF 1 False b t ∧ (v = 0 ∨ v = 1) ∧ (v = 1 ↔ ∀ n, 1 ≤ n → n ≤ 60 → ∀ j, 0 ≤ j → j < nk X → okj X F (hrN P L (mT P) n A) n j) := by
  refine loop_fu (N := 61) (P := fun m i => 1 ≤ i → i ≤ 61 → ∀ s, RH s P L (mT P) False 1 (hrN P L (mT P) (i - 1) A) → RF 1 False b s → (∀ n, 1 ≤ n → n < i → ∀ j, 0 ≤ j → j < nk X → okj X F (hrN P L (mT P) n A) n j) → ∃ v t, lp_Md_fits_21 TR m s 0 i = some (v, t) ∧ RF 1 False b t ∧ (v = 0 ∨ v = 1) ∧ (v = 1 ↔ ∀ n, 1 ≤ n → n ≤ 60 → ∀ j, 0 ≤ j → j < nk X → okj X F (hrN P L (mT P) n A) n j)) (by decide) ?_ ?_ 1 (by decide) (by decide) (by decide) b (by
      rw [show (1 : Int32) - 1 = 0 by decide, hrN_0]
      exact c) ⟨fun _ _ _ => rfl, fun _ _ _ => rfl, id⟩ (fun n a b => absurd b (by lia))
  · intro m i i0 i1 i2 i3 s c f I
    simp only [lp_Md_fits_21]
    rw [if_pos (by lia)]
    exact ⟨1, s, rfl, f, .inr rfl, fun _ n a b => I n a (by lia), fun _ => rfl⟩
  · intro m i i0 i1 ih i2 i3 s c f I
    have wi := hrN_ok (L := L) (N := i - 1) ok (mT_ok (P := P)) wo on (by lia)
    obtain ⟨t, e1, c1, -, f1⟩ := hrR mT_ok (.inr rfl) ok lk wi.1 c wi.2
    rw [← hrN_s (by lia) (by lia), show i - 1 + 1 = i by lia] at c1
    have f2 : RF 1 False b t := ⟨fun c s q => (f1.1 c s q).trans (f.1 c s q), fun c s q => (f1.2.1 c s q).trans (f.2.1 c s q), fun q => f1.2.2 (f.2.2 q)⟩
    have x' := x.mv (h' := t) (fun d s q => f2.1 d s (fun z => by unfold RS at z; omega))
    have fl' : FlR t X F := fun k a b => by
      rw [f2.1 42 _ (fun z => by unfold RS at z; omega)]
      exact fl k a b
    obtain ⟨v, e2, b01, ev⟩ := fiR (n := i) ok so x' fl' c1 i2
    simp only [lp_Md_fits_21]
    rw [if_neg (show ¬ (60 : Int32) < i by lia), e1, bnd_q, e2, bnd_q]
    by_cases c0 : v = 0
    · rw [if_pos c0]
      refine ⟨0, t, rfl, f2, .inl rfl, fun z => absurd z (by decide), fun z => ?_⟩
      have := ev.mpr (z i (by lia) (by lia))
      exact absurd c0 (by rw [this]; decide)
    · rw [if_neg c0, nmd_q]
      have oki := ev.mp (b01.resolve_left c0)
      refine ih (by lia) (by lia) t (by rw [show i + 1 - 1 = i by lia]; exact c1) f2 (fun n a b => ?_)
      by_cases w : n = i
      · rw [w]
        exact oki
      · exact I n a (by lia)
/-- one thirst, on both sides -/
theorem th1 {hC h1 s s' : Hp} {P : Pl} {L : Lw} {A B : Aw} {X : Pl} {U : Ud} {F : Int32 → Int32} {h v : Int32} (ok : POK P) (lk : LOK L) (so : SOK P X) (x : CRel hC P L A B X) (y : RRel h1 P L A B X U) (h0 : 0 ≤ h) (h4 : h < P 0 4) (v0 : 0 ≤ v) (v1 : v < 100) (f : Fr SC hC s) (fl : FlC s X F) (f' : KF h1 s') (fl' : FlR s' X F) :
    ∃ r t t', f_Fo_agrees TC s 74 65 h v = some (r, t) ∧ f_Md_fits TR s' 0 h v = some (r, t') ∧ Fr SC hC t ∧ FlC t X F ∧ KF h1 t' ∧ FlR t' X F := by
  have o1 := ok.1
  have h6 : h < 6 := by lia
  have W7 : WC 75 := .inr (.inr (.inl rfl))
  have xs := x.mv f
  have ys := y.mv ok f'
  obtain ⟨wbo, wbn, -⟩ := wb_ok ok
  have wu := up2_ok (h := h) wbo wbn v0 v1
  have u00 : (up (wb P) 2 h v).1 0 0 = 0 := by
    rw [up_n (by decide)]
    exact wb_e.2.2.2.2.2.2.1
  obtain ⟨g1, m1, m2, m3⟩ := aigC xs.1.1
  have x1 := xs.1.1.mv g1 (fun c q => by omega)
  obtain ⟨s2, e2, c2, g2⟩ := wbC W7 ok x1
  have ch2 : CH s2 P L (mT P) 75 (wb P) := ⟨x1.mv g2 (fun c q => by unfold WR at q; omega), (xs.1.2.1.mv g1 (fun c q => by omega)).mv g2 (fun c q => by unfold WR at q; omega), by
    rw [(g2 72 (fun q => by unfold WR at q; omega)).1]
    exact ⟨m1, m2, m3⟩, c2⟩
  have ch3 : CH (pI s2 77 (ix h) v) P L (mT P) 75 (up (wb P) 2 h v) := ch2.wr 2 (by decide) (by decide) W7 h0
  have gs : ∀ d, 65 ≤ d → d ≤ 71 → (pI s2 77 (ix h) v).1 d = s.1 d := fun d a b => by
    rw [pI_f (by omega), (g2 d (fun q => by unfold WR at q; omega)).1, (g1 d (fun q => by omega)).1]
  have sx : SeC s X := ⟨xs.2.2.1.2.2.2.2.2.2.1, xs.2.2.1.2.2.2.2.2.2.2, xs.2.2.2.2.2.1⟩
  have sx3 := sx.mv (h' := pI s2 77 (ix h) v) (fun d a b => gs d a (by omega))
  have fl3 : FlC (pI s2 77 (ix h) v) X F := fun k a b => by
    rw [gs 71 (by decide) (by decide)]
    exact fl k a b
  obtain ⟨l, e3, l0, l6, ll⟩ := laC so sx3 fl3
  obtain ⟨r, t, e4, g4, b01, er⟩ := agC ok lk so sx3 fl3 wu.1 wu.2 u00 ch3 l0 l6
  have fT : Fr SC hC t := (((f.tr (g1.mono fun c q => by unfold SC; omega)).tr (g2.mono fun c q => by unfold WR at q; unfold SC; omega)).tr (Fr.pI (by unfold SC; omega))).tr (g4.mono fun c q => SC.of W7 (by decide) q)
  have flT : FlC t X F := fun k a b => by
    rw [(g4 71 (fun q => by unfold WS at q; omega)).1]
    exact fl3 k a b
  -- the reference
  obtain ⟨w, e5, r5, -, oz, w2, gw⟩ := afR (b := 1) (.inr rfl) ok ys.1.1 ys.1.2.2.2.2.2
  obtain ⟨-, p1, p2, p3, p4, p5, p6⟩ := plR (h := w)
  have j0 : 0 ≤ 6 + h := by lia
  have j12 : 6 + h < 12 := by lia
  obtain ⟨mo, rr⟩ := mTR (h := f_Md_plainTried TR w 0) (P := P) (n := (wb P).2) ok p1 p2 p3 p4
  have e61 : ix ((6 : Int32) * 1) = 6 := by decide
  have e11 : ix (1 : Int32) = 1 := by decide
  have gw' : ∀ c s, ¬ ((27 ≤ c ∧ c ≤ 33 ∧ 6 ≤ s) ∨ (34 ≤ c ∧ c ≤ 39 ∧ s = 1)) → w.1 c s = s'.1 c s := fun c s q => gw c s (fun z => by unfold AF at z; rw [e61, e11] at z; omega)
  have rh : RH (f_Md_plainTried TR w 0) P L (mT P) False 1 (wb P) := ⟨(ys.1.1.m4 (h' := w) (fun c s p q => gw' c s (by omega)) (fun s p q => gw' 0 s (by omega))).m4 (fun c s p q => p6 c s (by omega)) (fun s p q => p6 0 s (by omega)), (ys.1.2.1.mv (h' := w) (fun c s p q => gw' c s (by omega))).mv (fun c s p q => p6 c s (by omega)), mo, rr, r5.mg (fun c s p q => p6 c s (by omega))⟩
  have rw28 := rh.2.2.2.2.w28 (y := v) (.inr rfl) ok h0 h4
  rw [i61] at rw28
  have rs28 : RS 1 28 (ix (6 + h)) := by
    unfold RS
    rw [e61, ix_6 h0 h6]
    have := ix_lt (n := 6) h0 (by decide) h6
    omega
  have rh3 : RH (pI (f_Md_plainTried TR w 0) 28 (ix (6 + h)) v) P L (mT P) False 1 (up (wb P) 2 h v) := rh.wI ok rs28 rw28
  have gr : ∀ c s, (c = 41 ∨ c = 42 ∨ (c = 0 ∧ (s = 74 ∨ s = 75))) → (pI (f_Md_plainTried TR w 0) 28 (ix (6 + h)) v).1 c s = s'.1 c s := fun c s q => by
    rw [pI_n (by omega), p6 c s (by omega), gw' c s (by omega)]
  have sy : SeR s' X := ⟨ys.2.2.1.2.2.2.2.2.2.1, ys.2.2.1.2.2.2.2.2.2.2, ys.2.2.2.2.2.1⟩
  have sy3 := sy.mv (h' := pI (f_Md_plainTried TR w 0) 28 (ix (6 + h)) v) (fun c s q => gr c s (by omega))
  have fr3 : FlR (pI (f_Md_plainTried TR w 0) 28 (ix (6 + h)) v) X F := fun k a b => by
    rw [gr 42 _ (by omega)]
    exact fl' k a b
  obtain ⟨r', t', e6, g6, b01', er'⟩ := agR ok lk so sy3 fr3 wu.1 wu.2 rh3
  have kf3 : KF s' (pI (f_Md_plainTried TR w 0) 28 (ix (6 + h)) v) := by
    refine ⟨fun c s q => ?_, fun c s q => ?_, fun q s => ?_⟩
    · rw [pI_x (fun z => q (by unfold RX; rw [z.1, z.2, ix_6 h0 h6]; omega)), p6 c s (by unfold RX at q; omega), gw' c s (by unfold RX at q; omega)]
    · rw [pI_l, p5, w2]
    · rw [pI_n (by decide), p6 31 s (by omega)]
      exact oz s
  have kT : KF h1 t' := (f'.tr kf3).tr g6.KF
  have frT : FlR t' X F := fun k a b => by
    rw [g6.1 42 _ (fun z => by unfold RS at z; omega)]
    exact fr3 k a b
  have eq : r = r' := by
    have iff : r = 1 ↔ r' = 1 := by
      rw [er, er']
      refine ⟨fun z n n1 n6 j j0 j1 => ?_, fun z n n1 n6 => z n n1 (by lia)⟩
      by_cases w : n ≤ l
      · exact z n n1 w j j0 j1
      · exact fun ct e => absurd (ll j j0 j1 ct) (by lia)
    rcases b01 with b | b
    · rcases b01' with b' | b'
      · rw [b, b']
      · exact absurd (iff.mpr b') (by rw [b]; decide)
    · rw [b, iff.mp b]
  refine ⟨r, t, t', ?_, ?_, fT, flT, kT, frT⟩
  · unfold f_Fo_agrees
    simp only [nmd_q, lyC]
    rw [e2, bnd_q]
    simp (disch := first | assumption | decide | omega) only [wtC, bnd_q]
    rw [e3, bnd_q, e4]
  · unfold f_Md_fits
    simp only [nmd_q, lyR]
    rw [e5, bnd_q]
    simp (disch := first | assumption | decide | omega) only [wtR, bnd_q]
    rw [e6, eq]
theorem sp_thirsts : SP_thirsts Rl := by
  intro hC hR a1 hr
  obtain ⟨P, L, A, B, X, U, p, x, y⟩ := hr
  have ok := p.1
  have o1 := ok.1
  have lk := p.2.1
  have wo := p.2.2.1
  have g := x.1.h.g
  simp only [Nat.reduceAdd] at g
  have xh := x.1.h
  have y1 := y.th (v := 0) ok
  have k := y1.1.g
  have sx := x.2.2.1
  have sr := y1.2.2.1
  refine q2_of p x y1 ?_
  have so := p.2.2.2.2.2.2.2.2.2.1
  have e13 := k.1.2.1
  unfold f_Tt_thirsts f_Md_thirsts
  simp only [nmd_q]
  generalize pI hR 0 2 0 = h1 at y1 k sr e13 ⊢
  simp only [lyC]
  rw [hhC g.1.2.2.2.2.1, hhR e13]
  by_cases q : 0 ≤ a1 ∧ a1 < P 0 4
  case neg =>
    rw [if_neg q, if_pos (rfl : (0 : Int32) = 0), if_pos (rfl : (0 : Int32) = 0)]
    exact ⟨_, _, _, rfl, rfl, Fr.rf, KF.rf⟩
  rw [if_pos q, if_neg (show ¬ (1 : Int32) = 0 by decide), if_neg (show ¬ (1 : Int32) = 0 by decide)]
  have sC : SeC hC X := ⟨sx.2.2.2.2.2.2.1, sx.2.2.2.2.2.2.2, x.2.2.2.2.2.1⟩
  have sR : SeR h1 X := ⟨sr.2.2.2.2.2.2.1, sr.2.2.2.2.2.2.2, y1.2.2.2.2.2.1⟩
  have nn := nk_ok so
  obtain ⟨s, e1, f1, z1⟩ := mk1C sC
  obtain ⟨s', e2, f2, z2⟩ := mk1R (a1 := a1) so sR
  obtain ⟨t, t', e3, e4, f3, f4, z3⟩ := mk2 (a1 := a1) so sC sR f1 f2 (fun k k0 k1 => by
    rw [z1 k k0 (by lia), z2 k k0 k1]
    decide)
  rw [e1, e2, e3, e4, bnd_q]
  have flC : FlC t X (fun k => t.1 71 (ix k)) := fun _ _ _ => rfl
  have flR : FlR t' X (fun k => t.1 71 (ix k)) := z3
  generalize (fun k => t.1 71 (ix k)) = F at flC flR
  refine lock (S := Hp × Int32) (S' := Hp × Int32) (N := 10) (lp := fun n i s => lp_Tt_thirsts_24 TC n s.1 0 a1 s.2 i) (lp' := fun n i s => lp_Md_thirsts_95 TR n s.1 0 a1 s.2 i) (QQ hC h1) (fun _ s s' => s.2 = s'.2 ∧ Fr SC hC s.1 ∧ FlC s.1 X F ∧ KF h1 s'.1 ∧ FlR s'.1 X F) (by decide) (by decide) ?_ ?_ 0 (by decide) (by decide) (_, _) (_, _) ⟨rfl, f3.Fr, flC, f4.KF, flR⟩
  · intro n m s s' ⟨i1, i2, i3, i4, i5⟩
    simp only [lp_Tt_thirsts_24, lp_Md_thirsts_95]
    rw [if_pos (by decide), if_pos (by decide), i1]
    exact ⟨_, _, _, rfl, rfl, i2, i4⟩
  · intro n m i s s' i0 i1 ⟨j1, j2, j3, j4, j5⟩
    obtain ⟨s, b⟩ := s
    obtain ⟨s', b'⟩ := s'
    simp only at j1 j2 j3 j4 j5
    subst j1
    obtain ⟨r, u, u', w1, w2, w3, w4, w5, w6⟩ := th1 (h := a1) (v := i * 10) ok lk so x y1 q.1 q.2 (by lia) (by lia) j2 j3 j4 j5
    have e10 : (10 : Int32) * i = i * 10 := by lia
    simp only [lp_Tt_thirsts_24, lp_Md_thirsts_95]
    unfold jb_Tt_thirsts_55 jb_Md_thirsts_121
    simp only [lyC, nmd_q]
    rw [if_neg (show ¬ (10 : Int32) ≤ i by lia), if_neg (show ¬ (10 : Int32) ≤ i by lia), e10, w1, w2, bnd_q, bnd_q]
    by_cases c : r = 0
    · rw [if_pos c, if_pos c, Int32.or_zero]
      exact .inr ⟨(u, b), (u', b), rfl, rfl, rfl, w3, w4, w5, w6⟩
    · rw [if_neg c, if_neg c]
      exact .inr ⟨(u, _), (u', _), rfl, rfl, rfl, w3, w4, w5, w6⟩
