/-! tokens: words -/
theorem al23 : al TC 23 = 20 ∧ al TR 2 = 99 := by
  simp only [alC, alR, and_self]
/-- how long the k-th word is -/
theorem wa18 {h : Hp} {a b i : Int32} {k : Nat} {c5 : Hp → Nat → Int32 → Int32 → Int32 → Int32 → Option Int32} (hw : ∀ j, j < 99 → h.1 2 j = wdR j) (hk : k < 20) : lp_Md_wordAt_18 TR c5 fu h 0 a b i (nI (wof k)) 0 = jb_Md_wordAt_52 TR c5 h 0 a b i (nI (wof k)) (nI (wln k)) (if nI (wln k) = b - a then 1 else 0) := by
  have w0 := (w_0 ⟨k, hk⟩)
  simp only at w0
  have w1 : ∀ j, j < 6 → (j < wln k → ¬ wdR (wof k + j) = 32 ∧ 97 ≤ wdR (wof k + j) ∧ wdR (wof k + j) ≤ 122) ∧ 0 ≤ wdg k j ∧ wdg k j < 32 ∧ (j < wln k → 1 ≤ wdg k j) := fun j hj => w_1 ⟨k, hk⟩ ⟨j, hj⟩
  have rd : ∀ j : Nat, j ≤ 6 → wof k + j < 99 → rI TR h 2 (nI (wof k) + nI j) = some (wdR (wof k + j)) := fun j j6 jl => by
    rw [nI_add, rI_i 99 al23.2 (by decide) (nI_pos' (by omega)) (nI_lt (b := 99) jl (by decide)), ix_nI (by omega), hw _ jl]
  refine loop_fu (N := nI (wln k)) (P := fun m j => j ≤ nI (wln k) → lp_Md_wordAt_18 TR c5 m h 0 a b i (nI (wof k)) j = jb_Md_wordAt_52 TR c5 h 0 a b i (nI (wof k)) (nI (wln k)) (if nI (wln k) = b - a then 1 else 0)) (nI_le (b := 900) (by omega) (by decide)) ?_ ?_ 0 (by decide) (nI_pos' (by omega))
  · intro m j j0 j1 j2
    have e : j = nI (wln k) := by lia
    subst e
    simp only [lp_Md_wordAt_18, lyR]
    rw [rd _ w0.1.2.1 (by omega), bnd_q, if_pos w0.2.1]
    by_cases c : nI (wln k) = b - a
    · rw [if_pos c, if_pos c]
    · rw [if_neg c, if_neg c]
  · intro m j j0 j1 ih _
    have jl : ix j < wln k := ix_lt j0 (by omega) j1
    have ej : nI (ix j) = j := nI_ix j0
    simp only [lp_Md_wordAt_18, lyR]
    rw [← ej, rd _ (by omega) (by omega), bnd_q, if_neg ((w1 _ (by omega)).1 jl).1, nmd_q, ej]
    exact ih (by lia)
/-- whether it is the word of the tape -/
theorem wa57 {h : Hp} {a b i n : Int32} {m k : Nat} {T : Int32 → Int32} {c5 : Hp → Nat → Int32 → Int32 → Int32 → Int32 → Option Int32} (hw : ∀ j, j < 99 → h.1 2 j = wdR j) (hk : k < 20) (ht : ∀ j, 0 ≤ j → j < n → h.1 1 (ix j) = T j) (n7 : n ≤ 700) (a0 : 0 ≤ a) (bm : b = a + nI m) (m7 : m ≤ 700) (bn : b ≤ n) (ab : a ≤ b) : (WM T a m k → lp_Md_wordAt_18 TR c5 fu h 0 a b i (nI (wof k)) 0 = some i) ∧ (¬ WM T a m k → lp_Md_wordAt_18 TR c5 fu h 0 a b i (nI (wof k)) 0 = c5 h 0 a b (i + 1) (nI (wof (k + 1)))) := by
  have w0 := (w_0 ⟨k, hk⟩)
  simp only at w0
  have el : nI (wof k) + (nI (wln k) + 1) = nI (wof (k + 1)) := by
    rw [nI_1, nI_add, w0.1.2.2.1]
    rfl
  have k6 : nI (wln k) ≤ 6 := nI_le (b := 6) w0.1.2.1 (by decide)
  have lm : nI (wln k) = b - a ↔ wln k = m := by
    rw [bm, show a + nI m - a = nI m by lia]
    constructor
    · intro z
      have := congrArg ix z
      rwa [ix_nI (by omega), ix_nI (by omega)] at this
    · intro z
      rw [z]
  rw [wa18 hw hk]
  unfold jb_Md_wordAt_52
  by_cases hl : wln k = m
  case neg =>
    rw [if_neg (fun z => hl (lm.mp z))]
    refine ⟨fun z => absurd z.1 hl, fun _ => ?_⟩
    rw [show fu = 999 + 1 from rfl, lp_Md_wordAt_57]
    unfold jb_Md_wordAt_104
    simp only [nmd_q]
    rw [el]
    simp only [if_true, ite_self]
  rw [if_pos (lm.mpr hl)]
  have key : ∀ j, 0 ≤ j → j ≤ nI (wln k) → (∀ j', j' < ix j → wdR (wof k + j') = T (a + nI j')) → (WM T a m k → lp_Md_wordAt_57 TR c5 fu h 0 a b i (nI (wof k)) (nI (wln k)) 1 j = some i) ∧ (¬ WM T a m k → lp_Md_wordAt_57 TR c5 fu h 0 a b i (nI (wof k)) (nI (wln k)) 1 j = c5 h 0 a b (i + 1) (nI (wof (k + 1)))) := by
    intro j j0 j1 jj
    refine (loop_fu (N := nI (wln k)) (P := fun q j => j ≤ nI (wln k) → lp_Md_wordAt_57 TR c5 q h 0 a b i (nI (wof k)) (nI (wln k)) 0 j = c5 h 0 a b (i + 1) (nI (wof (k + 1))) ∧ ((∀ j', j' < ix j → wdR (wof k + j') = T (a + nI j')) → (WM T a m k → lp_Md_wordAt_57 TR c5 q h 0 a b i (nI (wof k)) (nI (wln k)) 1 j = some i) ∧ (¬ WM T a m k → lp_Md_wordAt_57 TR c5 q h 0 a b i (nI (wof k)) (nI (wln k)) 1 j = c5 h 0 a b (i + 1) (nI (wof (k + 1)))))) (by lia) ?_ ?_ j j0 j1).2 jj
    · intro q j j0 j1 j2
      have e : j = nI (wln k) := by lia
      simp only [lp_Md_wordAt_57]
      unfold jb_Md_wordAt_104
      simp only [nmd_q]
      rw [if_pos j1, if_pos trivial, if_pos j1, if_neg (show ¬ (1 : Int32) = 0 by decide), el]
      refine ⟨rfl, fun z => ⟨fun _ => rfl, fun w => absurd ⟨hl, fun j' hj => z j' ?_⟩ w⟩⟩
      rw [e, ix_nI (by omega)]
      exact hj
    · intro q j j0 j1 ih _
      have jl : ix j < wln k := ix_lt j0 (by omega) j1
      have ej : nI (ix j) = j := nI_ix j0
      have jm : j < nI m := by rw [← hl]; exact j1
      have e1 : rI TR h 2 (nI (wof k) + j) = some (wdR (wof k + ix j)) := by
        rw [← ej, nI_add, rI_i 99 al23.2 (by decide) (nI_pos' (by omega)) (nI_lt (b := 99) (by omega) (by decide)), ix_nI (by omega), hw _ (by omega), ix_nI (by omega)]
      have x0 : 0 ≤ a + j := by lia
      have x1 : a + j < n := by lia
      have x7 : a + j < 700 := by lia
      have e2 : rI TR h 1 (a + j) = some (T (a + j)) := by
        simp (disch := first | assumption | decide | omega) only [rdR]
        rw [ht _ x0 x1]
      obtain ⟨ih0, ih1⟩ := ih (by lia)
      have ix1 : ix (j + 1) = ix j + 1 := ix_s j0 (by lia)
      simp only [lp_Md_wordAt_57, lyR]
      unfold jb_Md_wordAt_104 jb_Md_wordAt_96
      simp only [nmd_q]
      rw [if_neg (show ¬ nI (wln k) ≤ j by lia), if_pos trivial, if_pos trivial, if_neg (show ¬ nI (wln k) ≤ j by lia), if_neg (show ¬ (1 : Int32) = 0 by decide), e1, e2, bnd_q, bnd_q, el]
      refine ⟨rfl, fun z => ?_⟩
      by_cases c : wdR (wof k + ix j) = T (a + j)
      · rw [if_pos c]
        refine ih1 (fun j' hj => ?_)
        rw [ix1] at hj
        by_cases d : j' = ix j
        · rw [d, ej]
          exact c
        · exact z j' (by omega)
      · rw [if_neg c]
        refine ⟨fun w => absurd (w.2 (ix j) jl) (by rw [ej]; exact c), fun _ => ih0⟩
  exact key 0 (by decide) (nI_pos' (by omega)) (fun j' hj => absurd hj (by
    have : ix (0 : Int32) = 0 := by decide
    omega))
/-- a word of at most six letters is looked up -/
theorem fnd3 {h h' : Hp} {a b n : Int32} {m : Nat} {T : Int32 → Int32} (tp : TP h h' n T) (a0 : 0 ≤ a) (bm : b = a + nI m) (ab : a ≤ b) (bn : b ≤ n) (m1 : 1 ≤ m) (m6 : m ≤ 6) (hl : ∀ j, j < m → 97 ≤ T (a + nI j) ∧ T (a + nI j) ≤ 122) : ∃ v, f_Tt_find TC h 23 20 (pz T a m 6) = some v ∧ f_Md_wordAt TR h' 0 a b = some v ∧ -1 ≤ v ∧ v < 20 := by
  obtain ⟨t1, t2, t3, t4, t5, t6⟩ := tp
  unfold f_Tt_find f_Md_wordAt
  have m6' : nI m ≤ 6 := nI_le (b := 6) m6 (by decide)
  have m0' : 0 ≤ nI m := nI_pos' (by omega)
  have a20 : Int32.ofNat 20 = 20 := by decide
  have a99 : Int32.ofNat 99 = 99 := by decide
  refine lock (S := Unit) (S' := Int32) (N := 20) (lp := fun n i _ => lp_Tt_find_2 TC n h 23 20 (pz T a m 6) i) (lp' := fun n i s => lp_Md_wordAt_5 TR n h' 0 a b i s) (fun x y => ∃ v, x = some v ∧ y = some v ∧ -1 ≤ v ∧ v < 20) (fun i _ s => s = nI (wof (ix i))) (by decide) (by decide) ?_ ?_ 0 (by decide) (by decide) () 0 (by decide)
  · intro q r _ s e
    simp only [lp_Tt_find_2, lp_Md_wordAt_5, lyR]
    have e20 : nI (wof (ix 20)) = 99 := by decide
    rw [e, e20, if_pos (by decide), al23.2, a99, if_pos (by decide)]
    exact ⟨_, rfl, rfl, by decide, by decide⟩
  · intro q r i _ s i0 i1 e
    have hk := ix_lt (n := 20) i0 (by decide) i1
    have wl := w_0 ⟨ix i, hk⟩
    simp only at wl
    have w99 : nI (wof (ix i)) < 99 := nI_lt (b := 99) (by omega) (by decide)
    obtain ⟨p1, p2⟩ := wa57 (i := i) (b := b) (c5 := lp_Md_wordAt_5 TR r) t4 hk (fun j x y => (t2 j x y).2.2.2) t1.2 a0 bm (by omega) bn ab
    simp only [lp_Tt_find_2, lp_Md_wordAt_5, lyR]
    rw [al23.1, al23.2, a20, a99, e, if_neg (show ¬ (20 : Int32) ≤ i by lia), if_neg (show ¬ (20 : Int32) ≤ i by lia), if_neg (show ¬ (99 : Int32) ≤ nI (wof (ix i)) by lia)]
    simp (disch := first | assumption | decide | omega) only [rdC, bnd_q]
    rw [t3 _ hk]
    have we := wm_e (k := ix i) m1 m6 hk hl
    by_cases c : wdC (ix i) = pz T a m 6
    · rw [if_pos c, p1 (we.mp c)]
      exact .inl ⟨i, rfl, rfl, by lia, i1⟩
    · rw [if_neg c, p2 (fun z => c (we.mpr z)), nmd_q]
      exact .inr ⟨(), _, rfl, rfl, by rw [ix_s i0 (by lia)]⟩
/-- a longer one is none of the language -/
theorem fnd4 {h h' : Hp} {a b n : Int32} {m : Nat} {T : Int32 → Int32} (tp : TP h h' n T) (a0 : 0 ≤ a) (bm : b = a + nI m) (ab : a ≤ b) (bn : b ≤ n) (m7 : 7 ≤ m) (m70 : m ≤ 700) : f_Md_wordAt TR h' 0 a b = some (-1) := by
  obtain ⟨t1, t2, t3, t4, t5, t6⟩ := tp
  unfold f_Md_wordAt
  have mm : 0 ≤ nI m := nI_pos' (by omega)
  have mM : nI m ≤ 700 := nI_le (b := 700) m70 (by decide)
  have a99 : Int32.ofNat 99 = 99 := by decide
  have key : ∀ i, 0 ≤ i → i ≤ 20 → lp_Md_wordAt_5 TR fu h' 0 a b i (nI (wof (ix i))) = some (-1) := by
    intro i i0 i1
    refine loop_fu (N := 20) (P := fun q i => i ≤ 20 → lp_Md_wordAt_5 TR q h' 0 a b i (nI (wof (ix i))) = some (-1)) (by decide) ?_ ?_ i i0 i1
    · intro q i i0 i1 i2
      have e : i = 20 := by lia
      subst e
      have e20 : nI (wof (ix 20)) = 99 := by decide
      simp only [lp_Md_wordAt_5, lyR]
      rw [e20, al23.2, a99, if_pos (by decide)]
    · intro q i i0 i1 ih _
      have hk := ix_lt (n := 20) i0 (by decide) i1
      have wl := w_0 ⟨ix i, hk⟩
      simp only at wl
      have w99 : nI (wof (ix i)) < 99 := nI_lt (b := 99) (by omega) (by decide)
      obtain ⟨-, p2⟩ := wa57 (i := i) (b := b) (c5 := lp_Md_wordAt_5 TR q) t4 hk (fun j x y => (t2 j x y).2.2.2) t1.2 a0 bm m70 bn ab
      simp only [lp_Md_wordAt_5, lyR]
      rw [al23.2, a99, if_neg (show ¬ (99 : Int32) ≤ nI (wof (ix i)) by lia), p2 (fun z => by have := z.1; omega)]
      have := ih (by lia)
      rwa [ix_s i0 (by lia)] at this
  exact key 0 (by decide) (by decide)
/-- the reference packs a name -/
theorem pkR {h : Hp} {a b n : Int32} {m : Nat} {T : Int32 → Int32} (ht : ∀ j, 0 ≤ j → j < n → h.1 1 (ix j) = T j) (n7 : n ≤ 700) (a0 : 0 ≤ a) (bm : b = a + nI m) (ab : a ≤ b) (m6 : m ≤ 6) (bn : b ≤ n) : f_Md_packed TR h 0 a b = some (pz T a m 6) := by
  have mm : 0 ≤ nI m := nI_pos' (by omega)
  have mM : nI m ≤ 6 := nI_le (b := 6) m6 (by decide)
  unfold f_Md_packed
  have key : ∀ l, 0 ≤ l → a ≤ l → l ≤ a + 6 → lp_Md_packed_5 TR fu h 0 a b (pz T a m (ix (l - a))) l = some (pz T a m 6) := by
    intro l l0 l1 l2
    refine loop_fu (N := a + 6) (P := fun q l => a ≤ l → l ≤ a + 6 → lp_Md_packed_5 TR q h 0 a b (pz T a m (ix (l - a))) l = some (pz T a m 6)) (by lia) ?_ ?_ l l0 l1 l2
    · intro q l l0 l1 l2 l3
      have e : l = a + 6 := by lia
      subst e
      have e6 : a + 6 - a = 6 := by lia
      have i6 : ix 6 = 6 := by decide
      simp only [lp_Md_packed_5]
      rw [if_pos l1, e6, i6]
    · intro q l l0 l1 ih l2 l3
      have k0 : 0 ≤ l - a := by lia
      have ek : nI (ix (l - a)) = l - a := nI_ix k0
      have e1 : ix (l + 1 - a) = ix (l - a) + 1 := by
        rw [show l + 1 - a = l - a + 1 by lia]
        exact ix_s k0 (by lia)
      have en : pz T a m (ix (l - a) + 1) = (pz T a m (ix (l - a)) <<< ((5 : Int32) &&& 31)) ||| dg T a m (ix (l - a)) := rfl
      have goal := ih (by lia) (by lia)
      rw [e1, en] at goal
      simp only [lp_Md_packed_5]
      unfold jb_Md_packed_37
      simp only [nmd_q, lyR]
      rw [if_neg (by lia)]
      by_cases c : b ≤ l
      · have d0 : dg T a m (ix (l - a)) = 0 := by
          unfold dg
          rw [if_neg]
          intro z
          have := nI_lt (a := ix (l - a)) (b := m) z (by omega)
          rw [ek] at this
          lia
        rw [if_pos c]
        rw [d0] at goal
        exact goal
      · have d0 : dg T a m (ix (l - a)) = T l - 96 := by
          unfold dg
          rw [if_pos (ix_lt k0 (by omega) (show l - a < nI m by lia)), ek, show a + (l - a) = l by lia]
        have x7 : l < 700 := by lia
        rw [if_neg c]
        simp (disch := first | assumption | decide | omega) only [rdR, bnd_q]
        rw [ht l l0 (by lia)]
        rw [d0] at goal
        exact goal
  have := key a a0 (by lia) (by lia)
  rw [show a - a = 0 by lia] at this
  exact this
