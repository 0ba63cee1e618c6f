/-! nearest, enemies, peace, count, reach, trough -/
theorem sp_nearest : SP_nearest Rl := by
  intro hC hR a1 hr
  obtain ⟨P, L, A, B, X, U, p, x, y⟩ := hr
  have ok := p.1
  have o1 := ok.1
  have lk := p.2.1
  have wo := p.2.2.1
  have g := x.1.h.g
  simp only [Nat.reduceAdd] at g
  have xh := x.1.h
  have y1 := y.th (v := 0) ok
  have k := y1.1.g
  have sx := x.2.2.1
  have sr := y1.2.2.1
  refine q_of p x y1 ?_
  have e13 := k.1.2.1
  unfold f_Tt_nearest f_Md_nearest
  simp only [nmd_q]
  generalize pI hR 0 2 0 = h1 at y1 k sr e13 ⊢
  simp only [lyC]
  rw [hhC g.1.2.2.2.2.1, hhR e13]
  by_cases q : 0 ≤ a1 ∧ a1 < P 0 4
  case neg =>
    rw [if_neg q, if_pos (rfl : (0 : Int32) = 0), if_pos (rfl : (0 : Int32) = 0)]
    exact ⟨_, rfl, rfl⟩
  rw [if_pos q, if_neg (show ¬ (1 : Int32) = 0 by decide), if_neg (show ¬ (1 : Int32) = 0 by decide)]
  obtain ⟨a0, a4⟩ := q
  have a6 : a1 < 6 := by lia
  have a12 : a1 < 12 := by lia
  have w1 := wo.1 a1 a0 a4
  refine lock (S := Int32 × Int32) (S' := Int32) (N := P 0 3) (lp := fun n i s => lp_Tt_nearest_22 TC n hC 0 a1 s.1 s.2 i) (lp' := fun n i s => lp_Md_nearest_20 TR n h1 0 a1 s i) (fun a b => ∃ r, a = some r ∧ b = some (r, h1)) (fun _ s s' => s.1 = s' ∧ ((s.1 = -2 ∧ s.2 = 61) ∨ (0 ≤ s.1 ∧ s.1 < P 0 3 ∧ s.2 = abI (P 2 s.1 - A.1 1 a1)))) (by lia) (by lia) ?_ ?_ 0 (by decide) (by lia) (-2, 61) (-2) ⟨rfl, .inl ⟨rfl, rfl⟩⟩
  · intro n m s s' e
    simp only [lp_Tt_nearest_22, lp_Md_nearest_20, lyC, g, k]
    rw [if_pos (by lia), if_pos (by lia), e.1]
    exact ⟨_, rfl, rfl⟩
  · intro n m i s s' h0 h1' e
    obtain ⟨s1, s2⟩ := s
    obtain ⟨rfl, e⟩ := e
    have h6 : i < 6 := by lia
    have h12 : i < 12 := by lia
    have t1 := ok.2.1 i h0 h1'
    have sz : ∀ z : Int32, f_Md_sizeOf TR h1 z = abI z := fun z => by
      unfold f_Md_sizeOf abI
      split
      · rfl
      · lia
    have b60 : abI (P 2 i - A.1 1 a1) ≤ 60 := by
      unfold abI
      split <;> lia
    simp only [lp_Tt_nearest_22, lp_Md_nearest_20]
    unfold jb_Tt_nearest_71 jb_Md_nearest_67 jb_Md_nearest_72
    simp (disch := first | assumption | decide | omega) only [lyC, lyR, rdC, rdR, bnd_q, nmd_q, g, k, sz]
    rw [if_neg (show ¬ P 0 3 ≤ i by lia), if_neg (show ¬ P 0 3 ≤ i by lia)]
    rcases e with ⟨e1, e2⟩ | ⟨e1, e2, e3⟩
    · simp only at e1 e2
      rw [if_neg (by lia), if_pos (by lia)]
      exact .inr ⟨(i, _), i, rfl, rfl, rfl, .inr ⟨h0, h1', rfl⟩⟩
    · simp only at e1 e2 e3
      have s12 : s1 < 12 := by lia
      rw [if_neg (show ¬ s1 < 0 by lia)]
      simp (disch := first | assumption | decide | omega) only [rdR, bnd_q, k, nmd_q, sz]
      rw [e3]
      by_cases q2 : abI (P 2 s1 - A.1 1 a1) ≤ abI (P 2 i - A.1 1 a1)
      · rw [if_pos q2, if_pos q2]
        exact .inr ⟨(s1, _), s1, rfl, rfl, rfl, .inr ⟨e1, e2, rfl⟩⟩
      · rw [if_neg q2, if_neg q2]
        exact .inr ⟨(i, _), i, rfl, rfl, rfl, .inr ⟨h0, h1', rfl⟩⟩
theorem sp_enemies : SP_enemies Rl := by
  intro hC hR a1 hr
  obtain ⟨P, L, A, B, X, U, p, x, y⟩ := hr
  have ok := p.1
  have o1 := ok.1
  have lk := p.2.1
  have wo := p.2.2.1
  have g := x.1.h.g
  simp only [Nat.reduceAdd] at g
  have xh := x.1.h
  have y1 := y.th (v := 0) ok
  have k := y1.1.g
  have sx := x.2.2.1
  have sr := y1.2.2.1
  refine q_of p x y1 ?_
  have e13 := k.1.2.1
  unfold f_Tt_enemies f_Md_enemies
  simp only [nmd_q]
  generalize pI hR 0 2 0 = h1 at y1 k sr e13 ⊢
  simp only [lyC]
  rw [hhC g.1.2.2.2.2.1, hhR e13]
  by_cases q : 0 ≤ a1 ∧ a1 < P 0 4
  case neg =>
    rw [if_neg q, if_pos (rfl : (0 : Int32) = 0), if_pos (rfl : (0 : Int32) = 0)]
    exact ⟨_, rfl, rfl⟩
  rw [if_pos q, if_neg (show ¬ (1 : Int32) = 0 by decide), if_neg (show ¬ (1 : Int32) = 0 by decide)]
  obtain ⟨a0, a4⟩ := q
  have a6 : a1 < 6 := by lia
  have a12 : a1 < 12 := by lia
  refine lock (S := Int32) (S' := Int32) (N := P 0 4) (lp := fun n i s => lp_Tt_enemies_17 TC n hC 0 a1 s i) (lp' := fun n i s => lp_Md_enemies_19 TR n h1 0 a1 s i) (fun a b => ∃ r, a = some r ∧ b = some (r, h1)) (fun _ s s' => s = s') (by lia) (by lia) ?_ ?_ 0 (by decide) (by lia) 0 0 rfl
  · intro n m s s' e
    subst e
    simp only [lp_Tt_enemies_17, lp_Md_enemies_19, lyC, g, k]
    rw [if_pos (by lia), if_pos (by lia)]
    exact ⟨_, rfl, rfl⟩
  · intro n m i s s' h0 h1' e
    subst e
    have h6 : i < 6 := by lia
    have h12 : i < 12 := by lia
    simp only [lp_Tt_enemies_17, lp_Md_enemies_19]
    unfold jb_Tt_enemies_50 jb_Md_enemies_82 jb_Md_enemies_83
    simp (disch := first | assumption | decide | omega) only [lyC, lyR, rdC, rdR, bnd_q, nmd_q, g, k, enC (w := 45) (by unfold WC; omega) ok lk wo xh a0 a4 h0 h1', Int32.or_zero]
    rw [if_neg (show ¬ P 0 4 ≤ i by lia), if_neg (show ¬ P 0 4 ≤ i by lia)]
    have no : ∃ t t', lp_Tt_enemies_17 TC n hC 0 a1 s (i + 1) = lp_Tt_enemies_17 TC n hC 0 a1 t (i + 1) ∧ lp_Md_enemies_19 TR m h1 0 a1 s (i + 1) = lp_Md_enemies_19 TR m h1 0 a1 t' (i + 1) ∧ t = t' := ⟨s, s, rfl, rfl, rfl⟩
    by_cases c1 : A.1 1 a1 = A.1 1 i
    case neg =>
      have c1' : ¬ A.1 1 i = A.1 1 a1 := fun z => c1 z.symm
      rw [if_neg c1, if_pos (rfl : (0 : Int32) = 0), if_neg c1']
      repeat' split
      all_goals exact .inr no
    rw [if_pos c1]
    by_cases c2 : P 7 a1 = P 7 i
    · rw [if_pos c2, if_pos (rfl : (0 : Int32) = 0), if_pos c2.symm]
      repeat' split
      all_goals exact .inr no
    have c2' : ¬ P 7 i = P 7 a1 := fun z => c2 z.symm
    rw [if_neg c2, if_neg c2']
    by_cases c3 : bt (A.1 0 2) a1 = 0
    · rw [if_pos c3, if_pos c3]
      exact .inr no
    rw [if_neg c3, if_neg c3]
    by_cases c4 : bt (A.1 0 2) i = 0
    · rw [if_pos c4, if_pos c4]
      exact .inr no
    rw [if_neg c4, if_neg c4, if_neg (show ¬ (1 : Int32) = 0 by decide), if_pos c1.symm]
    exact .inr ⟨_, _, rfl, rfl, rfl⟩
theorem isIn_e {h : Hp} {n a b : Int32} : f_Md_isIn TR h n a b = if a ≤ n ∧ n ≤ b then 1 else 0 := by
  unfold f_Md_isIn
  split
  · rw [if_neg (by lia)]
  split
  · rw [if_neg (by lia)]
  · rw [if_pos (by lia)]
theorem sp_trough : SP_trough Rl := by
  intro hC hR a1 a2 hr
  obtain ⟨P, L, A, B, X, U, p, x, y⟩ := hr
  have ok := p.1
  have o1 := ok.1
  have lk := p.2.1
  have wo := p.2.2.1
  have g := x.1.h.g
  simp only [Nat.reduceAdd] at g
  have xh := x.1.h
  have y1 := y.th (v := 0) ok
  have k := y1.1.g
  have sx := x.2.2.1
  have sr := y1.2.2.1
  refine q_of p x y1 ?_
  have e12 := k.1.1
  unfold f_Tt_trough f_Md_trough
  simp only [nmd_q]
  generalize pI hR 0 2 0 = h1 at y1 k sr e12 ⊢
  simp only [lyC, lyR]
  rw [htC xh, htR e12]
  by_cases q : 0 ≤ a1 ∧ a1 < P 0 3
  case neg =>
    rw [if_neg q, if_pos (rfl : (0 : Int32) = 0), if_pos (rfl : (0 : Int32) = 0)]
    exact ⟨_, rfl, rfl⟩
  rw [if_pos q, if_neg (show ¬ (1 : Int32) = 0 by decide), if_neg (show ¬ (1 : Int32) = 0 by decide)]
  obtain ⟨a0, a4⟩ := q
  have a6 : a1 < 6 := by lia
  have a12 : a1 < 12 := by lia
  simp (disch := first | assumption | decide | omega) only [rdC, bnd_q, g]
  unfold f_Tt_horsesAt
  have key : ∃ r, lp_Tt_horsesAt_4 TC fu hC 0 (P 2 a1) 0 0 = some r ∧ lp_Md_trough_20 TR fu h1 0 a1 a2 0 0 = some ((if a2 = 0 then P 2 a1 else if a2 = 1 then A.1 6 a1 else if a2 = 2 then P 4 a1 else if a2 = 3 then r else -1), h1) := by
    refine lock (S := Int32) (S' := Int32) (N := P 0 4) (lp := fun n i s => lp_Tt_horsesAt_4 TC n hC 0 (P 2 a1) s i) (lp' := fun n i s => lp_Md_trough_20 TR n h1 0 a1 a2 s i) (fun a b => ∃ r, a = some r ∧ b = some ((if a2 = 0 then P 2 a1 else if a2 = 1 then A.1 6 a1 else if a2 = 2 then P 4 a1 else if a2 = 3 then r else -1), h1)) (fun _ s s' => s = s') (by lia) (by lia) ?_ ?_ 0 (by decide) (by lia) 0 0 rfl
    · intro n m s s' e
      subst e
      simp (disch := first | assumption | decide | omega) only [lp_Tt_horsesAt_4, lp_Md_trough_20, lyC, lyR, rdR, bnd_q, g, k]
      rw [if_pos (by lia), if_pos (by lia)]
      refine ⟨s, rfl, ?_⟩
      repeat' split
      all_goals rfl
    · intro n m i s s' h0 h1' e
      subst e
      have h6 : i < 6 := by lia
      have h12 : i < 12 := by lia
      simp only [lp_Tt_horsesAt_4, lp_Md_trough_20]
      unfold jb_Tt_horsesAt_45 jb_Md_trough_63 jb_Md_trough_64
      simp (disch := first | assumption | decide | omega) only [lyC, lyR, rdC, rdR, bnd_q, nmd_q, g, k, onC xh, Int32.or_zero]
      rw [if_neg (show ¬ P 0 4 ≤ i by lia), if_neg (show ¬ P 0 4 ≤ i by lia)]
      by_cases c1 : bt (A.1 0 2) i = 0
      · rw [if_pos c1, if_pos c1]
        exact .inr ⟨s, s, rfl, rfl, rfl⟩
      rw [if_neg c1, if_neg c1]
      by_cases c2 : A.1 1 i = P 2 a1
      · rw [if_pos c2, if_pos c2]
        exact .inr ⟨_, _, rfl, rfl, rfl⟩
      · rw [if_neg c2, if_neg c2]
        exact .inr ⟨s, s, rfl, rfl, rfl⟩
  obtain ⟨r, e1, e2⟩ := key
  rw [e1, e2, bnd_q]
  refine ⟨_, ?_, rfl⟩
  repeat' split
  all_goals rfl
