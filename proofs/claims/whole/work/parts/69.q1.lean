/-! what is asked and changes nothing -/
theorem q_of {hC hR' : Hp} {c : Option Int32} {m : Option (Int32 × Hp)} {P : Pl} {L : Lw} {A B : Aw} {X : Pl} {U : Ud} (p : PRel P L A B X U) (x : CRel hC P L A B X) (y : RRel hR' P L A B X U) (h : ∃ r, c = some r ∧ m = some (r, hR')) : ∃ r r', c = some r ∧ m = some r' ∧ r = r'.1 ∧ Rl hC r'.2 := by
  obtain ⟨r, e1, e2⟩ := h
  exact ⟨r, (r, hR'), e1, e2, rfl, Rl.mk p x y⟩
theorem hhC {h : Hp} {P : Pl} {i : Int32} (e : h.1 26 4 = P 0 4) : f_Pl_hasHorse TC h 26 i = if 0 ≤ i ∧ i < P 0 4 then 1 else 0 := by
  unfold f_Pl_hasHorse
  rw [e]
  split
  · rw [if_neg (by lia)]
  split
  · rw [if_neg (by lia)]
  · rw [if_pos (by lia)]
theorem hhR {h : Hp} {P : Pl} {i : Int32} (e : h.1 0 13 = P 0 4) : f_Md_isHorse TR h 0 i = if 0 ≤ i ∧ i < P 0 4 then 1 else 0 := by
  unfold f_Md_isHorse
  rw [e]
  split
  · rw [if_neg (by lia)]
  split
  · rw [if_neg (by lia)]
  · rw [if_pos (by lia)]
theorem htR {h : Hp} {P : Pl} {i : Int32} (e : h.1 0 12 = P 0 3) : f_Md_isTrough TR h 0 i = if 0 ≤ i ∧ i < P 0 3 then 1 else 0 := by
  unfold f_Md_isTrough
  rw [e]
  split
  · rw [if_neg (by lia)]
  split
  · rw [if_neg (by lia)]
  · rw [if_pos (by lia)]
theorem sp_fault : SP_fault Rl := by
  intro hC hR a1 hr
  obtain ⟨P, L, A, B, X, U, p, x, y⟩ := hr
  have ok := p.1
  have o1 := ok.1
  have lk := p.2.1
  have wo := p.2.2.1
  have g := x.1.h.g
  simp only [Nat.reduceAdd] at g
  have xh := x.1.h
  have y1 := y.th (v := 0) ok
  have k := y1.1.g
  have sx := x.2.2.1
  have sr := y1.2.2.1
  have e : f_Md_fault TR hR 0 a1 = (f_Tt_fault TC hC 0 a1, pI hR 0 2 0) := by
    unfold f_Md_fault f_Tt_fault
    simp only [nmd_q, lyC, sx, sr]
    split
    · rfl
    split <;> rfl
  exact ⟨_, _, rfl, e, rfl, Rl.mk p x y1⟩
theorem fnd2 {hC hR : Hp} {c r : Nat} {F : Int32 → Int32} {N v : Int32} (hN0 : 0 ≤ N) (hN : N ≤ 6) (ac : al TC c = 6) (ar : al TR r = 12) (eC : ∀ t, 0 ≤ t → t < N → hC.1 c (ix t) = F t) (eR : ∀ t, 0 ≤ t → t < N → hR.1 r (ix t) = F t) : ∃ v', f_Tt_find TC hC c N v = some v' ∧ f_Md_find TR hR r 0 N v = some v' := by
  unfold f_Tt_find f_Md_find
  have z : ∀ i : Int32, 0 + i = i := fun i => by lia
  have a6 : Int32.ofNat 6 = 6 := by decide
  refine lock (S := Unit) (S' := Unit) (N := N) (lp := fun n i _ => lp_Tt_find_2 TC n hC c N v i) (lp' := fun n i _ => lp_Md_find_3 TR n hR r 0 N v i) (fun a b => ∃ v', a = some v' ∧ b = some v') (fun _ _ _ => True) hN0 (by lia) ?_ ?_ 0 (by decide) hN0 () () trivial
  · intro n m _ _ _
    simp only [lp_Tt_find_2, lp_Md_find_3]
    rw [if_pos (by lia), if_pos (by lia)]
    exact ⟨_, rfl, rfl⟩
  · intro n m i _ _ h0 h1 _
    simp only [lp_Tt_find_2, lp_Md_find_3]
    rw [ac, a6, if_neg (show ¬ N ≤ i by lia), if_neg (show ¬ (6 : Int32) ≤ i by lia), if_neg (show ¬ N ≤ i by lia), z, rI_i 6 ac (by decide) h0 (show i < 6 by lia), rI_i 12 ar (by decide) h0 (show i < 12 by lia), bnd_q, bnd_q, eC i h0 h1, eR i h0 h1]
    by_cases q : F i = v
    · rw [if_pos q, if_pos q]
      exact .inl ⟨_, rfl, rfl⟩
    · rw [if_neg q, if_neg q, nmd_q, nmd_q]
      exact .inr ⟨(), (), rfl, rfl, trivial⟩
theorem alc : al TC 27 = 6 ∧ al TC 32 = 6 ∧ al TR 5 = 12 ∧ al TR 9 = 12 := by
  simp only [alC, alR, and_self]
theorem sp_named : SP_named Rl := by
  intro hC hR a1 a2 hr
  obtain ⟨P, L, A, B, X, U, p, x, y⟩ := hr
  have ok := p.1
  have o1 := ok.1
  have lk := p.2.1
  have wo := p.2.2.1
  have g := x.1.h.g
  simp only [Nat.reduceAdd] at g
  have xh := x.1.h
  have y1 := y.th (v := 0) ok
  have k := y1.1.g
  have sx := x.2.2.1
  have sr := y1.2.2.1
  refine q_of p x y1 ?_
  unfold f_Tt_named f_Md_named
  rw [nmd_q]
  generalize pI hR 0 2 0 = h1 at y1 k sr ⊢
  simp only [lyC, lyR, g, k]
  by_cases q0 : a1 = 0
  · rw [if_pos q0, if_pos q0]
    obtain ⟨v, e1, e2⟩ := fnd2 (hC := hC) (hR := h1) (v := a2) (by lia) (by lia) alc.1 alc.2.2.1 (fun t a b => g.2.2.2.1 t a b) (fun t a b => k.2.1 t a b)
    rw [e1, e2, bnd_q, bnd_q]
    exact ⟨_, rfl, rfl⟩
  rw [if_neg q0, if_neg q0]
  by_cases q1 : a1 = 1
  · rw [if_pos q1, if_pos q1]
    obtain ⟨v, e1, e2⟩ := fnd2 (hC := hC) (hR := h1) (v := a2) (by lia) (by lia) alc.2.1 alc.2.2.2 (fun t a b => g.2.2.2.2.2.2.2.2.1 t a b) (fun t a b => k.2.2.2.2.2.1 t a b)
    rw [e1, e2, bnd_q, bnd_q]
    exact ⟨_, rfl, rfl⟩
  rw [if_neg q1, if_neg q1]
  exact ⟨_, rfl, rfl⟩
theorem gl_e {P : Pl} {g : Int32} (h : g = -2 ∨ (0 ≤ g ∧ g < P 0 3)) : (if 0 ≤ gl g then gl g else -2) = g := by
  unfold gl
  rcases h with rfl | ⟨a, b⟩
  · decide
  · rw [if_neg (show ¬ g = -2 by lia), if_pos a]
theorem sp_horse : SP_horse Rl := by
  intro hC hR a1 a2 hr
  obtain ⟨P, L, A, B, X, U, p, x, y⟩ := hr
  have ok := p.1
  have o1 := ok.1
  have lk := p.2.1
  have wo := p.2.2.1
  have g := x.1.h.g
  simp only [Nat.reduceAdd] at g
  have xh := x.1.h
  have y1 := y.th (v := 0) ok
  have k := y1.1.g
  have sx := x.2.2.1
  have sr := y1.2.2.1
  have e13 := k.1.2.1
  unfold f_Tt_horse f_Md_horse
  simp only [nmd_q]
  have yv : ∀ v, RRel (pI (pI hR 0 2 0) 0 2 v) P L A B X U := fun v => y1.th ok
  have t0 : (pI hR 0 2 0).1 0 2 = 0 := by rw [pI_t, if_pos rfl]
  generalize pI hR 0 2 0 = h1 at y1 k sr yv t0 e13 ⊢
  simp only [lyC, lyR]
  rw [hhC g.1.2.2.2.2.1, hhR e13]
  unfold f_Md_fails f_Md_thrown
  simp only [nmd_q]
  by_cases q : 0 ≤ a1 ∧ a1 < P 0 4
  case neg =>
    rw [if_neg q, if_pos (rfl : (0 : Int32) = 0), if_pos (rfl : (0 : Int32) = 0)]
    refine ⟨_, _, rfl, rfl, ?_, fun z => absurd z (by decide), Rl.mk p x (yv 1)⟩
    rw [pI_t, if_pos rfl]
  rw [if_pos q, if_neg (show ¬ (1 : Int32) = 0 by decide), if_neg (show ¬ (1 : Int32) = 0 by decide)]
  obtain ⟨h0, h1'⟩ := q
  have h6 : a1 < 6 := by lia
  have h12 : a1 < 12 := by lia
  have w1 := wo.1 a1 h0 h1'
  have fin : ∀ v : Int32, ∃ (r : Int32 × Int32) (r' : Int32 × Hp), some ((0 : Int32), v) = some r ∧ some (v, h1) = some r' ∧ r'.2.1 0 2 = r.1 ∧ (r.1 = 0 → r.2 = r'.1) ∧ Rl hC r'.2 := fun v => ⟨_, _, rfl, rfl, t0, fun _ => rfl, Rl.mk p x y1⟩
  by_cases c0 : a2 = 0
  · rw [if_pos c0, if_pos c0]
    simp (disch := first | assumption | decide | omega) only [rdC, rdR, bnd_q, nmd_q, g, k, onC xh]
    exact fin _
  rw [if_neg c0, if_neg c0]
  by_cases c1 : a2 = 1
  · rw [if_pos c1, if_pos c1]
    simp (disch := first | assumption | decide | omega) only [rdC, rdR, bnd_q, nmd_q, g, k, onC xh]
    exact fin _
  rw [if_neg c1, if_neg c1]
  by_cases c2 : a2 = 2
  · rw [if_pos c2, if_pos c2]
    simp (disch := first | assumption | decide | omega) only [rdC, rdR, bnd_q, nmd_q, g, k, onC xh]
    exact fin _
  rw [if_neg c2, if_neg c2]
  by_cases c3 : a2 = 3
  · rw [if_pos c3, if_pos c3]
    simp (disch := first | assumption | decide | omega) only [rdC, rdR, bnd_q, nmd_q, g, k, onC xh]
    exact fin _
  rw [if_neg c3, if_neg c3]
  by_cases c4 : a2 = 4
  · rw [if_pos c4, if_pos c4]
    simp (disch := first | assumption | decide | omega) only [rdC, rdR, bnd_q, nmd_q, g, k, onC xh]
    have e := gl_e w1.2.2.2.2.2.2.1
    by_cases z : 0 ≤ gl (A.1 4 a1)
    · rw [if_pos z] at e ⊢
      rw [e]
      exact fin _
    · rw [if_neg z] at e ⊢
      rw [← e]
      exact fin _
  rw [if_neg c4, if_neg c4]
  by_cases c5 : a2 = 5
  · rw [if_pos c5, if_pos c5]
    simp (disch := first | assumption | decide | omega) only [rdC, rdR, bnd_q, nmd_q, g, k, onC xh]
    exact fin _
  rw [if_neg c5, if_neg c5]
  by_cases c6 : a2 = 6
  · rw [if_pos c6, if_pos c6]
    simp (disch := first | assumption | decide | omega) only [rdC, rdR, bnd_q, nmd_q, g, k, onC xh]
    split
    · exact fin _
    · exact fin _
  rw [if_neg c6, if_neg c6]
  by_cases c7 : a2 = 7
  · rw [if_pos c7, if_pos c7]
    simp (disch := first | assumption | decide | omega) only [rdC, rdR, bnd_q, nmd_q, g, k, onC xh]
    exact fin _
  rw [if_neg c7, if_neg c7]
  refine ⟨_, _, rfl, rfl, ?_, fun z => absurd z (by decide), Rl.mk p x (yv 2)⟩
  rw [pI_t, if_pos rfl]
/-- bits of those for whom it is so -/
theorem sp_sides : SP_sides Rl := by
  intro hC hR hr
  obtain ⟨P, L, A, B, X, U, p, x, y⟩ := hr
  have ok := p.1
  have o1 := ok.1
  have lk := p.2.1
  have wo := p.2.2.1
  have g := x.1.h.g
  simp only [Nat.reduceAdd] at g
  have xh := x.1.h
  have y1 := y.th (v := 0) ok
  have k := y1.1.g
  have sx := x.2.2.1
  have sr := y1.2.2.1
  refine q_of p x y1 ?_
  unfold f_Tt_sides f_Md_sides
  rw [nmd_q]
  generalize pI hR 0 2 0 = h1 at y1 k sr ⊢
  refine lock (S := Int32) (S' := Int32) (N := P 0 4) (lp := fun n i s => lp_Tt_sides_4 TC n hC 0 s i) (lp' := fun n i s => lp_Md_sides_9 TR n h1 0 s i) (fun a b => ∃ r, a = some r ∧ b = some (r, h1)) (fun _ s s' => s = s') (by lia) (by lia) ?_ ?_ 0 (by decide) (by lia) 0 0 rfl
  · intro n m s s' e
    subst e
    simp only [lp_Tt_sides_4, lp_Md_sides_9, lyC, g, k]
    rw [if_pos (by lia), if_pos (by lia)]
    exact ⟨_, rfl, rfl⟩
  · intro n m i s s' h0 h1' e
    subst e
    have h6 : i < 6 := by lia
    have h12 : i < 12 := by lia
    simp only [lp_Tt_sides_4, lp_Md_sides_9]
    unfold jb_Tt_sides_40 jb_Md_sides_39
    simp (disch := first | assumption | decide | omega) only [lyC, lyR, rdC, rdR, bnd_q, nmd_q, g, k, onC xh]
    rw [if_neg (show ¬ P 0 4 ≤ i by lia), if_neg (show ¬ P 0 4 ≤ i by lia)]
    by_cases q : bt (A.1 0 2) i = 0
    · rw [if_pos q, if_pos q]
      exact .inr ⟨s, s, rfl, by rw [Int32.or_zero], rfl⟩
    · rw [if_neg q, if_neg q]
      exact .inr ⟨_, _, rfl, rfl, rfl⟩
theorem sp_thirstiest : SP_thirstiest Rl := by
  intro hC hR hr
  obtain ⟨P, L, A, B, X, U, p, x, y⟩ := hr
  have ok := p.1
  have o1 := ok.1
  have lk := p.2.1
  have wo := p.2.2.1
  have g := x.1.h.g
  simp only [Nat.reduceAdd] at g
  have xh := x.1.h
  have y1 := y.th (v := 0) ok
  have k := y1.1.g
  have sx := x.2.2.1
  have sr := y1.2.2.1
  refine q_of p x y1 ?_
  unfold f_Tt_thirstiest f_Md_thirstiest
  rw [nmd_q]
  generalize pI hR 0 2 0 = h1 at y1 k sr ⊢
  refine lock (S := Int32 × Int32) (S' := Int32) (N := P 0 4) (lp := fun n i s => lp_Tt_thirstiest_7 TC n hC 0 s.1 s.2 i) (lp' := fun n i s => lp_Md_thirstiest_10 TR n h1 0 s i) (fun a b => ∃ r, a = some r ∧ b = some (r, h1)) (fun _ s s' => s.1 = s' ∧ ((s.1 = -2 ∧ s.2 = -1) ∨ (0 ≤ s.1 ∧ s.1 < P 0 4 ∧ s.2 = A.1 2 s.1))) (by lia) (by lia) ?_ ?_ 0 (by decide) (by lia) (-2, -1) (-2) ⟨rfl, .inl ⟨rfl, rfl⟩⟩
  · intro n m s s' e
    simp only [lp_Tt_thirstiest_7, lp_Md_thirstiest_10, lyC, g, k]
    rw [if_pos (by lia), if_pos (by lia), e.1]
    exact ⟨_, rfl, rfl⟩
  · intro n m i s s' h0 h1' e
    obtain ⟨s1, s2⟩ := s
    obtain ⟨rfl, e⟩ := e
    have h6 : i < 6 := by lia
    have h12 : i < 12 := by lia
    have w1 := wo.1 i h0 h1'
    simp only [lp_Tt_thirstiest_7, lp_Md_thirstiest_10]
    unfold jb_Tt_thirstiest_54 jb_Md_thirstiest_46 jb_Md_thirstiest_50 jb_Md_thirstiest_51
    simp (disch := first | assumption | decide | omega) only [lyC, lyR, rdC, rdR, bnd_q, nmd_q, g, k, onC xh]
    rw [if_neg (show ¬ P 0 4 ≤ i by lia), if_neg (show ¬ P 0 4 ≤ i by lia)]
    by_cases q : bt (A.1 0 2) i = 0
    · rw [if_pos q, if_pos q]
      exact .inr ⟨(s1, s2), s1, rfl, rfl, rfl, e⟩
    rw [if_neg q, if_neg q]
    rcases e with ⟨e1, e2⟩ | ⟨e1, e2, e3⟩
    · simp only at e1 e2
      rw [if_neg (by lia), if_pos (by lia)]
      exact .inr ⟨(i, A.1 2 i), i, rfl, rfl, rfl, .inr ⟨h0, h1', rfl⟩⟩
    · simp only at e1 e2 e3
      have s12 : s1 < 12 := by lia
      rw [if_neg (show ¬ s1 < 0 by lia)]
      simp (disch := first | assumption | decide | omega) only [rdR, bnd_q, k]
      rw [e3]
      by_cases q2 : A.1 2 i ≤ A.1 2 s1
      · rw [if_pos q2, if_pos q2]
        exact .inr ⟨(s1, A.1 2 s1), s1, rfl, rfl, rfl, .inr ⟨e1, e2, rfl⟩⟩
      · rw [if_neg q2, if_neg q2]
        exact .inr ⟨(i, A.1 2 i), i, rfl, rfl, rfl, .inr ⟨h0, h1', rfl⟩⟩
theorem sp_driest : SP_driest Rl := by
  intro hC hR hr
  obtain ⟨P, L, A, B, X, U, p, x, y⟩ := hr
  have ok := p.1
  have o1 := ok.1
  have lk := p.2.1
  have wo := p.2.2.1
  have g := x.1.h.g
  simp only [Nat.reduceAdd] at g
  have xh := x.1.h
  have y1 := y.th (v := 0) ok
  have k := y1.1.g
  have sx := x.2.2.1
  have sr := y1.2.2.1
  refine q_of p x y1 ?_
  unfold f_Tt_driest f_Md_driest
  rw [nmd_q]
  generalize pI hR 0 2 0 = h1 at y1 k sr ⊢
  refine lock (S := Int32 × Int32) (S' := Int32) (N := P 0 3) (lp := fun n i s => lp_Tt_driest_7 TC n hC 0 s.1 s.2 i) (lp' := fun n i s => lp_Md_driest_9 TR n h1 0 s i) (fun a b => ∃ r, a = some r ∧ b = some (r, h1)) (fun _ s s' => s.1 = s' ∧ ((s.1 = -1 ∧ s.2 = 100) ∨ (0 ≤ s.1 ∧ s.1 < P 0 3 ∧ s.2 = A.1 6 s.1))) (by lia) (by lia) ?_ ?_ 0 (by decide) (by lia) (-1, 100) (-1) ⟨rfl, .inl ⟨rfl, rfl⟩⟩
  · intro n m s s' e
    simp only [lp_Tt_driest_7, lp_Md_driest_9, lyC, g, k]
    rw [if_pos (by lia), if_pos (by lia), e.1]
    exact ⟨_, rfl, rfl⟩
  · intro n m i s s' h0 h1' e
    obtain ⟨s1, s2⟩ := s
    obtain ⟨rfl, e⟩ := e
    have h6 : i < 6 := by lia
    have h12 : i < 12 := by lia
    have w1 := wo.2.1 i h0 h1'
    simp only [lp_Tt_driest_7, lp_Md_driest_9]
    unfold jb_Tt_driest_43 jb_Md_driest_36 jb_Md_driest_41
    simp (disch := first | assumption | decide | omega) only [lyC, lyR, rdC, rdR, bnd_q, nmd_q, g, k]
    rw [if_neg (show ¬ P 0 3 ≤ i by lia), if_neg (show ¬ P 0 3 ≤ i by lia)]
    rcases e with ⟨e1, e2⟩ | ⟨e1, e2, e3⟩
    · simp only at e1 e2
      rw [if_neg (by lia), if_pos (by lia)]
      exact .inr ⟨(i, A.1 6 i), i, rfl, rfl, rfl, .inr ⟨h0, h1', rfl⟩⟩
    · simp only at e1 e2 e3
      have s12 : s1 < 12 := by lia
      rw [if_neg (show ¬ s1 < 0 by lia)]
      simp (disch := first | assumption | decide | omega) only [rdR, bnd_q, k]
      rw [e3]
      by_cases q2 : A.1 6 s1 ≤ A.1 6 i
      · rw [if_pos q2, if_pos q2]
        exact .inr ⟨(s1, A.1 6 s1), s1, rfl, rfl, rfl, .inr ⟨e1, e2, rfl⟩⟩
      · rw [if_neg q2, if_neg q2]
        exact .inr ⟨(i, A.1 6 i), i, rfl, rfl, rfl, .inr ⟨h0, h1', rfl⟩⟩
