/-! two who drink or go on; where all may gather -/
def gn (P : Pl) (A : Aw) (i j a b : Int32) : Int32 := if a = 0 then (if b = 0 then 10 - abI (P 7 i - P 7 j) else A.1 2 i / 5) else (if b = 0 then P 10 i else P 10 i / 2)
theorem gnC {h : Hp} {P : Pl} {L : Lw} {A : Aw} {i j a b : Int32} (ok : POK P) (x : CNo h P L A) (h0 : 0 ≤ i) (h1 : i < P 0 4) (j0 : 0 ≤ j) (j1 : j < P 0 4) : f_Cn_gain TC h 90 i j a b = some (gn P A i j a b) := by
  have o1 := ok.1
  have h6 : i < 6 := by lia
  have j6 : j < 6 := by lia
  have g := x.h.g
  simp only [Nat.reduceAdd] at g
  unfold f_Cn_gain gn
  simp (disch := first | assumption | decide | omega) only [lyC, rdC, bnd_q, nmd_q, g]
  repeat' split
  all_goals rfl
theorem gnR {h : Hp} {P : Pl} {L : Lw} {A : Aw} {i j a b : Int32} (ok : POK P) (x : RK h P L A) (h0 : 0 ≤ i) (h1 : i < P 0 4) (j0 : 0 ≤ j) (j1 : j < P 0 4) : f_Md_hasBy TR h 0 i j a b = some (gn P A i j a b) := by
  have o1 := ok.1
  have h6 : i < 12 := by lia
  have j6 : j < 12 := by lia
  have k := x.g
  unfold f_Md_hasBy gn
  simp (disch := first | assumption | decide | omega) only [lyR, rdR, bnd_q, nmd_q, k, szR]
  repeat' split
  all_goals rfl
theorem irC {h : Hp} {P : Pl} {L : Lw} {A : Aw} {i j a b : Int32} (ok : POK P) (x : CNo h P L A) (h0 : 0 ≤ i) (h1 : i < P 0 4) (j0 : 0 ≤ j) (j1 : j < P 0 4) : f_Cn_isRest TC h 90 i j a b = some (if gn P A i j a b < gn P A i j (1 - a) b then 0 else if gn P A j i b a < gn P A j i (1 - b) a then 0 else 1) := by
  unfold f_Cn_isRest
  rw [gnC ok x h0 h1 j0 j1, gnC ok x h0 h1 j0 j1, gnC ok x j0 j1 h0 h1, gnC ok x j0 j1 h0 h1, bnd_q, bnd_q, bnd_q, bnd_q]
  repeat' split
  all_goals rfl
theorem a2C {h : Hp} {P : Pl} {i j : Int32} (e : h.1 26 4 = P 0 4) : f_Tt_areTwo TC h 0 i j = if (0 ≤ i ∧ i < P 0 4) ∧ (0 ≤ j ∧ j < P 0 4) ∧ ¬ i = j then 1 else 0 := by
  unfold f_Tt_areTwo
  simp only [nmd_q, lyC]
  rw [hhC e, hhC e]
  by_cases q1 : 0 ≤ i ∧ i < P 0 4
  case neg =>
    rw [if_neg q1, if_pos (rfl : (0 : Int32) = 0), if_neg (fun z => q1 z.1)]
  rw [if_pos q1, if_neg (show ¬ (1 : Int32) = 0 by decide)]
  by_cases q2 : 0 ≤ j ∧ j < P 0 4
  case neg =>
    rw [if_neg q2, if_pos (rfl : (0 : Int32) = 0), if_neg (fun z => q2 z.2.1)]
  rw [if_pos q2, if_neg (show ¬ (1 : Int32) = 0 by decide)]
  by_cases q3 : i = j
  · rw [if_pos q3, if_neg (fun z => z.2.2 q3)]
  · rw [if_neg q3, if_pos ⟨q1, q2, q3⟩]
theorem a2R {h : Hp} {P : Pl} {i j : Int32} (e : h.1 0 13 = P 0 4) : f_Md_areTwo TR h 0 i j = if (0 ≤ i ∧ i < P 0 4) ∧ (0 ≤ j ∧ j < P 0 4) ∧ ¬ i = j then 1 else 0 := by
  unfold f_Md_areTwo
  simp only [nmd_q]
  rw [hhR e, hhR e]
  by_cases q1 : 0 ≤ i ∧ i < P 0 4
  case neg =>
    rw [if_neg q1, if_pos (rfl : (0 : Int32) = 0), if_neg (fun z => q1 z.1)]
  rw [if_pos q1, if_neg (show ¬ (1 : Int32) = 0 by decide)]
  by_cases q2 : 0 ≤ j ∧ j < P 0 4
  case neg =>
    rw [if_neg q2, if_pos (rfl : (0 : Int32) = 0), if_neg (fun z => q2 z.2.1)]
  rw [if_pos q2, if_neg (show ¬ (1 : Int32) = 0 by decide)]
  by_cases q3 : i = j
  · rw [if_pos q3, if_neg (fun z => z.2.2 q3)]
  · rw [if_neg q3, if_pos ⟨q1, q2, q3⟩]
theorem sp_rests : SP_rests Rl := by
  intro hC hR a1 a2 hr
  obtain ⟨P, L, A, B, X, U, p, x, y⟩ := hr
  have ok := p.1
  have o1 := ok.1
  have lk := p.2.1
  have wo := p.2.2.1
  have g := x.1.h.g
  simp only [Nat.reduceAdd] at g
  have xh := x.1.h
  have y1 := y.th (v := 0) ok
  have k := y1.1.g
  have sx := x.2.2.1
  have sr := y1.2.2.1
  refine q_of p x y1 ?_
  have e13 := k.1.2.1
  have rk := y1.1
  unfold f_Tt_rests f_Md_rests
  simp only [nmd_q]
  generalize pI hR 0 2 0 = h1 at y1 k sr e13 rk ⊢
  rw [a2C g.1.2.2.2.2.1, a2R e13]
  by_cases q : (0 ≤ a1 ∧ a1 < P 0 4) ∧ (0 ≤ a2 ∧ a2 < P 0 4) ∧ ¬ a1 = a2
  case neg =>
    rw [if_neg q, if_pos (rfl : (0 : Int32) = 0), if_pos (rfl : (0 : Int32) = 0)]
    exact ⟨_, rfl, rfl⟩
  rw [if_pos q, if_neg (show ¬ (1 : Int32) = 0 by decide), if_neg (show ¬ (1 : Int32) = 0 by decide)]
  obtain ⟨⟨h0, h4⟩, ⟨j0, j4⟩, -⟩ := q
  simp only [lyC]
  unfold f_Cn_manyRests f_Md_restAt
  have key : ∃ r, lp_Cn_manyRests_5 TC fu hC 90 a1 a2 0 0 = some r ∧ lp_Md_restAt_6 TR fu h1 0 a1 a2 (-1) 0 0 = some r := by
    refine lock (S := Int32) (S' := Int32) (N := 4) (lp := fun n i s => lp_Cn_manyRests_5 TC n hC 90 a1 a2 s i) (lp' := fun n i s => lp_Md_restAt_6 TR n h1 0 a1 a2 (-1) s i) (fun a b => ∃ r, a = some r ∧ b = some r) (fun i s s' => s = s' ∧ 0 ≤ s ∧ s ≤ i) (by decide) (by decide) ?_ ?_ 0 (by decide) (by decide) 0 0 ⟨rfl, by decide, by decide⟩
    · intro n m s s' e
      obtain ⟨rfl, e1, e2⟩ := e
      simp only [lp_Cn_manyRests_5, lp_Md_restAt_6]
      rw [if_pos (by decide), if_pos (by decide), if_neg (by decide)]
      exact ⟨_, rfl, rfl⟩
    · intro n m i s s' i0 i4 e
      obtain ⟨rfl, e1, e2⟩ := e
      simp only [lp_Cn_manyRests_5, lp_Md_restAt_6]
      unfold jb_Cn_manyRests_34 jb_Md_restAt_95
      simp only [nmd_q, irC ok x.1 h0 h4 j0 j4, gnR ok rk h0 h4 j0 j4, gnR ok rk j0 j4 h0 h4, bnd_q]
      rw [if_neg (show ¬ (4 : Int32) ≤ i by lia), if_neg (show ¬ (4 : Int32) ≤ i by lia)]
      generalize gn P A a1 a2 (i / 2) (i - i / 2 * 2) = u1
      generalize gn P A a1 a2 (1 - i / 2) (i - i / 2 * 2) = u2
      generalize gn P A a2 a1 (i - i / 2 * 2) (i / 2) = u3
      generalize gn P A a2 a1 (1 - (i - i / 2 * 2)) (i / 2) = u4
      by_cases c1 : u1 < u2
      · rw [if_pos c1, if_pos (rfl : (0 : Int32) = 0), if_pos c1]
        exact .inr ⟨s + 0, s, rfl, rfl, by lia, by lia, by lia⟩
      rw [if_neg c1, if_neg c1]
      by_cases c2 : u3 < u4
      · rw [if_pos c2, if_pos (rfl : (0 : Int32) = 0), if_neg (show ¬ u4 ≤ u3 by lia)]
        exact .inr ⟨s + 0, s, rfl, rfl, by lia, by lia, by lia⟩
      · rw [if_neg c2, if_neg (show ¬ (1 : Int32) = 0 by decide), if_pos (show u4 ≤ u3 by lia), if_neg (show ¬ s = -1 by lia)]
        exact .inr ⟨s + 1, s + 1, rfl, rfl, rfl, by lia, by lia⟩
  obtain ⟨r, e1, e2⟩ := key
  rw [e1, e2, bnd_q, bnd_q]
  exact ⟨_, rfl, rfl⟩
theorem sp_rest : SP_rest Rl := by
  intro hC hR a1 a2 a3 hr
  obtain ⟨P, L, A, B, X, U, p, x, y⟩ := hr
  have ok := p.1
  have o1 := ok.1
  have lk := p.2.1
  have wo := p.2.2.1
  have g := x.1.h.g
  simp only [Nat.reduceAdd] at g
  have xh := x.1.h
  have y1 := y.th (v := 0) ok
  have k := y1.1.g
  have sx := x.2.2.1
  have sr := y1.2.2.1
  refine q_of p x y1 ?_
  have e13 := k.1.2.1
  have rk := y1.1
  unfold f_Tt_rest f_Md_rest
  simp only [nmd_q]
  generalize pI hR 0 2 0 = h1 at y1 k sr e13 rk ⊢
  rw [a2C g.1.2.2.2.2.1, a2R e13]
  by_cases q : (0 ≤ a1 ∧ a1 < P 0 4) ∧ (0 ≤ a2 ∧ a2 < P 0 4) ∧ ¬ a1 = a2
  case neg =>
    rw [if_neg q, if_pos (rfl : (0 : Int32) = 0), if_pos (rfl : (0 : Int32) = 0), ite_self]
    exact ⟨_, rfl, rfl⟩
  rw [if_pos q, if_neg (show ¬ (1 : Int32) = 0 by decide), if_neg (show ¬ (1 : Int32) = 0 by decide)]
  by_cases q3 : a3 < 0
  · rw [if_pos q3, if_pos q3]
    exact ⟨_, rfl, rfl⟩
  rw [if_neg q3, if_neg q3]
  obtain ⟨⟨h0, h4⟩, ⟨j0, j4⟩, -⟩ := q
  simp only [lyC]
  unfold f_Cn_restNumbered f_Md_restAt
  have key : ∃ r, lp_Cn_restNumbered_6 TC fu hC 90 a1 a2 a3 0 0 = some r ∧ lp_Md_restAt_6 TR fu h1 0 a1 a2 a3 0 0 = some r := by
    refine lock (S := Int32) (S' := Int32) (N := 4) (lp := fun n i s => lp_Cn_restNumbered_6 TC n hC 90 a1 a2 a3 s i) (lp' := fun n i s => lp_Md_restAt_6 TR n h1 0 a1 a2 a3 s i) (fun a b => ∃ r, a = some r ∧ b = some r) (fun i s s' => s = s') (by decide) (by decide) ?_ ?_ 0 (by decide) (by decide) 0 0 rfl
    · intro n m s s' e
      subst e
      simp only [lp_Cn_restNumbered_6, lp_Md_restAt_6]
      rw [if_pos (by decide), if_pos (by decide), if_pos (show 0 ≤ a3 by lia)]
      exact ⟨_, rfl, rfl⟩
    · intro n m i s s' i0 i4 e
      subst e
      simp only [lp_Cn_restNumbered_6, lp_Md_restAt_6]
      unfold jb_Cn_restNumbered_51 jb_Md_restAt_95
      simp only [nmd_q, irC ok x.1 h0 h4 j0 j4, gnR ok rk h0 h4 j0 j4, gnR ok rk j0 j4 h0 h4, bnd_q]
      rw [if_neg (show ¬ (4 : Int32) ≤ i by lia), if_neg (show ¬ (4 : Int32) ≤ i by lia)]
      generalize gn P A a1 a2 (i / 2) (i - i / 2 * 2) = u1
      generalize gn P A a1 a2 (1 - i / 2) (i - i / 2 * 2) = u2
      generalize gn P A a2 a1 (i - i / 2 * 2) (i / 2) = u3
      generalize gn P A a2 a1 (1 - (i - i / 2 * 2)) (i / 2) = u4
      by_cases c1 : u1 < u2
      · rw [if_pos c1, if_pos (rfl : (0 : Int32) = 0), if_pos c1]
        exact .inr ⟨s, s, rfl, rfl, rfl⟩
      rw [if_neg c1, if_neg c1]
      by_cases c2 : u3 < u4
      · rw [if_pos c2, if_pos (rfl : (0 : Int32) = 0), if_neg (show ¬ u4 ≤ u3 by lia)]
        exact .inr ⟨s, s, rfl, rfl, rfl⟩
      rw [if_neg c2, if_neg (show ¬ (1 : Int32) = 0 by decide), if_pos (show u4 ≤ u3 by lia)]
      by_cases c3 : s = a3
      · rw [if_pos c3, if_pos c3, Int32.mul_comm (i / 2) 10]
        exact .inl ⟨_, rfl, rfl⟩
      · rw [if_neg c3, if_neg c3]
        exact .inr ⟨_, _, rfl, rfl, rfl⟩
  obtain ⟨r, e1, e2⟩ := key
  rw [e1, e2, bnd_q, bnd_q]
  exact ⟨_, rfl, rfl⟩
/-- two folds side by side -/
theorem Fold2 {S S' : Type} {f : Int32 → S → S} {f' : Int32 → S' → S'} {N : Int32} (I : Int32 → S → S' → Prop) (hN : 0 ≤ N) (hN9 : N ≤ 900) (hs : ∀ i s s', 0 ≤ i → i < N → I i s s' → I (i + 1) (f i s) (f' i s')) : ∀ i, 0 ≤ i → i ≤ N → ∀ s s', I i s s' → I N (Fold f N i s) (Fold f' N i s') := by
  intro i h0 h1
  refine loop_fu (P := fun _ i => i ≤ N → ∀ s s', I i s s' → I N (Fold f N i s) (Fold f' N i s')) hN9 ?_ ?_ i h0 h1
  · intro n i h0 h1 h2 s s' hI
    have e : i = N := by lia
    rw [Fold_ge h0 hN h1, Fold_ge h0 hN h1]
    exact e ▸ hI
  · intro n i h0 h1 ih _ s s' hI
    rw [Fold_lt h0 h1, Fold_lt h0 h1]
    exact ih (by lia) _ _ (hs i s s' h0 h1 hI)
def hoa (P : Pl) (A : Aw) (t i s : Int32) : Int32 := if bt (A.1 0 2) i = 0 then s else mxI s (lg P i (abI (P 2 t - A.1 1 i)))
def hob (P : Pl) (A : Aw) (t i s : Int32) : Int32 := if bt (A.1 0 2) i = 0 then (if -1 ≤ s then s else -1) else (if lg P i (abI (P 2 t - A.1 1 i)) ≤ s then s else lg P i (abI (P 2 t - A.1 1 i)))
theorem mx_ab {s v : Int32} : mxI s v = if v ≤ s then s else v := by
  unfold mxI
  (repeat' split) <;> lia
theorem ho_e {P : Pl} {A : Aw} {t : Int32} (ok : POK P) (wo : WOK P A) (t0 : 0 ≤ t) (t1 : t < P 0 3) : (Fold (hob P A t) (P 0 4) 0 (-1) = -1 ∧ ∀ j, 0 ≤ j → j < P 0 4 → bt (A.1 0 2) j = 0) ∨ (Fold (hob P A t) (P 0 4) 0 (-1) = Fold (hoa P A t) (P 0 4) 0 0 ∧ 0 ≤ Fold (hoa P A t) (P 0 4) 0 0 ∧ Fold (hoa P A t) (P 0 4) 0 0 ≤ 60) := by
  have o1 := ok.1
  have key := Fold2 (f := hoa P A t) (f' := hob P A t) (N := P 0 4) (fun i s s' => (s' = -1 ∧ s = 0 ∧ ∀ j, 0 ≤ j → j < i → bt (A.1 0 2) j = 0) ∨ (s' = s ∧ 0 ≤ s ∧ s ≤ 60)) (by lia) (by lia)
    (fun i s s' h0 h1 q => by
      have w1 := wo.1 i h0 h1
      have a := ab60 ok t0 t1 w1.1 w1.2.1
      have l := lg_ok ok h0 h1 a.1 a.2
      unfold hoa hob
      rw [mx_ab]
      generalize lg P i (abI (P 2 t - A.1 1 i)) = v at l
      clear a w1 o1
      by_cases c : bt (A.1 0 2) i = 0
      · rw [if_pos c, if_pos c]
        rcases q with ⟨q1, q2, q3⟩ | ⟨q1, q2⟩
        · refine .inl ⟨by rw [q1]; decide, q2, fun j j0 j1 => ?_⟩
          by_cases e : j = i
          · rw [e]; exact c
          · exact q3 j j0 (by lia)
        · refine .inr ⟨?_, q2⟩
          rw [q1, if_pos (by lia)]
      · rw [if_neg c, if_neg c]
        rcases q with ⟨q1, q2, q3⟩ | ⟨q1, q2⟩
        · right
          clear q3
          subst q1 q2
          rw [if_neg (show ¬ v ≤ -1 by lia)]
          refine ⟨?_, ?_, ?_⟩ <;> split <;> lia
        · right
          subst q1
          refine ⟨rfl, ?_, ?_⟩ <;> split <;> lia) 0 (by decide) (by lia) 0 (-1) (.inl ⟨rfl, rfl, fun j a b => absurd b (by lia)⟩)
  rcases key with ⟨k1, k2, k3⟩ | k
  · exact .inl ⟨k1, k3⟩
  · exact .inr k
theorem hoC {h : Hp} {P : Pl} {L : Lw} {A : Aw} {t : Int32} (ok : POK P) (x : CNo h P L A) (t0 : 0 ≤ t) (t1 : t < P 0 3) : f_Cn_hoursOfAll TC h 90 t = some (Fold (hoa P A t) (P 0 4) 0 0) := by
  have o1 := ok.1
  have g := x.h.g
  simp only [Nat.reduceAdd] at g
  unfold f_Cn_hoursOfAll
  have t6 : t < 6 := by lia
  refine loopV (S := Int32) (f := hoa P A t) (N := P 0 4) (lp := fun n i s => lp_Cn_hoursOfAll_4 TC n h 90 t s i) (res := fun s => some s) (by lia) (by lia) ?_ ?_ 0 (by decide) (by lia) 0
  · intro n s
    simp only [lp_Cn_hoursOfAll_4, lyC, g]
    rw [if_pos (by lia)]
  · intro n i s h0 h1
    have h6 : i < 6 := by lia
    simp only [lp_Cn_hoursOfAll_4]
    unfold jb_Cn_hoursOfAll_65 hoa
    simp (disch := first | assumption | decide | omega) only [lyC, rdC, bnd_q, nmd_q, g, onC x.h, hfC ok x.1 h0 h1]
    rw [if_neg (show ¬ P 0 4 ≤ i by lia)]
    by_cases c : bt (A.1 0 2) i = 0
    · rw [if_pos c, if_pos c]
    · rw [if_neg c, if_neg c]
theorem mk0 : ∀ (a : Fin 64) (n : Fin 7), (∀ j : Fin 6, n.1 ≤ j.1 → bt (nI a.1) (nI j.1) = 0) → (∀ j : Fin 6, j.1 < n.1 → bt (nI a.1) (nI j.1) = 0) → nI a.1 = 0 := by decide +kernel
theorem mk_0 {m N : Int32} (h0 : 0 ≤ N) (h6 : N ≤ 6) (k : mOK N m) (q : ∀ j, 0 ≤ j → j < N → bt m j = 0) : m = 0 := by
  obtain ⟨k1, k2, k3⟩ := k
  obtain ⟨a, rfl⟩ := fin_i32 (n := 64) k1 (by decide) (show m < 64 by lia)
  obtain ⟨n, rfl⟩ := fin_i32 (n := 7) h0 (by decide) (show N < 7 by lia)
  refine mk0 a n (fun j hj => k3 (nI j.1) ?_ ?_) (fun j hj => q (nI j.1) ?_ ?_)
  · exact nI_le hj (by have := j.2; omega)
  · exact nI_lt j.2 (by decide)
  · exact nI_pos' (by have := j.2; omega)
  · exact nI_lt hj (by have := n.2; omega)
theorem sp_gather : SP_gather Rl := by
  intro hC hR a1 hr
  obtain ⟨P, L, A, B, X, U, p, x, y⟩ := hr
  have ok := p.1
  have o1 := ok.1
  have lk := p.2.1
  have wo := p.2.2.1
  have g := x.1.h.g
  simp only [Nat.reduceAdd] at g
  have xh := x.1.h
  have y1 := y.th (v := 0) ok
  have k := y1.1.g
  have sx := x.2.2.1
  have sr := y1.2.2.1
  refine q_of p x y1 ?_
  have rp := y1.1.1
  unfold f_Tt_gather f_Md_gather
  simp only [nmd_q, isIn_e]
  generalize pI hR 0 2 0 = h1 at y1 k sr rp ⊢
  by_cases q1 : 0 ≤ a1 ∧ a1 ≤ 1
  case neg =>
    rw [if_neg q1, if_pos (rfl : (0 : Int32) = 0)]
    by_cases q2 : a1 < 0
    · rw [if_pos q2]
      exact ⟨_, rfl, rfl⟩
    · rw [if_neg q2, if_neg (by lia)]
      exact ⟨_, rfl, rfl⟩
  rw [if_pos q1, if_neg (show ¬ (1 : Int32) = 0 by decide), if_neg (by lia), if_pos q1.2]
  have inner : ∀ n t (s : Int32 × Int32), 0 ≤ t → t < P 0 3 → lp_Md_gather_40 TR (lp_Md_gather_25 TR n) fu h1 0 a1 s.1 s.2 t (-1) 0 = (fun v => if v < 0 then lp_Md_gather_25 TR n h1 0 a1 s.1 s.2 (t + 1) else if s.1 < 0 then lp_Md_gather_25 TR n h1 0 a1 t v (t + 1) else if v < s.2 then lp_Md_gather_25 TR n h1 0 a1 t v (t + 1) else lp_Md_gather_25 TR n h1 0 a1 s.1 s.2 (t + 1)) (Fold (hob P A t) (P 0 4) 0 (-1)) := by
    intro n t s t0 t1
    have t12 : t < 12 := by lia
    refine loopV (S := Int32) (f := hob P A t) (N := P 0 4) (lp := fun m i v => lp_Md_gather_40 TR (lp_Md_gather_25 TR n) m h1 0 a1 s.1 s.2 t v i) (res := fun v => if v < 0 then lp_Md_gather_25 TR n h1 0 a1 s.1 s.2 (t + 1) else if s.1 < 0 then lp_Md_gather_25 TR n h1 0 a1 t v (t + 1) else if v < s.2 then lp_Md_gather_25 TR n h1 0 a1 t v (t + 1) else lp_Md_gather_25 TR n h1 0 a1 s.1 s.2 (t + 1)) (by lia) (by lia) ?_ ?_ 0 (by decide) (by lia) (-1)
    · intro m v
      simp only [lp_Md_gather_40, k]
      unfold jb_Md_gather_131 jb_Md_gather_125 jb_Md_gather_131
      simp only [nmd_q]
      rw [if_pos (show P 0 4 ≤ P 0 4 by lia)]
    · intro m i v i0 i1
      have i12 : i < 12 := by lia
      simp only [lp_Md_gather_40]
      unfold jb_Md_gather_83 jb_Md_gather_99 hob
      simp (disch := first | assumption | decide | omega) only [lyR, rdR, bnd_q, nmd_q, k, lgR ok rp i0 i1]
      rw [if_neg (show ¬ P 0 4 ≤ i by lia)]
      by_cases c : bt (A.1 0 2) i = 0
      · rw [if_pos c, if_pos c]
        by_cases c2 : -1 ≤ v
        · rw [if_pos c2, if_pos c2]
        · rw [if_neg c2, if_neg c2]
      · rw [if_neg c, if_neg c]
        by_cases c2 : lg P i (abI (P 2 t - A.1 1 i)) ≤ v
        · rw [if_pos c2, if_pos c2]
        · rw [if_neg c2, if_neg c2]
  simp only [lyC, g]
  by_cases q3 : A.1 0 2 = 0
  · rw [if_pos q3]
    have b0 : ∀ i, bt (A.1 0 2) i = 0 := fun i => by
      rw [q3]
      unfold bt
      rw [Int32.zero_and, if_pos rfl]
    have key := loopV (S := Unit) (f := fun _ s => s) (N := P 0 3) (lp := fun n i _ => lp_Md_gather_25 TR n h1 0 a1 (-2) (-2) i) (res := fun _ => some (-2, h1)) (by lia) (by lia) (fun n s => by
        simp only [lp_Md_gather_25, k]
        rw [if_pos (show P 0 3 ≤ P 0 3 by lia), ite_self])
      (fun n i s h0 h1' => by
        simp only [lp_Md_gather_25, k]
        rw [if_neg (show ¬ P 0 3 ≤ i by lia), inner n i (-2, -2) h0 h1']
        have e : Fold (hob P A i) (P 0 4) 0 (-1) = -1 := by
          refine (Fold_inv (fun _ s => s = -1) (by lia) (fun j s _ _ e => ?_) _ 0 (-1) (by decide) (by lia) rfl rfl)
          unfold hob
          rw [if_pos (b0 j), e]
          decide
        rw [e]
        simp only
        rw [if_pos (by decide)]) 0 (by decide) (by lia) ()
    exact ⟨_, rfl, key⟩
  rw [if_neg q3]
  unfold jb_Tt_gather_40 f_Cn_gathering
  have main : ∀ w : Int32, (w = 0 ↔ a1 = 0) → ∃ r, lp_Cn_gathering_9 TC fu hC 90 w (-2) 2147483647 0 = some r ∧ lp_Md_gather_25 TR fu h1 0 a1 (-2) (-2) 0 = some (r, h1) := by
    intro w hw
    refine lock (S := Int32 × Int32) (S' := Int32 × Int32) (N := P 0 3) (lp := fun n i s => lp_Cn_gathering_9 TC n hC 90 w s.1 s.2 i) (lp' := fun n i s => lp_Md_gather_25 TR n h1 0 a1 s.1 s.2 i) (fun a b => ∃ r, a = some r ∧ b = some (r, h1)) (fun _ s s' => (s = (-2, 2147483647) ∧ s' = (-2, -2)) ∨ (s = s' ∧ 0 ≤ s.1 ∧ s.2 ≤ 60)) (by lia) (by lia) ?_ ?_ 0 (by decide) (by lia) (-2, 2147483647) (-2, -2) (.inl ⟨rfl, rfl⟩)
    · intro n m s s' e
      simp only [lp_Cn_gathering_9, lp_Md_gather_25, lyC, g, k]
      rw [if_pos (show P 0 3 ≤ P 0 3 by lia), if_pos (show P 0 3 ≤ P 0 3 by lia)]
      rcases e with ⟨rfl, rfl⟩ | ⟨rfl, e1, e2⟩
      · simp only
        rw [if_true, ite_self, ite_self]
        exact ⟨_, rfl, rfl⟩
      · by_cases c : w = 0
        · rw [if_pos c, if_pos (hw.mp c)]
          exact ⟨_, rfl, rfl⟩
        · rw [if_neg c, if_neg (fun z => c (hw.mpr z)), if_neg (by lia)]
          exact ⟨_, rfl, rfl⟩
    · intro n m t s s' t0 t1 e
      simp only [lp_Cn_gathering_9, lp_Md_gather_25]
      unfold jb_Cn_gathering_41
      simp only [lyC, g, k, nmd_q]
      rw [if_neg (show ¬ P 0 3 ≤ t by lia), if_neg (show ¬ P 0 3 ≤ t by lia), hoC ok x.1 t0 t1, bnd_q, inner m t s' t0 t1]
      rcases ho_e ok wo t0 t1 with ⟨-, z⟩ | ⟨z1, z2, z3⟩
      · exact absurd (mk_0 (by lia) (by lia) wo.2.2 z) q3
      rw [z1]
      generalize Fold (hoa P A t) (P 0 4) 0 0 = v at z2 z3
      simp only
      rw [if_neg (show ¬ v < 0 by lia)]
      rcases e with ⟨rfl, rfl⟩ | ⟨rfl, e1, e2⟩
      · simp only
        rw [if_neg (show ¬ (2147483647 : Int32) ≤ v by lia), if_pos (by decide)]
        exact .inr ⟨(t, v), (t, v), rfl, rfl, .inr ⟨rfl, t0, z3⟩⟩
      · rw [if_neg (show ¬ s.1 < 0 by lia)]
        by_cases c : s.2 ≤ v
        · rw [if_pos c, if_neg (show ¬ v < s.2 by lia)]
          exact .inr ⟨s, s, rfl, rfl, .inr ⟨rfl, e1, e2⟩⟩
        · rw [if_neg c, if_pos (show v < s.2 by lia)]
          exact .inr ⟨(t, v), (t, v), rfl, rfl, .inr ⟨rfl, t0, z3⟩⟩
  by_cases q4 : a1 = 1
  · rw [if_pos q4]
    obtain ⟨r, e1, e2⟩ := main 1 ⟨fun z => absurd z (by decide), fun z => absurd z (by rw [q4]; decide)⟩
    rw [e1, e2, bnd_q]
    exact ⟨_, rfl, rfl⟩
  · rw [if_neg q4]
    obtain ⟨r, e1, e2⟩ := main 0 ⟨fun _ => by lia, fun _ => rfl⟩
    rw [e1, e2, bnd_q]
    exact ⟨_, rfl, rfl⟩
