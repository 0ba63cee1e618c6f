/-! legs: reach, round, gather, rests -/
def lg (P : Pl) (i d : Int32) : Int32 := (d + P 10 i - 1) / P 10 i
theorem lg0 : ∀ (d : Fin 61) (p : Fin 9), 0 ≤ (nI d.1 + nI (p.1 + 1) - 1) / nI (p.1 + 1) ∧ (nI d.1 + nI (p.1 + 1) - 1) / nI (p.1 + 1) ≤ 60 := by decide +kernel
theorem lg_ok {P : Pl} {i d : Int32} (ok : POK P) (h0 : 0 ≤ i) (h1 : i < P 0 4) (d0 : 0 ≤ d) (d1 : d ≤ 60) : 0 ≤ lg P i d ∧ lg P i d ≤ 60 := by
  have o4 := ok.2.2.2.1 i h0 h1
  unfold lg
  obtain ⟨x, rfl⟩ := fin_i32 (n := 61) d0 (by decide) (show d < 61 by lia)
  obtain ⟨y, e⟩ := fin_i32 (m := P 10 i - 1) (n := 9) (by lia) (by decide) (show P 10 i - 1 < 9 by lia)
  have e2 : P 10 i = nI (y.1 + 1) := by
    rw [← nI_1, ← e]
    lia
  rw [e2]
  exact lg0 x y
theorem abz0 : ∀ a b : Fin 61, abI (nI a.1 - nI b.1) = (if nI b.1 ≤ nI a.1 then nI a.1 - nI b.1 else nI b.1 - nI a.1) := by decide +kernel
theorem ab_e {a b : Int32} (a0 : 0 ≤ a) (a1 : a ≤ 60) (b0 : 0 ≤ b) (b1 : b ≤ 60) : abI (a - b) = if b ≤ a then a - b else b - a := by
  obtain ⟨x, rfl⟩ := fin_i32 (n := 61) a0 (by decide) (show a < 61 by lia)
  obtain ⟨y, rfl⟩ := fin_i32 (n := 61) b0 (by decide) (show b < 61 by lia)
  exact abz0 x y
theorem ab_60 {a b : Int32} (a0 : 0 ≤ a) (a1 : a ≤ 60) (b0 : 0 ≤ b) (b1 : b ≤ 60) : 0 ≤ abI (a - b) ∧ abI (a - b) ≤ 60 := by
  rw [ab_e a0 a1 b0 b1]
  split <;> lia
theorem ab60 {P : Pl} {t a : Int32} (ok : POK P) (t0 : 0 ≤ t) (t1 : t < P 0 3) (a0 : 0 ≤ a) (a1 : a ≤ P 0 0) : 0 ≤ abI (P 2 t - a) ∧ abI (P 2 t - a) ≤ 60 := by
  have o1 := ok.1
  have o2 := ok.2.1 t t0 t1
  exact ab_60 o2.1 (by lia) a0 (by lia)
theorem rd_e {v r1 r2 : Int32} (v0 : 0 ≤ v) (v1 : v ≤ 60) (h : r1 ≤ r2) (h1 : 0 ≤ r1) (h2 : r2 ≤ 60) : (if abI (v - r2) ≤ abI (v - r1) then r2 - r1 + abI (v - r2) else r2 - r1 + abI (v - r1)) = mxI v r2 - mnI v r1 + mnI (v - mnI v r1) (mxI v r2 - v) := by
  rw [ab_e v0 v1 (by lia) h2, ab_e v0 v1 h1 (by lia)]
  unfold mnI mxI
  (repeat' split) <;> lia
theorem mn_e {v r u : Int32} : mnI (mnI v r) u = mnI v (if r ≤ u then r else u) := by
  unfold mnI
  (repeat' split) <;> lia
theorem mx_e {v r u : Int32} : mxI (mxI v r) u = mxI v (if u ≤ r then r else u) := by
  unfold mxI
  (repeat' split) <;> lia
theorem bo_e {r1 r2 u : Int32} (h : r1 ≤ r2) (h1 : 0 ≤ r1) (h2 : r2 ≤ 60) (u0 : 0 ≤ u) (u1 : u ≤ 60) : (if r1 ≤ u then r1 else u) ≤ (if u ≤ r2 then r2 else u) ∧ 0 ≤ (if r1 ≤ u then r1 else u) ∧ (if u ≤ r2 then r2 else u) ≤ 60 := by
  (repeat' split) <;> lia
/-- two loops, one with more to go round -/
theorem lockG {S S' R R' : Type} {N : Int32} {lp : Nat → Int32 → S → R} {lp' : Nat → Int32 → S' → R'} (Q : R → R' → Prop) (I : Int32 → S → S' → Prop) (hN0 : 0 ≤ N) (hN : N ≤ 900)
    (hend : ∀ n m s s', I N s s' → Q (lp (n + 1) N s) (lp' (m + 1) N s'))
    (hstep : ∀ n m i s s', 0 ≤ i → i < N → I i s s' → Q (lp (n + 1) i s) (lp' (m + 1) i s') ∨ ∃ t t', lp (n + 1) i s = lp n (i + 1) t ∧ lp' (m + 1) i s' = lp' m (i + 1) t' ∧ I (i + 1) t t') (n d : Nat) (hn : 900 < n) : ∀ i, 0 ≤ i → i ≤ N → ∀ s s', I i s s' → Q (lp n i s) (lp' (n + d) i s') := by
  intro i h0 h1
  have z0 : (0 : Int32).toInt = 0 := by decide
  have z9 : (900 : Int32).toInt = 900 := by decide
  have a0 := Int32.le_iff_toInt_le.mp h0
  have a9 := Int32.le_iff_toInt_le.mp hN
  refine loop_u (N := N) (P := fun k i => i ≤ N → ∀ s s', I i s s' → Q (lp k i s) (lp' (k + d) i s')) ?_ ?_ 900 n i h0 (by omega) hn h1
  · intro n i h0 h1 h2 s s' hI
    have e : i = N := by lia
    subst e
    rw [show n + 1 + d = n + d + 1 by omega]
    exact hend n (n + d) s s' hI
  · intro n i h0 h1 ih _ s s' hI
    rw [show n + 1 + d = n + d + 1 by omega]
    rcases hstep n (n + d) i s s' h0 h1 hI with q | ⟨t, t', e, e', hI'⟩
    · exact q
    · rw [e, e']
      exact ih (by lia) t t' hI'
theorem hfC {h : Hp} {P : Pl} {i d : Int32} (ok : POK P) (x : CP h 26 P) (h0 : 0 ≤ i) (h1 : i < P 0 4) : f_Pl_hoursFor TC h 26 i d = some (lg P i d) := by
  have o1 := ok.1
  have o4 := ok.2.2.2.1 i h0 h1
  have h6 : i < 6 := by lia
  have e : h.1 36 (ix i) = P 10 i := (x.2.2.2.1 i h0 h1).2.2.2.2
  have em : mxI 1 (P 10 i) = P 10 i := by
    unfold mxI
    split <;> lia
  unfold f_Pl_hoursFor lg dI
  simp (disch := first | assumption | decide | omega) only [lyC, rdC, bnd_q, nmd_q, e, em]
  rw [if_neg (by lia), bnd_q]
theorem szR {h : Hp} {z : Int32} : f_Md_sizeOf TR h z = abI z := by
  unfold f_Md_sizeOf abI
  split
  · rfl
  · lia
theorem lgR {h : Hp} {P : Pl} {i a b : Int32} (ok : POK P) (x : RP h P) (h0 : 0 ≤ i) (h1 : i < P 0 4) : f_Md_legOf TR h 0 i a b = some (lg P i (abI (b - a))) := by
  have o1 := ok.1
  have o4 := ok.2.2.2.1 i h0 h1
  have h12 : i < 12 := by lia
  have e : h.1 13 (ix i) = P 10 i := (x.2.2.1 i h0 h1).2.2.2.2
  unfold f_Md_legOf lg dI
  simp (disch := first | assumption | decide | omega) only [lyR, rdR, bnd_q, nmd_q, e, szR]
  rw [if_neg (by lia), bnd_q]
theorem tbC {h : Hp} {P : Pl} {i t a b : Int32} (ok : POK P) (x : CP h 26 P) (h0 : 0 ≤ i) (h1 : i < P 0 4) (t0 : 0 ≤ t) (t1 : t < P 0 3) : f_Cn_thirstBehind TC h 90 i a b t = some (a + lg P i (abI (P 2 t - b))) := by
  have o1 := ok.1
  have t6 : t < 6 := by lia
  have e : h.1 28 (ix t) = P 2 t := (x.2.1 t t0 t1).2.1
  unfold f_Cn_thirstBehind
  simp (disch := first | assumption | decide | omega) only [lyC, rdC, bnd_q, nmd_q, e, hfC ok x h0 h1]
theorem sp_reach : SP_reach Rl := by
  intro hC hR a1 hr
  obtain ⟨P, L, A, B, X, U, p, x, y⟩ := hr
  have ok := p.1
  have o1 := ok.1
  have lk := p.2.1
  have wo := p.2.2.1
  have g := x.1.h.g
  simp only [Nat.reduceAdd] at g
  have xh := x.1.h
  have y1 := y.th (v := 0) ok
  have k := y1.1.g
  have sx := x.2.2.1
  have sr := y1.2.2.1
  refine q_of p x y1 ?_
  have e13 := k.1.2.1
  have rp := y1.1.1
  unfold f_Tt_reach f_Md_reach
  simp only [nmd_q]
  generalize pI hR 0 2 0 = h1 at y1 k sr e13 rp ⊢
  simp only [lyC]
  rw [hhC g.1.2.2.2.2.1, hhR e13, onC xh]
  by_cases q : 0 ≤ a1 ∧ a1 < P 0 4
  case neg =>
    rw [if_neg q, if_pos (rfl : (0 : Int32) = 0), if_pos (rfl : (0 : Int32) = 0)]
    exact ⟨_, rfl, rfl⟩
  rw [if_pos q, if_neg (show ¬ (1 : Int32) = 0 by decide), if_neg (show ¬ (1 : Int32) = 0 by decide)]
  obtain ⟨a0, a4⟩ := q
  have a6 : a1 < 6 := by lia
  have a12 : a1 < 12 := by lia
  by_cases c1 : bt (A.1 0 2) a1 = 0
  · rw [if_pos c1]
    have key := loopV (S := Int32) (f := fun _ s => s) (N := P 0 3) (lp := fun n i s => lp_Md_reach_19 TR n h1 0 a1 s i) (res := fun s => some (s, h1)) (by lia) (by lia) (fun n s => by
        simp only [lp_Md_reach_19, k]
        rw [if_pos (by lia)])
      (fun n i s h0 h1' => by
        simp only [lp_Md_reach_19]
        unfold jb_Md_reach_72 jb_Md_reach_73
        simp (disch := first | assumption | decide | omega) only [lyR, rdR, bnd_q, nmd_q, k, Int32.or_zero]
        rw [if_neg (by lia), if_pos c1]) 0 (by decide) (by lia) 0
    rw [show Fold (fun _ s => s) (P 0 3) 0 (0 : Int32) = 0 from Fold_id (fun _ _ => rfl) _ _ _] at key
    exact ⟨0, rfl, key⟩
  rw [if_neg c1]
  unfold f_Cn_withinOneLeg
  have key : ∃ r, lp_Cn_withinOneLeg_4 TC fu hC 90 a1 0 0 = some r ∧ lp_Md_reach_19 TR fu h1 0 a1 0 0 = some (r, h1) := by
    refine lock (S := Int32) (S' := Int32) (N := P 0 3) (lp := fun n i s => lp_Cn_withinOneLeg_4 TC n hC 90 a1 s i) (lp' := fun n i s => lp_Md_reach_19 TR n h1 0 a1 s i) (fun a b => ∃ r, a = some r ∧ b = some (r, h1)) (fun _ s s' => s = s') (by lia) (by lia) ?_ ?_ 0 (by decide) (by lia) 0 0 rfl
    · intro n m s s' e
      subst e
      simp only [lp_Cn_withinOneLeg_4, lp_Md_reach_19, lyC, g, k]
      rw [if_pos (by lia), if_pos (by lia)]
      exact ⟨_, rfl, rfl⟩
    · intro n m i s s' h0 h1' e
      subst e
      have h6 : i < 6 := by lia
      have h12 : i < 12 := by lia
      simp only [lp_Cn_withinOneLeg_4, lp_Md_reach_19]
      unfold jb_Cn_withinOneLeg_50 jb_Md_reach_72 jb_Md_reach_73
      simp (disch := first | assumption | decide | omega) only [lyC, lyR, rdC, rdR, bnd_q, nmd_q, g, k, Int32.or_zero, tbC ok xh.1 a0 a4 h0 h1', lgR ok rp a0 a4]
      rw [if_neg (show ¬ P 0 3 ≤ i by lia), if_neg (show ¬ P 0 3 ≤ i by lia), if_neg c1]
      by_cases c2 : 100 ≤ A.1 2 a1 + lg P a1 (abI (P 2 i - A.1 1 a1))
      · rw [if_pos c2, if_pos c2]
        exact .inr ⟨s, s, rfl, rfl, rfl⟩
      · rw [if_neg c2, if_neg c2]
        exact .inr ⟨_, _, rfl, rfl, rfl⟩
  obtain ⟨r, e1, e2⟩ := key
  rw [e1, e2, bnd_q]
  exact ⟨_, rfl, rfl⟩
theorem sp_round : SP_round Rl := by
  intro hC hR a1 hr
  obtain ⟨P, L, A, B, X, U, p, x, y⟩ := hr
  have ok := p.1
  have o1 := ok.1
  have lk := p.2.1
  have wo := p.2.2.1
  have g := x.1.h.g
  simp only [Nat.reduceAdd] at g
  have xh := x.1.h
  have y1 := y.th (v := 0) ok
  have k := y1.1.g
  have sx := x.2.2.1
  have sr := y1.2.2.1
  refine q_of p x y1 ?_
  have e13 := k.1.2.1
  have e12 := k.1.1
  unfold f_Tt_round f_Md_round
  simp only [nmd_q]
  generalize pI hR 0 2 0 = h1 at y1 k sr e13 e12 ⊢
  simp only [lyC, lyR]
  rw [hhC g.1.2.2.2.2.1, hhR e13]
  by_cases q : 0 ≤ a1 ∧ a1 < P 0 4
  case neg =>
    rw [if_neg q, if_pos (rfl : (0 : Int32) = 0), if_pos (rfl : (0 : Int32) = 0)]
    exact ⟨_, rfl, rfl⟩
  rw [if_pos q, if_neg (show ¬ (1 : Int32) = 0 by decide), if_neg (show ¬ (1 : Int32) = 0 by decide), e12]
  obtain ⟨a0, a4⟩ := q
  have a6 : a1 < 6 := by lia
  have a12 : a1 < 12 := by lia
  have w1 := wo.1 a1 a0 a4
  simp (disch := first | assumption | decide | omega) only [rdC, bnd_q, g]
  unfold f_Cn_wayByAll
  have c9 : lay TC 90 0 = 26 := by simp only [lyC]
  by_cases z : P 0 3 = 0
  · rw [if_pos z]
    rw [show fu = 999 + 1 from rfl, lp_Cn_wayByAll_7]
    simp only [lyC, g]
    rw [if_pos (by lia), bnd_q]
    refine ⟨_, rfl, ?_⟩
    congr 2
    unfold mnI
    split <;> simp
  rw [if_neg z]
  have t0 : (0 : Int32) < P 0 3 := by lia
  simp (disch := first | assumption | decide | omega) only [rdR, bnd_q, k]
  have p0 := ok.2.1 0 (by decide) t0
  have key : ∃ r, lp_Cn_wayByAll_7 TC 999 hC 90 (A.1 1 a1) (mnI (A.1 1 a1) (P 2 0)) (mxI (A.1 1 a1) (P 2 0)) 1 = some r ∧ lp_Md_round_41 TR (999 + 1) h1 0 a1 (P 2 0) (P 2 0) 1 = some (r, h1) := by
    refine lockG (S := Int32 × Int32) (S' := Int32 × Int32) (N := P 0 3) (lp := fun n i s => lp_Cn_wayByAll_7 TC n hC 90 (A.1 1 a1) s.1 s.2 i) (lp' := fun n i s => lp_Md_round_41 TR n h1 0 a1 s.1 s.2 i) (fun a b => ∃ r, a = some r ∧ b = some (r, h1)) (fun _ s s' => s.1 = mnI (A.1 1 a1) s'.1 ∧ s.2 = mxI (A.1 1 a1) s'.2 ∧ s'.1 ≤ s'.2 ∧ 0 ≤ s'.1 ∧ s'.2 ≤ 60) (by lia) (by lia) ?_ ?_ 999 1 (by decide) 1 (by decide) (by lia) (_, _) (_, _) ⟨rfl, rfl, by simp only; lia, by simp only; lia, by simp only; lia⟩
    · intro n m s s' e
      obtain ⟨s1, s2⟩ := s
      obtain ⟨r1, r2⟩ := s'
      simp only at e
      obtain ⟨rfl, rfl, e1, e2, e3⟩ := e
      simp only [lp_Cn_wayByAll_7, lp_Md_round_41]
      unfold jb_Md_round_145
      simp (disch := first | assumption | decide | omega) only [lyC, lyR, rdR, bnd_q, nmd_q, g, k, szR]
      rw [if_pos (show P 0 3 ≤ P 0 3 by lia), if_pos (show P 0 3 ≤ P 0 3 by lia)]
      refine ⟨_, rfl, ?_⟩
      rw [← rd_e w1.1 (show A.1 1 a1 ≤ 60 by lia) e1 e2 e3]
      split <;> rfl
    · intro n m i s s' h0 h1' e
      obtain ⟨s1, s2⟩ := s
      obtain ⟨r1, r2⟩ := s'
      simp only at e
      obtain ⟨rfl, rfl, e1, e2, e3⟩ := e
      have h6 : i < 6 := by lia
      have h12 : i < 12 := by lia
      have o2 := ok.2.1 i h0 h1'
      simp only [lp_Cn_wayByAll_7, lp_Md_round_41]
      unfold jb_Md_round_72 jb_Md_round_95
      simp (disch := first | assumption | decide | omega) only [lyC, lyR, rdC, rdR, bnd_q, nmd_q, g, k]
      rw [if_neg (show ¬ P 0 3 ≤ i by lia), if_neg (show ¬ P 0 3 ≤ i by lia)]
      refine .inr ⟨(_, _), ((if r1 ≤ P 2 i then r1 else P 2 i), (if P 2 i ≤ r2 then r2 else P 2 i)), rfl, ?_, mn_e, mx_e, bo_e e1 e2 e3 o2.1 (by lia)⟩
      by_cases d1 : r1 ≤ P 2 i
      · rw [if_pos d1, if_pos d1]
        by_cases d2 : P 2 i ≤ r2
        · rw [if_pos d2, if_pos d2]
        · rw [if_neg d2, if_neg d2]
      · rw [if_neg d1, if_neg d1]
        by_cases d2 : P 2 i ≤ r2
        · rw [if_pos d2, if_pos d2]
        · rw [if_neg d2, if_neg d2]
  obtain ⟨r, e1, e2⟩ := key
  have e2' : lp_Md_round_41 TR fu h1 0 a1 (P 2 0) (P 2 0) 1 = some (r, h1) := e2
  rw [e2']
  have st : lp_Cn_wayByAll_7 TC fu hC 90 (A.1 1 a1) (A.1 1 a1) (A.1 1 a1) 0 = some r := by
    rw [show fu = 999 + 1 from rfl, lp_Cn_wayByAll_7]
    simp (disch := first | assumption | decide | omega) only [lyC, rdC, bnd_q, nmd_q, g]
    rw [if_neg (show ¬ P 0 3 ≤ 0 by lia)]
    exact e1
  rw [st, bnd_q]
  exact ⟨_, rfl, rfl⟩
