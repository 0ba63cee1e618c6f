/-! send, fill, lead, undo -/
theorem RK.up {h h' : Hp} {P : Pl} {L : Lw} {A A' : Aw} (x : RK h P L A) (g : ∀ c s, ¬ (c = 27 ∨ c = 29 ∨ c = 33) → h'.1 c s = h.1 c s) (g2 : h'.2 = h.2) (r : RW h' P 0 A') (e5 : ∀ i, A'.1 5 i = A.1 5 i) (e2 : A'.2 = A.2) : RK h' P L A' :=
  ⟨x.1.mw (fun c s q z => g c s (by omega)) (fun s _ _ => g 0 s (by omega)), x.2.1.mv (fun c s _ _ => g c s (by omega)), r, fun i a b => by rw [g 32 _ (by omega), e5]; exact x.2.2.2.1 i a b, by rw [g2, e2]; exact x.2.2.2.2.1, fun s => by rw [g 31 s (by omega)]; exact x.2.2.2.2.2 s⟩
theorem RRel.wr {h : Hp} {P : Pl} {L : Lw} {A A' B : Aw} {X : Pl} {U : Ud} {c : Nat} {i v : Int32} (x : RRel h P L A B X U) (c0 : c = 27 ∨ c = 29 ∨ c = 33) (i0 : 0 ≤ i) (i6 : i < 6) (r : RW (pI h c (ix i) v) P 0 A') (e5 : ∀ i, A'.1 5 i = A.1 5 i) (e2 : A'.2 = A.2) : RRel (pI h c (ix i) v) P L A' B X U := by
  have k := rs6 (b := 0) (c := c) (.inl rfl) i0 i6 (by omega) (by omega)
  rw [i60] at k
  refine x.rf (RF.pI k (fun z => by omega)) (x.1.up (fun d s q => ?_) pI_l r e5 e2)
  rw [pI_n (by omega)]
theorem CRel.wr {h : Hp} {P : Pl} {L : Lw} {A B : Aw} {X : Pl} {i v : Int32} (r : Nat) (r1 : 1 ≤ r) (r5 : r ≤ 5) (i0 : 0 ≤ i) (x : CRel h P L A B X) : CRel (pI h (45 + r) (ix i) v) P L (up A r i v) B X :=
  x.ch (Fr.pI (wsr r (by omega))) (x.1.h.wr r r1 r5 (.inl rfl) i0)
theorem CRel.ww {h : Hp} {P : Pl} {L : Lw} {A B : Aw} {X : Pl} {i v : Int32} (i0 : 0 ≤ i) (x : CRel h P L A B X) : CRel (pI h 51 (ix i) v) P L (up A 6 i v) B X :=
  x.ch (Fr.pI (wsr (w := 45) 6 (by omega))) (x.1.h.ww (.inl rfl) i0)
theorem WOK.g {P : Pl} {A : Aw} {i v : Int32} (w : WOK P A) (hv : v = -2 ∨ (0 ≤ v ∧ v < P 0 3)) : WOK P (up A 4 i v) := by
  refine ⟨fun h h0 h1 => ?_, fun t t0 t1 => ?_, ?_⟩
  · have w1 := w.1 h h0 h1
    rw [up_n (by decide), up_n (by decide), up_n (by decide), up_s, up_n (by decide)]
    refine ⟨w1.1, w1.2.1, w1.2.2.1, w1.2.2.2.1, w1.2.2.2.2.1, w1.2.2.2.2.2.1, ?_, w1.2.2.2.2.2.2.2⟩
    split
    · exact hv
    · exact w1.2.2.2.2.2.2.1
  · rw [up_n (by decide)]
    exact w.2.1 t t0 t1
  · rw [up_n (by decide)]
    exact w.2.2
theorem WOK.p {P : Pl} {A : Aw} {i v : Int32} (w : WOK P A) (v0 : 0 ≤ v) (v1 : v ≤ P 0 0) : WOK P (up A 1 i v) := by
  refine ⟨fun h h0 h1 => ?_, fun t t0 t1 => ?_, ?_⟩
  · have w1 := w.1 h h0 h1
    rw [up_s, up_n (by decide), up_n (by decide), up_n (by decide), up_n (by decide)]
    split
    · exact ⟨v0, v1, w1.2.2⟩
    · exact w1
  · rw [up_n (by decide)]
    exact w.2.1 t t0 t1
  · rw [up_n (by decide)]
    exact w.2.2
theorem WOK.w {P : Pl} {A : Aw} {i v : Int32} (w : WOK P A) (v0 : 0 ≤ v) (v1 : v ≤ 99) : WOK P (up A 6 i v) := by
  refine ⟨fun h h0 h1 => ?_, fun t t0 t1 => ?_, ?_⟩
  · rw [up_n (by decide), up_n (by decide), up_n (by decide), up_n (by decide), up_n (by decide)]
    exact w.1 h h0 h1
  · rw [up_s]
    split
    · exact ⟨v0, v1⟩
    · exact w.2.1 t t0 t1
  · rw [up_n (by decide)]
    exact w.2.2
theorem ONK.u {P : Pl} {A : Aw} {r : Nat} {i v : Int32} (q : ¬ r = 0 ∧ ¬ r = 2) (o : ONK P 0 A) : ONK P 0 (up A r i v) := by
  intro j a b
  rw [up_n (by omega), up_n (by omega)]
  exact o j a b
theorem TK.u {A : Aw} {r : Nat} {i v : Int32} (q : ¬ r = 0) (o : TK A) : TK (up A r i v) := by
  unfold TK
  rw [up_n (by omega), up_n (by omega)]
  exact o
theorem w29' {h : Hp} {P : Pl} {A : Aw} {i v : Int32} (ok : POK P) (i0 : 0 ≤ i) (i4 : i < P 0 4) (x : RW h P 0 A) : RW (pI h 29 (ix i) (gl v)) P 0 (up A 4 i v) := by
  have := x.w29 (y := v) (.inl rfl) ok i0 i4
  rwa [i60] at this
theorem w27' {h : Hp} {P : Pl} {A : Aw} {i v : Int32} (ok : POK P) (i0 : 0 ≤ i) (i4 : i < P 0 4) (x : RW h P 0 A) : RW (pI h 27 (ix i) v) P 0 (up A 1 i v) := by
  have := x.w27 (y := v) (.inl rfl) ok i0 i4
  rwa [i60] at this
theorem w33' {h : Hp} {P : Pl} {A : Aw} {i v : Int32} (ok : POK P) (i0 : 0 ≤ i) (i4 : i < P 0 3) (x : RW h P 0 A) : RW (pI h 33 (ix i) v) P 0 (up A 6 i v) := by
  have := x.w33 (y := v) (.inl rfl) ok i0 i4
  rwa [i60] at this
theorem sp_send : SP_send Rl := by
  intro hC hR a1 a2 hr
  obtain ⟨P, L, A, B, X, U, p, x, y⟩ := hr
  have ok := p.1
  have o1 := ok.1
  have lk := p.2.1
  have wo := p.2.2.1
  have g := x.1.h.g
  simp only [Nat.reduceAdd] at g
  have xh := x.1.h
  have y1 := y.th (v := 0) ok
  have k := y1.1.g
  have sx := x.2.2.1
  have sr := y1.2.2.1
  have on := p.2.2.2.1
  have tk := p.2.2.2.2.2.2.2.2.2.2.1
  have dk := p.2.2.2.2.2.2.2.2.1.1
  have e13 := k.1.2.1
  have e12 := k.1.1
  unfold f_Tt_send f_Md_send
  simp only [nmd_q]
  generalize pI hR 0 2 0 = h1 at y1 k sr e13 e12 ⊢
  simp only [lyC, lyR]
  rw [hhC g.1.2.2.2.2.1, hhR e13, htC xh, htR e12, onC xh]
  have stop : ∀ v : Int32, ∃ r r', some (v, hC) = some r ∧ some (v, h1) = some r' ∧ r.1 = r'.1 ∧ Rl r.2 r'.2 := fun v => ⟨_, _, rfl, rfl, rfl, Rl.mk p x y1⟩
  by_cases q1 : 0 ≤ a1 ∧ a1 < P 0 4
  case neg =>
    rw [if_neg q1, if_pos (rfl : (0 : Int32) = 0), if_pos (rfl : (0 : Int32) = 0)]
    exact stop _
  rw [if_pos q1, if_neg (show ¬ (1 : Int32) = 0 by decide), if_neg (show ¬ (1 : Int32) = 0 by decide)]
  by_cases q2 : 0 ≤ a2 ∧ a2 < P 0 3
  case neg =>
    rw [if_neg q2, if_pos (rfl : (0 : Int32) = 0), if_pos (rfl : (0 : Int32) = 0)]
    exact stop _
  rw [if_pos q2, if_neg (show ¬ (1 : Int32) = 0 by decide), if_neg (show ¬ (1 : Int32) = 0 by decide)]
  obtain ⟨i0, i4⟩ := q1
  obtain ⟨t0, t3⟩ := q2
  have i6 : a1 < 6 := by lia
  have i12 : a1 < 12 := by lia
  have t6 : a2 < 6 := by lia
  have t12 : a2 < 12 := by lia
  have w1 := wo.1 a1 i0 i4
  simp (disch := first | assumption | decide | omega) only [rdC, rdR, bnd_q, g, k]
  by_cases q3 : bt (A.1 0 2) a1 = 0
  · rw [if_pos q3, if_pos q3]
    exact stop _
  rw [if_neg q3, if_neg q3]
  have eg : gl (A.1 4 a1) = a2 ↔ A.1 4 a1 = a2 := by
    unfold gl
    split
    · constructor
      · intro z
        lia
      · intro z
        lia
    · exact Iff.rfl
  by_cases q4 : A.1 4 a1 = a2
  · rw [if_pos q4, if_pos (eg.mpr q4)]
    exact stop _
  rw [if_neg q4, if_neg (fun z => q4 (eg.mp z))]
  clear stop
  obtain ⟨h5, e5, x5⟩ := rhC ok dk.2 dk.1 x i0 i4
  obtain ⟨h6, e6, y6⟩ := reR (A' := up A 4 a1 a2) (a := a1) (t := -1) (pl := A.1 1 a1) (go := A.1 4 a1) (w := 0) ok dk.2 dk.1 y1
  rw [e5, e6, bnd_q, bnd_q]
  have x7 := x5.wr (v := a2) 4 (by decide) (by decide) i0
  have gle : gl a2 = a2 := if_neg (by lia)
  have r7 := w29' (v := a2) ok i0 i4 y6.1.2.2.1
  rw [gle] at r7
  have y7 := y6.wr (v := a2) (.inr (.inl rfl)) i0 i6 r7 (fun _ => up_n (by decide)) rfl
  have wo7 : WOK P (up A 4 a1 a2) := wo.g (.inr ⟨t0, t3⟩)
  have fr := faR (b := 0) (.inl rfl) ok wo7 y7.1.1 y7.1.2.2.1 i0 i4
  have g7 := x7.1.h.g
  simp only [Nat.reduceAdd] at g7
  have p7 : PRel P L (up A 4 a1 a2) B (psX (shX X) a1 (-1) (A.1 1 a1) (A.1 4 a1) 0) (puU (shX X) A (up A 4 a1 a2) (shU X U)) := by
    refine p.sh.pu (shX_5 dk.2).2 wo7 (on.u (by decide)) (tk.u (by decide)) (fun _ => ⟨⟨i0, i4, rfl, rfl⟩, fun i q => ⟨up_n (by decide), by rw [up_s, if_neg q]⟩, fun i => up_n (by decide)⟩) (fun z => absurd z (by lia))
  simp (disch := first | assumption | decide | omega) only [wtC, wtR, rdC, bnd_q, Nat.reduceAdd] at x7 y7 fr g7 ⊢
  rw [fr, bnd_q]
  simp (disch := first | assumption | decide | omega) only [rdC, bnd_q, g7]
  refine ⟨_, _, rfl, rfl, ?_, Rl.mk p7 x7 y7⟩
  unfold faA
  simp only [up_s, if_true, up_n (show ¬ 1 = 4 by decide)]
  rw [if_pos ⟨t0, t3⟩]
theorem sp_fill : SP_fill Rl := by
  intro hC hR a1 a2 hr
  obtain ⟨P, L, A, B, X, U, p, x, y⟩ := hr
  have ok := p.1
  have o1 := ok.1
  have lk := p.2.1
  have wo := p.2.2.1
  have g := x.1.h.g
  simp only [Nat.reduceAdd] at g
  have xh := x.1.h
  have y1 := y.th (v := 0) ok
  have k := y1.1.g
  have sx := x.2.2.1
  have sr := y1.2.2.1
  have on := p.2.2.2.1
  have tk := p.2.2.2.2.2.2.2.2.2.2.1
  have dk := p.2.2.2.2.2.2.2.2.1.1
  have e12 := k.1.1
  unfold f_Tt_fill f_Md_fill jb_Md_fill_60
  simp only [nmd_q, isIn_e]
  generalize pI hR 0 2 0 = h1 at y1 k sr e12 ⊢
  simp only [lyC, lyR]
  rw [htC xh, htR e12]
  have stop : ∀ v : Int32, ∃ r r', some (v, hC) = some r ∧ some (v, h1) = some r' ∧ r.1 = r'.1 ∧ Rl r.2 r'.2 := fun v => ⟨_, _, rfl, rfl, rfl, Rl.mk p x y1⟩
  by_cases q1 : 0 ≤ a1 ∧ a1 < P 0 3
  case neg =>
    rw [if_neg q1, if_pos (rfl : (0 : Int32) = 0), if_pos (rfl : (0 : Int32) = 0)]
    exact stop _
  rw [if_pos q1, if_neg (show ¬ (1 : Int32) = 0 by decide), if_neg (show ¬ (1 : Int32) = 0 by decide)]
  by_cases q2 : 1 ≤ a2 ∧ a2 ≤ 99
  case neg =>
    rw [if_neg q2, if_pos (rfl : (0 : Int32) = 0)]
    by_cases c : a2 < 1
    · rw [if_pos c]
      exact stop _
    · rw [if_neg c, if_neg (by lia)]
      exact stop _
  rw [if_pos q2, if_neg (show ¬ (1 : Int32) = 0 by decide), if_neg (show ¬ a2 < 1 by lia), if_pos q2.2]
  clear stop
  obtain ⟨t0, t3⟩ := q1
  have t6 : a1 < 6 := by lia
  have t12 : a1 < 12 := by lia
  have w1 := wo.2.1 a1 t0 t3
  obtain ⟨h5, e5, x5⟩ := rtC ok dk.2 dk.1 x t0 t3
  obtain ⟨h6, e6, y6⟩ := reR (A' := up A 6 a1 (mnI 99 (A.1 6 a1 + a2))) (a := -1) (t := a1) (pl := 0) (go := 0) (w := A.1 6 a1) ok dk.2 dk.1 y1
  rw [e5, e6, bnd_q, bnd_q]
  have g5 := x5.1.h.g
  simp only [Nat.reduceAdd] at g5
  have k6 := y6.1.g
  have mn : 0 ≤ mnI 99 (A.1 6 a1 + a2) ∧ mnI 99 (A.1 6 a1 + a2) ≤ 99 := by
    unfold mnI
    split <;> lia
  have x7 := x5.ww (v := mnI 99 (A.1 6 a1 + a2)) t0
  have y7 := y6.wr (v := mnI 99 (A.1 6 a1 + a2)) (.inr (.inr rfl)) t0 t6 (w33' ok t0 t3 y6.1.2.2.1) (fun _ => up_n (by decide)) rfl
  have p7 : PRel P L (up A 6 a1 (mnI 99 (A.1 6 a1 + a2))) B (psX (shX X) (-1) a1 0 0 (A.1 6 a1)) (puU (shX X) A (up A 6 a1 (mnI 99 (A.1 6 a1 + a2))) (shU X U)) := by
    refine p.sh.pu (shX_5 dk.2).2 (wo.w mn.1 mn.2) (on.u (by decide)) (tk.u (by decide)) (fun z => absurd rfl z) (fun _ => ⟨⟨t0, t3, rfl⟩, fun i => ⟨up_n (by decide), up_n (by decide)⟩, fun i q => by rw [up_s, if_neg q]⟩)
  have rd1 : ∀ v : Int32, (pI h5 51 (ix a1) v).1 51 (ix a1) = v := fun v => by rw [pI_t, if_pos rfl]
  have rd2 : ∀ v : Int32, (pI h6 33 (ix a1) v).1 33 (ix a1) = v := fun v => by rw [pI_t, if_pos rfl]
  simp (disch := first | assumption | decide | omega) only [rdC, rdR, wtC, wtR, bnd_q, g5, k6, rd1, rd2]
  by_cases c : A.1 6 a1 + a2 ≤ 99
  · rw [if_pos c]
    have em : mnI 99 (A.1 6 a1 + a2) = A.1 6 a1 + a2 := by
      unfold mnI
      split <;> lia
    rw [em] at x7 y7 p7 ⊢
    exact ⟨_, _, rfl, rfl, rfl, Rl.mk p7 x7 y7⟩
  · rw [if_neg c]
    have em : mnI 99 (A.1 6 a1 + a2) = 99 := by
      unfold mnI
      split <;> lia
    rw [em] at x7 y7 p7 ⊢
    exact ⟨_, _, rfl, rfl, rfl, Rl.mk p7 x7 y7⟩
theorem sp_lead : SP_lead Rl := by
  intro hC hR a1 a2 hr
  obtain ⟨P, L, A, B, X, U, p, x, y⟩ := hr
  have ok := p.1
  have o1 := ok.1
  have lk := p.2.1
  have wo := p.2.2.1
  have g := x.1.h.g
  simp only [Nat.reduceAdd] at g
  have xh := x.1.h
  have y1 := y.th (v := 0) ok
  have k := y1.1.g
  have sx := x.2.2.1
  have sr := y1.2.2.1
  have on := p.2.2.2.1
  have tk := p.2.2.2.2.2.2.2.2.2.2.1
  have dk := p.2.2.2.2.2.2.2.2.1.1
  have e13 := k.1.2.1
  unfold f_Tt_lead f_Md_lead
  simp only [nmd_q, isIn_e]
  generalize pI hR 0 2 0 = h1 at y1 k sr e13 ⊢
  simp only [lyC, lyR]
  rw [hhC g.1.2.2.2.2.1, hhR e13, onC xh, k.1.2.2.2.1, g.1.1]
  have stop : ∃ r r', some ((0 : Int32), hC) = some r ∧ some ((0 : Int32), h1) = some r' ∧ r.1 = r'.1 ∧ Rl r.2 r'.2 := ⟨_, _, rfl, rfl, rfl, Rl.mk p x y1⟩
  by_cases q1 : 0 ≤ a1 ∧ a1 < P 0 4
  case neg =>
    rw [if_neg q1, if_pos (rfl : (0 : Int32) = 0), if_pos (rfl : (0 : Int32) = 0)]
    exact stop
  rw [if_pos q1, if_neg (show ¬ (1 : Int32) = 0 by decide), if_neg (show ¬ (1 : Int32) = 0 by decide)]
  obtain ⟨i0, i4⟩ := q1
  have i6 : a1 < 6 := by lia
  have i12 : a1 < 12 := by lia
  have w1 := wo.1 a1 i0 i4
  simp (disch := first | assumption | decide | omega) only [rdC, rdR, bnd_q, g, k]
  by_cases q2 : 0 ≤ a2 ∧ a2 ≤ P 0 0
  case neg =>
    rw [if_neg q2, if_pos (rfl : (0 : Int32) = 0), ite_self]
    by_cases c : a2 < 0
    · rw [if_pos c]
      exact stop
    · rw [if_neg c, if_pos (by lia)]
      exact stop
  rw [if_pos q2, if_neg (show ¬ (1 : Int32) = 0 by decide), if_neg (show ¬ a2 < 0 by lia), if_neg (show ¬ P 0 0 < a2 by lia)]
  by_cases q3 : bt (A.1 0 2) a1 = 0
  · rw [if_pos q3, if_pos q3]
    exact stop
  rw [if_neg q3, if_neg q3]
  have main : ∃ r r', jb_Tt_lead_68 TC hC 0 a1 a2 = some r ∧ jb_Md_lead_55 TR h1 0 a1 a2 = some r' ∧ r.1 = r'.1 ∧ Rl r.2 r'.2 := by
    obtain ⟨h5, e5, x5⟩ := rhC ok dk.2 dk.1 x i0 i4
    obtain ⟨h6, e6, y6⟩ := reR (A' := up (up A 1 a1 a2) 4 a1 (-2)) (a := a1) (t := -1) (pl := A.1 1 a1) (go := A.1 4 a1) (w := 0) ok dk.2 dk.1 y1
    unfold jb_Tt_lead_68 jb_Md_lead_55
    simp only [lyC, lyR]
    rw [e5, e6, bnd_q, bnd_q]
    have x7 := (x5.wr (v := a2) 1 (by decide) (by decide) i0).wr (v := -2) 4 (by decide) (by decide) i0
    have y7 := y6.wr (v := a2) (.inl rfl) i0 i6 (w27' ok i0 i4 y6.1.2.2.1) (fun _ => up_n (by decide)) rfl
    have y8 := y7.wr (v := gl (-2)) (.inr (.inl rfl)) i0 i6 (w29' ok i0 i4 y7.1.2.2.1) (fun _ => up_n (by decide)) rfl
    have eg : gl (-2) = -1 := by decide
    rw [eg] at y8
    have p7 : PRel P L (up (up A 1 a1 a2) 4 a1 (-2)) B (psX (shX X) a1 (-1) (A.1 1 a1) (A.1 4 a1) 0) (puU (shX X) A (up (up A 1 a1 a2) 4 a1 (-2)) (shU X U)) := by
      refine p.sh.pu (shX_5 dk.2).2 ((wo.p q2.1 q2.2).g (.inl rfl)) ((on.u (by decide)).u (by decide)) ((tk.u (by decide)).u (by decide)) (fun _ => ⟨⟨i0, i4, rfl, rfl⟩, fun i q => ⟨by rw [up_n (by decide), up_s, if_neg q], by rw [up_s, if_neg q, up_n (by decide)]⟩, fun i => by rw [up_n (by decide), up_n (by decide)]⟩) (fun z => absurd z (by lia))
    simp (disch := first | assumption | decide | omega) only [wtC, wtR, bnd_q]
    exact ⟨_, _, rfl, rfl, rfl, Rl.mk p7 x7 y8⟩
  by_cases q4 : A.1 1 a1 = a2
  · rw [if_pos q4, if_pos q4]
    obtain ⟨g1, g2⟩ := gl_ok ok w1.2.2.2.2.2.2.1
    by_cases q5 : A.1 4 a1 = -2
    · rw [if_pos q5, if_neg (fun z => by have := g1.mp z; lia)]
      exact stop
    · rw [if_neg q5, if_pos (g1.mpr (w1.2.2.2.2.2.2.1.resolve_left q5))]
      exact main
  · rw [if_neg q4, if_neg q4]
    exact main
/-- the deeds' number alone -/
theorem PRel.un {P : Pl} {L : Lw} {A A' B : Aw} {X : Pl} {U : Ud} {m : Int32} (p : PRel P L A B X U) (m0 : 0 ≤ m) (m1 : m < X 0 5) (wo : WOK P A') (on : ONK P 0 A') (tk : TK A') (u1 : ∀ i, 0 ≤ i → i < P 0 4 → U m 1 i = A'.1 1 i ∧ U m 4 i = A'.1 4 i) (u6 : ∀ t, 0 ≤ t → t < P 0 3 → U m 6 t = A'.1 6 t) : PRel P L A' B (upX X 0 5 m) U := by
  obtain ⟨p1, p2, p3, p4, p5, p6, p7, p8, ⟨d1, d2, d3, d4⟩, p10, p11, p12⟩ := p
  have e4 : upX X 0 5 m 0 4 = X 0 4 := by rw [upX_s, if_neg (by decide)]
  have e0 : upX X 0 5 m 0 0 = X 0 0 := by rw [upX_s, if_neg (by decide)]
  have e5 : upX X 0 5 m 0 5 = m := by rw [upX_s, if_pos rfl]
  refine ⟨p1, p2, wo, on, ?_, ?_, ?_, ?_, ⟨?_, ?_, ?_, ?_⟩, ?_, tk, ?_⟩
  · rw [e4]; exact p5
  · rw [e4]; exact p6
  · rw [e0]; exact p7
  · rw [e0]
    intro j a b
    rw [upX_n (by decide)]
    exact p8 j a b
  · rw [e5]; exact ⟨m0, by lia⟩
  · rw [e5]; exact u1
  · rw [e5]; exact u6
  · rw [e5]
    intro k a b
    have := d4 k a (by lia)
    unfold UNK at this ⊢
    simp only [upX_n (show ¬ 2 = 0 by decide), upX_n (show ¬ 3 = 0 by decide), upX_n (show ¬ 4 = 0 by decide), upX_n (show ¬ 5 = 0 by decide), upX_n (show ¬ 6 = 0 by decide)]
    exact this
  · unfold SOK at p10 ⊢
    simp only [upX_n (show ¬ 11 = 0 by decide), upX_n (show ¬ 7 = 0 by decide), upX_n (show ¬ 8 = 0 by decide), upX_n (show ¬ 9 = 0 by decide), upX_n (show ¬ 10 = 0 by decide), upX_s, if_neg (show ¬ (6 : Int32) = 5 by decide), if_neg (show ¬ (7 : Int32) = 5 by decide)]
    exact p10
  · rw [e4]; exact p12
theorem CRel.un {h : Hp} {P : Pl} {L : Lw} {A B : Aw} {X : Pl} {m : Int32} (m1 : m < X 0 5) (x : CRel h P L A B X) : CRel (pI h 59 0 m) P L A B (upX X 0 5 m) := by
  have f : Fr (fun c => c = 59) h (pI h 59 0 m) := Fr.pI rfl
  obtain ⟨x1, x2, x3, x4, x5, x6, x7⟩ := x
  refine ⟨⟨x1.1.mv f (fun c q => by omega), x1.2.1.mv f (fun c q => by omega), x1.2.2.mv f (fun c q => by omega)⟩, ?_, ?_, ?_, ?_, ?_, fun j a => by rw [pI_n (by decide)]; exact x7 j a⟩
  · rw [upX_s, if_neg (by decide)]
    exact fun q => (x2 q).mv f (fun c q => by omega)
  · simp only [upX_s, pI_n (show ¬ 0 = 59 by decide), pI_n (show ¬ 2 = 59 by decide), pI_n (show ¬ 40 = 59 by decide), pI_n (show ¬ 65 = 59 by decide), pI_t]
    obtain ⟨a1, a2, a3, a4, a5, a6, a7, a8⟩ := x3
    exact ⟨a1, a2, a3, a4, a5, rfl, a7, a8⟩
  · rw [upX_s, if_neg (by decide)]
    intro j a b
    rw [pI_n (by decide), upX_n (by decide)]
    exact x4 j a b
  · rw [upX_s, if_pos rfl]
    intro k a b
    simp only [pI_n (show ¬ 60 = 59 by decide), pI_n (show ¬ 61 = 59 by decide), pI_n (show ¬ 62 = 59 by decide), pI_n (show ¬ 63 = 59 by decide), pI_n (show ¬ 64 = 59 by decide), upX_n (show ¬ 2 = 0 by decide), upX_n (show ¬ 3 = 0 by decide), upX_n (show ¬ 4 = 0 by decide), upX_n (show ¬ 5 = 0 by decide), upX_n (show ¬ 6 = 0 by decide)]
    exact x5 k a (by lia)
  · rw [upX_s, if_neg (by decide)]
    intro k a b
    simp only [pI_n (show ¬ 70 = 59 by decide), pI_n (show ¬ 66 = 59 by decide), pI_n (show ¬ 67 = 59 by decide), pI_n (show ¬ 68 = 59 by decide), pI_n (show ¬ 69 = 59 by decide), upX_n (show ¬ 11 = 0 by decide), upX_n (show ¬ 7 = 0 by decide), upX_n (show ¬ 8 = 0 by decide), upX_n (show ¬ 9 = 0 by decide), upX_n (show ¬ 10 = 0 by decide)]
    exact x6 k a b
theorem RRel.un {h : Hp} {P : Pl} {L : Lw} {A B : Aw} {X : Pl} {U : Ud} {m : Int32} (m1 : m < X 0 5) (x : RRel h P L A B X U) : RRel (pI h 0 78 m) P L A B (upX X 0 5 m) U := by
  obtain ⟨⟨a1, a2, a3, a4, a5, a6⟩, x2, x3, x4, x5, x6, x7⟩ := x
  have g : ∀ c s, ¬ c = 0 → (pI h 0 78 m).1 c s = h.1 c s := fun c s q => pI_n q
  refine ⟨⟨a1.mw (fun c s q _ => g c s q) (fun s p q => by rw [pI_t, if_neg (by omega)]), a2.mv (fun c s p q => g c s (by omega)), a3.mg (fun c s p q => g c s (by omega)), ?_, ?_, ?_⟩, ?_, ?_, ?_, ?_, ?_, fun j a => by rw [pI_n (by decide)]; exact x7 j a⟩
  · intro i i0 i1
    rw [pI_n (by decide)]
    exact a4 i i0 i1
  · rw [pI_l]; exact a5
  · intro s
    rw [pI_n (by decide)]
    exact a6 s
  · rw [upX_s, if_neg (by decide)]
    intro q
    have z := x2 q
    unfold RIm SNP at z ⊢
    simp only [pI_n (show ¬ 44 = 0 by decide), pI_n (show ¬ 45 = 0 by decide), pI_l]
    exact z
  · obtain ⟨b1, b2, b3, b4, b5, b6, b7, b8⟩ := x3
    simp only [upX_s, pI_t]
    exact ⟨b1, b2, b3, b4, b5, rfl, b7, b8⟩
  · rw [upX_s, if_neg (by decide)]
    intro j a b
    rw [pI_n (by decide), upX_n (by decide)]
    exact x4 j a b
  · rw [upX_s, if_pos rfl]
    intro k a b
    have z := x5 k a (by lia)
    unfold SNP at z ⊢
    simp only [pI_n (show ¬ 43 = 0 by decide)]
    exact z
  · rw [upX_s, if_neg (by decide)]
    intro k a b
    simp only [pI_n (show ¬ 41 = 0 by decide), upX_n (show ¬ 11 = 0 by decide), upX_n (show ¬ 7 = 0 by decide), upX_n (show ¬ 8 = 0 by decide), upX_n (show ¬ 9 = 0 by decide), upX_n (show ¬ 10 = 0 by decide)]
    exact x6 k a b
/-- the reference takes places, ways and water back -/
theorem RRel.tk {h : Hp} {P : Pl} {L : Lw} {A A' B : Aw} {X : Pl} {U : Ud} {c n : Nat} {o : Int32} {V : Nat → Int32 → Int32} (ok : POK P) (ha : al TR c = n) (hn : n ≤ 900) (o0 : 0 ≤ o) (o1 : o + 18 ≤ nI n) (oo : o ≤ 900) (c27 : ¬ c = 27 ∧ ¬ c = 29 ∧ ¬ c = 33) (x : RRel h P L A B X U) (s : SNP h P c o V) (e1 : ∀ i, 0 ≤ i → i < P 0 4 → V 1 i = A'.1 1 i ∧ V 4 i = A'.1 4 i) (e6 : ∀ t, 0 ≤ t → t < P 0 3 → V 6 t = A'.1 6 t) (e : ∀ r j, ¬ (r = 1 ∨ r = 4 ∨ r = 6) → A'.1 r j = A.1 r j) (e2 : A'.2 = A.2) : ∃ h', f_Md_take TR h 0 c o = some h' ∧ RRel h' P L A' B X U ∧ ∀ s, h'.1 0 s = h.1 0 s := by
  have oP := ok.1
  obtain ⟨h', et, g2, g, t⟩ := tkR (h := h) ha hn o0 o1 oo c27
  refine ⟨h', et, ?_, fun s => g 0 s (by omega)⟩
  have e60 : ix (6 * 0) = 0 := by decide
  have rf : RF 0 True h h' := ⟨fun c s q => g c s (fun z => q (.inr (.inl ⟨by omega, by omega, by omega, by omega⟩))), fun c s _ => by rw [g2], fun q s => by rw [g 31 s (by omega)]; exact q s⟩
  have w := x.1.2.2.1
  have s1 : ∀ i, 0 ≤ i → i < P 0 4 → h.1 c (ix (o + i)) = V 1 i := s.1
  have s2 := s.2.1
  have s3 := s.2.2
  refine x.rf rf ⟨x.1.1.mw (fun c s q z => g c s (by omega)) (fun s _ _ => g 0 s (by omega)), x.1.2.1.mv (fun c s _ _ => g c s (by omega)), ⟨fun i a b => ?_, fun i a b => ?_, fun i a b => ?_, fun i a b => ?_, fun i a b => ?_, fun i a b => ?_, ?_⟩, fun i a b => ?_, ?_, fun s => ?_⟩
  · rw [i60, (t i a (by lia)).1, s1 i a b, (e1 i a b).1]
  · rw [g 28 _ (by omega), e 2 i (by decide)]
    exact w.2.1 i a b
  · rw [i60, (t i a (by lia)).2.1, s2 i a b, (e1 i a b).2]
  · rw [g 30 _ (by omega), e 3 i (by decide)]
    exact w.2.2.2.1 i a b
  · rw [g 31 _ (by omega), e 0 2 (by decide)]
    exact w.2.2.2.2.1 i a b
  · rw [i60, (t i a (by lia)).2.2, s3 i a b, e6 i a b]
  · rw [g 34 _ (by omega), g 35 _ (by omega), g 36 _ (by omega), g 37 _ (by omega), g 38 _ (by omega), g 39 _ (by omega), e 0 3 (by decide), e 0 4 (by decide), e 0 5 (by decide), e 0 0 (by decide), e 0 6 (by decide), e 0 7 (by decide)]
    exact w.2.2.2.2.2.2
  · rw [g 32 _ (by omega), e 5 i (by decide)]
    exact x.1.2.2.2.1 i a b
  · rw [g2, e2]
    exact x.1.2.2.2.2.1
  · rw [g 31 s (by omega)]
    exact x.1.2.2.2.2.2 s
theorem sp_undo : SP_undo Rl := by
  intro hC hR hr
  obtain ⟨P, L, A, B, X, U, p, x, y⟩ := hr
  have ok := p.1
  have o1 := ok.1
  have lk := p.2.1
  have wo := p.2.2.1
  have g := x.1.h.g
  simp only [Nat.reduceAdd] at g
  have xh := x.1.h
  have y1 := y.th (v := 0) ok
  have k := y1.1.g
  have sx := x.2.2.1
  have sr := y1.2.2.1
  have on := p.2.2.2.1
  have tk := p.2.2.2.2.2.2.2.2.2.2.1
  obtain ⟨dk, d2, d3, d4⟩ := p.2.2.2.2.2.2.2.2.1
  have e78 := sr.2.2.2.2.2.1
  have e59 := sx.2.2.2.2.2.1
  unfold f_Tt_undo f_Md_undo f_De_undoLatest jb_De_undoLatest_104
  simp only [nmd_q]
  generalize pI hR 0 2 0 = h1 at y1 k sr e78 ⊢
  simp only [lyC, lyR]
  rw [e59, e78]
  by_cases q : X 0 5 = 0
  · rw [if_pos q, if_pos q, bnd_q]
    exact ⟨_, _, rfl, rfl, rfl, Rl.mk p x y1⟩
  rw [if_neg q, if_neg q]
  have m0 : 0 ≤ X 0 5 - 1 := by lia
  have m1 : X 0 5 - 1 < X 0 5 := by lia
  have me : X 0 5 - 1 + 1 = X 0 5 := by lia
  have m20 : X 0 5 - 1 < 20 := by lia
  have u := d4 _ m0 m1
  unfold UNK at u
  rw [me] at u
  have x2 := x.un m1
  have y2 := y1.un m1
  have sn := y1.2.2.2.2.1 _ m0 m1
  have xd := x.2.2.2.2.1 _ m0 m1
  generalize X 0 5 - 1 = m at m0 m1 me m20 u x2 y2 sn xd ⊢
  have sn2 : SNP (pI h1 0 78 m) P 43 (18 * m) (U m) := by
    unfold SNP at sn ⊢
    simp only [pI_n (show ¬ 43 = 0 by decide)]
    exact sn
  have b18 : 18 * m + 18 ≤ nI 360 := by
    have : nI 360 = 360 := by decide
    rw [this]
    lia
  have c59 : (pI hC 59 0 m).1 59 0 = m := by rw [pI_t, if_pos rfl]
  have c78 : (pI h1 0 78 m).1 0 78 = m := by rw [pI_t, if_pos rfl]
  rw [c59, c78]
  have r60 : (pI hC 59 0 m).1 60 (ix m) = X 2 m := by rw [pI_n (by decide)]; exact xd.1
  simp (disch := first | assumption | decide | omega) only [rdC, bnd_q, r60]
  by_cases z : X 2 m = -1
  · rw [if_pos z]
    obtain ⟨⟨t0, t3, v0, v9⟩, u1, u6⟩ := u.2 z
    have t6 : X 3 m < 6 := by lia
    have r61 : (pI hC 59 0 m).1 61 (ix m) = X 3 m := by rw [pI_n (by decide)]; exact xd.2.1
    have r64 : (pI hC 59 0 m).1 64 (ix m) = X 6 m := by rw [pI_n (by decide)]; exact xd.2.2.2 z
    simp (disch := first | assumption | decide | omega) only [rdC, wtC, bnd_q, r61, r64]
    have x3 := x2.ww (v := X 6 m) t0
    have c3 : (pI (pI hC 59 0 m) 51 (ix (X 3 m)) (X 6 m)).1 59 0 = m := by rw [pI_n (by decide), c59]
    rw [c3]
    have E1 : ∀ i, 0 ≤ i → i < P 0 4 → U m 1 i = (up A 6 (X 3 m) (X 6 m)).1 1 i ∧ U m 4 i = (up A 6 (X 3 m) (X 6 m)).1 4 i := fun i a b => by
      rw [up_n (by decide), up_n (by decide), (u1 i a b).1, (u1 i a b).2]
      exact d2 i a b
    have E6 : ∀ t, 0 ≤ t → t < P 0 3 → U m 6 t = (up A 6 (X 3 m) (X 6 m)).1 6 t := fun t a b => by
      rw [up_s, u6 t a b, d3 t a b]
    obtain ⟨h3, e3, y3, n3⟩ := y2.tk (A' := up A 6 (X 3 m) (X 6 m)) ok alD.1 (by decide) (by lia) b18 (by lia) (by decide) sn2 E1 E6 (fun r j q => up_n (by omega)) rfl
    rw [e3, bnd_q, n3, c78]
    exact ⟨_, _, rfl, rfl, rfl, Rl.mk (p.un m0 m1 (wo.w v0 v9) (on.u (by decide)) (tk.u (by decide)) E1 E6) x3 y3⟩
  · rw [if_neg z]
    obtain ⟨⟨i0, i4, v0, v9, vg⟩, u1, u6⟩ := u.1 z
    have i6 : X 2 m < 6 := by lia
    obtain ⟨z62, z63⟩ := xd.2.2.1 z
    have r62 : (pI hC 59 0 m).1 62 (ix m) = X 4 m := by rw [pI_n (by decide)]; exact z62
    have r63 : (pI hC 59 0 m).1 63 (ix m) = X 5 m := by rw [pI_n (by decide)]; exact z63
    simp (disch := first | assumption | decide | omega) only [rdC, wtC, bnd_q, pI_n, xd.1, z62, z63, c59]
    have x3 := (x2.wr (v := X 4 m) 1 (by decide) (by decide) i0).wr (v := X 5 m) 4 (by decide) (by decide) i0
    have E1 : ∀ i, 0 ≤ i → i < P 0 4 → U m 1 i = (up (up A 1 (X 2 m) (X 4 m)) 4 (X 2 m) (X 5 m)).1 1 i ∧ U m 4 i = (up (up A 1 (X 2 m) (X 4 m)) 4 (X 2 m) (X 5 m)).1 4 i := fun i a b => by
      rw [up_n (by decide), up_s, up_s, up_n (by decide), (u1 i a b).1, (u1 i a b).2, (d2 i a b).1, (d2 i a b).2]
      exact ⟨rfl, rfl⟩
    have E6 : ∀ t, 0 ≤ t → t < P 0 3 → U m 6 t = (up (up A 1 (X 2 m) (X 4 m)) 4 (X 2 m) (X 5 m)).1 6 t := fun t a b => by
      rw [up_n (by decide), up_n (by decide), u6 t a b, d3 t a b]
    obtain ⟨h3, e3, y3, n3⟩ := y2.tk (A' := up (up A 1 (X 2 m) (X 4 m)) 4 (X 2 m) (X 5 m)) ok alD.1 (by decide) (by lia) b18 (by lia) (by decide) sn2 E1 E6 (fun r j q => by rw [up_n (by omega), up_n (by omega)]) rfl
    rw [e3, bnd_q, n3, c78]
    exact ⟨_, _, rfl, rfl, rfl, Rl.mk (p.un m0 m1 ((wo.p v0 v9).g vg) ((on.u (by decide)).u (by decide)) ((tk.u (by decide)).u (by decide)) E1 E6) x3 y3⟩
