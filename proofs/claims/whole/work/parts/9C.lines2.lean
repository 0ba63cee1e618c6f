/-! lines: troughs, horses, laps -/
theorem FSc.pc {h t : Hp} {c s : Nat} {v : Int32} (x : FSc h t) : FSc (pI h c s v) (pI t c s v) := ⟨by rw [pI_l, pI_l]; exact x.1, fun d j q => by
  rw [pI_1, pI_1]
  split
  · split
    · rfl
    · exact x.2 d j q
  · exact x.2 d j q⟩
theorem FTp.pc {h t : Hp} {c s : Nat} {v : Int32} (x : FTp h t) : FTp (pI h c s v) (pI t c s v) := ⟨by rw [pI_l, pI_l]; exact x.1, fun d j q => by
  rw [pI_1, pI_1]
  split
  · split
    · rfl
    · exact x.2 d j q
  · exact x.2 d j q⟩
theorem th3 {h : Hp} {Q : Pl} {p : Int32} (x : CP h 3 Q) (h0 : 0 ≤ p) (h1 : p < 61) : f_Pl_troughThere TC h 3 p = some (Q 5 p) := by
  have e : h.1 8 (ix p) = Q 5 p := x.2.2.1 p h0 h1
  have a61 : Int32.ofNat (al TC 8) = 61 := by simp only [alC]; decide
  unfold f_Pl_troughThere
  simp (disch := first | assumption | decide | omega) only [lyC, rdC, bnd_q, e, a61]
  rw [if_neg (by lia), if_neg (by lia)]
/-- the place looked up among those read -/
theorem fndP {h : Hp} {Q : Pl} {v : Int32} (ok : POK Q) (v0 : 0 ≤ v) (v6 : v ≤ 60) (eR : ∀ t, 0 ≤ t → t < Q 0 3 → h.1 6 (ix (6 + t)) = Q 2 t) : f_Md_find TR h 6 6 (Q 0 3) v = some (Q 5 v) := by
  have o1 := ok.1
  unfold f_Md_find
  refine loop_fu (N := Q 0 3) (P := fun m i => i ≤ Q 0 3 → (∀ t, 0 ≤ t → t < i → ¬ Q 2 t = v) → lp_Md_find_3 TR m h 6 6 (Q 0 3) v i = some (Q 5 v)) (by lia) ?_ ?_ 0 (by decide) (by lia) (fun t a b => absurd b (by lia))
  · intro m i i0 i1 i2 I
    simp only [lp_Md_find_3]
    rw [if_pos i1]
    rcases ok.2.2.1 v v0 v6 with d | ⟨d0, d1, d2⟩
    · rw [d]
    · exact absurd d2 (I _ d0 (by lia))
  · intro m i i0 i1 ih _ I
    have j0 : 0 ≤ 6 + i := by lia
    have j12 : 6 + i < 12 := by lia
    have e := eR i i0 i1
    simp only [lp_Md_find_3]
    simp (disch := first | assumption | decide | omega) only [rdR, bnd_q, nmd_q, e]
    rw [if_neg (show ¬ Q 0 3 ≤ i by lia)]
    by_cases d : Q 2 i = v
    · rw [if_pos d, ← d, (ok.2.1 i i0 i1).2.2.2.2.2.2]
    · rw [if_neg d]
      refine ih (by lia) (fun t a b => ?_)
      by_cases z : t = i
      · rw [z]
        exact d
      · exact I t a (by lia)
def trQ (Q : Pl) (nm p w f : Int32) : Pl := fun r i => if r = 0 then (if i = 3 then Q 0 3 + 1 else Q 0 i) else if r = 1 then (if i = Q 0 3 then nm else Q 1 i) else if r = 2 then (if i = Q 0 3 then p else Q 2 i) else if r = 3 then (if i = Q 0 3 then w else Q 3 i) else if r = 4 then (if i = Q 0 3 then f else Q 4 i) else if r = 5 then (if i = p then Q 0 3 else Q 5 i) else Q r i
theorem trQ_e {Q : Pl} {nm p w f : Int32} : (∀ i, trQ Q nm p w f 0 i = if i = 3 then Q 0 3 + 1 else Q 0 i) ∧ (∀ i, trQ Q nm p w f 1 i = if i = Q 0 3 then nm else Q 1 i) ∧ (∀ i, trQ Q nm p w f 2 i = if i = Q 0 3 then p else Q 2 i) ∧ (∀ i, trQ Q nm p w f 3 i = if i = Q 0 3 then w else Q 3 i) ∧ (∀ i, trQ Q nm p w f 4 i = if i = Q 0 3 then f else Q 4 i) ∧ (∀ i, trQ Q nm p w f 5 i = if i = p then Q 0 3 else Q 5 i) ∧ ∀ r i, 6 ≤ r → trQ Q nm p w f r i = Q r i :=
  ⟨fun _ => rfl, fun _ => rfl, fun _ => rfl, fun _ => rfl, fun _ => rfl, fun _ => rfl, fun r i h => by
    unfold trQ
    rw [if_neg (by omega), if_neg (by omega), if_neg (by omega), if_neg (by omega), if_neg (by omega), if_neg (by omega)]⟩
theorem trP {Q : Pl} {nm p w f : Int32} (ok : POK Q) (k6 : Q 0 3 < 6) (v0 : 0 ≤ p) (v1 : p ≤ Q 0 0) (fre : Q 5 p = -1) (w0 : 0 ≤ w) (w9 : w ≤ 99) (f0 : 0 ≤ f) (f9 : f ≤ 9) : POK (trQ Q nm p w f) := by
  obtain ⟨e0, e1, e2, e3, e4, e5, e6⟩ := trQ_e (Q := Q) (nm := nm) (p := p) (w := w) (f := f)
  obtain ⟨o1, o2, o3, o4, o5⟩ := ok
  have z3 : trQ Q nm p w f 0 3 = Q 0 3 + 1 := by rw [e0, if_pos rfl]
  have z4 : trQ Q nm p w f 0 4 = Q 0 4 := by rw [e0, if_neg (by decide)]
  have z5 : trQ Q nm p w f 0 5 = Q 0 5 := by rw [e0, if_neg (by decide)]
  have z0 : trQ Q nm p w f 0 0 = Q 0 0 := by rw [e0, if_neg (by decide)]
  have z1 : trQ Q nm p w f 0 1 = Q 0 1 := by rw [e0, if_neg (by decide)]
  have z2 : trQ Q nm p w f 0 2 = Q 0 2 := by rw [e0, if_neg (by decide)]
  refine ⟨?_, fun t a b => ?_, fun q a b => ?_, fun t a b => ?_, fun t a b => ?_⟩
  · rw [z0, z1, z2, z3, z4, z5]
    exact ⟨by lia, by lia, o1.2.2⟩
  · rw [z3] at b
    rw [z0, e2, e3, e4]
    by_cases c : t = Q 0 3
    · rw [if_pos c, if_pos c, if_pos c, e5, if_pos rfl]
      exact ⟨v0, v1, w0, w9, f0, f9, c.symm⟩
    · rw [if_neg c, if_neg c, if_neg c, e5]
      have := o2 t a (by lia)
      rw [if_neg (fun z => by
        have k := this.2.2.2.2.2.2
        rw [z, fre] at k
        lia)]
      exact this
  · rw [e5, z3]
    by_cases c : q = p
    · rw [if_pos c, e2, if_pos rfl]
      exact .inr ⟨by lia, by lia, c.symm⟩
    · rw [if_neg c]
      rcases o3 q a b with d | ⟨d0, d1, d2⟩
      · exact .inl d
      · refine .inr ⟨d0, by lia, ?_⟩
        rw [e2, if_neg (by lia)]
        exact d2
  · rw [z4] at b
    rw [e6 7 _ (by decide), e6 8 _ (by decide), e6 9 _ (by decide), e6 10 _ (by decide), z0]
    exact o4 t a b
  · rw [z5] at b
    rw [e6 11 _ (by decide), e6 12 _ (by decide), e6 13 _ (by decide), z3, z4]
    have := o5 t a b
    exact ⟨this.1, this.2.1, this.2.2.1, by lia, this.2.2.2.2⟩
theorem trC {h : Hp} {Q : Pl} {nm p w f : Int32} (ok : POK Q) (v0 : 0 ≤ p) (c : CP h 3 Q) : CP (pI (pI (pI (pI (pI (pI h 4 (ix (Q 0 3)) nm) 5 (ix (Q 0 3)) p) 6 (ix (Q 0 3)) w) 7 (ix (Q 0 3)) f) 8 (ix p) (Q 0 3)) 3 3 (Q 0 3 + 1)) 3 (trQ Q nm p w f) := by
  obtain ⟨e0, e1, e2, e3, e4, e5, e6⟩ := trQ_e (Q := Q) (nm := nm) (p := p) (w := w) (f := f)
  have k0 := ok.1.1
  obtain ⟨p1, p2, p3, p4, p5⟩ := c
  simp only [Nat.reduceAdd] at p2 p3 p4 p5
  unfold CP
  simp only [Nat.reduceAdd]
  have z3 : trQ Q nm p w f 0 3 = Q 0 3 + 1 := by rw [e0, if_pos rfl]
  have z4 : trQ Q nm p w f 0 4 = Q 0 4 := by rw [e0, if_neg (by decide)]
  have z5 : trQ Q nm p w f 0 5 = Q 0 5 := by rw [e0, if_neg (by decide)]
  have z0 : trQ Q nm p w f 0 0 = Q 0 0 := by rw [e0, if_neg (by decide)]
  have z1 : trQ Q nm p w f 0 1 = Q 0 1 := by rw [e0, if_neg (by decide)]
  have z2 : trQ Q nm p w f 0 2 = Q 0 2 := by rw [e0, if_neg (by decide)]
  refine ⟨?_, fun t a b => ?_, fun t a b => ?_, fun t a b => ?_, fun t a b => ?_⟩
  · rw [z0, z1, z2, z3, z4, z5]
    simp only [pI_t, pI_n (show ¬ 3 = 8 by decide), pI_n (show ¬ 3 = 7 by decide), pI_n (show ¬ 3 = 6 by decide), pI_n (show ¬ 3 = 5 by decide), pI_n (show ¬ 3 = 4 by decide)]
    exact ⟨p1.1, p1.2.1, p1.2.2.1, rfl, p1.2.2.2.2⟩
  · rw [z3] at b
    rw [e1, e2, e3, e4]
    simp only [pI_ixa k0 a, pI_ixa v0 a, pI_n (show ¬ 4 = 3 by decide), pI_n (show ¬ 5 = 3 by decide), pI_n (show ¬ 6 = 3 by decide), pI_n (show ¬ 7 = 3 by decide), Nat.reduceEqDiff, false_and, true_and, if_false]
    by_cases c : t = Q 0 3
    · simp only [if_pos c, and_self]
    · simp only [if_neg c]
      exact p2 t a (by have := ok.1; lia)
  · rw [e5]
    simp only [pI_ixa k0 a, pI_ixa v0 a, pI_n (show ¬ 8 = 3 by decide), Nat.reduceEqDiff, false_and, true_and, if_false]
    by_cases c : t = p
    · simp only [if_pos c]
    · simp only [if_neg c]
      exact p3 t a b
  · rw [z4] at b
    rw [e6 6 _ (by decide), e6 7 _ (by decide), e6 8 _ (by decide), e6 9 _ (by decide), e6 10 _ (by decide)]
    simp only [pI_ixa k0 a, pI_ixa v0 a, pI_n (show ¬ 9 = 3 by decide), pI_n (show ¬ 10 = 3 by decide), pI_n (show ¬ 11 = 3 by decide), pI_n (show ¬ 12 = 3 by decide), pI_n (show ¬ 13 = 3 by decide), Nat.reduceEqDiff, false_and, if_false]
    exact p4 t a b
  · rw [z5] at b
    rw [e6 11 _ (by decide), e6 12 _ (by decide), e6 13 _ (by decide)]
    simp only [pI_ixa k0 a, pI_ixa v0 a, pI_n (show ¬ 14 = 3 by decide), pI_n (show ¬ 15 = 3 by decide), pI_n (show ¬ 16 = 3 by decide), Nat.reduceEqDiff, false_and, if_false]
    exact p5 t a b
theorem trR {h : Hp} {Q : Pl} {nm p w f : Int32} (ok : POK Q) (k6 : Q 0 3 < 6) (r : RQ h Q) : RQ (pI (pI (pI (pI (pI h 5 (ix (6 + Q 0 3)) nm) 6 (ix (6 + Q 0 3)) p) 7 (ix (6 + Q 0 3)) w) 8 (ix (6 + Q 0 3)) f) 0 17 (Q 0 3 + 1)) (trQ Q nm p w f) := by
  obtain ⟨e0, e1, e2, e3, e4, e5, e6⟩ := trQ_e (Q := Q) (nm := nm) (p := p) (w := w) (f := f)
  have k0 := ok.1.1
  have o1 := ok.1
  have x0 : 0 ≤ 6 + Q 0 3 := by lia
  obtain ⟨p1, p2, p3, p4⟩ := r
  have z3 : trQ Q nm p w f 0 3 = Q 0 3 + 1 := by rw [e0, if_pos rfl]
  have z4 : trQ Q nm p w f 0 4 = Q 0 4 := by rw [e0, if_neg (by decide)]
  have z5 : trQ Q nm p w f 0 5 = Q 0 5 := by rw [e0, if_neg (by decide)]
  have z0 : trQ Q nm p w f 0 0 = Q 0 0 := by rw [e0, if_neg (by decide)]
  have z1 : trQ Q nm p w f 0 1 = Q 0 1 := by rw [e0, if_neg (by decide)]
  have z2 : trQ Q nm p w f 0 2 = Q 0 2 := by rw [e0, if_neg (by decide)]
  refine ⟨?_, fun t a b => ?_, fun t a b => ?_, fun t a b => ?_⟩
  · rw [z0, z1, z2, z3, z4, z5]
    simp only [pI_t, pI_n (show ¬ 4 = 0 by decide), pI_n (show ¬ 4 = 8 by decide), pI_n (show ¬ 4 = 7 by decide), pI_n (show ¬ 4 = 6 by decide), pI_n (show ¬ 4 = 5 by decide), pI_n (show ¬ 0 = 8 by decide), pI_n (show ¬ 0 = 7 by decide), pI_n (show ¬ 0 = 6 by decide), pI_n (show ¬ 0 = 5 by decide)]
    exact ⟨rfl, p1.2⟩
  · rw [z3] at b
    have y0 : 0 ≤ 6 + t := by lia
    rw [e1, e2, e3, e4]
    simp only [pI_ixa x0 y0, pI_n (show ¬ 5 = 0 by decide), pI_n (show ¬ 6 = 0 by decide), pI_n (show ¬ 7 = 0 by decide), pI_n (show ¬ 8 = 0 by decide), Nat.reduceEqDiff, false_and, true_and, if_false]
    by_cases c : t = Q 0 3
    · have c2 : 6 + t = 6 + Q 0 3 := by rw [c]
      simp only [if_pos c, if_pos c2, and_self]
    · have c2 : ¬ 6 + t = 6 + Q 0 3 := by lia
      simp only [if_neg c, if_neg c2]
      exact p2 t a (by lia)
  · rw [z4] at b
    have y0 : 0 ≤ 6 + t := by lia
    rw [e6 6 _ (by decide), e6 7 _ (by decide), e6 8 _ (by decide), e6 9 _ (by decide), e6 10 _ (by decide)]
    simp only [pI_ixa x0 y0, pI_n (show ¬ 9 = 0 by decide), pI_n (show ¬ 10 = 0 by decide), pI_n (show ¬ 11 = 0 by decide), pI_n (show ¬ 12 = 0 by decide), pI_n (show ¬ 13 = 0 by decide), Nat.reduceEqDiff, false_and, if_false]
    exact p3 t a b
  · rw [z5] at b
    have y0 : 0 ≤ 12 + t := by lia
    rw [e6 11 _ (by decide), e6 12 _ (by decide), e6 13 _ (by decide)]
    simp only [pI_ixa x0 y0, pI_n (show ¬ 14 = 0 by decide), pI_n (show ¬ 15 = 0 by decide), pI_n (show ¬ 16 = 0 by decide), Nat.reduceEqDiff, false_and, if_false]
    exact p4 t a b
theorem alr : al TC 4 = 6 ∧ al TC 9 = 6 ∧ al TR 5 = 12 ∧ al TR 9 = 12 ∧ al TC 8 = 61 := by
  simp only [alC, alR, and_self]
theorem trline {b b' h h' : Hp} {n a j : Int32} {T : Int32 → Int32} {Q : Pl} {L : Lw} {sz : Nat} {fr fs : Int32} (x : PS b b' h h' n T Q L sz fr fs a j) : LR b b' n T j (f_Tr_readTrough TC h 2) (f_Md_troughLine TR h' 0) := by
  obtain ⟨f, f', ok, cp, rq, pw, pl, s⟩ := x
  have o1 := ok.1
  have e10 : h'.1 0 10 = a := s.2.2.2.2.1
  have e33 : h.1 3 3 = Q 0 3 := cp.1.2.2.2.1
  have e17 : h'.1 0 17 = Q 0 3 := rq.1.1
  unfold f_Tr_readTrough f_Md_troughLine
  simp only [nmd_q, lyC, lyR, faC, faR0 e10, cz0, bnd_q]
  rw [e33, e17]
  by_cases k6 : Q 0 3 < 6
  case neg =>
    rw [if_neg k6, if_pos (show Q 0 3 = 6 by lia)]
    exact .inl ⟨_, _, rfl, rfl, Fld.of f f' s⟩
  rw [if_pos k6, if_neg (show ¬ Q 0 3 = 6 by lia)]
  obtain ⟨t1, t1', a1, j1, w1, w2, w3, w4, w5, w6⟩ := s.st
  have f1 := f.tr w3.P
  have f1' := f'.tr w4.p.Q
  have c1 : CP t1 3 Q := cp.m3 (fun c s _ _ => w3.2 c s (by omega))
  have r1 : RQ t1' Q := rq.mv (fun c s _ => w4.2 c s (by omega))
  rw [w1, w2, bnd_q, bnd_q, r1.1.1]
  have i6 := ix_lt (n := 6) o1.1 (by decide) k6
  rcases w5.nnm f1 f1' o1.1 k6 alr.1 alr.2.2.1 ⟨by unfold TXc; omega, by decide, by decide⟩ ⟨by unfold TXr; rw [ix_6 o1.1 k6]; omega, by decide⟩ (F := fun t => Q 1 t) (fun t a b => (c1.2.1 t a b).1) (fun t a b => (r1.2.1 t a b).1) with ⟨g, g', q1, q2, q3⟩ | ⟨nm, t2, t2', a2, j2, q1, q0, q2, q3, q4, q5, q6, q7⟩
  · rw [q1, q2, bnd_q, bnd_q, if_pos (rfl : (0 : Int32) = 0), if_pos (rfl : (0 : Int32) = 0)]
    exact .inl ⟨g, g', rfl, rfl, q3⟩
  rw [q1, q3, bnd_q, bnd_q, if_neg (show ¬ (1 : Int32) = 0 by decide), if_neg (show ¬ (1 : Int32) = 0 by decide), q0]
  simp (disch := first | exact o1.1 | assumption | decide | omega) only [wtC, bnd_q]
  rw [q2, bnd_q]
  have FC2 : FSc (pI h 4 (ix (Q 0 3)) nm) t2 := w3.pc.tr q4
  have FR2 : FTp (pI h' 5 (ix (6 + Q 0 3)) nm) t2' := w4.p.pc.tr q5.p
  have f2 : FrP b t2 := (f1.wr (by unfold TXc; omega)).tr q4.P
  have f2' : FrQ b' t2' := (f1'.wr (by unfold TXr; rw [ix_6 o1.1 k6]; omega)).tr q5.p.Q
  have l2 : t2.1 3 0 = Q 0 0 := by rw [FC2.2 3 0 (by omega), pI_n (by decide)]; exact cp.1.1
  have l2' : t2'.1 0 20 = Q 0 0 := by rw [FR2.2 0 20 (by omega), pI_n (by decide)]; exact rq.1.2.2.2.1
  have n2' : t2'.1 0 17 = Q 0 3 := by rw [FR2.2 0 17 (by omega), pI_n (by decide)]; exact e17
  have p2 : t2'.1 0 10 = a2 := q6.2.2.2.2.1
  rw [l2, l2', n2', p2]
  rcases q6.isn f2 f2' (l := 0) (u := Q 0 0) (by decide) (by lia) with ⟨g, g', y1, y2, y3⟩ | ⟨t3, t3', a3, j3, y1, y2, y3, y4, y5, y6, y7, y8, y9, y10⟩
  · rw [y1, y2, bnd_q, bnd_q, if_pos (rfl : (0 : Int32) = 0), if_pos (rfl : (0 : Int32) = 0)]
    exact .inl ⟨g, g', rfl, rfl, y3⟩
  have FC3 := FC2.tr y6
  have FR3 := FR2.tr y7
  have tk : f_Tr_takeNumber TC t2 2 0 (Q 0 0) = some (t2.1 22 2, t3) := by
    unfold f_Tr_takeNumber
    simp only [lyC]
    rw [y1, bnd_q, if_neg (show ¬ (1 : Int32) = 0 by decide), nmd_q, y4, bnd_q]
  generalize hp : t2.1 22 2 = p at *
  have q5p : t2.1 8 (ix p) = Q 5 p := by
    rw [FC2.2 8 _ (by omega), pI_n (by decide)]
    exact cp.2.2.1 p y2 (by lia)
  have tt : f_Pl_troughThere TC t2 3 p = some (Q 5 p) := by
    have a61 : Int32.ofNat (al TC 8) = 61 := by simp only [alC]; decide
    have p61 : p < 61 := by lia
    unfold f_Pl_troughThere
    simp (disch := first | assumption | decide | omega) only [lyC, rdC, bnd_q, q5p, a61]
    rw [if_neg (by lia), if_neg (by lia)]
  have fp : f_Md_find TR t3' 6 6 (Q 0 3) p = some (Q 5 p) := fndP ok y2 (by lia) (fun t x y => by
    rw [FR3.2 6 _ (by omega), pI_n (by decide)]
    exact (rq.2.1 t x y).2.1)
  have n3' : t3'.1 0 17 = Q 0 3 := by rw [FR3.2 0 17 (by omega), pI_n (by decide)]; exact e17
  rw [y1, y5, bnd_q, bnd_q, if_neg (show ¬ (1 : Int32) = 0 by decide), if_neg (show ¬ (1 : Int32) = 0 by decide)]
  simp only [fst_q, snd_q]
  rw [hp, l2, tt, bnd_q, n3', y8, fp, bnd_q]
  by_cases fre : Q 5 p = -1
  case neg =>
    rw [if_neg fre, if_neg (show ¬ Q 5 p < 0 by
      rcases ok.2.2.1 p y2 (by lia) with d | d
      · exact absurd d fre
      · lia)]
    have e10' : (pI t3' 0 10 a2).1 0 10 = a2 := by rw [pI_t, if_pos rfl]
    rw [faR0 e10']
    simp only [cz0, bnd_q]
    refine .inl ⟨_, _, rfl, rfl, FwP.of f2, FwQ.of ((f2'.tr y7.Q).wr (by unfold TXr; omega)), ?_, ?_⟩
    · rw [pI_t, if_pos rfl, pI_t, if_neg (by decide), pI_t, if_pos rfl]
    · rw [pI_n (by decide), pI_t, if_pos rfl]
      exact q6.2.2.2.1
  have j60 : 0 ≤ 6 + Q 0 3 := by lia
  have j12 : 6 + Q 0 3 < 12 := by lia
  have x6 := ix_6 o1.1 k6
  rw [if_pos fre, if_pos (show Q 5 p < 0 by rw [fre]; decide), tk, bnd_q, if_neg (show ¬ p = -1 by lia)]
  simp (disch := first | assumption | decide | omega) only [wtR, bnd_q]
  have s4 : Scn t3 (pI t3' 6 (ix (6 + Q 0 3)) p) n T a3 j3 := y9.mv (fun _ _ _ => rfl) (fun c s _ => by rw [pI_n (by omega)])
  have f3 : FrP b t3 := f2.tr y6.P
  have f3' : FrQ b' (pI t3' 6 (ix (6 + Q 0 3)) p) := (f2'.tr y7.Q).wr (by unfold TXr; omega)
  unfold jb_Tr_readTrough_137 jb_Tr_readTrough_154
  simp only [lyC]
  rcases s4.num f3 f3' (l := 0) (u := 99) (by decide) (by decide) with ⟨g, g', z1, z2, z3⟩ | ⟨w, t4, t4', a4, j4, z1, z2, z3, z4, z5, z6, z7, z8, z9⟩
  · rw [z1, z2, bnd_q, bnd_q, if_pos (rfl : (-1 : Int32) = -1), if_pos trivial, if_pos (rfl : (0 : Int32) = 0)]
    exact .inl ⟨g, g', rfl, rfl, z3⟩
  rw [z1, z2, bnd_q, bnd_q, if_neg (show ¬ w = -1 by lia), if_neg (show ¬ (1 : Int32) = 0 by decide), z7]
  simp (disch := first | assumption | decide | omega) only [bnd_q]
  have s5 : Scn t4 (pI t4' 7 (ix (6 + Q 0 3)) w) n T a4 j4 := z8.mv (fun _ _ _ => rfl) (fun c s _ => by rw [pI_n (by omega)])
  have f4 : FrP b t4 := f3.tr z5.P
  have f4' : FrQ b' (pI t4' 7 (ix (6 + Q 0 3)) w) := (f3'.tr z6.Q).wr (by unfold TXr; omega)
  rcases s5.num f4 f4' (l := 0) (u := 9) (by decide) (by decide) with ⟨g, g', v1, v2, v3⟩ | ⟨fi, t5, t5', a5, j5, v1, v2, v3, v4, v5, v6, v7, v8, v9⟩
  · rw [v1, v2, bnd_q, bnd_q, if_pos (rfl : (-1 : Int32) = -1), if_pos (rfl : (0 : Int32) = 0)]
    exact .inl ⟨g, g', rfl, rfl, v3⟩
  have a61 : Int32.ofNat (al TC 8) = 61 := by simp only [alC]; decide
  have p61 : p < 61 := by lia
  have FC5 : FSc (pI h 4 (ix (Q 0 3)) nm) t5 := (FC3.tr z5).tr v5
  have FR5 : FTp (pI (pI (pI h' 5 (ix (6 + Q 0 3)) nm) 6 (ix (6 + Q 0 3)) p) 7 (ix (6 + Q 0 3)) w) t5' := (((FR3.pc).tr z6).pc).tr v6
  have n5 : t5.1 3 3 = Q 0 3 := by rw [FC5.2 3 3 (by omega), pI_n (by decide)]; exact e33
  have n5' : t5'.1 0 17 = Q 0 3 := by rw [FR5.2 0 17 (by omega), pI_n (by decide), pI_n (by decide), pI_n (by decide)]; exact e17
  rw [v1, v2, bnd_q, bnd_q, if_neg (show ¬ fi = -1 by lia), if_neg (show ¬ (1 : Int32) = 0 by decide), a61, if_pos p61, v7]
  simp (disch := first | exact o1.1 | exact k6 | assumption | decide | omega) only [wtC, bnd_q, nmd_q, pI_n, n5, n5']
  have ZC := (((((FC5.pc (c := 5) (s := ix (Q 0 3)) (v := p)).pc (c := 6) (s := ix (Q 0 3)) (v := w)).pc (c := 7) (s := ix (Q 0 3)) (v := fi)).pc (c := 8) (s := ix p) (v := Q 0 3)).pc (c := 3) (s := 3) (v := Q 0 3 + 1))
  have ZR := (FR5.pc (c := 8) (s := ix (6 + Q 0 3)) (v := fi)).pc (c := 0) (s := 17) (v := Q 0 3 + 1)
  have jj : j ≤ a5 := by
    have b1 := w5.2.2.2.2.2.2.1
    have b2 := q6.2.2.2.2.2.2.1
    have b3 := y9.2.2.2.2.2.2.1
    have b4 := z8.2.2.2.2.2.2.1
    lia
  refine .inr ⟨_, _, trQ Q nm p w fi, L, sz, fr, fs, a5, j5, rfl, rfl, ⟨?_, ?_, trP ok k6 y2 y3 fre z3 z4 v3 v4, ?_, ?_, ?_, ?_, ?_⟩, jj⟩
  · exact (((((f4.tr v5.P).wr (by unfold TXc; omega)).wr (by unfold TXc; omega)).wr (by unfold TXc; omega)).wr (by unfold TXc; omega)).wr (by unfold TXc; omega)
  · exact ((f4'.tr v6.Q).wr (by unfold TXr; omega)).wr (by unfold TXr; omega)
  · exact (trC ok y2 cp).m3 (fun c s _ _ => ZC.2 c s (by omega))
  · exact (trR ok k6 rq).mv (fun c s _ => ZR.2 c s (by omega))
  · unfold PW at pw ⊢
    rw [ZC.2 2 5 (by omega), ZC.2 2 6 (by omega), ZR.2 3 0 (by omega), ZR.2 3 1 (by omega)]
    simp only [pI_n (show ¬ 2 = 3 by decide), pI_n (show ¬ 2 = 4 by decide), pI_n (show ¬ 2 = 5 by decide), pI_n (show ¬ 2 = 6 by decide), pI_n (show ¬ 2 = 7 by decide), pI_n (show ¬ 2 = 8 by decide), pI_n (show ¬ 3 = 0 by decide), pI_n (show ¬ 3 = 5 by decide), pI_n (show ¬ 3 = 6 by decide), pI_n (show ¬ 3 = 7 by decide), pI_n (show ¬ 3 = 8 by decide)]
    exact pw
  · exact pl.mv (fun c s _ _ => by rw [ZC.2 c s (by omega), pI_n (by omega), pI_n (by omega), pI_n (by omega), pI_n (by omega), pI_n (by omega), pI_n (by omega)]) (fun c s _ => by rw [ZR.2 c s (by omega), pI_x (by omega), pI_n (by omega), pI_n (by omega), pI_n (by omega), pI_n (by omega)])
  · exact v8.mv (fun c s _ => by rw [pI_n (by omega), pI_n (by omega), pI_n (by omega), pI_n (by omega), pI_n (by omega)]) (fun c s _ => by rw [pI_x (by omega), pI_n (by omega)])
