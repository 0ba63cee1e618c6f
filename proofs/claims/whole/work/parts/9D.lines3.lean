/-! lines: horses, laps -/
def hoQ (Q : Pl) (nm sd p th pc : Int32) : Pl := fun r i => if r = 0 then (if i = 4 then Q 0 4 + 1 else Q 0 i) else if r = 6 then (if i = Q 0 4 then nm else Q 6 i) else if r = 7 then (if i = Q 0 4 then sd else Q 7 i) else if r = 8 then (if i = Q 0 4 then p else Q 8 i) else if r = 9 then (if i = Q 0 4 then th else Q 9 i) else if r = 10 then (if i = Q 0 4 then pc else Q 10 i) else Q r i
theorem hoQ_e {Q : Pl} {nm sd p th pc : Int32} : (∀ i, hoQ Q nm sd p th pc 0 i = if i = 4 then Q 0 4 + 1 else Q 0 i) ∧ (∀ i, hoQ Q nm sd p th pc 6 i = if i = Q 0 4 then nm else Q 6 i) ∧ (∀ i, hoQ Q nm sd p th pc 7 i = if i = Q 0 4 then sd else Q 7 i) ∧ (∀ i, hoQ Q nm sd p th pc 8 i = if i = Q 0 4 then p else Q 8 i) ∧ (∀ i, hoQ Q nm sd p th pc 9 i = if i = Q 0 4 then th else Q 9 i) ∧ (∀ i, hoQ Q nm sd p th pc 10 i = if i = Q 0 4 then pc else Q 10 i) ∧ ∀ r i, ¬ r = 0 → ¬ (6 ≤ r ∧ r ≤ 10) → hoQ Q nm sd p th pc r i = Q r i :=
  ⟨fun _ => rfl, fun _ => rfl, fun _ => rfl, fun _ => rfl, fun _ => rfl, fun _ => rfl, fun r i h k => by
    unfold hoQ
    rw [if_neg h, if_neg (by omega), if_neg (by omega), if_neg (by omega), if_neg (by omega), if_neg (by omega)]⟩
theorem hoP {Q : Pl} {nm sd p th pc : Int32} (ok : POK Q) (k6 : Q 0 4 < 6) (s0 : 0 ≤ sd) (s3 : sd ≤ 3) (v0 : 0 ≤ p) (v1 : p ≤ Q 0 0) (t0 : 0 ≤ th) (t9 : th ≤ 99) (c1 : 1 ≤ pc) (c9 : pc ≤ 9) : POK (hoQ Q nm sd p th pc) := by
  obtain ⟨e0, e6, e7, e8, e9, e10, en⟩ := hoQ_e (Q := Q) (nm := nm) (sd := sd) (p := p) (th := th) (pc := pc)
  obtain ⟨o1, o2, o3, o4, o5⟩ := ok
  have z0 : hoQ Q nm sd p th pc 0 0 = Q 0 0 := by rw [e0, if_neg (by decide)]
  have z1 : hoQ Q nm sd p th pc 0 1 = Q 0 1 := by rw [e0, if_neg (by decide)]
  have z2 : hoQ Q nm sd p th pc 0 2 = Q 0 2 := by rw [e0, if_neg (by decide)]
  have z3 : hoQ Q nm sd p th pc 0 3 = Q 0 3 := by rw [e0, if_neg (by decide)]
  have z4 : hoQ Q nm sd p th pc 0 4 = Q 0 4 + 1 := by rw [e0, if_pos rfl]
  have z5 : hoQ Q nm sd p th pc 0 5 = Q 0 5 := by rw [e0, if_neg (by decide)]
  refine ⟨?_, fun t a b => ?_, fun q a b => ?_, fun t a b => ?_, fun t a b => ?_⟩
  · rw [z0, z1, z2, z3, z4, z5]
    exact ⟨o1.1, o1.2.1, by lia, by lia, o1.2.2.2.2⟩
  · rw [z3] at b
    rw [en 2 _ (by decide) (by decide), en 3 _ (by decide) (by decide), en 4 _ (by decide) (by decide), en 5 _ (by decide) (by decide), z0]
    exact o2 t a b
  · rw [en 5 _ (by decide) (by decide), en 2 _ (by decide) (by decide), z3]
    exact o3 q a b
  · rw [z4] at b
    rw [z0, e7, e8, e9, e10]
    by_cases c : t = Q 0 4
    · rw [if_pos c, if_pos c, if_pos c, if_pos c]
      exact ⟨s0, s3, v0, v1, t0, t9, c1, c9⟩
    · rw [if_neg c, if_neg c, if_neg c, if_neg c]
      exact o4 t a (by lia)
  · rw [z5] at b
    rw [en 11 _ (by decide) (by decide), en 12 _ (by decide) (by decide), en 13 _ (by decide) (by decide), z3, z4]
    have := o5 t a b
    exact ⟨this.1, by lia, this.2.2⟩
theorem hoZC {h : Hp} {Q : Pl} {nm sd p th pc : Int32} (ok : POK Q) (c : CP h 3 Q) : CP (pI (pI (pI (pI (pI (pI h 9 (ix (Q 0 4)) nm) 10 (ix (Q 0 4)) sd) 11 (ix (Q 0 4)) p) 12 (ix (Q 0 4)) th) 13 (ix (Q 0 4)) pc) 3 4 (Q 0 4 + 1)) 3 (hoQ Q nm sd p th pc) := by
  obtain ⟨e0, e6, e7, e8, e9, e10, en⟩ := hoQ_e (Q := Q) (nm := nm) (sd := sd) (p := p) (th := th) (pc := pc)
  have o1 := ok.1
  have k0 : 0 ≤ Q 0 4 := by lia
  obtain ⟨p1, p2, p3, p4, p5⟩ := c
  simp only [Nat.reduceAdd] at p2 p3 p4 p5
  unfold CP
  simp only [Nat.reduceAdd]
  have z0 : hoQ Q nm sd p th pc 0 0 = Q 0 0 := by rw [e0, if_neg (by decide)]
  have z1 : hoQ Q nm sd p th pc 0 1 = Q 0 1 := by rw [e0, if_neg (by decide)]
  have z2 : hoQ Q nm sd p th pc 0 2 = Q 0 2 := by rw [e0, if_neg (by decide)]
  have z3 : hoQ Q nm sd p th pc 0 3 = Q 0 3 := by rw [e0, if_neg (by decide)]
  have z4 : hoQ Q nm sd p th pc 0 4 = Q 0 4 + 1 := by rw [e0, if_pos rfl]
  have z5 : hoQ Q nm sd p th pc 0 5 = Q 0 5 := by rw [e0, if_neg (by decide)]
  refine ⟨?_, fun t a b => ?_, fun t a b => ?_, fun t a b => ?_, fun t a b => ?_⟩
  · rw [z0, z1, z2, z3, z4, z5]
    simp only [pI_t, pI_n (show ¬ 3 = 9 by decide), pI_n (show ¬ 3 = 10 by decide), pI_n (show ¬ 3 = 11 by decide), pI_n (show ¬ 3 = 12 by decide), pI_n (show ¬ 3 = 13 by decide)]
    exact ⟨p1.1, p1.2.1, p1.2.2.1, p1.2.2.2.1, rfl, p1.2.2.2.2.2⟩
  · rw [z3] at b
    rw [en 1 _ (by decide) (by decide), en 2 _ (by decide) (by decide), en 3 _ (by decide) (by decide), en 4 _ (by decide) (by decide)]
    simp only [pI_ixa k0 a, pI_n (show ¬ 4 = 3 by decide), pI_n (show ¬ 5 = 3 by decide), pI_n (show ¬ 6 = 3 by decide), pI_n (show ¬ 7 = 3 by decide), Nat.reduceEqDiff, false_and, true_and, if_false]
    exact p2 t a b
  · rw [en 5 _ (by decide) (by decide)]
    simp only [pI_ixa k0 a, pI_n (show ¬ 8 = 3 by decide), Nat.reduceEqDiff, false_and, true_and, if_false]
    exact p3 t a b
  · rw [z4] at b
    rw [e6, e7, e8, e9, e10]
    simp only [pI_ixa k0 a, pI_n (show ¬ 9 = 3 by decide), pI_n (show ¬ 10 = 3 by decide), pI_n (show ¬ 11 = 3 by decide), pI_n (show ¬ 12 = 3 by decide), pI_n (show ¬ 13 = 3 by decide), Nat.reduceEqDiff, false_and, true_and, if_false]
    by_cases c : t = Q 0 4
    · simp only [if_pos c, and_self]
    · simp only [if_neg c]
      exact p4 t a (by lia)
  · rw [z5] at b
    rw [en 11 _ (by decide) (by decide), en 12 _ (by decide) (by decide), en 13 _ (by decide) (by decide)]
    simp only [pI_ixa k0 a, pI_n (show ¬ 14 = 3 by decide), pI_n (show ¬ 15 = 3 by decide), pI_n (show ¬ 16 = 3 by decide), Nat.reduceEqDiff, false_and, true_and, if_false]
    exact p5 t a b
theorem hoZR {h : Hp} {Q : Pl} {nm sd p th pc : Int32} (ok : POK Q) (r : RQ h Q) : RQ (pI (pI (pI (pI (pI (pI h 9 (ix (6 + Q 0 4)) nm) 10 (ix (6 + Q 0 4)) sd) 11 (ix (6 + Q 0 4)) p) 12 (ix (6 + Q 0 4)) th) 13 (ix (6 + Q 0 4)) pc) 0 18 (Q 0 4 + 1)) (hoQ Q nm sd p th pc) := by
  obtain ⟨e0, e6, e7, e8, e9, e10, en⟩ := hoQ_e (Q := Q) (nm := nm) (sd := sd) (p := p) (th := th) (pc := pc)
  have o1 := ok.1
  have x0 : 0 ≤ 6 + Q 0 4 := by lia
  obtain ⟨p1, p2, p3, p4⟩ := r
  have z0 : hoQ Q nm sd p th pc 0 0 = Q 0 0 := by rw [e0, if_neg (by decide)]
  have z1 : hoQ Q nm sd p th pc 0 1 = Q 0 1 := by rw [e0, if_neg (by decide)]
  have z2 : hoQ Q nm sd p th pc 0 2 = Q 0 2 := by rw [e0, if_neg (by decide)]
  have z3 : hoQ Q nm sd p th pc 0 3 = Q 0 3 := by rw [e0, if_neg (by decide)]
  have z4 : hoQ Q nm sd p th pc 0 4 = Q 0 4 + 1 := by rw [e0, if_pos rfl]
  have z5 : hoQ Q nm sd p th pc 0 5 = Q 0 5 := by rw [e0, if_neg (by decide)]
  refine ⟨?_, fun t a b => ?_, fun t a b => ?_, fun t a b => ?_⟩
  · rw [z0, z1, z2, z3, z4, z5]
    simp only [pI_t, pI_n (show ¬ 4 = 0 by decide), pI_n (show ¬ 4 = 9 by decide), pI_n (show ¬ 0 = 9 by decide), pI_n (show ¬ 4 = 10 by decide), pI_n (show ¬ 0 = 10 by decide), pI_n (show ¬ 4 = 11 by decide), pI_n (show ¬ 0 = 11 by decide), pI_n (show ¬ 4 = 12 by decide), pI_n (show ¬ 0 = 12 by decide), pI_n (show ¬ 4 = 13 by decide), pI_n (show ¬ 0 = 13 by decide)]
    exact ⟨p1.1, rfl, p1.2.2.1, p1.2.2.2.1, p1.2.2.2.2.1, p1.2.2.2.2.2⟩
  · rw [z3] at b
    have y0 : 0 ≤ 6 + t := by lia
    rw [en 1 _ (by decide) (by decide), en 2 _ (by decide) (by decide), en 3 _ (by decide) (by decide), en 4 _ (by decide) (by decide)]
    simp only [pI_ixa x0 y0, pI_n (show ¬ 5 = 0 by decide), pI_n (show ¬ 6 = 0 by decide), pI_n (show ¬ 7 = 0 by decide), pI_n (show ¬ 8 = 0 by decide), Nat.reduceEqDiff, false_and, true_and, if_false]
    exact p2 t a b
  · rw [z4] at b
    have y0 : 0 ≤ 6 + t := by lia
    rw [e6, e7, e8, e9, e10]
    simp only [pI_ixa x0 y0, pI_n (show ¬ 9 = 0 by decide), pI_n (show ¬ 10 = 0 by decide), pI_n (show ¬ 11 = 0 by decide), pI_n (show ¬ 12 = 0 by decide), pI_n (show ¬ 13 = 0 by decide), Nat.reduceEqDiff, false_and, true_and, if_false]
    by_cases c : t = Q 0 4
    · have c2 : 6 + t = 6 + Q 0 4 := by rw [c]
      simp only [if_pos c, if_pos c2, and_self]
    · have c2 : ¬ 6 + t = 6 + Q 0 4 := by lia
      simp only [if_neg c, if_neg c2]
      exact p3 t a (by lia)
  · rw [z5] at b
    have y0 : 0 ≤ 12 + t := by lia
    rw [en 11 _ (by decide) (by decide), en 12 _ (by decide) (by decide), en 13 _ (by decide) (by decide)]
    simp only [pI_ixa x0 y0, pI_n (show ¬ 14 = 0 by decide), pI_n (show ¬ 15 = 0 by decide), pI_n (show ¬ 16 = 0 by decide), Nat.reduceEqDiff, false_and, true_and, if_false]
    exact p4 t a b
def laQ (Q : Pl) (hs tr hr : Int32) : Pl := fun r i => if r = 0 then (if i = 5 then Q 0 5 + 1 else Q 0 i) else if r = 11 then (if i = Q 0 5 then hs else Q 11 i) else if r = 12 then (if i = Q 0 5 then tr else Q 12 i) else if r = 13 then (if i = Q 0 5 then hr else Q 13 i) else Q r i
theorem laQ_e {Q : Pl} {hs tr hr : Int32} : (∀ i, laQ Q hs tr hr 0 i = if i = 5 then Q 0 5 + 1 else Q 0 i) ∧ (∀ i, laQ Q hs tr hr 11 i = if i = Q 0 5 then hs else Q 11 i) ∧ (∀ i, laQ Q hs tr hr 12 i = if i = Q 0 5 then tr else Q 12 i) ∧ (∀ i, laQ Q hs tr hr 13 i = if i = Q 0 5 then hr else Q 13 i) ∧ ∀ r i, ¬ r = 0 → ¬ (11 ≤ r ∧ r ≤ 13) → laQ Q hs tr hr r i = Q r i :=
  ⟨fun _ => rfl, fun _ => rfl, fun _ => rfl, fun _ => rfl, fun r i h k => by
    unfold laQ
    rw [if_neg h, if_neg (by omega), if_neg (by omega), if_neg (by omega)]⟩
theorem laP {Q : Pl} {hs tr hr : Int32} (ok : POK Q) (k6 : Q 0 5 < 12) (s0 : 0 ≤ hs) (s3 : hs < Q 0 4) (v0 : 0 ≤ tr) (v1 : tr < Q 0 3) (t0 : 0 ≤ hr) (t9 : hr ≤ 99) : POK (laQ Q hs tr hr) := by
  obtain ⟨e0, e11, e12, e13, en⟩ := laQ_e (Q := Q) (hs := hs) (tr := tr) (hr := hr)
  obtain ⟨o1, o2, o3, o4, o5⟩ := ok
  have z0 : laQ Q hs tr hr 0 0 = Q 0 0 := by rw [e0, if_neg (by decide)]
  have z1 : laQ Q hs tr hr 0 1 = Q 0 1 := by rw [e0, if_neg (by decide)]
  have z2 : laQ Q hs tr hr 0 2 = Q 0 2 := by rw [e0, if_neg (by decide)]
  have z3 : laQ Q hs tr hr 0 3 = Q 0 3 := by rw [e0, if_neg (by decide)]
  have z4 : laQ Q hs tr hr 0 4 = Q 0 4 := by rw [e0, if_neg (by decide)]
  have z5 : laQ Q hs tr hr 0 5 = Q 0 5 + 1 := by rw [e0, if_pos rfl]
  refine ⟨?_, fun t a b => ?_, fun q a b => ?_, fun t a b => ?_, fun t a b => ?_⟩
  · rw [z0, z1, z2, z3, z4, z5]
    exact ⟨o1.1, o1.2.1, o1.2.2.1, o1.2.2.2.1, by lia, by lia, o1.2.2.2.2.2.2⟩
  · rw [z3] at b
    rw [en 2 _ (by decide) (by decide), en 3 _ (by decide) (by decide), en 4 _ (by decide) (by decide), en 5 _ (by decide) (by decide), z0]
    exact o2 t a b
  · rw [en 5 _ (by decide) (by decide), en 2 _ (by decide) (by decide), z3]
    exact o3 q a b
  · rw [z4] at b
    rw [en 7 _ (by decide) (by decide), en 8 _ (by decide) (by decide), en 9 _ (by decide) (by decide), en 10 _ (by decide) (by decide), z0]
    exact o4 t a b
  · rw [z5] at b
    rw [e11, e12, e13, z3, z4]
    by_cases c : t = Q 0 5
    · rw [if_pos c, if_pos c, if_pos c]
      exact ⟨s0, s3, v0, v1, t0, t9⟩
    · rw [if_neg c, if_neg c, if_neg c]
      exact o5 t a (by lia)
theorem laZC {h : Hp} {Q : Pl} {hs tr hr : Int32} (ok : POK Q) (c : CP h 3 Q) : CP (pI (pI (pI (pI h 14 (ix (Q 0 5)) hs) 15 (ix (Q 0 5)) tr) 16 (ix (Q 0 5)) hr) 3 5 (Q 0 5 + 1)) 3 (laQ Q hs tr hr) := by
  obtain ⟨e0, e11, e12, e13, en⟩ := laQ_e (Q := Q) (hs := hs) (tr := tr) (hr := hr)
  have o1 := ok.1
  have k0 : 0 ≤ Q 0 5 := by lia
  obtain ⟨p1, p2, p3, p4, p5⟩ := c
  simp only [Nat.reduceAdd] at p2 p3 p4 p5
  unfold CP
  simp only [Nat.reduceAdd]
  have z0 : laQ Q hs tr hr 0 0 = Q 0 0 := by rw [e0, if_neg (by decide)]
  have z1 : laQ Q hs tr hr 0 1 = Q 0 1 := by rw [e0, if_neg (by decide)]
  have z2 : laQ Q hs tr hr 0 2 = Q 0 2 := by rw [e0, if_neg (by decide)]
  have z3 : laQ Q hs tr hr 0 3 = Q 0 3 := by rw [e0, if_neg (by decide)]
  have z4 : laQ Q hs tr hr 0 4 = Q 0 4 := by rw [e0, if_neg (by decide)]
  have z5 : laQ Q hs tr hr 0 5 = Q 0 5 + 1 := by rw [e0, if_pos rfl]
  refine ⟨?_, fun t a b => ?_, fun t a b => ?_, fun t a b => ?_, fun t a b => ?_⟩
  · rw [z0, z1, z2, z3, z4, z5]
    simp only [pI_t, pI_n (show ¬ 3 = 14 by decide), pI_n (show ¬ 3 = 15 by decide), pI_n (show ¬ 3 = 16 by decide)]
    exact ⟨p1.1, p1.2.1, p1.2.2.1, p1.2.2.2.1, p1.2.2.2.2.1, rfl⟩
  · rw [z3] at b
    rw [en 1 _ (by decide) (by decide), en 2 _ (by decide) (by decide), en 3 _ (by decide) (by decide), en 4 _ (by decide) (by decide)]
    simp only [pI_ixa k0 a, pI_n (show ¬ 4 = 3 by decide), pI_n (show ¬ 5 = 3 by decide), pI_n (show ¬ 6 = 3 by decide), pI_n (show ¬ 7 = 3 by decide), Nat.reduceEqDiff, false_and, true_and, if_false]
    exact p2 t a b
  · rw [en 5 _ (by decide) (by decide)]
    simp only [pI_ixa k0 a, pI_n (show ¬ 8 = 3 by decide), Nat.reduceEqDiff, false_and, true_and, if_false]
    exact p3 t a b
  · rw [z4] at b
    rw [en 6 _ (by decide) (by decide), en 7 _ (by decide) (by decide), en 8 _ (by decide) (by decide), en 9 _ (by decide) (by decide), en 10 _ (by decide) (by decide)]
    simp only [pI_ixa k0 a, pI_n (show ¬ 9 = 3 by decide), pI_n (show ¬ 10 = 3 by decide), pI_n (show ¬ 11 = 3 by decide), pI_n (show ¬ 12 = 3 by decide), pI_n (show ¬ 13 = 3 by decide), Nat.reduceEqDiff, false_and, true_and, if_false]
    exact p4 t a b
  · rw [z5] at b
    rw [e11, e12, e13]
    simp only [pI_ixa k0 a, pI_n (show ¬ 14 = 3 by decide), pI_n (show ¬ 15 = 3 by decide), pI_n (show ¬ 16 = 3 by decide), Nat.reduceEqDiff, false_and, true_and, if_false]
    by_cases c : t = Q 0 5
    · simp only [if_pos c, and_self]
    · simp only [if_neg c]
      exact p5 t a (by lia)
theorem laZR {h : Hp} {Q : Pl} {hs tr hr : Int32} (ok : POK Q) (r : RQ h Q) : RQ (pI (pI (pI (pI h 14 (ix (12 + Q 0 5)) hs) 15 (ix (12 + Q 0 5)) tr) 16 (ix (12 + Q 0 5)) hr) 0 19 (Q 0 5 + 1)) (laQ Q hs tr hr) := by
  obtain ⟨e0, e11, e12, e13, en⟩ := laQ_e (Q := Q) (hs := hs) (tr := tr) (hr := hr)
  have o1 := ok.1
  have x0 : 0 ≤ 12 + Q 0 5 := by lia
  obtain ⟨p1, p2, p3, p4⟩ := r
  have z0 : laQ Q hs tr hr 0 0 = Q 0 0 := by rw [e0, if_neg (by decide)]
  have z1 : laQ Q hs tr hr 0 1 = Q 0 1 := by rw [e0, if_neg (by decide)]
  have z2 : laQ Q hs tr hr 0 2 = Q 0 2 := by rw [e0, if_neg (by decide)]
  have z3 : laQ Q hs tr hr 0 3 = Q 0 3 := by rw [e0, if_neg (by decide)]
  have z4 : laQ Q hs tr hr 0 4 = Q 0 4 := by rw [e0, if_neg (by decide)]
  have z5 : laQ Q hs tr hr 0 5 = Q 0 5 + 1 := by rw [e0, if_pos rfl]
  refine ⟨?_, fun t a b => ?_, fun t a b => ?_, fun t a b => ?_⟩
  · rw [z0, z1, z2, z3, z4, z5]
    simp only [pI_t, pI_n (show ¬ 4 = 0 by decide), pI_n (show ¬ 4 = 14 by decide), pI_n (show ¬ 0 = 14 by decide), pI_n (show ¬ 4 = 15 by decide), pI_n (show ¬ 0 = 15 by decide), pI_n (show ¬ 4 = 16 by decide), pI_n (show ¬ 0 = 16 by decide)]
    exact ⟨p1.1, p1.2.1, rfl, p1.2.2.2.1, p1.2.2.2.2.1, p1.2.2.2.2.2⟩
  · rw [z3] at b
    have y0 : 0 ≤ 6 + t := by lia
    rw [en 1 _ (by decide) (by decide), en 2 _ (by decide) (by decide), en 3 _ (by decide) (by decide), en 4 _ (by decide) (by decide)]
    simp only [pI_ixa x0 y0, pI_n (show ¬ 5 = 0 by decide), pI_n (show ¬ 6 = 0 by decide), pI_n (show ¬ 7 = 0 by decide), pI_n (show ¬ 8 = 0 by decide), Nat.reduceEqDiff, false_and, true_and, if_false]
    exact p2 t a b
  · rw [z4] at b
    have y0 : 0 ≤ 6 + t := by lia
    rw [en 6 _ (by decide) (by decide), en 7 _ (by decide) (by decide), en 8 _ (by decide) (by decide), en 9 _ (by decide) (by decide), en 10 _ (by decide) (by decide)]
    simp only [pI_ixa x0 y0, pI_n (show ¬ 9 = 0 by decide), pI_n (show ¬ 10 = 0 by decide), pI_n (show ¬ 11 = 0 by decide), pI_n (show ¬ 12 = 0 by decide), pI_n (show ¬ 13 = 0 by decide), Nat.reduceEqDiff, false_and, true_and, if_false]
    exact p3 t a b
  · rw [z5] at b
    have y0 : 0 ≤ 12 + t := by lia
    rw [e11, e12, e13]
    simp only [pI_ixa x0 y0, pI_n (show ¬ 14 = 0 by decide), pI_n (show ¬ 15 = 0 by decide), pI_n (show ¬ 16 = 0 by decide), Nat.reduceEqDiff, false_and, true_and, if_false]
    by_cases c : t = Q 0 5
    · have c2 : 12 + t = 12 + Q 0 5 := by rw [c]
      simp only [if_pos c, if_pos c2, and_self]
    · have c2 : ¬ 12 + t = 12 + Q 0 5 := by lia
      simp only [if_neg c, if_neg c2]
      exact p4 t a (by lia)
theorem holine {b b' h h' : Hp} {n a j : Int32} {T : Int32 → Int32} {Q : Pl} {L : Lw} {sz : Nat} {fr fs : Int32} (x : PS b b' h h' n T Q L sz fr fs a j) : LR b b' n T j (f_Tr_readHorse TC h 2) (f_Md_horseLine TR h' 0) := by
  obtain ⟨f, f', ok, cp, rq, pw, pl, s⟩ := x
  have o1 := ok.1
  have k0 : 0 ≤ Q 0 4 := by lia
  have e10 : h'.1 0 10 = a := s.2.2.2.2.1
  have e34 : h.1 3 4 = Q 0 4 := cp.1.2.2.2.2.1
  have e18 : h'.1 0 18 = Q 0 4 := rq.1.2.1
  unfold f_Tr_readHorse f_Md_horseLine
  simp only [nmd_q, lyC, lyR, faC, faR0 e10, cz0, bnd_q]
  rw [e34, e18]
  by_cases k6 : Q 0 4 < 6
  case neg =>
    rw [if_neg k6, if_pos (show Q 0 4 = 6 by lia)]
    exact .inl ⟨_, _, rfl, rfl, Fld.of f f' s⟩
  rw [if_pos k6, if_neg (show ¬ Q 0 4 = 6 by lia)]
  obtain ⟨t1, t1', a1, j1, w1, w2, w3, w4, w5, w6⟩ := s.st
  have f1 := f.tr w3.P
  have f1' := f'.tr w4.p.Q
  have c1 : CP t1 3 Q := cp.m3 (fun c s _ _ => w3.2 c s (by omega))
  have r1 : RQ t1' Q := rq.mv (fun c s _ => w4.2 c s (by omega))
  rw [w1, w2, bnd_q, bnd_q, r1.1.2.1]
  have i6 := ix_lt (n := 6) k0 (by decide) k6
  have x6 := ix_6 k0 k6
  rcases w5.nnm f1 f1' k0 k6 alr.2.1 alr.2.2.2.1 ⟨by unfold TXc; omega, by decide, by decide⟩ ⟨by unfold TXr; rw [x6]; omega, by decide⟩ (F := fun t => Q 6 t) (fun t a b => (c1.2.2.2.1 t a b).1) (fun t a b => (r1.2.2.1 t a b).1) with ⟨g, g', q1, q2, q3⟩ | ⟨nm, t2, t2', a2, j2, q1, q0, q2, q3, q4, q5, q6, q7⟩
  · rw [q1, q2, bnd_q, bnd_q, if_pos (rfl : (0 : Int32) = 0), if_pos (rfl : (0 : Int32) = 0)]
    exact .inl ⟨g, g', rfl, rfl, q3⟩
  rw [q1, q3, bnd_q, bnd_q, if_neg (show ¬ (1 : Int32) = 0 by decide), if_neg (show ¬ (1 : Int32) = 0 by decide), q0]
  simp (disch := first | exact k0 | assumption | decide | omega) only [wtC, bnd_q]
  rw [q2, bnd_q]
  have FC2 : FSc (pI h 9 (ix (Q 0 4)) nm) t2 := w3.pc.tr q4
  have FR2 : FTp (pI h' 9 (ix (6 + Q 0 4)) nm) t2' := w4.p.pc.tr q5.p
  have f2 : FrP b t2 := (f1.wr (by unfold TXc; omega)).tr q4.P
  have f2' : FrQ b' t2' := (f1'.wr (by unfold TXr; rw [x6]; omega)).tr q5.p.Q
  have n2' : t2'.1 0 18 = Q 0 4 := by rw [FR2.2 0 18 (by omega), pI_n (by decide)]; exact e18
  have j60 : 0 ≤ 6 + Q 0 4 := by lia
  have j12 : 6 + Q 0 4 < 12 := by lia
  rw [n2']
  unfold jb_Tr_readHorse_95 jb_Tr_readHorse_112 jb_Tr_readHorse_131
  simp only [lyC]
  rcases q6.num f2 f2' (l := 0) (u := 3) (by decide) (by decide) with ⟨g, g', y1, y2, y3⟩ | ⟨sd, t3, t3', a3, j3, y1, y2, y3, y4, y5, y6, y7, y8, y9⟩
  · rw [y1, y2, bnd_q, bnd_q, if_pos (rfl : (-1 : Int32) = -1), if_pos trivial, if_pos trivial, if_pos trivial, if_pos (rfl : (0 : Int32) = 0)]
    exact .inl ⟨g, g', rfl, rfl, y3⟩
  rw [y1, y2, bnd_q, bnd_q, if_neg (show ¬ sd = -1 by lia), if_neg (show ¬ (1 : Int32) = 0 by decide), y7]
  simp (disch := first | assumption | decide | omega) only [wtR, bnd_q]
  have s3 : Scn t3 (pI t3' 10 (ix (6 + Q 0 4)) sd) n T a3 j3 := y8.mv (fun _ _ _ => rfl) (fun c s _ => by rw [pI_n (by omega)])
  have f3 : FrP b t3 := f2.tr y5.P
  have f3' : FrQ b' (pI t3' 10 (ix (6 + Q 0 4)) sd) := (f2'.tr y6.Q).wr (by unfold TXr; omega)
  have FC3 := FC2.tr y5
  have FR3 := (FR2.tr y6).pc (c := 10) (s := ix (6 + Q 0 4)) (v := sd)
  have l3 : t3.1 3 0 = Q 0 0 := by rw [FC3.2 3 0 (by omega), pI_n (by decide)]; exact cp.1.1
  have l3' : (pI t3' 10 (ix (6 + Q 0 4)) sd).1 0 20 = Q 0 0 := by rw [FR3.2 0 20 (by omega), pI_n (by decide), pI_n (by decide)]; exact rq.1.2.2.2.1
  rw [l3, l3']
  rcases s3.num f3 f3' (l := 0) (u := Q 0 0) (by decide) (by lia) with ⟨g, g', z1, z2, z3⟩ | ⟨p, t4, t4', a4, j4, z1, z2, z3, z4, z5, z6, z7, z8, z9⟩
  · rw [z1, z2, bnd_q, bnd_q, if_pos (rfl : (-1 : Int32) = -1), if_pos trivial, if_pos trivial, if_pos (rfl : (0 : Int32) = 0)]
    exact .inl ⟨g, g', rfl, rfl, z3⟩
  rw [z1, z2, bnd_q, bnd_q, if_neg (show ¬ p = -1 by lia), if_neg (show ¬ (1 : Int32) = 0 by decide), z7]
  simp (disch := first | assumption | decide | omega) only [wtR, bnd_q]
  have s4 : Scn t4 (pI t4' 11 (ix (6 + Q 0 4)) p) n T a4 j4 := z8.mv (fun _ _ _ => rfl) (fun c s _ => by rw [pI_n (by omega)])
  have f4 : FrP b t4 := f3.tr z5.P
  have f4' : FrQ b' (pI t4' 11 (ix (6 + Q 0 4)) p) := (f3'.tr z6.Q).wr (by unfold TXr; omega)
  have FC4 := FC3.tr z5
  have FR4 := (FR3.tr z6).pc (c := 11) (s := ix (6 + Q 0 4)) (v := p)
  rcases s4.num f4 f4' (l := 0) (u := 99) (by decide) (by decide) with ⟨g, g', v1, v2, v3⟩ | ⟨th, t5, t5', a5, j5, v1, v2, v3, v4, v5, v6, v7, v8, v9⟩
  · rw [v1, v2, bnd_q, bnd_q, if_pos (rfl : (-1 : Int32) = -1), if_pos trivial, if_pos (rfl : (0 : Int32) = 0)]
    exact .inl ⟨g, g', rfl, rfl, v3⟩
  rw [v1, v2, bnd_q, bnd_q, if_neg (show ¬ th = -1 by lia), if_neg (show ¬ (1 : Int32) = 0 by decide), v7]
  simp (disch := first | assumption | decide | omega) only [wtR, bnd_q]
  have s5 : Scn t5 (pI t5' 12 (ix (6 + Q 0 4)) th) n T a5 j5 := v8.mv (fun _ _ _ => rfl) (fun c s _ => by rw [pI_n (by omega)])
  have f5 : FrP b t5 := f4.tr v5.P
  have f5' : FrQ b' (pI t5' 12 (ix (6 + Q 0 4)) th) := (f4'.tr v6.Q).wr (by unfold TXr; omega)
  have FC5 := FC4.tr v5
  have FR5 := (FR4.tr v6).pc (c := 12) (s := ix (6 + Q 0 4)) (v := th)
  rcases s5.num f5 f5' (l := 1) (u := 9) (by decide) (by decide) with ⟨g, g', u1, u2, u3⟩ | ⟨pc, t6, t6', a6, j6, u1, u2, u3, u4, u5, u6, u7, u8, u9⟩
  · rw [u1, u2, bnd_q, bnd_q, if_pos (rfl : (-1 : Int32) = -1), if_pos (rfl : (0 : Int32) = 0)]
    exact .inl ⟨g, g', rfl, rfl, u3⟩
  have FC6 := FC5.tr u5
  have FR6 := FR5.tr u6
  have n6 : t6.1 3 4 = Q 0 4 := by rw [FC6.2 3 4 (by omega), pI_n (by decide)]; exact e34
  have n6' : t6'.1 0 18 = Q 0 4 := by rw [FR6.2 0 18 (by omega), pI_n (by decide), pI_n (by decide), pI_n (by decide), pI_n (by decide)]; exact e18
  rw [u1, u2, bnd_q, bnd_q, if_neg (show ¬ pc = -1 by lia), if_neg (show ¬ (1 : Int32) = 0 by decide), u7]
  simp (disch := first | exact k0 | exact k6 | assumption | decide | omega) only [wtC, wtR, bnd_q, nmd_q, pI_n, n6, n6']
  have ZC := ((((FC6.pc (c := 10) (s := ix (Q 0 4)) (v := sd)).pc (c := 11) (s := ix (Q 0 4)) (v := p)).pc (c := 12) (s := ix (Q 0 4)) (v := th)).pc (c := 13) (s := ix (Q 0 4)) (v := pc)).pc (c := 3) (s := 4) (v := Q 0 4 + 1)
  have ZR := (FR6.pc (c := 13) (s := ix (6 + Q 0 4)) (v := pc)).pc (c := 0) (s := 18) (v := Q 0 4 + 1)
  have jj : j ≤ a6 := by
    have b1 := w5.2.2.2.2.2.2.1
    have b2 := q6.2.2.2.2.2.2.1
    have b3 := y8.2.2.2.2.2.2.1
    have b4 := z8.2.2.2.2.2.2.1
    have b5 := v8.2.2.2.2.2.2.1
    lia
  refine .inr ⟨_, _, hoQ Q nm sd p th pc, L, sz, fr, fs, a6, j6, rfl, rfl, ⟨?_, ?_, hoP ok k6 y3 y4 z3 z4 v3 v4 u3 u4, ?_, ?_, ?_, ?_, ?_⟩, jj⟩
  · exact (((((f5.tr u5.P).wr (by unfold TXc; omega)).wr (by unfold TXc; omega)).wr (by unfold TXc; omega)).wr (by unfold TXc; omega)).wr (by unfold TXc; omega)
  · exact ((f5'.tr u6.Q).wr (by unfold TXr; omega)).wr (by unfold TXr; omega)
  · exact (hoZC ok cp).m3 (fun c s _ _ => ZC.2 c s (by omega))
  · exact (hoZR ok rq).mv (fun c s _ => ZR.2 c s (by omega))
  · unfold PW at pw ⊢
    rw [ZC.2 2 5 (by omega), ZC.2 2 6 (by omega), ZR.2 3 0 (by omega), ZR.2 3 1 (by omega)]
    simp only [pI_n (show ¬ 2 = 3 by decide), pI_n (show ¬ 2 = 9 by decide), pI_n (show ¬ 2 = 10 by decide), pI_n (show ¬ 2 = 11 by decide), pI_n (show ¬ 2 = 12 by decide), pI_n (show ¬ 2 = 13 by decide), pI_n (show ¬ 2 = 14 by decide), pI_n (show ¬ 2 = 15 by decide), pI_n (show ¬ 2 = 16 by decide), pI_n (show ¬ 3 = 0 by decide), pI_n (show ¬ 3 = 9 by decide), pI_n (show ¬ 3 = 10 by decide), pI_n (show ¬ 3 = 11 by decide), pI_n (show ¬ 3 = 12 by decide), pI_n (show ¬ 3 = 13 by decide), pI_n (show ¬ 3 = 14 by decide), pI_n (show ¬ 3 = 15 by decide), pI_n (show ¬ 3 = 16 by decide)]
    exact pw
  · exact pl.mv (fun c s _ _ => by rw [ZC.2 c s (by omega), pI_n (by omega), pI_n (by omega), pI_n (by omega), pI_n (by omega), pI_n (by omega), pI_n (by omega)]) (fun c s _ => by rw [ZR.2 c s (by omega), pI_x (by omega), pI_n (by omega), pI_n (by omega), pI_n (by omega), pI_n (by omega), pI_n (by omega)])
  · exact u8.mv (fun c s _ => by rw [pI_n (by omega), pI_n (by omega), pI_n (by omega), pI_n (by omega), pI_n (by omega)]) (fun c s _ => by rw [pI_x (by omega), pI_n (by omega)])
theorem ix_12 {i : Int32} (h0 : 0 ≤ i) (h1 : i < 12) : ix (12 + i) = 12 + ix i := by
  have a := ix_int h0
  have l := ix_lt (n := 12) h0 (by decide) h1
  rw [← nI_ix h0, show (12 : Int32) = nI 12 from rfl, nI_add, ix_nI (by omega), ix_nI (by omega)]
theorem laline {b b' h h' : Hp} {n a j : Int32} {T : Int32 → Int32} {Q : Pl} {L : Lw} {sz : Nat} {fr fs : Int32} (x : PS b b' h h' n T Q L sz fr fs a j) : LR b b' n T j (f_Tr_readLap TC h 2) (f_Md_lapLine TR h' 0) := by
  obtain ⟨f, f', ok, cp, rq, pw, pl, s⟩ := x
  have o1 := ok.1
  have k0 : 0 ≤ Q 0 5 := by lia
  have e10 : h'.1 0 10 = a := s.2.2.2.2.1
  have e35 : h.1 3 5 = Q 0 5 := cp.1.2.2.2.2.2
  have e19 : h'.1 0 19 = Q 0 5 := rq.1.2.2.1
  unfold f_Tr_readLap f_Md_lapLine
  simp only [nmd_q, lyC, lyR, faC, faR0 e10, cz0, bnd_q]
  rw [e35, e19]
  by_cases k6 : Q 0 5 < 12
  case neg =>
    rw [if_neg k6, if_pos (show Q 0 5 = 12 by lia)]
    exact .inl ⟨_, _, rfl, rfl, Fld.of f f' s⟩
  rw [if_pos k6, if_neg (show ¬ Q 0 5 = 12 by lia)]
  obtain ⟨t1, t1', a1, j1, w1, w2, w3, w4, w5, w6⟩ := s.st
  have f1 := f.tr w3.P
  have f1' := f'.tr w4.p.Q
  have c1 : CP t1 3 Q := cp.m3 (fun c s _ _ => w3.2 c s (by omega))
  have r1 : RQ t1' Q := rq.mv (fun c s _ => w4.2 c s (by omega))
  have i12 := ix_lt (n := 12) k0 (by decide) k6
  have x12 := ix_12 k0 k6
  have j120 : 0 ≤ 12 + Q 0 5 := by lia
  have j24 : 12 + Q 0 5 < 24 := by lia
  rw [w1, w2, bnd_q, bnd_q, r1.1.2.2.1, r1.1.2.1, c1.1.2.2.2.2.1]
  unfold jb_Tr_readLap_73 jb_Tr_readLap_90
  simp only [lyC]
  rcases w5.thr f1 f1' o1.2.2.1 o1.2.2.2.1 alr.2.1 alr.2.2.2.1 (F := fun t => Q 6 t) (fun t a b => (c1.2.2.2.1 t a b).1) (fun t a b => (r1.2.2.1 t a b).1) with ⟨g, g', y1, y2, y3⟩ | ⟨hs, t3, t3', a3, j3, y1, y2, y3, y4, y5, y6, y7, y8, y9⟩
  · rw [y1, y2, bnd_q, bnd_q, if_pos (rfl : (-1 : Int32) = -1), if_pos trivial, if_pos trivial, if_pos (rfl : (0 : Int32) = 0)]
    exact .inl ⟨g, g', rfl, rfl, y3⟩
  rw [y1, y2, bnd_q, bnd_q, if_neg (show ¬ hs = -1 by lia), if_neg (show ¬ (1 : Int32) = 0 by decide), y7]
  simp (disch := first | assumption | decide | omega) only [wtR, bnd_q]
  have s3 : Scn t3 (pI t3' 14 (ix (12 + Q 0 5)) hs) n T a3 j3 := y8.mv (fun _ _ _ => rfl) (fun c s _ => by rw [pI_n (by omega)])
  have f3 : FrP b t3 := f1.tr y5.P
  have f3' : FrQ b' (pI t3' 14 (ix (12 + Q 0 5)) hs) := (f1'.tr y6.Q).wr (by unfold TXr; omega)
  have FC3 : FSc h t3 := w3.tr y5
  have FR3 := (w4.p.tr y6).pc (c := 14) (s := ix (12 + Q 0 5)) (v := hs)
  have c3 : CP t3 3 Q := cp.m3 (fun c s _ _ => FC3.2 c s (by omega))
  have n3 : t3.1 3 3 = Q 0 3 := c3.1.2.2.2.1
  have n3' : (pI t3' 14 (ix (12 + Q 0 5)) hs).1 0 17 = Q 0 3 := by rw [FR3.2 0 17 (by omega), pI_n (by decide)]; exact rq.1.1
  rw [n3, n3']
  rcases s3.thr f3 f3' o1.1 o1.2.1 alr.1 alr.2.2.1 (F := fun t => Q 1 t) (fun t a b => (c3.2.1 t a b).1) (fun t a b => by rw [FR3.2 5 _ (by omega), pI_n (by decide)]; exact (rq.2.1 t a b).1) with ⟨g, g', z1, z2, z3⟩ | ⟨tr, t4, t4', a4, j4, z1, z2, z3, z4, z5, z6, z7, z8, z9⟩
  · rw [z1, z2, bnd_q, bnd_q, if_pos (rfl : (-1 : Int32) = -1), if_pos trivial, if_pos (rfl : (0 : Int32) = 0)]
    exact .inl ⟨g, g', rfl, rfl, z3⟩
  rw [z1, z2, bnd_q, bnd_q, if_neg (show ¬ tr = -1 by lia), if_neg (show ¬ (1 : Int32) = 0 by decide), z7]
  simp (disch := first | assumption | decide | omega) only [wtR, bnd_q]
  have s4 : Scn t4 (pI t4' 15 (ix (12 + Q 0 5)) tr) n T a4 j4 := z8.mv (fun _ _ _ => rfl) (fun c s _ => by rw [pI_n (by omega)])
  have f4 : FrP b t4 := f3.tr z5.P
  have f4' : FrQ b' (pI t4' 15 (ix (12 + Q 0 5)) tr) := (f3'.tr z6.Q).wr (by unfold TXr; omega)
  have FC4 := FC3.tr z5
  have FR4 := (FR3.tr z6).pc (c := 15) (s := ix (12 + Q 0 5)) (v := tr)
  rcases s4.num f4 f4' (l := 0) (u := 99) (by decide) (by decide) with ⟨g, g', v1, v2, v3⟩ | ⟨hr, t5, t5', a5, j5, v1, v2, v3, v4, v5, v6, v7, v8, v9⟩
  · rw [v1, v2, bnd_q, bnd_q, if_pos (rfl : (-1 : Int32) = -1), if_pos (rfl : (0 : Int32) = 0)]
    exact .inl ⟨g, g', rfl, rfl, v3⟩
  have FC5 := FC4.tr v5
  have FR5 := FR4.tr v6
  have n5 : t5.1 3 5 = Q 0 5 := by rw [FC5.2 3 5 (by omega)]; exact e35
  have n5' : t5'.1 0 19 = Q 0 5 := by rw [FR5.2 0 19 (by omega), pI_n (by decide), pI_n (by decide)]; exact e19
  rw [v1, v2, bnd_q, bnd_q, if_neg (show ¬ hr = -1 by lia), if_neg (show ¬ (1 : Int32) = 0 by decide), v7]
  simp (disch := first | exact k0 | exact k6 | assumption | decide | omega) only [wtC, wtR, bnd_q, nmd_q, pI_n, n5, n5']
  have ZC := (((FC5.pc (c := 14) (s := ix (Q 0 5)) (v := hs)).pc (c := 15) (s := ix (Q 0 5)) (v := tr)).pc (c := 16) (s := ix (Q 0 5)) (v := hr)).pc (c := 3) (s := 5) (v := Q 0 5 + 1)
  have ZR := (FR5.pc (c := 16) (s := ix (12 + Q 0 5)) (v := hr)).pc (c := 0) (s := 19) (v := Q 0 5 + 1)
  have jj : j ≤ a5 := by
    have b1 := w5.2.2.2.2.2.2.1
    have b3 := y8.2.2.2.2.2.2.1
    have b4 := z8.2.2.2.2.2.2.1
    lia
  refine .inr ⟨_, _, laQ Q hs tr hr, L, sz, fr, fs, a5, j5, rfl, rfl, ⟨?_, ?_, laP ok k6 y3 y4 z3 z4 v3 v4, ?_, ?_, ?_, ?_, ?_⟩, jj⟩
  · exact ((((f4.tr v5.P).wr (by unfold TXc; omega)).wr (by unfold TXc; omega)).wr (by unfold TXc; omega)).wr (by unfold TXc; omega)
  · exact ((f4'.tr v6.Q).wr (by unfold TXr; omega)).wr (by unfold TXr; omega)
  · exact (laZC ok cp).m3 (fun c s _ _ => ZC.2 c s (by omega))
  · exact (laZR ok rq).mv (fun c s _ => ZR.2 c s (by omega))
  · unfold PW at pw ⊢
    rw [ZC.2 2 5 (by omega), ZC.2 2 6 (by omega), ZR.2 3 0 (by omega), ZR.2 3 1 (by omega)]
    simp only [pI_n (show ¬ 2 = 3 by decide), pI_n (show ¬ 2 = 9 by decide), pI_n (show ¬ 2 = 10 by decide), pI_n (show ¬ 2 = 11 by decide), pI_n (show ¬ 2 = 12 by decide), pI_n (show ¬ 2 = 13 by decide), pI_n (show ¬ 2 = 14 by decide), pI_n (show ¬ 2 = 15 by decide), pI_n (show ¬ 2 = 16 by decide), pI_n (show ¬ 3 = 0 by decide), pI_n (show ¬ 3 = 9 by decide), pI_n (show ¬ 3 = 10 by decide), pI_n (show ¬ 3 = 11 by decide), pI_n (show ¬ 3 = 12 by decide), pI_n (show ¬ 3 = 13 by decide), pI_n (show ¬ 3 = 14 by decide), pI_n (show ¬ 3 = 15 by decide), pI_n (show ¬ 3 = 16 by decide)]
    exact pw
  · exact pl.mv (fun c s _ _ => by rw [ZC.2 c s (by omega), pI_n (by omega), pI_n (by omega), pI_n (by omega), pI_n (by omega)]) (fun c s _ => by rw [ZR.2 c s (by omega), pI_x (by omega), pI_n (by omega), pI_n (by omega), pI_n (by omega)])
  · exact v8.mv (fun c s _ => by rw [pI_n (by omega), pI_n (by omega), pI_n (by omega), pI_n (by omega)]) (fun c s _ => by rw [pI_x (by omega), pI_n (by omega)])
