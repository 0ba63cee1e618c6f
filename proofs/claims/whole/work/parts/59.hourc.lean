/-! the class lets an hour go by -/
theorem ws0 {w : Nat} : WS w w := .inr (.inr ⟨Nat.le_refl _, Nat.le_add_right _ _⟩)
theorem wsr {w : Nat} (r : Nat) (h : r ≤ 6) : WS w (w + r) := .inr (.inr ⟨Nat.le_add_right _ _, Nat.add_le_add_left h _⟩)
theorem CH.wr {h : Hp} {P : Pl} {L : Lw} {M : Mo} {w : Nat} {A : Aw} {i y : Int32} (r : Nat) (h1 : 1 ≤ r) (h5 : r ≤ 5) (hw : WC w) (h0 : 0 ≤ i) (x : CH h P L M w A) : CH (pI h (w + r) (ix i) y) P L M w (up A r i y) := x.chU hw (Fr.pI (wsr r (by omega))) (x.2.2.2.wr r h1 h5 h0)
theorem CH.ww {h : Hp} {P : Pl} {L : Lw} {M : Mo} {w : Nat} {A : Aw} {i y : Int32} (hw : WC w) (h0 : 0 ≤ i) (x : CH h P L M w A) : CH (pI h (w + 6) (ix i) y) P L M w (up A 6 i y) := x.chU hw (Fr.pI (wsr 6 (by omega))) (x.2.2.2.ww h0)
theorem CH.s0 {h : Hp} {P : Pl} {L : Lw} {M : Mo} {w : Nat} {A : Aw} {y : Int32} (hw : WC w) (x : CH h P L M w A) : CH (pI h w 0 y) P L M w (up A 0 0 y) := x.chU hw (Fr.pI ws0) x.2.2.2.s0
theorem CH.s2 {h : Hp} {P : Pl} {L : Lw} {M : Mo} {w : Nat} {A : Aw} {y : Int32} (hw : WC w) (x : CH h P L M w A) : CH (pI h w 2 y) P L M w (up A 0 2 y) := x.chU hw (Fr.pI ws0) x.2.2.2.s2
theorem CH.s3 {h : Hp} {P : Pl} {L : Lw} {M : Mo} {w : Nat} {A : Aw} {y : Int32} (hw : WC w) (x : CH h P L M w A) : CH (pI h w 3 y) P L M w (up A 0 3 y) := x.chU hw (Fr.pI ws0) x.2.2.2.s3
theorem CH.s4 {h : Hp} {P : Pl} {L : Lw} {M : Mo} {w : Nat} {A : Aw} {y : Int32} (hw : WC w) (x : CH h P L M w A) : CH (pI h w 4 y) P L M w (up A 0 4 y) := x.chU hw (Fr.pI ws0) x.2.2.2.s4
theorem CH.s5 {h : Hp} {P : Pl} {L : Lw} {M : Mo} {w : Nat} {A : Aw} {y : Int32} (hw : WC w) (x : CH h P L M w A) : CH (pI h w 5 y) P L M w (up A 0 5 y) := x.chU hw (Fr.pI ws0) x.2.2.2.s5
theorem CH.s6 {h : Hp} {P : Pl} {L : Lw} {M : Mo} {w : Nat} {A : Aw} {y : Int32} (hw : WC w) (x : CH h P L M w A) : CH (pI h w 6 y) P L M w (up A 0 6 y) := x.chU hw (Fr.pI ws0) x.2.2.2.s6
theorem CH.s7 {h : Hp} {P : Pl} {L : Lw} {M : Mo} {w : Nat} {A : Aw} {y : Int32} (hw : WC w) (x : CH h P L M w A) : CH (pI h w 7 y) P L M w (up A 0 7 y) := x.chU hw (Fr.pI ws0) x.2.2.2.s7
theorem CH.s8 {h : Hp} {P : Pl} {L : Lw} {M : Mo} {w : Nat} {A : Aw} {y : Int32} (hw : WC w) (x : CH h P L M w A) : CH (pI h w 8 y) P L M w (up A 0 8 y) := x.chU hw (Fr.pI ws0) x.2.2.2.s8
theorem CH.sn {h : Hp} {P : Pl} {L : Lw} {M : Mo} {w : Nat} {A : Aw} {y : Int64} (hw : WC w) (x : CH h P L M w A) : CH (pL h w 1 y) P L M w (A.1, y) := x.chU hw (Fr.pL ws0) x.2.2.2.n
/-- laps -/
theorem lapC {h : Hp} {P : Pl} {L : Lw} {M : Mo} {w : Nat} {A : Aw} {n : Nat} {i : Int32} (hw : WC w) (ok : POK P) (x : CH h P L M w A) (h0 : 0 ≤ i) (h1 : i < P 0 5) : ∃ h', lp_Ho_startLaps_2 TC (n + 1) h 72 w i = lp_Ho_startLaps_2 TC n h' 72 w (i + 1) ∧ CH h' P L M w (lap1 P i A) ∧ Fr (WS w) h h' := by
  have g := x.g
  obtain ⟨l1, l2, l3, l4, l5, l6⟩ := hw.ly
  obtain ⟨r1, r2, r3, r4, r5, r6⟩ := hw.rd
  obtain ⟨t1, t2, t3, t4, t5, t6⟩ := hw.wt
  have o1 := ok.1
  have o5 := ok.2.2.2.2 i h0 h1
  have i12 : i < 12 := by lia
  have i6 : P 11 i < 6 := by lia
  rw [lp_Ho_startLaps_2]
  simp (disch := first | assumption | decide | omega) only [lyC, l1, l2, l3, l4, l5, l6, r1, r2, r3, r4, r5, r6, t1, t2, t3, t4, t5, t6, rdC, wtC, bnd_q, nmd_q, pI_n, g]
  rw [if_neg (show ¬ P 0 5 ≤ i by lia)]
  unfold lap1 jb_Ho_startLaps_52
  by_cases q : P 13 i = A.1 0 0
  · rw [if_pos q, if_pos q, t4 _ _ _ o5.1 i6, bnd_q, nmd_q]
    exact ⟨_, rfl, x.wr 4 (by decide) (by decide) hw o5.1, Fr.pI (wsr 4 (by decide))⟩
  · rw [if_neg q, if_neg q, nmd_q]
    exact ⟨h, rfl, x, Fr.rf⟩
theorem wk2C {h : Hp} {P : Pl} {L : Lw} {M : Mo} {w : Nat} {A : Aw} {n : Nat} {i : Int32} (hw : WC w) (ok : POK P) (lk : LOK L) (wo : WOK P A) (x : CH h P L M w A) (h0 : 0 ≤ i) (h1 : i < P 0 4) : ∃ h', jb_Ho_walk_95 TC (lp_Ho_walk_2 TC n) h 72 w i = lp_Ho_walk_2 TC n h' 72 w (i + 1) ∧ CH h' P L M w (wk2 P L M i A) ∧ Fr (WS w) h h' := by
  have g := x.g
  obtain ⟨l1, l2, l3, l4, l5, l6⟩ := hw.ly
  obtain ⟨r1, r2, r3, r4, r5, r6⟩ := hw.rd
  obtain ⟨t1, t2, t3, t4, t5, t6⟩ := hw.wt
  have o1 := ok.1
  have hi6 : i < 6 := by lia
  obtain ⟨h1', e1, f1⟩ := amC (q := 0) 1 hw ok lk wo x h0 h1 (by decide)
  have e1' : f_Ho_amount TC h 72 w 0 i 1 = some (amt L (nmL P M.2.2 A i) 0 1, h1') := e1
  have x1 := x.mv hw f1
  unfold jb_Ho_walk_95 jb_Ho_walk_112 wk2
  simp (disch := first | assumption | decide | omega) only [lyC, l1, l2, l3, l4, l5, l6, r1, r2, r3, r4, r5, r6, t1, t2, t3, t4, t5, t6, rdC, wtC, bnd_q, nmd_q, pI_n, g]
  rw [e1', bnd_q]
  simp only [t2 _ _ _ h0 hi6, bnd_q, nmd_q]
  exact ⟨_, rfl, x1.wr 2 (by decide) (by decide) hw h0, fr_w (f1.mono fun c => WS.of) (wsr 2 (by decide))⟩
theorem wkC {h : Hp} {P : Pl} {L : Lw} {M : Mo} {w : Nat} {A : Aw} {n : Nat} {i : Int32} (mo : MOK M) (hw : WC w) (ok : POK P) (lk : LOK L) (wo : WOK P A) (x : CH h P L M w A) (h0 : 0 ≤ i) (h1 : i < P 0 4) : ∃ h', lp_Ho_walk_2 TC (n + 1) h 72 w i = lp_Ho_walk_2 TC n h' 72 w (i + 1) ∧ CH h' P L M w (wk P L M i A) ∧ Fr (WS w) h h' := by
  have g := x.g
  obtain ⟨l1, l2, l3, l4, l5, l6⟩ := hw.ly
  obtain ⟨r1, r2, r3, r4, r5, r6⟩ := hw.rd
  obtain ⟨t1, t2, t3, t4, t5, t6⟩ := hw.wt
  have o1 := ok.1
  have hi6 : i < 6 := by lia
  have ww := wk1_ok ok mo wo h0 h1
  rw [lp_Ho_walk_2]
  simp (disch := first | assumption | decide | omega) only [lyC, l1, l2, l3, l4, l5, l6, r1, r2, r3, r4, r5, r6, t1, t2, t3, t4, t5, t6, rdC, wtC, bnd_q, nmd_q, pI_n, g]
  rw [if_neg (show ¬ P 0 4 ≤ i by lia), onC x, htC x]
  unfold wk
  by_cases q : bt (A.1 0 2) i = 0
  · rw [if_pos q, if_pos q]
    unfold jb_Ho_walk_112
    simp only [nmd_q]
    exact ⟨h, rfl, x, Fr.rf⟩
  rw [if_neg q, if_neg q]
  unfold wk1 at ww ⊢
  by_cases q2 : 0 ≤ A.1 4 i ∧ A.1 4 i < P 0 3
  · rw [if_pos q2] at ww
    rw [if_pos q2, if_pos q2, if_neg (by decide)]
    have q6 : A.1 4 i < 6 := by lia
    obtain ⟨q7, q8⟩ := q2
    simp (disch := first | assumption | decide | omega) only [lyC, l1, l2, l3, l4, l5, l6, r1, r2, r3, r4, r5, r6, t1, t2, t3, t4, t5, t6, rdC, wtC, bnd_q, nmd_q, pI_n, g]
    obtain ⟨h', e, y, f⟩ := wk2C (n := n) (L := L) hw ok lk ww (x.wr 1 (by decide) (by decide) hw h0) h0 h1
    exact ⟨h', e, y, (Fr.pI (wsr 1 (by decide))).tr f⟩
  · rw [if_neg q2] at ww
    rw [if_neg q2, if_neg q2, if_pos rfl]
    exact wk2C hw ok lk ww x h0 h1
theorem dk1C {h : Hp} {P : Pl} {L : Lw} {M : Mo} {w : Nat} {A : Aw} {i t G : Int32} (hw : WC w) (x : CH h P L M w A) (h0 : 0 ≤ i) (h1 : i < P 0 4) (t0 : 0 ≤ t) (t1 : t < P 0 3) : ∃ h', h' = pI (pI (pI (pI h (w + 2) (ix i) (A.1 2 i - G)) (w + 6) (ix t) (A.1 6 t - G)) (w + 5) (ix i) G) w 5 (A.1 0 5 + G) ∧ (pI h (w + 2) (ix i) (A.1 2 i - G)).1 (w + 6) (ix t) = A.1 6 t ∧ (pI (pI (pI h (w + 2) (ix i) (A.1 2 i - G)) (w + 6) (ix t) (A.1 6 t - G)) (w + 5) (ix i) G).1 w 5 = A.1 0 5 ∧ CH h' P L M w (dk1 A i t G) ∧ Fr (WS w) h h' := by
  have y1 := x.wr (y := A.1 2 i - G) 2 (by decide) (by decide) hw h0
  have y2 := y1.ww (i := t) (y := A.1 6 t - G) hw t0
  have y3 := y2.wr (y := G) 5 (by decide) (by decide) hw h0
  have y4 := y3.s5 (y := A.1 0 5 + G) hw
  have e6 := x.2.2.2.2.1 t t0 t1
  have e5 := x.2.2.2.2.2.1.2.2.2.2.1
  refine ⟨_, rfl, ?_, ?_, y4, fr_w (fr_w (fr_w (fr_w Fr.rf (wsr 2 (by decide))) (wsr 6 (by decide))) (wsr 5 (by decide))) ws0⟩
  · rw [pI_n (by omega)]
    exact e6
  · rw [pI_n (by omega), pI_n (by omega), pI_n (by omega)]
    exact e5

theorem dkC {h : Hp} {P : Pl} {L : Lw} {M : Mo} {w : Nat} {A : Aw} {n : Nat} {i : Int32} (hd : ¬ M.2.1 = 0) (hw : WC w) (ok : POK P) (lk : LOK L) (wo : WOK P A) (x : CH h P L M w A) (h0 : 0 ≤ i) (h1 : i < P 0 4) : ∃ h', lp_Ho_drink_10 TC (n + 1) h 72 w i = lp_Ho_drink_10 TC n h' 72 w (i + 1) ∧ CH h' P L M w (dk P L M i A) ∧ Fr (WS w) h h' := by
  have g := x.g
  obtain ⟨l1, l2, l3, l4, l5, l6⟩ := hw.ly
  obtain ⟨r1, r2, r3, r4, r5, r6⟩ := hw.rd
  obtain ⟨t1, t2, t3, t4, t5, t6⟩ := hw.wt
  have o1 := ok.1
  have hi6 : i < 6 := by lia
  have w1 := wo.1 i h0 h1
  have hp61 : A.1 1 i < 61 := by lia
  have ta := tat_ok ok w1.1 w1.2.1
  rw [lp_Ho_drink_10]
  simp (disch := first | assumption | decide | omega) only [lyC, l1, l2, l3, l4, l5, l6, r1, r2, r3, r4, r5, r6, t1, t2, t3, t4, t5, t6, rdC, wtC, bnd_q, nmd_q, pI_n, g]
  have j147 : ∀ h', jb_Ho_drink_147 TC (lp_Ho_drink_10 TC n) h' 72 w i = lp_Ho_drink_10 TC n h' 72 w (i + 1) := fun h' => by
    unfold jb_Ho_drink_147
    rw [nmd_q]
  rw [if_neg (show ¬ P 0 4 ≤ i by lia), if_neg hd, thC x w1.1 hp61, bnd_q, onC x]
  simp only [j147]
  unfold dk
  by_cases q1 : bt (A.1 0 2) i = 0
  · rw [if_pos q1, if_pos q1]
    exact ⟨h, rfl, x, Fr.rf⟩
  rw [if_neg q1, if_neg q1]
  by_cases q2 : P 5 (A.1 1 i) = -1
  · rw [if_pos q2, if_pos q2]
    exact ⟨h, rfl, x, Fr.rf⟩
  rw [if_neg q2, if_neg q2]
  by_cases q3 : A.1 2 i ≤ 0
  · rw [if_pos q3, if_pos q3]
    exact ⟨h, rfl, x, Fr.rf⟩
  rw [if_neg q3, if_neg q3]
  obtain ⟨u0, u1, u2⟩ := ta q2
  have u6 : P 5 (A.1 1 i) < 6 := by lia
  simp (disch := first | assumption | decide | omega) only [lyC, l1, l2, l3, l4, l5, l6, r1, r2, r3, r4, r5, r6, t1, t2, t3, t4, t5, t6, rdC, wtC, bnd_q, nmd_q, pI_n, g]
  by_cases q4 : A.1 6 (P 5 (A.1 1 i)) ≤ 0
  · rw [if_pos q4, if_pos q4]
    exact ⟨h, rfl, x, Fr.rf⟩
  rw [if_neg q4, if_neg q4]
  obtain ⟨h1', e1, f1⟩ := amC (q := 1) 9 hw ok lk wo x h0 h1 (by decide)
  have e1' : f_Ho_amount TC h 72 w 1 i 9 = some (amt L (nmL P M.2.2 A i) 1 9, h1') := e1
  have x1 := x.mv hw f1
  have g1 := x1.g
  obtain ⟨h2, e2, e3, e4, y2, f2⟩ := dk1C (G := gul P L M i A) hw x1 h0 h1 u0 u1
  have e7 := x1.2.2.2.1 2 (by decide) (by decide) i h0 h1
  have e6 := x1.2.2.2.2.1 _ u0 u1
  have e5 := x1.2.2.2.2.2.1.2.2.2.2.1
  rw [e1', bnd_q]
  have eg : mnI (mnI (A.1 2 i) (A.1 6 (P 5 (A.1 1 i)))) (amt L (nmL P M.2.2 A i) 1 9) = gul P L M i A := rfl
  simp only [fst_q, snd_q, eg, e7, e6, e5]
  exact ⟨h2, by rw [e2], y2, (f1.mono fun c => WS.of).tr f2⟩
