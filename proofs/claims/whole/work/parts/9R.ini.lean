/-! the first heaps -/
theorem zc_o {h : Hp} {n c : Nat} (e : ¬ c = n) : (zc h n).1 c = h.1 c := funext fun s => if_neg e
theorem zc_s {h : Hp} {n s : Nat} : (zc h n).1 n s = 0 := if_pos rfl
def pWr (c : Nat) : Nat → List Int32 → Hp → Hp
  | _, [], h => h
  | i, v :: t, h => pWr c (i + 1) t (pI h c i v)
theorem pWr_c {c i : Nat} {v : Int32} {t : List Int32} {h : Hp} : pWr c i (v :: t) h = pWr c (i + 1) t (pI h c i v) := rfl
theorem pWr_0 {c i : Nat} {h : Hp} : pWr c i [] h = h := rfl
theorem pWr_ok {c : Nat} : ∀ (l : List Int32) (i : Nat) (h : Hp), (∀ d, ¬ d = c → (pWr c i l h).1 d = h.1 d) ∧ (∀ j, j < i → (pWr c i l h).1 c j = h.1 c j) ∧ ∀ j, j < l.length → (pWr c i l h).1 c (i + j) = l.getD j 0
  | [], i, h => ⟨fun _ _ => rfl, fun _ _ => rfl, fun j hj => absurd hj (Nat.not_lt_zero j)⟩
  | v :: t, i, h => by
    obtain ⟨q2, q3, q4⟩ := pWr_ok (c := c) t (i + 1) (pI h c i v)
    rw [pWr_c]
    refine ⟨fun d hd => ?_, fun j hj => ?_, fun j hj => ?_⟩
    · rw [q2 d hd, pI_f hd]
    · rw [q3 j (by omega), pI_t, if_neg (by omega)]
    · cases j with
      | zero =>
        rw [q3 (i + 0) (by omega), pI_t, if_pos (by omega)]
        rfl
      | succ j =>
        rw [List.length_cons] at hj
        have w := q4 j (by omega)
        rw [show i + 1 + j = i + (j + 1) by omega] at w
        rw [w]
        rfl
theorem wst {tb : Tb} {c n : Nat} (ha : al tb c = n) (hn : n < 2 ^ 31) (i : Nat) (hi : i < n) {h : Hp} {v : Int32} {F : Hp → Option Hp} : (wI tb h c (nI i) v).bind F = F (pI h c i v) := by
  rw [wI_ok ha hi hn, bnd_q]
/-- a plan cleared, wherever it lies -/
theorem clA {tb : Tb} {h : Hp} {p : Nat} (l1 : lay tb p 10 = p + 5) (l2 : lay tb p 19 = p + 14) (l3 : lay tb (p + 14) 3 = p + 16) (l4 : lay tb (p + 14) 4 = p + 17) (a1 : al tb (p + 5) = 61) (a2 : al tb (p + 16) = 3) (a3 : al tb (p + 17) = 3) : ∃ r, f_Pl_clear tb h p = some r ∧ CP r p pE ∧ CLa r (p + 14) lE ∧ r.1 (p + 14) 0 = 0 ∧ ∀ d, ¬ d = p → ¬ d = p + 5 → ¬ d = p + 14 → ¬ d = p + 16 → ¬ d = p + 17 → r.1 d = h.1 d := by
  obtain ⟨e0, e1, e2, e3, e4, e5, e6⟩ := pE_e
  unfold f_Pl_clear f_La_clear
  simp only [nmd_q, l1, l2, l3, l4]
  obtain ⟨a, b1, b2, b3, b4, -⟩ := fillT (h := pI (pI (pI (pI (pI (pI h p 0 20) p 1 0) p 2 0) p 3 0) p 4 0) p 5 0) (v := -1) a1 (by decide)
  obtain ⟨b, c1, c2, c3, c4, -⟩ := fillT (h := pI (pI a (p + 14) 0 0) (p + 14) 1 0) (v := 0) a2 (by decide)
  obtain ⟨c, d1, d2, d3, d4, -⟩ := fillT (h := b) (v := 0) a3 (by decide)
  rw [b1, bnd_q, c1, bnd_q, d1, bnd_q, bnd_q]
  have g3 : c.1 p = (pI (pI (pI (pI (pI (pI h p 0 20) p 1 0) p 2 0) p 3 0) p 4 0) p 5 0).1 p := by rw [d3 p (by omega), c3 p (by omega), pI_f (by omega), pI_f (by omega), b3 p (by omega)]
  refine ⟨c, rfl, ⟨?_, fun t x y => ?_, fun t x y => ?_, fun t x y => ?_, fun t x y => ?_⟩, fun q hq => ⟨?_, ?_, fun j _ z => absurd z (Nat.not_lt_zero j)⟩, ?_, fun d z1 z2 z3 z4 z5 => ?_⟩
  · rw [g3, e0, e1, e2, e3, e4, e5]
    refine ⟨?_, ?_, ?_, ?_, ?_, ?_⟩ <;> repeat (first | rw [pI_t, if_pos rfl] | rw [pI_t, if_neg (by decide)])
  · rw [e3] at y
    exact absurd y (by lia)
  · rw [d3 (p + 5) (by omega), c3 (p + 5) (by omega), pI_n (by omega), pI_n (by omega), e6]
    exact b4 _ (ix_lt x (by decide) (show t < nI 61 from y))
  · rw [e4] at y
    exact absurd y (by lia)
  · rw [e5] at y
    exact absurd y (by lia)
  · rw [show p + 14 + 2 = p + 16 by omega, d3 (p + 16) (by omega)]
    exact c4 q hq
  · rw [show p + 14 + 3 = p + 17 by omega]
    exact d4 q hq
  · rw [d3 (p + 14) (by omega), c3 (p + 14) (by omega), pI_t, if_neg (by decide), pI_t, if_pos rfl]
  · rw [d3 d z5, c3 d z4, pI_f z3, pI_f z3, b3 d z2, pI_f z1, pI_f z1, pI_f z1, pI_f z1, pI_f z1, pI_f z1]
set_option maxRecDepth 20000 in
theorem lyI : (lay (pt dC 22 19) 3 10 = 8 ∧ lay (pt dC 22 19) 3 19 = 17 ∧ lay (pt dC 22 19) 17 3 = 19 ∧ lay (pt dC 22 19) 17 4 = 20 ∧ al (pt dC 22 19) 8 = 61 ∧ al (pt dC 22 19) 19 = 3 ∧ al (pt dC 22 19) 20 = 3) ∧ (lay (pt dC 45 46) 26 10 = 31 ∧ lay (pt dC 45 46) 26 19 = 40 ∧ lay (pt dC 45 46) 40 3 = 42 ∧ lay (pt dC 45 46) 40 4 = 43 ∧ al (pt dC 45 46) 31 = 61 ∧ al (pt dC 45 46) 42 = 3 ∧ al (pt dC 45 46) 43 = 3) ∧ al (pt dC 24 22) 23 = 20 ∧ al (pt dR 3 1) 2 = 99 := by decide +kernel
def wcL : List Int32 := [619745280, 690476264, 284773536, 404226048, 605337600, 642945024, 404455424, 153911296, 257310720, 211001984, 48365568, 522190848, 486146048, 679791220, 538022912, 647107584, 773461568, 202964992, 291065856, 284870656]
def wrL : List Int32 := [114, 111, 97, 100, 32, 116, 114, 111, 117, 103, 104, 32, 104, 111, 114, 115, 101, 32, 108, 97, 112, 32, 114, 97, 105, 110, 32, 115, 101, 101, 100, 32, 108, 97, 119, 32, 100, 114, 121, 32, 103, 117, 108, 112, 32, 102, 105, 103, 104, 116, 32, 97, 110, 100, 32, 111, 114, 32, 110, 111, 116, 32, 116, 104, 105, 114, 115, 116, 32, 112, 97, 99, 101, 32, 115, 105, 100, 101, 32, 119, 97, 116, 101, 114, 32, 102, 97, 114, 32, 104, 117, 114, 116, 32, 104, 111, 117, 114, 32]
theorem wcL_e : ∀ j, j < 20 → wcL.getD j 0 = wdC j := by decide +kernel
theorem wrL_e : ∀ j, j < 99 → wrL.getD j 0 = wdR j := by decide +kernel
set_option maxRecDepth 20000 in
theorem scE {h : Hp} : kf_Sc_init_22 h = some (pWr 23 0 wcL (zc h 23)) := by
  unfold kf_Sc_init_22
  refine (nmd_q _ _).trans ?_
  refine (wst lyI.2.2.1 (by decide) 0 (by decide)).trans ?_
  refine (wst lyI.2.2.1 (by decide) 1 (by decide)).trans ?_
  refine (wst lyI.2.2.1 (by decide) 2 (by decide)).trans ?_
  refine (wst lyI.2.2.1 (by decide) 3 (by decide)).trans ?_
  refine (wst lyI.2.2.1 (by decide) 4 (by decide)).trans ?_
  refine (wst lyI.2.2.1 (by decide) 5 (by decide)).trans ?_
  refine (wst lyI.2.2.1 (by decide) 6 (by decide)).trans ?_
  refine (wst lyI.2.2.1 (by decide) 7 (by decide)).trans ?_
  refine (wst lyI.2.2.1 (by decide) 8 (by decide)).trans ?_
  refine (wst lyI.2.2.1 (by decide) 9 (by decide)).trans ?_
  refine (wst lyI.2.2.1 (by decide) 10 (by decide)).trans ?_
  refine (wst lyI.2.2.1 (by decide) 11 (by decide)).trans ?_
  refine (wst lyI.2.2.1 (by decide) 12 (by decide)).trans ?_
  refine (wst lyI.2.2.1 (by decide) 13 (by decide)).trans ?_
  refine (wst lyI.2.2.1 (by decide) 14 (by decide)).trans ?_
  refine (wst lyI.2.2.1 (by decide) 15 (by decide)).trans ?_
  refine (wst lyI.2.2.1 (by decide) 16 (by decide)).trans ?_
  refine (wst lyI.2.2.1 (by decide) 17 (by decide)).trans ?_
  refine (wst lyI.2.2.1 (by decide) 18 (by decide)).trans ?_
  refine (wst lyI.2.2.1 (by decide) 19 (by decide)).trans ?_
  unfold wcL
  simp only [pWr_c, pWr_0, Nat.reduceAdd]
theorem scI {h : Hp} : ∃ r, kf_Sc_init_22 h = some r ∧ (∀ d, ¬ d = 23 → r.1 d = h.1 d) ∧ ∀ j, j < 20 → r.1 23 j = wdC j := by
  obtain ⟨q2, -, q4⟩ := pWr_ok (c := 23) wcL 0 (zc h 23)
  refine ⟨_, scE, fun d hd => by rw [q2 d hd, zc_o hd], fun j hj => ?_⟩
  have w := q4 j hj
  rw [Nat.zero_add] at w
  rw [w]
  exact wcL_e j hj
theorem plI {h : Hp} : ∃ r, kf_Pl_init_3 h = some r ∧ ∀ d, d < 3 → r.1 d = h.1 d := by
  unfold kf_Pl_init_3 kf_La_init_17
  simp only [nmd_q, bnd_q]
  obtain ⟨r, q1, -, -, -, q2⟩ := clA (tb := pt dC 22 19) (p := 3) (h := (zc (zc (zc (zc (zc (zc (zc (zc (zc (zc (zc (zc (zc (zc (zc (zc (zc (zc h 4) 5) 6) 7) 8) 9) 10) 11) 12) 13) 14) 15) 16) 17) 18) 19) 20) 21)) lyI.1.1 lyI.1.2.1 lyI.1.2.2.1 lyI.1.2.2.2.1 lyI.1.2.2.2.2.1 lyI.1.2.2.2.2.2.1 lyI.1.2.2.2.2.2.2
  refine ⟨r, by rw [q1, bnd_q], fun d hd => ?_⟩
  rw [q2 d (by omega) (by omega) (by omega) (by omega) (by omega)]
  rw [zc_o (by omega), zc_o (by omega), zc_o (by omega), zc_o (by omega), zc_o (by omega), zc_o (by omega), zc_o (by omega), zc_o (by omega), zc_o (by omega), zc_o (by omega), zc_o (by omega), zc_o (by omega), zc_o (by omega), zc_o (by omega), zc_o (by omega), zc_o (by omega), zc_o (by omega), zc_o (by omega)]
theorem pmI {h : Hp} : ∃ r, kf_Pl_init_26 h = some r ∧ CP r 26 pE ∧ CLa r 40 lE ∧ r.1 40 0 = 0 ∧ ∀ d, d < 26 → r.1 d = h.1 d := by
  unfold kf_Pl_init_26 kf_La_init_40
  simp only [nmd_q, bnd_q]
  obtain ⟨r, q1, q2, q3, q4, q5⟩ := clA (tb := pt dC 45 46) (p := 26) (h := (zc (zc (zc (zc (zc (zc (zc (zc (zc (zc (zc (zc (zc (zc (zc (zc (zc (zc h 27) 28) 29) 30) 31) 32) 33) 34) 35) 36) 37) 38) 39) 40) 41) 42) 43) 44)) lyI.2.1.1 lyI.2.1.2.1 lyI.2.1.2.2.1 lyI.2.1.2.2.2.1 lyI.2.1.2.2.2.2.1 lyI.2.1.2.2.2.2.2.1 lyI.2.1.2.2.2.2.2.2
  refine ⟨r, by rw [q1, bnd_q], q2, q3, q4, fun d hd => ?_⟩
  rw [q5 d (by omega) (by omega) (by omega) (by omega) (by omega)]
  rw [zc_o (by omega), zc_o (by omega), zc_o (by omega), zc_o (by omega), zc_o (by omega), zc_o (by omega), zc_o (by omega), zc_o (by omega), zc_o (by omega), zc_o (by omega), zc_o (by omega), zc_o (by omega), zc_o (by omega), zc_o (by omega), zc_o (by omega), zc_o (by omega), zc_o (by omega), zc_o (by omega)]
theorem trI {h : Hp} : ∃ r, kf_Tr_init_2 h = some r ∧ (∀ d, d < 2 → r.1 d = h.1 d) ∧ r.1 2 1 = 0 ∧ r.1 2 2 = -1 ∧ ∀ j, j < 20 → r.1 23 j = wdC j := by
  obtain ⟨a, a1, a2⟩ := plI (h := zc h 3)
  obtain ⟨b, b1, b2, b3⟩ := scI (h := zc (pI (pI a 2 1 0) 2 2 (-1)) 22)
  unfold kf_Tr_init_2 kf_Lr_init_24
  simp only [nmd_q, bnd_q]
  rw [a1, bnd_q, b1, bnd_q]
  refine ⟨_, rfl, fun d hd => ?_, ?_, ?_, fun j hj => ?_⟩
  · rw [zc_o (by omega), zc_o (by omega), b2 d (by omega), zc_o (by omega), pI_f (by omega), pI_f (by omega), a2 d (by omega), zc_o (by omega)]
  · rw [zc_o (by decide), zc_o (by decide), b2 2 (by decide), zc_o (by decide), pI_t, if_neg (by decide), pI_t, if_pos rfl]
  · rw [zc_o (by decide), zc_o (by decide), b2 2 (by decide), zc_o (by decide), pI_t, if_pos rfl]
  · rw [zc_o (by decide), zc_o (by decide)]
    exact b3 j hj
theorem iniC : ∃ r, kf_Tt_init_0 (zc h00 0) = some r ∧ CRel r pE lE (wb pE) (wb pE) (xT 0) := by
  obtain ⟨a, a1, a2, a3, a4, a5⟩ := trI (h := zc (pI (zc (zc h00 0) 1) 0 1 0) 2)
  obtain ⟨b, b1, b2, b3, b4, b5⟩ := pmI (h := zc a 26)
  obtain ⟨e0, e1, e2, e3, e4, e5, e6, e7⟩ := xT_0 (sz := 0)
  obtain ⟨g, eg⟩ : ∃ g, g = (zc (zc (zc (zc (zc (zc (zc (zc (pI (pI (zc (zc (zc (zc (zc (zc (pI (zc (pI (zc (zc (zc (zc (zc (zc (zc (zc (zc (zc (zc (zc (zc (zc b 45) 46) 47) 48) 49) 50) 51) 52) 53) 54) 55) 56) 57) 58) 0 6 0) 59) 59 0 0) 60) 61) 62) 63) 64) 65) 65 0 0) 65 1 (-1)) 66) 67) 68) 69) 70) 71) 72) 73) := ⟨_, rfl⟩
  have gs : ∀ c, c < 45 → ¬ c = 0 → g.1 c = b.1 c := fun c hc h0 => by
    rw [eg]
    simp (disch := omega) only [zc_o, pI_f]
  have g06 : g.1 0 6 = 0 := by
    rw [eg]
    simp (disch := decide) only [zc_o, pI_f]
    rw [pI_t, if_pos rfl]
  have g01 : g.1 0 1 = 0 := by
    rw [eg]
    simp (disch := decide) only [zc_o, pI_f]
    rw [pI_t, if_neg (by decide)]
    simp (disch := decide) only [zc_o, pI_f]
    rw [b5 0 (by decide), zc_o (by decide), a2 0 (by decide), zc_o (by decide), pI_t, if_pos rfl]
  have g59 : g.1 59 0 = 0 := by
    rw [eg]
    simp (disch := decide) only [zc_o, pI_f]
    rw [pI_t, if_pos rfl]
  have g65 : g.1 65 0 = 0 ∧ g.1 65 1 = -1 := by
    rw [eg]
    refine ⟨?_, ?_⟩
    · simp (disch := decide) only [zc_o, pI_f]
      rw [pI_t, if_neg (by decide), pI_t, if_pos rfl]
    · simp (disch := decide) only [zc_o, pI_f]
      rw [pI_t, if_pos rfl]
  obtain ⟨k, ek⟩ : ∃ k, k = (zc (zc (zc (zc (zc (zc (zc (zc (zc (zc (zc (zc (zc (zc (zc (zc (zc (zc (zc (pI (pI (pI g 72 2 (g.1 (lay (pt dC 74 76) 72 0) 1)) 72 3 1) 72 4 1) 74) 75) 76) 77) 78) 79) 80) 81) 82) 83) 84) 85) 86) 87) 88) 89) 90) 91) 92) := ⟨_, rfl⟩
  have ks : ∀ c, c < 72 → k.1 c = g.1 c := fun c hc => by
    rw [ek]
    simp (disch := omega) only [zc_o, pI_f]
  have kb : ∀ c, c < 45 → ¬ c = 0 → k.1 c = b.1 c := fun c hc h0 => by rw [ks c (by omega), gs c hc h0]
  have cp : CP k 26 pE := by
    have w := b2
    unfold CP at w ⊢
    simp only [Nat.reduceAdd] at w ⊢
    rw [kb 26 (by decide) (by decide), kb 27 (by decide) (by decide), kb 28 (by decide) (by decide), kb 29 (by decide) (by decide), kb 30 (by decide) (by decide), kb 31 (by decide) (by decide), kb 32 (by decide) (by decide), kb 33 (by decide) (by decide), kb 34 (by decide) (by decide), kb 35 (by decide) (by decide), kb 36 (by decide) (by decide), kb 37 (by decide) (by decide), kb 38 (by decide) (by decide), kb 39 (by decide) (by decide)]
    exact w
  have cl : CLa k 40 lE := by
    have w := b3
    unfold CLa at w ⊢
    simp only [Nat.reduceAdd] at w ⊢
    rw [kb 41 (by decide) (by decide), kb 42 (by decide) (by decide), kb 43 (by decide) (by decide)]
    exact w
  obtain ⟨t, t1, t2, t3⟩ := wbC (w := 45) (.inl rfl) pE_ok cp
  have tk : ∀ c, ¬ (45 ≤ c ∧ c ≤ 51) → t.1 c = k.1 c := fun c hc => (t3 c (by unfold WR; omega)).1
  refine ⟨t, ?_, ⟨CP.mv t3 (fun c q => by unfold WR at q; omega) cp, CLa.mv t3 (fun c q => by unfold WR at q; omega) cl, t2⟩, fun q => absurd (e4.symm.trans q) (by decide), ?_, fun j x y => ?_, fun j x y => ?_, fun j x y => ?_, fun j hj => ?_⟩
  · unfold kf_Tt_init_0 kf_Wo_init_45 kf_Wo_init_52 kf_De_init_59 kf_Se_init_65 kf_Ho_init_72 kf_Fo_init_74 kf_Wo_init_75 kf_Wo_init_82 kf_Cn_init_90 f_Ho_byChance
    simp only [nmd_q, bnd_q]
    rw [a1, bnd_q, b1, bnd_q, ← eg, ← ek, t1, bnd_q]
  · rw [e0, e1, e2, e3, e4, e5, e6, e7, tk 0 (by omega), tk 2 (by omega), tk 40 (by omega), tk 59 (by omega), tk 65 (by omega), ks 0 (by decide), kb 2 (by decide) (by decide), kb 40 (by decide) (by decide), ks 59 (by decide), ks 65 (by decide), b5 2 (by decide), zc_o (by decide)]
    exact ⟨g01, a3, a4, b4, g06, g59, g65.1, g65.2⟩
  · rw [e0] at y
    exact absurd y (by lia)
  · rw [e5] at y
    exact absurd y (by lia)
  · rw [e6] at y
    exact absurd y (by lia)
  · rw [tk 23 (by omega), kb 23 (by decide) (by decide), b5 23 (by decide), zc_o (by decide)]
    exact a5 j hj
def rsR (h101 : Hp) : Option Hp :=
  nmd (pI h101 0 5 (-1 : Int32)) fun h102 =>
  nmd (zc h102 3) fun h103 =>
  nmd (zc h103 4) fun h104 =>
  nmd (zc h104 5) fun h105 =>
  nmd (zc h105 6) fun h106 =>
  nmd (zc h106 7) fun h107 =>
  nmd (zc h107 8) fun h108 =>
  nmd (zc h108 9) fun h109 =>
  nmd (zc h109 10) fun h110 =>
  nmd (zc h110 11) fun h111 =>
  nmd (zc h111 12) fun h112 =>
  nmd (zc h112 13) fun h113 =>
  nmd (zc h113 14) fun h114 =>
  nmd (zc h114 15) fun h115 =>
  nmd (zc h115 16) fun h116 =>
  nmd (zc h116 17) fun h117 =>
  nmd (zc h117 18) fun h118 =>
  nmd (zc h118 19) fun h119 =>
  nmd (zc h119 20) fun h120 =>
  nmd (zc h120 21) fun h121 =>
  nmd (zc h121 22) fun h122 =>
  nmd (zc h122 23) fun h123 =>
  nmd (zc h123 24) fun h124 =>
  nmd (zc h124 25) fun h125 =>
  nmd (zc h125 26) fun h126 =>
  nmd (zc h126 27) fun h127 =>
  nmd (zc h127 28) fun h128 =>
  nmd (zc h128 29) fun h129 =>
  nmd (zc h129 30) fun h130 =>
  nmd (zc h130 31) fun h131 =>
  nmd (zc h131 32) fun h132 =>
  nmd (zc h132 33) fun h133 =>
  nmd (zc h133 34) fun h134 =>
  nmd (zc h134 35) fun h135 =>
  nmd (zc h135 36) fun h136 =>
  nmd (zc h136 37) fun h137 =>
  nmd (zc h137 38) fun h138 =>
  nmd (zc h138 39) fun h139 =>
  nmd (zc h139 40) fun h140 =>
  nmd (pI h140 0 75 (-1 : Int32)) fun h141 =>
  nmd (zc h141 41) fun h142 =>
  nmd (zc h142 42) fun h143 =>
  nmd (zc h143 43) fun h144 =>
  nmd (zc h144 44) fun h145 =>
  nmd (zc h145 45) fun h146 =>
  (f_Md_plain (pt dR 46 45) h146 0).bind fun h147 =>
  (f_Md_keepText (pt dR 46 45) h147 0).bind fun h148 =>
  some h148
set_option maxRecDepth 20000 in
theorem mdE {h : Hp} : kf_Md_init_0 h = rsR (pWr 2 0 wrL (zc (zc h 1) 2)) := by
  unfold kf_Md_init_0
  refine (nmd_q _ _).trans ((nmd_q _ _).trans ?_)
  refine (wst lyI.2.2.2 (by decide) 0 (by decide)).trans ?_
  refine (wst lyI.2.2.2 (by decide) 1 (by decide)).trans ?_
  refine (wst lyI.2.2.2 (by decide) 2 (by decide)).trans ?_
  refine (wst lyI.2.2.2 (by decide) 3 (by decide)).trans ?_
  refine (wst lyI.2.2.2 (by decide) 4 (by decide)).trans ?_
  refine (wst lyI.2.2.2 (by decide) 5 (by decide)).trans ?_
  refine (wst lyI.2.2.2 (by decide) 6 (by decide)).trans ?_
  refine (wst lyI.2.2.2 (by decide) 7 (by decide)).trans ?_
  refine (wst lyI.2.2.2 (by decide) 8 (by decide)).trans ?_
  refine (wst lyI.2.2.2 (by decide) 9 (by decide)).trans ?_
  refine (wst lyI.2.2.2 (by decide) 10 (by decide)).trans ?_
  refine (wst lyI.2.2.2 (by decide) 11 (by decide)).trans ?_
  refine (wst lyI.2.2.2 (by decide) 12 (by decide)).trans ?_
  refine (wst lyI.2.2.2 (by decide) 13 (by decide)).trans ?_
  refine (wst lyI.2.2.2 (by decide) 14 (by decide)).trans ?_
  refine (wst lyI.2.2.2 (by decide) 15 (by decide)).trans ?_
  refine (wst lyI.2.2.2 (by decide) 16 (by decide)).trans ?_
  refine (wst lyI.2.2.2 (by decide) 17 (by decide)).trans ?_
  refine (wst lyI.2.2.2 (by decide) 18 (by decide)).trans ?_
  refine (wst lyI.2.2.2 (by decide) 19 (by decide)).trans ?_
  refine (wst lyI.2.2.2 (by decide) 20 (by decide)).trans ?_
  refine (wst lyI.2.2.2 (by decide) 21 (by decide)).trans ?_
  refine (wst lyI.2.2.2 (by decide) 22 (by decide)).trans ?_
  refine (wst lyI.2.2.2 (by decide) 23 (by decide)).trans ?_
  refine (wst lyI.2.2.2 (by decide) 24 (by decide)).trans ?_
  refine (wst lyI.2.2.2 (by decide) 25 (by decide)).trans ?_
  refine (wst lyI.2.2.2 (by decide) 26 (by decide)).trans ?_
  refine (wst lyI.2.2.2 (by decide) 27 (by decide)).trans ?_
  refine (wst lyI.2.2.2 (by decide) 28 (by decide)).trans ?_
  refine (wst lyI.2.2.2 (by decide) 29 (by decide)).trans ?_
  refine (wst lyI.2.2.2 (by decide) 30 (by decide)).trans ?_
  refine (wst lyI.2.2.2 (by decide) 31 (by decide)).trans ?_
  refine (wst lyI.2.2.2 (by decide) 32 (by decide)).trans ?_
  refine (wst lyI.2.2.2 (by decide) 33 (by decide)).trans ?_
  refine (wst lyI.2.2.2 (by decide) 34 (by decide)).trans ?_
  refine (wst lyI.2.2.2 (by decide) 35 (by decide)).trans ?_
  refine (wst lyI.2.2.2 (by decide) 36 (by decide)).trans ?_
  refine (wst lyI.2.2.2 (by decide) 37 (by decide)).trans ?_
  refine (wst lyI.2.2.2 (by decide) 38 (by decide)).trans ?_
  refine (wst lyI.2.2.2 (by decide) 39 (by decide)).trans ?_
  refine (wst lyI.2.2.2 (by decide) 40 (by decide)).trans ?_
  refine (wst lyI.2.2.2 (by decide) 41 (by decide)).trans ?_
  refine (wst lyI.2.2.2 (by decide) 42 (by decide)).trans ?_
  refine (wst lyI.2.2.2 (by decide) 43 (by decide)).trans ?_
  refine (wst lyI.2.2.2 (by decide) 44 (by decide)).trans ?_
  refine (wst lyI.2.2.2 (by decide) 45 (by decide)).trans ?_
  refine (wst lyI.2.2.2 (by decide) 46 (by decide)).trans ?_
  refine (wst lyI.2.2.2 (by decide) 47 (by decide)).trans ?_
  refine (wst lyI.2.2.2 (by decide) 48 (by decide)).trans ?_
  refine (wst lyI.2.2.2 (by decide) 49 (by decide)).trans ?_
  refine (wst lyI.2.2.2 (by decide) 50 (by decide)).trans ?_
  refine (wst lyI.2.2.2 (by decide) 51 (by decide)).trans ?_
  refine (wst lyI.2.2.2 (by decide) 52 (by decide)).trans ?_
  refine (wst lyI.2.2.2 (by decide) 53 (by decide)).trans ?_
  refine (wst lyI.2.2.2 (by decide) 54 (by decide)).trans ?_
  refine (wst lyI.2.2.2 (by decide) 55 (by decide)).trans ?_
  refine (wst lyI.2.2.2 (by decide) 56 (by decide)).trans ?_
  refine (wst lyI.2.2.2 (by decide) 57 (by decide)).trans ?_
  refine (wst lyI.2.2.2 (by decide) 58 (by decide)).trans ?_
  refine (wst lyI.2.2.2 (by decide) 59 (by decide)).trans ?_
  refine (wst lyI.2.2.2 (by decide) 60 (by decide)).trans ?_
  refine (wst lyI.2.2.2 (by decide) 61 (by decide)).trans ?_
  refine (wst lyI.2.2.2 (by decide) 62 (by decide)).trans ?_
  refine (wst lyI.2.2.2 (by decide) 63 (by decide)).trans ?_
  refine (wst lyI.2.2.2 (by decide) 64 (by decide)).trans ?_
  refine (wst lyI.2.2.2 (by decide) 65 (by decide)).trans ?_
  refine (wst lyI.2.2.2 (by decide) 66 (by decide)).trans ?_
  refine (wst lyI.2.2.2 (by decide) 67 (by decide)).trans ?_
  refine (wst lyI.2.2.2 (by decide) 68 (by decide)).trans ?_
  refine (wst lyI.2.2.2 (by decide) 69 (by decide)).trans ?_
  refine (wst lyI.2.2.2 (by decide) 70 (by decide)).trans ?_
  refine (wst lyI.2.2.2 (by decide) 71 (by decide)).trans ?_
  refine (wst lyI.2.2.2 (by decide) 72 (by decide)).trans ?_
  refine (wst lyI.2.2.2 (by decide) 73 (by decide)).trans ?_
  refine (wst lyI.2.2.2 (by decide) 74 (by decide)).trans ?_
  refine (wst lyI.2.2.2 (by decide) 75 (by decide)).trans ?_
  refine (wst lyI.2.2.2 (by decide) 76 (by decide)).trans ?_
  refine (wst lyI.2.2.2 (by decide) 77 (by decide)).trans ?_
  refine (wst lyI.2.2.2 (by decide) 78 (by decide)).trans ?_
  refine (wst lyI.2.2.2 (by decide) 79 (by decide)).trans ?_
  refine (wst lyI.2.2.2 (by decide) 80 (by decide)).trans ?_
  refine (wst lyI.2.2.2 (by decide) 81 (by decide)).trans ?_
  refine (wst lyI.2.2.2 (by decide) 82 (by decide)).trans ?_
  refine (wst lyI.2.2.2 (by decide) 83 (by decide)).trans ?_
  refine (wst lyI.2.2.2 (by decide) 84 (by decide)).trans ?_
  refine (wst lyI.2.2.2 (by decide) 85 (by decide)).trans ?_
  refine (wst lyI.2.2.2 (by decide) 86 (by decide)).trans ?_
  refine (wst lyI.2.2.2 (by decide) 87 (by decide)).trans ?_
  refine (wst lyI.2.2.2 (by decide) 88 (by decide)).trans ?_
  refine (wst lyI.2.2.2 (by decide) 89 (by decide)).trans ?_
  refine (wst lyI.2.2.2 (by decide) 90 (by decide)).trans ?_
  refine (wst lyI.2.2.2 (by decide) 91 (by decide)).trans ?_
  refine (wst lyI.2.2.2 (by decide) 92 (by decide)).trans ?_
  refine (wst lyI.2.2.2 (by decide) 93 (by decide)).trans ?_
  refine (wst lyI.2.2.2 (by decide) 94 (by decide)).trans ?_
  refine (wst lyI.2.2.2 (by decide) 95 (by decide)).trans ?_
  refine (wst lyI.2.2.2 (by decide) 96 (by decide)).trans ?_
  refine (wst lyI.2.2.2 (by decide) 97 (by decide)).trans ?_
  refine (wst lyI.2.2.2 (by decide) 98 (by decide)).trans ?_
  unfold wrL rsR
  simp only [pWr_c, pWr_0, Nat.reduceAdd]
theorem iniR : ∃ u, kf_Md_init_0 (zc h00 0) = some u ∧ RRel u pE lE (wb pE) (wb pE) (xT 0) (fun _ r j => (wb pE).1 r j) := by
  obtain ⟨q2, -, q4⟩ := pWr_ok (c := 2) wrL 0 (zc (zc (zc h00 0) 1) 2)
  obtain ⟨r, er⟩ : ∃ r, r = pWr 2 0 wrL (zc (zc (zc h00 0) 1) 2) := ⟨_, rfl⟩
  rw [← er] at q2 q4
  obtain ⟨e0, e1, e2, e3, e4, e5, e6, e7⟩ := xT_0 (sz := 0)
  obtain ⟨p0, p1, p2, p3, p4, p5, p6⟩ := pE_e
  obtain ⟨g, eg⟩ : ∃ g, g = (zc (zc (zc (zc (zc (pI (zc (zc (zc (zc (zc (zc (zc (zc (zc (zc (zc (zc (zc (zc (zc (zc (zc (zc (zc (zc (zc (zc (zc (zc (zc (zc (zc (zc (zc (zc (zc (zc (zc (zc (zc (zc (zc (zc (pI r 0 5 (-1)) 3) 4) 5) 6) 7) 8) 9) 10) 11) 12) 13) 14) 15) 16) 17) 18) 19) 20) 21) 22) 23) 24) 25) 26) 27) 28) 29) 30) 31) 32) 33) 34) 35) 36) 37) 38) 39) 40) 0 75 (-1)) 41) 42) 43) 44) 45) := ⟨_, rfl⟩
  have ei : kf_Md_init_0 (zc h00 0) = (f_Md_plain TR g 0).bind fun h147 => (f_Md_keepText TR h147 0).bind fun h148 => some h148 := by
    rw [mdE, ← er]
    unfold rsR
    simp only [nmd_q]
    rw [← eg]
  have g2 : g.1 2 = r.1 2 := by
    rw [eg]
    simp (disch := decide) only [zc_o, pI_f]
  have r0 : ∀ s, r.1 0 s = 0 := fun s => by
    rw [q2 0 (by decide), zc_o (by decide), zc_o (by decide)]
    exact zc_s
  have g0 : ∀ s, ¬ s = 5 → ¬ s = 75 → g.1 0 s = 0 := fun s z1 z2 => by
    rw [eg]
    simp (disch := decide) only [zc_o]
    rw [pI_t, if_neg z2]
    simp (disch := decide) only [zc_o]
    rw [pI_t, if_neg z1]
    exact r0 s
  have g5 : g.1 0 5 = -1 := by
    rw [eg]
    simp (disch := decide) only [zc_o]
    rw [pI_t, if_neg (by decide)]
    simp (disch := decide) only [zc_o]
    rw [pI_t, if_pos rfl]
  have g31 : ∀ s, g.1 31 s = 0 := fun s => by
    rw [eg]
    simp (disch := decide) only [zc_o, pI_f]
    exact zc_s
  obtain ⟨v, ev⟩ : ∃ v, v = pI (pI (pI (pI (pI (pI (pI (pI (pI (pI (pI (pI (pI (pI g 0 17 0) 0 18 0) 0 19 0) 0 20 20) 0 21 0) 0 22 0) 0 48 0) 3 0 0) 4 2 0) 3 1 0) 4 3 0) 17 3 0) 17 4 0) 17 5 0 := ⟨_, rfl⟩
  have vx : ∀ s, s < 12 → v.1 0 s = g.1 0 s := fun s hs => by
    rw [ev, pI_x (by omega), pI_x (by omega), pI_x (by omega), pI_x (by omega), pI_x (by omega), pI_x (by omega), pI_x (by omega), pI_x (by omega), pI_x (by omega), pI_x (by omega), pI_x (by omega), pI_x (by omega), pI_x (by omega), pI_x (by omega)]
  have v17 : v.1 0 17 = 0 ∧ v.1 0 18 = 0 ∧ v.1 0 19 = 0 ∧ v.1 0 20 = 20 ∧ v.1 4 2 = 0 ∧ v.1 4 3 = 0 ∧ v.1 0 22 = 0 := by
    rw [ev]
    refine ⟨?_, ?_, ?_, ?_, ?_, ?_, ?_⟩ <;> repeat (first | rw [pI_n (by decide)] | rw [pI_t, if_pos rfl] | rw [pI_t, if_neg (by decide)])
  have v3 : v.1 17 3 = 0 ∧ v.1 17 4 = 0 ∧ v.1 17 5 = 0 := by
    rw [ev]
    refine ⟨?_, ?_, ?_⟩ <;> repeat (first | rw [pI_n (by decide)] | rw [pI_t, if_pos rfl] | rw [pI_t, if_neg (by decide)])
  have rq : RQ v pE := by
    refine ⟨?_, fun t x y => ?_, fun t x y => ?_, fun t x y => ?_⟩
    · rw [p0, p1, p2, p3, p4, p5]
      exact ⟨v17.1, v17.2.1, v17.2.2.1, v17.2.2.2.1, v17.2.2.2.2.1, v17.2.2.2.2.2.1⟩
    · rw [p3] at y
      exact absurd y (by lia)
    · rw [p4] at y
      exact absurd y (by lia)
    · rw [p5] at y
      exact absurd y (by lia)
  have rl : RLr v lE := by
    intro q hq
    refine ⟨?_, fun z => absurd z (Nat.lt_irrefl 0)⟩
    rw [if_neg (show ¬ lE.2.1 q < lE.2.2 q from Nat.lt_irrefl 0)]
    match q, hq with
    | 0, _ => exact v3.1
    | 1, _ => exact v3.2.1
    | 2, _ => exact v3.2.2
  have oz : OZ v := fun s => by
    rw [ev, pI_n (by decide), pI_n (by decide), pI_n (by decide), pI_n (by decide), pI_n (by decide), pI_n (by decide), pI_n (by decide), pI_n (by decide), pI_n (by decide), pI_n (by decide), pI_n (by decide), pI_n (by decide), pI_n (by decide), pI_n (by decide), g31 s]
    decide
  obtain ⟨u, d1, d2, d3, d4, d5, d6⟩ := keR (sz := 0) pE_ok lE_ok rq rl v17.2.2.2.2.2.2 oz
  refine ⟨u, ?_, d2, fun q => absurd (e4.symm.trans q) (by decide), ?_, fun j x y => ?_, fun j x y => ?_, fun j x y => ?_, fun j hj => ?_⟩
  · rw [ei, plnR, bnd_q, ← ev, d1, bnd_q]
  · rw [e0, e1, e2, e3, e4, e5, e6, e7, d5 1 (by omega), d5 4 (by omega), d5 5 (by omega), vx 1 (by decide), vx 4 (by decide), vx 5 (by decide)]
    exact ⟨g0 1 (by decide) (by decide), g0 4 (by decide) (by decide), g5, d4, d3⟩
  · rw [e0] at y
    exact absurd y (by lia)
  · rw [e5] at y
    exact absurd y (by lia)
  · rw [e6] at y
    exact absurd y (by lia)
  · have w := q4 j hj
    rw [Nat.zero_add] at w
    rw [d6, ev, pI_n (by decide), pI_n (by decide), pI_n (by decide), pI_n (by decide), pI_n (by decide), pI_n (by decide), pI_n (by decide), pI_n (by decide), pI_n (by decide), pI_n (by decide), pI_n (by decide), pI_n (by decide), pI_n (by decide), pI_n (by decide), g2, w]
    exact wrL_e j hj
theorem ini_rl : INI Rl := by
  obtain ⟨a, a1, a2⟩ := iniC
  obtain ⟨b, b1, b2⟩ := iniR
  exact ⟨a, b, a1, b1, pE, lE, wb pE, wb pE, xT 0, _, PRel.nw pE_ok lE_ok, a2, b2⟩
