/-! a world taken over; how hours go; the trial of either side -/
theorem cpT {tb : Tb} {h : Hp} {a b n : Nat} (ha : al tb a = n) (hb : al tb b = n) (hn : n ≤ 900) : ∃ h', f_Tt_copy tb h a b = some h' ∧ h'.2 = h.2 ∧ (∀ d, ¬ d = b → h'.1 d = h.1 d) ∧ ∀ j, j < n → h'.1 b j = h.1 a j := by
  unfold f_Tt_copy cpI
  rw [ha, hb]
  have e : mnI (Int32.ofNat n) (Int32.ofNat n) = nI n := by
    unfold mnI
    split <;> rfl
  rw [e]
  have e0 : (0 : Int32).toNatClampNeg = 0 := by decide
  have en : (nI n).toNatClampNeg = n := ix_nI (by omega)
  have ep : 0 ≤ nI n := nI_pos' (by omega)
  rw [e0, en, if_pos ⟨by decide, by decide, by lia, by omega, by omega⟩, bnd_q]
  refine ⟨_, rfl, pR_2, fun d hd => funext fun k => ?_, fun j hj => ?_⟩
  · rw [pR_1, if_neg hd]
  · rw [pR_1, if_pos rfl]
    unfold va_cpy
    rw [if_pos (by omega), Nat.zero_add, Nat.sub_zero]
theorem WC.dj {w v : Nat} (hw : WC w) (hv : WC v) (ne : ¬ w = v) : w + 7 ≤ v ∨ v + 7 ≤ w := by
  unfold WC at hw hv
  omega
def scl (h : Hp) (w v : Nat) : Hp :=
  nmd (pI h w 0 (h.1 v 0)) fun h1 =>
  nmd (pL h1 w 1 (h1.2 v 1)) fun h2 =>
  nmd (pI h2 w 2 (h2.1 v 2)) fun h3 =>
  nmd (pI h3 w 3 (h3.1 v 3)) fun h4 =>
  nmd (pI h4 w 4 (h4.1 v 4)) fun h5 =>
  nmd (pI h5 w 5 (h5.1 v 5)) fun h6 =>
  nmd (pI h6 w 6 (h6.1 v 6)) fun h7 =>
  nmd (pI h7 w 7 (h7.1 v 7)) fun h8 =>
  nmd (pI h8 w 8 (h8.1 v 8)) fun h9 => h9
theorem scl_e {h : Hp} {w v : Nat} (q : ¬ v = w) : Fr (fun c => c = w) h (scl h w v) ∧ (scl h w v).1 w 0 = h.1 v 0 ∧ (scl h w v).1 w 2 = h.1 v 2 ∧ (scl h w v).1 w 3 = h.1 v 3 ∧ (scl h w v).1 w 4 = h.1 v 4 ∧ (scl h w v).1 w 5 = h.1 v 5 ∧ (scl h w v).1 w 6 = h.1 v 6 ∧ (scl h w v).1 w 7 = h.1 v 7 ∧ (scl h w v).1 w 8 = h.1 v 8 ∧ (scl h w v).2 w 1 = h.2 v 1 := by
  unfold scl
  simp only [nmd_q, pI_n q, pL_l, pI_l]
  refine ⟨fr_w (fr_w (fr_w (fr_w (fr_w (fr_w (fr_w (Fr.tr (Fr.pI rfl) (Fr.pL rfl)) rfl) rfl) rfl) rfl) rfl) rfl) rfl, ?_⟩
  simp [pI_t, pL_l, pL_t, pI_l]
theorem wo_be {h : Hp} {w v : Nat} : f_Wo_become TC h w v = ((f_Tt_copy TC (scl h w v) (lay TC v 9) (lay TC w 9)).bind fun r10 => (f_Tt_copy TC r10 (lay TC v 10) (lay TC w 10)).bind fun r11 => (f_Tt_copy TC r11 (lay TC v 11) (lay TC w 11)).bind fun r12 => (f_Tt_copy TC r12 (lay TC v 12) (lay TC w 12)).bind fun r13 => (f_Tt_copy TC r13 (lay TC v 13) (lay TC w 13)).bind fun r14 => (f_Tt_copy TC r14 (lay TC v 14) (lay TC w 14)).bind fun r15 => some r15) := by
  unfold f_Wo_become scl
  simp only [nmd_q]
def WR (w c : Nat) : Prop := w ≤ c ∧ c ≤ w + 6
theorem beC {h : Hp} {P : Pl} {w v : Nat} {A : Aw} (hw : WC w) (hv : WC v) (ne : ¬ w = v) (ok : POK P) (x : CW h P v A) : ∃ h', f_Wo_become TC h w v = some h' ∧ CW h' P w A ∧ Fr (WR w) h h' := by
  have o1 := ok.1
  obtain ⟨a1, a2, a3, a4, a5, a6⟩ := hw.al
  obtain ⟨c1, c2, c3, c4, c5, c6⟩ := hv.al
  obtain ⟨l1, l2, l3, l4, l5, l6⟩ := hw.ly
  obtain ⟨m1, m2, m3, m4, m5, m6⟩ := hv.ly
  have dj := hw.dj hv ne
  obtain ⟨f0, e0, e2, e3, e4, e5, e6, e7, e8, en⟩ := scl_e (h := h) (show ¬ v = w by omega)
  rw [wo_be, l1, l2, l3, l4, l5, l6, m1, m2, m3, m4, m5, m6]
  obtain ⟨h1, b1, p1, q1, r1⟩ := cpT (h := scl h w v) c1 a1 (by decide)
  rw [b1, bnd_q]
  obtain ⟨h2, b2, p2, q2, r2⟩ := cpT (h := h1) c2 a2 (by decide)
  rw [b2, bnd_q]
  obtain ⟨h3, b3, p3, q3, r3⟩ := cpT (h := h2) c3 a3 (by decide)
  rw [b3, bnd_q]
  obtain ⟨h4, b4, p4, q4, r4⟩ := cpT (h := h3) c4 a4 (by decide)
  rw [b4, bnd_q]
  obtain ⟨h5, b5, p5, q5, r5⟩ := cpT (h := h4) c5 a5 (by decide)
  rw [b5, bnd_q]
  obtain ⟨h6, b6, p6, q6, r6⟩ := cpT (h := h5) c6 a6 (by decide)
  rw [b6, bnd_q]
  have g0 : ∀ d, ¬ d = w → (scl h w v).1 d = h.1 d := fun d hd => (f0 d hd).1
  have n2 : h6.2 = (scl h w v).2 := by rw [p6, p5, p4, p3, p2, p1]
  have n1 : ∀ d, ¬ WR w d ∨ d = w → h6.1 d = (scl h w v).1 d := fun d hd => by
    unfold WR at hd
    rw [q6 d (by omega), q5 d (by omega), q4 d (by omega), q3 d (by omega), q2 d (by omega), q1 d (by omega)]
  refine ⟨h6, rfl, ⟨fun r ra rb i i0 i1 => ?_, fun t t0 t1 => ?_, ?_, ?_⟩, fun c hc => ⟨?_, ?_⟩⟩
  · have j6 := ix_lt (n := 6) i0 (by decide) (show i < 6 by lia)
    rw [← x.1 r ra rb i i0 i1]
    rcases (show r = 1 ∨ r = 2 ∨ r = 3 ∨ r = 4 ∨ r = 5 by omega) with rfl | rfl | rfl | rfl | rfl
    · rw [q6 _ (by omega), q5 _ (by omega), q4 _ (by omega), q3 _ (by omega), q2 _ (by omega), r1 _ j6, g0 _ (by omega)]
    · rw [q6 _ (by omega), q5 _ (by omega), q4 _ (by omega), q3 _ (by omega), r2 _ j6, q1 _ (by omega), g0 _ (by omega)]
    · rw [q6 _ (by omega), q5 _ (by omega), q4 _ (by omega), r3 _ j6, q2 _ (by omega), q1 _ (by omega), g0 _ (by omega)]
    · rw [q6 _ (by omega), q5 _ (by omega), r4 _ j6, q3 _ (by omega), q2 _ (by omega), q1 _ (by omega), g0 _ (by omega)]
    · rw [q6 _ (by omega), r5 _ j6, q4 _ (by omega), q3 _ (by omega), q2 _ (by omega), q1 _ (by omega), g0 _ (by omega)]
  · have j6 := ix_lt (n := 6) t0 (by decide) (show t < 6 by lia)
    rw [← x.2.1 t t0 t1, r6 _ j6, q5 _ (by omega), q4 _ (by omega), q3 _ (by omega), q2 _ (by omega), q1 _ (by omega), g0 _ (by omega)]
  · rw [n1 w (.inr rfl), e0, e2, e3, e4, e5, e6, e7, e8]
    exact x.2.2.1
  · rw [n2, en]
    exact x.2.2.2
  · rw [n1 c (.inl hc)]
    exact g0 c (fun z => hc (by unfold WR; omega))
  · rw [n2]
    exact (f0 c (fun z => hc (by unfold WR; omega))).2
def mT (P : Pl) : Mo := (if P 0 1 < 50 then 0 else 100, 1, 1)
def mB (P : Pl) : Mo := (P 0 1, 1, 1)
theorem mT_ok {P : Pl} : MOK (mT P) := .inl rfl
theorem mB_ok {P : Pl} : MOK (mB P) := .inl rfl
theorem bycC {h : Hp} {P : Pl} (x : CP h 26 P) : Fr (fun c => c = 72) h (f_Ho_byChance TC h 72) ∧ (f_Ho_byChance TC h 72).1 72 2 = (mB P).1 ∧ (f_Ho_byChance TC h 72).1 72 3 = (mB P).2.1 ∧ (f_Ho_byChance TC h 72).1 72 4 = (mB P).2.2 := by
  have e := x.1.2.1
  unfold f_Ho_byChance mB
  simp only [nmd_q, lyC, e]
  refine ⟨fr_w (fr_w (Fr.pI rfl) rfl) rfl, ?_⟩
  simp [pI_t]
theorem aigC {h : Hp} {P : Pl} (x : CP h 26 P) : Fr (fun c => c = 72) h (f_Ho_asItGoes TC h 72) ∧ (f_Ho_asItGoes TC h 72).1 72 2 = (mT P).1 ∧ (f_Ho_asItGoes TC h 72).1 72 3 = (mT P).2.1 ∧ (f_Ho_asItGoes TC h 72).1 72 4 = (mT P).2.2 := by
  have e := x.1.2.1
  unfold f_Ho_asItGoes jb_Ho_asItGoes_19 mT
  simp only [nmd_q, lyC, e]
  by_cases q : P 0 1 < 50
  · rw [if_pos q, if_pos q]
    refine ⟨fr_w (fr_w (Fr.pI rfl) rfl) rfl, ?_⟩
    simp [pI_t]
  · rw [if_neg q, if_neg q]
    refine ⟨fr_w (fr_w (Fr.pI rfl) rfl) rfl, ?_⟩
    simp [pI_t]
/-- what the trials of the class may write -/
def SC (c : Nat) : Prop := c = 44 ∨ 71 ≤ c
theorem SC.of {w c : Nat} (hw : WC w) (h75 : 75 ≤ w) (q : WS w c) : SC c := by
  unfold WS at q
  unfold SC
  omega
def CNo (h : Hp) (P : Pl) (L : Lw) (A : Aw) : Prop := CP h 26 P ∧ CLa h 40 L ∧ CW h P 45 A
theorem CNo.mv {h h' : Hp} {P : Pl} {L : Lw} {A : Aw} (x : CNo h P L A) (f : Fr SC h h') : CNo h' P L A :=
  ⟨x.1.mv f (fun c q => by unfold SC at q; omega), x.2.1.mv f (fun c q => by unfold SC at q; omega), x.2.2.mv f (fun c q => by unfold SC at q; omega)⟩
theorem btC {h : Hp} {P : Pl} {L : Lw} {A : Aw} (ok : POK P) (x : CNo h P L A) : ∃ h', f_Fo_beginTrial TC h 74 = some h' ∧ CH h' P L (mT P) 75 A ∧ Fr SC h h' := by
  unfold f_Fo_beginTrial
  simp only [lyC]
  obtain ⟨h1, e1, y1, f1⟩ := beC (w := 75) (v := 45) (by unfold WC; omega) (by unfold WC; omega) (by decide) ok x.2.2
  have f1' : Fr SC h h1 := f1.mono fun c q => by unfold WR at q; unfold SC; omega
  have x1 := x.mv f1'
  obtain ⟨f2, e2, e3, e4⟩ := aigC x1.1
  have f2' : Fr SC h1 (f_Ho_asItGoes TC h1 72) := f2.mono fun c q => by unfold SC; omega
  have x2 := x1.mv f2'
  rw [e1, bnd_q, nmd_q]
  exact ⟨_, rfl, ⟨x2.1, x2.2.1, ⟨e2, e3, e4⟩, y1.mv f2 (fun c q => by omega)⟩, f1'.tr f2'⟩
/-- the reference's trial -/
def RX (c s : Nat) : Prop := (c = 0 ∧ (s = 2 ∨ s = 53 ∨ (68 ≤ s ∧ s ≤ 72))) ∨ (27 ≤ c ∧ c ≤ 33 ∧ 6 ≤ s) ∨ (34 ≤ c ∧ c ≤ 39 ∧ s = 1) ∨ c = 40 ∨ c = 42
def KF (h h' : Hp) : Prop := (∀ c s, ¬ RX c s → h'.1 c s = h.1 c s) ∧ (∀ c s, ¬ (c = 25 ∨ c = 26) → h'.2 c s = h.2 c s) ∧ (OZ h → OZ h')
theorem KF.rf {h : Hp} : KF h h := ⟨fun _ _ _ => rfl, fun _ _ _ => rfl, id⟩
theorem KF.tr {h h' h'' : Hp} (x : KF h h') (y : KF h' h'') : KF h h'' := ⟨fun c s q => (y.1 c s q).trans (x.1 c s q), fun c s q => (y.2.1 c s q).trans (x.2.1 c s q), fun q => y.2.2 (x.2.2 q)⟩
theorem KF.pI {h : Hp} {c a : Nat} {x : Int32} (q : RX c a) (k : ¬ c = 31) : KF h (pI h c a x) := by
  refine ⟨fun e s z => ?_, fun e s z => by rw [pI_l], fun z s => ?_⟩
  · rw [pI_1]
    by_cases k : e = c
    · rw [if_pos k]
      by_cases k2 : s = a
      · subst k k2
        exact absurd q z
      · rw [if_neg k2]
    · rw [if_neg k]
  · rw [pI_n (by omega)]
    exact z s
theorem RF.KF {h h' : Hp} (x : RF 1 False h h') : KF h h' := by
  have e6 : ix (6 * 1) = 6 := by decide
  have e1 : ix 1 = 1 := by decide
  refine ⟨fun c s q => x.1 c s (fun z => q ?_), fun c s q => x.2.1 c s (fun z => q ?_), x.2.2⟩
  · unfold RS at z
    unfold RX
    omega
  · rcases z with z | z | ⟨z, _⟩
    · exact .inl z
    · exact .inr z
    · exact absurd z id
/-- plan, laws, the world as it is -/
def RK (h : Hp) (P : Pl) (L : Lw) (A : Aw) : Prop := RP h P ∧ RLa h L ∧ RW h P 0 A ∧ RD h 0 (P 0 4) A ∧ h.2 0 67 = A.2 ∧ OZ h
theorem i60 {i : Int32} : 6 * 0 + i = i := by lia
theorem RK.mv {h h' : Hp} {P : Pl} {L : Lw} {A : Aw} (ok : POK P) (x : RK h P L A) (f : KF h h') : RK h' P L A := by
  have o1 := ok.1
  obtain ⟨⟨⟨a1, a2, a3, a4, a5, a6⟩, x2, x3, x4⟩, y, ⟨w1, w2, w3, w4, w5, w6, w7⟩, rd, n, oz⟩ := x
  have g : ∀ c s, ¬ RX c s → h'.1 c s = h.1 c s := f.1
  have l6 : ∀ i : Int32, 0 ≤ i → i < 6 → ix (6 * 0 + i) < 6 := fun i i0 i1 => by
    rw [i60]
    exact ix_lt i0 (by decide) i1
  have e0 : ix 0 = 0 := by decide
  refine ⟨⟨⟨?_, ?_, ?_, ?_, ?_, ?_⟩, fun t t0 t1 => ?_, fun t t0 t1 => ?_, fun t t0 t1 => ?_⟩, y.mv (fun c s q1 q2 => g c s (by unfold RX; omega)), ⟨fun i i0 i1 => ?_, fun i i0 i1 => ?_, fun i i0 i1 => ?_, fun i i0 i1 => ?_, fun i i0 i1 => ?_, fun i i0 i1 => ?_, ?_⟩, fun i i0 i1 => ?_, ?_, f.2.2 oz⟩
  · rw [g 0 12 (by unfold RX; omega)]; exact a1
  · rw [g 0 13 (by unfold RX; omega)]; exact a2
  · rw [g 0 14 (by unfold RX; omega)]; exact a3
  · rw [g 0 15 (by unfold RX; omega)]; exact a4
  · rw [g 4 0 (by unfold RX; omega)]; exact a5
  · rw [g 4 1 (by unfold RX; omega)]; exact a6
  · rw [g 5 _ (by unfold RX; omega), g 6 _ (by unfold RX; omega), g 7 _ (by unfold RX; omega), g 8 _ (by unfold RX; omega)]
    exact x2 t t0 t1
  · rw [g 9 _ (by unfold RX; omega), g 10 _ (by unfold RX; omega), g 11 _ (by unfold RX; omega), g 12 _ (by unfold RX; omega), g 13 _ (by unfold RX; omega)]
    exact x3 t t0 t1
  · rw [g 14 _ (by unfold RX; omega), g 15 _ (by unfold RX; omega), g 16 _ (by unfold RX; omega)]
    exact x4 t t0 t1
  · have := l6 i i0 (by lia)
    rw [g 27 _ (by unfold RX; omega)]
    exact w1 i i0 i1
  · have := l6 i i0 (by lia)
    rw [g 28 _ (by unfold RX; omega)]
    exact w2 i i0 i1
  · have := l6 i i0 (by lia)
    rw [g 29 _ (by unfold RX; omega)]
    exact w3 i i0 i1
  · have := l6 i i0 (by lia)
    rw [g 30 _ (by unfold RX; omega)]
    exact w4 i i0 i1
  · have := l6 i i0 (by lia)
    rw [g 31 _ (by unfold RX; omega)]
    exact w5 i i0 i1
  · have := l6 i i0 (by lia)
    rw [g 33 _ (by unfold RX; omega)]
    exact w6 i i0 i1
  · rw [g 34 _ (by unfold RX; omega), g 35 _ (by unfold RX; omega), g 36 _ (by unfold RX; omega), g 37 _ (by unfold RX; omega), g 38 _ (by unfold RX; omega), g 39 _ (by unfold RX; omega)]
    exact w7
  · have := l6 i i0 (by lia)
    rw [g 32 _ (by unfold RX; omega)]
    exact rd i i0 i1
  · rw [f.2.1 0 67 (by decide)]
    exact n
theorem plR {h : Hp} : KF h (f_Md_plainTried TR h 0) ∧ (f_Md_plainTried TR h 0).1 0 69 = 0 ∧ (f_Md_plainTried TR h 0).1 0 70 = 0 ∧ (f_Md_plainTried TR h 0).1 0 71 = 0 ∧ (f_Md_plainTried TR h 0).1 0 72 = 0 ∧ (f_Md_plainTried TR h 0).2 = h.2 ∧ ∀ c s, (¬ c = 0 ∨ s < 69 ∨ 72 < s) → (f_Md_plainTried TR h 0).1 c s = h.1 c s := by
  unfold f_Md_plainTried
  simp only [nmd_q]
  refine ⟨(((KF.pI (by unfold RX; omega) (by decide)).tr (KF.pI (by unfold RX; omega) (by decide))).tr (KF.pI (by unfold RX; omega) (by decide))).tr (KF.pI (by unfold RX; omega) (by decide)), ?_, ?_, ?_, ?_, by simp only [pI_l], ?_⟩
  · simp [pI_t]
  · simp [pI_t]
  · simp [pI_t]
  · simp [pI_t]
  · intro c s q
    by_cases z : c = 0
    · subst z
      rw [pI_t, if_neg (by omega), pI_t, if_neg (by omega), pI_t, if_neg (by omega), pI_t, if_neg (by omega)]
    · rw [pI_n z, pI_n z, pI_n z, pI_n z]
/-- the modes of a trial -/
theorem mTR {h : Hp} {P : Pl} {n : Int64} (ok : POK P) (e1 : h.1 0 69 = 0) (e2 : h.1 0 70 = 0) (e3 : h.1 0 71 = 0) (e4 : h.1 0 72 = 0) : RMo h (mT P) ∧ RR h P (mT P) False n := by
  refine ⟨⟨.inl ⟨e4, rfl⟩, ⟨fun _ => (by decide : ¬ (1 : Int32) = 0), fun _ => e3⟩⟩, ?_⟩
  unfold RR mT
  by_cases q : P 0 1 < 50
  · exact .inr (.inl ⟨if_pos q, .inr ⟨e1, q⟩⟩)
  · exact .inr (.inr ⟨if_neg q, e2, e1, by lia⟩)
