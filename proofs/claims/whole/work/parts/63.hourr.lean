/-! the reference lets an hour go by -/
theorem RH.wI {h : Hp} {P : Pl} {L : Lw} {M : Mo} {d : Prop} {b : Int32} {A : Aw} {A' : Aw} {c s : Nat} {y : Int32} (x : RH h P L M d b A) (ok : POK P) (q : RS b c s) (r : RW (pI h c s y) P b A') (e : A'.2 = A.2 := by rfl) (k : c = 31 → bit y = true := by intro z; exact absurd z (by decide)) : RH (pI h c s y) P L M d b A' :=
  x.chU ok (RF.pI q k) (by rw [e]; exact x.2.2.2.1.mv (b := b) (RF.pI q k) (by rw [pI_l])) r
theorem RW.w32 {h : Hp} {P : Pl} {b y : Int32} {s : Nat} {A : Aw} (x : RW h P b A) : RW (pI h 32 s y) P b A := by
  obtain ⟨x1, x2, x3, x4, x5, x6, x7⟩ := x
  refine ⟨fun j j0 j1 => ?_, fun j j0 j1 => ?_, fun j j0 j1 => ?_, fun j j0 j1 => ?_, fun j j0 j1 => ?_, fun j j0 j1 => ?_, ?_⟩
  · rw [pI_n (by decide), x1 j j0 j1]
  · rw [pI_n (by decide), x2 j j0 j1]
  · rw [pI_n (by decide), x3 j j0 j1]
  · rw [pI_n (by decide), x4 j j0 j1]
  · rw [pI_n (by decide), x5 j j0 j1]
  · rw [pI_n (by decide), x6 j j0 j1]
  · rw [pI_n (by decide), pI_n (by decide), pI_n (by decide), pI_n (by decide), pI_n (by decide), pI_n (by decide)]
    exact x7
theorem RW.w0 {h : Hp} {P : Pl} {b y : Int32} {s : Nat} {A : Aw} (x : RW h P b A) : RW (pI h 0 s y) P b A := by
  obtain ⟨x1, x2, x3, x4, x5, x6, x7⟩ := x
  refine ⟨fun j j0 j1 => ?_, fun j j0 j1 => ?_, fun j j0 j1 => ?_, fun j j0 j1 => ?_, fun j j0 j1 => ?_, fun j j0 j1 => ?_, ?_⟩
  · rw [pI_n (by decide), x1 j j0 j1]
  · rw [pI_n (by decide), x2 j j0 j1]
  · rw [pI_n (by decide), x3 j j0 j1]
  · rw [pI_n (by decide), x4 j j0 j1]
  · rw [pI_n (by decide), x5 j j0 j1]
  · rw [pI_n (by decide), x6 j j0 j1]
  · rw [pI_n (by decide), pI_n (by decide), pI_n (by decide), pI_n (by decide), pI_n (by decide), pI_n (by decide)]
    exact x7
theorem lapR {h : Hp} {P : Pl} {L : Lw} {M : Mo} {d : Prop} {b : Int32} {A : Aw} {n : Nat} {i : Int32} (hb : BOK b) (ok : POK P) (x : RH h P L M d b A) (h0 : 0 ≤ i) (h1 : i < P 0 5) : ∃ h', lp_Md_hourGoes_7 TR (n + 1) h 0 b i = lp_Md_hourGoes_7 TR n h' 0 b (i + 1) ∧ RH h' P L M d b (lap1 P i A) ∧ RF b d h h' ∧ h'.1 0 68 = h.1 0 68 := by
  have g := x.g
  have o1 := ok.1
  have o5 := ok.2.2.2.2 i h0 h1
  have i24 : i < 24 := by lia
  have i6 : P 11 i < 6 := by lia
  have b2 : b < 2 := by rcases hb with rfl | rfl <;> decide
  have b3 : 0 ≤ b := by rcases hb with rfl | rfl <;> decide
  obtain ⟨b0, b1⟩ := ib0 hb o5.1 i6
  rw [lp_Md_hourGoes_7]
  simp (disch := first | assumption | decide | omega) only [lyR, rdR, wtR, bnd_q, nmd_q, pI_n, g]
  rw [if_neg (show ¬ P 0 5 ≤ i by lia)]
  unfold lap1 jb_Md_hourGoes_52
  by_cases q : P 13 i = A.1 0 0
  · rw [if_pos q, if_pos q, nmd_q]
    have e : gl (P 12 i) = P 12 i := if_neg (by lia)
    have r := x.2.2.2.2.w29 (y := P 12 i) hb ok o5.1 o5.2.1
    rw [e] at r
    exact ⟨_, rfl, x.wI ok (rs6 hb o5.1 i6 (by decide) (by decide)) r, RF.pI (rs6 hb o5.1 i6 (by decide) (by decide)), by rw [pI_n (by decide)]⟩
  · rw [if_neg q, if_neg q, nmd_q]
    exact ⟨h, rfl, x, RF.rf, rfl⟩
theorem wk2R {h : Hp} {P : Pl} {L : Lw} {M : Mo} {d : Prop} {b : Int32} {A : Aw} {i : Int32} (hb : BOK b) (ok : POK P) (lk : LOK L) (wo : WOK P A) (x : RH h P L M d b A) (h0 : 0 ≤ i) (h1 : i < P 0 4) : ∃ h', jb_Md_walks_79 TR h 0 b i (6 * b + i) = some h' ∧ RH h' P L M d b (wk2 P L M i A) ∧ RF b d h h' ∧ h'.1 0 68 = h.1 0 68 := by
  have g := x.g
  have o1 := ok.1
  have hi6 : i < 6 := by lia
  obtain ⟨b0, b1⟩ := ib0 hb h0 hi6
  obtain ⟨h2, e2, f2⟩ := amR (q := 0) 1 hb ok lk wo x h0 h1 (by decide)
  have e2' : f_Md_boundLaw TR h 0 b 0 i 1 = some (amt L (nmL P M.2.2 A i) 0 1, h2) := e2
  have x2 := x.mg ok f2
  unfold jb_Md_walks_79 wk2
  simp (disch := first | assumption | decide | omega) only [lyR, rdR, wtR, bnd_q, nmd_q, pI_n, g]
  rw [e2', bnd_q]
  simp (disch := first | assumption | decide | omega) only [wtR, bnd_q, fst_q, snd_q]
  have q := rs6 (c := 28) hb h0 hi6 (by decide) (by decide)
  exact ⟨_, rfl, x2.wI ok q (x2.2.2.2.2.w28 hb ok h0 h1), f2.RF.tr (RF.pI q), by rw [pI_n (by decide), f2.1 _ _ (by omega)]⟩
theorem way_e {p t w : Int32} (h0 : 0 ≤ p) (h1 : p ≤ 60) (h2 : 0 ≤ t) (h3 : t ≤ 60) (h4 : 1 ≤ w) (h5 : w ≤ 18) : (t ≤ p → w ≤ abI (t - p) → p + -w = p + mxI (-w) (mnI w (t - p))) ∧ (t ≤ p → ¬ w ≤ abI (t - p) → p + -abI (t - p) = p + mxI (-w) (mnI w (t - p))) ∧ (¬ t ≤ p → w ≤ abI (t - p) → p + w = p + mxI (-w) (mnI w (t - p))) ∧ (¬ t ≤ p → ¬ w ≤ abI (t - p) → p + abI (t - p) = p + mxI (-w) (mnI w (t - p))) ∧ (abI (t - p) ≤ 0 → p + mxI (-w) (mnI w (t - p)) = p) := by
  unfold mxI mnI abI
  refine ⟨?_, ?_, ?_, ?_, ?_⟩ <;> (repeat' split) <;> lia
theorem wlR {h : Hp} {P : Pl} {L : Lw} {M : Mo} {d : Prop} {b : Int32} {A : Aw} {i : Int32} (mo : MOK M) (hb : BOK b) (ok : POK P) (lk : LOK L) (wo : WOK P A) (x : RH h P L M d b A) (h0 : 0 ≤ i) (h1 : i < P 0 4) : ∃ h', f_Md_walks TR h 0 b i = some h' ∧ RH h' P L M d b (wk2 P L M i (wk1 P M i A)) ∧ RF b d h h' ∧ h'.1 0 68 = h.1 0 68 := by
  have g := x.g
  have o1 := ok.1
  have hi6 : i < 6 := by lia
  have w1 := wo.1 i h0 h1
  have o4 := ok.2.2.2.1 i h0 h1
  have ww := wk1_ok ok mo wo h0 h1
  obtain ⟨b0, b1⟩ := ib0 hb h0 hi6
  have hp : 1 ≤ P 10 i * M.2.2 ∧ P 10 i * M.2.2 ≤ 18 := by
    rcases mo with q | q <;> rw [q] <;> lia
  unfold f_Md_walks
  rw [nmd_q, faR hb ok wo x.1 x.2.2.2.2 h0 h1, bnd_q, paR ok x.1 x.2.2.1 h0 h1, bnd_q, bnd_q]
  unfold faA
  unfold wk1 at ww ⊢
  obtain ⟨g1, g2⟩ := gl_ok ok w1.2.2.2.2.2.2.1
  by_cases q2 : 0 ≤ A.1 4 i ∧ A.1 4 i < P 0 3
  case neg =>
    rw [if_neg q2, if_pos (by decide), if_neg q2]
    exact wk2R hb ok lk wo x h0 h1
  rw [if_pos q2] at ww
  rw [if_pos q2, if_pos q2]
  have o2 := ok.2.1 _ q2.1 q2.2
  obtain ⟨m1, m2, m3, m4, m5⟩ := way_e (p := A.1 1 i) (t := P 2 (A.1 4 i)) (w := P 10 i * M.2.2) w1.1 (by lia) o2.1 (by lia) hp.1 hp.2
  by_cases q3 : abI (P 2 (A.1 4 i) - A.1 1 i) ≤ 0
  · rw [if_pos q3, m5 q3, up_self]
    exact wk2R hb ok lk wo x h0 h1
  rw [if_neg q3]
  have q4 := g2 q2
  obtain ⟨q5, q6⟩ := q2
  have q7 : A.1 4 i < 12 := by lia
  have rs := rs6 (c := 27) hb h0 hi6 (by decide) (by decide)
  have fin : ∀ y, y = A.1 1 i + mxI (-(P 10 i * M.2.2)) (mnI (P 10 i * M.2.2) (P 2 (A.1 4 i) - A.1 1 i)) → ∃ h', jb_Md_walks_79 TR (pI h 27 (ix (6 * b + i)) y) 0 b i (6 * b + i) = some h' ∧ RH h' P L M d b (wk2 P L M i (up A 1 i (A.1 1 i + mxI (-(P 10 i * M.2.2)) (mnI (P 10 i * M.2.2) (P 2 (A.1 4 i) - A.1 1 i))))) ∧ RF b d h h' ∧ h'.1 0 68 = h.1 0 68 := by
    intro y hy
    rw [hy]
    have r := x.2.2.2.2.w27 (y := A.1 1 i + mxI (-(P 10 i * M.2.2)) (mnI (P 10 i * M.2.2) (P 2 (A.1 4 i) - A.1 1 i))) hb ok h0 h1
    obtain ⟨h', e, y', f, n⟩ := wk2R hb ok lk ww (x.wI ok rs r) h0 h1
    exact ⟨h', e, y', (RF.pI rs).tr f, n.trans (pI_n (by decide))⟩
  unfold jb_Md_walks_40 jb_Md_walks_77
  simp (disch := first | assumption | decide | omega) only [lyR, rdR, wtR, bnd_q, nmd_q, pI_n, g, q4]
  by_cases q8 : P 10 i * M.2.2 ≤ abI (P 2 (A.1 4 i) - A.1 1 i)
  · rw [if_pos q8]
    by_cases q9 : P 2 (A.1 4 i) ≤ A.1 1 i
    · rw [if_pos q9]
      exact fin _ (m1 q9 q8)
    · rw [if_neg q9]
      exact fin _ (m3 q9 q8)
  · rw [if_neg q8]
    by_cases q9 : P 2 (A.1 4 i) ≤ A.1 1 i
    · rw [if_pos q9]
      exact fin _ (m2 q9 q8)
    · rw [if_neg q9]
      exact fin _ (m4 q9 q8)
theorem wkR {h : Hp} {P : Pl} {L : Lw} {M : Mo} {d : Prop} {b : Int32} {A : Aw} {n : Nat} {i : Int32} (mo : MOK M) (hb : BOK b) (ok : POK P) (lk : LOK L) (wo : WOK P A) (x : RH h P L M d b A) (h0 : 0 ≤ i) (h1 : i < P 0 4) : ∃ h', lp_Md_hourGoes_60 TR (n + 1) h 0 b i = lp_Md_hourGoes_60 TR n h' 0 b (i + 1) ∧ RH h' P L M d b (wk P L M i A) ∧ RF b d h h' ∧ h'.1 0 68 = h.1 0 68 := by
  have g := x.g
  have o1 := ok.1
  have hi6 : i < 6 := by lia
  obtain ⟨b0, b1⟩ := ib0 hb h0 hi6
  rw [lp_Md_hourGoes_60]
  simp (disch := first | assumption | decide | omega) only [lyR, rdR, wtR, bnd_q, nmd_q, pI_n, g]
  rw [if_neg (show ¬ P 0 4 ≤ i by lia)]
  unfold wk jb_Md_hourGoes_88
  by_cases q : bt (A.1 0 2) i = 0
  · rw [if_pos q, if_pos q, nmd_q]
    exact ⟨h, rfl, x, RF.rf, rfl⟩
  · rw [if_neg q, if_neg q]
    obtain ⟨h', e, y, f, n⟩ := wlR mo hb ok lk wo x h0 h1
    rw [e, bnd_q, nmd_q]
    exact ⟨h', rfl, y, f, n⟩
/-- drinking, or not -/
def dkn (P : Pl) (L : Lw) (M : Mo) (i : Int32) (A : Aw) : Aw := if M.2.1 = 0 then A else dk P L M i A
theorem dkn_ok {P : Pl} {L : Lw} {M : Mo} {A : Aw} {i : Int32} (ok : POK P) (wo : WOK P A) (h0 : 0 ≤ i) (h1 : i < P 0 4) : WOK P (dkn P L M i A) := by
  unfold dkn
  split
  · exact wo
  · exact dk_ok ok wo h0 h1
theorem dka_e {P : Pl} {L : Lw} {M : Mo} {A : Aw} : dka P L M A = Fold (dkn P L M) (P 0 4) 0 (dz A) := by
  unfold dka
  by_cases q : M.2.1 = 0
  · rw [if_pos q]
    exact (Fold_id (fun i s => by unfold dkn; rw [if_pos q]) _ _ _).symm
  · rw [if_neg q]
    have : dkn P L M = dk P L M := by
      funext i s
      unfold dkn
      rw [if_neg q]
    rw [this]
theorem RD.wI {h : Hp} {b n i y : Int32} {A : Aw} (hb : BOK b) (h0 : 0 ≤ i) (h1 : i < 6) (n6 : n ≤ 6) (x : RD h b n A) : RD (pI h 32 (ix (6 * b + i)) y) b n (up A 5 i y) := by
  intro j j0 j1
  rw [p6 hb h0 h1 j0 (by lia), up_s, x j j0 j1]
theorem d141 {h : Hp} {P : Pl} {L : Lw} {M : Mo} {d : Prop} {b : Int32} {A : Aw} {i t s : Int32} (hb : BOK b) (ok : POK P) (x : RH h P L M d b A) (h0 : 0 ≤ i) (h1 : i < P 0 4) (t0 : 0 ≤ t) (t1 : t < P 0 3) (n : Int32) (n6 : n ≤ 6) (rd : RD h b n A) : ∃ h', jb_Md_drinks_141 TR h 0 b (6 * b + i) t s = some h' ∧ RH h' P L M d b (dk1 A i t s) ∧ RD h' b n (dk1 A i t s) ∧ RF b d h h' ∧ h'.1 0 68 = h.1 0 68 := by
  have g := x.g
  have o1 := ok.1
  have hi6 : i < 6 := by lia
  have ht6 : t < 6 := by lia
  have b2 : b < 2 := by rcases hb with rfl | rfl <;> decide
  have b3 : 0 ≤ b := by rcases hb with rfl | rfl <;> decide
  obtain ⟨b0, b1⟩ := ib0 hb h0 hi6
  obtain ⟨c0, c1⟩ := ib0 hb t0 ht6
  unfold jb_Md_drinks_141 dk1
  simp (disch := first | assumption | decide | omega) only [lyR, rdR, wtR, bnd_q, nmd_q, pI_n, g]
  have r28 := rs6 (c := 28) hb h0 hi6 (by decide) (by decide)
  have r33 := rs6 (c := 33) hb t0 ht6 (by decide) (by decide)
  have r32 := rs6 (c := 32) hb h0 hi6 (by decide) (by decide)
  have r36 := rs1 (b := b) (c := 36) (by decide) (by decide)
  have y1 := x.wI ok r28 (x.2.2.2.2.w28 (y := A.1 2 i - s) hb ok h0 h1)
  have y2 := y1.wI ok r33 (y1.2.2.2.2.w33 (y := A.1 6 t - s) hb ok t0 t1)
  have y3 := y2.wI (A' := up (up (up A 2 i (A.1 2 i - s)) 6 t (A.1 6 t - s)) 5 i s) (y := s) ok r32 (y2.2.2.2.2.w32.w5)
  have y4 := y3.wI ok r36 (y3.2.2.2.2.w36 (y := A.1 0 5 + s))
  refine ⟨_, rfl, y4, ?_, (((RF.pI r28).tr (RF.pI r33)).tr (RF.pI r32)).tr (RF.pI r36), by rw [pI_n (by decide), pI_n (by decide), pI_n (by decide), pI_n (by decide)]⟩
  have d1 : RD (pI (pI h 28 (ix (6 * b + i)) (A.1 2 i - s)) 33 (ix (6 * b + t)) (A.1 6 t - s)) b n (up (up A 2 i (A.1 2 i - s)) 6 t (A.1 6 t - s)) := by
    intro j j0 j1
    rw [pI_n (by decide), pI_n (by decide), up_n (by decide), up_n (by decide)]
    exact rd j j0 j1
  have d2 := d1.wI (y := s) hb h0 hi6 n6
  intro j j0 j1
  rw [pI_n (by decide), up_n (by decide)]
  exact d2 j j0 j1
theorem gul_e {a t u : Int32} : (a ≤ t → a ≤ u → mnI (mnI t u) a = a) ∧ (a ≤ t → ¬ a ≤ u → mnI (mnI t u) a = u) ∧ (¬ a ≤ t → t ≤ u → mnI (mnI t u) a = t) ∧ (¬ a ≤ t → ¬ t ≤ u → mnI (mnI t u) a = u) := by
  unfold mnI
  refine ⟨?_, ?_, ?_, ?_⟩ <;> (repeat' split) <;> lia
theorem dk_5 {P : Pl} {L : Lw} {M : Mo} {A : Aw} {i j : Int32} (q : ¬ j = i) : (dkn P L M i A).1 5 j = A.1 5 j := by
  unfold dkn dk dk1
  repeat' split
  all_goals try rfl
  rw [up_n (by decide), up_s, if_neg q, up_n (by decide), up_n (by decide)]
theorem dkR {h : Hp} {P : Pl} {L : Lw} {M : Mo} {d : Prop} {b : Int32} {A : Aw} {i : Int32} (hb : BOK b) (ok : POK P) (lk : LOK L) (wo : WOK P A) (x : RH h P L M d b A) (h0 : 0 ≤ i) (h1 : i < P 0 4) (rd : RD h b i A) (ra : A.1 5 i = 0) : ∃ h', f_Md_drinks TR h 0 b i = some h' ∧ RH h' P L M d b (dkn P L M i A) ∧ RD h' b (i + 1) (dkn P L M i A) ∧ RF b d h h' ∧ h'.1 0 68 = h.1 0 68 := by
  have g := x.g
  have o1 := ok.1
  have hi6 : i < 6 := by lia
  have w1 := wo.1 i h0 h1
  have b2 : b < 2 := by rcases hb with rfl | rfl <;> decide
  have b3 : 0 ≤ b := by rcases hb with rfl | rfl <;> decide
  obtain ⟨b0, b1⟩ := ib0 hb h0 hi6
  have ta := tat_ok ok w1.1 w1.2.1
  have hp60 : A.1 1 i ≤ 60 := by lia
  have r32 := rs6 (c := 32) hb h0 hi6 (by decide) (by decide)
  have x1 := x.wI (y := 0) ok r32 x.2.2.2.2.w32
  have rd1 : RD (pI h 32 (ix (6 * b + i)) 0) b (i + 1) A := by
    intro j j0 j1
    rw [p6 hb h0 hi6 j0 (by lia)]
    by_cases q : j = i
    · rw [if_pos q, q, ra]
    · rw [if_neg q]
      exact rd j j0 (by lia)
  have f1 : RF b d h (pI h 32 (ix (6 * b + i)) 0) := RF.pI r32
  have stop : ∃ h', some (pI h 32 (ix (6 * b + i)) 0) = some h' ∧ RH h' P L M d b A ∧ RD h' b (i + 1) A ∧ RF b d h h' ∧ h'.1 0 68 = h.1 0 68 := ⟨_, rfl, x1, rd1, f1, pI_n (by decide)⟩
  have m71 := x.2.2.1.2
  unfold f_Md_drinks
  simp (disch := first | assumption | decide | omega) only [lyR, rdR, wtR, bnd_q, nmd_q, pI_n, g, ftR ok x.1 w1.1 hp60]
  unfold dkn dk
  by_cases q0 : bt (A.1 0 2) i = 0
  · rw [if_pos q0, if_pos q0, ite_self]
    exact stop
  rw [if_neg q0, if_neg q0]
  by_cases q1 : M.2.1 = 0
  · rw [if_neg (fun z => m71.mp z q1), if_pos q1]
    exact stop
  rw [if_pos (m71.mpr q1), if_neg q1]
  by_cases q2 : P 5 (A.1 1 i) = -1
  · rw [if_pos q2, if_pos (by rw [q2]; decide)]
    exact stop
  obtain ⟨t0, t1, t2⟩ := ta q2
  have t6 : P 5 (A.1 1 i) < 6 := by lia
  obtain ⟨c0, c1⟩ := ib0 hb t0 t6
  have w6 := wo.2.1 _ t0 t1
  rw [if_neg q2, if_neg (show ¬ P 5 (A.1 1 i) < 0 by lia)]
  by_cases q3 : A.1 2 i = 0
  · rw [if_pos q3, if_pos (by lia)]
    exact stop
  rw [if_neg q3, if_neg (by lia)]
  simp (disch := first | assumption | decide | omega) only [lyR, rdR, wtR, bnd_q, nmd_q, pI_n, g]
  by_cases q4 : A.1 6 (P 5 (A.1 1 i)) = 0
  · rw [if_pos q4, if_pos (by lia)]
    exact stop
  rw [if_neg q4, if_neg (by lia)]
  obtain ⟨h2, e2, f2⟩ := amR (q := 1) 9 hb ok lk wo x1 h0 h1 (by decide)
  have e2' : f_Md_boundLaw TR (pI h 32 (ix (6 * b + i)) 0) 0 b 1 i 9 = some (amt L (nmL P M.2.2 A i) 1 9, h2) := e2
  have x2 := x1.mg ok f2
  have g2 := x2.g
  have rd2 : RD h2 b (i + 1) A := fun j j0 j1 => by
    rw [f2.1 _ _ (by omega)]
    exact rd1 j j0 j1
  rw [e2', bnd_q]
  unfold jb_Md_drinks_105
  clear g
  simp (disch := first | assumption | decide | omega) only [fst_q, snd_q, lyR, rdR, wtR, bnd_q, nmd_q, g2]
  obtain ⟨h3, e3, x3, rd3, f3, n3⟩ := d141 (s := gul P L M i A) hb ok x2 h0 h1 t0 t1 (i + 1) (by lia) rd2
  have fin : ∃ h', jb_Md_drinks_141 TR h2 0 b (6 * b + i) (P 5 (A.1 1 i)) (gul P L M i A) = some h' ∧ RH h' P L M d b (dk1 A i (P 5 (A.1 1 i)) (gul P L M i A)) ∧ RD h' b (i + 1) (dk1 A i (P 5 (A.1 1 i)) (gul P L M i A)) ∧ RF b d h h' ∧ h'.1 0 68 = h.1 0 68 := ⟨h3, e3, x3, rd3, (f1.tr f2.RF).tr f3, n3.trans ((f2.1 _ _ (by omega)).trans (pI_n (by decide)))⟩
  obtain ⟨m1, m2, m3, m4⟩ := gul_e (a := amt L (nmL P M.2.2 A i) 1 9) (t := A.1 2 i) (u := A.1 6 (P 5 (A.1 1 i)))
  unfold gul at fin ⊢
  by_cases k1 : amt L (nmL P M.2.2 A i) 1 9 ≤ A.1 2 i
  · rw [if_pos k1]
    by_cases k2 : amt L (nmL P M.2.2 A i) 1 9 ≤ A.1 6 (P 5 (A.1 1 i))
    · rw [if_pos k2]
      rw [m1 k1 k2] at fin ⊢
      exact fin
    · rw [if_neg k2]
      rw [m2 k1 k2] at fin ⊢
      exact fin
  · rw [if_neg k1]
    by_cases k2 : A.1 2 i ≤ A.1 6 (P 5 (A.1 1 i))
    · rw [if_pos k2]
      rw [m3 k1 k2] at fin ⊢
      exact fin
    · rw [if_neg k2]
      rw [m4 k1 k2] at fin ⊢
      exact fin
