/-! the class: who meets, who falls, rain, an hour, hours -/
theorem enC {h : Hp} {P : Pl} {L : Lw} {M : Mo} {w : Nat} {A : Aw} {i j : Int32} (hw : WC w) (ok : POK P) (lk : LOK L) (wo : WOK P A) (x : CH h P L M w A) (h0 : 0 ≤ i) (h1 : i < P 0 4) (j0 : 0 ≤ j) (j1 : j < P 0 4) : f_Pl_areEnemies TC h 26 w i j = some (if A.1 1 i = A.1 1 j then (if P 7 i = P 7 j then 0 else if bt (A.1 0 2) i = 0 then 0 else if bt (A.1 0 2) j = 0 then 0 else 1) else 0) := by
  have g := x.g
  obtain ⟨l1, l2, l3, l4, l5, l6⟩ := hw.ly
  obtain ⟨r1, r2, r3, r4, r5, r6⟩ := hw.rd
  obtain ⟨t1, t2, t3, t4, t5, t6⟩ := hw.wt
  have o1 := ok.1
  have hi6 : i < 6 := by lia
  have hj6 : j < 6 := by lia
  unfold f_Pl_areEnemies
  simp (disch := first | assumption | decide | omega) only [lyC, l1, l2, l3, l4, l5, l6, r1, r2, r3, r4, r5, r6, t1, t2, t3, t4, t5, t6, rdC, wtC, bnd_q, nmd_q, pI_n, g]
  simp only [onC x]
  repeat' split
  all_goals rfl
theorem tkC {h : Hp} {P : Pl} {L : Lw} {M : Mo} {w : Nat} {A : Aw} {q : Int32} (hw : WC w) (x : CH h P L M w A) : CH (f_Wo_noteTalk TC h w q) P L M w (tk A q) ∧ Fr (WS w) h (f_Wo_noteTalk TC h w q) := by
  obtain ⟨-, -, ⟨c0, c2, c3, c4, c5, c6, c7, c8⟩, -⟩ := x.g
  unfold f_Wo_noteTalk tk
  simp only [nmd_q, c4]
  have y1 := x.s4 (y := A.1 0 4 + 1) hw
  have e6 := y1.2.2.2.2.2.1.2.2.2.2.2.1
  rw [up_s, if_neg (by decide)] at e6
  rw [e6]
  exact ⟨y1.s6 hw, fr_w (Fr.pI ws0) ws0⟩
theorem fgC {h : Hp} {P : Pl} {L : Lw} {M : Mo} {w : Nat} {A : Aw} {q : Int32} (hw : WC w) (x : CH h P L M w A) : CH (jb_Wo_noteFight_13 TC h w q) P L M w (fg A q) ∧ Fr (WS w) h (jb_Wo_noteFight_13 TC h w q) := by
  obtain ⟨-, -, ⟨c0, c2, c3, c4, c5, c6, c7, c8⟩, -⟩ := x.g
  unfold jb_Wo_noteFight_13 fg
  simp only [nmd_q, c3]
  have y1 := x.s3 (y := A.1 0 3 + 1) hw
  have e6 := y1.2.2.2.2.2.1.2.2.2.2.2.2.1
  rw [up_s, if_neg (by decide)] at e6
  rw [e6]
  exact ⟨y1.s7 hw, fr_w (Fr.pI ws0) ws0⟩
theorem nfC {h : Hp} {P : Pl} {L : Lw} {M : Mo} {w : Nat} {A : Aw} {q p : Int32} (hw : WC w) (x : CH h P L M w A) : CH (f_Wo_noteFight TC h w q p) P L M w (fg (fp A p) q) ∧ Fr (WS w) h (f_Wo_noteFight TC h w q p) := by
  obtain ⟨-, -, ⟨c0, c2, c3, c4, c5, c6, c7, c8⟩, -⟩ := x.g
  unfold f_Wo_noteFight fp
  rw [c8]
  by_cases z : A.1 0 8 = -1
  · rw [if_pos z, if_pos z]
    simp only [nmd_q]
    have y := fgC (q := q) hw (x.s8 (y := p) hw)
    exact ⟨y.1, (Fr.pI ws0).tr y.2⟩
  · rw [if_neg z, if_neg z]
    exact fgC hw x
theorem huC {h : Hp} {P : Pl} {L : Lw} {M : Mo} {w : Nat} {A : Aw} {i : Int32} (hw : WC w) (ok : POK P) (lk : LOK L) (wo : WOK P A) (x : CH h P L M w A) (h0 : 0 ≤ i) (h1 : i < P 0 4) : ∃ r h', f_Ho_amount TC h 72 w 2 i 1 = some r ∧ f_Wo_injure TC r.2 w i r.1 = some h' ∧ CH h' P L M w (hu P L M i A) ∧ Fr (WS w) h h' := by
  have g := x.g
  obtain ⟨l1, l2, l3, l4, l5, l6⟩ := hw.ly
  obtain ⟨r1, r2, r3, r4, r5, r6⟩ := hw.rd
  obtain ⟨t1, t2, t3, t4, t5, t6⟩ := hw.wt
  have o1 := ok.1
  have hi6 : i < 6 := by lia
  obtain ⟨h1', e1, f1⟩ := amC (q := 2) 1 hw ok lk wo x h0 h1 (by decide)
  have x1 := x.mv hw f1
  refine ⟨_, pI h1' (w + 3) (ix i) (mnI 9999 (A.1 3 i + amt L (nmL P M.2.2 A i) 2 1)), e1, ?_, ?_, fr_w (f1.mono fun c => WS.of) (wsr 3 (by decide))⟩
  · unfold f_Wo_injure
    have g := x1.g
    simp only [fst_q, snd_q]
    simp (disch := first | assumption | decide | omega) only [lyC, l1, l2, l3, l4, l5, l6, r1, r2, r3, r4, r5, r6, t1, t2, t3, t4, t5, t6, rdC, wtC, bnd_q, nmd_q, pI_n, g]
  · unfold hu
    exact x1.wr 3 (by decide) (by decide) hw h0
theorem fp_ok {P : Pl} {A : Aw} {p : Int32} (w : WOK P A) : WOK P (fp A p) := by
  unfold fp
  split
  · exact up0_ok (by decide) w
  · exact w
theorem fg_ok {P : Pl} {A : Aw} {p : Int32} (w : WOK P A) : WOK P (fg A p) := up0_ok (by decide) (up0_ok (by decide) w)
theorem meC {h : Hp} {P : Pl} {L : Lw} {M : Mo} {w : Nat} {A : Aw} {n : Nat} {c7 : Hp → Nat → Nat → Int32 → Option Hp} {i j : Int32} (hw : WC w) (ok : POK P) (lk : LOK L) (wo : WOK P A) (x : CH h P L M w A) (h0 : 0 ≤ i) (h1 : i < P 0 4) (j0 : 0 ≤ j) (j1 : j < P 0 4) : ∃ h', lp_Ho_encounter_22 TC c7 (n + 1) h 72 w i j = lp_Ho_encounter_22 TC c7 n h' 72 w i (j + 1) ∧ CH h' P L M w (me P L M i j A) ∧ Fr (WS w) h h' := by
  have g := x.g
  obtain ⟨l1, l2, l3, l4, l5, l6⟩ := hw.ly
  obtain ⟨r1, r2, r3, r4, r5, r6⟩ := hw.rd
  obtain ⟨t1, t2, t3, t4, t5, t6⟩ := hw.wt
  have o1 := ok.1
  have hi6 : i < 6 := by lia
  have hj6 : j < 6 := by lia
  have j137 : ∀ h', jb_Ho_encounter_137 TC c7 (lp_Ho_encounter_22 TC c7 n) h' 72 w i j = lp_Ho_encounter_22 TC c7 n h' 72 w i (j + 1) := fun h' => by
    unfold jb_Ho_encounter_137
    rw [nmd_q]
  rw [lp_Ho_encounter_22]
  simp (disch := first | assumption | decide | omega) only [lyC, l1, l2, l3, l4, l5, l6, r1, r2, r3, r4, r5, r6, t1, t2, t3, t4, t5, t6, rdC, wtC, bnd_q, nmd_q, pI_n, g]
  rw [if_neg (show ¬ P 0 4 ≤ j by lia), enC hw ok lk wo x h0 h1 j0 j1, bnd_q]
  unfold me jb_Ho_encounter_90
  simp only [j137, nmd_q]
  by_cases q1 : A.1 1 i = A.1 1 j
  case neg =>
    rw [if_neg q1, if_pos rfl, if_neg q1]
    exact ⟨h, rfl, x, Fr.rf⟩
  rw [if_pos q1, if_pos q1]
  by_cases q2 : P 7 i = P 7 j
  · rw [if_pos q2, if_pos rfl, if_pos q2]
    exact ⟨h, rfl, x, Fr.rf⟩
  rw [if_neg q2, if_neg q2]
  by_cases q3 : bt (A.1 0 2) i = 0
  · rw [if_pos q3, if_pos rfl, if_pos q3]
    exact ⟨h, rfl, x, Fr.rf⟩
  rw [if_neg q3, if_neg q3]
  by_cases q4 : bt (A.1 0 2) j = 0
  · rw [if_pos q4, if_pos rfl, if_pos q4]
    exact ⟨h, rfl, x, Fr.rf⟩
  rw [if_neg q4, if_neg q4, if_neg (by decide)]
  have ep : f_Wo_pairOf TC h (P 7 i) (P 7 j) = pai (P 7 i) (P 7 j) := rfl
  rw [ep]
  by_cases q5 : 0 < A.1 5 i
  · rw [if_pos q5, if_pos q5]
    exact ⟨_, rfl, tkC hw x⟩
  rw [if_neg q5, if_neg q5]
  by_cases q6 : A.1 5 j ≤ 0
  case neg =>
    rw [if_neg q6, if_neg q6]
    exact ⟨_, rfl, tkC hw x⟩
  rw [if_pos q6, if_pos q6]
  obtain ⟨y1, f1⟩ := nfC (q := pai (P 7 i) (P 7 j)) (p := A.1 1 i) hw x
  have o1 : WOK P (fg (fp A (A.1 1 i)) (pai (P 7 i) (P 7 j))) := fg_ok (fp_ok wo)
  obtain ⟨r2, h3, e2, e3, y3, f3⟩ := huC hw ok lk o1 y1 h0 h1
  obtain ⟨r4, h5, e4, e5, y5, f5⟩ := huC hw ok lk (hu_ok o1 h0 h1) y3 j0 j1
  rw [e2, bnd_q, e3, bnd_q, e4, bnd_q, e5, bnd_q]
  exact ⟨_, rfl, y5, (f1.tr f3).tr f5⟩
theorem flC {h : Hp} {P : Pl} {L : Lw} {M : Mo} {w : Nat} {A : Aw} {n : Nat} {i : Int32} (hw : WC w) (ok : POK P) (lk : LOK L) (wo : WOK P A) (x : CH h P L M w A) (h0 : 0 ≤ i) (h1 : i < P 0 4) : ∃ h', lp_Ho_fall_2 TC (n + 1) h 72 w i = lp_Ho_fall_2 TC n h' 72 w (i + 1) ∧ CH h' P L M w (fl i A) ∧ Fr (WS w) h h' := by
  have g := x.g
  obtain ⟨l1, l2, l3, l4, l5, l6⟩ := hw.ly
  obtain ⟨r1, r2, r3, r4, r5, r6⟩ := hw.rd
  obtain ⟨t1, t2, t3, t4, t5, t6⟩ := hw.wt
  have o1 := ok.1
  have hi6 : i < 6 := by lia
  have j35 : jb_Ho_fall_35 TC (lp_Ho_fall_2 TC n) h 72 w i = lp_Ho_fall_2 TC n (pI h w 2 (clr (A.1 0 2) i)) 72 w (i + 1) := by
    unfold jb_Ho_fall_35 jb_Ho_fall_49 clr
    simp only [nmd_q, g]
  rw [lp_Ho_fall_2]
  simp (disch := first | assumption | decide | omega) only [lyC, l1, l2, l3, l4, l5, l6, r1, r2, r3, r4, r5, r6, t1, t2, t3, t4, t5, t6, rdC, wtC, bnd_q, nmd_q, pI_n, g]
  rw [if_neg (show ¬ P 0 4 ≤ i by lia), j35]
  unfold jb_Ho_fall_49 fl
  simp only [nmd_q]
  have y : CH (pI h w 2 (clr (A.1 0 2) i)) P L M w (up A 0 2 (clr (A.1 0 2) i)) := x.s2 hw
  by_cases q : 100 ≤ A.1 2 i
  · rw [if_pos q, if_pos q]
    exact ⟨_, rfl, y, Fr.pI ws0⟩
  rw [if_neg q, if_neg q]
  by_cases q2 : A.1 3 i < 100
  · rw [if_pos q2, if_pos q2]
    exact ⟨_, rfl, x, Fr.rf⟩
  · rw [if_neg q2, if_neg q2]
    exact ⟨_, rfl, y, Fr.pI ws0⟩
theorem rn1C {h : Hp} {P : Pl} {L : Lw} {M : Mo} {w : Nat} {A : Aw} {n : Nat} {i : Int32} (hw : WC w) (ok : POK P) (x : CH h P L M w A) (h0 : 0 ≤ i) (h1 : i < P 0 3) : ∃ h', jb_Ho_rain_43 TC (lp_Ho_rain_2 TC n) h 72 w i = lp_Ho_rain_2 TC n h' 72 w (i + 1) ∧ CH h' P L M w (rn1 P i A) ∧ Fr (WS w) h h' := by
  have g := x.g
  obtain ⟨l1, l2, l3, l4, l5, l6⟩ := hw.ly
  obtain ⟨r1, r2, r3, r4, r5, r6⟩ := hw.rd
  obtain ⟨t1, t2, t3, t4, t5, t6⟩ := hw.wt
  have o1 := ok.1
  have hi6 : i < 6 := by lia
  unfold jb_Ho_rain_43 jb_Ho_rain_70 rn1
  simp (disch := first | assumption | decide | omega) only [lyC, l1, l2, l3, l4, l5, l6, r1, r2, r3, r4, r5, r6, t1, t2, t3, t4, t5, t6, rdC, wtC, bnd_q, nmd_q, pI_n, g]
  exact ⟨_, rfl, x.ww hw h0, Fr.pI (wsr 6 (by decide))⟩
theorem dnC {h : Hp} {P : Pl} {L : Lw} {M : Mo} {w : Nat} {A : Aw} (hw : WC w) (x : CH h P L M w A) : (f_Wo_drawNumber TC h w).1 = drx A ∧ CH (f_Wo_drawNumber TC h w).2 P L M w (drw A) ∧ Fr (WS w) h (f_Wo_drawNumber TC h w).2 := by
  have e2 := x.2.2.2.2.2.2
  unfold f_Wo_drawNumber
  rw [nmd_q, fst_q, snd_q, e2, pL_t, if_pos rfl]
  unfold drx
  rw [drw_2]
  refine ⟨rfl, ?_, Fr.pL ws0⟩
  rw [drw_e]
  exact x.sn hw
theorem rnC {h : Hp} {P : Pl} {L : Lw} {M : Mo} {w : Nat} {A : Aw} {n : Nat} {i : Int32} (hw : WC w) (ok : POK P) (x : CH h P L M w A) (hm : ¬ M.1 ≤ 0) (h0 : 0 ≤ i) (h1 : i < P 0 3) : ∃ h', lp_Ho_rain_2 TC (n + 1) h 72 w i = lp_Ho_rain_2 TC n h' 72 w (i + 1) ∧ CH h' P L M w (rn P M i A) ∧ Fr (WS w) h h' := by
  have g := x.g
  obtain ⟨l1, l2, l3, l4, l5, l6⟩ := hw.ly
  obtain ⟨r1, r2, r3, r4, r5, r6⟩ := hw.rd
  obtain ⟨t1, t2, t3, t4, t5, t6⟩ := hw.wt
  have o1 := ok.1
  rw [lp_Ho_rain_2]
  simp (disch := first | assumption | decide | omega) only [lyC, l1, l2, l3, l4, l5, l6, r1, r2, r3, r4, r5, r6, t1, t2, t3, t4, t5, t6, rdC, wtC, bnd_q, nmd_q, pI_n, g]
  rw [if_neg (show ¬ P 0 3 ≤ i by lia), if_neg hm]
  unfold rn
  rw [if_neg hm]
  by_cases q : 100 ≤ M.1
  · rw [if_pos q, if_pos q]
    exact rn1C hw ok x h0 h1
  rw [if_neg q, if_neg q]
  obtain ⟨d1, d2, d3⟩ := dnC hw x
  have em := d2.2.2.1.1
  rw [d1, em]
  by_cases q2 : M.1 ≤ drx A - drx A / 100 * 100
  · rw [if_pos q2, if_pos q2]
    unfold jb_Ho_rain_70
    rw [nmd_q]
    exact ⟨_, rfl, d2, d3⟩
  · rw [if_neg q2, if_neg q2]
    obtain ⟨h', e, y, f⟩ := rn1C (n := n) hw ok d2 h0 h1
    exact ⟨h', e, y, d3.tr f⟩
theorem loopF {S R : Type} {f : Int32 → S → S} {N : Int32} {lp : Nat → Hp → Int32 → Option R} {res : Hp → Option R} (I : Int32 → S → Hp → Prop) (hN0 : 0 ≤ N) (hN : N ≤ 900) (hend : ∀ n h s, I N s h → lp (n + 1) h N = res h) (hstep : ∀ n h i s, 0 ≤ i → i < N → I i s h → ∃ h', lp (n + 1) h i = lp n h' (i + 1) ∧ I (i + 1) (f i s) h') : ∀ i, 0 ≤ i → i ≤ N → ∀ s h, I i s h → ∃ h', lp fu h i = res h' ∧ I N (Fold f N i s) h' := by
  intro i h0 h1
  refine loop_fu (P := fun n i => i ≤ N → ∀ s h, I i s h → ∃ h', lp n h i = res h' ∧ I N (Fold f N i s) h') hN ?_ ?_ i h0 h1
  · intro n i h0 h1 h2 s h hI
    have e : i = N := by lia
    rw [Fold_ge h0 hN0 h1]
    subst e
    exact ⟨h, hend n h s hI, hI⟩
  · intro n i h0 h1 ih _ s h hI
    obtain ⟨h', e, hI'⟩ := hstep n h i s h0 h1 hI
    obtain ⟨h2, e2, hI2⟩ := ih (by lia) _ _ hI'
    rw [Fold_lt h0 h1]
    exact ⟨h2, e.trans e2, hI2⟩
theorem Fold_ok {P : Pl} {A : Aw} {f : Int32 → Aw → Aw} {N : Int32} (hN : 0 ≤ N) (hs : ∀ i s, 0 ≤ i → i < N → WOK P s → WOK P (f i s)) (w : WOK P A) : WOK P (Fold f N 0 A) :=
  Fold_inv (fun _ s => WOK P s) hN hs _ 0 A (by decide) hN rfl w
def CI (h0 : Hp) (P : Pl) (L : Lw) (M : Mo) (w : Nat) (A : Aw) (h : Hp) : Prop := CH h P L M w A ∧ WOK P A ∧ Fr (WS w) h0 h
theorem lap_on {P : Pl} {A : Aw} {l i : Int32} (o : ONK P i A) : ONK P i (lap1 P l A) := by
  unfold lap1
  split
  · intro j a b
    rw [up_n (by decide), up_n (by decide)]
    exact o j a b
  · exact o
theorem laps_ok {P : Pl} {A : Aw} (ok : POK P) (wo : WOK P A) (on : ONK P 0 A) : WOK P (Fold (lap1 P) (P 0 5) 0 A) ∧ ONK P 0 (Fold (lap1 P) (P 0 5) 0 A) :=
  Fold_inv (fun _ s => WOK P s ∧ ONK P 0 s) ok.1.2.2.2.2.1 (fun _ _ a b x => ⟨lap_ok ok x.1 a b, lap_on x.2⟩) _ 0 A (by decide) ok.1.2.2.2.2.1 rfl ⟨wo, on⟩
theorem lapsC {h : Hp} {P : Pl} {L : Lw} {M : Mo} {w : Nat} {A : Aw} (hw : WC w) (ok : POK P) (wo : WOK P A) (x : CH h P L M w A) : ∃ h', f_Ho_startLaps TC h 72 w = some h' ∧ CH h' P L M w (Fold (lap1 P) (P 0 5) 0 A) ∧ Fr (WS w) h h' := by
  have o1 := ok.1
  obtain ⟨h', e, i1, i2, i3⟩ := loopF (f := lap1 P) (N := P 0 5) (lp := fun n h i => lp_Ho_startLaps_2 TC n h 72 w i) (res := fun h => some h) (fun _ s h' => CI h P L M w s h') (by lia) (by lia)
    (fun n h s q => by
      have g := q.1.1.1
      simp only [lp_Ho_startLaps_2, lyC, g]
      rw [if_pos (by lia)])
    (fun n h2 i s a b q => by
      obtain ⟨h3, e, y, f⟩ := lapC (n := n) hw ok q.1 a b
      exact ⟨h3, e, y, lap_ok ok q.2.1 a b, q.2.2.tr f⟩) 0 (by decide) (by lia) A h ⟨x, wo, Fr.rf⟩
  exact ⟨h', e, i1, i3⟩
theorem wks_ok {P : Pl} {L : Lw} {M : Mo} {A : Aw} (ok : POK P) (mo : MOK M) (wo : WOK P A) (on : ONK P 0 A) : WOK P (Fold (wk P L M) (P 0 4) 0 A) :=
  (Fold_inv (fun i s => WOK P s ∧ ONK P i s) ok.1.2.2.1 (fun _ _ a b x => wk_ok ok mo x.1 x.2 a b) _ 0 A (by decide) ok.1.2.2.1 rfl ⟨wo, on⟩).1
theorem wksC {h : Hp} {P : Pl} {L : Lw} {M : Mo} {w : Nat} {A : Aw} (mo : MOK M) (hw : WC w) (ok : POK P) (lk : LOK L) (wo : WOK P A) (x : CH h P L M w A) (on : ONK P 0 A) : ∃ h', f_Ho_walk TC h 72 w = some h' ∧ CH h' P L M w (Fold (wk P L M) (P 0 4) 0 A) ∧ Fr (WS w) h h' := by
  have o1 := ok.1
  obtain ⟨h', e, ⟨i1, i2, i3⟩, -⟩ := loopF (f := wk P L M) (N := P 0 4) (lp := fun n h i => lp_Ho_walk_2 TC n h 72 w i) (res := fun h => some h) (fun i s h' => CI h P L M w s h' ∧ ONK P i s) (by lia) (by lia)
    (fun n h s q => by
      have g := q.1.1.1.1
      simp only [lp_Ho_walk_2, lyC, g]
      rw [if_pos (by lia)])
    (fun n h2 i s a b q => by
      obtain ⟨⟨q1, q2, q3⟩, q4⟩ := q
      obtain ⟨h3, e, y, f⟩ := wkC (n := n) mo hw ok lk q2 q1 a b
      have z := wk_ok (L := L) ok mo q2 q4 a b
      exact ⟨h3, e, ⟨y, z.1, q3.tr f⟩, z.2⟩) 0 (by decide) (by lia) A h ⟨⟨x, wo, Fr.rf⟩, on⟩
  exact ⟨h', e, i1, i3⟩
theorem pI_f {h : Hp} {c a d : Nat} {x : Int32} (e : ¬ d = c) : (pI h c a x).1 d = h.1 d := funext fun _ => pI_n e
theorem fillT {tb : Tb} {h : Hp} {c n : Nat} {v : Int32} (ha : al tb c = n) (hn : n ≤ 900) : ∃ h', f_Ar_fill tb h c v = some h' ∧ h'.2 = h.2 ∧ (∀ d, ¬ d = c → h'.1 d = h.1 d) ∧ (∀ j, j < n → h'.1 c j = v) ∧ (∀ j, n ≤ j → h'.1 c j = h.1 c j) := by
  have hN : nI n ≤ 900 := nI_le (b := 900) hn (by decide)
  have hN0 : 0 ≤ nI n := nI_pos' (by omega)
  obtain ⟨h', e, i1, i2, i3, i4⟩ := loopF (S := Unit) (f := fun _ s => s) (N := nI n) (lp := fun m h i => lp_Ar_fill_5 tb m h c v i (nI n)) (res := fun h => some h) (fun i _ h' => h'.2 = h.2 ∧ (∀ d, ¬ d = c → h'.1 d = h.1 d) ∧ (∀ j, j < ix i → h'.1 c j = v) ∧ (∀ j, n ≤ j → h'.1 c j = h.1 c j)) hN0 hN
    (fun m h s q => by
      simp only [lp_Ar_fill_5]
      rw [if_pos (by lia)])
    (fun m h2 i s a b q => by
      have hi : ix i < n := ix_lt a (by omega) b
      refine ⟨pI h2 c (ix i) v, ?_, ?_, ?_, ?_, ?_⟩
      · simp only [lp_Ar_fill_5]
        rw [if_neg (by lia), wI_i n ha (by omega) a b, bnd_q, nmd_q]
      · rw [pI_l]
        exact q.1
      · intro d hd
        rw [pI_f hd]
        exact q.2.1 d hd
      · intro j hj
        rw [ix_s a (by lia)] at hj
        rw [pI_t]
        by_cases z : j = ix i
        · rw [if_pos z]
        · rw [if_neg z]
          exact q.2.2.1 j (by omega)
      · intro j hj
        rw [pI_t, if_neg (by omega)]
        exact q.2.2.2 j hj) 0 (by decide) hN0 () h ⟨rfl, fun _ _ => rfl, fun j hj => by
          rw [ix_le0 (by decide)] at hj
          omega, fun _ _ => rfl⟩
  refine ⟨h', ?_, i1, i2, ?_, i4⟩
  · unfold f_Ar_fill
    rw [nmd_q, ha]
    exact e
  · intro j hj
    refine i3 j ?_
    rw [ix_nI (by omega)]
    exact hj
theorem Fr.of {S : Nat → Prop} {h h' : Hp} {c : Nat} (hc : S c) (e1 : h'.2 = h.2) (e2 : ∀ d, ¬ d = c → h'.1 d = h.1 d) : Fr S h h' := fun d hd => ⟨e2 d (fun z => hd (z ▸ hc)), by rw [e1]⟩
theorem dzC {h : Hp} {P : Pl} {L : Lw} {M : Mo} {w : Nat} {A : Aw} (hw : WC w) (ok : POK P) (x : CH h P L M w A) : ∃ h', f_Ar_fill TC h (w + 5) 0 = some h' ∧ CH h' P L M w (dz A) ∧ Fr (WS w) h h' := by
  have o1 := ok.1
  obtain ⟨a1, a2, a3, a4, a5, a6⟩ := hw.al
  obtain ⟨h', e, e1, e2, e3, -⟩ := fillT (tb := TC) (h := h) (v := 0) a5 (by decide)
  have f : Fr (WS w) h h' := Fr.of (wsr 5 (by decide)) e1 e2
  refine ⟨h', e, x.chU hw f ?_, f⟩
  obtain ⟨c1, c2, c3, c4⟩ := x.2.2.2
  refine ⟨fun q a b j d e => ?_, fun t a b => ?_, ?_, ?_⟩
  · by_cases z : q = 5
    · subst z
      rw [e3 _ (ix_lt (n := 6) d (by decide) (show j < 6 by lia))]
      rfl
    · rw [e2 _ (by omega), c1 q a b j d e]
      exact (if_neg z).symm
  · rw [e2 _ (by omega)]
    exact c2 t a b
  · rw [e2 _ (by omega)]
    exact c3
  · rw [e1]
    exact c4
theorem dka_ok {P : Pl} {L : Lw} {M : Mo} {A : Aw} (ok : POK P) (wo : WOK P A) : WOK P (dka P L M A) := by
  unfold dka
  split
  · exact dz_ok wo
  · exact Fold_ok ok.1.2.2.1 (fun _ _ a b x => dk_ok ok x a b) (dz_ok wo)
theorem dkaC {h : Hp} {P : Pl} {L : Lw} {M : Mo} {w : Nat} {A : Aw} (hw : WC w) (ok : POK P) (lk : LOK L) (wo : WOK P A) (x : CH h P L M w A) : ∃ h', f_Ho_drink TC h 72 w = some h' ∧ CH h' P L M w (dka P L M A) ∧ Fr (WS w) h h' := by
  have o1 := ok.1
  obtain ⟨l1, l2, l3, l4, l5, l6⟩ := hw.ly
  obtain ⟨h1, e1, y1, f1⟩ := dzC hw ok x
  unfold f_Ho_drink
  rw [l5, e1, bnd_q]
  unfold dka
  by_cases hd : M.2.1 = 0
  · rw [if_pos hd]
    refine ⟨h1, ?_, y1, f1⟩
    have g := y1.1.1
    have g2 := y1.2.2.1
    rw [show fu = 999 + 1 from rfl, lp_Ho_drink_10]
    simp only [lyC, g, g2]
    rw [if_pos hd]
    split <;> rfl
  rw [if_neg hd]
  obtain ⟨h', e, i1, i2, i3⟩ := loopF (f := dk P L M) (N := P 0 4) (lp := fun n h i => lp_Ho_drink_10 TC n h 72 w i) (res := fun h => some h) (fun i s h' => CI h P L M w s h') (by lia) (by lia)
    (fun n h s q => by
      have g := q.1.1.1
      simp only [lp_Ho_drink_10, lyC, g]
      rw [if_pos (by lia)])
    (fun n h2 i s a b q => by
      obtain ⟨q1, q2, q3⟩ := q
      obtain ⟨h3, e, y, f⟩ := dkC (n := n) hd hw ok lk q2 q1 a b
      exact ⟨h3, e, y, dk_ok ok q2 a b, q3.tr f⟩) 0 (by decide) (by lia) _ h1 ⟨y1, dz_ok wo, f1⟩
  exact ⟨h', e, i1, i3⟩
theorem me1_ok {P : Pl} {L : Lw} {M : Mo} {A : Aw} {i : Int32} (ok : POK P) (wo : WOK P A) (h0 : 0 ≤ i) (h1 : i < P 0 4) : WOK P (Fold (me P L M i) (P 0 4) (i + 1) A) :=
  Fold_inv (fun j s => i < j ∧ WOK P s) ok.1.2.2.1 (fun _ _ a b x => ⟨by lia, me_ok x.2 h0 h1 a b⟩) _ (i + 1) A (by lia) (by lia) rfl ⟨by lia, wo⟩ |>.2
theorem enc_ok {P : Pl} {L : Lw} {M : Mo} {A : Aw} (ok : POK P) (wo : WOK P A) : WOK P (enc P L M A) := by
  unfold enc
  exact Fold_ok ok.1.2.2.1 (fun _ _ a b x => me1_ok ok x a b) (up0_ok (by decide) wo)
theorem me1C {h : Hp} {P : Pl} {L : Lw} {M : Mo} {w : Nat} {A : Aw} {n : Nat} {i : Int32} (hw : WC w) (ok : POK P) (lk : LOK L) (wo : WOK P A) (x : CH h P L M w A) (h0 : 0 ≤ i) (h1 : i < P 0 4) : ∃ h', lp_Ho_encounter_7 TC (n + 1) h 72 w i = lp_Ho_encounter_7 TC n h' 72 w (i + 1) ∧ CH h' P L M w (Fold (me P L M i) (P 0 4) (i + 1) A) ∧ Fr (WS w) h h' := by
  have o1 := ok.1
  obtain ⟨h', e, i1, i2, i3⟩ := loopF (f := me P L M i) (N := P 0 4) (lp := fun m h j => lp_Ho_encounter_22 TC (lp_Ho_encounter_7 TC n) m h 72 w i j) (res := fun h => lp_Ho_encounter_7 TC n h 72 w (i + 1)) (fun j s h' => CI h P L M w s h') (by lia) (by lia)
    (fun n h s q => by
      have g := q.1.1.1
      simp only [lp_Ho_encounter_22, lyC, g]
      rw [if_pos (by lia), nmd_q])
    (fun n h2 j s a b q => by
      obtain ⟨q1, q2, q3⟩ := q
      obtain ⟨h3, e, y, f⟩ := meC (n := n) hw ok lk q2 q1 h0 h1 a b
      exact ⟨h3, e, y, me_ok q2 h0 h1 a b, q3.tr f⟩) (i + 1) (by lia) (by lia) _ h ⟨x, wo, Fr.rf⟩
  refine ⟨h', ?_, i1, i3⟩
  have g := x.1.1
  rw [lp_Ho_encounter_7]
  simp only [lyC, g, nmd_q]
  rw [if_neg (by lia)]
  exact e
theorem encC {h : Hp} {P : Pl} {L : Lw} {M : Mo} {w : Nat} {A : Aw} (hw : WC w) (ok : POK P) (lk : LOK L) (wo : WOK P A) (x : CH h P L M w A) : ∃ h', f_Ho_encounter TC h 72 w = some h' ∧ CH h' P L M w (enc P L M A) ∧ Fr (WS w) h h' := by
  have o1 := ok.1
  unfold f_Ho_encounter enc
  rw [nmd_q]
  obtain ⟨h', e, i1, i2, i3⟩ := loopF (f := fun i A => Fold (me P L M i) (P 0 4) (i + 1) A) (N := P 0 4) (lp := fun n h i => lp_Ho_encounter_7 TC n h 72 w i) (res := fun h => some h) (fun i s h' => CI h P L M w s h') (by lia) (by lia)
    (fun n h s q => by
      have g := q.1.1.1
      simp only [lp_Ho_encounter_7, lyC, g]
      rw [if_pos (by lia)])
    (fun n h2 i s a b q => by
      obtain ⟨q1, q2, q3⟩ := q
      obtain ⟨h3, e, y, f⟩ := me1C (n := n) hw ok lk q2 q1 a b
      exact ⟨h3, e, y, me1_ok ok q2 a b, q3.tr f⟩) 0 (by decide) (by lia) (up A 0 8 (-1)) (pI h w 8 (-1)) ⟨x.s8 hw, up0_ok (by decide) wo, Fr.pI ws0⟩
  exact ⟨h', e, i1, i3⟩
theorem fls_ok {P : Pl} {A : Aw} (ok : POK P) (wo : WOK P A) : WOK P (Fold fl (P 0 4) 0 A) := Fold_ok ok.1.2.2.1 (fun _ _ a b x => fl_ok ok x a b) wo
theorem flsC {h : Hp} {P : Pl} {L : Lw} {M : Mo} {w : Nat} {A : Aw} (hw : WC w) (ok : POK P) (lk : LOK L) (wo : WOK P A) (x : CH h P L M w A) : ∃ h', f_Ho_fall TC h 72 w = some h' ∧ CH h' P L M w (Fold fl (P 0 4) 0 A) ∧ Fr (WS w) h h' := by
  have o1 := ok.1
  obtain ⟨h', e, i1, i2, i3⟩ := loopF (f := fl) (N := P 0 4) (lp := fun n h i => lp_Ho_fall_2 TC n h 72 w i) (res := fun h => some h) (fun i s h' => CI h P L M w s h') (by lia) (by lia)
    (fun n h s q => by
      have g := q.1.1.1
      simp only [lp_Ho_fall_2, lyC, g]
      rw [if_pos (by lia)])
    (fun n h2 i s a b q => by
      obtain ⟨q1, q2, q3⟩ := q
      obtain ⟨h3, e, y, f⟩ := flC (n := n) hw ok lk q2 q1 a b
      exact ⟨h3, e, y, fl_ok ok q2 a b, q3.tr f⟩) 0 (by decide) (by lia) A h ⟨x, wo, Fr.rf⟩
  exact ⟨h', e, i1, i3⟩
theorem Fold_id {S : Type} {f : Int32 → S → S} (hf : ∀ i s, f i s = s) : ∀ (k : Nat) (i : Int32) (s : S), fld f k i s = s
  | 0, _, _ => rfl
  | k + 1, i, s => (Fold_id hf k (i + 1) (f i s)).trans (hf i s)
theorem rns_0 {P : Pl} {M : Mo} {A : Aw} {N i : Int32} (hm : M.1 ≤ 0) : Fold (rn P M) N i A = A := Fold_id (fun _ _ => by unfold rn; rw [if_pos hm]) _ _ _
theorem rns_ok {P : Pl} {M : Mo} {A : Aw} (ok : POK P) (wo : WOK P A) : WOK P (Fold (rn P M) (P 0 3) 0 A) := Fold_ok ok.1.1 (fun _ _ a b x => rn_ok ok x a b) wo
theorem rnsC {h : Hp} {P : Pl} {L : Lw} {M : Mo} {w : Nat} {A : Aw} (hw : WC w) (ok : POK P) (lk : LOK L) (wo : WOK P A) (x : CH h P L M w A) : ∃ h', f_Ho_rain TC h 72 w = some h' ∧ CH h' P L M w (Fold (rn P M) (P 0 3) 0 A) ∧ Fr (WS w) h h' := by
  have o1 := ok.1
  by_cases hm : M.1 ≤ 0
  · rw [rns_0 hm]
    refine ⟨h, ?_, x, Fr.rf⟩
    have g := x.1.1
    have g2 := x.2.2.1
    unfold f_Ho_rain
    rw [show fu = 999 + 1 from rfl, lp_Ho_rain_2]
    simp only [lyC, g, g2]
    rw [if_pos hm]
    split <;> rfl
  obtain ⟨h', e, i1, i2, i3⟩ := loopF (f := rn P M) (N := P 0 3) (lp := fun n h i => lp_Ho_rain_2 TC n h 72 w i) (res := fun h => some h) (fun i s h' => CI h P L M w s h') (by lia) (by lia)
    (fun n h s q => by
      have g := q.1.1.1
      simp only [lp_Ho_rain_2, lyC, g]
      rw [if_pos (by lia)])
    (fun n h2 i s a b q => by
      obtain ⟨q1, q2, q3⟩ := q
      obtain ⟨h3, e, y, f⟩ := rnC (n := n) hw ok q1 hm a b
      exact ⟨h3, e, y, rn_ok ok q2 a b, q3.tr f⟩) 0 (by decide) (by lia) A h ⟨x, wo, Fr.rf⟩
  exact ⟨h', e, i1, i3⟩
theorem hr5_ok {P : Pl} {L : Lw} {M : Mo} {A : Aw} (ok : POK P) (mo : MOK M) (wo : WOK P A) (on : ONK P 0 A) : WOK P (hr5 P L M A) := by
  unfold hr5
  obtain ⟨a1, a2⟩ := laps_ok ok wo on
  exact fls_ok ok (enc_ok ok (dka_ok ok (wks_ok ok mo a1 a2)))
theorem hr5C {h : Hp} {P : Pl} {L : Lw} {M : Mo} {w : Nat} {A : Aw} (mo : MOK M) (hw : WC w) (ok : POK P) (lk : LOK L) (wo : WOK P A) (x : CH h P L M w A) (on : ONK P 0 A) : ∃ h1 h2 h3 h4 h', f_Ho_startLaps TC h 72 w = some h1 ∧ f_Ho_walk TC h1 72 w = some h2 ∧ f_Ho_drink TC h2 72 w = some h3 ∧ f_Ho_encounter TC h3 72 w = some h4 ∧ f_Ho_fall TC h4 72 w = some h' ∧ CH h' P L M w (hr5 P L M A) ∧ Fr (WS w) h h' := by
  obtain ⟨a1, a2⟩ := laps_ok ok wo on
  obtain ⟨h1, e1, y1, f1⟩ := lapsC hw ok wo x
  obtain ⟨h2, e2, y2, f2⟩ := wksC mo hw ok lk a1 y1 a2
  have b2 := wks_ok (L := L) ok mo a1 a2
  obtain ⟨h3, e3, y3, f3⟩ := dkaC hw ok lk b2 y2
  have b3 := dka_ok (L := L) (M := M) ok b2
  obtain ⟨h4, e4, y4, f4⟩ := encC hw ok lk b3 y3
  have b4 := enc_ok (L := L) (M := M) ok b3
  obtain ⟨h5, e5, y5, f5⟩ := flsC hw ok lk b4 y4
  exact ⟨h1, h2, h3, h4, h5, e1, e2, e3, e4, e5, y5, (((f1.tr f2).tr f3).tr f4).tr f5⟩
def ONB (i : Int32) (A : Aw) : Prop := ∀ h, 0 ≤ h → h < i → bt (A.1 0 2) h = 1 → A.1 2 h < 100
theorem fl_on {P : Pl} {A : Aw} {i : Int32} (ok : POK P) (wo : WOK P A) (h0 : 0 ≤ i) (h1 : i < P 0 4) (o : ONB i A) : ONB (i + 1) (fl i A) := by
  have o1 := ok.1
  have m := wo.2.2
  intro j j0 j1
  have cl := clr_ok m.1 m.2.1 h0 (by lia) j0 (show j < 6 by lia)
  unfold fl
  by_cases q : 100 ≤ A.1 2 i
  · rw [if_pos q, up_s, if_pos rfl, up_n (by decide), cl.1]
    by_cases z : j = i
    · rw [if_pos z]
      intro k
      exact absurd k (by decide)
    · rw [if_neg z]
      exact o j j0 (by lia)
  rw [if_neg q]
  by_cases q2 : A.1 3 i < 100
  · rw [if_pos q2]
    by_cases z : j = i
    · intro _
      rw [z]
      lia
    · exact o j j0 (by lia)
  · rw [if_neg q2, up_s, if_pos rfl, up_n (by decide), cl.1]
    by_cases z : j = i
    · rw [if_pos z]
      intro k
      exact absurd k (by decide)
    · rw [if_neg z]
      exact o j j0 (by lia)
theorem fls_on {P : Pl} {A : Aw} (ok : POK P) (wo : WOK P A) : ONK P 0 (Fold fl (P 0 4) 0 A) :=
  (Fold_inv (fun i s => WOK P s ∧ ONB i s) ok.1.2.2.1 (fun _ _ a b x => ⟨fl_ok ok x.1 a b, fl_on ok x.1 a b x.2⟩) _ 0 A (by decide) ok.1.2.2.1 rfl ⟨wo, fun j a b => absurd b (by lia)⟩).2
theorem rn_02 {P : Pl} {M : Mo} {t : Int32} {A : Aw} : (∀ j, (rn P M t A).1 0 j = A.1 0 j) ∧ ∀ j, (rn P M t A).1 2 j = A.1 2 j := by
  unfold rn
  by_cases q1 : M.1 ≤ 0
  · rw [if_pos q1]
    exact ⟨fun _ => rfl, fun _ => rfl⟩
  rw [if_neg q1]
  by_cases q2 : 100 ≤ M.1
  · rw [if_pos q2]
    exact ⟨fun _ => up_n (by decide), fun _ => up_n (by decide)⟩
  rw [if_neg q2]
  by_cases q3 : M.1 ≤ drx A - drx A / 100 * 100
  · rw [if_pos q3, drw_1]
    exact ⟨fun _ => rfl, fun _ => rfl⟩
  · rw [if_neg q3]
    unfold rn1
    refine ⟨fun _ => ?_, fun _ => ?_⟩
    · rw [up_n (by decide), drw_1]
    · rw [up_n (by decide), drw_1]
theorem rns_02 {P : Pl} {M : Mo} {N : Int32} {A : Aw} (hN : 0 ≤ N) : (∀ j, (Fold (rn P M) N 0 A).1 0 j = A.1 0 j) ∧ ∀ j, (Fold (rn P M) N 0 A).1 2 j = A.1 2 j :=
  Fold_inv (fun _ s => (∀ j, s.1 0 j = A.1 0 j) ∧ ∀ j, s.1 2 j = A.1 2 j) hN (fun i s _ _ x => ⟨fun j => rn_02.1 j |>.trans (x.1 j), fun j => rn_02.2 j |>.trans (x.2 j)⟩) _ 0 A (by decide) hN rfl ⟨fun _ => rfl, fun _ => rfl⟩
theorem hr_ok {P : Pl} {L : Lw} {M : Mo} {A : Aw} (ok : POK P) (mo : MOK M) (wo : WOK P A) (on : ONK P 0 A) : WOK P (hr P L M A) ∧ ONK P 0 (hr P L M A) := by
  have w5 : WOK P (hr5 P L M A) := hr5_ok ok mo wo on
  have n5 : ONK P 0 (hr5 P L M A) := by
    unfold hr5
    obtain ⟨a1, a2⟩ := laps_ok ok wo on
    exact fls_on ok (enc_ok ok (dka_ok ok (wks_ok ok mo a1 a2)))
  have o1 := ok.1
  unfold hr hr7
  suffices h : WOK P (hr6 P M (hr5 P L M A)) ∧ ONK P 0 (hr6 P M (hr5 P L M A)) by
    refine ⟨up0_ok (by decide) h.1, ?_⟩
    intro j a b
    rw [up_s, if_neg (by decide), up_n (by decide)]
    exact h.2 j a b
  unfold hr6
  split
  · refine ⟨rns_ok ok w5, ?_⟩
    obtain ⟨r1, r2⟩ := rns_02 (P := P) (M := M) (N := P 0 3) (A := hr5 P L M A) (by lia)
    intro j a b
    rw [r1, r2]
    exact n5 j a b
  · exact ⟨w5, n5⟩
theorem hrC {h : Hp} {P : Pl} {L : Lw} {M : Mo} {w : Nat} {A : Aw} {n : Nat} {i N : Int32} (mo : MOK M) (hw : WC w) (ok : POK P) (lk : LOK L) (wo : WOK P A) (x : CH h P L M w A) (on : ONK P 0 A) (h1 : i < N) : ∃ h', lp_Ho_pass_2 TC (n + 1) h 72 w N i = lp_Ho_pass_2 TC n h' 72 w N (i + 1) ∧ CH h' P L M w (hr P L M A) ∧ Fr (WS w) h h' := by
  obtain ⟨a1, a2, a3, a4, a5, e1, e2, e3, e4, e5, y5, f5⟩ := hr5C mo hw ok lk wo x on
  have w5 := hr5_ok (L := L) ok mo wo on
  have j49 : ∀ (h : Hp) (A : Aw), CH h P L M w A → ∃ h', jb_Ho_pass_49 TC (lp_Ho_pass_2 TC n) h 72 w N i = lp_Ho_pass_2 TC n h' 72 w N (i + 1) ∧ CH h' P L M w (hr7 A) ∧ Fr (WS w) h h' := by
    intro h A x
    have c0 := x.2.2.2.2.2.1.1
    unfold jb_Ho_pass_49 hr7
    rw [nmd_q, nmd_q, c0]
    exact ⟨_, rfl, x.s0 hw, Fr.pI ws0⟩
  have c0 := y5.2.2.2.2.2.1.1
  rw [lp_Ho_pass_2, if_neg (by lia), e1, bnd_q, e2, bnd_q, e3, bnd_q, e4, bnd_q, e5, bnd_q, c0]
  unfold hr hr6
  by_cases q : (hr5 P L M A).1 0 0 - (hr5 P L M A).1 0 0 / 10 * 10 = 9
  · rw [if_pos q, if_pos q]
    obtain ⟨a6, e6, y6, f6⟩ := rnsC hw ok lk w5 y5
    rw [e6, bnd_q]
    obtain ⟨a7, e7, y7, f7⟩ := j49 _ _ y6
    exact ⟨a7, e7, y7, (f5.tr f6).tr f7⟩
  · rw [if_neg q, if_neg q]
    obtain ⟨a7, e7, y7, f7⟩ := j49 _ _ y5
    exact ⟨a7, e7, y7, f5.tr f7⟩
def hrN (P : Pl) (L : Lw) (M : Mo) (N : Int32) (A : Aw) : Aw := Fold (fun _ A => hr P L M A) N 0 A
theorem hrN_ok {P : Pl} {L : Lw} {M : Mo} {N : Int32} {A : Aw} (ok : POK P) (mo : MOK M) (wo : WOK P A) (on : ONK P 0 A) (hN : 0 ≤ N) : WOK P (hrN P L M N A) ∧ ONK P 0 (hrN P L M N A) :=
  Fold_inv (fun _ s => WOK P s ∧ ONK P 0 s) hN (fun _ _ _ _ x => hr_ok ok mo x.1 x.2) _ 0 A (by decide) hN rfl ⟨wo, on⟩
/-- hours go by -/
theorem paC {h : Hp} {P : Pl} {L : Lw} {M : Mo} {w : Nat} {A : Aw} {N : Int32} (mo : MOK M) (hw : WC w) (ok : POK P) (lk : LOK L) (wo : WOK P A) (x : CH h P L M w A) (on : ONK P 0 A) (h0 : 0 ≤ N) (h1 : N ≤ 900) : ∃ h', f_Ho_pass TC h 72 w N = some h' ∧ CH h' P L M w (hrN P L M N A) ∧ Fr (WS w) h h' := by
  obtain ⟨h', e, ⟨i1, i2, i3⟩, -⟩ := loopF (f := fun _ A => hr P L M A) (N := N) (lp := fun n h i => lp_Ho_pass_2 TC n h 72 w N i) (res := fun h => some h) (fun i s h' => CI h P L M w s h' ∧ ONK P 0 s) h0 h1
    (fun n h s q => by
      simp only [lp_Ho_pass_2]
      rw [if_pos (by lia)])
    (fun n h2 i s a b q => by
      obtain ⟨⟨q1, q2, q3⟩, q4⟩ := q
      obtain ⟨h3, e, y, f⟩ := hrC (n := n) mo hw ok lk q2 q1 q4 b
      have z := hr_ok (L := L) ok mo q2 q4
      exact ⟨h3, e, ⟨y, z.1, q3.tr f⟩, z.2⟩) 0 (by decide) h0 A h ⟨⟨x, wo, Fr.rf⟩, on⟩
  exact ⟨h', e, i1, i3⟩
