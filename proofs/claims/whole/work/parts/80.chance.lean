/-! ten times by chance -/
def KG (h h' : Hp) : Prop := (∀ c s, ¬ RX c s → h'.1 c s = h.1 c s) ∧ (∀ c s, ¬ (c = 25 ∨ c = 26 ∨ (c = 0 ∧ s = 67)) → h'.2 c s = h.2 c s) ∧ (OZ h → OZ h')
theorem KG.tr {h h' h'' : Hp} (x : KG h h') (y : KG h' h'') : KG h h'' := ⟨fun c s q => (y.1 c s q).trans (x.1 c s q), fun c s q => (y.2.1 c s q).trans (x.2.1 c s q), fun q => y.2.2 (x.2.2 q)⟩
theorem KF.KG {h h' : Hp} (x : KF h h') : KG h h' := ⟨x.1, fun c s q => x.2.1 c s (by omega), x.2.2⟩
theorem RF.KG {h h' : Hp} (x : RF 1 True h h') : KG h h' := by
  have e6 : ix (6 * 1) = 6 := by decide
  have e1 : ix 1 = 1 := by decide
  refine ⟨fun c s q => x.1 c s (fun z => q ?_), fun c s q => x.2.1 c s (fun z => q ?_), x.2.2⟩
  · unfold RS at z
    unfold RX
    omega
  · rcases z with z | z | ⟨-, z⟩
    · exact .inl z
    · exact .inr (.inl z)
    · exact .inr (.inr z)
theorem RK.n {h : Hp} {P : Pl} {L : Lw} {A : Aw} {v : Int64} (x : RK h P L A) : RK (pL h 0 67 v) P L (A.1, v) :=
  ⟨x.1.q pL_l, x.2.1.mv (fun c s _ _ => by rw [pL_l]), x.2.2.1.q pL_l, fun i a b => by rw [pL_l]; exact x.2.2.2.1 i a b, by rw [pL_t, if_pos rfl], fun s => by rw [pL_l]; exact x.2.2.2.2.2 s⟩
/-- one of ten -/
theorem ch1 {hC h1 s s' : Hp} {P : Pl} {L : Lw} {A : Aw} {v : Int64} {n : Int32} (ok : POK P) (lk : LOK L) (wo : WOK P A) (on : ONK P 0 A) (n0 : 0 ≤ n) (n9 : n ≤ 99) (x : CNo s P L A) (m : s.1 72 2 = (mB P).1 ∧ s.1 72 3 = (mB P).2.1 ∧ s.1 72 4 = (mB P).2.2) (f : Fr SC hC s) (y : RK s' P L (A.1, v)) (kg : KG h1 s') :
    ∃ u u1 w w', f_Wo_become TC s 75 45 = some u ∧ f_Ho_pass TC (pL u 75 1 v) 72 75 n = some u1 ∧ f_Md_layTried TR s' 0 = some w ∧ f_Md_goMany TR (pI w 0 69 1) 0 n = some w' ∧ ∃ A' : Aw, (∀ t, 0 ≤ t → t < P 0 3 → u1.1 81 (ix t) = A'.1 6 t ∧ w'.1 33 (ix (6 + t)) = A'.1 6 t) ∧ u1.2 75 1 = A'.2 ∧ CNo u1 P L A ∧ (u1.1 72 2 = (mB P).1 ∧ u1.1 72 3 = (mB P).2.1 ∧ u1.1 72 4 = (mB P).2.2) ∧ Fr SC hC u1 ∧ RK w' P L (A.1, A'.2) ∧ KG h1 w' := by
  have W : WC 75 := .inr (.inr (.inl rfl))
  obtain ⟨u, e1, c1, f1⟩ := beC (w := 75) (v := 45) W (.inl rfl) (by decide) ok x.2.2
  have f1' : Fr SC s u := f1.mono fun c q => by unfold WR at q; unfold SC; omega
  have x1 := x.mv f1'
  have ch : CH u P L (mB P) 75 A := ⟨x1.1, x1.2.1, by
    rw [(f1 72 (fun q => by unfold WR at q; omega)).1]
    exact m, c1⟩
  have ch2 : CH (pL u 75 1 v) P L (mB P) 75 (A.1, v) := ch.sn W
  have wo' : WOK P (A.1, v) := wo
  have on' : ONK P 0 (A.1, v) := on
  obtain ⟨u1, e2, c2, f2⟩ := paC (N := n) mB_ok W ok lk wo' ch2 on' n0 (by lia)
  have f2' : Fr SC s u1 := (f1'.tr (Fr.pL (by unfold SC; omega))).tr (f2.mono fun c q => SC.of W (by decide) q)
  obtain ⟨w, e3, r1, -, kf, z1, z2, z3, z4⟩ := ltR ok y
  have k67 : w.2 0 67 = v := by
    rw [kf.2.1 0 67 (by decide)]
    exact y.2.2.2.2.1
  have m69 : (pI w 0 69 1).1 0 69 = 1 := by rw [pI_t, if_pos rfl]
  have m70 : (pI w 0 69 1).1 0 70 = 0 := by rw [pI_t, if_neg (by decide)]; exact z2
  obtain ⟨mo, rr⟩ := mBR (h := pI w 0 69 1) (P := P) (n := v) (by rw [m69]; decide) m70 (by rw [pI_t, if_neg (by decide)]; exact z3) (by rw [pI_t, if_neg (by decide)]; exact z4) (by rw [pI_l]; exact k67)
  have r2 : RH (pI w 0 69 1) P L (mB P) True 1 (A.1, v) := r1.md (gm (by decide) (by decide)) mo rr
  obtain ⟨w', e4, r3, f3⟩ := gmR (b := 0) (N := n) mB_ok ok lk wo' r2 on' n0 (by lia)
  have n69 : w'.1 0 69 = 1 := by rw [f3.1 0 69 (fun z => by unfold RS at z; omega)]; exact m69
  have n70 : w'.1 0 70 = 0 := by rw [f3.1 0 70 (fun z => by unfold RS at z; omega)]; exact m70
  have kk : KG s' w' := (kf.KG.tr (KF.pI (by unfold RX; omega) (by decide)).KG).tr f3.KG
  refine ⟨u, u1, w, w', e1, e2, e3, e4, hrN P L (mB P) n (A.1, v), fun t t0 t1 => ⟨?_, ?_⟩, c2.2.2.2.2.2.2, x.mv f2', c2.2.2.1, f.tr f2', ?_, kg.tr kk⟩
  · exact c2.2.2.2.2.1 t t0 t1
  · have := r3.2.2.2.2.2.2.2.2.2.1 t t0 t1
    rwa [i61] at this
  · have e67 := r3.2.2.2.1.dr (by rw [n69]; decide) n70
    have kf' : KF (pL s' 0 67 (hrN P L (mB P) n (A.1, v)).2) w' := by
      refine ⟨fun c s q => by rw [pL_l]; exact kk.1 c s q, fun c s q => ?_, fun q => kk.2.2 (fun s => by have := q s; rwa [pL_l] at this)⟩
      by_cases z : c = 0 ∧ s = 67
      · obtain ⟨rfl, rfl⟩ := z
        rw [pL_t, if_pos rfl]
        exact e67
      · rw [pL_2, kk.2.1 c s (by omega)]
        split
        · rw [if_neg (by omega)]
        · rfl
    exact (y.n (v := (hrN P L (mB P) n (A.1, v)).2)).mv ok kf'
theorem sp_chance : SP_chance Rl := by
  intro hC hR a1 a2 a3 a4 hr
  obtain ⟨P, L, A, B, X, U, p, x, y⟩ := hr
  have ok := p.1
  have o1 := ok.1
  have lk := p.2.1
  have wo := p.2.2.1
  have g := x.1.h.g
  simp only [Nat.reduceAdd] at g
  have xh := x.1.h
  have y1 := y.th (v := 0) ok
  have k := y1.1.g
  have sx := x.2.2.1
  have sr := y1.2.2.1
  refine q2_of p x y1 ?_
  have on := p.2.2.2.1
  have e12 := k.1.1
  have rk := y1.1
  unfold f_Tt_chance f_Md_chance
  simp only [nmd_q, isIn_e]
  generalize pI hR 0 2 0 = h1 at y1 k sr e12 rk ⊢
  simp only [lyC]
  rw [htC xh, htR e12]
  have stop : QQ hC h1 (some (-1, hC)) (some (-1, h1)) := ⟨_, _, _, rfl, rfl, Fr.rf, KF.rf⟩
  have no : jb_Tt_chance_42 TC hC 0 a1 a2 a3 a4 = some (-1, hC) := by
    unfold jb_Tt_chance_42 jb_Tt_chance_43
    rw [if_pos (rfl : (0 : Int32) = 0)]
  rw [no]
  by_cases q1 : a1 < 0
  · rw [if_pos q1, if_pos q1]
    exact stop
  rw [if_neg q1, if_neg q1]
  by_cases q2 : 1 ≤ a2 ∧ a2 ≤ 99
  case neg =>
    rw [if_neg q2, if_pos (rfl : (0 : Int32) = 0)]
    by_cases c : a2 < 1
    · rw [if_pos c]
      exact stop
    · rw [if_neg c, if_pos (by lia)]
      exact stop
  rw [if_pos q2, if_neg (show ¬ (1 : Int32) = 0 by decide), if_neg (show ¬ a2 < 1 by lia), if_neg (show ¬ (99 : Int32) < a2 by lia)]
  by_cases q3 : 0 ≤ a3 ∧ a3 < P 0 3
  case neg =>
    rw [if_neg q3, if_pos (rfl : (0 : Int32) = 0), if_pos (rfl : (0 : Int32) = 0)]
    exact stop
  rw [if_pos q3, if_neg (show ¬ (1 : Int32) = 0 by decide), if_neg (show ¬ (1 : Int32) = 0 by decide)]
  by_cases q4 : 0 ≤ a4 ∧ a4 ≤ 99
  case neg =>
    rw [if_neg q4, if_pos (rfl : (0 : Int32) = 0)]
    by_cases c : a4 < 0
    · rw [if_pos c]
      exact stop
    · rw [if_neg c, if_pos (by lia)]
      exact stop
  rw [if_pos q4, if_neg (show ¬ (1 : Int32) = 0 by decide), if_neg (show ¬ a4 < 0 by lia), if_neg (show ¬ (99 : Int32) < a4 by lia)]
  obtain ⟨t0, t1⟩ := q3
  have t6 : a3 < 6 := by lia
  have j0 : 0 ≤ 6 + a3 := by lia
  have j12 : 6 + a3 < 12 := by lia
  unfold jb_Tt_chance_43 f_Fo_timesOfTen
  simp only [nmd_q, lyC]
  rw [if_neg (show ¬ (1 : Int32) = 0 by decide)]
  obtain ⟨f1, m1, m2, m3⟩ := bycC x.1.1
  have f1' : Fr SC hC (f_Ho_byChance TC hC 72) := f1.mono fun c z => by unfold SC; omega
  have kg0 : KG h1 (pL h1 0 67 a1.toInt64) := ⟨fun c s _ => by rw [pL_l], fun c s q => by
    rw [pL_2]
    split
    · rw [if_neg (by omega)]
    · rfl, fun q s => by rw [pL_l]; exact q s⟩
  have key : QQ hC h1 (lp_Fo_timesOfTen_17 TC fu (f_Ho_byChance TC hC 72) 74 a2 a3 a4 a1.toInt64 0 0) (lp_Md_chance_58 TR fu (pL h1 0 67 a1.toInt64) 0 a2 a3 a4 (h1.2 0 67) 0 0) := by
    refine lock (S := Hp × Int64 × Int32) (S' := Hp × Int32) (N := 10) (lp := fun n i s => lp_Fo_timesOfTen_17 TC n s.1 74 a2 a3 a4 s.2.1 s.2.2 i) (lp' := fun n i s => lp_Md_chance_58 TR n s.1 0 a2 a3 a4 (h1.2 0 67) s.2 i) (QQ hC h1) (fun _ s s' => s.2.2 = s'.2 ∧ CNo s.1 P L A ∧ (s.1.1 72 2 = (mB P).1 ∧ s.1.1 72 3 = (mB P).2.1 ∧ s.1.1 72 4 = (mB P).2.2) ∧ Fr SC hC s.1 ∧ RK s'.1 P L (A.1, s.2.1) ∧ KG h1 s'.1) (by decide) (by decide) ?_ ?_ 0 (by decide) (by decide) (_, _, _) (_, _) ⟨rfl, x.1.mv f1', ⟨m1, m2, m3⟩, f1', rk.n, kg0⟩
    · intro n m s s' ⟨i1, i2, i3, i4, i5, i6⟩
      simp only [lp_Fo_timesOfTen_17, lp_Md_chance_58]
      rw [if_pos (by decide), if_pos (by decide), i1]
      simp only [nmd_q]
      refine ⟨_, _, _, rfl, rfl, i4, ⟨fun c s q => ?_, fun c s q => ?_, fun q s => ?_⟩⟩
      · rw [pL_l, pI_1]
        split
        · rw [if_neg (fun z => q (by unfold RX; omega))]
          exact i6.1 c s q
        · exact i6.1 c s q
      · rw [pL_2]
        split
        · rename_i z
          subst z
          split
          · rename_i z
            rw [z]
          · rw [pI_l]
            exact i6.2.1 0 s (by omega)
        · rw [pI_l]
          exact i6.2.1 c s (by omega)
      · rw [pL_l, pI_n (by decide)]
        exact i6.2.2 q s
    · intro n m i s s' i0 i1' ⟨i1, i2, i3, i4, i5, i6⟩
      obtain ⟨u, u1, w, w', e1, e2, e3, e4, A', ew, en, c1, c2, c3, c4, c5⟩ := ch1 (n := a2) ok lk wo on (by lia) q2.2 i2 i3 i4 i5 i6
      have eu := (ew a3 t0 t1).1
      have ew' := (ew a3 t0 t1).2
      simp only [lp_Fo_timesOfTen_17, lp_Md_chance_58]
      unfold jb_Fo_timesOfTen_86 jb_Md_chance_100
      simp only [lyC, lyR, nmd_q]
      rw [e1, e3, bnd_q, bnd_q, e2, e4, bnd_q, bnd_q]
      simp (disch := first | assumption | decide | omega) only [rdC, rdR, bnd_q, eu, ew', en]
      rw [if_neg (show ¬ (10 : Int32) ≤ i by lia), if_neg (show ¬ (10 : Int32) ≤ i by lia)]
      by_cases c : A'.1 6 a3 < a4
      · rw [if_pos c, if_pos c]
        exact .inr ⟨(u1, A'.2, s.2.2 + 0), (w', s'.2 + 0), rfl, rfl, by simp only; rw [i1], c1, c2, c3, c4, c5⟩
      · rw [if_neg c, if_neg c]
        exact .inr ⟨(u1, A'.2, s.2.2 + 1), (w', s'.2 + 1), rfl, rfl, by simp only; rw [i1], c1, c2, c3, c4, c5⟩
  obtain ⟨r, s1, s2, e1, e2, g1, g2⟩ := key
  rw [e1, e2, bnd_q]
  exact ⟨r, s1, s2, rfl, rfl, g1, g2⟩
