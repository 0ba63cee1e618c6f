/-! the reference: the hour in one -/
def RI (h0 : Hp) (P : Pl) (L : Lw) (M : Mo) (d : Prop) (b : Int32) (A : Aw) (h : Hp) : Prop := RH h P L M d b A ∧ WOK P A ∧ RF b d h0 h
theorem lapsR {h : Hp} {P : Pl} {L : Lw} {M : Mo} {d : Prop} {b : Int32} {A : Aw} (hb : BOK b) (ok : POK P) (wo : WOK P A) (x : RH h P L M d b A) : ∃ h', lp_Md_hourGoes_7 TR fu h 0 b 0 = lp_Md_hourGoes_60 TR fu h' 0 b 0 ∧ RH h' P L M d b (Fold (lap1 P) (P 0 5) 0 A) ∧ RF b d h h' ∧ h'.1 0 68 = h.1 0 68 := by
  have o1 := ok.1
  obtain ⟨h', e, ⟨i1, i2, i3⟩, i4⟩ := loopF (f := lap1 P) (N := P 0 5) (lp := fun n h i => lp_Md_hourGoes_7 TR n h 0 b i) (res := fun h => lp_Md_hourGoes_60 TR fu h 0 b 0) (fun _ s h' => RI h P L M d b s h' ∧ h'.1 0 68 = h.1 0 68) (by lia) (by lia)
    (fun n h s q => by
      have g := q.1.1.1.1
      simp only [lp_Md_hourGoes_7, g]
      rw [if_pos (by lia)])
    (fun n h2 i s a b q => by
      obtain ⟨⟨q1, q2, q3⟩, q4⟩ := q
      obtain ⟨h3, e, y, f, k⟩ := lapR (n := n) hb ok q1 a b
      exact ⟨h3, e, ⟨y, lap_ok ok q2 a b, q3.tr f⟩, k.trans q4⟩) 0 (by decide) (by lia) A h ⟨⟨x, wo, RF.rf⟩, rfl⟩
  exact ⟨h', e, i1, i3, i4⟩
theorem wksR {h : Hp} {P : Pl} {L : Lw} {M : Mo} {d : Prop} {b : Int32} {A : Aw} (mo : MOK M) (hb : BOK b) (ok : POK P) (lk : LOK L) (wo : WOK P A) (x : RH h P L M d b A) (on : ONK P 0 A) : ∃ h', lp_Md_hourGoes_60 TR fu h 0 b 0 = lp_Md_hourGoes_96 TR fu h' 0 b 0 ∧ RH h' P L M d b (Fold (wk P L M) (P 0 4) 0 A) ∧ RF b d h h' ∧ h'.1 0 68 = h.1 0 68 := by
  have o1 := ok.1
  obtain ⟨h', e, ⟨i1, i2, i3⟩, i4, i5⟩ := loopF (f := wk P L M) (N := P 0 4) (lp := fun n h i => lp_Md_hourGoes_60 TR n h 0 b i) (res := fun h => lp_Md_hourGoes_96 TR fu h 0 b 0) (fun i s h' => RI h P L M d b s h' ∧ h'.1 0 68 = h.1 0 68 ∧ ONK P i s) (by lia) (by lia)
    (fun n h s q => by
      have g := q.1.1.1.1
      simp only [lp_Md_hourGoes_60, g]
      rw [if_pos (by lia)])
    (fun n h2 i s a b q => by
      obtain ⟨⟨q1, q2, q3⟩, q4, q5⟩ := q
      obtain ⟨h3, e, y, f, k⟩ := wkR (n := n) mo hb ok lk q2 q1 a b
      have z := wk_ok (L := L) ok mo q2 q5 a b
      exact ⟨h3, e, ⟨y, z.1, q3.tr f⟩, k.trans q4, z.2⟩) 0 (by decide) (by lia) A h ⟨⟨x, wo, RF.rf⟩, rfl, on⟩
  exact ⟨h', e, i1, i3, i4⟩
theorem dkaR {h : Hp} {P : Pl} {L : Lw} {M : Mo} {d : Prop} {b : Int32} {A : Aw} (hb : BOK b) (ok : POK P) (lk : LOK L) (wo : WOK P A) (x : RH h P L M d b A) : ∃ h', lp_Md_hourGoes_96 TR fu h 0 b 0 = lp_Md_hourGoes_118 TR fu h' 0 b 0 ∧ RH h' P L M d b (dka P L M A) ∧ RD h' b (P 0 4) (dka P L M A) ∧ RF b d h h' ∧ h'.1 0 68 = h.1 0 68 := by
  have o1 := ok.1
  have y : RH h P L M d b (dz A) := ⟨x.1, x.2.1, x.2.2.1, x.2.2.2.1, x.2.2.2.2.eq fun r j q => dz_n q⟩
  rw [dka_e]
  obtain ⟨h', e, ⟨i1, i2, i3⟩, i4, i5, i6⟩ := loopF (f := dkn P L M) (N := P 0 4) (lp := fun n h i => lp_Md_hourGoes_96 TR n h 0 b i) (res := fun h => lp_Md_hourGoes_118 TR fu h 0 b 0) (fun i s h' => RI h P L M d b s h' ∧ RD h' b i s ∧ h'.1 0 68 = h.1 0 68 ∧ ∀ j, i ≤ j → s.1 5 j = 0) (by lia) (by lia)
    (fun n h s q => by
      have g := q.1.1.1.1
      simp only [lp_Md_hourGoes_96, g]
      rw [if_pos (by lia)])
    (fun n h2 i s a c q => by
      obtain ⟨⟨q1, q2, q3⟩, q4, q5, q6⟩ := q
      obtain ⟨h3, e, y, z, f, k⟩ := dkR hb ok lk q2 q1 a c q4 (q6 i (by lia))
      have g := q1.1.1
      refine ⟨h3, ?_, ⟨y, dkn_ok ok q2 a c, q3.tr f⟩, z, k.trans q5, fun j hj => ?_⟩
      · simp only [lp_Md_hourGoes_96, g]
        rw [if_neg (by lia), e, bnd_q, nmd_q]
      · rw [dk_5 (by lia)]
        exact q6 j (by lia)) 0 (by decide) (by lia) _ h ⟨⟨y, dz_ok wo, RF.rf⟩, fun j j0 j1 => absurd j1 (by lia), rfl, fun j _ => dz_5⟩
  exact ⟨h', e, i1, i4, i3, i5⟩
def RM (h : Hp) (P : Pl) (b : Int32) (A : Aw) : Prop := RD h b (P 0 4) A ∧ h.1 0 68 = A.1 0 8 ∧ FPK A
theorem me1R {h : Hp} {P : Pl} {L : Lw} {M : Mo} {d : Prop} {b : Int32} {A : Aw} {n : Nat} {i : Int32} (hb : BOK b) (ok : POK P) (lk : LOK L) (wo : WOK P A) (x : RH h P L M d b A) (h0 : 0 ≤ i) (h1 : i < P 0 4) (rm : RM h P b A) : ∃ h', lp_Md_hourGoes_118 TR (n + 1) h 0 b i = lp_Md_hourGoes_118 TR n h' 0 b (i + 1) ∧ RH h' P L M d b (Fold (me P L M i) (P 0 4) (i + 1) A) ∧ RM h' P b (Fold (me P L M i) (P 0 4) (i + 1) A) ∧ RF b d h h' := by
  have o1 := ok.1
  obtain ⟨h', e, ⟨i1, i2, i3⟩, i4⟩ := loopF (f := me P L M i) (N := P 0 4) (lp := fun m h j => lp_Md_hourGoes_130 TR (lp_Md_hourGoes_118 TR n) m h 0 b i j) (res := fun h => lp_Md_hourGoes_118 TR n h 0 b (i + 1)) (fun j s h' => RI h P L M d b s h' ∧ RM h' P b s) (by lia) (by lia)
    (fun n h s q => by
      have g := q.1.1.1.1
      simp only [lp_Md_hourGoes_130, g]
      rw [if_pos (by lia), nmd_q])
    (fun n h2 j s a c q => by
      obtain ⟨⟨q1, q2, q3⟩, q4, q5, q6⟩ := q
      obtain ⟨h3, e, y, z1, z2, z3, f⟩ := meR hb ok lk q2 q1 h0 h1 a c q4 q5 q6
      have g := q1.1.1
      refine ⟨h3, ?_, ⟨y, me_ok q2 h0 h1 a c, q3.tr f⟩, z1, z2, z3⟩
      simp only [lp_Md_hourGoes_130, g]
      rw [if_neg (by lia), e, bnd_q, nmd_q]) (i + 1) (by lia) (by lia) _ h ⟨⟨x, wo, RF.rf⟩, rm⟩
  refine ⟨h', ?_, i1, i4, i3⟩
  have g := x.1.1
  rw [lp_Md_hourGoes_118]
  simp only [g, nmd_q]
  rw [if_neg (by lia)]
  exact e
theorem encR {h : Hp} {P : Pl} {L : Lw} {M : Mo} {d : Prop} {b : Int32} {A : Aw} (hb : BOK b) (ok : POK P) (lk : LOK L) (wo : WOK P A) (x : RH h P L M d b A) (rd : RD h b (P 0 4) A) (r68 : h.1 0 68 = -1) : ∃ h', lp_Md_hourGoes_118 TR fu h 0 b 0 = lp_Md_hourGoes_159 TR fu h' 0 b 0 ∧ RH h' P L M d b (enc P L M A) ∧ RM h' P b (enc P L M A) ∧ RF b d h h' := by
  have o1 := ok.1
  have y : RH h P L M d b (up A 0 8 (-1)) := ⟨x.1, x.2.1, x.2.2.1, x.2.2.2.1, x.2.2.2.2.w8⟩
  have rm : RM h P b (up A 0 8 (-1)) := by
    refine ⟨fun j j0 j1 => ?_, ?_, ?_⟩
    · rw [up_n (by decide)]
      exact rd j j0 j1
    · rw [r68, up_s, if_pos rfl]
    · unfold FPK
      rw [up_s, if_pos rfl]
      exact .inl rfl
  unfold enc
  obtain ⟨h', e, ⟨i1, i2, i3⟩, i4⟩ := loopF (f := fun i A => Fold (me P L M i) (P 0 4) (i + 1) A) (N := P 0 4) (lp := fun n h i => lp_Md_hourGoes_118 TR n h 0 b i) (res := fun h => lp_Md_hourGoes_159 TR fu h 0 b 0) (fun i s h' => RI h P L M d b s h' ∧ RM h' P b s) (by lia) (by lia)
    (fun n h s q => by
      have g := q.1.1.1.1
      simp only [lp_Md_hourGoes_118, g]
      rw [if_pos (by lia)])
    (fun n h2 i s a c q => by
      obtain ⟨⟨q1, q2, q3⟩, q4⟩ := q
      obtain ⟨h3, e, y, z, f⟩ := me1R (n := n) hb ok lk q2 q1 a c q4
      exact ⟨h3, e, ⟨y, me1_ok ok q2 a c, q3.tr f⟩, z⟩) 0 (by decide) (by lia) _ h ⟨⟨y, up0_ok (by decide) wo, RF.rf⟩, rm⟩
  exact ⟨h', e, i1, i4, i3⟩
theorem fl_58 {i k : Int32} {A : Aw} : (fl i A).1 5 k = A.1 5 k ∧ (fl i A).1 0 8 = A.1 0 8 := by
  unfold fl
  repeat' split
  all_goals first | exact ⟨rfl, rfl⟩ | exact ⟨up_n (by decide), by rw [up_s, if_neg (by decide)]⟩
theorem flsR {h : Hp} {P : Pl} {L : Lw} {M : Mo} {d : Prop} {b : Int32} {A : Aw} (hb : BOK b) (ok : POK P) (wo : WOK P A) (x : RH h P L M d b A) (rm : RM h P b A) : ∃ h', lp_Md_hourGoes_159 TR fu h 0 b 0 = lp_Md_hourGoes_237 TR fu h' 0 b 0 ∧ RH h' P L M d b (Fold fl (P 0 4) 0 A) ∧ RM h' P b (Fold fl (P 0 4) 0 A) ∧ RF b d h h' := by
  have o1 := ok.1
  obtain ⟨h', e, ⟨i1, i2, i3⟩, i4⟩ := loopF (f := fl) (N := P 0 4) (lp := fun n h i => lp_Md_hourGoes_159 TR n h 0 b i) (res := fun h => lp_Md_hourGoes_237 TR fu h 0 b 0) (fun i s h' => RI h P L M d b s h' ∧ RM h' P b s) (by lia) (by lia)
    (fun n h s q => by
      have g := q.1.1.1.1
      simp only [lp_Md_hourGoes_159, g]
      rw [if_pos (by lia)])
    (fun n h2 i s a c q => by
      obtain ⟨⟨q1, q2, q3⟩, q4, q5, q6⟩ := q
      obtain ⟨h3, e, y, f, z1, z2⟩ := flR (n := n) hb ok q2 q1 a c
      refine ⟨h3, e, ⟨y, fl_ok ok q2 a c, q3.tr f⟩, fun j j0 j1 => ?_, ?_, ?_⟩
      · rw [z1, fl_58.1]
        exact q4 j j0 j1
      · rw [z2, (fl_58 (k := 0)).2]
        exact q5
      · unfold FPK
        rw [(fl_58 (k := 0)).2]
        exact q6) 0 (by decide) (by lia) _ h ⟨⟨x, wo, RF.rf⟩, rm⟩
  exact ⟨h', e, i1, i4, i3⟩
theorem rn_58 {P : Pl} {M : Mo} {i k : Int32} {A : Aw} : (rn P M i A).1 5 k = A.1 5 k ∧ (rn P M i A).1 0 k = A.1 0 k := by
  refine ⟨?_, rn_02.1 k⟩
  rw [rn_e]
  split
  · unfold rn1
    rw [up_n (by decide), rnA_1]
  · rw [rnA_1]
theorem rnsR {h : Hp} {P : Pl} {L : Lw} {M : Mo} {d : Prop} {b : Int32} {A : Aw} (hb : BOK b) (ok : POK P) (wo : WOK P A) (x : RH h P L M d b A) (rm : RM h P b A) : ∃ h', lp_Md_hourGoes_237 TR fu h 0 b 0 = jb_Md_hourGoes_317 TR h' 0 b ∧ RH h' P L M d b (hr6 P M A) ∧ RM h' P b (hr6 P M A) ∧ RF b d h h' := by
  have o1 := ok.1
  have b2 : b < 2 := by rcases hb with rfl | rfl <;> decide
  have b3 : 0 ≤ b := by rcases hb with rfl | rfl <;> decide
  unfold hr6
  by_cases q9 : A.1 0 0 - A.1 0 0 / 10 * 10 = 9
  · rw [if_pos q9]
    obtain ⟨h', e, ⟨i1, i2, i3⟩, i4, i5⟩ := loopF (f := rn P M) (N := P 0 3) (lp := fun n h i => lp_Md_hourGoes_237 TR n h 0 b i) (res := fun h => jb_Md_hourGoes_317 TR h 0 b) (fun i s h' => RI h P L M d b s h' ∧ RM h' P b s ∧ s.1 0 0 = A.1 0 0) (by lia) (by lia)
      (fun n h s q => by
        have g := q.1.1.1.1
        simp only [lp_Md_hourGoes_237, g]
        rw [if_pos (by lia)])
      (fun n h2 i s a c q => by
        obtain ⟨⟨q1, q2, q3⟩, ⟨q4, q5, q6⟩, q7⟩ := q
        obtain ⟨h3, e, y, f, z1, z2⟩ := rnR (n := n) hb ok q1 a c (by rw [q7]; exact q9)
        refine ⟨h3, e, ⟨y, rn_ok ok q2 a c, q3.tr f⟩, ⟨fun j j0 j1 => ?_, ?_, ?_⟩, rn_58.2.trans q7⟩
        · rw [z1, rn_58.1]
          exact q4 j j0 j1
        · rw [z2, rn_58.2]
          exact q5
        · unfold FPK
          rw [rn_58.2]
          exact q6) 0 (by decide) (by lia) _ h ⟨⟨x, wo, RF.rf⟩, rm, rfl⟩
    exact ⟨h', e, i1, i4, i3⟩
  · rw [if_neg q9]
    refine ⟨h, ?_, x, rm, RF.rf⟩
    have g := x.g
    rw [show fu = 999 + 1 from rfl, lp_Md_hourGoes_237]
    simp (disch := first | assumption | decide | omega) only [lyR, rdR, wtR, bnd_q, nmd_q, pI_n, g]
    rw [if_neg q9]
    split <;> rfl
/-- an hour of the reference -/
theorem hrR {h : Hp} {P : Pl} {L : Lw} {M : Mo} {d : Prop} {b : Int32} {A : Aw} (mo : MOK M) (hb : BOK b) (ok : POK P) (lk : LOK L) (wo : WOK P A) (x : RH h P L M d b A) (on : ONK P 0 A) : ∃ h', f_Md_hourGoes TR h 0 b = some h' ∧ RH h' P L M d b (hr P L M A) ∧ RM h' P b (hr P L M A) ∧ RF b d h h' := by
  have b2 : b < 2 := by rcases hb with rfl | rfl <;> decide
  have b3 : 0 ≤ b := by rcases hb with rfl | rfl <;> decide
  have k68 : RS b 0 68 := .inl ⟨rfl, .inr rfl⟩
  have k37 := rs1 (b := b) (c := 37) (by decide) (by decide)
  have x0 := x.wI (y := -1) ok k68 x.2.2.2.2.w0
  obtain ⟨a1, a2⟩ := laps_ok ok wo on
  obtain ⟨h1, e1, y1, f1, n1⟩ := lapsR hb ok wo x0
  obtain ⟨h2, e2, y2, f2, n2⟩ := wksR mo hb ok lk a1 y1 a2
  have b2 := wks_ok (L := L) ok mo a1 a2
  obtain ⟨h3, e3, y3, z3, f3, n3⟩ := dkaR hb ok lk b2 y2
  have b3 := dka_ok (L := L) (M := M) ok b2
  obtain ⟨h4, e4, y4, z4, f4⟩ := encR hb ok lk b3 y3 z3 (by rw [n3, n2, n1, pI_t, if_pos rfl])
  have b4 := enc_ok (L := L) (M := M) ok b3
  obtain ⟨h5, e5, y5, z5, f5⟩ := flsR hb ok b4 y4 z4
  have b5 := fls_ok ok b4
  obtain ⟨h6, e6, y6, z6, f6⟩ := rnsR hb ok b5 y5 z5
  have e5' : Fold fl (P 0 4) 0 (enc P L M (dka P L M (Fold (wk P L M) (P 0 4) 0 (Fold (lap1 P) (P 0 5) 0 A)))) = hr5 P L M A := rfl
  have ehr : hr P L M A = up (hr6 P M (hr5 P L M A)) 0 0 ((hr6 P M (hr5 P L M A)).1 0 0 + 1) := rfl
  rw [e5'] at y6 z6
  have g := y6.g
  rw [ehr]
  have y7 := y6.wI ok k37 (y6.2.2.2.2.w37 (y := (hr6 P M (hr5 P L M A)).1 0 0 + 1))
  refine ⟨_, ?_, y7, ⟨fun j j0 j1 => ?_, ?_, ?_⟩, (((((((RF.pI k68).tr f1).tr f2).tr f3).tr f4).tr f5).tr f6).tr (RF.pI k37)⟩
  · unfold f_Md_hourGoes
    rw [nmd_q, e1, e2, e3, e4, e5, e6]
    unfold jb_Md_hourGoes_317
    simp (disch := first | assumption | decide | omega) only [lyR, rdR, wtR, bnd_q, nmd_q, pI_n, g]
  · rw [pI_n (by decide), up_n (by decide)]
    exact z6.1 j j0 j1
  · rw [pI_n (by decide), up_s, if_neg (by decide)]
    exact z6.2.1
  · unfold FPK
    rw [up_s, if_neg (by decide)]
    exact z6.2.2
