/-! what comes: ahead, falls, nextFight, runsDry, meet -/
theorem q2_of {hC hR : Hp} {c m : Option (Int32 × Hp)} {P : Pl} {L : Lw} {A B : Aw} {X : Pl} {U : Ud} (p : PRel P L A B X U) (x : CRel hC P L A B X) (y : RRel hR P L A B X U) (h : ∃ r s s', c = some (r, s) ∧ m = some (r, s') ∧ Fr SC hC s ∧ KF hR s') : ∃ r r', c = some r ∧ m = some r' ∧ r.1 = r'.1 ∧ Rl r.2 r'.2 := by
  obtain ⟨r, s, s', e1, e2, f1, f2⟩ := h
  exact ⟨(r, s), (r, s'), e1, e2, rfl, Rl.mk p (x.mv f1) (y.mv p.1 f2)⟩
/-- both trials stand alike -/
def TI (hC hR : Hp) (P : Pl) (L : Lw) (M : Mo) (A : Aw) (s s' : Hp) : Prop := CH s P L M 75 A ∧ RH s' P L M False 1 A ∧ WOK P A ∧ ONK P 0 A ∧ Fr SC hC s ∧ KF hR s'
theorem ti0 {hC hR : Hp} {P : Pl} {L : Lw} {A : Aw} (ok : POK P) (wo : WOK P A) (on : ONK P 0 A) (x : CNo hC P L A) (y : RK hR P L A) : ∃ s s', f_Fo_beginTrial TC hC 74 = some s ∧ f_Md_layTried TR hR 0 = some s' ∧ TI hC hR P L (mT P) A s s' := by
  obtain ⟨s, e, c, f⟩ := btC ok x
  obtain ⟨s', e', c', -, f', -⟩ := ltR ok y
  exact ⟨s, s', e, e', c, c', wo, on, f, f'⟩
theorem ti1 {hC hR s s' : Hp} {P : Pl} {L : Lw} {M : Mo} {A : Aw} (mo : MOK M) (ok : POK P) (lk : LOK L) (t : TI hC hR P L M A s s') : ∃ t t', f_Ho_pass TC s 72 75 1 = some t ∧ f_Md_hourGoes TR s' 0 1 = some t' ∧ TI hC hR P L M (hr P L M A) t t' ∧ RM t' P 1 (hr P L M A) := by
  obtain ⟨c, r, wo, on, f, f'⟩ := t
  have w : WC 75 := .inr (.inr (.inl rfl))
  obtain ⟨t, e, c1, g⟩ := paC (N := 1) mo w ok lk wo c on (by decide) (by decide)
  obtain ⟨t', e', r1, rm, g'⟩ := hrR mo (.inr rfl) ok lk wo r on
  rw [hrN_1] at c1
  have z := hr_ok (L := L) ok mo wo on
  exact ⟨t, t', e, e', ⟨c1, r1, z.1, z.2, f.tr (g.mono fun c q => SC.of w (by decide) q), f'.tr g'.KF⟩, rm⟩
theorem tiN {hC hR s s' : Hp} {P : Pl} {L : Lw} {M : Mo} {A : Aw} {N : Int32} (mo : MOK M) (ok : POK P) (lk : LOK L) (h0 : 0 ≤ N) (h1 : N ≤ 900) (t : TI hC hR P L M A s s') : ∃ t t', f_Ho_pass TC s 72 75 N = some t ∧ f_Md_goMany TR s' 0 N = some t' ∧ TI hC hR P L M (hrN P L M N A) t t' := by
  obtain ⟨c, r, wo, on, f, f'⟩ := t
  have w : WC 75 := .inr (.inr (.inl rfl))
  obtain ⟨t, e, c1, g⟩ := paC (N := N) mo w ok lk wo c on h0 h1
  obtain ⟨t', e', r1, g'⟩ := gmR (b := 0) mo ok lk wo r on h0 h1
  have z := hrN_ok (L := L) ok mo wo on h0
  exact ⟨t, t', e, e', ⟨c1, r1, z.1, z.2, f.tr (g.mono fun c q => SC.of w (by decide) q), f'.tr g'.KF⟩⟩
theorem i61 {i : Int32} : 6 * 1 + i = 6 + i := by lia
/-- reads in the trials -/
theorem TI.g {hC hR s s' : Hp} {P : Pl} {L : Lw} {M : Mo} {A : Aw} (t : TI hC hR P L M A s s') :
    (∀ i, f_Wo_isOn TC s 75 i = bt (A.1 0 2) i) ∧ (∀ i, 0 ≤ i → i < P 0 4 → s.1 76 (ix i) = A.1 1 i) ∧ (∀ i, 0 ≤ i → i < P 0 4 → s.1 77 (ix i) = A.1 2 i) ∧ (∀ i, 0 ≤ i → i < P 0 3 → s.1 81 (ix i) = A.1 6 i) ∧ s.1 75 8 = A.1 0 8 ∧ s.1 75 3 = A.1 0 3 ∧ s.1 75 4 = A.1 0 4 ∧ s.1 75 2 = A.1 0 2 ∧
    (∀ i, 0 ≤ i → i < P 0 4 → s'.1 31 (ix (6 + i)) = bt (A.1 0 2) i) ∧ (∀ i, 0 ≤ i → i < P 0 4 → s'.1 27 (ix (6 + i)) = A.1 1 i) ∧ (∀ i, 0 ≤ i → i < P 0 4 → s'.1 28 (ix (6 + i)) = A.1 2 i) ∧ (∀ i, 0 ≤ i → i < P 0 3 → s'.1 33 (ix (6 + i)) = A.1 6 i) ∧ s'.1 34 (ix 1) = A.1 0 3 ∧ s'.1 35 (ix 1) = A.1 0 4 := by
  obtain ⟨c, r, -⟩ := t
  have g := c.g
  simp only [Nat.reduceAdd] at g
  have k := r.g
  simp only [i61] at k
  exact ⟨fun i => onC c, g.2.2.2.2.2.2.2.2.2.2.2.2.2.2.2.2.1, g.2.2.2.2.2.2.2.2.2.2.2.2.2.2.2.2.2.1, g.2.2.2.2.2.2.2.2.2.2.2.2.2.2.2.2.2.2.2.2.2, g.2.2.1.2.2.2.2.2.2.2, g.2.2.1.2.2.1, g.2.2.1.2.2.2.1, g.2.2.1.2.1, k.2.2.2.2.2.2.2.2.2.2.2.2.2.2.2.2.2.1, k.2.2.2.2.2.2.2.2.2.2.2.2.2.1, k.2.2.2.2.2.2.2.2.2.2.2.2.2.2.1, k.2.2.2.2.2.2.2.2.2.2.2.2.2.2.2.2.2.2.1, k.2.2.2.2.2.2.2.2.2.2.2.2.2.2.2.2.2.2.2.1, k.2.2.2.2.2.2.2.2.2.2.2.2.2.2.2.2.2.2.2.2.1⟩
def QQ (hC hR : Hp) (a b : Option (Int32 × Hp)) : Prop := ∃ r s s', a = some (r, s) ∧ b = some (r, s') ∧ Fr SC hC s ∧ KF hR s'
theorem sp_falls : SP_falls Rl := by
  intro hC hR a1 hr
  obtain ⟨P, L, A, B, X, U, p, x, y⟩ := hr
  have ok := p.1
  have o1 := ok.1
  have lk := p.2.1
  have wo := p.2.2.1
  have g := x.1.h.g
  simp only [Nat.reduceAdd] at g
  have xh := x.1.h
  have y1 := y.th (v := 0) ok
  have k := y1.1.g
  have sx := x.2.2.1
  have sr := y1.2.2.1
  refine q2_of p x y1 ?_
  have on := p.2.2.2.1
  have e13 := k.1.2.1
  have rk := y1.1
  unfold f_Tt_falls f_Md_falls
  simp only [nmd_q]
  generalize pI hR 0 2 0 = h1 at y1 k sr e13 rk ⊢
  simp only [lyC]
  rw [hhC g.1.2.2.2.2.1, hhR e13]
  by_cases q : 0 ≤ a1 ∧ a1 < P 0 4
  case neg =>
    rw [if_neg q, if_pos (rfl : (0 : Int32) = 0), if_pos (rfl : (0 : Int32) = 0)]
    exact ⟨_, _, _, rfl, rfl, Fr.rf, KF.rf⟩
  rw [if_pos q, if_neg (show ¬ (1 : Int32) = 0 by decide), if_neg (show ¬ (1 : Int32) = 0 by decide)]
  obtain ⟨a0, a4⟩ := q
  have j0 : 0 ≤ 6 + a1 := by lia
  have j12 : 6 + a1 < 12 := by lia
  obtain ⟨s, s', e, e', t⟩ := ti0 ok wo on x.1 rk
  unfold f_Fo_hoursToFall
  rw [e, e', bnd_q, bnd_q]
  have key : QQ hC h1 (lp_Fo_hoursToFall_6 TC fu s 74 a1 0) (lp_Md_falls_21 TR fu s' 0 a1 0) := by
    refine lock (S := Hp) (S' := Hp) (N := 200) (lp := fun n i s => lp_Fo_hoursToFall_6 TC n s 74 a1 i) (lp' := fun n i s => lp_Md_falls_21 TR n s 0 a1 i) (QQ hC h1) (fun _ s s' => ∃ A, TI hC h1 P L (mT P) A s s') (by decide) (by decide) ?_ ?_ 0 (by decide) (by decide) s s' ⟨A, t⟩
    · intro n m s s' ⟨A, t⟩
      simp only [lp_Fo_hoursToFall_6, lp_Md_falls_21]
      rw [if_pos (by decide), if_pos (by decide)]
      exact ⟨_, _, _, rfl, rfl, t.2.2.2.2.1, t.2.2.2.2.2⟩
    · intro n m i s s' i0 i1 ⟨A, t⟩
      have tg := t.g
      obtain ⟨u, u', e, e', t', -⟩ := ti1 mT_ok ok lk t
      simp only [lp_Fo_hoursToFall_6, lp_Md_falls_21]
      simp (disch := first | assumption | decide | omega) only [lyC, lyR, rdR, nmd_q, bnd_q, tg, e, e']
      rw [if_neg (show ¬ (199 : Int32) < i by lia), if_neg (show ¬ (200 : Int32) ≤ i by lia)]
      by_cases c : bt (A.1 0 2) a1 = 0
      · rw [if_pos c, if_pos c]
        exact .inl ⟨_, _, _, rfl, rfl, t.2.2.2.2.1, t.2.2.2.2.2⟩
      · rw [if_neg c, if_neg c]
        exact .inr ⟨u, u', rfl, rfl, _, t'⟩
  obtain ⟨r, s1, s2, e1, e2, f1, f2⟩ := key
  rw [e1, e2, bnd_q]
  exact ⟨r, s1, s2, rfl, rfl, f1, f2⟩
theorem sp_runsDry : SP_runsDry Rl := by
  intro hC hR a1 hr
  obtain ⟨P, L, A, B, X, U, p, x, y⟩ := hr
  have ok := p.1
  have o1 := ok.1
  have lk := p.2.1
  have wo := p.2.2.1
  have g := x.1.h.g
  simp only [Nat.reduceAdd] at g
  have xh := x.1.h
  have y1 := y.th (v := 0) ok
  have k := y1.1.g
  have sx := x.2.2.1
  have sr := y1.2.2.1
  refine q2_of p x y1 ?_
  have on := p.2.2.2.1
  have e12 := k.1.1
  have rk := y1.1
  unfold f_Tt_runsDry f_Md_runsDry
  simp only [nmd_q]
  generalize pI hR 0 2 0 = h1 at y1 k sr e12 rk ⊢
  simp only [lyC]
  rw [htC xh, htR e12]
  by_cases q : 0 ≤ a1 ∧ a1 < P 0 3
  case neg =>
    rw [if_neg q, if_pos (rfl : (0 : Int32) = 0), if_pos (rfl : (0 : Int32) = 0)]
    exact ⟨_, _, _, rfl, rfl, Fr.rf, KF.rf⟩
  rw [if_pos q, if_neg (show ¬ (1 : Int32) = 0 by decide), if_neg (show ¬ (1 : Int32) = 0 by decide)]
  obtain ⟨a0, a4⟩ := q
  have a6 : a1 < 6 := by lia
  have j0 : 0 ≤ 6 + a1 := by lia
  have j12 : 6 + a1 < 12 := by lia
  obtain ⟨s, s', e, e', t⟩ := ti0 ok wo on x.1 rk
  unfold f_Fo_hoursToDry
  rw [e, e', bnd_q, bnd_q]
  have key : QQ hC h1 (lp_Fo_hoursToDry_6 TC fu s 74 a1 0) (lp_Md_runsDry_21 TR fu s' 0 a1 0) := by
    refine lock (S := Hp) (S' := Hp) (N := 200) (lp := fun n i s => lp_Fo_hoursToDry_6 TC n s 74 a1 i) (lp' := fun n i s => lp_Md_runsDry_21 TR n s 0 a1 i) (QQ hC h1) (fun _ s s' => ∃ A, TI hC h1 P L (mT P) A s s') (by decide) (by decide) ?_ ?_ 0 (by decide) (by decide) s s' ⟨A, t⟩
    · intro n m s s' ⟨A, t⟩
      simp only [lp_Fo_hoursToDry_6, lp_Md_runsDry_21]
      rw [if_pos (by decide), if_pos (by decide)]
      exact ⟨_, _, _, rfl, rfl, t.2.2.2.2.1, t.2.2.2.2.2⟩
    · intro n m i s s' i0 i1 ⟨A, t⟩
      have tg := t.g
      obtain ⟨u, u', e, e', t', -⟩ := ti1 mT_ok ok lk t
      simp only [lp_Fo_hoursToDry_6, lp_Md_runsDry_21]
      simp (disch := first | assumption | decide | omega) only [lyC, lyR, rdC, rdR, nmd_q, bnd_q, tg, e, e']
      rw [if_neg (show ¬ (199 : Int32) < i by lia), if_neg (show ¬ (200 : Int32) ≤ i by lia)]
      by_cases c : A.1 6 a1 = 0
      · rw [if_pos c, if_pos c]
        exact .inl ⟨_, _, _, rfl, rfl, t.2.2.2.2.1, t.2.2.2.2.2⟩
      · rw [if_neg c, if_neg c]
        exact .inr ⟨u, u', rfl, rfl, _, t'⟩
  obtain ⟨r, s1, s2, e1, e2, f1, f2⟩ := key
  rw [e1, e2, bnd_q]
  exact ⟨r, s1, s2, rfl, rfl, f1, f2⟩
theorem nf_key {hC h1 s s' : Hp} {P : Pl} {L : Lw} {A : Aw} {w a1 : Int32} (ok : POK P) (lk : LOK L) (hw : w = 0 ↔ a1 = 0) (t : TI hC h1 P L (mT P) A s s') : QQ hC h1 (lp_Fo_hoursToFight_6 TC fu s 74 w 1) (lp_Md_nextFight_22 TR fu s' 0 a1 1) := by
  refine lock (S := Hp) (S' := Hp) (N := 200) (lp := fun n i s => lp_Fo_hoursToFight_6 TC n s 74 w i) (lp' := fun n i s => lp_Md_nextFight_22 TR n s 0 a1 i) (QQ hC h1) (fun _ s s' => ∃ A, TI hC h1 P L (mT P) A s s') (by decide) (by decide) ?_ ?_ 1 (by decide) (by decide) s s' ⟨A, t⟩
  · intro n m s s' ⟨A, t⟩
    simp only [lp_Fo_hoursToFight_6, lp_Md_nextFight_22]
    rw [if_pos (by decide), if_pos (by decide)]
    exact ⟨_, _, _, rfl, rfl, t.2.2.2.2.1, t.2.2.2.2.2⟩
  · intro n m i s s' i0 i1 ⟨A, t⟩
    obtain ⟨u, u', e, e', t', -, r68, fk⟩ := ti1 mT_ok ok lk t
    have tg := t'.g
    simp only [lp_Fo_hoursToFight_6, lp_Md_nextFight_22]
    simp (disch := first | assumption | decide | omega) only [lyC, nmd_q, bnd_q, tg, e, e', r68]
    rw [if_neg (show ¬ (199 : Int32) < i by lia), if_neg (show ¬ (200 : Int32) ≤ i by lia)]
    by_cases c : (hr P L (mT P) A).1 0 8 = -1
    · rw [if_pos c, if_pos (by rw [c]; decide)]
      exact .inr ⟨u, u', rfl, rfl, _, t'⟩
    · have fk' := fk.resolve_left c
      rw [if_neg c, if_neg (show ¬ (hr P L (mT P) A).1 0 8 < 0 by clear tg; lia)]
      by_cases c2 : w = 0
      · rw [if_pos c2, if_pos (hw.mp c2)]
        exact .inl ⟨_, _, _, rfl, rfl, t'.2.2.2.2.1, t'.2.2.2.2.2⟩
      · rw [if_neg c2, if_neg (fun z => c2 (hw.mpr z))]
        exact .inl ⟨_, _, _, rfl, rfl, t'.2.2.2.2.1, t'.2.2.2.2.2⟩
theorem sp_nextFight : SP_nextFight Rl := by
  intro hC hR a1 hr
  obtain ⟨P, L, A, B, X, U, p, x, y⟩ := hr
  have ok := p.1
  have o1 := ok.1
  have lk := p.2.1
  have wo := p.2.2.1
  have g := x.1.h.g
  simp only [Nat.reduceAdd] at g
  have xh := x.1.h
  have y1 := y.th (v := 0) ok
  have k := y1.1.g
  have sx := x.2.2.1
  have sr := y1.2.2.1
  refine q2_of p x y1 ?_
  have on := p.2.2.2.1
  have rk := y1.1
  unfold f_Tt_nextFight f_Md_nextFight jb_Tt_nextFight_9 jb_Tt_nextFight_23
  simp only [nmd_q, isIn_e]
  generalize pI hR 0 2 0 = h1 at y1 k sr rk ⊢
  simp only [lyC]
  obtain ⟨s, s', e, e', t⟩ := ti0 ok wo on x.1 rk
  unfold f_Fo_hoursToFight
  rw [e, e', bnd_q, bnd_q, bnd_q]
  by_cases q0 : a1 = 0
  · rw [if_pos q0, if_neg (show ¬ a1 = 1 by lia), if_pos (show 0 ≤ a1 ∧ a1 ≤ 1 by lia), if_neg (show ¬ (1 : Int32) = 0 by decide)]
    obtain ⟨r, s1, s2, e1, e2, f1, f2⟩ := nf_key (w := 0) (a1 := a1) ok lk ⟨fun _ => q0, fun _ => rfl⟩ t
    rw [e1, e2, bnd_q]
    exact ⟨r, s1, s2, rfl, rfl, f1, f2⟩
  rw [if_neg q0]
  by_cases q1 : a1 = 1
  · rw [if_pos q1, if_pos q1, if_pos (show 0 ≤ a1 ∧ a1 ≤ 1 by lia), if_neg (show ¬ (1 : Int32) = 0 by decide)]
    obtain ⟨r, s1, s2, e1, e2, f1, f2⟩ := nf_key (w := 1) (a1 := a1) ok lk ⟨fun z => absurd z (by decide), fun z => absurd z q0⟩ t
    rw [e1, e2, bnd_q]
    exact ⟨r, s1, s2, rfl, rfl, f1, f2⟩
  · rw [if_neg q1, if_neg (show ¬ (0 ≤ a1 ∧ a1 ≤ 1) by lia), if_pos (rfl : (0 : Int32) = 0)]
    exact ⟨_, _, _, rfl, rfl, Fr.rf, KF.rf⟩
theorem sp_ahead : SP_ahead Rl := by
  intro hC hR a1 a2 a3 hr
  obtain ⟨P, L, A, B, X, U, p, x, y⟩ := hr
  have ok := p.1
  have o1 := ok.1
  have lk := p.2.1
  have wo := p.2.2.1
  have g := x.1.h.g
  simp only [Nat.reduceAdd] at g
  have xh := x.1.h
  have y1 := y.th (v := 0) ok
  have k := y1.1.g
  have sx := x.2.2.1
  have sr := y1.2.2.1
  refine q2_of p x y1 ?_
  have on := p.2.2.2.1
  have e13 := k.1.2.1
  have e12 := k.1.1
  have rk := y1.1
  unfold f_Tt_ahead f_Md_ahead
  simp only [nmd_q, isIn_e]
  generalize pI hR 0 2 0 = h1 at y1 k sr e13 e12 rk ⊢
  have main : 0 ≤ a1 → a1 ≤ 200 → (a2 = 0 ∨ a2 = 1 ∨ a2 = 4 ∨ (a2 = 2 ∧ 0 ≤ a3 ∧ a3 < P 0 4) ∨ (a2 = 3 ∧ 0 ≤ a3 ∧ a3 < P 0 3)) → QQ hC h1 (jb_Tt_ahead_51 TC hC 0 a1 a2 a3 1) (jb_Md_ahead_53 TR h1 0 a1 a2 a3) := by
    intro n0 n2 hw
    obtain ⟨s, s', e, e', t⟩ := ti0 ok wo on x.1 rk
    obtain ⟨u, u', v, v', tt⟩ := tiN (N := a1) mT_ok ok lk n0 (by lia) t
    have tg := tt.g
    have x2 := (x.mv tt.2.2.2.2.1).1.h.g.2.2.1
    have k2 := (y1.mv ok tt.2.2.2.2.2).1.g
    have w31 := tt.2.1.2.2.2.2.2.2.2.2.1
    have fin : ∀ r : Int32, QQ hC h1 (some (r, u)) (some (r, u')) := fun r => ⟨r, u, u', rfl, rfl, tt.2.2.2.2.1, tt.2.2.2.2.2⟩
    unfold jb_Tt_ahead_51 jb_Md_ahead_53 f_Fo_behind
    simp only [lyC, lyR]
    rw [if_neg (by lia), if_neg (by lia), if_neg (show ¬ (1 : Int32) = 0 by decide), e, e', bnd_q, bnd_q, v, v', bnd_q, bnd_q, bnd_q]
    by_cases c0 : a2 = 0
    · rw [if_pos c0, if_pos c0]
      simp (disch := first | assumption | decide | omega) only [rdR, bnd_q, tg, x2, k2]
      exact fin _
    rw [if_neg c0, if_neg c0]
    by_cases c1 : a2 = 1
    · rw [if_pos c1, if_pos c1]
      simp (disch := first | assumption | decide | omega) only [rdR, bnd_q, tg, x2, k2]
      exact fin _
    rw [if_neg c1, if_neg c1]
    by_cases c2 : a2 = 2
    · rw [if_pos c2, if_pos c2]
      have z : 0 ≤ a3 ∧ a3 < P 0 4 := by lia
      obtain ⟨z0, z1⟩ := z
      have z6 : a3 < 6 := by lia
      have j0 : 0 ≤ 6 + a3 := by lia
      have j12 : 6 + a3 < 12 := by lia
      simp (disch := first | assumption | decide | omega) only [rdC, rdR, bnd_q, tg]
      exact fin _
    rw [if_neg c2, if_neg c2]
    by_cases c3 : a2 = 3
    · rw [if_pos c3, if_pos c3]
      have z : 0 ≤ a3 ∧ a3 < P 0 3 := by lia
      obtain ⟨z0, z1⟩ := z
      have z6 : a3 < 6 := by lia
      have j0 : 0 ≤ 6 + a3 := by lia
      have j12 : 6 + a3 < 12 := by lia
      simp (disch := first | assumption | decide | omega) only [rdC, rdR, bnd_q, tg]
      exact fin _
    rw [if_neg c3, if_neg c3, omR (A := hrN P L (mT P) a1 A) (.inr rfl) ok k2.1.2.1 w31, bnd_q, nmd_q, tg.2.2.2.2.2.2.2.1, bc_e (by lia) (by lia) tt.2.2.1.2.2]
    exact fin _
  have no : ∀ q : Int32, (q = 0 ∨ ¬ (0 ≤ a1 ∧ a1 ≤ 200)) → jb_Tt_ahead_51 TC hC 0 a1 a2 a3 q = some (-1, hC) := by
    intro q hq
    unfold jb_Tt_ahead_51
    by_cases c1 : a1 < 0
    · rw [if_pos c1]
    rw [if_neg c1]
    by_cases c2 : 200 < a1
    · rw [if_pos c2]
    rw [if_neg c2, if_pos (hq.resolve_right (by lia))]
  have stop : QQ hC h1 (some (-1, hC)) (some (-1, h1)) := ⟨_, _, _, rfl, rfl, Fr.rf, KF.rf⟩
  unfold jb_Tt_ahead_46 jb_Tt_ahead_30 jb_Tt_ahead_50 jb_Tt_ahead_46 jb_Md_ahead_38
  simp only [lyC, nmd_q]
  rw [hhC g.1.2.2.2.2.1, hhR e13, htC xh, htR e12]
  by_cases n : 0 ≤ a1 ∧ a1 ≤ 200
  case neg =>
    rw [if_neg n, if_pos (rfl : (0 : Int32) = 0), no 1 (.inr n), no 0 (.inl rfl)]
    simp only [ite_self]
    exact stop
  rw [if_pos n, if_neg (show ¬ (1 : Int32) = 0 by decide), no 0 (.inl rfl)]
  obtain ⟨n0, n2⟩ := n
  by_cases c0 : a2 = 0
  · rw [if_pos c0, if_pos (show 0 ≤ a2 ∧ a2 ≤ 4 by lia), if_neg (show ¬ (1 : Int32) = 0 by decide), if_neg (show ¬ a2 = 2 by lia), if_neg (show ¬ a2 = 3 by lia)]
    exact main n0 n2 (.inl c0)
  rw [if_neg c0]
  by_cases c1 : a2 = 1
  · rw [if_pos c1, if_pos (show 0 ≤ a2 ∧ a2 ≤ 4 by lia), if_neg (show ¬ (1 : Int32) = 0 by decide), if_neg (show ¬ a2 = 2 by lia), if_neg (show ¬ a2 = 3 by lia)]
    exact main n0 n2 (.inr (.inl c1))
  rw [if_neg c1]
  by_cases c4 : a2 = 4
  · rw [if_pos c4, if_pos (show 0 ≤ a2 ∧ a2 ≤ 4 by lia), if_neg (show ¬ (1 : Int32) = 0 by decide), if_neg (show ¬ a2 = 2 by lia), if_neg (show ¬ a2 = 3 by lia)]
    exact main n0 n2 (.inr (.inr (.inl c4)))
  rw [if_neg c4]
  by_cases c2 : a2 = 2
  · rw [if_pos c2, if_pos (show 0 ≤ a2 ∧ a2 ≤ 4 by lia), if_neg (show ¬ (1 : Int32) = 0 by decide), if_pos c2, if_neg (show ¬ a2 = 3 by lia), if_neg (show ¬ a2 = 3 by lia)]
    by_cases z : 0 ≤ a3 ∧ a3 < P 0 4
    · rw [if_pos z, if_neg (show ¬ (1 : Int32) = 0 by decide), if_neg (show ¬ (1 : Int32) = 0 by decide)]
      exact main n0 n2 (.inr (.inr (.inr (.inl ⟨c2, z⟩))))
    · rw [if_neg z, if_pos (rfl : (0 : Int32) = 0), if_pos (rfl : (0 : Int32) = 0)]
      exact stop
  rw [if_neg c2]
  by_cases c3 : a2 = 3
  · rw [if_pos c3, if_pos (show 0 ≤ a2 ∧ a2 ≤ 4 by lia), if_neg (show ¬ (1 : Int32) = 0 by decide), if_neg c2, if_pos c3]
    by_cases z : 0 ≤ a3 ∧ a3 < P 0 3
    · rw [if_pos z, if_neg (show ¬ (1 : Int32) = 0 by decide), if_neg (show ¬ (1 : Int32) = 0 by decide)]
      exact main n0 n2 (.inr (.inr (.inr (.inr ⟨c3, z⟩))))
    · rw [if_neg z, if_pos (rfl : (0 : Int32) = 0), if_pos (rfl : (0 : Int32) = 0)]
      exact stop
  rw [if_neg c3, if_neg (show ¬ (0 ≤ a2 ∧ a2 ≤ 4) by lia), if_pos (rfl : (0 : Int32) = 0)]
  exact stop
