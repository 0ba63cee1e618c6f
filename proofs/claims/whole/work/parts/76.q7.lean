/-! meet; a law; tried otherwise -/
theorem lockB {S S' R R' : Type} {N : Int32} {lp : Nat → Int32 → S → R} {lp' : Nat → Int32 → S' → R'} (Q : R → R' → Prop) (I : Int32 → S → S' → Prop)
    (hend : ∀ n m s s', I N s s' → Q (lp (n + 1) N s) (lp' (m + 1) N s'))
    (hstep : ∀ (n m : Nat) i s s', 0 ≤ i → i < N → N.toInt - i.toInt ≤ n → N.toInt - i.toInt ≤ m → I i s s' → Q (lp (n + 1) i s) (lp' (m + 1) i s') ∨ ∃ t t', lp (n + 1) i s = lp n (i + 1) t ∧ lp' (m + 1) i s' = lp' m (i + 1) t' ∧ I (i + 1) t t') : ∀ (k n m : Nat) (i : Int32), 0 ≤ i → i ≤ N → N.toInt - i.toInt = k → k < n → k < m → ∀ s s', I i s s' → Q (lp n i s) (lp' m i s') := by
  intro k
  induction k with
  | zero =>
    intro n m i h0 h1 hk hn hm s s' hI
    have e : i = N := Int32.toInt_inj.mp (by omega)
    subst e
    obtain ⟨n, rfl⟩ : ∃ n', n = n' + 1 := ⟨n - 1, by omega⟩
    obtain ⟨m, rfl⟩ : ∃ m', m = m' + 1 := ⟨m - 1, by omega⟩
    exact hend n m s s' hI
  | succ k ih =>
    intro n m i h0 h1 hk hn hm s s' hI
    obtain ⟨n, rfl⟩ : ∃ n', n = n' + 1 := ⟨n - 1, by omega⟩
    obtain ⟨m, rfl⟩ : ∃ m', m = m' + 1 := ⟨m - 1, by omega⟩
    have hi : i < N := Int32.lt_iff_toInt_lt.mpr (by omega)
    rcases hstep n m i s s' h0 hi (by omega) (by omega) hI with q | ⟨t, t', e, e', hI'⟩
    · exact q
    · rw [e, e']
      have e1 : (i + 1).toInt = i.toInt + 1 := by
        have a := ix_int h0
        have b := ix_int (i := i + 1) (by lia)
        have c := ix_s h0 (by lia)
        omega
      exact ih n m (i + 1) (by lia) (by lia) (by omega) (by omega) (by omega) t t' hI'
/-- one of the two fell: the reference finds none -/
theorem mt_off {hC h1 : Hp} {P : Pl} {L : Lw} {a1 a2 : Int32} (ok : POK P) (lk : LOK L) (a0 : 0 ≤ a1) (a4 : a1 < P 0 4) (b0 : 0 ≤ a2) (b4 : a2 < P 0 4) : ∀ (k m : Nat) (i : Int32), 0 ≤ i → i ≤ 200 → (200 : Int32).toInt - i.toInt = k → k < m → ∀ s s' A, TI hC h1 P L (mT P) A s s' → (bt (A.1 0 2) a1 = 0 ∨ bt (A.1 0 2) a2 = 0) → ∃ u', lp_Md_meet_22 TR m s' 0 a1 a2 i = some (-2, u') ∧ KF h1 u' := by
  have o1 := ok.1
  have j0 : 0 ≤ 6 + a1 := by lia
  have j12 : 6 + a1 < 12 := by lia
  have l0 : 0 ≤ 6 + a2 := by lia
  have l12 : 6 + a2 < 12 := by lia
  intro k m i i0 i2 hk hm s s' A t off
  refine lockB (S := Hp × Aw) (S' := Hp) (N := 200) (lp := fun n i s => ()) (lp' := fun m i s' => lp_Md_meet_22 TR m s' 0 a1 a2 i) (fun _ b => ∃ u', b = some (-2, u') ∧ KF h1 u') (fun _ s s' => TI hC h1 P L (mT P) s.2 s.1 s' ∧ (bt (s.2.1 0 2) a1 = 0 ∨ bt (s.2.1 0 2) a2 = 0)) ?_ ?_ k (k + 1) m i i0 i2 hk (by omega) hm (s, A) s' ⟨t, off⟩
  · intro n m s s' ⟨t, off⟩
    simp only [lp_Md_meet_22]
    rw [if_pos (by decide)]
    exact ⟨_, rfl, t.2.2.2.2.2⟩
  · intro n m i s s' i0 i1 _ _ ⟨t, off⟩
    right
    obtain ⟨u, u', e, e', t', -⟩ := ti1 mT_ok ok lk t
    have tg := t'.g
    have mono := hr_on (L := L) (M := mT P) ok mT_ok t.2.2.1 t.2.2.2.1
    refine ⟨(u, hr P L (mT P) s.2), u', rfl, ?_, t', off.imp (mono a1 a0 (by lia)) (mono a2 b0 (by lia))⟩
    simp only [lp_Md_meet_22]
    unfold jb_Md_meet_81
    simp (disch := first | assumption | decide | omega) only [lyR, rdR, nmd_q, bnd_q, tg, e']
    rw [if_neg (show ¬ (200 : Int32) ≤ i by lia)]
    rcases off with q | q
    · rw [if_pos (mono a1 a0 (by lia) q)]
    · rw [if_pos (mono a2 b0 (by lia) q), ite_self]
theorem sp_meet : SP_meet Rl := by
  intro hC hR a1 a2 hr
  obtain ⟨P, L, A, B, X, U, p, x, y⟩ := hr
  have ok := p.1
  have o1 := ok.1
  have lk := p.2.1
  have wo := p.2.2.1
  have g := x.1.h.g
  simp only [Nat.reduceAdd] at g
  have xh := x.1.h
  have y1 := y.th (v := 0) ok
  have k := y1.1.g
  have sx := x.2.2.1
  have sr := y1.2.2.1
  refine q2_of p x y1 ?_
  have on := p.2.2.2.1
  have e13 := k.1.2.1
  have rk := y1.1
  unfold f_Tt_meet f_Md_meet
  simp only [nmd_q]
  generalize pI hR 0 2 0 = h1 at y1 k sr e13 rk ⊢
  rw [a2C g.1.2.2.2.2.1, a2R e13]
  by_cases q : (0 ≤ a1 ∧ a1 < P 0 4) ∧ (0 ≤ a2 ∧ a2 < P 0 4) ∧ ¬ a1 = a2
  case neg =>
    rw [if_neg q, if_pos (rfl : (0 : Int32) = 0), if_pos (rfl : (0 : Int32) = 0)]
    exact ⟨_, _, _, rfl, rfl, Fr.rf, KF.rf⟩
  rw [if_pos q, if_neg (show ¬ (1 : Int32) = 0 by decide), if_neg (show ¬ (1 : Int32) = 0 by decide)]
  obtain ⟨⟨a0, a4⟩, ⟨b0, b4⟩, -⟩ := q
  have a6 : a1 < 6 := by lia
  have b6 : a2 < 6 := by lia
  have j0 : 0 ≤ 6 + a1 := by lia
  have j12 : 6 + a1 < 12 := by lia
  have l0 : 0 ≤ 6 + a2 := by lia
  have l12 : 6 + a2 < 12 := by lia
  obtain ⟨s, s', e, e', t⟩ := ti0 ok wo on x.1 rk
  unfold f_Fo_hoursToMeet
  simp only [lyC]
  rw [e, e', bnd_q, bnd_q]
  have key : QQ hC h1 (lp_Fo_hoursToMeet_6 TC fu s 74 a1 a2 1) (lp_Md_meet_22 TR fu s' 0 a1 a2 1) := by
    refine lockB (S := Hp) (S' := Hp) (N := 200) (lp := fun n i s => lp_Fo_hoursToMeet_6 TC n s 74 a1 a2 i) (lp' := fun n i s => lp_Md_meet_22 TR n s 0 a1 a2 i) (QQ hC h1) (fun _ s s' => ∃ A, TI hC h1 P L (mT P) A s s') ?_ ?_ 199 fu fu 1 (by decide) (by decide) (by decide) (by decide) (by decide) s s' ⟨A, t⟩
    · intro n m s s' ⟨A, t⟩
      simp only [lp_Fo_hoursToMeet_6, lp_Md_meet_22]
      rw [if_pos (by decide), if_pos (by decide)]
      exact ⟨_, _, _, rfl, rfl, t.2.2.2.2.1, t.2.2.2.2.2⟩
    · intro n m i s s' i0 i1 fn fm ⟨A, t⟩
      have tg := t.g
      have off : (bt (A.1 0 2) a1 = 0 ∨ bt (A.1 0 2) a2 = 0) → QQ hC h1 (some (-2, s)) (lp_Md_meet_22 TR (m + 1) s' 0 a1 a2 i) := fun z => by
        have li := Int32.lt_iff_toInt_lt.mp i1
        obtain ⟨u', e, f⟩ := mt_off ok lk a0 a4 b0 b4 ((200 : Int32).toInt - i.toInt).toNat (m + 1) i i0 (by lia) (by omega) (by omega) s s' A t z
        exact ⟨_, _, _, rfl, e, t.2.2.2.2.1, f⟩
      obtain ⟨u, u', e, e', t', -⟩ := ti1 mT_ok ok lk t
      have tg' := t'.g
      rw [lp_Fo_hoursToMeet_6]
      simp only [lyC, nmd_q]
      rw [tg.1, tg.1, if_neg (show ¬ (199 : Int32) < i by lia)]
      by_cases c1 : bt (A.1 0 2) a1 = 0
      · rw [if_pos c1]
        exact .inl (off (.inl c1))
      rw [if_neg c1]
      by_cases c2 : bt (A.1 0 2) a2 = 0
      · rw [if_pos c2]
        exact .inl (off (.inr c2))
      rw [if_neg c2]
      clear off
      simp only [lp_Md_meet_22]
      unfold jb_Fo_hoursToMeet_92 jb_Md_meet_81
      simp (disch := first | assumption | decide | omega) only [lyC, lyR, rdC, rdR, nmd_q, bnd_q, tg', e, e']
      rw [if_neg (show ¬ (200 : Int32) ≤ i by lia)]
      have go : QQ hC h1 (lp_Fo_hoursToMeet_6 TC n u 74 a1 a2 (i + 1)) (lp_Md_meet_22 TR m u' 0 a1 a2 (i + 1)) ∨ ∃ t t', lp_Fo_hoursToMeet_6 TC n u 74 a1 a2 (i + 1) = lp_Fo_hoursToMeet_6 TC n t 74 a1 a2 (i + 1) ∧ lp_Md_meet_22 TR m u' 0 a1 a2 (i + 1) = lp_Md_meet_22 TR m t' 0 a1 a2 (i + 1) ∧ ∃ A, TI hC h1 P L (mT P) A t t' := .inr ⟨u, u', rfl, rfl, _, t'⟩
      by_cases d1 : (hr P L (mT P) A).1 1 a1 = (hr P L (mT P) A).1 1 a2
      · rw [if_pos d1, if_pos d1]
        by_cases d2 : bt ((hr P L (mT P) A).1 0 2) a1 = 0
        · rw [if_pos d2, if_pos d2]
          exact go
        rw [if_neg d2, if_neg d2]
        by_cases d3 : bt ((hr P L (mT P) A).1 0 2) a2 = 0
        · rw [if_pos d3, if_pos d3]
          exact go
        rw [if_neg d3, if_neg d3]
        exact .inl ⟨_, _, _, rfl, rfl, t'.2.2.2.2.1, t'.2.2.2.2.2⟩
      · rw [if_neg d1, if_neg d1, ite_self, ite_self]
        exact go
  obtain ⟨r, s1, s2, e1, e2, f1, f2⟩ := key
  rw [e1, e2, bnd_q]
  exact ⟨r, s1, s2, rfl, rfl, f1, f2⟩
/-! a law's worth -/
theorem q3_of {hC hR : Hp} {c m : Option (Int64 × Hp)} {P : Pl} {L : Lw} {A B : Aw} {X : Pl} {U : Ud} (p : PRel P L A B X U) (x : CRel hC P L A B X) (y : RRel hR P L A B X U) (h : ∃ r s s', c = some (r, s) ∧ m = some (r, s') ∧ Fr SC hC s ∧ KF hR s') : ∃ r r', c = some r ∧ m = some r' ∧ r.1 = r'.1 ∧ Rl r.2 r'.2 := by
  obtain ⟨r, s, s', e1, e2, f1, f2⟩ := h
  exact ⟨(r, s), (r, s'), e1, e2, rfl, Rl.mk p (x.mv f1) (y.mv p.1 f2)⟩
theorem lwR {h : Hp} {P : Pl} {L : Lw} {M : Mo} {d : Prop} {b : Int32} {A : Aw} {i : Int32} {q : Nat} (hb : BOK b) (ok : POK P) (lk : LOK L) (wo : WOK P A) (x : RH h P L M d b A) (h0 : 0 ≤ i) (h1 : i < P 0 4) (hq : q < 3) (ht : L.2.1 q < L.2.2 q) : ∃ h2 v h3, f_Md_layNames TR h 0 b i = some h2 ∧ f_Md_lawOf TR h2 0 (nI q) = some (v, h3) ∧ rres (lawE L q (nmL P M.2.2 A i)) v h3 ∧ RG h h3 := by
  obtain ⟨k1, k2, k3⟩ := lk q hq
  obtain ⟨c1, c2⟩ := x.2.1 q hq
  obtain ⟨c3, c4, c5⟩ := c2 ht
  obtain ⟨k4, y, k5⟩ := k3 ht
  obtain ⟨h2, e2, e3, e4, e5⟩ := lnR hb ok wo x h0 h1
  have g53 : ∀ c s, (c ≠ 0 ∨ s ≠ 53) → (pI h2 0 53 0).1 c s = h.1 c s := fun c s z => by
    rw [pI_1, e3]
    split
    · split
      · omega
      · rfl
    · rfl
  obtain ⟨h3, v, e6, e7, e8⟩ := evR (nm := nmL P M.2.2 A i) (fun j _ => nmL_inL j) k2 (show q < 6 by omega) k4 ht k5 (L.2.2 q - L.2.1 q) fu (L.2.1 q) (pI h2 0 53 0) [] [] (by omega) (by unfold fu; omega) (Nat.le_refl _) (by rw [Nat.sub_self]; rfl) trivial (by intro v hv; cases hv) (c5.mq fun c s z1 z2 => g53 c s (by omega)) (by rw [g53 _ _ (by omega)]; exact c4) (fun j hj => by rw [pI_l]; exact e5 j hj) (by rw [pI_t, if_pos rfl])
  refine ⟨h2, v, h3, e2, ?_, e8, ⟨fun c s z => (e6.1 c s z).trans (g53 c s z), fun c z1 z2 => by rw [e6.2 c z2, pI_l]; exact e4 c z1⟩⟩
  unfold f_Md_lawOf
  simp only [lyR, nmd_q]
  rw [rI_ok (n := 6) alR18 (by omega) (by decide), bnd_q, g53 _ _ (by omega), c3, e7]
theorem RG.KF {h h' : Hp} (x : RG h h') : KF h h' := ⟨fun c s q => x.1 c s (by unfold RX at q; omega), fun c s q => by rw [x.2 c (fun z => q (.inl z)) (fun z => q (.inr z))], fun q s => by rw [x.1 31 s (.inl (by decide))]; exact q s⟩
theorem lawE_0 {L : Lw} {q : Nat} {nm : Nat → Int64} (k : L.2.1 q ≤ L.2.2 q) (h : ¬ L.2.1 q < L.2.2 q) : lawE L q nm = none := by
  unfold lawE
  rw [show L.2.2 q - L.2.1 q = 0 by omega, evS_0]
  rfl
theorem sp_law : SP_law Rl := by
  intro hC hR a1 a2 hr
  obtain ⟨P, L, A, B, X, U, p, x, y⟩ := hr
  have ok := p.1
  have o1 := ok.1
  have lk := p.2.1
  have wo := p.2.2.1
  have g := x.1.h.g
  simp only [Nat.reduceAdd] at g
  have xh := x.1.h
  have y1 := y.th (v := 0) ok
  have k := y1.1.g
  have sx := x.2.2.1
  have sr := y1.2.2.1
  refine q3_of p x y1 ?_
  have e13 := k.1.2.1
  have rk := y1.1
  unfold f_Tt_law f_Md_law
  simp only [nmd_q, isIn_e]
  generalize pI hR 0 2 0 = h1 at y1 k sr e13 rk ⊢
  simp only [lyC, lyR]
  rw [hhC g.1.2.2.2.2.1, hhR e13]
  have stop : ∃ r s s', some ((-9223372036854775808 : Int64), hC) = some (r, s) ∧ some ((-9223372036854775808 : Int64), h1) = some (r, s') ∧ Fr SC hC s ∧ KF h1 s' := ⟨_, _, _, rfl, rfl, Fr.rf, KF.rf⟩
  by_cases q1 : 0 ≤ a1 ∧ a1 ≤ 2
  case neg =>
    rw [if_neg q1, if_pos (rfl : (0 : Int32) = 0)]
    by_cases q2 : a1 < 0
    · rw [if_pos q2]
      exact stop
    · rw [if_neg q2, if_pos (by lia)]
      exact stop
  rw [if_pos q1, if_neg (show ¬ (1 : Int32) = 0 by decide), if_neg (show ¬ a1 < 0 by lia), if_neg (show ¬ (3 : Int32) ≤ a1 by lia)]
  obtain ⟨n, rfl⟩ := fin_i32 (n := 3) q1.1 (by decide) (show a1 < 3 by lia)
  obtain ⟨q, hq⟩ := n
  simp only
  obtain ⟨c1, c2⟩ := rk.2.1 q hq
  rw [rI_ok (n := 6) alR17 (by omega) (by decide), bnd_q, c1]
  obtain ⟨f1, m1, m2, m3⟩ := aigC x.1.1
  have f1' : Fr SC hC (f_Ho_asItGoes TC hC 72) := f1.mono fun c z => by unfold SC; omega
  have xx := x.1.mv f1'
  have ch : CH (f_Ho_asItGoes TC hC 72) P L (mT P) 45 A := ⟨xx.1, xx.2.1, ⟨m1, m2, m3⟩, xx.2.2⟩
  by_cases z : 0 ≤ a2 ∧ a2 < P 0 4
  case neg =>
    rw [if_neg z, if_pos (rfl : (0 : Int32) = 0), if_pos (rfl : (0 : Int32) = 0), ite_self]
    exact stop
  rw [if_pos z, if_neg (show ¬ (1 : Int32) = 0 by decide), if_neg (show ¬ (1 : Int32) = 0 by decide)]
  obtain ⟨hc, e, f2⟩ := woC (w := 45) (q := q) (by unfold WC; omega) ok lk wo ch z.1 z.2 hq
  rw [e, bnd_q]
  have f3 : Fr SC hC hc := f1'.tr (f2.mono fun c z => by unfold S4473 at z; unfold SC; omega)
  by_cases ht : L.2.1 q < L.2.2 q
  case neg =>
    rw [if_neg ht, if_pos (rfl : (0 : Int32) = 0), lawE_0 (lk q hq).1 ht, er_n]
    exact ⟨_, _, _, rfl, rfl, f3, KF.rf⟩
  rw [if_pos ht, if_neg (show ¬ (1 : Int32) = 0 by decide)]
  obtain ⟨p1, p2, p3, p4, p5, p6, p7⟩ := plR (h := h1)
  have rk2 := rk.mv ok p1
  obtain ⟨mo, rr⟩ := mTR (n := A.2) ok p2 p3 p4 p5
  have rh : RH (f_Md_plainTried TR h1 0) P L (mT P) False 0 A := ⟨rk2.1, rk2.2.1, mo, rr, rk2.2.2.1⟩
  obtain ⟨h2, v, h3, e2, e3, e4, f4⟩ := lwR (.inl rfl) ok lk wo rh z.1 z.2 hq ht
  rw [e2, bnd_q, e3, bnd_q]
  have f5 : KF h1 h3 := p1.tr f4.KF
  simp only [fst_q, snd_q]
  cases hl : lawE L q (nmL P (mT P).2.2 A a2) with
  | none =>
    rw [hl] at e4
    rw [e4.1, if_neg (show ¬ (1 : Int32) = 0 by decide), er_n]
    exact ⟨_, _, _, rfl, rfl, f3, f5⟩
  | some u =>
    rw [hl] at e4
    rw [e4.1, if_pos (rfl : (0 : Int32) = 0), er_s, e4.2]
    exact ⟨_, _, _, rfl, rfl, f3, f5⟩
