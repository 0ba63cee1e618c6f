/-! tried otherwise; hours go by -/
theorem CH.m2 {h : Hp} {P : Pl} {L : Lw} {M : Mo} {w : Nat} {A : Aw} {v : Int32} (hw : WC w) (x : CH h P L M w A) : CH (pI h 72 2 v) P L (v, M.2.1, M.2.2) w A := by
  have f : Fr (fun c => c = 72) h (pI h 72 2 v) := Fr.pI rfl
  have n := hw.ne
  refine ⟨x.1.mv f (fun c q => by omega), x.2.1.mv f (fun c q => by omega), ⟨?_, ?_, ?_⟩, x.2.2.2.mv f (fun c q => by omega)⟩
  · rw [pI_t, if_pos rfl]
  · rw [pI_t, if_neg (by decide)]
    exact x.2.2.1.2.1
  · rw [pI_t, if_neg (by decide)]
    exact x.2.2.1.2.2
theorem CH.m3 {h : Hp} {P : Pl} {L : Lw} {M : Mo} {w : Nat} {A : Aw} {v : Int32} (hw : WC w) (x : CH h P L M w A) : CH (pI h 72 3 v) P L (M.1, v, M.2.2) w A := by
  have f : Fr (fun c => c = 72) h (pI h 72 3 v) := Fr.pI rfl
  have n := hw.ne
  refine ⟨x.1.mv f (fun c q => by omega), x.2.1.mv f (fun c q => by omega), ⟨?_, ?_, ?_⟩, x.2.2.2.mv f (fun c q => by omega)⟩
  · rw [pI_t, if_neg (by decide)]
    exact x.2.2.1.1
  · rw [pI_t, if_pos rfl]
  · rw [pI_t, if_neg (by decide)]
    exact x.2.2.1.2.2
theorem CH.m4 {h : Hp} {P : Pl} {L : Lw} {M : Mo} {w : Nat} {A : Aw} {v : Int32} (hw : WC w) (x : CH h P L M w A) : CH (pI h 72 4 v) P L (M.1, M.2.1, v) w A := by
  have f : Fr (fun c => c = 72) h (pI h 72 4 v) := Fr.pI rfl
  have n := hw.ne
  refine ⟨x.1.mv f (fun c q => by omega), x.2.1.mv f (fun c q => by omega), ⟨?_, ?_, ?_⟩, x.2.2.2.mv f (fun c q => by omega)⟩
  · rw [pI_t, if_neg (by decide)]
    exact x.2.2.1.1
  · rw [pI_t, if_neg (by decide)]
    exact x.2.2.1.2.1
  · rw [pI_t, if_pos rfl]
theorem RP.mw {h h' : Hp} {P : Pl} (g : ∀ c s, ¬ c = 0 → c < 27 → h'.1 c s = h.1 c s) (g0 : ∀ s, 12 ≤ s → s ≤ 15 → h'.1 0 s = h.1 0 s) (x : RP h P) : RP h' P := by
  obtain ⟨⟨a1, a2, a3, a4, a5, a6⟩, x2, x3, x4⟩ := x
  refine ⟨⟨?_, ?_, ?_, ?_, ?_, ?_⟩, fun t t0 t1 => ?_, fun t t0 t1 => ?_, fun t t0 t1 => ?_⟩
  · rw [g0 12 (by omega) (by omega)]; exact a1
  · rw [g0 13 (by omega) (by omega)]; exact a2
  · rw [g0 14 (by omega) (by omega)]; exact a3
  · rw [g0 15 (by omega) (by omega)]; exact a4
  · rw [g 4 0 (by omega) (by omega)]; exact a5
  · rw [g 4 1 (by omega) (by omega)]; exact a6
  · rw [g 5 _ (by omega) (by omega), g 6 _ (by omega) (by omega), g 7 _ (by omega) (by omega), g 8 _ (by omega) (by omega)]
    exact x2 t t0 t1
  · rw [g 9 _ (by omega) (by omega), g 10 _ (by omega) (by omega), g 11 _ (by omega) (by omega), g 12 _ (by omega) (by omega), g 13 _ (by omega) (by omega)]
    exact x3 t t0 t1
  · rw [g 14 _ (by omega) (by omega), g 15 _ (by omega) (by omega), g 16 _ (by omega) (by omega)]
    exact x4 t t0 t1
theorem RH.md {h h' : Hp} {P : Pl} {L : Lw} {M M' : Mo} {d d' : Prop} {b : Int32} {A : Aw} (x : RH h P L M d b A) (g : ∀ c s, ¬ (c = 0 ∧ 69 ≤ s ∧ s ≤ 72) → h'.1 c s = h.1 c s) (mo : RMo h' M') (rr : RR h' P M' d' A.2) : RH h' P L M' d' b A :=
  ⟨x.1.mw (fun c s a _ => g c s (by omega)) (fun s _ _ => g 0 s (by omega)), x.2.1.mv (fun c s _ _ => g c s (by omega)), mo, rr, x.2.2.2.2.mg (fun c s _ _ => g c s (by omega))⟩
theorem pz_e {h : Hp} {c j : Nat} {x : Int32} (k : bit x = true) : pZ h c j x = some (pI h c j x) := by
  unfold pZ
  rw [if_pos k]
/-- the modes of what is tried -/
theorem g3 {h : Hp} {v0 v1 v2 : Int32} : (pI (pI (pI h 0 70 v0) 0 71 v1) 0 72 v2).1 0 70 = v0 ∧ (pI (pI (pI h 0 70 v0) 0 71 v1) 0 72 v2).1 0 71 = v1 ∧ (pI (pI (pI h 0 70 v0) 0 71 v1) 0 72 v2).1 0 72 = v2 ∧ (pI (pI (pI h 0 70 v0) 0 71 v1) 0 72 v2).1 0 69 = h.1 0 69 ∧ ∀ c s, ¬ (c = 0 ∧ 69 ≤ s ∧ s ≤ 72) → (pI (pI (pI h 0 70 v0) 0 71 v1) 0 72 v2).1 c s = h.1 c s := by
  refine ⟨by simp [pI_t], by simp [pI_t], by simp [pI_t], by simp [pI_t], fun c s q => ?_⟩
  by_cases z : c = 0
  · subst z
    rw [pI_t, if_neg (by omega), pI_t, if_neg (by omega), pI_t, if_neg (by omega)]
  · rw [pI_n z, pI_n z, pI_n z]
theorem gm {h : Hp} {k : Nat} {v : Int32} (k0 : 69 ≤ k) (k1 : k ≤ 72) : ∀ c s, ¬ (c = 0 ∧ 69 ≤ s ∧ s ≤ 72) → (pI h 0 k v).1 c s = h.1 c s := fun c s q => by
  rw [pI_1]
  split
  · rw [if_neg (by omega)]
  · rfl
theorem rrT {h : Hp} {P : Pl} {M : Mo} {n : Int64} (e : M.1 = (mT P).1) (e1 : h.1 0 69 = 0) (e2 : h.1 0 70 = 0) : RR h P M False n := by
  unfold RR
  rw [e]
  unfold mT
  by_cases q : P 0 1 < 50
  · exact .inr (.inl ⟨if_pos q, .inr ⟨e1, q⟩⟩)
  · exact .inr (.inr ⟨if_neg q, e2, e1, by lia⟩)
/-- all troughs full -/
def wf (A : Aw) : Aw := (fun a b => if a = 6 then 99 else A.1 a b, A.2)
theorem wf_n {A : Aw} {r : Nat} {j : Int32} (e : ¬ r = 6) : (wf A).1 r j = A.1 r j := by
  unfold wf
  rw [fst_q]
  exact if_neg e
theorem wf_6 {A : Aw} {j : Int32} : (wf A).1 6 j = 99 := by
  unfold wf
  rw [fst_q]
  exact if_pos rfl
theorem wf_ok {P : Pl} {A : Aw} (w : WOK P A) : WOK P (wf A) := by
  refine ⟨fun h h0 h1 => ?_, fun t t0 t1 => ?_, ?_⟩
  · rw [wf_n (by decide), wf_n (by decide), wf_n (by decide), wf_n (by decide), wf_n (by decide)]
    exact w.1 h h0 h1
  · rw [wf_6]
    decide
  · rw [wf_n (by decide)]
    exact w.2.2
theorem wfC {h : Hp} {P : Pl} {L : Lw} {M : Mo} {w : Nat} {A : Aw} (hw : WC w) (ok : POK P) (x : CH h P L M w A) : ∃ h', f_Ar_fill TC h (w + 6) 99 = some h' ∧ CH h' P L M w (wf A) ∧ Fr (WS w) h h' := by
  have o1 := ok.1
  obtain ⟨a1, a2, a3, a4, a5, a6⟩ := hw.al
  obtain ⟨h', e, e1, e2, e3, -⟩ := fillT (tb := TC) (h := h) (v := 99) a6 (by decide)
  have f : Fr (WS w) h h' := Fr.of (wsr 6 (by decide)) e1 e2
  refine ⟨h', e, x.chU hw f ?_, f⟩
  obtain ⟨c1, c2, c3, c4⟩ := x.2.2.2
  refine ⟨fun q a b j d e => ?_, fun t a b => ?_, ?_, ?_⟩
  · rw [e2 _ (by omega), c1 q a b j d e, wf_n (by omega)]
  · rw [e3 _ (ix_lt (n := 6) a (by decide) (show t < 6 by lia)), wf_6]
  · rw [e2 _ (by omega)]
    simp only [wf_n (show ¬ 0 = 6 by decide)]
    exact c3
  · rw [e1]
    exact c4
theorem wfR {h : Hp} {P : Pl} {L : Lw} {M : Mo} {d : Prop} {A : Aw} {n : Int32} (ok : POK P) (x : RH h P L M d 1 A) : ∃ h', lp_Md_tried_96 TR fu h 0 3 n 0 = jb_Md_tried_128 TR h' 0 3 n ∧ RH h' P L M d 1 (wf A) ∧ KF h h' ∧ ∀ s, h'.1 0 s = h.1 0 s := by
  have o1 := ok.1
  have e12 := x.1.1.1
  obtain ⟨h', e, g, e2, e3⟩ := loopF (S := Unit) (f := fun _ s => s) (N := P 0 3) (lp := fun m h i => lp_Md_tried_96 TR m h 0 3 n i) (res := fun h => jb_Md_tried_128 TR h 0 3 n) (fun i _ h' => (∀ c s, ¬ (c = 33 ∧ 6 ≤ s) → h'.1 c s = h.1 c s) ∧ h'.2 = h.2 ∧ ∀ t, 0 ≤ t → t < i → h'.1 33 (ix (6 + t)) = 99) (by lia) (by lia)
    (fun m h2 s q => by
      simp only [lp_Md_tried_96]
      rw [q.1 0 12 (by decide), e12, if_pos (show P 0 3 ≤ P 0 3 by lia)])
    (fun m h2 i s i0 i1 q => by
      have j0 : 0 ≤ 6 + i := by lia
      have j12 : 6 + i < 12 := by lia
      refine ⟨pI h2 33 (ix (6 + i)) 99, ?_, ?_, ?_, ?_⟩
      · simp only [lp_Md_tried_96]
        rw [q.1 0 12 (by decide), e12, if_neg (show ¬ P 0 3 ≤ i by lia), if_true]
        simp (disch := first | assumption | decide | omega) only [lyR, wtR, bnd_q, nmd_q]
      · intro c s z
        rw [pI_1]
        split
        · rw [if_neg (by rw [ix_6 i0 (by lia)]; omega)]
          exact q.1 c s z
        · exact q.1 c s z
      · rw [pI_l]
        exact q.2.1
      · intro t t0 t1
        rw [pI_ix j0 (show 0 ≤ 6 + t by lia)]
        by_cases z : t = i
        · rw [z, if_pos rfl]
        · rw [if_neg (by lia)]
          exact q.2.2 t t0 (by lia)) 0 (by decide) (by lia) () h ⟨fun _ _ _ => rfl, rfl, fun t a b => absurd b (by lia)⟩
  refine ⟨h', e, ⟨x.1.mw (fun c s a b => g c s (by omega)) (fun s _ _ => g 0 s (by omega)), x.2.1.mv (fun c s a b => g c s (by omega)), ?_, ?_, ?_⟩, ⟨fun c s q => g c s (by unfold RX at q; omega), fun c s _ => by rw [e2], fun q s => by rw [g 31 s (by omega)]; exact q s⟩, fun s => g 0 s (by omega)⟩
  · have m := x.2.2.1
    unfold RMo at m ⊢
    rw [g 0 72 (by omega), g 0 71 (by omega)]
    exact m
  · have m := x.2.2.2.1
    unfold RR at m ⊢
    rw [g 0 70 (by omega), g 0 69 (by omega), e2]
    exact m
  · obtain ⟨x1, x2, x3, x4, x5, x6, x7⟩ := x.2.2.2.2
    refine ⟨fun j j0 j1 => ?_, fun j j0 j1 => ?_, fun j j0 j1 => ?_, fun j j0 j1 => ?_, fun j j0 j1 => ?_, fun j j0 j1 => ?_, ?_⟩
    · rw [g 27 _ (by omega), wf_n (by decide), x1 j j0 j1]
    · rw [g 28 _ (by omega), wf_n (by decide), x2 j j0 j1]
    · rw [g 29 _ (by omega), wf_n (by decide), x3 j j0 j1]
    · rw [g 30 _ (by omega), wf_n (by decide), x4 j j0 j1]
    · rw [g 31 _ (by omega), wf_n (by decide), x5 j j0 j1]
    · rw [i61, wf_6, e3 j j0 j1]
    · rw [g 34 _ (by omega), g 35 _ (by omega), g 36 _ (by omega), g 37 _ (by omega), g 38 _ (by omega), g 39 _ (by omega)]
      simp only [wf_n (show ¬ 0 = 6 by decide)]
      exact x7
theorem fo98 {hC h1 u v : Hp} {P : Pl} {L : Lw} {M : Mo} {A0 A B : Aw} {X : Pl} {U : Ud} {n : Int32} (mo : MOK M) (ok : POK P) (lk : LOK L) (n0 : 0 ≤ n) (n2 : n ≤ 200) (x : CRel hC P L A0 B X) (y : RRel h1 P L A0 B X U) (t : TI hC h1 P L M A u v) : QQ hC h1 ((jb_Fo_fightsOtherwise_98 TC u 74 n).bind fun r1 => some (r1.1, r1.2)) ((f_Md_goMany TR v 0 n).bind fun r2 => nmd (f_Md_plainTried TR r2 0) fun r3 => (rI TR r3 (lay TR 0 61) 1).bind fun x4 => (rI TR r3 (lay TR 0 61) 0).bind fun x5 => some (x4 - x5, r3)) := by
  obtain ⟨w, w', e, e', tt⟩ := tiN (N := n) mo ok lk n0 (by lia) t
  have tg := tt.g
  have x2 := (x.mv tt.2.2.2.2.1).1.h.g.2.2.1
  have kf := tt.2.2.2.2.2
  obtain ⟨p1, p2, p3, p4, p5, p6, p7⟩ := plR (h := w')
  have k2 := (y.mv ok (kf.tr p1)).1.g
  have e34 : (f_Md_plainTried TR w' 0).1 34 (ix 1) = (hrN P L M n A).1 0 3 := by
    rw [p7 34 _ (by omega)]
    exact tg.2.2.2.2.2.2.2.2.2.2.2.2.1
  unfold jb_Fo_fightsOtherwise_98
  simp only [lyC, lyR]
  rw [e, e', bnd_q, bnd_q, bnd_q, nmd_q]
  simp (disch := first | assumption | decide | omega) only [rdR, bnd_q, k2, e34, tg, x2]
  exact ⟨_, _, _, rfl, rfl, tt.2.2.2.2.1, kf.tr p1⟩
theorem TI.md {hC h1 s s' u : Hp} {P : Pl} {L : Lw} {M M' : Mo} {A : Aw} {v0 v1 v2 : Int32} (t : TI hC h1 P L M A s s') (c : CH u P L M' 75 A) (f : Fr SC s u) (mo : RMo (pI (pI (pI s' 0 70 v0) 0 71 v1) 0 72 v2) M') (rr : RR (pI (pI (pI s' 0 70 v0) 0 71 v1) 0 72 v2) P M' False A.2) : TI hC h1 P L M' A u (pI (pI (pI s' 0 70 v0) 0 71 v1) 0 72 v2) := by
  obtain ⟨t1, t2, t3, t4, t5, t6⟩ := t
  exact ⟨c, t2.md g3.2.2.2.2 mo rr, t3, t4, t5.tr f, t6.tr (((KF.pI (by unfold RX; omega) (by decide)).tr (KF.pI (by unfold RX; omega) (by decide))).tr (KF.pI (by unfold RX; omega) (by decide)))⟩
theorem mT_o {P : Pl} : (mT P).2.1 = 1 ∧ (mT P).2.2 = 1 := ⟨rfl, rfl⟩
theorem sp_tried : SP_tried Rl := by
  intro hC hR a1 a2 a3 hr
  obtain ⟨P, L, A, B, X, U, p, x, y⟩ := hr
  have ok := p.1
  have o1 := ok.1
  have lk := p.2.1
  have wo := p.2.2.1
  have g := x.1.h.g
  simp only [Nat.reduceAdd] at g
  have xh := x.1.h
  have y1 := y.th (v := 0) ok
  have k := y1.1.g
  have sx := x.2.2.1
  have sr := y1.2.2.1
  refine q2_of p x y1 ?_
  have on := p.2.2.2.1
  have e13 := k.1.2.1
  have rk := y1.1
  unfold f_Tt_tried f_Md_tried
  simp only [nmd_q, isIn_e]
  generalize pI hR 0 2 0 = h1 at y1 k sr e13 rk ⊢
  simp only [lyC]
  rw [hhC g.1.2.2.2.2.1, hhR e13]
  have main : 0 ≤ a1 → a1 ≤ 4 → 0 ≤ a3 → a3 ≤ 200 → (a1 = 2 → 0 ≤ a2 ∧ a2 < P 0 4) → QQ hC h1 (jb_Tt_tried_34 TC hC 0 a1 a2 a3 1) (jb_Md_tried_47 TR h1 0 a1 a2 a3) := by
    intro w0 w4 n0 n2 hw
    obtain ⟨s, e, c, f⟩ := btC ok x.1
    obtain ⟨s', e', c', -, f', z1, z2, z3, z4⟩ := ltR ok rk
    have t : TI hC h1 P L (mT P) A s s' := ⟨c, c', wo, on, f, f'⟩
    have W : WC 75 := .inr (.inr (.inl rfl))
    have b0 : bit 0 = true := by decide
    have b1 : bit 1 = true := by decide
    unfold jb_Tt_tried_34 jb_Md_tried_47 jb_Md_tried_61 jb_Md_tried_75 jb_Md_tried_93
    simp only [lyC]
    rw [if_neg (show ¬ (1 : Int32) = 0 by decide), if_neg (show ¬ a3 < 0 by lia), if_neg (show ¬ (200 : Int32) < a3 by lia), e', bnd_q]
    unfold f_Fo_fightsOtherwise
    rw [e, bnd_q]
    simp only [lyC, pz_e b0, pz_e b1, bnd_q]
    have skip : ∀ h : Hp, h.1 0 12 = P 0 3 → ¬ a1 = 3 → lp_Md_tried_96 TR fu h 0 a1 a3 0 = jb_Md_tried_128 TR h 0 a1 a3 := fun h eh q => by
      rw [show fu = 999 + 1 from rfl, lp_Md_tried_96, eh, if_neg q, ite_self]
    have e12 : s'.1 0 12 = P 0 3 := c'.1.1.1
    have fu72 : ∀ {k : Nat} {v : Int32}, Fr SC s (pI s 72 k v) := Fr.pI (by unfold SC; omega)
    have rr1 := c'.2.2.2.1
    by_cases c0 : a1 = 0
    · rw [if_pos c0, if_pos c0, if_neg (show ¬ a1 = 1 by lia), if_neg (show ¬ a1 = 2 by lia), skip _ (by simp [pI_t, e12]) (by lia)]
      unfold jb_Md_tried_128 jb_Md_tried_139 f_Ho_withoutRain
      rw [if_neg (show ¬ a1 = 4 by lia), pz_e b0, bnd_q, nmd_q, nmd_q]
      refine fo98 (M := (0, 1, 1)) (.inl rfl) ok lk n0 n2 x y1 (t.md (c.m2 W) fu72 ?_ ?_)
      · unfold RMo
        rw [g3.2.2.1, g3.2.1]
        exact ⟨.inl ⟨rfl, rfl⟩, ⟨fun _ => (show ¬ (1 : Int32) = 0 by decide), fun _ => rfl⟩⟩
      · unfold RR
        rw [g3.1]
        exact .inr (.inl ⟨rfl, .inl (by decide)⟩)
    rw [if_neg c0, if_neg c0]
    by_cases c1 : a1 = 1
    · rw [if_pos c1, if_pos c1, if_neg (show ¬ a1 = 2 by lia), skip _ (by simp [pI_t, e12]) (by lia)]
      unfold jb_Md_tried_128 jb_Md_tried_139 f_Ho_withoutDrinking
      rw [if_neg (show ¬ a1 = 4 by lia), pz_e b0, bnd_q, nmd_q, nmd_q]
      refine fo98 (M := ((mT P).1, 0, 1)) (.inl rfl) ok lk n0 n2 x y1 (t.md (c.m3 W) fu72 ?_ ?_)
      · unfold RMo
        rw [g3.2.2.1, g3.2.1]
        exact ⟨.inl ⟨rfl, rfl⟩, ⟨fun q => absurd q (by decide), fun q => absurd rfl q⟩⟩
      · exact rrT rfl (by rw [g3.2.2.2.1]; exact z1) g3.1
    rw [if_neg c1, if_neg c1]
    by_cases c2 : a1 = 2
    · obtain ⟨i0, i4⟩ := hw c2
      have i6 : a2 < 6 := by lia
      have j0 : 0 ≤ 6 + a2 := by lia
      have j12 : 6 + a2 < 12 := by lia
      have m := wo.2.2
      have cl := fun j j0 j1 => clr_ok m.1 m.2.1 i0 i6 (j := j) j0 j1
      rw [if_pos c2, if_pos c2]
      simp (disch := first | assumption | decide | omega) only [lyR, wtR, bnd_q]
      rw [skip _ (by rw [pI_n (by decide)]; simp [pI_t, e12]) (by lia)]
      unfold jb_Md_tried_128 jb_Md_tried_139
      rw [if_neg (show ¬ a1 = 4 by lia), pz_e b0, bnd_q, nmd_q]
      have t1 : TI hC h1 P L (mT P) A s (pI (pI (pI s' 0 70 0) 0 71 0) 0 72 0) := by
        refine t.md c Fr.rf ?_ ?_
        · unfold RMo
          rw [g3.2.2.1, g3.2.1]
          exact ⟨.inl ⟨rfl, rfl⟩, ⟨fun _ => (show ¬ (1 : Int32) = 0 by decide), fun _ => rfl⟩⟩
        · exact rrT rfl (by rw [g3.2.2.2.1]; exact z1) g3.1
      have sw : pI (pI (pI (pI s' 0 70 0) 0 71 0) 31 (ix (6 + a2)) 0) 0 72 0 = pI (pI (pI (pI s' 0 70 0) 0 71 0) 0 72 0) 31 (ix (6 + a2)) 0 := by
        refine Prod.ext (funext fun a => funext fun b => ?_) (by simp only [pI_l])
        simp only [pI_1]
        by_cases q1 : a = 0
        · subst q1
          simp
        · simp only [if_neg q1]
      rw [sw]
      have cm : s.1 75 2 = A.1 0 2 := t.g.2.2.2.2.2.2.2.1
      rw [cm]
      have eb : (A.1 0 2) &&& (((1 : Int32) <<< (a2 &&& 31)) ^^^ (-1 : Int32)) = clr (A.1 0 2) a2 := rfl
      rw [eb]
      have k31 := rs6 (b := 1) (c := 31) (.inr rfl) i0 i6 (by decide) (by decide)
      rw [i61] at k31
      have r31 := t1.2.1.2.2.2.2.w31 (y := 0) (z := clr (A.1 0 2) a2) (.inr rfl) ok i0 i4 (by rw [(cl a2 i0 i6).1, if_pos rfl]) (fun j l0 l1 q => by rw [(cl j l0 (by lia)).1, if_neg q])
      rw [i61] at r31
      have t2 : TI hC h1 P L (mT P) (up A 0 2 (clr (A.1 0 2) a2)) (pI s 75 2 (clr (A.1 0 2) a2)) (pI (pI (pI (pI s' 0 70 0) 0 71 0) 0 72 0) 31 (ix (6 + a2)) 0) := by
        refine ⟨c.s2 W, t1.2.1.wI ok k31 r31 rfl (fun _ => by decide), cl_ok ok wo i0 i4, ?_, f.tr (Fr.pI (by unfold SC; omega)), t1.2.2.2.2.2.tr (RF.KF (RF.pI (b := 1) (d := False) k31 (fun _ => by decide)))⟩
        intro j l0 l1
        rw [up_s, if_pos rfl, up_n (by decide), (cl j l0 (by lia)).1]
        by_cases q : j = a2
        · rw [if_pos q]
          intro k
          exact absurd k (by decide)
        · rw [if_neg q]
          exact on j l0 l1
      exact fo98 mT_ok ok lk n0 n2 x y1 t2
    rw [if_neg c2, if_neg c2]
    have t1 : TI hC h1 P L (mT P) A s (pI (pI (pI s' 0 70 0) 0 71 0) 0 72 0) := by
      refine t.md c Fr.rf ?_ ?_
      · unfold RMo
        rw [g3.2.2.1, g3.2.1]
        exact ⟨.inl ⟨rfl, rfl⟩, ⟨fun _ => (show ¬ (1 : Int32) = 0 by decide), fun _ => rfl⟩⟩
      · exact rrT rfl (by rw [g3.2.2.2.1]; exact z1) g3.1
    by_cases c3 : a1 = 3
    · rw [if_pos c3]
      subst c3
      have r2 : RH (pI (pI s' 0 70 0) 0 71 0) P L (mT P) False 1 A := by
        refine c'.md (fun c s q => (gm (by decide) (by decide) c s q).trans (gm (by decide) (by decide) c s q)) ?_ (rrT rfl ?_ ?_)
        · refine ⟨.inl ⟨?_, rfl⟩, ⟨fun _ => (show ¬ (1 : Int32) = 0 by decide), fun _ => ?_⟩⟩
          · simp [pI_t, z4]
          · simp [pI_t]
        · simp [pI_t, z1]
        · simp [pI_t]
      obtain ⟨h3, e3, r3, f3, g3'⟩ := wfR (n := a3) ok r2
      obtain ⟨hc, ec, cc, fc⟩ := wfC W ok c
      have ec' : f_Ar_fill TC s 81 99 = some hc := ec
      rw [e3, ec', bnd_q]
      unfold jb_Md_tried_128 jb_Md_tried_139
      rw [if_neg (show ¬ (3 : Int32) = 4 by decide), pz_e b0, bnd_q]
      have r4 : RH (pI h3 0 72 0) P L (mT P) False 1 (wf A) := by
        refine r3.md (gm (by decide) (by decide)) ?_ (rrT rfl ?_ ?_)
        · refine ⟨.inl ⟨by rw [pI_t, if_pos rfl], rfl⟩, ⟨fun _ => (show ¬ (1 : Int32) = 0 by decide), fun _ => ?_⟩⟩
          rw [pI_t, if_neg (by decide), g3']
          simp [pI_t]
        · rw [pI_t, if_neg (by decide), g3']
          simp [pI_t, z1]
        · rw [pI_t, if_neg (by decide), g3']
          simp [pI_t]
      refine fo98 mT_ok ok lk n0 n2 x y1 ⟨cc, r4, wf_ok wo, ?_, f.tr (fc.mono fun c q => SC.of W (by decide) q), f'.tr ((((KF.pI (by unfold RX; omega) (by decide)).tr (KF.pI (by unfold RX; omega) (by decide))).tr f3).tr (KF.pI (by unfold RX; omega) (by decide)))⟩
      intro j l0 l1
      rw [wf_n (by decide), wf_n (by decide)]
      exact on j l0 l1
    · rw [if_neg c3, skip _ (by simp [pI_t, e12]) c3]
      unfold jb_Md_tried_128 jb_Md_tried_139 f_Ho_withTwicePace
      rw [if_pos (show a1 = 4 by lia), pz_e b1, bnd_q, nmd_q, nmd_q]
      refine fo98 (M := ((mT P).1, 1, 2)) (.inr rfl) ok lk n0 n2 x y1 (t.md (c.m4 W) fu72 ?_ ?_)
      · unfold RMo
        rw [g3.2.2.1, g3.2.1]
        exact ⟨.inr ⟨by decide, rfl⟩, ⟨fun _ => (show ¬ (1 : Int32) = 0 by decide), fun _ => rfl⟩⟩
      · exact rrT rfl (by rw [g3.2.2.2.1]; exact z1) g3.1
  have stop : QQ hC h1 (some (-1, hC)) (some (-1, h1)) := ⟨_, _, _, rfl, rfl, Fr.rf, KF.rf⟩
  have no : ∀ q : Int32, (q = 0 ∨ ¬ (0 ≤ a3 ∧ a3 ≤ 200)) → jb_Tt_tried_34 TC hC 0 a1 a2 a3 q = some (-1, hC) := by
    intro q hq
    unfold jb_Tt_tried_34
    by_cases c : q = 0
    · rw [if_pos c]
    rw [if_neg c]
    have hq' := hq.resolve_left c
    by_cases c1 : a3 < 0
    · rw [if_pos c1]
    · rw [if_neg c1, if_pos (by lia)]
  unfold jb_Tt_tried_33
  rw [no 0 (.inl rfl)]
  by_cases n : 0 ≤ a3 ∧ a3 ≤ 200
  case neg =>
    rw [if_neg n, if_pos (rfl : (0 : Int32) = 0), no 1 (.inr n)]
    by_cases z : 0 ≤ a2 ∧ a2 < P 0 4
    · rw [if_pos z, no 1 (.inr n)]
      simp only [ite_self]
      exact stop
    · rw [if_neg z, no 0 (.inl rfl)]
      simp only [ite_self]
      exact stop
  rw [if_pos n, if_neg (show ¬ (1 : Int32) = 0 by decide)]
  by_cases c2 : a1 = 2
  · rw [if_pos c2, if_pos (show 0 ≤ a1 ∧ a1 ≤ 4 by lia), if_neg (show ¬ (1 : Int32) = 0 by decide), if_pos c2]
    by_cases z : 0 ≤ a2 ∧ a2 < P 0 4
    · rw [if_pos z, if_neg (show ¬ (1 : Int32) = 0 by decide)]
      exact main (by lia) (by lia) n.1 n.2 (fun _ => z)
    · rw [if_neg z, if_pos (rfl : (0 : Int32) = 0), no 0 (.inl rfl)]
      exact stop
  rw [if_neg c2, if_neg c2]
  by_cases c0 : 0 ≤ a1 ∧ a1 ≤ 4
  · rw [if_pos c0, if_neg (show ¬ (1 : Int32) = 0 by decide), if_neg (show ¬ a1 < 0 by lia), if_neg (show ¬ (4 : Int32) < a1 by lia)]
    by_cases z : a2 = 0
    · rw [if_pos z, if_pos z]
      exact main c0.1 c0.2 n.1 n.2 (fun q => absurd q c2)
    · rw [if_neg z, if_neg z]
      exact stop
  · rw [if_neg c0, if_pos (rfl : (0 : Int32) = 0)]
    by_cases z : a1 < 0
    · rw [if_pos z]
      exact stop
    · rw [if_neg z, if_pos (show (4 : Int32) < a1 by lia)]
      exact stop
