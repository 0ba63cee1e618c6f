/-! a text: before its first line, and its lines -/
def pE : Pl := fun r j => if r = 0 then (if j = 0 then 20 else 0) else if r = 5 then -1 else 0
def lE : Lw := (fun _ => (0, 0), fun _ => 0, fun _ => 0)
theorem pE_e : pE 0 0 = 20 ∧ pE 0 1 = 0 ∧ pE 0 2 = 0 ∧ pE 0 3 = 0 ∧ pE 0 4 = 0 ∧ pE 0 5 = 0 ∧ ∀ j, pE 5 j = -1 := ⟨by decide, by decide, by decide, by decide, by decide, by decide, fun _ => rfl⟩
theorem pE_ok : POK pE := by
  obtain ⟨e0, e1, e2, e3, e4, e5, e6⟩ := pE_e
  refine ⟨?_, fun t a b => ?_, fun p _ _ => .inl (e6 p), fun t a b => ?_, fun t a b => ?_⟩
  · rw [e0, e1, e2, e3, e4, e5]
    decide
  · rw [e3] at b
    exact absurd b (by lia)
  · rw [e4] at b
    exact absurd b (by lia)
  · rw [e5] at b
    exact absurd b (by lia)
theorem lE_ok : LOK lE := fun q _ => ⟨Nat.le_refl _, Nat.zero_le _, fun z => absurd z (Nat.lt_irrefl 0)⟩
theorem alT : al TC 8 = 61 ∧ al TC 19 = 3 ∧ al TC 20 = 3 := by simp only [alC, true_and, and_self]
theorem clC {h : Hp} : ∃ r, f_Pl_clear TC h 3 = some r ∧ CP r 3 pE ∧ CLa r 17 lE ∧ (r.1 17 0 = 0 ∧ r.1 17 1 = 0) ∧ FrP h r := by
  obtain ⟨e0, e1, e2, e3, e4, e5, e6⟩ := pE_e
  unfold f_Pl_clear f_La_clear
  simp only [nmd_q, lyC]
  obtain ⟨a, a1, a2, a3, a4, -⟩ := fillT (h := pI (pI (pI (pI (pI (pI h 3 0 20) 3 1 0) 3 2 0) 3 3 0) 3 4 0) 3 5 0) (v := -1) alT.1 (by decide)
  obtain ⟨b, b1, b2, b3, b4, -⟩ := fillT (h := pI (pI a 17 0 0) 17 1 0) (v := 0) alT.2.1 (by decide)
  obtain ⟨c, c1, c2, c3, c4, -⟩ := fillT (h := b) (v := 0) alT.2.2 (by decide)
  rw [a1, bnd_q, b1, bnd_q, c1, bnd_q, bnd_q]
  have g3 : c.1 3 = (pI (pI (pI (pI (pI (pI h 3 0 20) 3 1 0) 3 2 0) 3 3 0) 3 4 0) 3 5 0).1 3 := by rw [c3 3 (by decide), b3 3 (by decide), pI_f (by decide), pI_f (by decide), a3 3 (by decide)]
  refine ⟨c, rfl, ⟨?_, fun t x y => ?_, fun t x y => ?_, fun t x y => ?_, fun t x y => ?_⟩, fun q hq => ⟨?_, ?_, fun j _ z => absurd z (Nat.not_lt_zero j)⟩, ⟨?_, ?_⟩, ?_, fun d s z => ?_⟩
  · rw [g3, e0, e1, e2, e3, e4, e5]
    refine ⟨?_, ?_, ?_, ?_, ?_, ?_⟩ <;> repeat (first | rw [pI_t, if_pos rfl] | rw [pI_t, if_neg (by decide)])
  · rw [e3] at y
    exact absurd y (by lia)
  · simp only [Nat.reduceAdd]
    rw [c3 8 (by decide), b3 8 (by decide), pI_n (by decide), pI_n (by decide), e6]
    exact a4 _ (ix_lt x (by decide) (show t < nI 61 from y))
  · rw [e4] at y
    exact absurd y (by lia)
  · rw [e5] at y
    exact absurd y (by lia)
  · simp only [Nat.reduceAdd]
    rw [c3 19 (by decide)]
    exact b4 q hq
  · simp only [Nat.reduceAdd]
    exact c4 q hq
  · rw [c3 17 (by decide), b3 17 (by decide), pI_t, if_neg (by decide), pI_t, if_pos rfl]
  · rw [c3 17 (by decide), b3 17 (by decide), pI_t, if_pos rfl]
  · rw [c2, b2, pI_l, pI_l, a2, pI_l, pI_l, pI_l, pI_l, pI_l, pI_l]
  · have z8 : ¬ d = 8 ∧ ¬ d = 19 ∧ ¬ d = 20 ∧ ¬ d = 17 ∧ ¬ d = 3 := by
      unfold TXc at z
      omega
    rw [c3 d z8.2.2.1, b3 d z8.2.1, pI_n z8.2.2.2.1, pI_n z8.2.2.2.1, a3 d z8.1, pI_n z8.2.2.2.2, pI_n z8.2.2.2.2, pI_n z8.2.2.2.2, pI_n z8.2.2.2.2, pI_n z8.2.2.2.2, pI_n z8.2.2.2.2]
theorem plnR {h : Hp} : f_Md_plain TR h 0 = some (pI (pI (pI (pI (pI (pI (pI (pI (pI (pI (pI (pI (pI (pI h 0 17 0) 0 18 0) 0 19 0) 0 20 20) 0 21 0) 0 22 0) 0 48 0) 3 0 0) 4 2 0) 3 1 0) 4 3 0) 17 3 0) 17 4 0) 17 5 0) := by
  have w3 : ∀ (g : Hp) (i : Nat), i < 2 → wZ TR g 3 (nI i) 0 = some (pI g 3 i 0) := fun g i hi => wZ_ok (n := 2) (by simp only [alR]) hi (by decide) (by decide)
  have w4 : ∀ (g : Hp) (i : Nat), i < 4 → wI TR g 4 (nI i) 0 = some (pI g 4 i 0) := fun g i hi => wI_ok (n := 4) (by simp only [alR]) hi (by decide)
  have w17 : ∀ (g : Hp) (i : Nat), i < 6 → wZ TR g 17 (nI i) 0 = some (pI g 17 i 0) := fun g i hi => wZ_ok alL.2.2.2.2.1 hi (by decide) (by decide)
  have i2 : (2 : Int32) + 0 = nI 2 := by decide
  have i3 : (2 : Int32) + 1 = nI 3 := by decide
  unfold f_Md_plain
  simp only [nmd_q]
  obtain ⟨m, hm⟩ : ∃ m, fu = m + 1 + 1 + 1 + 1 := ⟨996, rfl⟩
  have s1 : ∀ k g i, lp_Md_plain_38 TR (k + 1) g 0 i = if 2 ≤ i then lp_Md_plain_67 TR fu g 0 3 else (wZ TR g 3 i 0).bind fun h1 => (wI TR h1 4 (2 + i) 0).bind fun h2 => lp_Md_plain_38 TR k h2 0 (i + 1) := fun k g i => by
    simp only [lp_Md_plain_38, lyR, nmd_q]
  have s2 : ∀ k g i, lp_Md_plain_67 TR (k + 1) g 0 i = if 6 ≤ i then some g else (wZ TR g 17 i 0).bind fun h1 => lp_Md_plain_67 TR k h1 0 (i + 1) := fun k g i => by
    simp only [lp_Md_plain_67, lyR, nmd_q]
  rw [hm, s1]
  rw [if_neg (show ¬ (2 : Int32) ≤ 0 by decide), show ∀ g, wZ TR g 3 0 0 = some (pI g 3 0 0) from fun g => w3 g 0 (by decide), bnd_q, i2, w4 _ 2 (by decide), bnd_q, show (0 : Int32) + 1 = 1 from by decide, s1, if_neg (show ¬ (2 : Int32) ≤ 1 by decide), show ∀ g, wZ TR g 3 1 0 = some (pI g 3 1 0) from fun g => w3 g 1 (by decide), bnd_q, i3, w4 _ 3 (by decide), bnd_q, s1, if_pos (show (2 : Int32) ≤ 1 + 1 by decide), hm]
  rw [s2, if_neg (show ¬ (6 : Int32) ≤ 3 by decide), show ∀ g, wZ TR g 17 3 0 = some (pI g 17 3 0) from fun g => w17 g 3 (by decide), bnd_q, show (3 : Int32) + 1 = 4 from by decide, s2, if_neg (show ¬ (6 : Int32) ≤ 4 by decide), show ∀ g, wZ TR g 17 4 0 = some (pI g 17 4 0) from fun g => w17 g 4 (by decide), bnd_q, show (4 : Int32) + 1 = 5 from by decide, s2, if_neg (show ¬ (6 : Int32) ≤ 5 by decide), show ∀ g, wZ TR g 17 5 0 = some (pI g 17 5 0) from fun g => w17 g 5 (by decide), bnd_q, s2, if_pos (show (6 : Int32) ≤ 5 + 1 by decide)]
def GrP (b h : Hp) : Prop := h.2 = b.2 ∧ ∀ c s, ¬ TXc c s → ¬ (c = 0 ∧ s = 1) → ¬ (c = 2 ∧ (s = 1 ∨ s = 2)) → h.1 c s = b.1 c s
def GrQ (b h : Hp) : Prop := h.2 = b.2 ∧ ∀ c s, ¬ TXr c s → ¬ (c = 0 ∧ (s = 1 ∨ s = 2 ∨ s = 4 ∨ s = 5 ∨ s = 6 ∨ s = 21)) → h.1 c s = b.1 c s
def FZ (h h' : Hp) : Prop := h.1 0 1 = 0 ∧ h'.1 0 1 = 0 ∧ h.1 2 1 = 0 ∧ h.1 2 2 = -1 ∧ h'.1 0 4 = 0 ∧ h'.1 0 5 = -1
/-- a text's end -/
def TE (b b' : Hp) (n : Int32) (T : Int32 → Int32) (x y : Option (Int32 × Hp)) : Prop := (∃ g g', x = some (-1, g) ∧ y = some (-1, g') ∧ GrP b g ∧ GrQ b' g' ∧ g.1 0 1 = 0 ∧ g'.1 0 1 = 0 ∧ g.1 2 1 = g'.1 0 4 ∧ g.1 2 2 = g'.1 0 5) ∨ (∃ g g' l Q L sz fr fs a j, x = some (l, g) ∧ 0 ≤ l ∧ (y = (f_Md_keepText TR g' 0).bind fun r1 => some (r1.1 0 21, r1)) ∧ GrP b g ∧ GrQ b' g' ∧ PS g g' g g' n T Q L sz fr fs a j ∧ g'.1 0 21 = l ∧ FZ g g')
theorem lns {b b' : Hp} {n : Int32} {T : Int32 → Int32} : ∀ l : Int32, 0 ≤ l → ∀ {h h' : Hp} {Q : Pl} {L : Lw} {sz : Nat} {fr fs a j : Int32}, l ≤ a → PS h h' h h' n T Q L sz fr fs a j → h'.1 0 21 = l → (l = 0 → Q 0 3 = 0 ∧ Q 0 4 = 0 ∧ Q 0 5 = 0) → GrP b h → GrQ b' h' → FZ h h' → TE b b' n T (lp_Tr_readText_37 TC fu h 2 l) (lp_Md_text_53 TR fu h' 0) := by
  refine loop_fu (N := 701) (P := fun m l => ∀ {h h' : Hp} {Q : Pl} {L : Lw} {sz : Nat} {fr fs a j : Int32}, l ≤ a → PS h h' h h' n T Q L sz fr fs a j → h'.1 0 21 = l → (l = 0 → Q 0 3 = 0 ∧ Q 0 4 = 0 ∧ Q 0 5 = 0) → GrP b h → GrQ b' h' → FZ h h' → TE b b' n T (lp_Tr_readText_37 TC m h 2 l) (lp_Md_text_53 TR m h' 0)) (by decide) ?_ ?_
  · intro m l l0 l1 h h' Q L sz fr fs a j la x
    have s := x.2.2.2.2.2.2.2
    exact absurd la (by
      have z1 := s.1.1.2
      have z2 := s.2.2.2.2.2.2.1
      have z3 := s.2.2.2.2.2.2.2.1
      lia)
  · intro m l l0 l1 ih h h' Q L sz fr fs a j la x e21 q0 G G' fz
    have s := x.2.2.2.2.2.2.2
    obtain ⟨-, -, k0, -⟩ := s.k2
    simp only [lp_Tr_readText_37, lp_Md_text_53, lyC, nmd_q]
    by_cases d : h.1 22 0 = 0
    · rw [if_pos d, if_pos (k0.mp d)]
      refine .inr ⟨h, h', l, Q, L, sz, fr, fs, a, j, ?_, l0, rfl, G, G', x, e21, fz⟩
      by_cases z : 700 ≤ l
      · rw [if_pos z]
      · rw [if_neg z]
    have aj : a < j := s.2.2.2.2.2.2.2.2.1.resolve_left d
    have l7 : ¬ 700 ≤ l := by
      have z1 := s.1.1.2
      have z3 := s.2.2.2.2.2.2.2.1
      lia
    have e64 : (if l = 0 then jb_Tr_readText_64 TC (lp_Tr_readText_37 TC m) h 2 l 2 1 else jb_Tr_readText_64 TC (lp_Tr_readText_37 TC m) h 2 l 2 0) = jb_Tr_readText_64 TC (lp_Tr_readText_37 TC m) h 2 l 2 (if l = 0 then 1 else 0) := by
      by_cases z : l = 0
      · rw [if_pos z, if_pos z]
      · rw [if_neg z, if_neg z]
    rw [if_neg l7, if_neg d, if_neg (fun z => d (k0.mpr z)), e64]
    unfold jb_Tr_readText_64
    simp only [lyC, nmd_q]
    rcases lnr x e21 l0 q0 with ⟨g, g', w1, w2, ⟨f, f', w3, w4⟩⟩ | ⟨g, g', Q2, L2, sz2, fr2, fs2, a2, j2, w1, w2, ⟨f, f', ok, cp, rq, pw, pl, s2⟩, ja⟩
    · rw [w1, w2, bnd_q, bnd_q]
      simp only [fst_q, snd_q]
      rw [if_pos trivial, if_pos trivial]
      refine .inl ⟨_, _, rfl, rfl, ⟨by rw [pI_l, f.1]; exact G.1, fun c i z1 z2 z3 => ?_⟩, ⟨f'.1.trans G'.1, fun c i z1 z2 => ?_⟩, ?_, ?_, ?_, ?_⟩
      · rw [pI_x (by omega), f.2 c i z1 (by omega)]
        exact G.2 c i z1 z2 z3
      · rw [f'.2 c i z1 (by omega)]
        exact G'.2 c i z1 z2
      · rw [pI_n (by decide), f.2 0 1 (by unfold TXc; omega) (by omega)]
        exact fz.1
      · rw [f'.2 0 1 (by unfold TXr; omega) (by omega)]
        exact fz.2.1
      · rw [pI_t, if_neg (by decide)]
        exact w3
      · rw [pI_t, if_pos rfl]
        exact w4
    · rw [w1, w2, bnd_q, bnd_q]
      simp only [fst_q, snd_q]
      have e21' : g'.1 0 21 = l := (f'.2 0 21 (by unfold TXr; omega)).trans e21
      rw [if_neg (show ¬ (1 : Int32) = 0 by decide), if_neg (show ¬ (1 : Int32) = 0 by decide), e21']
      have gR : ∀ c i, ¬ (c = 0 ∧ i = 21) → (pI g' 0 21 (l + 1)).1 c i = g'.1 c i := fun c i z => pI_x z
      refine ih (a := a2) (j := j2) (fr := fr2) (fs := fs2) (by lia) ⟨FrP.rf, FrQ.rf, ok, cp, rq.mv (fun c i z => gR c i (by omega)), ?_, pl.mv (fun _ _ _ _ => rfl) (fun c i z => gR c i (by omega)), s2.mv (fun _ _ _ => rfl) (fun c i z => gR c i (by omega))⟩ ?_ (fun z => absurd z (by lia)) ⟨f.1.trans G.1, fun c i z1 z2 z3 => ?_⟩ ⟨by rw [pI_l]; exact f'.1.trans G'.1, fun c i z1 z2 => ?_⟩ ?_
      · unfold PW at pw ⊢
        rw [gR 3 0 (by omega), gR 3 1 (by omega)]
        exact pw
      · rw [pI_t, if_pos rfl]
      · rw [f.2 c i z1]
        exact G.2 c i z1 z2 z3
      · rw [gR c i (by omega), f'.2 c i z1]
        exact G'.2 c i z1 z2
      · unfold FZ at fz ⊢
        rw [gR 0 1 (by omega), gR 0 4 (by omega), gR 0 5 (by omega), f.2 0 1 (by unfold TXc; omega), f.2 2 1 (by unfold TXc; omega), f.2 2 2 (by unfold TXc; omega), f'.2 0 1 (by unfold TXr; omega), f'.2 0 4 (by unfold TXr; omega), f'.2 0 5 (by unfold TXr; omega)]
        exact fz
