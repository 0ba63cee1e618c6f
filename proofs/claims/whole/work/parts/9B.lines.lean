/-! lines, but those of laws -/
def RQ (h : Hp) (Q : Pl) : Prop :=
  (h.1 0 17 = Q 0 3 ∧ h.1 0 18 = Q 0 4 ∧ h.1 0 19 = Q 0 5 ∧ h.1 0 20 = Q 0 0 ∧ h.1 4 2 = Q 0 1 ∧ h.1 4 3 = Q 0 2) ∧
  (∀ t, 0 ≤ t → t < Q 0 3 → h.1 5 (ix (6 + t)) = Q 1 t ∧ h.1 6 (ix (6 + t)) = Q 2 t ∧ h.1 7 (ix (6 + t)) = Q 3 t ∧ h.1 8 (ix (6 + t)) = Q 4 t) ∧
  (∀ t, 0 ≤ t → t < Q 0 4 → h.1 9 (ix (6 + t)) = Q 6 t ∧ h.1 10 (ix (6 + t)) = Q 7 t ∧ h.1 11 (ix (6 + t)) = Q 8 t ∧ h.1 12 (ix (6 + t)) = Q 9 t ∧ h.1 13 (ix (6 + t)) = Q 10 t) ∧
  (∀ t, 0 ≤ t → t < Q 0 5 → h.1 14 (ix (12 + t)) = Q 11 t ∧ h.1 15 (ix (12 + t)) = Q 12 t ∧ h.1 16 (ix (12 + t)) = Q 13 t)
theorem RQ.mv {h t : Hp} {Q : Pl} (x : RQ h Q) (g : ∀ c s, ((4 ≤ c ∧ c ≤ 16) ∨ (c = 0 ∧ 17 ≤ s ∧ s ≤ 20)) → t.1 c s = h.1 c s) : RQ t Q := by
  have gg : ∀ c, 4 ≤ c → c ≤ 16 → t.1 c = h.1 c := fun c a b => funext fun s => g c s (by omega)
  unfold RQ at x ⊢
  rw [g 0 17 (by omega), g 0 18 (by omega), g 0 19 (by omega), g 0 20 (by omega), gg 4 (by decide) (by decide), gg 5 (by decide) (by decide), gg 6 (by decide) (by decide), gg 7 (by decide) (by decide), gg 8 (by decide) (by decide), gg 9 (by decide) (by decide), gg 10 (by decide) (by decide), gg 11 (by decide) (by decide), gg 12 (by decide) (by decide), gg 13 (by decide) (by decide), gg 14 (by decide) (by decide), gg 15 (by decide) (by decide), gg 16 (by decide) (by decide)]
  exact x
theorem CP.m3 {h t : Hp} {Q : Pl} (x : CP h 3 Q) (g : ∀ c s, 3 ≤ c → c ≤ 16 → t.1 c s = h.1 c s) : CP t 3 Q := by
  have gg : ∀ c, 3 ≤ c → c ≤ 16 → t.1 c = h.1 c := fun c a b => funext fun s => g c s a b
  unfold CP at x ⊢
  simp only [Nat.reduceAdd] at x ⊢
  rw [gg 3 (by decide) (by decide), gg 4 (by decide) (by decide), gg 5 (by decide) (by decide), gg 6 (by decide) (by decide), gg 7 (by decide) (by decide), gg 8 (by decide) (by decide), gg 9 (by decide) (by decide), gg 10 (by decide) (by decide), gg 11 (by decide) (by decide), gg 12 (by decide) (by decide), gg 13 (by decide) (by decide), gg 14 (by decide) (by decide), gg 15 (by decide) (by decide), gg 16 (by decide) (by decide)]
  exact x
/-- the reference's knots as they are read -/
def RKu (h : Hp) (K : Kn) (fr to : Nat) : Prop := ∀ i, fr ≤ i → i < to → h.1 20 (64 + i) = nI (K i).1 ∧ ((K i).1 ≤ 1 → h.1 21 (64 + i) = nI (K i).2) ∧ (∀ s, hsim K fr (i - fr) = some s → ((K i).1 = 2 → ∃ a t, s = a :: t ∧ h.1 21 (64 + i) = nI a) ∧ (3 ≤ (K i).1 → ∃ a b t, s = b :: a :: t ∧ h.1 21 (64 + i) = nI a ∧ h.1 22 (64 + i) = nI b))
def RLr (h : Hp) (L : Lw) : Prop := ∀ q, q < 3 → h.1 17 (3 + q) = (if L.2.1 q < L.2.2 q then 1 else 0) ∧ (L.2.1 q < L.2.2 q → h.1 18 (3 + q) = nI (L.2.1 q) ∧ h.1 19 (3 + q) = nI (L.2.2 q) ∧ RKu h L.1 (L.2.1 q) (L.2.2 q))
def PLw (h h' : Hp) (L : Lw) (sz : Nat) : Prop := LOK L ∧ CLa h 17 L ∧ RLr h' L ∧ (h.1 17 0 = nI sz ∧ h.1 17 1 = nI sz ∧ h'.1 0 48 = nI sz ∧ h'.1 0 22 = nI sz) ∧ sz ≤ 64 ∧ ∀ q, q < 3 → L.2.2 q ≤ sz
theorem PLw.mv {h h' t t' : Hp} {L : Lw} {sz : Nat} (x : PLw h h' L sz) (g : ∀ c s, 17 ≤ c → c ≤ 20 → t.1 c s = h.1 c s) (g' : ∀ c s, ((17 ≤ c ∧ c ≤ 22) ∨ (c = 0 ∧ (s = 48 ∨ s = 22))) → t'.1 c s = h'.1 c s) : PLw t t' L sz := by
  obtain ⟨x1, x2, x3, x4, x5, x6⟩ := x
  have gg : ∀ c, 17 ≤ c → c ≤ 20 → t.1 c = h.1 c := fun c a b => funext fun s => g c s a b
  have gg' : ∀ c, 17 ≤ c → c ≤ 22 → t'.1 c = h'.1 c := fun c a b => funext fun s => g' c s (by omega)
  refine ⟨x1, ?_, ?_, ?_, x5, x6⟩
  · unfold CLa at x2 ⊢
    simp only [Nat.reduceAdd] at x2 ⊢
    rw [gg 18 (by decide) (by decide), gg 19 (by decide) (by decide), gg 20 (by decide) (by decide)]
    exact x2
  · unfold RLr RKu at x3 ⊢
    rw [gg' 17 (by decide) (by decide), gg' 18 (by decide) (by decide), gg' 19 (by decide) (by decide), gg' 20 (by decide) (by decide), gg' 21 (by decide) (by decide), gg' 22 (by decide) (by decide)]
    exact x3
  · rw [gg 17 (by decide) (by decide), g' 0 48 (by omega), g' 0 22 (by omega)]
    exact x4
def PW (h h' : Hp) (fr fs : Int32) : Prop := h.1 2 5 = fr ∧ h'.1 3 0 = fr ∧ h.1 2 6 = fs ∧ h'.1 3 1 = fs
/-- between two lines -/
def PS (b b' h h' : Hp) (n : Int32) (T : Int32 → Int32) (Q : Pl) (L : Lw) (sz : Nat) (fr fs a j : Int32) : Prop := FrP b h ∧ FrQ b' h' ∧ POK Q ∧ CP h 3 Q ∧ RQ h' Q ∧ PW h h' fr fs ∧ PLw h h' L sz ∧ Scn h h' n T a j
/-- a line's end: both failed, or both went on -/
def LR (b b' : Hp) (n : Int32) (T : Int32 → Int32) (j0 : Int32) (x y : Option (Int32 × Hp)) : Prop := (∃ g g', x = some (0, g) ∧ y = some (0, g') ∧ Fld b b' g g') ∨ (∃ g g' Q L sz fr fs a j, x = some (1, g) ∧ y = some (1, g') ∧ PS b b' g g' n T Q L sz fr fs a j ∧ j0 ≤ a)
theorem rdline {b b' h h' : Hp} {n a j : Int32} {T : Int32 → Int32} {Q : Pl} {L : Lw} {sz : Nat} {fr fs : Int32} (x : PS b b' h h' n T Q L sz fr fs a j) (e21 : h'.1 0 21 = 0) (q0 : Q 0 3 = 0 ∧ Q 0 4 = 0 ∧ Q 0 5 = 0) : LR b b' n T j (f_Tr_readRoad TC h 2) (f_Md_roadLine TR h' 0) := by
  obtain ⟨f, f', ok, cp, rq, pw, pl, s⟩ := x
  obtain ⟨t, t', a2, j2, w1, w2, w3, w4, w5, w6⟩ := s.st
  unfold f_Tr_readRoad f_Md_roadLine
  simp only [lyC]
  rw [e21, if_pos (by decide), w1, w2, bnd_q, bnd_q]
  rcases w5.num (f.tr w3.P) (f'.tr w4.p.Q) (l := 2) (u := 60) (by decide) (by decide) with ⟨g, g', q1, q2, q3⟩ | ⟨v, u, u', a3, j3, q1, q2, q3, q4, q5, q6, q7, q8, q9⟩
  · rw [q1, q2, bnd_q, bnd_q, if_pos (rfl : (-1 : Int32) = -1), if_pos (rfl : (0 : Int32) = 0)]
    exact .inl ⟨g, g', rfl, rfl, q3⟩
  rw [q1, q2, bnd_q, bnd_q, if_neg (show ¬ v = -1 by lia), if_neg (show ¬ (1 : Int32) = 0 by decide), nmd_q, nmd_q]
  have c1 : CP u 3 Q := (cp.m3 (fun c s _ _ => w3.2 c s (by omega))).m3 (fun c s _ _ => q5.2 c s (by omega))
  have r1 : RQ u' Q := (rq.mv (fun c s _ => w4.2 c s (by omega))).mv (fun c s _ => q6.2 c s (by omega))
  have jj : j ≤ a3 := by
    have := w5.2.2.2.2.2.2.1
    lia
  refine .inr ⟨_, _, upX Q 0 0 v, L, sz, fr, fs, a3, j3, rfl, rfl, ⟨((f.tr w3.P).tr q5.P).wr (by unfold TXc; omega), ((f'.tr w4.p.Q).tr q6.Q).wr (by unfold TXr; omega), ?_, ?_, ?_, ?_, ?_, ?_⟩, jj⟩
  · obtain ⟨o1, o2, o3, o4, o5⟩ := ok
    refine ⟨?_, fun t a b => ?_, fun p a b => ?_, fun t a b => ?_, fun t a b => ?_⟩
    · simp only [upX_s]
      exact ⟨o1.1, o1.2.1, o1.2.2.1, o1.2.2.2.1, o1.2.2.2.2.1, o1.2.2.2.2.2.1, q3, q4, o1.2.2.2.2.2.2.2.2⟩
    · rw [upX_s, if_neg (by decide), q0.1] at b
      exact absurd b (by lia)
    · simp only [upX_n (show ¬ 5 = 0 by decide), upX_n (show ¬ 2 = 0 by decide), upX_s, if_neg (show ¬ (3 : Int32) = 0 by decide)]
      exact o3 p a b
    · rw [upX_s, if_neg (by decide), q0.2.1] at b
      exact absurd b (by lia)
    · rw [upX_s, if_neg (by decide), q0.2.2] at b
      exact absurd b (by lia)
  · obtain ⟨p1, p2, p3, p4, p5⟩ := c1
    simp only [Nat.reduceAdd] at p2 p3 p4 p5
    unfold CP
    simp only [Nat.reduceAdd]
    refine ⟨?_, fun t a b => ?_, fun t a b => ?_, fun t a b => ?_, fun t a b => ?_⟩
    · simp only [upX_s, pI_t]
      exact ⟨rfl, p1.2⟩
    · rw [upX_s, if_neg (by decide)] at b
      rw [pI_n (by decide), pI_n (by decide), pI_n (by decide), pI_n (by decide), upX_n (by decide), upX_n (by decide), upX_n (by decide), upX_n (by decide)]
      exact p2 t a b
    · rw [pI_n (by decide), upX_n (by decide)]
      exact p3 t a b
    · rw [upX_s, if_neg (by decide)] at b
      rw [pI_n (by decide), pI_n (by decide), pI_n (by decide), pI_n (by decide), pI_n (by decide), upX_n (by decide), upX_n (by decide), upX_n (by decide), upX_n (by decide), upX_n (by decide)]
      exact p4 t a b
    · rw [upX_s, if_neg (by decide)] at b
      rw [pI_n (by decide), pI_n (by decide), pI_n (by decide), upX_n (by decide), upX_n (by decide), upX_n (by decide)]
      exact p5 t a b
  · obtain ⟨p1, p2, p3, p4⟩ := r1
    refine ⟨?_, fun t a b => ?_, fun t a b => ?_, fun t a b => ?_⟩
    · simp only [upX_s, pI_t, pI_n (show ¬ 4 = 0 by decide)]
      exact ⟨p1.1, p1.2.1, p1.2.2.1, q7, p1.2.2.2.2⟩
    · rw [upX_s, if_neg (by decide)] at b
      rw [pI_n (by decide), pI_n (by decide), pI_n (by decide), pI_n (by decide), upX_n (by decide), upX_n (by decide), upX_n (by decide), upX_n (by decide)]
      exact p2 t a b
    · rw [upX_s, if_neg (by decide)] at b
      rw [pI_n (by decide), pI_n (by decide), pI_n (by decide), pI_n (by decide), pI_n (by decide), upX_n (by decide), upX_n (by decide), upX_n (by decide), upX_n (by decide), upX_n (by decide)]
      exact p3 t a b
    · rw [upX_s, if_neg (by decide)] at b
      rw [pI_n (by decide), pI_n (by decide), pI_n (by decide), upX_n (by decide), upX_n (by decide), upX_n (by decide)]
      exact p4 t a b
  · unfold PW at pw ⊢
    rw [pI_n (by decide), pI_n (by decide), pI_n (by decide), pI_n (by decide), q5.2 2 5 (by omega), q5.2 2 6 (by omega), w3.2 2 5 (by omega), w3.2 2 6 (by omega), q6.2 3 0 (by omega), q6.2 3 1 (by omega), w4.2 3 0 (by omega), w4.2 3 1 (by omega)]
    exact pw
  · exact pl.mv (fun c s _ _ => by rw [pI_n (by omega), q5.2 c s (by omega), w3.2 c s (by omega)]) (fun c s _ => by rw [pI_x (by omega), q6.2 c s (by omega), w4.2 c s (by omega)])
  · exact q8.mv (fun c s _ => by rw [pI_n (by omega)]) (fun c s _ => by rw [pI_x (by omega)])
/-- rain, seed -/
theorem online {b b' h h' : Hp} {n a j m : Int32} {k : Nat} {T : Int32 → Int32} {Q : Pl} {L : Lw} {sz : Nat} {fr fs : Int32} (x : PS b b' h h' n T Q L sz fr fs a j) (hk : (k = 0 ∧ m = 100) ∨ (k = 1 ∧ m = 99999)) :
    LR b b' n T j (if k = 0 then f_Tr_readRain TC h 2 else f_Tr_readSeed TC h 2) (f_Md_onceLine TR h' 0 (nI k) m) := by
  obtain ⟨f, f', ok, cp, rq, pw, pl, s⟩ := x
  have k2 : nI k < 2 := by rcases hk with ⟨rfl, -⟩ | ⟨rfl, -⟩ <;> decide
  have k0 : 0 ≤ nI k := by rcases hk with ⟨rfl, -⟩ | ⟨rfl, -⟩ <;> decide
  have ik : ix (nI k) = k := by rcases hk with ⟨rfl, -⟩ | ⟨rfl, -⟩ <;> decide
  have i2 : ix (2 + nI k) = 2 + k := by rcases hk with ⟨rfl, -⟩ | ⟨rfl, -⟩ <;> decide
  have j0 : 0 ≤ 2 + nI k := by lia
  have j4 : 2 + nI k < 4 := by lia
  have m9 : m ≤ 99999 := by rcases hk with ⟨-, rfl⟩ | ⟨-, rfl⟩ <;> decide
  have hb1 : bit 1 = true := by decide
  have e10 : h'.1 0 10 = a := s.2.2.2.2.1
  have told : h.1 2 (5 + k) = h'.1 3 k := by
    obtain ⟨p1, p2, p3, p4⟩ := pw
    rcases hk with ⟨rfl, -⟩ | ⟨rfl, -⟩
    · rw [p1, p2]
    · rw [p3, p4]
  have eC : (if k = 0 then f_Tr_readRain TC h 2 else f_Tr_readSeed TC h 2) = (if h.1 2 (5 + k) = 0 then (f_Sc_step TC (pI h 2 (5 + k) 1) 22).bind fun r2 => (f_Tr_takeNumber TC r2 2 0 m).bind fun r3 => if r3.1 = -1 then some (0, r3.2) else some (1, pI r3.2 3 (1 + k) r3.1) else some (0, pI h 2 1 3)) := by
    rcases hk with ⟨rfl, rfl⟩ | ⟨rfl, rfl⟩
    · rw [if_pos rfl]
      unfold f_Tr_readRain
      simp only [nmd_q, lyC, faC, cz0, bnd_q]
    · rw [if_neg (by decide)]
      unfold f_Tr_readSeed
      simp only [nmd_q, lyC, faC, cz0, bnd_q]
  rw [eC]
  unfold f_Md_onceLine
  simp (disch := first | assumption | decide | omega) only [nmd_q, lyR, rdR, wtR, faR0 e10, cz0, bnd_q]
  rw [ik, told]
  by_cases d : h'.1 3 k = 0
  case neg =>
    rw [if_neg d, if_neg d]
    exact .inl ⟨_, _, rfl, rfl, Fld.of f f' s⟩
  rw [if_pos d, if_pos d]
  have f1 : FrP b (pI h 2 (5 + k) 1) := f.wr (by unfold TXc; omega)
  have f1' : FrQ b' (pI h' 3 k 1) := f'.wr (by unfold TXr; omega)
  have s1 : Scn (pI h 2 (5 + k) 1) (pI h' 3 k 1) n T a j := s.mv (fun c s _ => by rw [pI_n (by omega)]) (fun c s _ => by rw [pI_n (by omega)])
  obtain ⟨t, t', a2, j2, w1, w2, w3, w4, w5, w6⟩ := s1.st
  rw [w1, w2, bnd_q, bnd_q]
  rcases w5.num (f1.tr w3.P) (f1'.tr w4.p.Q) (l := 0) (u := m) (by decide) m9 with ⟨g, g', q1, q2, q3⟩ | ⟨v, u, u', a3, j3, q1, q2, q3, q4, q5, q6, q7, q8, q9⟩
  · rw [q1, q2, bnd_q, bnd_q, if_pos (rfl : (-1 : Int32) = -1), if_pos (rfl : (0 : Int32) = 0)]
    exact .inl ⟨g, g', rfl, rfl, q3⟩
  rw [q1, q2, bnd_q, bnd_q, if_neg (show ¬ v = -1 by lia), if_neg (show ¬ (1 : Int32) = 0 by decide)]
  simp (disch := first | assumption | decide | omega) only [wtR, bnd_q]
  rw [i2, q7]
  have gC : ∀ c s, ¬ c = 22 → ¬ (c = 2 ∧ s = 5 + k) → u.1 c s = h.1 c s := fun c s z z2 => by
    rw [q5.2 c s (by omega), w3.2 c s (by omega), pI_x (by omega)]
  have gR : ∀ c s, ¬ (c = 0 ∧ 7 ≤ s ∧ s ≤ 11) → ¬ (c = 3 ∧ s = k) → u'.1 c s = h'.1 c s := fun c s z z2 => by
    rw [q6.2 c s (by omega), w4.2 c s (by omega), pI_x (by omega)]
  have fC : u.1 2 (5 + k) = 1 := by rw [q5.2 2 _ (by omega), w3.2 2 _ (by omega), pI_t, if_pos rfl]
  have fR : u'.1 3 k = 1 := by rw [q6.2 3 _ (by omega), w4.2 3 _ (by omega), pI_t, if_pos rfl]
  have c1 : CP u 3 Q := cp.m3 (fun c s _ _ => gC c s (by omega) (by omega))
  have r1 : RQ u' Q := rq.mv (fun c s _ => gR c s (by omega) (by omega))
  have jj : j ≤ a3 := by
    have := w5.2.2.2.2.2.2.1
    lia
  have kk : ix (1 + nI k) = 1 + k ∧ 0 ≤ 1 + nI k := by rcases hk with ⟨rfl, -⟩ | ⟨rfl, -⟩ <;> decide
  refine .inr ⟨_, _, upX Q 0 (1 + nI k) v, L, sz, (if k = 0 then 1 else fr), (if k = 1 then 1 else fs), a3, j3, rfl, rfl, ⟨((f1.tr w3.P).tr q5.P).wr (by unfold TXc; omega), ((f1'.tr w4.p.Q).tr q6.Q).wr (by unfold TXr; omega), ?_, ?_, ?_, ?_, ?_, ?_⟩, jj⟩
  · obtain ⟨o1, o2, o3, o4, o5⟩ := ok
    have e3 : upX Q 0 (1 + nI k) v 0 3 = Q 0 3 := by rw [upX_s, if_neg (by lia)]
    have e4 : upX Q 0 (1 + nI k) v 0 4 = Q 0 4 := by rw [upX_s, if_neg (by lia)]
    have e5 : upX Q 0 (1 + nI k) v 0 5 = Q 0 5 := by rw [upX_s, if_neg (by lia)]
    have e0 : upX Q 0 (1 + nI k) v 0 0 = Q 0 0 := by rw [upX_s, if_neg (by lia)]
    refine ⟨?_, fun t a b => ?_, fun p a b => ?_, fun t a b => ?_, fun t a b => ?_⟩
    · rw [e3, e4, e5, e0]
      refine ⟨o1.1, o1.2.1, o1.2.2.1, o1.2.2.2.1, o1.2.2.2.2.1, o1.2.2.2.2.2.1, o1.2.2.2.2.2.2.1, o1.2.2.2.2.2.2.2.1, ?_⟩
      rw [upX_s, upX_s]
      rcases hk with ⟨rfl, rfl⟩ | ⟨rfl, rfl⟩
      · rw [if_pos (by decide), if_neg (by decide)]
        exact ⟨q3, q4, o1.2.2.2.2.2.2.2.2.2.2⟩
      · rw [if_neg (by decide), if_pos (by decide)]
        exact ⟨o1.2.2.2.2.2.2.2.2.1, o1.2.2.2.2.2.2.2.2.2.1, q3, q4⟩
    · rw [e3] at b
      simp only [upX_n (show ¬ 2 = 0 by decide), upX_n (show ¬ 3 = 0 by decide), upX_n (show ¬ 4 = 0 by decide), upX_n (show ¬ 5 = 0 by decide), e0]
      exact o2 t a b
    · simp only [upX_n (show ¬ 5 = 0 by decide), upX_n (show ¬ 2 = 0 by decide), e3]
      exact o3 p a b
    · rw [e4] at b
      simp only [upX_n (show ¬ 7 = 0 by decide), upX_n (show ¬ 8 = 0 by decide), upX_n (show ¬ 9 = 0 by decide), upX_n (show ¬ 10 = 0 by decide), e0]
      exact o4 t a b
    · rw [e5] at b
      simp only [upX_n (show ¬ 11 = 0 by decide), upX_n (show ¬ 12 = 0 by decide), upX_n (show ¬ 13 = 0 by decide), e3, e4]
      exact o5 t a b
  · obtain ⟨p1, p2, p3, p4, p5⟩ := c1
    simp only [Nat.reduceAdd] at p2 p3 p4 p5
    have e3 : upX Q 0 (1 + nI k) v 0 3 = Q 0 3 := by rw [upX_s, if_neg (by lia)]
    have e4 : upX Q 0 (1 + nI k) v 0 4 = Q 0 4 := by rw [upX_s, if_neg (by lia)]
    have e5 : upX Q 0 (1 + nI k) v 0 5 = Q 0 5 := by rw [upX_s, if_neg (by lia)]
    have e0 : upX Q 0 (1 + nI k) v 0 0 = Q 0 0 := by rw [upX_s, if_neg (by lia)]
    unfold CP
    simp only [Nat.reduceAdd]
    refine ⟨?_, fun t a b => ?_, fun t a b => ?_, fun t a b => ?_, fun t a b => ?_⟩
    · rw [e3, e4, e5, e0]
      simp only [pI_t]
      rw [upX_s, upX_s]
      rcases hk with ⟨rfl, rfl⟩ | ⟨rfl, rfl⟩
      · exact ⟨p1.1, rfl, p1.2.2⟩
      · exact ⟨p1.1, p1.2.1, rfl, p1.2.2.2⟩
    · rw [e3] at b
      rw [pI_n (by decide), pI_n (by decide), pI_n (by decide), pI_n (by decide), upX_n (by decide), upX_n (by decide), upX_n (by decide), upX_n (by decide)]
      exact p2 t a b
    · rw [pI_n (by decide), upX_n (by decide)]
      exact p3 t a b
    · rw [e4] at b
      rw [pI_n (by decide), pI_n (by decide), pI_n (by decide), pI_n (by decide), pI_n (by decide), upX_n (by decide), upX_n (by decide), upX_n (by decide), upX_n (by decide), upX_n (by decide)]
      exact p4 t a b
    · rw [e5] at b
      rw [pI_n (by decide), pI_n (by decide), pI_n (by decide), upX_n (by decide), upX_n (by decide), upX_n (by decide)]
      exact p5 t a b
  · obtain ⟨p1, p2, p3, p4⟩ := r1
    have e3 : upX Q 0 (1 + nI k) v 0 3 = Q 0 3 := by rw [upX_s, if_neg (by lia)]
    have e4 : upX Q 0 (1 + nI k) v 0 4 = Q 0 4 := by rw [upX_s, if_neg (by lia)]
    have e5 : upX Q 0 (1 + nI k) v 0 5 = Q 0 5 := by rw [upX_s, if_neg (by lia)]
    have e0 : upX Q 0 (1 + nI k) v 0 0 = Q 0 0 := by rw [upX_s, if_neg (by lia)]
    refine ⟨?_, fun t a b => ?_, fun t a b => ?_, fun t a b => ?_⟩
    · rw [e3, e4, e5, e0, pI_n (by decide), pI_n (by decide), pI_n (by decide), pI_n (by decide), pI_t, pI_t, upX_s, upX_s]
      rcases hk with ⟨rfl, rfl⟩ | ⟨rfl, rfl⟩
      · exact ⟨p1.1, p1.2.1, p1.2.2.1, p1.2.2.2.1, rfl, p1.2.2.2.2.2⟩
      · exact ⟨p1.1, p1.2.1, p1.2.2.1, p1.2.2.2.1, p1.2.2.2.2.1, rfl⟩
    · rw [e3] at b
      rw [pI_n (by decide), pI_n (by decide), pI_n (by decide), pI_n (by decide), upX_n (by decide), upX_n (by decide), upX_n (by decide), upX_n (by decide)]
      exact p2 t a b
    · rw [e4] at b
      rw [pI_n (by decide), pI_n (by decide), pI_n (by decide), pI_n (by decide), pI_n (by decide), upX_n (by decide), upX_n (by decide), upX_n (by decide), upX_n (by decide), upX_n (by decide)]
      exact p3 t a b
    · rw [e5] at b
      rw [pI_n (by decide), pI_n (by decide), pI_n (by decide), upX_n (by decide), upX_n (by decide), upX_n (by decide)]
      exact p4 t a b
  · unfold PW at pw ⊢
    rw [pI_n (by decide), pI_n (by decide), pI_n (by decide), pI_n (by decide)]
    rcases hk with ⟨rfl, rfl⟩ | ⟨rfl, rfl⟩
    · refine ⟨fC, fR, ?_, ?_⟩
      · rw [gC 2 6 (by decide) (by decide)]; exact pw.2.2.1
      · rw [gR 3 1 (by decide) (by decide)]; exact pw.2.2.2
    · refine ⟨?_, ?_, fC, fR⟩
      · rw [gC 2 5 (by decide) (by decide)]; exact pw.1
      · rw [gR 3 0 (by decide) (by decide)]; exact pw.2.1
  · exact pl.mv (fun c s _ _ => by rw [pI_n (by omega), gC c s (by omega) (by omega)]) (fun c s _ => by rw [pI_n (by omega), gR c s (by omega) (by omega)])
  · exact q8.mv (fun c s _ => by rw [pI_n (by omega)]) (fun c s _ => by rw [pI_n (by omega)])
