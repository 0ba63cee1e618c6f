/-! a line, whatever its kind -/
theorem lnend {b b' : Hp} {n j : Int32} {T : Int32 → Int32} {X Y : Option (Int32 × Hp)} (x : LR b b' n T j X Y) : LR b b' n T j (X.bind fun r => jb_Tr_readLine_122 TC r.2 2 r.1) (Y.bind fun r => jb_Md_lineRead_215 TR r.2 0 r.1) := by
  rcases x with ⟨g, g', e1, e2, fl⟩ | ⟨g, g', Q, L, sz, fr, fs, a, j2, e1, e2, ⟨f, f', ok, cp, rq, pw, pl, s⟩, ja⟩
  · rw [e1, e2, bnd_q, bnd_q]
    unfold jb_Tr_readLine_122 jb_Md_lineRead_215
    simp only [fst_q, snd_q]
    rw [if_pos trivial, if_pos trivial]
    exact .inl ⟨g, g', rfl, rfl, fl⟩
  · rw [e1, e2, bnd_q, bnd_q]
    have e10 : g'.1 0 10 = a := s.2.2.2.2.1
    obtain ⟨-, -, -, -, -, -, -, k30, -, -⟩ := s.k2
    unfold jb_Tr_readLine_122 jb_Md_lineRead_215
    simp only [fst_q, snd_q, lyC, nmd_q, isg, faC, faR0 e10, cz0, bnd_q]
    rw [if_neg (show ¬ (1 : Int32) = 0 by decide), if_neg (show ¬ (1 : Int32) = 0 by decide)]
    by_cases d : g.1 22 0 = 30
    · obtain ⟨t, t', a2, j3, w1, w2, w3, w4, w5, w6⟩ := s.st
      rw [if_pos d, if_pos (k30.mp d), if_neg (show ¬ (1 : Int32) = 0 by decide), w1, w2, bnd_q, bnd_q]
      refine .inr ⟨t, t', Q, L, sz, fr, fs, a2, j3, rfl, rfl, ⟨f.tr w3.P, f'.tr w4.p.Q, ok, cp.m3 (fun c i _ _ => w3.2 c i (by omega)), rq.mv (fun c i _ => w4.2 c i (by omega)), ?_, pl.mv (fun c i _ _ => w3.2 c i (by omega)) (fun c i _ => w4.2 c i (by omega)), w5⟩, ?_⟩
      · unfold PW at pw ⊢
        rw [w3.2 2 5 (by omega), w3.2 2 6 (by omega), w4.2 3 0 (by omega), w4.2 3 1 (by omega)]
        exact pw
      · have := s.2.2.2.2.2.2.1
        lia
    · rw [if_neg d, if_neg (fun z => d (k30.mpr z)), if_pos rfl]
      exact .inl ⟨_, _, rfl, rfl, Fld.of f f' s⟩
theorem lnr {b b' h h' : Hp} {n a j l : Int32} {T : Int32 → Int32} {Q : Pl} {L : Lw} {sz : Nat} {fr fs : Int32} (x : PS b b' h h' n T Q L sz fr fs a j) (e21 : h'.1 0 21 = l) (l0 : 0 ≤ l) (q0 : l = 0 → Q 0 3 = 0 ∧ Q 0 4 = 0 ∧ Q 0 5 = 0) : LR b b' n T j (f_Tr_readLine TC h 2 (if l = 0 then 1 else 0)) (f_Md_lineRead TR h' 0) := by
  have s := x.2.2.2.2.2.2.2
  have f := x.1
  have f' := x.2.1
  have e10 : h'.1 0 10 = a := s.2.2.2.2.1
  obtain ⟨-, -, -, -, -, k1, kw, -, -, -⟩ := s.k2
  have eC : f_Tr_readLine TC h 2 (if l = 0 then 1 else 0) = (if h.1 22 0 = 10 then (if l = 0 then f_Tr_readRoad TC h 2 else some (0, pI h 2 1 1)) else if h.1 22 0 = 11 then f_Tr_readTrough TC h 2 else if h.1 22 0 = 12 then f_Tr_readHorse TC h 2 else if h.1 22 0 = 13 then f_Tr_readLap TC h 2 else if h.1 22 0 = 14 then f_Tr_readRain TC h 2 else if h.1 22 0 = 15 then f_Tr_readSeed TC h 2 else if h.1 22 0 = 16 then f_Tr_readLaw TC h 2 else some (0, pI h 2 1 1)).bind fun r => jb_Tr_readLine_122 TC r.2 2 r.1 := by
    unfold f_Tr_readLine jb_Tr_readLine_64
    simp only [nmd_q, lyC, faC, fst_q, snd_q]
    by_cases c0 : h.1 22 0 = 10
    · rw [if_pos c0, if_pos c0]
      by_cases z : l = 0
      · rw [if_pos z, if_neg (show ¬ (1 : Int32) = 0 by decide), if_pos z]
      · rw [if_neg z, if_pos rfl, if_neg z, bnd_q]
    rw [if_neg c0, if_neg c0]
    by_cases c1 : h.1 22 0 = 11
    · rw [if_pos c1, if_pos c1]
    rw [if_neg c1, if_neg c1]
    by_cases c2 : h.1 22 0 = 12
    · rw [if_pos c2, if_pos c2]
    rw [if_neg c2, if_neg c2]
    by_cases c3 : h.1 22 0 = 13
    · rw [if_pos c3, if_pos c3]
    rw [if_neg c3, if_neg c3]
    by_cases c4 : h.1 22 0 = 14
    · rw [if_pos c4, if_pos c4]
    rw [if_neg c4, if_neg c4]
    by_cases c5 : h.1 22 0 = 15
    · rw [if_pos c5, if_pos c5]
    rw [if_neg c5, if_neg c5]
    by_cases c6 : h.1 22 0 = 16
    · rw [if_pos c6, if_pos c6]
    rw [if_neg c6, if_neg c6, bnd_q]
  have j0 : ∀ g : Hp, jb_Md_lineRead_215 TR g 0 0 = some (0, g) := fun g => by
    unfold jb_Md_lineRead_215
    exact if_pos rfl
  have eL : ((f_Md_token TR h' 0).bind fun r14 => if r14.1 0 8 = 1 then (if r14.1 0 9 < 7 then jb_Md_lineRead_148 TR r14 0 else if r14.1 0 9 ≤ 9 then (rI TR r14 17 (3 + r14.1 0 9 - 7)).bind fun x16 => if x16 = 0 then (wZ TR r14 17 (3 + r14.1 0 9 - 7) 1).bind fun h17 => (f_Md_token TR h17 0).bind fun r18 => (wI TR r18 18 (3 + r14.1 0 9 - 7) (r18.1 0 22)).bind fun h19 => (f_Md_sumRead TR h19 0).bind fun r20 => (wI TR r20.2 19 (3 + r14.1 0 9 - 7) (r20.2.1 0 22)).bind fun h21 => jb_Md_lineRead_215 TR h21 0 r20.1 else (cZ (f_Md_wrong TR r14 0 3).1).bind fun x23 => some (x23, (f_Md_wrong TR r14 0 3).2) else jb_Md_lineRead_148 TR r14 0) else jb_Md_lineRead_148 TR r14 0) = (lawR h').bind fun r => jb_Md_lineRead_215 TR r.2 0 r.1 := by
    unfold lawR jb_Md_lineRead_148
    have wz : ∀ (g : Hp) (k : Int32), (f_Md_wrong TR g 0 k).1 = 0 := fun g k => by
      unfold f_Md_wrong
      simp only [nmd_q]
    simp only [nmd_q, wz, cz0, bnd_q]
    rw [Option.bind_assoc]
    congr 1
    funext r
    by_cases c : r.1 0 8 = 1 ∧ 7 ≤ r.1 0 9 ∧ r.1 0 9 ≤ 9
    · rw [if_pos c.1, if_neg (show ¬ r.1 0 9 < 7 by have := c.2.1; lia), if_pos c.2.2, if_pos c, Option.bind_assoc]
      congr 1
      funext v
      by_cases z : v = 0
      · rw [if_pos z, if_pos z]
        simp only [Option.bind_assoc, bnd_q]
      · rw [if_neg z, if_neg z, bnd_q, j0]
    · rw [if_neg c, bnd_q, j0]
      by_cases c1 : r.1 0 8 = 1
      · rw [if_pos c1]
        by_cases c2 : r.1 0 9 < 7
        · rw [if_pos c2]
        · rw [if_neg c2, if_neg (fun z => c ⟨c1, by lia, z⟩)]
      · rw [if_neg c1]
  have eR : f_Md_lineRead TR h' 0 = (if h'.1 0 8 = 1 ∧ h'.1 0 9 ≤ 6 then (if h'.1 0 9 = 0 then f_Md_roadLine TR h' 0 else if h'.1 0 9 = 1 then f_Md_troughLine TR h' 0 else if h'.1 0 9 = 2 then f_Md_horseLine TR h' 0 else if h'.1 0 9 = 3 then f_Md_lapLine TR h' 0 else if h'.1 0 9 = 4 then f_Md_onceLine TR h' 0 0 100 else if h'.1 0 9 = 5 then f_Md_onceLine TR h' 0 1 99999 else lawR h') else some (0, pI (pI h' 0 4 1) 0 5 a)).bind fun r => jb_Md_lineRead_215 TR r.2 0 r.1 := by
    unfold f_Md_lineRead jb_Md_lineRead_17
    simp only [nmd_q, lyR, faR0 e10, fst_q, snd_q, cz0, bnd_q]
    rw [eL]
    by_cases c : h'.1 0 8 = 1
    case neg => rw [if_neg c, if_neg (fun z => c z.1), bnd_q, j0]
    by_cases d : h'.1 0 9 ≤ 6
    case neg => rw [if_pos c, if_neg d, if_neg (fun z => d z.2), bnd_q, j0]
    rw [if_pos c, if_pos d, if_pos (show h'.1 0 8 = 1 ∧ h'.1 0 9 ≤ 6 from ⟨c, d⟩)]
    by_cases c0 : h'.1 0 9 = 0
    · rw [if_pos c0, if_pos c0]
    rw [if_neg c0, if_neg c0]
    by_cases c1 : h'.1 0 9 = 1
    · rw [if_pos c1, if_pos c1]
    rw [if_neg c1, if_neg c1]
    by_cases c2 : h'.1 0 9 = 2
    · rw [if_pos c2, if_pos c2]
    rw [if_neg c2, if_neg c2]
    by_cases c3 : h'.1 0 9 = 3
    · rw [if_pos c3, if_pos c3]
    rw [if_neg c3, if_neg c3]
    by_cases c4 : h'.1 0 9 = 4
    · rw [if_pos c4, if_pos c4]
    rw [if_neg c4, if_neg c4]
    by_cases c5 : h'.1 0 9 = 5
    · rw [if_pos c5, if_pos c5]
    rw [if_neg c5, if_neg c5]
  rw [eC, eR]
  clear eC eR eL
  refine lnend ?_
  have bad : LR b b' n T j (some (0, pI h 2 1 1)) (some (0, pI (pI h' 0 4 1) 0 5 a)) := .inl ⟨_, _, rfl, rfl, Fld.of f f' s⟩
  have ww : ∀ k : Int32, 10 ≤ k → k ≤ 16 → h.1 22 0 = k → h'.1 0 8 = 1 ∧ h'.1 0 9 = k - 10 := fun k a1 a2 e => by
    have q := k1.mpr (by rw [e]; exact ⟨a1, by lia⟩)
    exact ⟨q, by rw [kw q, e]⟩
  by_cases c0 : h.1 22 0 = 10
  · obtain ⟨q1, q2⟩ := ww 10 (by decide) (by decide) c0
    have q2 : h'.1 0 9 = 0 := q2
    rw [if_pos c0, if_pos (show h'.1 0 8 = 1 ∧ h'.1 0 9 ≤ 6 from ⟨q1, by rw [q2]; decide⟩), if_pos q2]
    by_cases z : l = 0
    · rw [if_pos z]
      exact rdline x (e21.trans z) (q0 z)
    · rw [if_neg z]
      unfold f_Md_roadLine
      simp only [nmd_q, faR0 e10, fst_q, snd_q, cz0, bnd_q]
      rw [e21, if_neg (show ¬ l ≤ 0 by lia)]
      exact bad
  rw [if_neg c0]
  by_cases c1 : h.1 22 0 = 11
  · obtain ⟨q1, q2⟩ := ww 11 (by decide) (by decide) c1
    have q2 : h'.1 0 9 = 1 := q2
    rw [if_pos c1, if_pos (show h'.1 0 8 = 1 ∧ h'.1 0 9 ≤ 6 from ⟨q1, by rw [q2]; decide⟩), if_neg (show ¬ h'.1 0 9 = 0 by rw [q2]; decide), if_pos q2]
    exact trline x
  rw [if_neg c1]
  by_cases c2 : h.1 22 0 = 12
  · obtain ⟨q1, q2⟩ := ww 12 (by decide) (by decide) c2
    have q2 : h'.1 0 9 = 2 := q2
    rw [if_pos c2, if_pos (show h'.1 0 8 = 1 ∧ h'.1 0 9 ≤ 6 from ⟨q1, by rw [q2]; decide⟩), if_neg (show ¬ h'.1 0 9 = 0 by rw [q2]; decide), if_neg (show ¬ h'.1 0 9 = 1 by rw [q2]; decide), if_pos q2]
    exact holine x
  rw [if_neg c2]
  by_cases c3 : h.1 22 0 = 13
  · obtain ⟨q1, q2⟩ := ww 13 (by decide) (by decide) c3
    have q2 : h'.1 0 9 = 3 := q2
    rw [if_pos c3, if_pos (show h'.1 0 8 = 1 ∧ h'.1 0 9 ≤ 6 from ⟨q1, by rw [q2]; decide⟩), if_neg (show ¬ h'.1 0 9 = 0 by rw [q2]; decide), if_neg (show ¬ h'.1 0 9 = 1 by rw [q2]; decide), if_neg (show ¬ h'.1 0 9 = 2 by rw [q2]; decide), if_pos q2]
    exact laline x
  rw [if_neg c3]
  by_cases c4 : h.1 22 0 = 14
  · obtain ⟨q1, q2⟩ := ww 14 (by decide) (by decide) c4
    have q2 : h'.1 0 9 = 4 := q2
    rw [if_pos c4, if_pos (show h'.1 0 8 = 1 ∧ h'.1 0 9 ≤ 6 from ⟨q1, by rw [q2]; decide⟩), if_neg (show ¬ h'.1 0 9 = 0 by rw [q2]; decide), if_neg (show ¬ h'.1 0 9 = 1 by rw [q2]; decide), if_neg (show ¬ h'.1 0 9 = 2 by rw [q2]; decide), if_neg (show ¬ h'.1 0 9 = 3 by rw [q2]; decide), if_pos q2]
    exact online (k := 0) (m := 100) x (.inl ⟨rfl, rfl⟩)
  rw [if_neg c4]
  by_cases c5 : h.1 22 0 = 15
  · obtain ⟨q1, q2⟩ := ww 15 (by decide) (by decide) c5
    have q2 : h'.1 0 9 = 5 := q2
    rw [if_pos c5, if_pos (show h'.1 0 8 = 1 ∧ h'.1 0 9 ≤ 6 from ⟨q1, by rw [q2]; decide⟩), if_neg (show ¬ h'.1 0 9 = 0 by rw [q2]; decide), if_neg (show ¬ h'.1 0 9 = 1 by rw [q2]; decide), if_neg (show ¬ h'.1 0 9 = 2 by rw [q2]; decide), if_neg (show ¬ h'.1 0 9 = 3 by rw [q2]; decide), if_neg (show ¬ h'.1 0 9 = 4 by rw [q2]; decide), if_pos q2]
    exact online (k := 1) (m := 99999) x (.inr ⟨rfl, rfl⟩)
  rw [if_neg c5]
  by_cases c6 : h.1 22 0 = 16
  · obtain ⟨q1, q2⟩ := ww 16 (by decide) (by decide) c6
    have q2 : h'.1 0 9 = 6 := q2
    rw [if_pos c6, if_pos (show h'.1 0 8 = 1 ∧ h'.1 0 9 ≤ 6 from ⟨q1, by rw [q2]; decide⟩), if_neg (show ¬ h'.1 0 9 = 0 by rw [q2]; decide), if_neg (show ¬ h'.1 0 9 = 1 by rw [q2]; decide), if_neg (show ¬ h'.1 0 9 = 2 by rw [q2]; decide), if_neg (show ¬ h'.1 0 9 = 3 by rw [q2]; decide), if_neg (show ¬ h'.1 0 9 = 4 by rw [q2]; decide), if_neg (show ¬ h'.1 0 9 = 5 by rw [q2]; decide)]
    exact lwline x
  rw [if_neg c6, if_neg (show ¬ (h'.1 0 8 = 1 ∧ h'.1 0 9 ≤ 6) from fun z => by
    have q1 := kw z.1
    have q2 := k1.mp z.1
    have q3 := z.2
    rw [q1] at q3
    clear k1 kw ww
    lia)]
  exact bad
