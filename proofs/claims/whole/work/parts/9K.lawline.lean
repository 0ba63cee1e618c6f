/-! the line of a law -/
theorem lwline {b b' h h' : Hp} {n a j : Int32} {T : Int32 → Int32} {Q : Pl} {L : Lw} {sz : Nat} {fr fs : Int32} (x : PS b b' h h' n T Q L sz fr fs a j) : LR b b' n T j (f_Tr_readLaw TC h 2) (lawR h') := by
  obtain ⟨f, f', ok, cp, rq, pw, pl, s⟩ := x
  obtain ⟨t, t', a2, j2, w1, w2, w3, w4, w5, w6⟩ := s.st
  obtain ⟨-, -, -, -, -, k1, kw, -, -, -⟩ := w5.k2
  have e10 : t'.1 0 10 = a2 := w5.2.2.2.2.1
  have pl1 : PLw t t' L sz := pl.mv (fun c i _ _ => w3.2 c i (by omega)) (fun c i _ => w4.2 c i (by omega))
  have F1 := f.tr w3.P
  have F1' := f'.tr w4.p.Q
  unfold f_Tr_readLaw jb_Tr_readLaw_31 lawR
  simp only [nmd_q, lyC, faC, cz0, bnd_q]
  rw [w1, w2, bnd_q, bnd_q]
  by_cases d : 17 ≤ t.1 22 0 ∧ t.1 22 0 ≤ 19
  case neg =>
    have dd : ¬ (t'.1 0 8 = 1 ∧ 7 ≤ t'.1 0 9 ∧ t'.1 0 9 ≤ 9) := fun z => d (by
      have q1 := kw z.1
      have q2 := k1.mp z.1
      have q3 := z.2
      rw [q1] at q3
      clear k1 kw
      lia)
    have e : (if t.1 22 0 < 17 then some ((0 : Int32), pI t 2 1 1) else if t.1 22 0 ≤ 19 then (f_La_isTold TC t 17 (t.1 22 0 - 17)).bind fun r3 => if r3 = 0 then (f_Sc_step TC t 22).bind fun r4 => (f_Lr_readE TC r4 24 (t.1 22 0 - 17)).bind fun r5 => if r5.1 = 0 then some (1, r5.2) else if (0 : Int32) = 0 then some (0, pI r5.2 2 1 r5.1) else some (1, pI r5.2 2 1 r5.1) else some (0, pI t 2 1 3) else some (0, pI t 2 1 1)) = some (0, pI t 2 1 1) := by
      by_cases c : t.1 22 0 < 17
      · rw [if_pos c]
      · rw [if_neg c, if_neg (show ¬ t.1 22 0 ≤ 19 from fun z => d ⟨by lia, z⟩)]
    rw [if_neg dd, faR0 e10]
    exact .inl ⟨_, _, by simpa using e, rfl, Fld.of F1 F1' w5⟩
  have d1 := d.1
  have d2 := d.2
  have r1 : t'.1 0 8 = 1 := k1.mpr ⟨by lia, by lia⟩
  have rw9 : t'.1 0 9 = t.1 22 0 - 10 := kw r1
  clear k1 kw
  obtain ⟨q, hq, eq⟩ : ∃ q : Nat, q < 3 ∧ t.1 22 0 - 17 = nI q := ⟨ix (t.1 22 0 - 17), ix_lt (n := 3) (by lia) (by decide) (show t.1 22 0 - 17 < 3 by lia), (nI_ix (by lia)).symm⟩
  have e3 : 3 + t'.1 0 9 - 7 = nI (3 + q) := by
    rw [← nI_add, ← eq, rw9]
    show 3 + (t.1 22 0 - 10) - 7 = 3 + (t.1 22 0 - 17)
    lia
  have c7 : t'.1 0 8 = 1 ∧ 7 ≤ t'.1 0 9 ∧ t'.1 0 9 ≤ 9 := ⟨r1, by rw [rw9]; lia, by rw [rw9]; lia⟩
  have q6 : 3 + q < 6 := by omega
  have i3 : ix (nI (3 + q)) = 3 + q := ix_nI (by omega)
  obtain ⟨u1, u2, u3⟩ := pl1.2.1 q hq
  simp only [Nat.reduceAdd] at u1 u2 u3
  obtain ⟨o1, o2, o3⟩ := pl1.1 q hq
  obtain ⟨v1, v2⟩ := pl1.2.2.1 q hq
  have tq : f_La_isTold TC t 17 (nI q) = some (if L.2.1 q < L.2.2 q then 1 else 0) := by
    unfold f_La_isTold
    simp only [lyC]
    rw [rI_ok alL.2.2.1 hq (by decide), rI_ok alL.2.1 hq (by decide), bnd_q, bnd_q, u1, u2]
    by_cases c : L.2.1 q < L.2.2 q
    · rw [if_neg (fun z => absurd ((nI_leI (by omega) (by omega)).mp z) (by omega)), if_pos c]
    · rw [if_pos ((nI_leI (by omega) (by omega)).mpr (by omega)), if_neg c]
  rw [if_neg (show ¬ t.1 22 0 < 17 by lia), if_pos d2, eq, tq, bnd_q, if_pos c7, e3, rI_ok alL.2.2.2.2.1 q6 (by decide), bnd_q, v1]
  by_cases c : L.2.1 q < L.2.2 q
  · rw [if_pos c, if_neg (show ¬ (1 : Int32) = 0 by decide), if_neg (show ¬ (1 : Int32) = 0 by decide), faR0 e10]
    exact .inl ⟨_, _, rfl, rfl, Fld.of F1 F1' w5⟩
  rw [if_neg c, if_pos rfl, if_pos rfl, wZ_ok alL.2.2.2.2.1 q6 (by decide) (by decide), bnd_q]
  have s1 : Scn t (pI t' 17 (3 + q) 1) n T a2 j2 := w5.mv (fun _ _ _ => rfl) (fun c s _ => by rw [pI_n (by omega)])
  obtain ⟨p, p', a3, j3, y1, y2, y3, y4, y5, y6⟩ := s1.st
  have ek : p'.1 0 22 = nI sz := by
    rw [y4.2 0 22 (by omega), pI_n (by decide)]
    exact pl1.2.2.2.1.2.2.2
  rw [y1, y2, bnd_q, bnd_q, ek, wI_ok alL.2.2.2.2.2.1 q6 (by decide), bnd_q]
  have es : p.1 17 1 = nI sz := by
    rw [y3.2 17 1 (by omega)]
    exact pl1.2.2.2.1.2.1
  have eC : f_Lr_readE TC p 24 (nI q) = lp_Lr_readE_25 TC fu (pI (pI (pI (pI p 24 3 0) 24 4 0) 24 5 1) 19 q (nI sz)) 24 (nI q) 0 := by
    unfold f_Lr_readE f_La_startLaw
    simp only [nmd_q, lyC]
    rw [wI_ok alL.2.1 hq (by decide), bnd_q, bnd_q, pI_n (by decide), pI_n (by decide), pI_n (by decide), es]
  have eR : f_Md_sumRead TR (pI p' 18 (3 + q) (nI sz)) 0 = lp_Md_sumRead_25 TR fu (pI (pI (pI (pI (pI (pI p' 18 (3 + q) (nI sz)) 0 45 0) 0 46 0) 0 47 0) 0 49 1) 0 50 1) 0 := by
    unfold f_Md_sumRead
    simp only [nmd_q]
  rw [eC, eR]
  clear eC eR tq
  obtain ⟨U, eU⟩ : ∃ U, U = pI (pI (pI (pI p 24 3 0) 24 4 0) 24 5 1) 19 q (nI sz) := ⟨_, rfl⟩
  obtain ⟨U', eU'⟩ : ∃ U', U' = pI (pI (pI (pI (pI (pI p' 18 (3 + q) (nI sz)) 0 45 0) 0 46 0) 0 47 0) 0 49 1) 0 50 1 := ⟨_, rfl⟩
  rw [← eU, ← eU']
  have GC : ∀ c i, ¬ c = 22 → ¬ (c = 24 ∧ 3 ≤ i ∧ i ≤ 5) → ¬ (c = 19 ∧ i = q) → U.1 c i = t.1 c i := fun c i z1 z2 z3 => by
    rw [eU, pI_x z3, pI_x (by omega), pI_x (by omega), pI_x (by omega), y3.2 c i (by omega)]
  have GR : ∀ c i, ¬ (c = 0 ∧ ((7 ≤ i ∧ i ≤ 11) ∨ (45 ≤ i ∧ i ≤ 47) ∨ i = 49 ∨ i = 50)) → ¬ (c = 17 ∧ i = 3 + q) → ¬ (c = 18 ∧ i = 3 + q) → U'.1 c i = t'.1 c i := fun c i z1 z2 z3 => by
    rw [eU', pI_x (by omega), pI_x (by omega), pI_x (by omega), pI_x (by omega), pI_x (by omega), pI_x z3, y4.2 c i (by omega), pI_x z2]
  have FU : FrP b U := by
    rw [eU]
    exact ((((F1.tr y3.P).wr (by unfold TXc; omega)).wr (by unfold TXc; omega)).wr (by unfold TXc; omega)).wr (by unfold TXc; omega)
  have FU' : FrQ b' U' := by
    rw [eU']
    exact ((((((((F1'.wr (by unfold TXr; omega)).tr y4.p.Q).wr (by unfold TXr; omega)).wr (by unfold TXr; omega)).wr (by unfold TXr; omega)).wr (by unfold TXr; omega)).wr (by unfold TXr; omega)).wr (by unfold TXr; omega))
  have U19 : U.1 19 q = nI sz := by rw [eU, pI_t, if_pos rfl]
  have U17 : U'.1 17 (3 + q) = 1 := by rw [eU', pI_n (by decide), pI_n (by decide), pI_n (by decide), pI_n (by decide), pI_n (by decide), pI_n (by decide), y4.2 17 _ (by omega), pI_t, if_pos rfl]
  have U18 : U'.1 18 (3 + q) = nI sz := by rw [eU', pI_n (by decide), pI_n (by decide), pI_n (by decide), pI_n (by decide), pI_n (by decide), pI_t, if_pos rfl]
  have lw : LWS sz U U' L.1 n T a3 j3 U U' L.1 sz [] [] 1 := by
    refine ⟨⟨rfl, fun _ _ _ => rfl⟩, ⟨rfl, fun _ _ _ => rfl⟩, ?_, ⟨⟨Nat.le_refl _, pl1.2.2.2.2.1⟩, ?_, ?_, fun _ _ => rfl, fun i a b => absurd a (by omega), fun i a b => absurd a (by omega), fun i a b => absurd a (by omega), ?_⟩, ⟨?_, trivial⟩, ⟨?_, ?_, trivial, trivial, fun w m => absurd m (List.not_mem_nil)⟩, ⟨⟨?_, ?_, pl1.2.2.2.2.1⟩, ?_, ?_, by decide⟩, ?_, ?_⟩
    · refine y5.mv (fun c i z => ?_) (fun c i z => ?_)
      · rw [eU, pI_x (by omega), pI_x (by omega), pI_x (by omega), pI_x (by omega)]
      · rw [eU', pI_x (by omega), pI_x (by omega), pI_x (by omega), pI_x (by omega), pI_x (by omega), pI_x (by omega)]
    · rw [GC 17 1 (by omega) (by omega) (by omega)]
      exact pl1.2.2.2.1.2.1
    · rw [GR 0 22 (by omega) (by omega) (by omega)]
      exact pl1.2.2.2.1.2.2.2
    · rw [Nat.sub_self, hsim_0]
    · rw [eU', pI_t, if_neg (by decide), pI_t, if_neg (by decide), pI_t, if_neg (by decide), pI_t, if_pos rfl]
      rfl
    · rw [eU, pI_n (by decide), pI_t, if_neg (by decide), pI_t, if_neg (by decide), pI_t, if_pos rfl]
      rfl
    · rw [eU', pI_t, if_neg (by decide), pI_t, if_neg (by decide), pI_t, if_neg (by decide), pI_t, if_neg (by decide), pI_t, if_pos rfl]
      rfl
    · rw [GC 17 0 (by omega) (by omega) (by omega)]
      exact pl1.2.2.2.1.1
    · rw [GR 0 48 (by omega) (by omega) (by omega)]
      exact pl1.2.2.2.1.2.2.1
    · rw [eU, pI_n (by decide), pI_t, if_neg (by decide), pI_t, if_pos rfl]
      rfl
    · rw [eU', pI_t, if_neg (by decide), pI_t, if_neg (by decide), pI_t, if_pos rfl]
      rfl
    · rw [eU, pI_n (by decide), pI_t, if_pos rfl]
    · rw [eU', pI_t, if_neg (by decide), pI_t, if_pos rfl]
  have a30 : 0 ≤ a3 := y5.2.2.2.2.2.1
  have iw : INW U' [] [] 1 := .inr ⟨rfl, rfl, by
    rw [eU', pI_t, if_pos rfl]
    exact ⟨fun z => absurd z (by decide), fun z => absurd z (show ¬ (3 : Int32) < 0 by decide)⟩⟩
  rcases elp (a0 := a3) hq 0 (by decide) a30 (by lia) lw iw with ⟨k, g, g', z1, z2, z3, z4, z5, z6, z7⟩ | ⟨g, g', K2, s2, v, a4, j4, z1, z2, z3, z4⟩
  · rw [z1, z3, bnd_q, bnd_q]
    simp only [fst_q, snd_q]
    rw [if_neg z2, if_pos trivial, wI_ok alL.2.2.2.2.2.2.1 q6 (by decide), bnd_q]
    refine .inl ⟨_, _, rfl, rfl, FwP.of (FU.tr z4.P), ⟨by rw [pI_l]; exact z5.1.trans FU'.1, fun c i y1 y2 => by rw [pI_x (fun w => y1 (by unfold TXr; omega)), z5.2 c i y1 y2]; exact FU'.2 c i y1⟩, ?_, ?_⟩
    · rw [pI_t, if_pos rfl, pI_n (by decide), z6]
    · rw [pI_n (by decide), pI_n (by decide), z7]
  rw [z1, z2, bnd_q, bnd_q]
  simp only [fst_q, snd_q]
  obtain ⟨x1, x2, x3, ⟨⟨x4a, x4b⟩, x4c, x4d, x4e, x4f, x4g, x4h, x4i⟩, x5, x6, x7, x8⟩ := z3
  rw [if_pos trivial, x4d, wI_ok alL.2.2.2.2.2.2.1 q6 (by decide), bnd_q]
  have lt : sz < s2 := by
    by_cases z : s2 = sz
    · rw [z, Nat.sub_self, hsim_0] at x4i
      exact absurd x4i (by simp)
    · omega
  have HC : ∀ c i, ¬ LXc sz c i → ¬ (c = 19 ∧ i = q) → ¬ (c = 20 ∧ i = q) → (pI g 20 q (nI s2)).1 c i = t.1 c i := fun c i z1 z2 z3 => by
    rw [pI_x z3, x1.2 c i z1, GC c i (fun w => z1 (by unfold LXc; omega)) (fun w => z1 (by unfold LXc; omega)) z2]
  have HR : ∀ c i, ¬ LXr sz c i → ¬ (17 ≤ c ∧ c ≤ 19 ∧ i = 3 + q) → (pI g' 19 (3 + q) (nI s2)).1 c i = t'.1 c i := fun c i z1 z2 => by
    rw [pI_x (by omega), x2.2 c i z1, GR c i (fun w => z1 (by unfold LXr; omega)) (by omega) (by omega)]
  have jj : j ≤ a4 := by
    have q1 := w5.2.2.2.2.2.2.1
    have q2 := y5.2.2.2.2.2.2.1
    lia
  have cgK : ∀ r i, r < 3 → ¬ r = q → i ≤ L.2.2 r → L.2.1 r ≤ i → hsim K2 (L.2.1 r) (i - L.2.1 r) = hsim L.1 (L.2.1 r) (i - L.2.1 r) := fun r i hr _ hi hf => hcg (fun m a b => x4e m (by have := pl1.2.2.2.2.2 r hr; omega))
  refine .inr ⟨_, _, Q, (K2, fun i => if i = q then sz else L.2.1 i, fun i => if i = q then s2 else L.2.2 i), s2, fr, fs, a4, j4, rfl, rfl, ⟨(FU.tr x1.P).wr (by unfold TXc; omega), (FU'.tr x2.Q).wr (by unfold TXr; omega), ok, ?_, ?_, ?_, ⟨?_, ?_, ?_, ⟨?_, ?_, ?_, ?_⟩, x4b, ?_⟩, ?_⟩, jj⟩
  · exact cp.m3 (fun c i c1 c2 => by rw [HC c i (by unfold LXc; omega) (by omega) (by omega), w3.2 c i (by omega)])
  · exact rq.mv (fun c i c1 => by rw [HR c i (by unfold LXr; omega) (by omega), w4.2 c i (by omega)])
  · unfold PW at pw ⊢
    rw [HC 2 5 (by unfold LXc; omega) (by omega) (by omega), HC 2 6 (by unfold LXc; omega) (by omega) (by omega), HR 3 0 (by unfold LXr; omega) (by omega), HR 3 1 (by unfold LXr; omega) (by omega), w3.2 2 5 (by omega), w3.2 2 6 (by omega), w4.2 3 0 (by omega), w4.2 3 1 (by omega)]
    exact pw
  · intro r hr
    by_cases e : r = q
    · subst e
      simp only [if_pos]
      exact ⟨x4a, x4b, fun _ => ⟨x4g, v, x4i⟩⟩
    · simp only [if_neg e]
      obtain ⟨l1, l2, l3⟩ := pl1.1 r hr
      have l4 := pl1.2.2.2.2.2 r hr
      refine ⟨l1, l2, fun z => ⟨fun i a b => ?_, ?_⟩⟩
      · rw [x4e i (by omega)]
        exact (l3 z).1 i a b
      · rw [cgK r _ hr e (Nat.le_refl _) l1]
        exact (l3 z).2
  · intro r hr
    simp only [Nat.reduceAdd]
    by_cases e : r = q
    · subst e
      simp only [if_pos]
      refine ⟨?_, ?_, fun i a b => ?_⟩
      · rw [pI_n (by decide), x1.2 19 r (by unfold LXc; omega)]
        exact U19
      · rw [pI_t, if_pos rfl]
      · rw [pI_n (by decide)]
        exact x4f i a b
    · simp only [if_neg e]
      obtain ⟨l1, l2, l3⟩ := pl1.2.1 r hr
      simp only [Nat.reduceAdd] at l1 l2 l3
      have l4 := pl1.2.2.2.2.2 r hr
      refine ⟨?_, ?_, fun i a b => ?_⟩
      · rw [HC 19 r (by unfold LXc; omega) (by omega) (by omega)]
        exact l1
      · rw [HC 20 r (by unfold LXc; omega) (by omega) (by omega)]
        exact l2
      · rw [HC 18 i (by unfold LXc; omega) (by omega) (by omega), x4e i (by omega)]
        exact l3 i a b
  · intro r hr
    by_cases e : r = q
    · subst e
      simp only [if_pos]
      rw [if_pos lt]
      refine ⟨?_, fun _ => ⟨?_, ?_, ?_⟩⟩
      · rw [pI_n (by decide), x2.2 17 _ (by unfold LXr; omega)]
        exact U17
      · rw [pI_n (by decide), x2.2 18 _ (by unfold LXr; omega)]
        exact U18
      · rw [pI_t, if_pos rfl]
      · unfold RKu at x4h ⊢
        intro i a b
        rw [pI_n (by decide), pI_n (by decide), pI_n (by decide)]
        exact x4h i a b
    · simp only [if_neg e]
      obtain ⟨l1, l2⟩ := pl1.2.2.1 r hr
      have l4 := pl1.2.2.2.2.2 r hr
      refine ⟨?_, fun z => ⟨?_, ?_, fun i a b => ?_⟩⟩
      · rw [HR 17 (3 + r) (by unfold LXr; omega) (by omega)]
        exact l1
      · rw [HR 18 (3 + r) (by unfold LXr; omega) (by omega)]
        exact (l2 z).1
      · rw [HR 19 (3 + r) (by unfold LXr; omega) (by omega)]
        exact (l2 z).2.1
      · rw [HR 20 (64 + i) (by unfold LXr; omega) (by omega), HR 21 (64 + i) (by unfold LXr; omega) (by omega), HR 22 (64 + i) (by unfold LXr; omega) (by omega), x4e i (by omega), cgK r i hr e (by omega) a]
        exact (l2 z).2.2 i a b
  · rw [pI_n (by decide)]
    exact x7.1.1
  · rw [pI_n (by decide)]
    exact x4c
  · rw [pI_n (by decide)]
    exact x7.1.2.1
  · rw [pI_n (by decide)]
    exact x4d
  · intro r hr
    by_cases e : r = q
    · subst e
      simp only [if_pos]
      exact Nat.le_refl _
    · simp only [if_neg e]
      have l4 := pl1.2.2.2.2.2 r hr
      omega
  · exact x3.mv (fun c i _ => by rw [pI_n (by omega)]) (fun c i _ => by rw [pI_n (by omega)])
