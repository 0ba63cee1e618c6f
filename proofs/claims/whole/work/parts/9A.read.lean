/-! in the midst of a text -/
/-- where the class's reader writes -/
def TXc (c s : Nat) : Prop := (c = 2 ∧ (s = 5 ∨ s = 6)) ∨ (3 ≤ c ∧ c ≤ 25 ∧ ¬ c = 23)
/-- where the reference's reader writes -/
def TXr (c s : Nat) : Prop := (c = 0 ∧ ((7 ≤ s ∧ s ≤ 11) ∨ (17 ≤ s ∧ s ≤ 22 ∧ ¬ s = 21) ∨ (45 ≤ s ∧ s ≤ 50))) ∨ c = 3 ∨ (c = 4 ∧ 2 ≤ s) ∨ (5 ≤ c ∧ c ≤ 13 ∧ 6 ≤ s) ∨ (14 ≤ c ∧ c ≤ 16 ∧ 12 ≤ s) ∨ (17 ≤ c ∧ c ≤ 19 ∧ 3 ≤ s) ∨ (20 ≤ c ∧ c ≤ 22 ∧ 64 ≤ s) ∨ c = 23 ∨ c = 24
def FrP (b h : Hp) : Prop := h.2 = b.2 ∧ ∀ c s, ¬ TXc c s → h.1 c s = b.1 c s
def FrQ (b h : Hp) : Prop := h.2 = b.2 ∧ ∀ c s, ¬ TXr c s → h.1 c s = b.1 c s
def FTp (h t : Hp) : Prop := t.2 = h.2 ∧ ∀ c s, ¬ (c = 0 ∧ 7 ≤ s ∧ s ≤ 11) → t.1 c s = h.1 c s
theorem FrP.tr {a b c : Hp} (x : FrP a b) (y : FrP b c) : FrP a c := ⟨y.1.trans x.1, fun d s q => (y.2 d s q).trans (x.2 d s q)⟩
theorem FrQ.tr {a b c : Hp} (x : FrQ a b) (y : FrQ b c) : FrQ a c := ⟨y.1.trans x.1, fun d s q => (y.2 d s q).trans (x.2 d s q)⟩
theorem FTp.tr {a b c : Hp} (x : FTp a b) (y : FTp b c) : FTp a c := ⟨y.1.trans x.1, fun d s q => (y.2 d s q).trans (x.2 d s q)⟩
theorem FTp.rf {h : Hp} : FTp h h := ⟨rfl, fun _ _ _ => rfl⟩
theorem FrP.rf {h : Hp} : FrP h h := ⟨rfl, fun _ _ _ => rfl⟩
theorem FrQ.rf {h : Hp} : FrQ h h := ⟨rfl, fun _ _ _ => rfl⟩
theorem FSc.P {h t : Hp} (x : FSc h t) : FrP h t := ⟨x.1, fun c s q => x.2 c s (fun z => q (by unfold TXc; omega))⟩
theorem FTo.p {h t : Hp} (x : FTo h t) : FTp h t := ⟨x.1, fun c s q => x.2 c s (by omega)⟩
theorem FTp.Q {h t : Hp} (x : FTp h t) : FrQ h t := ⟨x.1, fun c s q => x.2 c s (fun z => q (by unfold TXr; omega))⟩
theorem FrP.wr {b h : Hp} {c s : Nat} {v : Int32} (x : FrP b h) (q : TXc c s) : FrP b (pI h c s v) := ⟨by rw [pI_l]; exact x.1, fun d j z => by rw [pI_x (fun w => z (by rw [w.1, w.2]; exact q))]; exact x.2 d j z⟩
theorem FrQ.wr {b h : Hp} {c s : Nat} {v : Int32} (x : FrQ b h) (q : TXr c s) : FrQ b (pI h c s v) := ⟨by rw [pI_l]; exact x.1, fun d j z => by rw [pI_x (fun w => z (by rw [w.1, w.2]; exact q))]; exact x.2 d j z⟩
/-- the scanners -/
def Scn (h h' : Hp) (n : Int32) (T : Int32 → Int32) (a j : Int32) : Prop := TP h h' n T ∧ TKS h h' n a j
theorem Scn.mv {h h' t t' : Hp} {n a j : Int32} {T : Int32 → Int32} (x : Scn h h' n T a j) (g : ∀ c s, (c = 1 ∨ c = 22 ∨ c = 23) → t.1 c s = h.1 c s) (g' : ∀ c s, (c = 1 ∨ c = 2 ∨ (c = 0 ∧ 6 ≤ s ∧ s ≤ 10)) → t'.1 c s = h'.1 c s) : Scn t t' n T a j := by
  obtain ⟨⟨x1, x2, x3, x4, x5, x6⟩, y⟩ := x
  refine ⟨⟨x1, fun j a b => ?_, fun j a => ?_, fun j a => ?_, ?_, ?_⟩, ?_⟩
  · rw [g 1 _ (by omega), g' 1 _ (by omega)]
    exact x2 j a b
  · rw [g 23 _ (by omega)]
    exact x3 j a
  · rw [g' 2 _ (by omega)]
    exact x4 j a
  · rw [g 22 6 (by omega)]
    exact x5
  · rw [g' 0 6 (by omega)]
    exact x6
  · unfold TKS at y ⊢
    rw [g 22 7 (by omega), g 22 1 (by omega), g 22 0 (by omega), g 22 2 (by omega), g 22 3 (by omega), g' 0 7 (by omega), g' 0 10 (by omega), g' 0 8 (by omega), g' 0 9 (by omega)]
    exact y
theorem Scn.st {h h' : Hp} {n a j : Int32} {T : Int32 → Int32} (x : Scn h h' n T a j) : ∃ t t' a2 j2, f_Sc_step TC h 22 = some t ∧ f_Md_token TR h' 0 = some t' ∧ FSc h t ∧ FTo h' t' ∧ Scn t t' n T a2 j2 ∧ j ≤ a2 := by
  obtain ⟨tp, k1, k2, k3, k4, k5, k6, k7, -, -⟩ := x
  obtain ⟨t, t', a2, j2, w1, w2, w3, w4, w5, w6⟩ := tok tp (i := j) (by lia) k7 k1 k2
  exact ⟨t, t', a2, j2, w1, w2, w3, w4, ⟨tp.mv w3 w4, w5⟩, w6⟩
/-- frames where one failed -/
def FwP (b h : Hp) : Prop := h.2 = b.2 ∧ ∀ c s, ¬ TXc c s → ¬ (c = 2 ∧ s = 1) → h.1 c s = b.1 c s
def FwQ (b h : Hp) : Prop := h.2 = b.2 ∧ ∀ c s, ¬ TXr c s → ¬ (c = 0 ∧ (s = 4 ∨ s = 5)) → h.1 c s = b.1 c s
theorem FwP.of {b h : Hp} {v : Int32} (x : FrP b h) : FwP b (pI h 2 1 v) := ⟨by rw [pI_l]; exact x.1, fun c s z y => by rw [pI_x y]; exact x.2 c s z⟩
theorem FwQ.of {b h : Hp} {v w : Int32} (x : FrQ b h) : FwQ b (pI (pI h 0 4 v) 0 5 w) := ⟨by rw [pI_l, pI_l]; exact x.1, fun c s z y => by rw [pI_x (by omega), pI_x (by omega)]; exact x.2 c s z⟩
/-- both failed, at the same place and for the same cause -/
def Fld (b b' h h' : Hp) : Prop := FwP b h ∧ FwQ b' h' ∧ h.1 2 1 = h'.1 0 4 ∧ h.1 22 1 = h'.1 0 5
theorem Fld.of {b b' h h' : Hp} {n a j k : Int32} {T : Int32 → Int32} (f : FrP b h) (f' : FrQ b' h') (x : Scn h h' n T a j) : Fld b b' (pI h 2 1 k) (pI (pI h' 0 4 k) 0 5 a) := by
  refine ⟨FwP.of f, FwQ.of f', ?_, ?_⟩
  · rw [pI_t, if_pos rfl, pI_t, if_neg (by decide), pI_t, if_pos rfl]
  · rw [pI_n (by decide), pI_t, if_pos rfl]
    exact x.2.2.2.1
theorem faC {h : Hp} {k : Int32} : f_Tr_fail TC h 2 k = (0, pI h 2 1 k) := by
  unfold f_Tr_fail
  rw [nmd_q]
theorem faR0 {h : Hp} {a k : Int32} (e : h.1 0 10 = a) : f_Md_wrong TR h 0 k = (0, pI (pI h 0 4 k) 0 5 a) := by
  unfold f_Md_wrong
  simp only [nmd_q]
  rw [pI_t, if_neg (by decide), e]
theorem cz0 : cZ 0 = some 0 := by decide
theorem cz1 : cZ 1 = some 1 := by decide
/-- kinds, as both sides ask for them -/
theorem Scn.k2 {h h' : Hp} {n a j : Int32} {T : Int32 → Int32} (x : Scn h h' n T a j) : (h.1 22 0 = 2 ↔ h'.1 0 8 = 3) ∧ (h.1 22 0 = 3 ↔ h'.1 0 8 = 2) ∧ (h.1 22 0 = 0 ↔ h'.1 0 8 = 0) ∧ (h'.1 0 8 = 3 → NV (h.1 22 2) (h'.1 0 9)) ∧ (h'.1 0 8 = 2 → h.1 22 3 = h'.1 0 9) ∧ (h'.1 0 8 = 1 ↔ (10 ≤ h.1 22 0 ∧ h.1 22 0 ≤ 29)) ∧ (h'.1 0 8 = 1 → h'.1 0 9 = h.1 22 0 - 10) ∧ (h.1 22 0 = 30 ↔ (h'.1 0 8 = 4 ∧ h'.1 0 9 = 59)) ∧ (h.1 22 0 = 31 ↔ (h'.1 0 8 = 4 ∧ h'.1 0 9 = 40)) ∧ (h.1 22 0 = 32 ↔ (h'.1 0 8 = 4 ∧ h'.1 0 9 = 41)) := by
  have y := x.2.2.2.2.2.2.2.2.2
  unfold TKR SGN at y
  generalize h.1 22 0 = ck at y ⊢
  generalize h.1 22 2 = cv at y ⊢
  generalize h.1 22 3 = cl at y ⊢
  generalize h'.1 0 8 = rk at y ⊢
  generalize h'.1 0 9 = rw_ at y ⊢
  rcases y with y | y | y | y | y | y | y
  · obtain ⟨rfl, rfl⟩ := y
    refine ⟨?_, ?_, ?_, ?_, ?_, ?_, ?_, ?_, ?_, ?_⟩ <;> simp <;> decide
  · obtain ⟨rfl, y⟩ := y
    rcases y with rfl | ⟨rfl, rfl⟩ <;> (refine ⟨?_, ?_, ?_, ?_, ?_, ?_, ?_, ?_, ?_, ?_⟩ <;> simp <;> decide)
  · obtain ⟨rfl, rfl, nv⟩ := y
    refine ⟨by simp, by simp, by simp, fun _ => nv, fun z => absurd z (by decide), ?_, ?_, ?_, ?_, ?_⟩ <;> simp <;> decide
  · obtain ⟨rfl, rfl, rfl⟩ := y
    refine ⟨by simp, by simp, by simp, fun z => absurd z (by decide), fun _ => rfl, ?_, ?_, ?_, ?_, ?_⟩ <;> simp <;> decide
  · obtain ⟨y1, y2, rfl, rfl⟩ := y
    refine ⟨⟨fun z => absurd z (by lia), fun z => absurd z (by decide)⟩, ⟨fun z => absurd z (by lia), fun z => absurd z (by decide)⟩, ⟨fun z => absurd z (by lia), fun z => absurd z (by decide)⟩, fun z => absurd z (by decide), fun z => absurd z (by decide), ⟨fun _ => ⟨y1, y2⟩, fun _ => rfl⟩, fun _ => rfl, ⟨fun z => absurd z (by lia), fun z => absurd z.1 (by decide)⟩, ⟨fun z => absurd z (by lia), fun z => absurd z.1 (by decide)⟩, ⟨fun z => absurd z (by lia), fun z => absurd z.1 (by decide)⟩⟩
  · obtain ⟨rfl, y⟩ := y
    rcases y with ⟨rfl, rfl⟩ | ⟨rfl, rfl⟩ | ⟨rfl, rfl⟩ | ⟨rfl, rfl⟩ | ⟨rfl, rfl⟩ | ⟨rfl, rfl⟩ | ⟨rfl, rfl⟩ <;> (refine ⟨?_, ?_, ?_, ?_, ?_, ?_, ?_, ?_, ?_, ?_⟩ <;> simp <;> decide)
  · obtain ⟨y1, y2, rfl, rfl⟩ := y
    refine ⟨⟨fun z => absurd z (by lia), fun z => absurd z (by decide)⟩, ⟨fun z => absurd z (by lia), fun z => absurd z (by decide)⟩, ⟨fun z => absurd z (by lia), fun z => absurd z (by decide)⟩, fun z => absurd z (by decide), fun z => absurd z (by decide), ⟨fun z => absurd z (by decide), fun z => absurd z (by lia)⟩, fun z => absurd z (by decide), ⟨fun z => absurd z (by lia), fun z => absurd z.1 (by decide)⟩, ⟨fun z => absurd z (by lia), fun z => absurd z.1 (by decide)⟩, ⟨fun z => absurd z (by lia), fun z => absurd z.1 (by decide)⟩⟩
/-- whether a number of these bounds stands here -/
theorem Scn.isn {b b' h h' : Hp} {n a j l u : Int32} {T : Int32 → Int32} (x : Scn h h' n T a j) (f : FrP b h) (f' : FrQ b' h') (l0 : 0 ≤ l) (u9 : u ≤ 99999) :
    (∃ g g', f_Tr_isNumber TC h 2 l u = some (0, g) ∧ f_Md_number TR h' 0 l u = some (0, g') ∧ Fld b b' g g') ∨ (∃ t t' a2 j2, f_Tr_isNumber TC h 2 l u = some (1, h) ∧ l ≤ h.1 22 2 ∧ h.1 22 2 ≤ u ∧ f_Sc_step TC h 22 = some t ∧ f_Md_number TR h' 0 l u = some (1, t') ∧ FSc h t ∧ FTp h' t' ∧ t'.1 0 11 = h.1 22 2 ∧ Scn t t' n T a2 j2 ∧ j ≤ a2) := by
  obtain ⟨k2, -, -, nv, -⟩ := x.k2
  have e10 : h'.1 0 10 = a := x.2.2.2.2.1
  unfold f_Tr_isNumber f_Md_number jb_Tr_isNumber_39
  simp only [nmd_q, lyC, faC, faR0 e10, isIn_e, cz0, bnd_q]
  by_cases c : h'.1 0 8 = 3
  case neg =>
    rw [if_neg (fun z => c (k2.mp z)), if_neg c]
    exact .inl ⟨_, _, rfl, rfl, Fld.of f f' x⟩
  have nv := nv c
  rw [if_pos (k2.mpr c), if_pos c]
  have no : ¬ (l ≤ h'.1 0 9 ∧ h'.1 0 9 ≤ u) → (∃ g g', (if h.1 22 2 < l then (if (0 : Int32) = 0 then some ((0 : Int32), pI h 2 1 2) else some (1, pI h 2 1 2)) else if h.1 22 2 ≤ u then some (1, h) else (if (0 : Int32) = 0 then some (0, pI h 2 1 2) else some (1, pI h 2 1 2))) = some (0, g) ∧ (some ((0 : Int32), pI (pI h' 0 4 2) 0 5 a)) = some (0, g') ∧ Fld b b' g g') := fun z => by
    by_cases d : h.1 22 2 < l
    · rw [if_pos d, if_pos rfl]
      exact ⟨_, _, rfl, rfl, Fld.of f f' x⟩
    · rw [if_neg d, if_neg (by
        intro d2
        rcases nv with ⟨w1, w2, w3⟩ | ⟨w1, w2, w3, w4⟩
        · exact z (by lia)
        · lia), if_pos rfl]
      exact ⟨_, _, rfl, rfl, Fld.of f f' x⟩
  by_cases d : l ≤ h'.1 0 9 ∧ h'.1 0 9 ≤ u
  case neg =>
    obtain ⟨g, g', q1, q2, q3⟩ := no d
    refine .inl ⟨g, g', ?_, ?_, q3⟩
    · simpa using q1
    · rw [if_neg d, if_pos (rfl : (0 : Int32) = 0)]
      exact q2
  clear no
  have ev : h.1 22 2 = h'.1 0 9 := by
    rcases nv with w | w
    · exact w.1
    · exact absurd d.2 (by lia)
  rw [if_pos d, if_neg (show ¬ (1 : Int32) = 0 by decide), ev, if_neg (show ¬ h'.1 0 9 < l by lia), if_pos d.2]
  have x2 : Scn h (pI h' 0 11 (h'.1 0 9)) n T a j := x.mv (fun _ _ _ => rfl) (fun c s q => by rw [pI_x (by omega)])
  obtain ⟨t, t', a2, j2, w1, w2, w3, w4, w5, w6⟩ := x2.st
  refine .inr ⟨t, t', a2, j2, rfl, d.1, d.2, w1, by rw [w2, bnd_q], w3, ⟨by rw [w4.1, pI_l], fun c s q => ?_⟩, ?_, w5, w6⟩
  · rw [w4.2 c s (by omega), pI_x (by omega)]
  · rw [w4.2 0 11 (by omega), pI_t, if_pos rfl]
/-- a number taken -/
theorem Scn.num {b b' h h' : Hp} {n a j l u : Int32} {T : Int32 → Int32} (x : Scn h h' n T a j) (f : FrP b h) (f' : FrQ b' h') (l0 : 0 ≤ l) (u9 : u ≤ 99999) :
    (∃ g g', f_Tr_takeNumber TC h 2 l u = some (-1, g) ∧ f_Md_number TR h' 0 l u = some (0, g') ∧ Fld b b' g g') ∨ (∃ v t t' a2 j2, f_Tr_takeNumber TC h 2 l u = some (v, t) ∧ f_Md_number TR h' 0 l u = some (1, t') ∧ l ≤ v ∧ v ≤ u ∧ FSc h t ∧ FTp h' t' ∧ t'.1 0 11 = v ∧ Scn t t' n T a2 j2 ∧ j ≤ a2) := by
  unfold f_Tr_takeNumber
  simp only [lyC]
  rcases x.isn f f' l0 u9 with ⟨g, g', q1, q2, q3⟩ | ⟨t, t', a2, j2, q1, q2, q3, q4, q5, q6, q7, q8, q9, q10⟩
  · rw [q1, q2, bnd_q, if_pos (rfl : (0 : Int32) = 0)]
    exact .inl ⟨g, g', rfl, rfl, q3⟩
  · rw [q1, bnd_q, if_neg (show ¬ (1 : Int32) = 0 by decide), nmd_q, q4, bnd_q]
    exact .inr ⟨_, t, t', a2, j2, rfl, q5, q2, q3, q6, q7, q8, q9, q10⟩
/-- names looked up among those read -/
theorem fndU {hC hR : Hp} {c r : Nat} {F : Int32 → Int32} {N v : Int32} (hN0 : 0 ≤ N) (hN : N ≤ 6) (ac : al TC c = 6) (ar : al TR r = 12) (eC : ∀ t, 0 ≤ t → t < N → hC.1 c (ix t) = F t) (eR : ∀ t, 0 ≤ t → t < N → hR.1 r (ix (6 + t)) = F t) : ∃ v', f_Tt_find TC hC c N v = some v' ∧ f_Md_find TR hR r 6 N v = some v' ∧ -1 ≤ v' ∧ v' < N := by
  unfold f_Tt_find f_Md_find
  have a6 : Int32.ofNat 6 = 6 := by decide
  refine lock (S := Unit) (S' := Unit) (N := N) (lp := fun n i _ => lp_Tt_find_2 TC n hC c N v i) (lp' := fun n i _ => lp_Md_find_3 TR n hR r 6 N v i) (fun a b => ∃ v', a = some v' ∧ b = some v' ∧ -1 ≤ v' ∧ v' < N) (fun _ _ _ => True) hN0 (by lia) ?_ ?_ 0 (by decide) hN0 () () trivial
  · intro n m _ _ _
    simp only [lp_Tt_find_2, lp_Md_find_3]
    rw [if_pos (by lia), if_pos (by lia)]
    exact ⟨_, rfl, rfl, by decide, by lia⟩
  · intro n m i _ _ h0 h1 _
    simp only [lp_Tt_find_2, lp_Md_find_3]
    rw [ac, a6, if_neg (show ¬ N ≤ i by lia), if_neg (show ¬ (6 : Int32) ≤ i by lia), if_neg (show ¬ N ≤ i by lia), rI_i 6 ac (by decide) h0 (show i < 6 by lia), rI_i 12 ar (by decide) (show 0 ≤ 6 + i by lia) (show 6 + i < 12 by lia), bnd_q, bnd_q, eC i h0 h1, eR i h0 h1]
    by_cases q : F i = v
    · rw [if_pos q, if_pos q]
      exact .inl ⟨_, rfl, rfl, by lia, h1⟩
    · rw [if_neg q, if_neg q, nmd_q, nmd_q]
      exact .inr ⟨(), (), rfl, rfl, trivial⟩
/-- a new name -/
theorem Scn.nnm {b b' h h' : Hp} {n a j N : Int32} {c r : Nat} {F : Int32 → Int32} {T : Int32 → Int32} (x : Scn h h' n T a j) (f : FrP b h) (f' : FrQ b' h') (hN0 : 0 ≤ N) (hN : N < 6) (ac : al TC c = 6) (ar : al TR r = 12) (hc : TXc c (ix N) ∧ ¬ c = 22 ∧ ¬ c = 1) (hr : TXr r (ix (6 + N)) ∧ 3 ≤ r) (eC : ∀ t, 0 ≤ t → t < N → h.1 c (ix t) = F t) (eR : ∀ t, 0 ≤ t → t < N → h'.1 r (ix (6 + t)) = F t) :
    (∃ g g', f_Tr_isNewName TC h 2 c N = some (0, g) ∧ f_Md_newName TR h' 0 r 6 N = some (0, g') ∧ Fld b b' g g') ∨ (∃ v t t' a2 j2, f_Tr_isNewName TC h 2 c N = some (1, h) ∧ h.1 22 3 = v ∧ f_Sc_step TC (pI h c (ix N) v) 22 = some t ∧ f_Md_newName TR h' 0 r 6 N = some (1, t') ∧ FSc (pI h c (ix N) v) t ∧ FTo (pI h' r (ix (6 + N)) v) t' ∧ Scn t t' n T a2 j2 ∧ j ≤ a2) := by
  obtain ⟨-, k3, -, -, nm, -⟩ := x.k2
  have e10 : h'.1 0 10 = a := x.2.2.2.2.1
  unfold f_Tr_isNewName f_Md_newName
  simp only [nmd_q, lyC, faC, faR0 e10, cz0, bnd_q]
  by_cases d : h'.1 0 8 = 2
  case neg =>
    rw [if_neg (fun z => d (k3.mp z)), if_neg d]
    exact .inl ⟨_, _, rfl, rfl, Fld.of f f' x⟩
  have nm := nm d
  obtain ⟨v, v1, v2, v3, v4⟩ := fndU (v := h'.1 0 9) hN0 (by lia) ac ar eC eR
  rw [if_pos (k3.mpr d), if_pos d, nm, v1, v2, bnd_q, bnd_q]
  by_cases z : v = -1
  · have x2 : Scn (pI h c (ix N) (h'.1 0 9)) (pI h' r (ix (6 + N)) (h'.1 0 9)) n T a j := x.mv (fun d s q => by
      rw [pI_n]
      intro w
      obtain ⟨⟨hx, h2, h3⟩⟩ := (⟨hc⟩ : PLift _)
      unfold TXc at hx
      omega) (fun d s q => by rw [pI_n]; omega)
    obtain ⟨t, t', a2, j2, w1, w2, w3, w4, w5, w6⟩ := x2.st
    have j0 : 0 ≤ 6 + N := by lia
    have j12 : 6 + N < 12 := by lia
    rw [if_pos z, if_pos (show v < 0 by lia), wI_i 12 ar (by decide) j0 j12, bnd_q, w2, bnd_q]
    exact .inr ⟨_, t, t', a2, j2, rfl, rfl, w1, rfl, w3, w4, w5, w6⟩
  · rw [if_neg z, if_neg (show ¬ v < 0 by lia)]
    exact .inl ⟨_, _, rfl, rfl, Fld.of f f' x⟩
/-- one told ahead -/
theorem Scn.thr {b b' h h' : Hp} {n a j N : Int32} {c r : Nat} {F : Int32 → Int32} {T : Int32 → Int32} (x : Scn h h' n T a j) (f : FrP b h) (f' : FrQ b' h') (hN0 : 0 ≤ N) (hN : N ≤ 6) (ac : al TC c = 6) (ar : al TR r = 12) (eC : ∀ t, 0 ≤ t → t < N → h.1 c (ix t) = F t) (eR : ∀ t, 0 ≤ t → t < N → h'.1 r (ix (6 + t)) = F t) :
    (∃ g g', f_Tr_takeNamed TC h 2 c N = some (-1, g) ∧ f_Md_thereIn TR h' 0 r 6 N = some (0, g') ∧ Fld b b' g g') ∨ (∃ v t t' a2 j2, f_Tr_takeNamed TC h 2 c N = some (v, t) ∧ f_Md_thereIn TR h' 0 r 6 N = some (1, t') ∧ 0 ≤ v ∧ v < N ∧ FSc h t ∧ FTp h' t' ∧ t'.1 0 11 = v ∧ Scn t t' n T a2 j2 ∧ j ≤ a2) := by
  obtain ⟨-, k3, -, -, nm, -⟩ := x.k2
  have e10 : h'.1 0 10 = a := x.2.2.2.2.1
  unfold f_Tr_takeNamed f_Md_thereIn
  simp only [nmd_q, lyC, faC, faR0 e10, cz0, bnd_q]
  by_cases d : h'.1 0 8 = 2
  case neg =>
    rw [if_neg (fun z => d (k3.mp z)), if_neg d]
    exact .inl ⟨_, _, rfl, rfl, Fld.of f f' x⟩
  have nm := nm d
  obtain ⟨v, v1, v2, v3, v4⟩ := fndU (v := h'.1 0 9) hN0 hN ac ar eC eR
  rw [if_pos (k3.mpr d), if_pos d, nm, v1, v2, bnd_q, bnd_q]
  by_cases z : v = -1
  · rw [if_pos z, if_neg (show ¬ 0 ≤ v by lia), z]
    exact .inl ⟨_, _, rfl, rfl, Fld.of f f' x⟩
  · obtain ⟨t, t', a2, j2, w1, w2, w3, w4, w5, w6⟩ := x.st
    rw [if_neg z, if_pos (show 0 ≤ v by lia), w1, w2, bnd_q, bnd_q]
    refine .inr ⟨v, t, _, a2, j2, rfl, rfl, by lia, v4, w3, ⟨by rw [pI_l]; exact w4.1, fun c s q => by rw [pI_x (by omega)]; exact w4.2 c s (by omega)⟩, by rw [pI_t, if_pos rfl], w5.mv (fun _ _ _ => rfl) (fun c s q => by rw [pI_x (by omega)]), w6⟩
