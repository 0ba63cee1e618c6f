/-! laws as they are read: a part, told -/
theorem isg {h : Hp} {v : Int32} : f_Md_isSign TR h 0 v = if h.1 0 8 = 4 ∧ h.1 0 9 = v then 1 else 0 := by
  unfold f_Md_isSign
  by_cases c : h.1 0 8 = 4
  · by_cases d : h.1 0 9 = v
    · rw [if_pos c, if_pos d, if_pos ⟨c, d⟩]
    · rw [if_pos c, if_neg d, if_neg (fun z => d z.2)]
  · rw [if_neg c, if_neg (fun z => c z.1)]
theorem isk {h : Hp} {v : Int32} : f_Md_isKey TR h 0 v = if h.1 0 8 = 1 ∧ h.1 0 9 = v then 1 else 0 := by
  unfold f_Md_isKey
  by_cases c : h.1 0 8 = 1
  · by_cases d : h.1 0 9 = v
    · rw [if_pos c, if_pos d, if_pos ⟨c, d⟩]
    · rw [if_pos c, if_neg d, if_neg (fun z => d z.2)]
  · rw [if_neg c, if_neg (fun z => c z.1)]
theorem isn0 {h : Hp} {x : Int32} : f_Tt_isName TC h x = if 23 ≤ x ∧ x ≤ 29 then 1 else 0 := by
  unfold f_Tt_isName
  by_cases c : x < 23
  · rw [if_pos c, if_neg (fun z => by lia)]
  · by_cases d : 29 < x
    · rw [if_neg c, if_pos d, if_neg (fun z => by lia)]
    · rw [if_neg c, if_neg d, if_pos (by lia)]
theorem tpT {h h' : Hp} {W : List Nat} (x : WT h h' W) (wl : W.length ≤ 72) : f_Lr_topStrength TC h 24 = some (tpS W) := by
  unfold f_Lr_topStrength
  cases W with
  | nil =>
    rw [x.1, if_pos (by decide)]
    rfl
  | cons w t =>
    rw [List.length_cons] at wl
    obtain ⟨c1, c2, c3⟩ := tpC x (by omega)
    simp only [lyC]
    rw [if_neg c1, c2, c3, bnd_q, nmd_q, rkC (x.2.2.2.2 w (List.mem_cons_self ..))]
    rfl
/-- a leaf taken -/
theorem leaf {fr : Nat} {u u' h h' : Hp} {K0 K : Kn} {n a j pd : Int32} {T : Int32 → Int32} {s k v : Nat} {W H : List Nat} (x : LWS fr u u' K0 n T a j h h' K s W H pd) (c : ¬ s + nbW W = 64) (hk : k ≤ 1) (kv : (k = 0 → v ≤ 9999) ∧ (k = 1 → v < 7)) :
    ∃ g g', f_Lr_takeKnot TC (pI h 24 5 0) 24 (cdOf (k, v)) = some (0, g) ∧ f_Md_grown TR (pI h' 0 48 (nI (s + nbW W + 1))) 0 (nI k) (nI v) 0 = some g' ∧ LWS fr u u' K0 n T a j g (pI g' 0 49 0) (upK K s (k, v)) (s + 1) W (s :: H) 0 := by
  have l0 := x.lo
  obtain ⟨x1, x2, x3, x4, x5, x6, ⟨⟨c1, c2, c3⟩, c4, c5, c6⟩, x8⟩ := x
  have l1 : LW0 fr u u' K0 n T a j (pI (pI h 24 5 0) 17 0 (nI (s + nbW W + 1))) (pI h' 0 48 (nI (s + nbW W + 1))) K s W H := l0.mv rfl rfl (fun c i z1 z => by rw [pI_x z, pI_x (by omega)]) (fun c i z => by rw [pI_x (by omega)])
  obtain ⟨f1, f2, f3⟩ := l1.lf (k := k) (v := v) (by omega) hk kv
  refine ⟨apC (pI (pI h 24 5 0) 17 0 (nI (s + nbW W + 1))) s (cdOf (k, v)), _, ?_, f2, ?_⟩
  · unfold f_Lr_takeKnot
    simp only [lyC]
    rw [pI_n (by decide), c1, if_pos ((n64 c3).1.mpr c), nmd_q, nI_1, f1, bnd_q]
  · refine (f3.mv (t' := pI (apR (pI h' 0 48 (nI (s + nbW W + 1))) s H.length (nI k) (nI v) 0) 0 49 0) rfl rfl (fun _ _ _ _ => rfl) (fun c i z => by rw [pI_x (by omega)])).hi ⟨⟨?_, ?_, ?_⟩, ?_, ?_, ?_⟩ ?_ ?_
    · rw [apCx (by omega) (by omega), pI_t, if_pos rfl]
      congr 1
      omega
    · rw [pI_t, if_neg (by decide), apRx (by omega) (by omega) (by omega), pI_t, if_pos rfl]
      congr 1
      omega
    · omega
    · rw [apCx (by omega) (by omega), pI_n (by decide), pI_t, if_neg (by decide)]
      exact c4
    · rw [pI_t, if_neg (by decide), apRx (by omega) (by omega) (by omega), pI_t, if_neg (by decide)]
      exact c5
    · exact c6
    · rw [apCx (by omega) (by omega), pI_n (by decide), pI_t, if_pos rfl]
    · rw [pI_t, if_pos rfl]
theorem nmC {x : Int32} (a : 23 ≤ x) (b : x ≤ 29) : -x = cdOf (1, ix (x - 23)) ∧ ix (x - 23) < 7 ∧ nI (ix (x - 23)) = x - 23 := by
  have e : nI (ix (x - 23)) = x - 23 := nI_ix (by lia)
  have l : ix (x - 23) < 7 := ix_lt (n := 7) (by lia) (by decide) (show x - 23 < 7 by lia)
  refine ⟨?_, l, e⟩
  unfold cdOf
  simp only [fst_q, snd_q]
  rw [if_neg (show ¬ (1 : Nat) = 0 by decide), if_pos trivial, ← nI_add, e]
  show -x = -(23 + (x - 23))
  lia
theorem nuC {v : Int32} (a : 0 ≤ v) (b : v ≤ 9999) : v = cdOf (0, ix v) ∧ ix v ≤ 9999 ∧ nI (ix v) = v := by
  have e : nI (ix v) = v := nI_ix a
  have l : ix v < 10000 := ix_lt (n := 10000) a (by decide) (show v < 10000 by lia)
  refine ⟨?_, by omega, e⟩
  unfold cdOf
  rw [if_pos rfl, e]
theorem tpart {fr : Nat} {u u' h h' : Hp} {K0 K : Kn} {n a j : Int32} {T : Int32 → Int32} {s : Nat} {W H : List Nat} (x : LWS fr u u' K0 n T a j h h' K s W H 1) (i : H.length = bnW W ∧ (h'.1 0 50 = 0 ↔ 3 < tpS W)) : BR fr u u' K0 n T a (f_Lr_takePart TC h 24) (f_Md_leafRead TR h' 0) := by
  have wl := x.wl
  have sc := x.2.2.1
  have f := x.1
  have f' := x.2.1
  obtain ⟨k2, k3, k0, nv, -, k1, kw, k30, k31, k32⟩ := sc.k2
  have e10 : h'.1 0 10 = a := sc.2.2.2.2.1
  have aj : ¬ h.1 22 0 = 0 → a < j := fun z => sc.2.2.2.2.2.2.2.2.1.resolve_left z
  obtain ⟨⟨c1, c2, c3⟩, c4, c5, c6⟩ := x.2.2.2.2.2.2.1
  have eR : f_Md_leafRead TR h' 0 = if h'.1 0 8 = 4 ∧ h'.1 0 9 = 40 then (if h'.1 0 47 = 8 then some (0, pI (pI h' 0 4 2) 0 5 a) else (f_Md_waitsFor TR (pI h' 0 47 (h'.1 0 47 + 1)) 0 0).bind fun r10 => (f_Md_token TR (pI r10 0 50 1) 0).bind fun r12 => some (1, r12)) else if h'.1 0 8 = 1 ∧ h'.1 0 9 = 12 then (if h'.1 0 50 = 0 then jb_Md_leafRead_86 TR h' 0 else (f_Md_isCounted TR h' 0).bind fun r3 => if r3.1 = 0 then some (0, r3.2) else (f_Md_waitsFor TR r3.2 0 2).bind fun r4 => (f_Md_token TR r4 0).bind fun r5 => some (1, r5)) else jb_Md_leafRead_86 TR h' 0 := by
    unfold f_Md_leafRead
    simp only [nmd_q, faR0 e10, cz0, bnd_q, isg, isk]
    by_cases z : h'.1 0 8 = 4 ∧ h'.1 0 9 = 40
    · rw [if_pos z, if_neg (show ¬ (1 : Int32) = 0 by decide), if_pos z]
    · rw [if_neg z, if_pos rfl, if_neg z]
      by_cases y : h'.1 0 8 = 1 ∧ h'.1 0 9 = 12
      · rw [if_pos y, if_neg (show ¬ (1 : Int32) = 0 by decide), if_pos y]
      · rw [if_neg y, if_pos rfl, if_neg y]
  have e86 : jb_Md_leafRead_86 TR h' 0 = if h'.1 0 8 = 1 ∧ 13 ≤ h'.1 0 9 then jb_Md_leafRead_129 TR h' 0 (h'.1 0 9 - 13) else if h'.1 0 8 = 3 then (if h'.1 0 9 ≤ 9999 then jb_Md_leafRead_129 TR h' 0 (-1) else some (0, pI (pI h' 0 4 2) 0 5 a)) else some (0, pI (pI h' 0 4 1) 0 5 a) := by
    unfold jb_Md_leafRead_86 jb_Md_leafRead_109 f_Md_nameMet
    simp only [nmd_q, faR0 e10, cz0, bnd_q]
    by_cases z : h'.1 0 8 = 1
    · rw [if_pos z]
      by_cases y : h'.1 0 9 < 13
      · rw [if_pos y, if_neg (by decide), if_neg (show ¬ h'.1 0 8 = 3 by rw [z]; decide), if_neg (show ¬ (h'.1 0 8 = 1 ∧ 13 ≤ h'.1 0 9) from fun w => by have := w.2; lia), if_neg (show ¬ h'.1 0 8 = 3 by rw [z]; decide)]
      · have b := (k1.mp z).2
        have w := kw z
        have q : 0 ≤ h'.1 0 9 - 13 := by clear k2 k3 k0 nv k1 kw k30 k31 k32; lia
        rw [if_neg y, if_pos q, if_pos q, if_pos (show (h'.1 0 8 = 1 ∧ 13 ≤ h'.1 0 9) from ⟨z, by lia⟩)]
    · rw [if_neg z, if_neg (show ¬ (0 : Int32) ≤ -1 by decide), if_neg (show ¬ (0 : Int32) ≤ -1 by decide), if_neg (show ¬ (h'.1 0 8 = 1 ∧ 13 ≤ h'.1 0 9) from fun w => z w.1)]
  have e129 : ∀ l : Int32, jb_Md_leafRead_129 TR h' 0 l = if s + nbW W = 64 then some (0, pI (pI h' 0 4 2) 0 5 a) else (f_Md_grown TR (pI h' 0 48 (nI (s + nbW W + 1))) 0 (if l < 0 then 0 else 1) (if l < 0 then h'.1 0 9 else l) 0).bind fun r1 => (f_Md_token TR (pI r1 0 49 0) 0).bind fun r3 => some (1, r3) := by
    intro l
    unfold jb_Md_leafRead_129 jb_Md_leafRead_148 jb_Md_leafRead_160
    simp only [nmd_q]
    rw [cntR c2 c3 e10]
    by_cases z : s + nbW W = 64
    · rw [if_pos z, if_pos z, bnd_q, if_pos rfl]
    · rw [if_neg z, if_neg z, bnd_q]
      simp only [fst_q, snd_q]
      rw [if_neg (show ¬ (1 : Int32) = 0 by decide)]
      by_cases y : l < 0
      · rw [if_pos y, if_pos y, if_pos y, if_pos y, pI_t, if_neg (by decide)]
      · rw [if_neg y, if_neg y, if_neg y, if_neg y]
  rw [eR]
  by_cases d31 : h.1 22 0 = 31
  · have d31' := k31.mp d31
    have eC : f_Lr_takePart TC h 24 = if h.1 24 4 < 8 then (f_Lr_push TC (pI h 24 4 (h.1 24 4 + 1)) 24 31).bind fun r2 => some (r2.1, r2.2) else some (2, h) := by
      unfold f_Lr_takePart jb_Lr_takePart_91
      simp only [nmd_q, lyC, isn0]
      rw [d31, if_neg (by decide), if_neg (show ¬ ((23 : Int32) ≤ 31 ∧ (31 : Int32) ≤ 29) by decide), if_pos rfl, if_neg (by decide), if_pos rfl]
    rw [eC, if_pos d31', c4, c5]
    by_cases c8 : obW W = 8
    · rw [if_neg (fun z => (n8 c6).1.mp z c8), if_pos ((n8 c6).2.mpr c8)]
      exact BR.no f f' sc (by decide) (.inl rfl) rfl rfl
    · have wl2 : W.length < 72 := by rw [lnW]; omega
      rw [if_pos ((n8 c6).1.mpr c8), if_neg (fun z => c8 ((n8 c6).2.mp z)), nI_1, psCe (m := W.length) (by rw [pI_t, if_neg (by decide)]; exact x.2.2.2.2.2.1.1) wl2, bnd_q, psRe (m := W.length) (by rw [pI_t, if_neg (by decide)]; exact x.2.2.2.2.2.1.2.1) (by omega), bnd_q]
      have l1 : LW0 fr u u' K0 n T a j (pI h 24 4 (nI (obW W + 1))) (pI h' 0 47 (nI (obW W + 1))) K s W H := x.lo.mv rfl rfl (fun c i z1 z => by rw [pI_x (by omega)]) (fun c i z => by rw [pI_x (by omega)])
      have l2 := (l1.psh (w := 0) (.inl rfl)).mv (t' := pI (psR (pI h' 0 47 (nI (obW W + 1))) W.length (nI 0)) 0 50 1) rfl rfl (fun _ _ _ _ => rfl) (fun c i z => by rw [pI_x (by omega)])
      refine BR.ok (l2.hi (pd := 1) ⟨⟨?_, ?_, ?_⟩, ?_, ?_, ?_⟩ ?_ ?_) (.inr ⟨rfl, ?_, ?_⟩) (aj (by rw [d31]; decide)) rfl rfl
      · rw [psCx (by omega) (by omega), pI_n (by decide), nbc, if_pos rfl, c1]
        congr 1
        omega
      · rw [pI_t, if_neg (by decide), psRx (by omega) (by omega), pI_t, if_neg (by decide), nbc, if_pos rfl, c2]
        congr 1
        omega
      · rw [nbc, if_pos rfl]
        omega
      · rw [psCx (by omega) (by omega), pI_t, if_pos rfl, obc, if_pos rfl]
        congr 1
        omega
      · rw [pI_t, if_neg (by decide), psRx (by omega) (by omega), pI_t, if_pos rfl, obc, if_pos rfl]
        congr 1
        omega
      · rw [obc, if_pos rfl]
        omega
      · rw [psCx (by omega) (by omega), pI_t, if_neg (by decide)]
        exact x.2.2.2.2.2.2.2.1
      · rw [pI_t, if_neg (by decide), psRx (by omega) (by omega), pI_t, if_neg (by decide)]
        exact x.2.2.2.2.2.2.2.2
      · rw [i.1, bnc, if_neg (by decide)]
        omega
      · rw [pI_t, if_pos rfl]
        exact ⟨fun z => absurd z (by decide), fun z => absurd z (show ¬ (3 : Int32) < rkW 0 by decide)⟩
  rw [if_neg (fun z => d31 (k31.mpr z))]
  by_cases d22 : h.1 22 0 = 22
  · have r1 : h'.1 0 8 = 1 := k1.mpr (by rw [d22]; decide)
    have rw12 : h'.1 0 9 = 12 := by rw [kw r1, d22]; decide
    have eC : f_Lr_takePart TC h 24 = if 3 < tpS W then some (1, h) else (f_Lr_waitKnot TC h 24 22).bind fun r5 => some (r5.1, r5.2) := by
      unfold f_Lr_takePart jb_Lr_takePart_91
      simp only [nmd_q, lyC, isn0]
      rw [d22, if_neg (by decide), if_neg (show ¬ ((23 : Int32) ≤ 22 ∧ (22 : Int32) ≤ 29) by decide), if_pos rfl, if_pos rfl, tpT x.2.2.2.2.2.1 wl, bnd_q, show f_Lr_strengthOf TC h 22 = 3 from rkC (k := 2) (.inr (by omega)), if_neg (show ¬ (22 : Int32) = 31 by decide)]
    rw [eC, if_pos (show h'.1 0 8 = 1 ∧ h'.1 0 9 = 12 from ⟨r1, rw12⟩)]
    by_cases t3 : 3 < tpS W
    · rw [if_pos t3, if_pos (i.2.mpr t3), e86, if_neg (by rw [rw12]; exact fun z => absurd z.2 (by decide)), if_neg (by rw [r1]; decide)]
      exact BR.no f f' sc (by decide) (.inl rfl) rfl rfl
    · rw [if_neg t3, if_neg (fun z => t3 (i.2.mp z)), cntR c2 c3 e10]
      by_cases c : s + nbW W = 64
      · rw [if_pos c, bnd_q, if_pos rfl]
        refine BR.no f f' sc (k := 2) (by decide) (.inl rfl) ?_ rfl
        unfold f_Lr_waitKnot
        simp only [lyC]
        rw [c1, if_neg (fun z => (n64 c3).1.mp z c), bnd_q]
      · rw [if_neg c, bnd_q]
        simp only [fst_q, snd_q]
        obtain ⟨w1, w2, w3⟩ := wkn x (w := 2) (.inr (by omega)) (by decide) c
        rw [if_neg (show ¬ (1 : Int32) = 0 by decide), show f_Lr_waitKnot TC h 24 22 = _ from w1, show f_Md_waitsFor TR (pI h' 0 48 (nI (s + nbW W + 1))) 0 2 = _ from w2, bnd_q, bnd_q]
        refine BR.ok w3 (.inr ⟨rfl, ?_, ?_⟩) (aj (by rw [d22]; decide)) rfl rfl
        · rw [i.1, bnc, if_neg (by decide)]
          omega
        · rw [psRx (by omega) (by omega), pI_t, if_neg (by decide), i.2]
          exact ⟨fun z => absurd z t3, fun z => absurd z (show ¬ (3 : Int32) < rkW 2 by decide)⟩
  rw [if_neg (show ¬ (h'.1 0 8 = 1 ∧ h'.1 0 9 = 12) from fun z => d22 (by
    have := kw z.1
    rw [z.2] at this
    clear k2 k3 k0 nv k1 kw k30 k31 k32
    lia)), e86]
  by_cases dn : 23 ≤ h.1 22 0 ∧ h.1 22 0 ≤ 29
  · have r1 : h'.1 0 8 = 1 := k1.mpr ⟨by have := dn.1; lia, dn.2⟩
    have rwn : h'.1 0 9 = h.1 22 0 - 10 := kw r1
    obtain ⟨n1, n2, n3⟩ := nmC dn.1 dn.2
    have eC : f_Lr_takePart TC h 24 = (f_Lr_takeKnot TC (pI h 24 5 0) 24 (-(h.1 22 0))).bind fun r9 => some (r9.1, r9.2) := by
      unfold f_Lr_takePart
      simp only [nmd_q, lyC, isn0]
      rw [if_neg (show ¬ h.1 22 0 = 2 from fun z => absurd dn.1 (by rw [z]; decide)), if_pos dn, if_neg (by decide)]
    have g13 : 13 ≤ h'.1 0 9 := by
      have := dn.1
      have := dn.2
      clear k2 k3 k0 nv k1 kw k30 k31 k32
      lia
    have e13 : h'.1 0 9 - 13 = h.1 22 0 - 23 := by rw [rwn]; clear k2 k3 k0 nv k1 kw k30 k31 k32; lia
    have p13 : ¬ h.1 22 0 - 23 < 0 := by
      have := dn.1
      have := dn.2
      clear k2 k3 k0 nv k1 kw k30 k31 k32
      lia
    rw [if_pos ⟨r1, g13⟩, e13, e129, if_neg p13, if_neg p13, eC]
    by_cases c : s + nbW W = 64
    · rw [if_pos c]
      refine BR.no f f' sc (k := 2) (by decide) (.inr rfl) ?_ rfl
      unfold f_Lr_takeKnot
      simp only [lyC]
      rw [pI_n (by decide), c1, if_neg (fun z => (n64 c3).1.mp z c), bnd_q]
    · obtain ⟨g, g', w1, w2, w3⟩ := leaf x c (k := 1) (v := ix (h.1 22 0 - 23)) (by omega) ⟨fun z => absurd z (by decide), fun _ => n2⟩
      rw [if_neg c, n1, w1, ← n3, show f_Md_grown TR (pI h' 0 48 (nI (s + nbW W + 1))) 0 1 (nI (ix (h.1 22 0 - 23))) 0 = some g' from w2, bnd_q, bnd_q]
      refine BR.ok w3 (.inl ⟨rfl, ?_⟩) (aj (fun z => absurd dn.1 (by rw [z]; decide))) rfl rfl
      rw [List.length_cons, i.1]
      omega
  rw [if_neg (show ¬ (h'.1 0 8 = 1 ∧ 13 ≤ h'.1 0 9) from fun z => dn (by
    have q1 := kw z.1
    have q2 := (k1.mp z.1).2
    have q3 := (k1.mp z.1).1
    have q4 := z.2
    rw [q1] at q4
    clear k2 k3 k0 nv k1 kw k30 k31 k32
    lia))]
  by_cases d2 : h.1 22 0 = 2
  · have r3 := k2.mp d2
    have nv := nv r3
    have eC : f_Lr_takePart TC h 24 = if h.1 22 2 ≤ 9999 then (f_Lr_takeKnot TC (pI h 24 5 0) 24 (h.1 22 2)).bind fun r12 => some (r12.1, r12.2) else some (2, pI h 24 5 0) := by
      unfold f_Lr_takePart
      simp only [nmd_q, lyC, isn0]
      rw [if_pos d2, pI_n (by decide)]
    rw [eC, if_pos r3]
    by_cases le : h'.1 0 9 ≤ 9999
    · have ev : h.1 22 2 = h'.1 0 9 := by
        rcases nv with w | w
        · exact w.1
        · exact absurd w.2.2.1 (by lia)
      have v0 : 0 ≤ h'.1 0 9 := by
        rcases nv with w | w
        · rw [← ev]; exact w.2.1
        · exact absurd w.2.2.1 (by lia)
      obtain ⟨n1, n2, n3⟩ := nuC v0 le
      rw [ev, if_pos le, if_pos le, e129, if_pos (show (-1 : Int32) < 0 by decide), if_pos (show (-1 : Int32) < 0 by decide)]
      by_cases c : s + nbW W = 64
      · rw [if_pos c]
        refine BR.no f f' sc (k := 2) (by decide) (.inr rfl) ?_ rfl
        unfold f_Lr_takeKnot
        simp only [lyC]
        rw [pI_n (by decide), c1, if_neg (fun z => (n64 c3).1.mp z c), bnd_q]
      · obtain ⟨g, g', w1, w2, w3⟩ := leaf x c (k := 0) (v := ix (h'.1 0 9)) (by omega) ⟨fun _ => n2, fun z => absurd z (by decide)⟩
        rw [← n1] at w1
        rw [n3] at w2
        rw [if_neg c, w1, show f_Md_grown TR (pI h' 0 48 (nI (s + nbW W + 1))) 0 0 (h'.1 0 9) 0 = some g' from w2, bnd_q, bnd_q]
        refine BR.ok w3 (.inl ⟨rfl, ?_⟩) (aj (by rw [d2]; decide)) rfl rfl
        rw [List.length_cons, i.1]
        omega
    · have ev : ¬ h.1 22 2 ≤ 9999 := by
        rcases nv with w | w
        · rw [w.1]; exact le
        · have := w.1; lia
      rw [if_neg ev, if_neg le]
      exact BR.no f f' sc (by decide) (.inr rfl) rfl rfl
  rw [if_neg (fun z => d2 (k2.mpr z))]
  refine BR.no f f' sc (k := 1) (by decide) (.inl rfl) ?_ rfl
  unfold f_Lr_takePart jb_Lr_takePart_91
  simp only [nmd_q, lyC, isn0]
  rw [if_neg d2, if_neg dn, if_pos rfl, if_neg d22, if_neg d31]
