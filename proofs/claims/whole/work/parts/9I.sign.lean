/-! laws as they are read: a sign between parts -/
def selS (rk w : Int32) : Int32 := if rk = 1 ∧ w = 10 then 3 else if rk = 1 ∧ w = 11 then 4 else if rk = 5 then 5 + w else if rk = 4 ∧ w = 43 then 11 else if rk = 4 ∧ w = 45 then 12 else if rk = 4 ∧ w = 42 then 13 else if rk = 4 ∧ w = 47 then 14 else 0
theorem selE {h' : Hp} : jb_Md_signs_47 TR h' 0 = jb_Md_signs_147 TR h' 0 (selS (h'.1 0 8) (h'.1 0 9)) := by
  unfold jb_Md_signs_47 selS
  simp only [nmd_q, isg, isk]
  have e1 : ¬ (1 : Int32) = 0 := by decide
  by_cases a : h'.1 0 8 = 1 ∧ h'.1 0 9 = 10
  · rw [if_pos a, if_neg e1, if_pos a]
  rw [if_neg a, if_pos rfl, if_neg a]
  by_cases b : h'.1 0 8 = 1 ∧ h'.1 0 9 = 11
  · rw [if_pos b, if_neg e1, if_pos b]
  rw [if_neg b, if_pos rfl, if_neg b]
  by_cases c : h'.1 0 8 = 5
  · rw [if_pos c, if_pos c]
  rw [if_neg c, if_neg c]
  by_cases d : h'.1 0 8 = 4 ∧ h'.1 0 9 = 43
  · rw [if_pos d, if_neg e1, if_pos d]
  rw [if_neg d, if_pos rfl, if_neg d]
  by_cases e : h'.1 0 8 = 4 ∧ h'.1 0 9 = 45
  · rw [if_pos e, if_neg e1, if_pos e]
  rw [if_neg e, if_pos rfl, if_neg e]
  by_cases f : h'.1 0 8 = 4 ∧ h'.1 0 9 = 42
  · rw [if_pos f, if_neg e1, if_pos f]
  rw [if_neg f, if_pos rfl, if_neg f]
  by_cases g : h'.1 0 8 = 4 ∧ h'.1 0 9 = 47
  · rw [if_pos g, if_neg e1, if_pos g]
  rw [if_neg g, if_pos rfl, if_neg g]
theorem st0_all : ∀ m, m < 33 → ¬ m = 20 → ¬ m = 21 → (f_Lr_strengthOf TC h00 (nI m) = 0 ∨ m = 22) := by decide +kernel
theorem st0 {h : Hp} {x : Int32} (a : 0 ≤ x) (b : x < 33) (c : ¬ x = 20) (d : ¬ x = 21) : f_Lr_strengthOf TC h x = 0 ∨ x = 22 := by
  have e : nI (ix x) = x := nI_ix a
  have l : ix x < 33 := ix_lt a (by decide) (show x < nI 33 from b)
  rcases st0_all (ix x) l (fun z => c (by rw [← e, z]; decide)) (fun z => d (by rw [← e, z]; decide)) with w | w
  · rw [e] at w
    exact .inl w
  · exact .inr (by rw [← e, w]; decide)
theorem sel_all : ∀ m, m < 20 → ¬ m = 10 → ¬ m = 11 → selS 1 (nI m) = 0 := by decide +kernel
theorem sel5_all : ∀ m, m < 6 → selS 5 (nI m) = nI (5 + m) ∧ nI (33 + m) = nI (tkn (5 + m)) := by decide +kernel
theorem opk {h h' : Hp} {n a j : Int32} {T : Int32 → Int32} (x : Scn h h' n T a j) : (∃ k, 3 ≤ k ∧ k ≤ 14 ∧ h.1 22 0 = nI (tkn k) ∧ selS (h'.1 0 8) (h'.1 0 9) = nI k) ∨ ((f_Lr_strengthOf TC h (h.1 22 0) = 0 ∨ h.1 22 0 = 22) ∧ selS (h'.1 0 8) (h'.1 0 9) = 0) := by
  have y := x.2.2.2.2.2.2.2.2.2
  clear x
  unfold TKR SGN at y
  generalize h.1 22 0 = ck at y ⊢
  generalize h.1 22 2 = cv at y ⊢
  generalize h.1 22 3 = cl at y ⊢
  generalize h'.1 0 8 = rk at y ⊢
  generalize h'.1 0 9 = w at y ⊢
  have z0 : ∀ r : Int32, ¬ r = 1 → ¬ r = 5 → ¬ r = 4 → selS r w = 0 := fun r a b c => by
    unfold selS
    rw [if_neg (fun z => a z.1), if_neg (fun z => a z.1), if_neg b, if_neg (fun z => c z.1), if_neg (fun z => c z.1), if_neg (fun z => c z.1), if_neg (fun z => c z.1)]
  rcases y with y | y | y | y | y | y | y
  · obtain ⟨rfl, rfl⟩ := y
    exact .inr ⟨st0 (by decide) (by decide) (by decide) (by decide), z0 0 (by decide) (by decide) (by decide)⟩
  · obtain ⟨rfl, y⟩ := y
    refine .inr ⟨st0 (by decide) (by decide) (by decide) (by decide), ?_⟩
    rcases y with rfl | ⟨rfl, rfl⟩
    · exact z0 6 (by decide) (by decide) (by decide)
    · decide
  · obtain ⟨rfl, rfl, -⟩ := y
    exact .inr ⟨st0 (by decide) (by decide) (by decide) (by decide), z0 3 (by decide) (by decide) (by decide)⟩
  · obtain ⟨rfl, rfl, -⟩ := y
    exact .inr ⟨st0 (by decide) (by decide) (by decide) (by decide), z0 2 (by decide) (by decide) (by decide)⟩
  · obtain ⟨y1, y2, rfl, rfl⟩ := y
    by_cases c : ck = 20
    · rw [c]
      exact .inl ⟨3, by omega, by omega, by decide, by decide⟩
    by_cases d : ck = 21
    · rw [d]
      exact .inl ⟨4, by omega, by omega, by decide, by decide⟩
    refine .inr ⟨st0 (by lia) (by lia) c d, ?_⟩
    have e : nI (ix (ck - 10)) = ck - 10 := nI_ix (by lia)
    have l : ix (ck - 10) < 20 := ix_lt (n := 20) (by lia) (by decide) (show ck - 10 < 20 by lia)
    rw [← e]
    refine sel_all _ l (fun z => c ?_) (fun z => d ?_)
    · rw [z] at e
      have : (10 : Int32) = ck - 10 := e
      lia
    · rw [z] at e
      have : (11 : Int32) = ck - 10 := e
      lia
  · obtain ⟨rfl, y⟩ := y
    rcases y with ⟨rfl, rfl⟩ | ⟨rfl, rfl⟩ | ⟨rfl, rfl⟩ | ⟨rfl, rfl⟩ | ⟨rfl, rfl⟩ | ⟨rfl, rfl⟩ | ⟨rfl, rfl⟩
    · exact .inr ⟨st0 (by decide) (by decide) (by decide) (by decide), by decide⟩
    · exact .inr ⟨st0 (by decide) (by decide) (by decide) (by decide), by decide⟩
    · exact .inr ⟨st0 (by decide) (by decide) (by decide) (by decide), by decide⟩
    · exact .inl ⟨11, by omega, by omega, by decide, by decide⟩
    · exact .inl ⟨12, by omega, by omega, by decide, by decide⟩
    · exact .inl ⟨13, by omega, by omega, by decide, by decide⟩
    · exact .inl ⟨14, by omega, by omega, by decide, by decide⟩
  · obtain ⟨y1, y2, rfl, rfl⟩ := y
    have e : nI (ix (ck - 33)) = ck - 33 := nI_ix (by lia)
    have l : ix (ck - 33) < 6 := ix_lt (n := 6) (by lia) (by decide) (show ck - 33 < 6 by lia)
    obtain ⟨q1, q2⟩ := sel5_all _ l
    refine .inl ⟨5 + ix (ck - 33), by omega, by omega, ?_, ?_⟩
    · rw [← q2, ← nI_add, e]
      show ck = 33 + (ck - 33)
      lia
    · rw [← q1, e]
/-- the sign of a bracket taken off -/
theorem LW0.pop {fr : Nat} {u u' h h' : Hp} {K0 K : Kn} {n a j : Int32} {T : Int32 → Int32} {s w : Nat} {t H : List Nat} (x : LW0 fr u u' K0 n T a j h h' K s (w :: t) H) : LW0 fr u u' K0 n T a j (pI h 24 3 (nI t.length)) (pI h' 0 45 (nI t.length)) K s t H := by
  obtain ⟨x1, x2, x3, x4, x5, x6⟩ := x
  have gC : ∀ c i, ¬ (c = 24 ∧ i = 3) → (pI h 24 3 (nI t.length)).1 c i = h.1 c i := fun c i z => pI_x z
  have gR : ∀ c i, ¬ (c = 0 ∧ i = 45) → (pI h' 0 45 (nI t.length)).1 c i = h'.1 c i := fun c i z => pI_x z
  refine ⟨x1.wr (by unfold LXc; omega), x2.wr (by unfold LXr; omega), x3.mv (fun c i _ => gC c i (by omega)) (fun c i _ => gR c i (by omega)), x4.mv (gC _ _ (by omega)) (funext fun i => gC _ _ (by omega)) (gR _ _ (by omega)) (funext fun i => gR _ _ (by omega)) (funext fun i => gR _ _ (by omega)) (funext fun i => gR _ _ (by omega)), x5.mv (gR _ _ (by omega)) (funext fun i => gR _ _ (by omega)), ?_, ?_, ?_, ?_, fun q m => x6.2.2.2.2 q (List.mem_cons_of_mem _ m)⟩
  · rw [pI_t, if_pos rfl]
  · rw [pI_t, if_pos rfl]
  · exact x6.2.2.1.2.cg (fun i _ => gC 25 i (by omega))
  · exact x6.2.2.2.1.2.cg (fun i _ => gR 23 i (by omega))
/-- a knot that waits, whatever is due -/
theorem wkn2 {fr : Nat} {u u' h h' : Hp} {K0 K : Kn} {n a j : Int32} {T : Int32 → Int32} {s w : Nat} {W H : List Nat} (x : LW0 fr u u' K0 n T a j h h' K s W H) (ct : CKT h h' s W) (wv : WV w) (w0 : ¬ w = 0) (c : ¬ s + nbW W = 64) : f_Lr_waitKnot TC h 24 (nI (tk0 w)) = some (0, psC (pI h 17 0 (nI (s + nbW W + 1))) W.length (nI (tk0 w))) ∧ f_Md_waitsFor TR (pI h' 0 48 (nI (s + nbW W + 1))) 0 (nI w) = some (psR (pI h' 0 48 (nI (s + nbW W + 1))) W.length (nI w)) ∧ LW0 fr u u' K0 n T a j (psC (pI h 17 0 (nI (s + nbW W + 1))) W.length (nI (tk0 w))) (psR (pI h' 0 48 (nI (s + nbW W + 1))) W.length (nI w)) K s (w :: W) H ∧ CKT (psC (pI h 17 0 (nI (s + nbW W + 1))) W.length (nI (tk0 w))) (psR (pI h' 0 48 (nI (s + nbW W + 1))) W.length (nI w)) s (w :: W) := by
  have l0 := x
  obtain ⟨x1, x2, x3, x4, x5, x6⟩ := x
  obtain ⟨⟨c1, c2, c3⟩, c4, c5, c6⟩ := ct
  have wl : W.length < 72 := by rw [lnW]; omega
  refine ⟨?_, ?_, ?_, ⟨?_, ?_, ?_⟩, ?_, ?_, ?_⟩
  · unfold f_Lr_waitKnot
    simp only [lyC]
    rw [c1, if_pos ((n64 c3).1.mpr c), nmd_q, nI_1, psCe (m := W.length) (by rw [pI_n (by decide)]; exact x6.1) wl, bnd_q]
  · exact psRe (m := W.length) (by rw [pI_t, if_neg (by decide)]; exact x6.2.1) (by omega)
  · exact LW0.psh (l0.mv rfl rfl (fun c i _ z => by rw [pI_x z]) (fun c i z => by rw [pI_x (by omega)])) wv
  · rw [psCx (by omega) (by omega), pI_t, if_pos rfl, nbc, if_neg w0]
    congr 1
    omega
  · rw [psRx (by omega) (by omega), pI_t, if_pos rfl, nbc, if_neg w0]
    congr 1
    omega
  · rw [nbc, if_neg w0]
    omega
  · rw [psCx (by omega) (by omega), pI_n (by decide), c4, obc, if_neg w0]
    congr 1
    omega
  · rw [psRx (by omega) (by omega), pI_t, if_neg (by decide), c5, obc, if_neg w0]
    congr 1
    omega
  · rw [obc, if_neg w0]
    omega
theorem rk3_all : ∀ k, k < 15 → 3 ≤ k → ((3 ≤ rkW k ↔ 3 < rkW k) ∧ 1 ≤ rkW k ∧ rkW k ≤ 6 ∧ (rkW k = 4 ↔ (5 ≤ k ∧ k ≤ 10)) ∧ (nI (tkn k) < 33 ↔ k < 5) ∧ (38 < nI (tkn k) ↔ 10 < k) ∧ ¬ nI (tkn k) = 0) := by decide +kernel
/-- a sign put to those that wait -/
theorem putS {fr : Nat} {u u' g g' : Hp} {K0 K : Kn} {n a j : Int32} {T : Int32 → Int32} {s k : Nat} {W H : List Nat} (x : LWS fr u u' K0 n T a j g g' K s W H 0) (hl : H.length = 1 + bnW W) (h3 : 3 ≤ k) (h14 : k ≤ 14) (aj : a < j) : BR fr u u' K0 n T a ((f_Lr_waitKnot TC (pI g 24 5 1) 24 (nI (tkn k))).bind fun r3 => some (r3.1, r3.2)) (jb_Md_signs_217 TR g' 0 (nI k)) := by
  have wv : WV k := .inr ⟨by omega, h14⟩
  have e10 : g'.1 0 10 = a := x.2.2.1.2.2.2.2.1
  have l1 : LW0 fr u u' K0 n T a j (pI g 24 5 1) g' K s W H := x.lo.mv rfl rfl (fun c i z1 z => by rw [pI_x (by omega)]) (fun _ _ _ => rfl)
  have ct : CKT (pI g 24 5 1) g' s W := x.2.2.2.2.2.2.1.mv (by rw [pI_n (by decide)]) (by rw [pI_t, if_neg (by decide)]) rfl rfl
  have c3 := ct.1.2.2
  obtain ⟨r1, -⟩ := rk3_all k (by omega) h3
  unfold jb_Md_signs_217 jb_Md_signs_250
  simp only [nmd_q]
  rw [cntR ct.1.2.1 c3 e10]
  by_cases c : s + nbW W = 64
  · rw [if_pos c, bnd_q, if_pos rfl]
    refine .inl ⟨2, _, _, ?_, by decide, rfl, lfo l1.1 l1.2.1 l1.2.2.1 2⟩
    unfold f_Lr_waitKnot
    simp only [lyC]
    rw [ct.1.1, if_neg (fun z => (n64 c3).1.mp z c), bnd_q]
  · obtain ⟨w1, w2, w3, w4⟩ := wkn2 l1 ct wv (show ¬ k = 0 by omega) c
    have et : tk0 k = tkn k := by unfold tk0; exact if_neg (by omega)
    rw [et] at w1 w3 w4
    rw [if_neg c, w1, bnd_q, bnd_q]
    simp only [fst_q, snd_q]
    rw [if_neg (show ¬ (1 : Int32) = 0 by decide), w2, bnd_q, rkR wv, pZ_ok (show bit 0 = true by decide), pZ_ok (show bit 1 = true by decide), bnd_q, bnd_q]
    have fin : ∀ v : Int32, (v = 0 ↔ 3 < rkW k) → BR fr u u' K0 n T a (some (0, psC (pI (pI g 24 5 1) 17 0 (nI (s + nbW W + 1))) W.length (nI (tkn k)))) ((f_Md_token TR (pI (pI (psR (pI g' 0 48 (nI (s + nbW W + 1))) W.length (nI k)) 0 49 1) 0 50 v) 0).bind fun r2 => some (1, r2)) := by
      intro v ev
      refine BR.ok (pd := 1) (LW0.hi (w3.mv (t' := pI (pI (psR (pI g' 0 48 (nI (s + nbW W + 1))) W.length (nI k)) 0 49 1) 0 50 v) rfl rfl (fun _ _ _ _ => rfl) (fun c i z => by rw [pI_x (by omega), pI_x (by omega)])) (w4.mv rfl rfl (by rw [pI_t, if_neg (by decide), pI_t, if_neg (by decide)]) (by rw [pI_t, if_neg (by decide), pI_t, if_neg (by decide)])) ?_ ?_) (.inr ⟨rfl, ?_, ?_⟩) aj rfl rfl
      · rw [psCx (by omega) (by omega), pI_n (by decide), pI_t, if_pos rfl]
      · rw [pI_t, if_neg (by decide), pI_t, if_pos rfl]
      · rw [hl, bnc, if_pos h3]
      · rw [pI_t, if_pos rfl]
        exact ev
    by_cases q : 3 ≤ rkW k
    · rw [if_pos q]
      exact fin 0 ⟨fun _ => r1.mp q, fun _ => rfl⟩
    · rw [if_neg q]
      exact fin 1 ⟨fun z => absurd z (by decide), fun z => absurd (r1.mpr z) q⟩
theorem tsign {fr : Nat} {u u' h h' : Hp} {K0 K : Kn} {n a j : Int32} {T : Int32 → Int32} {s : Nat} {W H : List Nat} (x : LWS fr u u' K0 n T a j h h' K s W H 0) (i : H.length = 1 + bnW W) : BR fr u u' K0 n T a (f_Lr_takeSign TC h 24) (f_Md_signs TR h' 0) := by
  have wl := x.wl
  have sc := x.2.2.1
  have f := x.1
  have f' := x.2.1
  obtain ⟨-, -, -, -, -, -, -, -, -, k32⟩ := sc.k2
  have e10 : h'.1 0 10 = a := sc.2.2.2.2.1
  have aj : ¬ h.1 22 0 = 0 → a < j := fun z => sc.2.2.2.2.2.2.2.2.1.resolve_left z
  obtain ⟨⟨c1, c2, c3⟩, c4, c5, c6⟩ := x.2.2.2.2.2.2.1
  have o0 : nI (obW W) ≤ 0 ↔ obW W = 0 := (nI_leI (b := 0) (by omega) (by omega)).trans (by omega)
  have eC : f_Lr_takeSign TC h 24 = if h.1 22 0 = 32 ∧ ¬ obW W = 0 then ((f_Lr_settle TC h 24 1).bind fun r2 => some (0, pI (pI r2 24 3 (mxI 0 (r2.1 24 3 - 1))) 24 4 ((pI r2 24 3 (mxI 0 (r2.1 24 3 - 1))).1 24 4 - 1))) else jb_Lr_takeSign_52 TC h 24 (h.1 22 0) := by
    unfold f_Lr_takeSign
    simp only [nmd_q, lyC]
    rw [c4]
    by_cases p : h.1 22 0 = 32
    · by_cases q : obW W = 0
      · rw [if_pos p, if_pos (o0.mpr q), if_neg (fun z => z.2 q)]
      · rw [if_pos p, if_neg (fun z => q (o0.mp z)), if_pos ⟨p, q⟩]
    · rw [if_neg p, if_neg (fun z => p z.1)]
  have eR : f_Md_signs TR h' 0 = if h.1 22 0 = 32 ∧ ¬ obW W = 0 then ((f_Md_bind TR h' 0 1).bind fun r2 => (f_Md_token TR (pI (pI r2 0 45 (r2.1 0 45 - 1)) 0 47 ((pI r2 0 45 (r2.1 0 45 - 1)).1 0 47 - 1)) 0).bind fun r5 => some (1, r5)) else jb_Md_signs_147 TR h' 0 (selS (h'.1 0 8) (h'.1 0 9)) := by
    unfold f_Md_signs
    simp only [nmd_q, isg]
    rw [c5, selE]
    by_cases p : h.1 22 0 = 32
    · rw [if_pos (k32.mp p), if_neg (show ¬ (1 : Int32) = 0 by decide)]
      by_cases q : obW W = 0
      · rw [if_pos (o0.mpr q), if_neg (fun z => z.2 q)]
      · rw [if_neg (fun z => q (o0.mp z)), if_pos ⟨p, q⟩]
    · rw [if_neg (fun z => p (k32.mpr z)), if_pos rfl, if_neg (fun z => p z.1)]
  rw [eC, eR]
  by_cases d : h.1 22 0 = 32 ∧ ¬ obW W = 0
  · rw [if_pos d, if_pos d]
    obtain ⟨g, g', K2, s2, W2, H2, q1, q2, q3, q4, q5, q6, q7⟩ := stlC (r := 1) (by decide) x i
    rw [q1, q2, bnd_q, bnd_q]
    obtain ⟨t, rfl⟩ : ∃ t, W2 = 0 :: t := by
      rcases q7 with rfl | ⟨w, t, rfl, q⟩
      · exact absurd q5.symm d.2
      · have := (rk0 (q3.2.2.2.2.2.1.2.2.2.2 w (List.mem_cons_self ..))).mp q
        exact ⟨t, by rw [this]⟩
    have ww := q3.2.2.2.2.2.1
    have wl2 := q3.wl
    rw [List.length_cons] at wl2
    obtain ⟨⟨p1, p2, p3⟩, p4, p5, p6⟩ := q3.2.2.2.2.2.2.1
    obtain ⟨t1, t2, -⟩ := tpC ww (by omega)
    obtain ⟨t3, t4, -⟩ := tpR ww (by omega)
    have ob : obW (0 :: t) = obW t + 1 := by rw [obc, if_pos rfl]; omega
    have nb : nbW (0 :: t) = nbW t := by rw [nbc, if_pos rfl]; omega
    have mx : mxI 0 (nI t.length) = nI t.length := by
      rw [mx_ab]
      by_cases z : nI t.length ≤ 0
      · have := nI_pos' (n := t.length) (by omega)
        rw [if_pos z]
        lia
      · rw [if_neg z]
    rw [t2, t4, mx, pI_t, if_neg (by decide), pI_t, if_neg (by decide), p4, p5, ob, nI_pred]
    refine BR.ok (pd := 0) (LW0.hi (LW0.mv q3.lo.pop (t := pI (pI g 24 3 (nI t.length)) 24 4 (nI (obW t))) (t' := pI (pI g' 0 45 (nI t.length)) 0 47 (nI (obW t))) rfl rfl (fun c i z1 z => by rw [pI_x (by omega)]) (fun c i z => by rw [pI_x (by omega)])) ⟨⟨?_, ?_, ?_⟩, ?_, ?_, ?_⟩ ?_ ?_) (.inl ⟨rfl, ?_⟩) (aj (by rw [d.1]; decide)) rfl rfl
    · rw [pI_n (by decide), pI_n (by decide), p1, nb]
    · rw [pI_t, if_neg (by decide), pI_t, if_neg (by decide), p2, nb]
    · rw [← nb]
      exact p3
    · rw [pI_t, if_pos rfl]
    · rw [pI_t, if_pos rfl]
    · omega
    · rw [pI_t, if_neg (by decide), pI_t, if_neg (by decide)]
      exact q3.2.2.2.2.2.2.2.1
    · rw [pI_t, if_neg (by decide), pI_t, if_neg (by decide)]
      exact q3.2.2.2.2.2.2.2.2
    · rw [q4, bnc, if_neg (by decide)]
      omega
  rw [if_neg d, if_neg d]
  clear eC eR d
  rcases opk sc with ⟨k, h3, h14, ek, es⟩ | ⟨st, es⟩
  · obtain ⟨r1, r2, r3, r4, r5, r6, r7⟩ := rk3_all k (by omega) h3
    have wv : WV k := .inr ⟨by omega, h14⟩
    have et : tk0 k = tkn k := by unfold tk0; exact if_neg (by omega)
    have n22 : ¬ nI (tkn k) = 22 := fun z => by have := (ntk (by omega) h14).2.2.2.mp z; omega
    have aj' : a < j := aj (by rw [ek]; exact r7)
    have eS : ∀ p : Hp, f_Lr_strengthOf TC p (nI (tkn k)) = rkW k := fun p => by rw [← et]; exact rkC wv
    have nk0 : ¬ nI k = 0 := nI_ne0 (by omega) (by omega)
    rw [es, ek]
    unfold jb_Lr_takeSign_52 jb_Lr_takeSign_92 jb_Lr_takeSign_93 jb_Lr_takeSign_108 jb_Md_signs_147 jb_Md_signs_175
    simp only [nmd_q]
    rw [eS, if_neg (show ¬ rkW k = 0 by lia), if_neg n22, if_neg nk0, rkR wv]
    by_cases c : rkW k = 4
    · have c5' := r4.mp c
      rw [if_pos c]
      obtain ⟨g, g', K2, s2, W2, H2, q1, q2, q3, q4, q5, q6, q7⟩ := stlC (r := 5) (by decide) x i
      have ww := q3.2.2.2.2.2.1
      have wl2 := q3.wl
      rw [c, show (4 : Int32) + 1 = 5 by decide, q1, q2, bnd_q, bnd_q, if_neg (show ¬ nI (tkn k) < 33 from fun z => by have := r5.mp z; omega), if_neg (show ¬ 38 < nI (tkn k) from fun z => by have := r6.mp z; omega), if_neg (show ¬ (1 : Int32) = 0 by decide), tpT ww wl2, bnd_q, rkR wv, c, if_pos rfl]
      have g10 : g'.1 0 10 = a := q3.2.2.1.2.2.2.2.1
      by_cases t4 : tpS W2 = 4
      · obtain ⟨w, t, rfl, hw⟩ : ∃ w t, W2 = w :: t ∧ rkW w = 4 := by
          cases W2 with
          | nil => exact absurd t4 (show ¬ (0 : Int32) = 4 by decide)
          | cons w t => exact ⟨w, t, rfl, t4⟩
        rw [List.length_cons] at wl2
        obtain ⟨u1, u2, u3⟩ := tpR ww (by omega)
        simp only [lyR]
        rw [if_pos t4, if_neg u1, u2, u3, bnd_q, rkR (ww.2.2.2.2 w (List.mem_cons_self ..)), if_pos hw, faR0 g10]
        simp only [fst_q, snd_q, cz0, bnd_q]
        exact BR.no q3.1 q3.2.1 q3.2.2.1 (k := 1) (by decide) (.inl rfl) rfl rfl
      · have lt4 : W2 = [] ∨ ∃ w t, W2 = w :: t ∧ rkW w < 4 := by
          rcases q7 with z | ⟨w, t, z, q⟩
          · exact .inl z
          · rw [z] at t4
            exact .inr ⟨w, t, z, by have : ¬ rkW w = 4 := t4; lia⟩
        have eq : f_Lr_settle TC g 24 4 = some g := by
          unfold f_Lr_settle
          exact (stop_ (by decide) ww wl2 lt4 _).1
        have eR2 : (if g'.1 0 45 ≤ 0 then jb_Md_signs_217 TR g' 0 (nI k) else (rI TR g' (lay TR 0 43) (g'.1 0 45 - 1)).bind fun x3 => if f_Md_rank TR g' x3 = 4 then (cZ (f_Md_wrong TR g' 0 1).1).bind fun x6 => some (x6, (f_Md_wrong TR g' 0 1).2) else jb_Md_signs_217 TR g' 0 (nI k)) = jb_Md_signs_217 TR g' 0 (nI k) := by
          cases W2 with
          | nil => rw [ww.2.1, if_pos (by decide)]
          | cons w t =>
            rw [List.length_cons] at wl2
            obtain ⟨u1, u2, u3⟩ := tpR ww (by omega)
            simp only [lyR]
            rw [if_neg u1, u2, u3, bnd_q, rkR (ww.2.2.2.2 w (List.mem_cons_self ..)), if_neg (show ¬ rkW w = 4 from t4)]
        rw [if_neg t4, eq, bnd_q, eR2]
        exact putS q3 q4 h3 h14 aj'
    · rw [if_neg c]
      obtain ⟨p, g, g', K2, s2, W2, H2, q0, q1, q2, q3, q4, q5, q6, q7⟩ := stl2 (r := rkW k) r2 (by lia) x i
      rw [q0, q2, bnd_q, bnd_q, rkR wv, if_neg c]
      have cc : (if nI (tkn k) < 33 then (if (0 : Int32) = 0 then (f_Lr_settle TC p 24 (rkW k)).bind fun r1 => (f_Lr_waitKnot TC (pI r1 24 5 1) 24 (nI (tkn k))).bind fun r3 => some (r3.1, r3.2) else (f_Lr_topStrength TC p 24).bind fun r1 => if r1 = rkW k then some (1, p) else (f_Lr_settle TC p 24 (rkW k)).bind fun r1 => (f_Lr_waitKnot TC (pI r1 24 5 1) 24 (nI (tkn k))).bind fun r3 => some (r3.1, r3.2)) else if 38 < nI (tkn k) then (if (0 : Int32) = 0 then (f_Lr_settle TC p 24 (rkW k)).bind fun r1 => (f_Lr_waitKnot TC (pI r1 24 5 1) 24 (nI (tkn k))).bind fun r3 => some (r3.1, r3.2) else (f_Lr_topStrength TC p 24).bind fun r1 => if r1 = rkW k then some (1, p) else (f_Lr_settle TC p 24 (rkW k)).bind fun r1 => (f_Lr_waitKnot TC (pI r1 24 5 1) 24 (nI (tkn k))).bind fun r3 => some (r3.1, r3.2)) else (if (1 : Int32) = 0 then (f_Lr_settle TC p 24 (rkW k)).bind fun r1 => (f_Lr_waitKnot TC (pI r1 24 5 1) 24 (nI (tkn k))).bind fun r3 => some (r3.1, r3.2) else (f_Lr_topStrength TC p 24).bind fun r1 => if r1 = rkW k then some (1, p) else (f_Lr_settle TC p 24 (rkW k)).bind fun r1 => (f_Lr_waitKnot TC (pI r1 24 5 1) 24 (nI (tkn k))).bind fun r3 => some (r3.1, r3.2))) = (f_Lr_waitKnot TC (pI g 24 5 1) 24 (nI (tkn k))).bind fun r3 => some (r3.1, r3.2) := by
        rw [q1, bnd_q, if_pos rfl]
        by_cases l : nI (tkn k) < 33
        · rw [if_pos l]
        · rw [if_neg l, if_pos (r6.mpr (by
            have a1 : ¬ k < 5 := fun z => l (r5.mpr z)
            have a2 : ¬ (5 ≤ k ∧ k ≤ 10) := fun z => c (r4.mpr z)
            omega))]
      refine Eq.mpr (congrArg (fun z => BR fr u u' K0 n T a z (jb_Md_signs_217 TR g' 0 (nI k))) cc) ?_
      exact putS q3 q4 h3 h14 aj'
  · rw [es]
    unfold jb_Md_signs_147
    simp only [nmd_q]
    rw [if_pos trivial, faR0 e10]
    simp only [fst_q, snd_q, cz0, bnd_q]
    refine BR.no f f' sc (k := 1) (by decide) (.inl rfl) ?_ rfl
    unfold jb_Lr_takeSign_52
    simp only [nmd_q]
    by_cases z : f_Lr_strengthOf TC h (h.1 22 0) = 0
    · rw [if_pos z]
    · rw [if_neg z, if_pos (st.resolve_left z)]
