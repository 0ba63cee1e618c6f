/-! laws as they are read: a part -/
def LW0 (fr : Nat) (u u' : Hp) (K0 : Kn) (n : Int32) (T : Int32 → Int32) (a j : Int32) (h h' : Hp) (K : Kn) (s : Nat) (W H : List Nat) : Prop :=
  FLc fr u h ∧ FLr fr u' h' ∧ Scn h h' n T a j ∧ KSb h h' fr K0 K s H ∧ HS h' H ∧ WT h h' W
theorem LWS.lo {fr : Nat} {u u' h h' : Hp} {K0 K : Kn} {n a j pd : Int32} {T : Int32 → Int32} {s : Nat} {W H : List Nat} (x : LWS fr u u' K0 n T a j h h' K s W H pd) : LW0 fr u u' K0 n T a j h h' K s W H := ⟨x.1, x.2.1, x.2.2.1, x.2.2.2.1, x.2.2.2.2.1, x.2.2.2.2.2.1⟩
theorem LW0.hi {fr : Nat} {u u' h h' : Hp} {K0 K : Kn} {n a j pd : Int32} {T : Int32 → Int32} {s : Nat} {W H : List Nat} (x : LW0 fr u u' K0 n T a j h h' K s W H) (c : CKT h h' s W) (p : h.1 24 5 = pd) (p' : h'.1 0 49 = pd) : LWS fr u u' K0 n T a j h h' K s W H pd := ⟨x.1, x.2.1, x.2.2.1, x.2.2.2.1, x.2.2.2.2.1, x.2.2.2.2.2, c, p, p'⟩
theorem LW0.mv {fr : Nat} {u u' h h' t t' : Hp} {K0 K : Kn} {n a j : Int32} {T : Int32 → Int32} {s : Nat} {W H : List Nat} (x : LW0 fr u u' K0 n T a j h h' K s W H) (e : t.2 = h.2) (e' : t'.2 = h'.2) (g : ∀ c i, ¬ (c = 24 ∧ (i = 4 ∨ i = 5)) → ¬ (c = 17 ∧ i = 0) → t.1 c i = h.1 c i) (g' : ∀ c i, ¬ (c = 0 ∧ 47 ≤ i ∧ i ≤ 50) → t'.1 c i = h'.1 c i) : LW0 fr u u' K0 n T a j t t' K s W H := by
  obtain ⟨x1, x2, x3, x4, x5, x6⟩ := x
  have gg : ∀ c, ¬ c = 24 → ¬ c = 17 → t.1 c = h.1 c := fun c a b => funext fun i => g c i (by omega) (by omega)
  have gg' : ∀ c, ¬ c = 0 → t'.1 c = h'.1 c := fun c a => funext fun i => g' c i (by omega)
  refine ⟨⟨e.trans x1.1, fun c i z => ?_⟩, ⟨e'.trans x2.1, fun c i z => ?_⟩, ?_, ?_, ?_, ?_⟩
  · rw [g c i (fun w => z (by unfold LXc; omega)) (fun w => z (by unfold LXc; omega))]
    exact x1.2 c i z
  · rw [g' c i (fun w => z (by unfold LXr; omega))]
    exact x2.2 c i z
  · exact x3.mv (fun c i _ => g c i (by omega) (by omega)) (fun c i _ => g' c i (by omega))
  · exact x4.mv (g 17 1 (by omega) (by omega)) (gg 18 (by decide) (by decide)) (g' 0 22 (by omega)) (gg' 20 (by decide)) (gg' 21 (by decide)) (gg' 22 (by decide))
  · exact x5.mv (g' 0 46 (by omega)) (gg' 24 (by decide))
  · exact x6.mv (g 24 3 (by omega) (by omega)) (gg 25 (by decide) (by decide)) (g' 0 45 (by omega)) (gg' 23 (by decide))
def psC (h : Hp) (m : Nat) (v : Int32) : Hp := pI (pI h 25 m v) 24 3 (nI (m + 1))
def psR (h : Hp) (m : Nat) (v : Int32) : Hp := pI (pI h 23 m v) 0 45 (nI (m + 1))
theorem psCe {h : Hp} {m : Nat} {v : Int32} (e : h.1 24 3 = nI m) (q : m < 72) : f_Lr_push TC h 24 v = some (0, psC h m v) := by
  unfold f_Lr_push psC
  simp only [lyC, alL]
  rw [e, if_pos (show nI m < Int32.ofNat 72 from nI_lt (b := 72) q (by decide)), wI_ok alL.2.2.2.1 q (by decide), bnd_q, nmd_q, pI_n (by decide), e, nI_1]
theorem psRe {h : Hp} {m : Nat} {v : Int32} (e : h.1 0 45 = nI m) (q : m < 96) : f_Md_waitsFor TR h 0 v = some (psR h m v) := by
  unfold f_Md_waitsFor psR
  simp only [lyR]
  rw [e, wI_ok alL.2.2.2.2.2.2.2.2.2.2.1 q (by decide), bnd_q, nmd_q, pI_n (by decide), e, nI_1]
theorem psCx {h : Hp} {m d i : Nat} {v : Int32} (z1 : ¬ (d = 25 ∧ i = m)) (z2 : ¬ (d = 24 ∧ i = 3)) : (psC h m v).1 d i = h.1 d i := by
  unfold psC
  rw [pI_x z2, pI_x z1]
theorem psRx {h : Hp} {m d i : Nat} {v : Int32} (z1 : ¬ (d = 23 ∧ i = m)) (z2 : ¬ (d = 0 ∧ i = 45)) : (psR h m v).1 d i = h.1 d i := by
  unfold psR
  rw [pI_x z2, pI_x z1]
theorem LW0.psh {fr : Nat} {u u' h h' : Hp} {K0 K : Kn} {n a j : Int32} {T : Int32 → Int32} {s w : Nat} {W H : List Nat} (x : LW0 fr u u' K0 n T a j h h' K s W H) (wv : WV w) : LW0 fr u u' K0 n T a j (psC h W.length (nI (tk0 w))) (psR h' W.length (nI w)) K s (w :: W) H := by
  obtain ⟨x1, x2, x3, x4, x5, x6⟩ := x
  refine ⟨(x1.wr (by unfold LXc; omega)).wr (by unfold LXc; omega), (x2.wr (by unfold LXr; omega)).wr (by unfold LXr; omega), x3.mv (fun c i _ => psCx (by omega) (by omega)) (fun c i _ => psRx (by omega) (by omega)), x4.mv (psCx (by omega) (by omega)) (funext fun i => psCx (by omega) (by omega)) (psRx (by omega) (by omega)) (funext fun i => psRx (by omega) (by omega)) (funext fun i => psRx (by omega) (by omega)) (funext fun i => psRx (by omega) (by omega)), x5.mv (psRx (by omega) (by omega)) (funext fun i => psRx (by omega) (by omega)), ?_, ?_, ⟨?_, ?_⟩, ⟨?_, ?_⟩, ?_⟩
  · unfold psC
    rw [pI_t, if_pos rfl]
    rfl
  · unfold psR
    rw [pI_t, if_pos rfl]
    rfl
  · unfold psC
    rw [pI_n (by decide), pI_t, if_pos rfl]
  · exact x6.2.2.1.cg (fun i q => psCx (by omega) (by omega))
  · unfold psR
    rw [pI_n (by decide), pI_t, if_pos rfl]
  · exact x6.2.2.2.1.cg (fun i q => psRx (by omega) (by omega))
  · intro q m
    rcases List.mem_cons.mp m with z | z
    · rw [z]; exact wv
    · exact x6.2.2.2.2 q z
/-- a leaf -/
theorem LW0.lf {fr : Nat} {u u' h h' : Hp} {K0 K : Kn} {n a j : Int32} {T : Int32 → Int32} {s k v : Nat} {W H : List Nat} (x : LW0 fr u u' K0 n T a j h h' K s W H) (s64 : s < 64) (hk : k ≤ 1) (kv : (k = 0 → v ≤ 9999) ∧ (k = 1 → v < 7)) :
    f_La_append TC h 17 (cdOf (k, v)) = some (apC h s (cdOf (k, v))) ∧ f_Md_grown TR h' 0 (nI k) (nI v) 0 = some (apR h' s H.length (nI k) (nI v) 0) ∧ LW0 fr u u' K0 n T a j (apC h s (cdOf (k, v))) (apR h' s H.length (nI k) (nI v) 0) (upK K s (k, v)) (s + 1) W (s :: H) := by
  obtain ⟨x1, x2, x3, x4, x5, x6⟩ := x
  have hH := hsl x4.2.2.2.2.2.2.2
  have frs := x4.1.1
  have kk := kapp (p := nI v) (o := 0) x4 s64 (show k ≤ 14 by omega) kv x5.2 (fun _ => ⟨rfl, rfl⟩) (fun c => absurd c (by omega)) (fun c => absurd c (by omega))
  refine ⟨apCe x4.2.1 s64, apRe x4.2.2.1 s64 x5.1 (by omega), x1.ap frs, x2.ap frs, x3.mv (fun c i _ => apCx (by omega) (by omega)) (fun c i _ => apRx (by omega) (by omega) (by omega)), kk.1, kk.2, x6.mv (apCx (by omega) (by omega)) (funext fun i => apCx (by omega) (by omega)) (apRx (by omega) (by omega) (by omega)) (funext fun i => apRx (by omega) (by omega) (by omega))⟩
/-- a token on -/
theorem LWS.st {fr : Nat} {u u' h h' : Hp} {K0 K : Kn} {n a j pd : Int32} {T : Int32 → Int32} {s : Nat} {W H : List Nat} (x : LWS fr u u' K0 n T a j h h' K s W H pd) : ∃ t t' a2 j2, f_Sc_step TC h 22 = some t ∧ f_Md_token TR h' 0 = some t' ∧ LWS fr u u' K0 n T a2 j2 t t' K s W H pd ∧ j ≤ a2 ∧ t'.1 0 50 = h'.1 0 50 := by
  obtain ⟨x1, x2, x3, x4, x5, x6, x7, x8⟩ := x
  obtain ⟨t, t', a2, j2, w1, w2, w3, w4, w5, w6⟩ := x3.st
  refine ⟨t, t', a2, j2, w1, w2, ⟨⟨w3.1.trans x1.1, fun c i z => ?_⟩, ⟨w4.1.trans x2.1, fun c i z => ?_⟩, w5, x4.mv (w3.2 _ _ (by omega)) (funext fun i => w3.2 _ _ (by omega)) (w4.2 _ _ (by omega)) (funext fun i => w4.2 _ _ (by omega)) (funext fun i => w4.2 _ _ (by omega)) (funext fun i => w4.2 _ _ (by omega)), x5.mv (w4.2 _ _ (by omega)) (funext fun i => w4.2 _ _ (by omega)), x6.mv (w3.2 _ _ (by omega)) (funext fun i => w3.2 _ _ (by omega)) (w4.2 _ _ (by omega)) (funext fun i => w4.2 _ _ (by omega)), x7.mv (w3.2 _ _ (by omega)) (w3.2 _ _ (by omega)) (w4.2 _ _ (by omega)) (w4.2 _ _ (by omega)), ?_, ?_⟩, w6, w4.2 _ _ (by omega)⟩
  · rw [w3.2 c i (fun w => z (by unfold LXc; omega))]
    exact x1.2 c i z
  · rw [w4.2 c i (fun w => z (by unfold LXr; omega))]
    exact x2.2 c i z
  · rw [w3.2 _ _ (by omega)]
    exact x8.1
  · rw [w4.2 _ _ (by omega)]
    exact x8.2
def tpS (W : List Nat) : Int32 := match W with
  | [] => 0
  | w :: _ => rkW w
def INW (h' : Hp) (W H : List Nat) (pd : Int32) : Prop := (pd = 0 ∧ H.length = 1 + bnW W) ∨ (pd = 1 ∧ H.length = bnW W ∧ (h'.1 0 50 = 0 ↔ 3 < tpS W))
def LF (fr : Nat) (u u' : Hp) (k : Int32) (g g' : Hp) : Prop := FLc fr u g ∧ FwQ u' g' ∧ g'.1 0 4 = k ∧ g.1 22 1 = g'.1 0 5
theorem FLr.Q {fr : Nat} {u h : Hp} (x : FLr fr u h) : FrQ u h := ⟨x.1, fun c s z => x.2 c s (fun w => z (by unfold LXr at w; unfold TXr; omega))⟩
theorem FLc.P {fr : Nat} {u h : Hp} (x : FLc fr u h) : FrP u h := ⟨x.1, fun c s z => x.2 c s (fun w => z (by unfold LXc at w; unfold TXc; omega))⟩
theorem lfo {fr : Nat} {u u' h h' : Hp} {n a j : Int32} {T : Int32 → Int32} (x : FLc fr u h) (y : FLr fr u' h') (s : Scn h h' n T a j) (k : Int32) : LF fr u u' k h (pI (pI h' 0 4 k) 0 5 a) := by
  refine ⟨x, FwQ.of y.Q, ?_, ?_⟩
  · rw [pI_t, if_neg (by decide), pI_t, if_pos rfl]
  · rw [pI_t, if_pos rfl]
    exact s.2.2.2.1
/-- one token of a law taken: both failed, or both went on -/
def BR (fr : Nat) (u u' : Hp) (K0 : Kn) (n : Int32) (T : Int32 → Int32) (a : Int32) (x y : Option (Int32 × Hp)) : Prop := (∃ k g g', x = some (k, g) ∧ ¬ k = 0 ∧ y = some (0, g') ∧ LF fr u u' k g g') ∨ (∃ g t t' K s W H pd a2 j2, x = some (0, g) ∧ f_Sc_step TC g 22 = some t ∧ y = some (1, t') ∧ LWS fr u u' K0 n T a2 j2 t t' K s W H pd ∧ INW t' W H pd ∧ a < a2)
theorem BR.ok {fr : Nat} {u u' g g' : Hp} {K0 K : Kn} {n a j pd : Int32} {T : Int32 → Int32} {s : Nat} {W H : List Nat} {x y : Option (Int32 × Hp)} (l : LWS fr u u' K0 n T a j g g' K s W H pd) (i : INW g' W H pd) (aj : a < j) (ex : x = some (0, g)) (ey : y = (f_Md_token TR g' 0).bind fun r => some (1, r)) : BR fr u u' K0 n T a x y := by
  obtain ⟨t, t', a2, j2, w1, w2, w3, w4, w5⟩ := l.st
  refine .inr ⟨g, t, t', K, s, W, H, pd, a2, j2, ex, w1, by rw [ey, w2, bnd_q], w3, ?_, by lia⟩
  unfold INW at *
  rw [w5]
  exact i
theorem BR.no {fr : Nat} {u u' h h' g : Hp} {K0 : Kn} {n a j : Int32} {T : Int32 → Int32} {x y : Option (Int32 × Hp)} {k : Int32} (f : FLc fr u h) (f' : FLr fr u' h') (s : Scn h h' n T a j) (k0 : ¬ k = 0) (eg : g = h ∨ g = pI h 24 5 0) (ex : x = some (k, g)) (ey : y = some (0, pI (pI h' 0 4 k) 0 5 a)) : BR fr u u' K0 n T a x y := by
  refine .inl ⟨k, g, _, ex, k0, ey, ?_⟩
  rcases eg with rfl | rfl
  · exact lfo f f' s k
  · exact lfo (f.wr (by unfold LXc; omega)) f' (s.mv (fun c i _ => by rw [pI_n (by omega)]) (fun _ _ _ => rfl)) k
theorem n64 {m : Nat} (h : m ≤ 64) : (nI m < 64 ↔ ¬ m = 64) ∧ (nI m = 64 ↔ m = 64) := ⟨(nI_ltI (b := 64) (by omega) (by omega)).trans (by omega), nI_eq (b := 64) (by omega) (by omega)⟩
theorem n8 {m : Nat} (h : m ≤ 8) : (nI m < 8 ↔ ¬ m = 8) ∧ (nI m = 8 ↔ m = 8) := ⟨(nI_ltI (b := 8) (by omega) (by omega)).trans (by omega), nI_eq (b := 8) (by omega) (by omega)⟩
/-- whether a knot more is counted -/
theorem cntR {h' : Hp} {a : Int32} {m : Nat} (e : h'.1 0 48 = nI m) (hm : m ≤ 64) (e10 : h'.1 0 10 = a) : f_Md_isCounted TR h' 0 = if m = 64 then some (0, pI (pI h' 0 4 2) 0 5 a) else some (1, pI h' 0 48 (nI (m + 1))) := by
  unfold f_Md_isCounted
  simp only [nmd_q, faR0 e10, cz0, bnd_q]
  rw [e, nI_1]
  by_cases c : m = 64
  · rw [if_pos ((n64 hm).2.mpr c), if_pos c]
  · rw [if_neg (fun z => c ((n64 hm).2.mp z)), if_neg c]
/-- a knot that waits -/
theorem wkn {fr : Nat} {u u' h h' : Hp} {K0 K : Kn} {n a j pd : Int32} {T : Int32 → Int32} {s w : Nat} {W H : List Nat} (x : LWS fr u u' K0 n T a j h h' K s W H pd) (wv : WV w) (w0 : ¬ w = 0) (c : ¬ s + nbW W = 64) : f_Lr_waitKnot TC h 24 (nI (tk0 w)) = some (0, psC (pI h 17 0 (nI (s + nbW W + 1))) W.length (nI (tk0 w))) ∧ f_Md_waitsFor TR (pI h' 0 48 (nI (s + nbW W + 1))) 0 (nI w) = some (psR (pI h' 0 48 (nI (s + nbW W + 1))) W.length (nI w)) ∧ LWS fr u u' K0 n T a j (psC (pI h 17 0 (nI (s + nbW W + 1))) W.length (nI (tk0 w))) (psR (pI h' 0 48 (nI (s + nbW W + 1))) W.length (nI w)) K s (w :: W) H pd := by
  have l0 := x.lo
  obtain ⟨x1, x2, x3, x4, x5, x6, ⟨⟨c1, c2, c3⟩, c4, c5, c6⟩, x8⟩ := x
  have wl : W.length < 72 := by rw [lnW]; omega
  refine ⟨?_, ?_, ?_⟩
  · unfold f_Lr_waitKnot
    simp only [lyC]
    rw [c1, if_pos ((n64 c3).1.mpr c), nmd_q, nI_1, psCe (m := W.length) (by rw [pI_n (by decide)]; exact x6.1) wl, bnd_q]
  · exact psRe (m := W.length) (by rw [pI_t, if_neg (by decide)]; exact x6.2.1) (by omega)
  · have l1 : LW0 fr u u' K0 n T a j (pI h 17 0 (nI (s + nbW W + 1))) (pI h' 0 48 (nI (s + nbW W + 1))) K s W H := l0.mv rfl rfl (fun c i _ z => by rw [pI_x z]) (fun c i z => by rw [pI_x (by omega)])
    refine (l1.psh wv).hi ⟨⟨?_, ?_, ?_⟩, ?_, ?_, ?_⟩ ?_ ?_
    · rw [psCx (by omega) (by omega), pI_t, if_pos rfl, nbc, if_neg w0]
      congr 1
      omega
    · rw [psRx (by omega) (by omega), pI_t, if_pos rfl, nbc, if_neg w0]
      congr 1
      omega
    · rw [nbc, if_neg w0]
      omega
    · rw [psCx (by omega) (by omega), pI_n (by decide), c4, obc, if_neg w0]
      congr 1
      omega
    · rw [psRx (by omega) (by omega), pI_t, if_neg (by decide), c5, obc, if_neg w0]
      congr 1
      omega
    · rw [obc, if_neg w0]
      omega
    · rw [psCx (by omega) (by omega), pI_n (by decide)]
      exact x8.1
    · rw [psRx (by omega) (by omega), pI_t, if_neg (by decide)]
      exact x8.2
