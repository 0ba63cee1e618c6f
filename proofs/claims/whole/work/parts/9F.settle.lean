/-! laws as they are read: the signs that wait -/
def tk0 (k : Nat) : Nat := if k = 0 then 31 else tkn k
def WV (k : Nat) : Prop := k = 0 ∨ (2 ≤ k ∧ k ≤ 14)
def rkW (k : Nat) : Int32 := if k = 0 then 0 else if k = 2 then 3 else if k = 3 then 2 else if k = 4 then 1 else if k ≤ 10 then 4 else if k ≤ 12 then 5 else 6
theorem rk_all : ∀ k, k < 15 → (k = 0 ∨ 2 ≤ k) → f_Lr_strengthOf TC h00 (nI (tk0 k)) = rkW k ∧ f_Md_rank TR h00 (nI k) = rkW k ∧ (rkW k < 1 ↔ k = 0) := by decide +kernel
theorem rkC {h : Hp} {k : Nat} (x : WV k) : f_Lr_strengthOf TC h (nI (tk0 k)) = rkW k := (rk_all k (by unfold WV at x; omega) (by unfold WV at x; omega)).1
theorem rkR {h : Hp} {k : Nat} (x : WV k) : f_Md_rank TR h (nI k) = rkW k := (rk_all k (by unfold WV at x; omega) (by unfold WV at x; omega)).2.1
theorem rk0 {k : Nat} (x : WV k) : rkW k < 1 ↔ k = 0 := (rk_all k (by unfold WV at x; omega) (by unfold WV at x; omega)).2.2
def nbW : List Nat → Nat
  | [] => 0
  | w :: t => (if w = 0 then 0 else 1) + nbW t
def obW : List Nat → Nat
  | [] => 0
  | w :: t => (if w = 0 then 1 else 0) + obW t
def bnW : List Nat → Nat
  | [] => 0
  | w :: t => (if 3 ≤ w then 1 else 0) + bnW t
theorem nbc {w : Nat} {t : List Nat} : nbW (w :: t) = (if w = 0 then 0 else 1) + nbW t := rfl
theorem obc {w : Nat} {t : List Nat} : obW (w :: t) = (if w = 0 then 1 else 0) + obW t := rfl
theorem bnc {w : Nat} {t : List Nat} : bnW (w :: t) = (if 3 ≤ w then 1 else 0) + bnW t := rfl
theorem lnW : ∀ {W : List Nat}, W.length = nbW W + obW W
  | [] => rfl
  | w :: t => by
    rw [nbc, obc, List.length_cons, lnW]
    by_cases c : w = 0
    · rw [if_pos c, if_pos c]; omega
    · rw [if_neg c, if_neg c]; omega
def LXc (fr c s : Nat) : Prop := c = 22 ∨ c = 24 ∨ c = 25 ∨ c = 17 ∨ (c = 18 ∧ fr ≤ s)
def LXr (fr c s : Nat) : Prop := (c = 0 ∧ ((7 ≤ s ∧ s ≤ 11) ∨ s = 22 ∨ (45 ≤ s ∧ s ≤ 50))) ∨ c = 23 ∨ c = 24 ∨ (20 ≤ c ∧ c ≤ 22 ∧ 64 + fr ≤ s)
def FLc (fr : Nat) (u h : Hp) : Prop := h.2 = u.2 ∧ ∀ c s, ¬ LXc fr c s → h.1 c s = u.1 c s
def FLr (fr : Nat) (u h : Hp) : Prop := h.2 = u.2 ∧ ∀ c s, ¬ LXr fr c s → h.1 c s = u.1 c s
theorem FLc.wr {fr : Nat} {b h : Hp} {c s : Nat} {v : Int32} (x : FLc fr b h) (q : LXc fr c s) : FLc fr b (pI h c s v) := ⟨by rw [pI_l]; exact x.1, fun d j z => by rw [pI_x (fun w => z (by rw [w.1, w.2]; exact q))]; exact x.2 d j z⟩
theorem FLr.wr {fr : Nat} {b h : Hp} {c s : Nat} {v : Int32} (x : FLr fr b h) (q : LXr fr c s) : FLr fr b (pI h c s v) := ⟨by rw [pI_l]; exact x.1, fun d j z => by rw [pI_x (fun w => z (by rw [w.1, w.2]; exact q))]; exact x.2 d j z⟩
theorem FLc.ap {fr s : Nat} {b h : Hp} {c : Int32} (x : FLc fr b h) (q : fr ≤ s) : FLc fr b (apC h s c) := by
  unfold apC
  exact (x.wr (by unfold LXc; omega)).wr (by unfold LXc; omega)
theorem FLr.ap {fr s m : Nat} {b h : Hp} {k p o : Int32} (x : FLr fr b h) (q : fr ≤ s) : FLr fr b (apR h s m k p o) := by
  unfold apR
  exact (((((x.wr (by unfold LXr; omega)).wr (by unfold LXr; omega)).wr (by unfold LXr; omega)).wr (by unfold LXr; omega)).wr (by unfold LXr; omega)).wr (by unfold LXr; omega)
def WT (h h' : Hp) (W : List Nat) : Prop := h.1 24 3 = nI W.length ∧ h'.1 0 45 = nI W.length ∧ stI (h.1 25) (fun w => nI (tk0 w)) W ∧ stI (h'.1 23) nI W ∧ ∀ w ∈ W, WV w
theorem WT.mv {h h' t t' : Hp} {W : List Nat} (x : WT h h' W) (g1 : t.1 24 3 = h.1 24 3) (g2 : t.1 25 = h.1 25) (g3 : t'.1 0 45 = h'.1 0 45) (g4 : t'.1 23 = h'.1 23) : WT t t' W := by
  unfold WT at *
  rw [g1, g2, g3, g4]
  exact x
def CKT (h h' : Hp) (s : Nat) (W : List Nat) : Prop := (h.1 17 0 = nI (s + nbW W) ∧ h'.1 0 48 = nI (s + nbW W) ∧ s + nbW W ≤ 64) ∧ h.1 24 4 = nI (obW W) ∧ h'.1 0 47 = nI (obW W) ∧ obW W ≤ 8
theorem CKT.mv {h h' t t' : Hp} {s : Nat} {W : List Nat} (x : CKT h h' s W) (g1 : t.1 17 0 = h.1 17 0) (g2 : t.1 24 4 = h.1 24 4) (g3 : t'.1 0 48 = h'.1 0 48) (g4 : t'.1 0 47 = h'.1 0 47) : CKT t t' s W := by
  unfold CKT at *
  rw [g1, g2, g3, g4]
  exact x
/-- in the midst of a law -/
def LWS (fr : Nat) (u u' : Hp) (K0 : Kn) (n : Int32) (T : Int32 → Int32) (a j : Int32) (h h' : Hp) (K : Kn) (s : Nat) (W H : List Nat) (pd : Int32) : Prop :=
  FLc fr u h ∧ FLr fr u' h' ∧ Scn h h' n T a j ∧ KSb h h' fr K0 K s H ∧ HS h' H ∧ WT h h' W ∧ CKT h h' s W ∧ (h.1 24 5 = pd ∧ h'.1 0 49 = pd)
theorem tpC {h h' : Hp} {w : Nat} {t : List Nat} (x : WT h h' (w :: t)) (q : t.length < 72) : (¬ h.1 24 3 ≤ 0) ∧ h.1 24 3 - 1 = nI t.length ∧ rI TC h 25 (nI t.length) = some (nI (tk0 w)) := by
  obtain ⟨x1, -, x2, -⟩ := x
  rw [List.length_cons] at x1
  refine ⟨?_, ?_, ?_⟩
  · rw [x1]
    exact nI_nle (by omega) (by omega)
  · rw [x1, nI_pred]
  · rw [rI_ok alL.2.2.2.1 q (by decide), x2.1]
theorem tpR {h h' : Hp} {w : Nat} {t : List Nat} (x : WT h h' (w :: t)) (q : t.length < 72) : (¬ h'.1 0 45 ≤ 0) ∧ h'.1 0 45 - 1 = nI t.length ∧ rI TR h' 23 (nI t.length) = some (nI w) := by
  obtain ⟨-, x1, -, x2, -⟩ := x
  rw [List.length_cons] at x1
  refine ⟨?_, ?_, ?_⟩
  · rw [x1]
    exact nI_nle (by omega) (by omega)
  · rw [x1, nI_pred]
  · rw [rI_ok alL.2.2.2.2.2.2.2.2.2.2.1 (show t.length < 96 by omega) (by decide), x2.1]
theorem drR {h' : Hp} {a : Nat} {t : List Nat} (x : HS h' (a :: t)) (q : t.length < 96) : f_Md_dropHeld TR h' 0 = some (nI a, pI h' 0 46 (nI t.length)) ∧ HS (pI h' 0 46 (nI t.length)) t := by
  obtain ⟨x1, x2⟩ := x
  rw [List.length_cons] at x1
  refine ⟨?_, ?_, ?_⟩
  · unfold f_Md_dropHeld
    simp only [lyR]
    rw [nmd_q, x1, nI_pred, pI_t, if_pos rfl, rI_ok alL.2.2.2.2.2.2.2.2.2.2.2 q (by decide), bnd_q, pI_n (by decide), x2.1]
  · rw [pI_t, if_pos rfl]
  · rw [pI_f (by decide)]
    exact x2.2
theorem LWS.wl {fr : Nat} {u u' h h' : Hp} {K0 K : Kn} {n a j pd : Int32} {T : Int32 → Int32} {s : Nat} {W H : List Nat} (x : LWS fr u u' K0 n T a j h h' K s W H pd) : W.length ≤ 72 := by
  have c := x.2.2.2.2.2.2.1
  rw [lnW]
  have c1 := c.1.2.2
  have c2 := c.2.2.2
  omega
/-- one sign bound -/
theorem pops {fr : Nat} {u u' h h' : Hp} {K0 K : Kn} {n a j pd : Int32} {T : Int32 → Int32} {s w : Nat} {t H : List Nat} (x : LWS fr u u' K0 n T a j h h' K s (w :: t) H pd) (hw : 2 ≤ w) (hl : H.length = 1 + bnW (w :: t)) :
    ∃ g g' H2, (∀ m r, ¬ rkW w < r → lp_Lr_settle_0 TC (m + 1) h 24 r = lp_Lr_settle_0 TC m g 24 r) ∧ (∀ m r, ¬ rkW w < r → lp_Md_bind_0 TR (m + 1) h' 0 r = lp_Md_bind_0 TR m g' 0 r) ∧ LWS fr u u' K0 n T a j g g' (upK K s (w, 0)) (s + 1) t H2 pd ∧ H2.length = 1 + bnW t := by
  have wl := x.wl
  obtain ⟨x1, x2, x3, x4, x5, x6, x7, x8⟩ := x
  have wv : WV w := x6.2.2.2.2 w (List.mem_cons_self ..)
  have w14 : w ≤ 14 := by unfold WV at wv; omega
  have tl : t.length < 72 := by rw [List.length_cons] at wl; omega
  have s64 : s < 64 := by
    have := x7.1.2.2
    rw [nbc, if_neg (by omega)] at this
    omega
  have frs := x4.1.1
  have hH : H.length ≤ 64 := by
    have := hsl x4.2.2.2.2.2.2.2
    omega
  obtain ⟨c1, c2, c3⟩ := tpC x6 tl
  obtain ⟨r1, r2, r3⟩ := tpR x6 tl
  have cd : - nI (tk0 w) = cdOf (w, 0) := by
    unfold cdOf tk0
    rw [if_neg (by omega), if_neg (show ¬ w = 0 by omega), if_neg (show ¬ w = 1 by omega)]
  have eC : ∀ m r, ¬ rkW w < r → lp_Lr_settle_0 TC (m + 1) h 24 r = lp_Lr_settle_0 TC m (apC (pI h 24 3 (nI t.length)) s (cdOf (w, 0))) 24 r := by
    intro m r q
    simp only [lp_Lr_settle_0, lyC]
    rw [if_neg c1, c2, c3, bnd_q, nmd_q, rkC wv, if_neg q, nmd_q, pI_t, if_pos rfl, rI_ok alL.2.2.2.1 tl (by decide), bnd_q, pI_n (by decide), show h.1 25 t.length = nI (tk0 w) from x6.2.2.1.1, cd, apCe (by rw [pI_n (by decide)]; exact x4.2.1) s64, bnd_q]
  have eR : ∀ m r, ¬ rkW w < r → lp_Md_bind_0 TR (m + 1) h' 0 r = if nI w = 2 then jb_Md_bind_58 TR (lp_Md_bind_0 TR m) (pI h' 0 45 (nI t.length)) 0 r (nI w) (-1) else (f_Md_dropHeld TR (pI h' 0 45 (nI t.length)) 0).bind fun r5 => jb_Md_bind_58 TR (lp_Md_bind_0 TR m) r5.2 0 r (nI w) r5.1 := by
    intro m r q
    simp only [lp_Md_bind_0, lyR]
    rw [if_neg r1, r2, r3, bnd_q, nmd_q, rkR wv, if_neg q, nmd_q, pI_t, if_pos rfl, rI_ok alL.2.2.2.2.2.2.2.2.2.2.1 (show t.length < 96 by omega) (by decide), bnd_q, pI_n (by decide), show h'.1 23 t.length = nI w from x6.2.2.2.1.1]
  have k4 : KSb (pI h 24 3 (nI t.length)) (pI h' 0 45 (nI t.length)) fr K0 K s H := x4.mv (by rw [pI_n (by decide)]) (by rw [pI_f (by decide)]) (by rw [pI_t, if_neg (by decide)]) (by rw [pI_f (by decide)]) (by rw [pI_f (by decide)]) (by rw [pI_f (by decide)])
  have k5 : HS (pI h' 0 45 (nI t.length)) H := x5.mv (by rw [pI_t, if_neg (by decide)]) (by rw [pI_f (by decide)])
  have e2 : (nI w = 2) ↔ w = 2 := nI_eq (b := 2) (by omega) (by omega)
  have fin : ∀ (d' : Hp) (t2 : List Nat) (p o : Int32), d' = pI (pI h' 0 45 (nI t.length)) 0 46 (nI t2.length) → KSb (apC (pI h 24 3 (nI t.length)) s (cdOf (w, 0))) (apR d' s t2.length (nI w) p o) fr K0 (upK K s (w, 0)) (s + 1) (s :: t2) → HS (apR d' s t2.length (nI w) p o) (s :: t2) → LWS fr u u' K0 n T a j (apC (pI h 24 3 (nI t.length)) s (cdOf (w, 0))) (apR d' s t2.length (nI w) p o) (upK K s (w, 0)) (s + 1) t (s :: t2) pd := by
    intro d' t2 p o ed y1 y2
    subst ed
    have gC : ∀ c i, ¬ (c = 18 ∧ i = s) → ¬ (c = 17 ∧ i = 1) → ¬ (c = 24 ∧ i = 3) → (apC (pI h 24 3 (nI t.length)) s (cdOf (w, 0))).1 c i = h.1 c i := fun c i a1 a2 a3 => by rw [apCx a1 a2, pI_x a3]
    have gR : ∀ c i, ¬ (20 ≤ c ∧ c ≤ 22 ∧ i = 64 + s) → ¬ (c = 24 ∧ i = t2.length) → ¬ (c = 0 ∧ (i = 46 ∨ i = 22 ∨ i = 45)) → (apR (pI (pI h' 0 45 (nI t.length)) 0 46 (nI t2.length)) s t2.length (nI w) p o).1 c i = h'.1 c i := fun c i a1 a2 a3 => by rw [apRx a1 a2 (by omega), pI_x (by omega), pI_x (by omega)]
    refine ⟨(x1.wr (by unfold LXc; omega)).ap frs, ((x2.wr (by unfold LXr; omega)).wr (by unfold LXr; omega)).ap frs, x3.mv (fun c i _ => gC c i (by omega) (by omega) (by omega)) (fun c i _ => gR c i (by omega) (by omega) (by omega)), y1, y2, ⟨?_, ?_, ?_, ?_, fun q m => x6.2.2.2.2 q (List.mem_cons_of_mem _ m)⟩, ?_, ?_, ?_⟩
    · rw [apCx (by omega) (by omega), pI_t, if_pos rfl]
    · unfold apR
      rw [pI_t, if_neg (by decide), pI_t, if_neg (by decide), pI_n (by decide), pI_n (by decide), pI_n (by decide), pI_n (by decide), pI_t, if_neg (by decide), pI_t, if_pos rfl]
    · exact x6.2.2.1.2.cg (fun i _ => gC 25 i (by omega) (by omega) (by omega))
    · exact x6.2.2.2.1.2.cg (fun i _ => gR 23 i (by omega) (by omega) (by omega))
    · have z := x7
      unfold CKT at z ⊢
      rw [nbc, obc, if_neg (by omega), if_neg (by omega), show s + (1 + nbW t) = s + 1 + nbW t by omega, show 0 + obW t = obW t by omega] at z
      rw [gC 17 0 (by omega) (by omega) (by omega), gC 24 4 (by omega) (by omega) (by omega), gR 0 48 (by omega) (by omega) (by omega), gR 0 47 (by omega) (by omega) (by omega)]
      exact z
    · rw [gC 24 5 (by omega) (by omega) (by omega)]
      exact x8.1
    · rw [gR 0 49 (by omega) (by omega) (by omega)]
      exact x8.2
  by_cases q2 : w = 2
  · obtain ⟨b, t2, rfl⟩ : ∃ b t2, H = b :: t2 := by
      cases H with
      | nil => rw [List.length_nil] at hl; omega
      | cons b t2 => exact ⟨b, t2, rfl⟩
    rw [List.length_cons] at hH hl
    obtain ⟨d1, d2⟩ := drR k5 (show t2.length < 96 by omega)
    have kk := kapp (p := nI b) (o := -1) (k := w) (v := 0) (h' := pI (pI h' 0 45 (nI t.length)) 0 46 (nI t2.length)) (k4.mv rfl rfl (by rw [pI_t, if_neg (by decide)]) (by rw [pI_f (by decide)]) (by rw [pI_f (by decide)]) (by rw [pI_f (by decide)])) s64 w14 ⟨fun c => absurd c (by omega), fun c => absurd c (by omega)⟩ d2.2 (fun c => absurd c (by omega)) (fun _ => ⟨b, rfl, rfl⟩) (fun c => absurd c (by omega))
    refine ⟨_, _, _, eC, fun m r q => ?_, fin _ t2 (nI b) (-1) rfl kk.1 kk.2, ?_⟩
    · rw [eR m r q, if_pos (e2.mpr q2)]
      unfold jb_Md_bind_58
      rw [d1, bnd_q]
      simp only [fst_q, snd_q]
      rw [apRe (by rw [pI_t, if_neg (by decide), pI_t, if_neg (by decide)]; exact x4.2.2.1) s64 d2.1 (by omega), bnd_q]
    · rw [bnc, if_neg (by omega)] at hl
      rw [List.length_cons]
      omega
  · rw [bnc, if_pos (by omega)] at hl
    obtain ⟨b, c, t2, rfl⟩ : ∃ b c t2, H = b :: c :: t2 := by
      cases H with
      | nil => rw [List.length_nil] at hl; omega
      | cons b t2 => cases t2 with
        | nil => rw [List.length_cons, List.length_nil] at hl; omega
        | cons c t2 => exact ⟨b, c, t2, rfl⟩
    rw [List.length_cons, List.length_cons] at hH hl
    obtain ⟨d1, d2⟩ := drR k5 (show (c :: t2).length < 96 by rw [List.length_cons]; omega)
    obtain ⟨d3, d4⟩ := drR d2 (show t2.length < 96 by omega)
    have eo : pI (pI (pI h' 0 45 (nI t.length)) 0 46 (nI (c :: t2).length)) 0 46 (nI t2.length) = pI (pI h' 0 45 (nI t.length)) 0 46 (nI t2.length) := by
      refine Prod.ext ?_ rfl
      funext d i
      by_cases z : d = 0 ∧ i = 46
      · rw [z.1, z.2, pI_t, if_pos rfl, pI_t, if_pos rfl]
      · rw [pI_x z, pI_x z, pI_x z]
    rw [eo] at d3 d4
    have kk := kapp (p := nI c) (o := nI b) (k := w) (v := 0) (h' := pI (pI h' 0 45 (nI t.length)) 0 46 (nI t2.length)) (k4.mv rfl rfl (by rw [pI_t, if_neg (by decide)]) (by rw [pI_f (by decide)]) (by rw [pI_f (by decide)]) (by rw [pI_f (by decide)])) s64 w14 ⟨fun c => absurd c (by omega), fun c => absurd c (by omega)⟩ d4.2 (fun c => absurd c (by omega)) (fun z => absurd z q2) (fun _ => ⟨c, b, rfl, rfl, rfl⟩)
    refine ⟨_, _, _, eC, fun m r q => ?_, fin _ t2 (nI c) (nI b) rfl kk.1 kk.2, ?_⟩
    · rw [eR m r q, if_neg (fun z => q2 (e2.mp z)), d1, bnd_q]
      unfold jb_Md_bind_58
      simp only [fst_q, snd_q]
      rw [d3, bnd_q]
      simp only [fst_q, snd_q]
      rw [apRe (by rw [pI_t, if_neg (by decide), pI_t, if_neg (by decide)]; exact x4.2.2.1) s64 d4.1 (by omega), bnd_q]
    · rw [List.length_cons]
      omega
/-- nothing to bind -/
theorem stop_ {h h' : Hp} {W : List Nat} {r : Int32} (hr : 1 ≤ r) (x : WT h h' W) (wl : W.length ≤ 72) (c : W = [] ∨ ∃ w t, W = w :: t ∧ rkW w < r) (m : Nat) : lp_Lr_settle_0 TC (m + 1) h 24 r = some h ∧ lp_Md_bind_0 TR (m + 1) h' 0 r = some h' := by
  rcases c with rfl | ⟨w, t, rfl, q⟩
  · refine ⟨?_, ?_⟩
    · simp only [lp_Lr_settle_0]
      rw [x.1, if_pos (by decide)]
    · simp only [lp_Md_bind_0]
      rw [x.2.1, if_pos (by decide)]
  · rw [List.length_cons] at wl
    have wv : WV w := x.2.2.2.2 w (List.mem_cons_self ..)
    obtain ⟨c1, c2, c3⟩ := tpC x (by omega)
    obtain ⟨r1, r2, r3⟩ := tpR x (by omega)
    refine ⟨?_, ?_⟩
    · simp only [lp_Lr_settle_0, lyC]
      rw [if_neg c1, c2, c3, bnd_q, nmd_q, rkC wv, if_pos q]
    · simp only [lp_Md_bind_0, lyR]
      rw [if_neg r1, r2, r3, bnd_q, nmd_q, rkR wv, if_pos q]
/-- signs bound down to a strength -/
theorem stl {fr : Nat} {u u' : Hp} {K0 : Kn} {n a j pd r : Int32} {T : Int32 → Int32} (hr : 1 ≤ r) : ∀ (W : List Nat) {h h' : Hp} {K : Kn} {s : Nat} {H : List Nat}, LWS fr u u' K0 n T a j h h' K s W H pd → H.length = 1 + bnW W →
    ∃ g g' K2 s2 W2 H2, (∀ m, W.length < m → lp_Lr_settle_0 TC m h 24 r = some g ∧ lp_Md_bind_0 TR m h' 0 r = some g') ∧ (∀ r0, r0 ≤ r → ∀ m, W.length < m → ∃ m2, W2.length < m2 ∧ lp_Md_bind_0 TR m h' 0 r0 = lp_Md_bind_0 TR m2 g' 0 r0) ∧ LWS fr u u' K0 n T a j g g' K2 s2 W2 H2 pd ∧ H2.length = 1 + bnW W2 ∧ obW W2 = obW W ∧ s2 + nbW W2 = s + nbW W ∧ (W2 = [] ∨ ∃ w t, W2 = w :: t ∧ rkW w < r)
  | [], h, h', K, s, H, x, hl => by
    refine ⟨h, h', K, s, [], H, fun m hm => ?_, fun r0 _ m hm => ⟨m, hm, rfl⟩, x, hl, rfl, rfl, .inl rfl⟩
    obtain ⟨m, rfl⟩ : ∃ q, m = q + 1 := ⟨m - 1, by rw [List.length_nil] at hm; omega⟩
    exact stop_ hr x.2.2.2.2.2.1 x.wl (.inl rfl) m
  | w :: t, h, h', K, s, H, x, hl => by
    have wl := x.wl
    have wv : WV w := x.2.2.2.2.2.1.2.2.2.2 w (List.mem_cons_self ..)
    by_cases q : rkW w < r
    · refine ⟨h, h', K, s, w :: t, H, fun m hm => ?_, fun r0 _ m hm => ⟨m, hm, rfl⟩, x, hl, rfl, rfl, .inr ⟨w, t, rfl, q⟩⟩
      obtain ⟨m, rfl⟩ : ∃ q, m = q + 1 := ⟨m - 1, by omega⟩
      exact stop_ hr x.2.2.2.2.2.1 wl (.inr ⟨w, t, rfl, q⟩) m
    · have w0 : ¬ w = 0 := fun z => q (by
        have := (rk0 wv).mpr z
        lia)
      have w2 : 2 ≤ w := by unfold WV at wv; omega
      obtain ⟨g, g', H2, e1, e2, y, yl⟩ := pops x w2 hl
      obtain ⟨p, p', K3, s3, W3, H3, q1, q2, q3, q4, q5, q6, q7⟩ := stl hr t y yl
      refine ⟨p, p', K3, s3, W3, H3, fun m hm => ?_, fun r0 hr0 m hm => ?_, q3, q4, ?_, ?_, q7⟩
      · obtain ⟨m, rfl⟩ : ∃ q, m = q + 1 := ⟨m - 1, by omega⟩
        rw [List.length_cons] at hm
        rw [e1 m r q, e2 m r q]
        exact q1 m (by omega)
      · obtain ⟨m, rfl⟩ : ∃ q, m = q + 1 := ⟨m - 1, by omega⟩
        rw [List.length_cons] at hm
        rw [e2 m r0 (by lia)]
        exact q2 r0 hr0 m (by omega)
      · rw [q5, obc, if_neg w0]
        omega
      · rw [q6, nbc, if_neg w0]
        omega
theorem stlC {fr : Nat} {u u' h h' : Hp} {K0 K : Kn} {n a j pd r : Int32} {T : Int32 → Int32} {s : Nat} {W H : List Nat} (hr : 1 ≤ r) (x : LWS fr u u' K0 n T a j h h' K s W H pd) (hl : H.length = 1 + bnW W) :
    ∃ g g' K2 s2 W2 H2, f_Lr_settle TC h 24 r = some g ∧ f_Md_bind TR h' 0 r = some g' ∧ LWS fr u u' K0 n T a j g g' K2 s2 W2 H2 pd ∧ H2.length = 1 + bnW W2 ∧ obW W2 = obW W ∧ s2 + nbW W2 = s + nbW W ∧ (W2 = [] ∨ ∃ w t, W2 = w :: t ∧ rkW w < r) := by
  unfold f_Lr_settle f_Md_bind
  obtain ⟨g, g', K2, s2, W2, H2, q1, -, q⟩ := stl hr W x hl
  have z := q1 fu (Nat.lt_of_le_of_lt x.wl (by decide))
  exact ⟨g, g', K2, s2, W2, H2, z.1, z.2, q⟩
/-- bound down to one strength, then to the next -/
theorem stl2 {fr : Nat} {u u' h h' : Hp} {K0 K : Kn} {n a j pd r : Int32} {T : Int32 → Int32} {s : Nat} {W H : List Nat} (hr : 1 ≤ r) (hr2 : r ≤ 9) (x : LWS fr u u' K0 n T a j h h' K s W H pd) (hl : H.length = 1 + bnW W) :
    ∃ f g g' K2 s2 W2 H2, f_Lr_settle TC h 24 (r + 1) = some f ∧ f_Lr_settle TC f 24 r = some g ∧ f_Md_bind TR h' 0 r = some g' ∧ LWS fr u u' K0 n T a j g g' K2 s2 W2 H2 pd ∧ H2.length = 1 + bnW W2 ∧ obW W2 = obW W ∧ s2 + nbW W2 = s + nbW W ∧ (W2 = [] ∨ ∃ w t, W2 = w :: t ∧ rkW w < r) := by
  unfold f_Lr_settle f_Md_bind
  obtain ⟨f, f', K2, s2, W2, H2, q1, q2, q3, q4, q5, q6, q7⟩ := stl (r := r + 1) (by lia) W x hl
  obtain ⟨g, g', K3, s3, W3, H3, p1, p2, p3, p4, p5, p6, p7⟩ := stl hr W2 q3 q4
  have z := q1 fu (Nat.lt_of_le_of_lt x.wl (by decide))
  have z2 := p1 fu (Nat.lt_of_le_of_lt q3.wl (by decide))
  obtain ⟨m2, z3, z4⟩ := q2 r (by lia) fu (Nat.lt_of_le_of_lt x.wl (by decide))
  exact ⟨f, g, g', K3, s3, W3, H3, z.1, z2.1, by rw [z4]; exact (p1 m2 z3).2, p3, p4, p5.trans q5, p6.trans q6, p7⟩
