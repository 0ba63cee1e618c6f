/-! stops: both sides -/
theorem lfC {h : Hp} {P : Pl} {L : Lw} {M : Mo} {A : Aw} {T : Int32 → Int32} {i v b : Int32} (ok : POK P) (x : CH h P L M 45 A) (h0 : 0 ≤ i) (h1 : i < P 0 4) (t : ∀ r, 0 ≤ r → r < P 0 3 → h.1 92 (ix r) = T r) : ∃ h', f_Cn_legsFrom TC h 90 i v b = some h' ∧ h'.2 = h.2 ∧ (∀ c, ¬ c = 92 → h'.1 c = h.1 c) ∧ ∀ r, 0 ≤ r → r < P 0 3 → h'.1 92 (ix r) = lfp P A i v b T r := by
  have o1 := ok.1
  have g3 := x.g.1.2.2.2.1
  have w6 := x.2.2.2.2.1
  unfold f_Cn_legsFrom
  obtain ⟨h', e, I1, I2, I3⟩ := loopF (S := Unit) (R := Hp) (f := fun _ s => s) (N := P 0 3) (lp := fun n h r => lp_Cn_legsFrom_3 TC n h 90 i v b r) (res := fun h => some h) (fun k _ h' => h'.2 = h.2 ∧ (∀ c, ¬ c = 92 → h'.1 c = h.1 c) ∧ ∀ r, 0 ≤ r → r < P 0 3 → h'.1 92 (ix r) = if r < k then lfp P A i v b T r else T r) (by lia) (by lia)
    (fun n h' _ I => by
      simp only [lp_Cn_legsFrom_3, lyC]
      rw [I.2.1 26 (by decide), g3, if_pos (by lia)])
    (fun n h' r _ r0 r1 I => by
      obtain ⟨i1, i2, i3⟩ := I
      have r6 : r < 6 := by lia
      have cp : CP h' 26 P := x.1.mv (S := fun c => c = 92) (fun c hc => ⟨i2 c hc, by rw [i1]⟩) (fun c q => by omega)
      have e51 : h'.1 51 (ix r) = A.1 6 r := by
        rw [i2 51 (by decide)]
        exact w6 r r0 r1
      have e92 := i3 r r0 r1
      rw [if_neg (by lia)] at e92
      have e3 : h'.1 26 3 = P 0 3 := by rw [i2 26 (by decide)]; exact g3
      have tb : f_Cn_thirstBehind TC h' 90 i v b r = some (v + lq P i b r) := tbC ok cp h0 h1 r0 r1
      have el : lfp P A i v b T r = if 100 ≤ v + lq P i b r then T r else mnI (T r) (if A.1 6 r ≤ 0 then v + lq P i b r else 0) := rfl
      by_cases c : 100 ≤ v + lq P i b r
      · rw [if_pos c] at el
        refine ⟨h', ?_, i1, i2, fun j j0 j1 => ?_⟩
        · simp only [lp_Cn_legsFrom_3]
          unfold jb_Cn_legsFrom_73
          simp only [lyC, nmd_q]
          rw [e3, if_neg (by lia), tb, bnd_q, if_pos c]
        · rw [i3 j j0 j1]
          by_cases d : j = r
          · subst d
            rw [if_neg (by lia), if_pos (by lia), el]
          · by_cases d2 : j < r
            · rw [if_pos d2, if_pos (by lia)]
            · rw [if_neg d2, if_neg (by lia)]
      · rw [if_neg c] at el
        refine ⟨pI h' 92 (ix r) (lfp P A i v b T r), ?_, by rw [pI_l]; exact i1, fun d hd => by rw [pI_f hd]; exact i2 d hd, fun j j0 j1 => ?_⟩
        · rw [el]
          simp only [lp_Cn_legsFrom_3]
          unfold jb_Cn_legsFrom_52 jb_Cn_legsFrom_73
          simp (disch := first | assumption | decide | omega) only [lyC, nmd_q, bnd_q, rdC, wtC, e51, e92, tb]
          rw [e3, if_neg (by lia), if_neg c]
          by_cases d : A.1 6 r ≤ 0
          · rw [if_pos d, if_pos d]
          · rw [if_neg d, if_neg d]
        · rw [pI_ix r0 j0]
          by_cases d : j = r
          · subst d
            rw [if_pos rfl, if_pos (by lia)]
          · rw [if_neg d, i3 j j0 j1]
            by_cases d2 : j < r
            · rw [if_pos d2, if_pos (by lia)]
            · rw [if_neg d2, if_neg (by lia)]) 0 (by decide) (by lia) () h ⟨rfl, fun _ _ => rfl, fun r r0 r1 => by rw [if_neg (by lia)]; exact t r r0 r1⟩
  refine ⟨h', e, I1, I2, fun r r0 r1 => ?_⟩
  have := I3 r r0 r1
  rwa [if_pos r1] at this
theorem al91 : al TC 91 = 6 ∧ al TC 92 = 6 ∧ al TR 40 = 12 := by
  simp only [alC, alR, and_self]
theorem CH.m9 {h h' : Hp} {P : Pl} {L : Lw} {M : Mo} {A : Aw} (x : CH h P L M 45 A) (e1 : h'.2 = h.2) (e2 : ∀ c, ¬ (c = 91 ∨ c = 92) → h'.1 c = h.1 c) : CH h' P L M 45 A := by
  have f : Fr (fun c => c = 91 ∨ c = 92) h h' := fun c hc => ⟨e2 c hc, by rw [e1]⟩
  exact ⟨x.1.mv f (fun c q => by omega), x.2.1.mv f (fun c q => by omega), by rw [e2 72 (by decide)]; exact x.2.2.1, x.2.2.2.mv f (fun c q => by omega)⟩
/-- one more leg of the class -/
theorem rdC1 {h : Hp} {P : Pl} {L : Lw} {M : Mo} {A : Aw} {T : Int32 → Int32} {i g k : Int32} {c57 : Hp → Nat → Int32 → Int32 → Int32 → Option (Int32 × Hp)} (ok : POK P) (x : CH h P L M 45 A) (h0 : 0 ≤ i) (h1 : i < P 0 4) (t : ∀ r, 0 ≤ r → r < P 0 3 → h.1 92 (ix r) = T r) : ∃ h', ((f_Tt_copy TC h 92 91).bind fun r2 => lp_Cn_fewestLegs_90 TC c57 fu r2 90 i g k 0) = c57 h' 90 i g (k + 1) ∧ h'.2 = h.2 ∧ (∀ c, ¬ (c = 91 ∨ c = 92) → h'.1 c = h.1 c) ∧ ∀ r, 0 ≤ r → r < P 0 3 → h'.1 92 (ix r) = rnd P A i T r := by
  have o1 := ok.1
  have g3 := x.g.1.2.2.2.1
  obtain ⟨h2, e2, p1, p2, p3⟩ := cpT (tb := TC) (h := h) (a := 92) (b := 91) al91.2.1 al91.1 (by decide)
  rw [e2, bnd_q]
  obtain ⟨h', e, I1, I2, I3, I4⟩ := loopF (S := Int32 → Int32) (R := Int32 × Hp) (f := rst P A i T) (N := P 0 3) (lp := fun n h q => lp_Cn_fewestLegs_90 TC c57 n h 90 i g k q) (res := fun h => c57 h 90 i g (k + 1)) (fun q T' h' => h'.2 = h.2 ∧ (∀ c, ¬ (c = 91 ∨ c = 92) → h'.1 c = h.1 c) ∧ (∀ r, 0 ≤ r → r < P 0 3 → h'.1 91 (ix r) = T r) ∧ ∀ r, 0 ≤ r → r < P 0 3 → h'.1 92 (ix r) = T' r) (by lia) (by lia)
    (fun n h' _ I => by
      simp only [lp_Cn_fewestLegs_90, lyC, nmd_q]
      rw [I.2.1 26 (by decide), g3, if_pos (by lia)])
    (fun n h' q T' q0 q1 I => by
      obtain ⟨i1, i2, i3, i4⟩ := I
      have q6 : q < 6 := by lia
      have x' := x.m9 i1 i2
      have e91 := i3 q q0 q1
      have e28 := x'.g.2.2.2.2.1 q q0 q1
      have e3 : h'.1 26 3 = P 0 3 := by rw [i2 26 (by decide)]; exact g3
      by_cases c : 100 ≤ T q
      · refine ⟨h', ?_, i1, i2, i3, ?_⟩
        · simp only [lp_Cn_fewestLegs_90]
          unfold jb_Cn_fewestLegs_136
          simp (disch := first | assumption | decide | omega) only [lyC, nmd_q, bnd_q, rdC, e91]
          rw [e3, if_neg (by lia), if_pos c]
        · unfold rst
          rw [if_pos c]
          exact i4
      · obtain ⟨h3, w1, w2, w3, w4⟩ := lfC (v := T q) (b := P 2 q) ok x' h0 h1 i4
        refine ⟨h3, ?_, by rw [w2]; exact i1, fun d hd => by rw [w3 d (by omega)]; exact i2 d hd, fun r r0 r1 => by rw [w3 91 (by decide)]; exact i3 r r0 r1, ?_⟩
        · simp only [lp_Cn_fewestLegs_90]
          unfold jb_Cn_fewestLegs_136
          simp (disch := first | assumption | decide | omega) only [lyC, nmd_q, bnd_q, rdC, e91, e28, w1]
          rw [e3, if_neg (by lia), if_neg c]
        · unfold rst
          rw [if_neg c]
          exact w4) 0 (by decide) (by lia) T h2 ⟨p1, fun c hc => p2 c (by omega), fun r r0 r1 => by
      rw [p3 _ (ix_lt (n := 6) r0 (by decide) (show r < 6 by lia))]
      exact t r r0 r1, fun r r0 r1 => by
      rw [p2 92 (by decide)]
      exact t r r0 r1⟩
  exact ⟨h', e, I1, I2, I4⟩
theorem ix_k {k : Int32} (k1 : 1 ≤ k) (k2 : k ≤ 900) : ix (k + 1 - 1) = ix (k - 1) + 1 ∧ nI (ix (k - 1) + 1) = k := by
  have e : k + 1 - 1 = k - 1 + 1 := by lia
  refine ⟨by rw [e, ix_s (by lia) (by lia)], ?_⟩
  rw [← nI_1, nI_ix (by lia)]
  lia
/-- the class's legs -/
theorem flC1 {h : Hp} {P : Pl} {L : Lw} {M : Mo} {A : Aw} {i g : Int32} (ok : POK P) (x : CH h P L M 45 A) (h0 : 0 ≤ i) (h1 : i < P 0 4) (g0 : 0 ≤ g) (g1 : g < P 0 3) (t : ∀ r, 0 ≤ r → r < P 0 3 → h.1 92 (ix r) = Tn P A i 0 r) : ∃ r s, lp_Cn_fewestLegs_57 TC fu h 90 i g 1 = some (r, s) ∧ s.2 = h.2 ∧ (∀ c, ¬ (c = 91 ∨ c = 92) → s.1 c = h.1 c) ∧ FS P A i g 6 r := by
  have o1 := ok.1
  have g6 : g < 6 := by lia
  refine loop_fu (N := 7) (P := fun n k => 1 ≤ k → k ≤ 7 → ∀ h', h'.2 = h.2 → (∀ c, ¬ (c = 91 ∨ c = 92) → h'.1 c = h.1 c) → (∀ r, 0 ≤ r → r < P 0 3 → h'.1 92 (ix r) = Tn P A i (ix (k - 1)) r) → (∀ m, m < ix (k - 1) → 100 ≤ Tn P A i m g) → ∃ r s, lp_Cn_fewestLegs_57 TC n h' 90 i g k = some (r, s) ∧ s.2 = h.2 ∧ (∀ c, ¬ (c = 91 ∨ c = 92) → s.1 c = h.1 c) ∧ FS P A i g 6 r) (by decide) ?_ ?_ 1 (by decide) (by decide) (by decide) h rfl (fun _ _ => rfl) (fun r r0 r1 => by
      have e : ix ((1 : Int32) - 1) = 0 := by decide
      rw [e]
      exact t r r0 r1) (fun m hm => absurd hm (by
      have e : ix ((1 : Int32) - 1) = 0 := by decide
      omega))
  · intro n k k0 k1 k2 k3 h' i1 i2 i3 i4
    have e : k = 7 := by lia
    subst e
    simp only [lp_Cn_fewestLegs_57]
    rw [if_pos (by decide)]
    exact ⟨_, _, rfl, i1, i2, .inl ⟨rfl, i4⟩⟩
  · intro n k k0 k1 ih k2 k3 h' i1 i2 i3 i4
    obtain ⟨kx, kn⟩ := ix_k k2 (show k ≤ 900 by lia)
    have e92 := i3 g g0 g1
    simp only [lp_Cn_fewestLegs_57]
    simp (disch := first | assumption | decide | omega) only [lyC, bnd_q, rdC, e92]
    rw [if_neg (show ¬ (6 : Int32) < k by lia)]
    by_cases c : 100 ≤ Tn P A i (ix (k - 1)) g
    · rw [if_pos c]
      obtain ⟨h2, w1, w2, w3, w4⟩ := rdC1 (c57 := lp_Cn_fewestLegs_57 TC n) (g := g) (k := k) ok (x.m9 i1 i2) h0 h1 i3
      rw [w1]
      refine ih (by lia) (by lia) h2 (by rw [w2]; exact i1) (fun d hd => by rw [w3 d hd]; exact i2 d hd) ?_ ?_
      · rw [kx]
        exact w4
      · rw [kx]
        intro m hm
        by_cases d : m = ix (k - 1)
        · rw [d]
          exact c
        · exact i4 m (by omega)
    · rw [if_neg c]
      refine ⟨_, _, rfl, i1, i2, .inr ⟨ix (k - 1), ?_, kn.symm, by lia, i4⟩⟩
      exact ix_lt (n := 6) (by lia) (by decide) (show k - 1 < 6 by lia)
/-- the reference's way of telling -/
def en9 (x : Int32) : Int32 := if 100 ≤ x then -1 else x
def F40 (h h' : Hp) : Prop := (∀ c s, ¬ c = 40 → h'.1 c s = h.1 c s) ∧ h'.2 = h.2
theorem F40.tr {a b c : Hp} (x : F40 a b) (y : F40 b c) : F40 a c := ⟨fun d s q => (y.1 d s q).trans (x.1 d s q), y.2.trans x.2⟩
theorem F40.wr {h h' : Hp} {s : Nat} {v : Int32} (x : F40 h h') : F40 h (pI h' 40 s v) := ⟨fun d j q => by rw [pI_n q]; exact x.1 d j q, by rw [pI_l]; exact x.2⟩
theorem F40.KF {h h' : Hp} (x : F40 h h') : KF h h' := ⟨fun c s q => x.1 c s (fun z => q (by unfold RX; omega)), fun c s _ => by rw [x.2], fun q s => by rw [x.1 31 s (by decide)]; exact q s⟩
/-- what is read of the reference there -/
def RZ (h : Hp) (P : Pl) (A : Aw) : Prop := RP h P ∧ (∀ i, 0 ≤ i → i < P 0 4 → h.1 27 (ix i) = A.1 1 i) ∧ (∀ i, 0 ≤ i → i < P 0 4 → h.1 28 (ix i) = A.1 2 i) ∧ ∀ i, 0 ≤ i → i < P 0 3 → h.1 33 (ix i) = A.1 6 i
theorem RZ.mv {h h' : Hp} {P : Pl} {A : Aw} (x : RZ h P A) (f : F40 h h') : RZ h' P A := ⟨x.1.m4 (fun c s p q => f.1 c s (by omega)) (fun s p q => f.1 0 s (by omega)), fun i a b => by rw [f.1 27 _ (by decide)]; exact x.2.1 i a b, fun i a b => by rw [f.1 28 _ (by decide)]; exact x.2.2.1 i a b, fun i a b => by rw [f.1 33 _ (by decide)]; exact x.2.2.2 i a b⟩
theorem inR {h : Hp} {P : Pl} {A : Aw} {i g : Int32} (ok : POK P) (x : RZ h P A) (h0 : 0 ≤ i) (h1 : i < P 0 4) : ∃ h', lp_Md_stops_54 TR fu h 0 i g 0 = lp_Md_stops_128 TR fu h' 0 i g 1 ∧ F40 h h' ∧ ∀ r, 0 ≤ r → r < P 0 3 → h'.1 40 (ix r) = en9 (Tn P A i 0 r) := by
  have o1 := ok.1
  have i12 : i < 12 := by lia
  exact loopF (S := Unit) (R := Int32 × Hp) (f := fun _ s => s) (N := P 0 3) (lp := fun n h r => lp_Md_stops_54 TR n h 0 i g r) (res := fun h => lp_Md_stops_128 TR fu h 0 i g 1) (fun k _ h' => F40 h h' ∧ ∀ r, 0 ≤ r → r < k → h'.1 40 (ix r) = en9 (Tn P A i 0 r)) (by lia) (by lia)
    (fun n h' _ I => by
      have e12 := (x.mv I.1).1.1.1
      simp only [lp_Md_stops_54]
      rw [e12, if_pos (by lia)])
    (fun n h' r _ r0 r1 I => by
      have x' := x.mv I.1
      have r12 : r < 12 := by lia
      have e12 := x'.1.1.1
      have e27 := x'.2.1 i h0 h1
      have e28 := x'.2.2.1 i h0 h1
      have e33 := x'.2.2.2 r r0 r1
      have e6 := (x'.1.2.1 r r0 r1).2.1
      have le : f_Md_legOf TR h' 0 i (A.1 1 i) (P 2 r) = some (lq P i (A.1 1 i) r) := lgR ok x'.1 h0 h1
      refine ⟨pI h' 40 (ix r) (en9 (Tn P A i 0 r)), ?_, I.1.wr, fun j j0 j1 => ?_⟩
      · have et : Tn P A i 0 r = if 100 ≤ A.1 2 i + lq P i (A.1 1 i) r then 100 else mnI 100 (if A.1 6 r ≤ 0 then A.1 2 i + lq P i (A.1 1 i) r else 0) := rfl
        simp only [lp_Md_stops_54]
        unfold jb_Md_stops_119
        simp (disch := first | assumption | decide | omega) only [lyR, nmd_q, bnd_q, rdR, wtR, e27, e28, e33, e6, le]
        rw [e12, if_neg (by lia), et]
        unfold en9 mnI
        generalize A.1 2 i + lq P i (A.1 1 i) r = z
        by_cases c : 100 ≤ z
        · rw [if_neg (by lia), if_pos c, if_pos (by decide)]
        · rw [if_pos (show z < 100 by lia), if_neg c]
          by_cases d : A.1 6 r ≤ 0
          · rw [if_pos d, if_pos d, if_pos (show z < 100 by lia), if_neg c]
          · rw [if_neg d, if_neg d, if_pos (show (0 : Int32) < 100 by decide), if_neg (show ¬ (100 : Int32) ≤ 0 by decide)]
      · rw [pI_ix r0 j0]
        by_cases d : j = r
        · subst d
          rw [if_pos rfl]
        · rw [if_neg d]
          exact I.2 j j0 (by lia)) 0 (by decide) (by lia) () h ⟨⟨fun _ _ _ => rfl, rfl⟩, fun r r0 r1 => absurd r1 (by lia)⟩
theorem cyR {h : Hp} {P : Pl} {i g k : Int32} {c128 : Hp → Nat → Int32 → Int32 → Int32 → Option (Int32 × Hp)} (ok : POK P) (e12 : h.1 0 12 = P 0 3) : ∃ h', lp_Md_stops_148 TR c128 fu h 0 i g k 0 = lp_Md_stops_183 TR c128 fu h' 0 i g k 0 ∧ F40 h h' ∧ (∀ r, 0 ≤ r → r < P 0 3 → h'.1 40 (ix r) = h.1 40 (ix r)) ∧ ∀ r, 0 ≤ r → r < P 0 3 → h'.1 40 (ix (6 + r)) = h.1 40 (ix r) := by
  have o1 := ok.1
  exact loopF (S := Unit) (R := Int32 × Hp) (f := fun _ s => s) (N := P 0 3) (lp := fun n h r => lp_Md_stops_148 TR c128 n h 0 i g k r) (res := fun h => lp_Md_stops_183 TR c128 fu h 0 i g k 0) (fun q _ h' => F40 h h' ∧ (∀ r, 0 ≤ r → r < P 0 3 → h'.1 40 (ix r) = h.1 40 (ix r)) ∧ ∀ r, 0 ≤ r → r < q → h'.1 40 (ix (6 + r)) = h.1 40 (ix r)) (by lia) (by lia)
    (fun n h' _ I => by
      simp only [lp_Md_stops_148]
      rw [I.1.1 0 12 (by decide), e12, if_pos (by lia)])
    (fun n h' r _ r0 r1 I => by
      have r12 : r < 12 := by lia
      have j0 : 0 ≤ 6 + r := by lia
      have j12 : 6 + r < 12 := by lia
      have e40 := I.2.1 r r0 r1
      refine ⟨pI h' 40 (ix (6 + r)) (h.1 40 (ix r)), ?_, I.1.wr, fun j a b => ?_, fun j a b => ?_⟩
      · simp only [lp_Md_stops_148]
        simp (disch := first | assumption | decide | omega) only [lyR, nmd_q, bnd_q, rdR, wtR, e40]
        rw [I.1.1 0 12 (by decide), e12, if_neg (by lia)]
      · rw [pI_ix j0 a, if_neg (by lia)]
        exact I.2.1 j a b
      · rw [pI_ix j0 (by lia)]
        by_cases d : j = r
        · subst d
          rw [if_pos rfl]
        · rw [if_neg (by lia)]
          exact I.2.2 j a (by lia)) 0 (by decide) (by lia) () h ⟨⟨fun _ _ _ => rfl, rfl⟩, fun _ _ _ => rfl, fun r r0 r1 => absurd r1 (by lia)⟩
theorem en9_m {t s : Int32} (t0 : 0 ≤ t) (t1 : t ≤ 100) (s0 : 0 ≤ s) (s1 : s < 100) : (en9 t < 0 → en9 (mnI t s) = s) ∧ (¬ en9 t < 0 → en9 t ≤ s → en9 (mnI t s) = en9 t) ∧ (¬ en9 t < 0 → ¬ en9 t ≤ s → en9 (mnI t s) = s) := by
  unfold en9 mnI
  (repeat' split) <;> lia
/-- from one trough on -/
theorem inR1 {h : Hp} {P : Pl} {A : Aw} {T T' : Int32 → Int32} {i g k q : Int32} {c128 : Hp → Nat → Int32 → Int32 → Int32 → Option (Int32 × Hp)} {c183 : Hp → Nat → Int32 → Int32 → Int32 → Int32 → Option (Int32 × Hp)} (ok : POK P) (x : RZ h P A) (h0 : 0 ≤ i) (h1 : i < P 0 4) (q0 : 0 ≤ q) (q1 : q < P 0 3) (B : TB P T) (B' : TB P T') (t6 : ∀ r, 0 ≤ r → r < P 0 3 → h.1 40 (ix (6 + r)) = en9 (T r)) (t : ∀ r, 0 ≤ r → r < P 0 3 → h.1 40 (ix r) = en9 (T' r)) : ∃ h', lp_Md_stops_195 TR c128 c183 fu h 0 i g k q 0 = c183 h' 0 i g k (q + 1) ∧ F40 h h' ∧ (∀ r, 0 ≤ r → r < P 0 3 → h'.1 40 (ix (6 + r)) = en9 (T r)) ∧ ∀ r, 0 ≤ r → r < P 0 3 → h'.1 40 (ix r) = en9 (rst P A i T q T' r) := by
  have o1 := ok.1
  have j0 : 0 ≤ 6 + q := by lia
  have j12 : 6 + q < 12 := by lia
  have oq := ok.2.1 q q0 q1
  have Bq := B q q0 q1
  obtain ⟨h', e, I1, I2, I3⟩ := loopF (S := Unit) (R := Int32 × Hp) (f := fun _ s => s) (N := P 0 3) (lp := fun n h r => lp_Md_stops_195 TR c128 c183 n h 0 i g k q r) (res := fun h => c183 h 0 i g k (q + 1)) (fun m _ h' => F40 h h' ∧ (∀ r, 0 ≤ r → r < P 0 3 → h'.1 40 (ix (6 + r)) = en9 (T r)) ∧ ∀ r, 0 ≤ r → r < P 0 3 → h'.1 40 (ix r) = if r < m then en9 (rst P A i T q T' r) else en9 (T' r)) (by lia) (by lia)
    (fun n h' _ I => by
      simp only [lp_Md_stops_195, nmd_q]
      rw [(x.mv I.1).1.1.1, if_pos (by lia)])
    (fun n h' r _ r0 r1 I => by
      obtain ⟨f, i6, i3⟩ := I
      have x' := x.mv f
      have r12 : r < 12 := by lia
      have q12 : q < 12 := by lia
      have e12 := x'.1.1.1
      have e33 := x'.2.2.2 r r0 r1
      have e6r := (x'.1.2.1 r r0 r1).2.1
      have e6q := (x'.1.2.1 q q0 q1).2.1
      have le : f_Md_legOf TR h' 0 i (P 2 q) (P 2 r) = some (lq P i (P 2 q) r) := lgR ok x'.1 h0 h1
      have lb := lq_ok ok h0 h1 oq.1 oq.2.1 r0 r1
      have B2 := B' r r0 r1
      have e46 := i6 q q0 q1
      have e4r := i3 r r0 r1
      rw [if_neg (by lia)] at e4r
      have same : en9 (rst P A i T q T' r) = en9 (T' r) → ∀ j, 0 ≤ j → j < P 0 3 → h'.1 40 (ix j) = if j < r + 1 then en9 (rst P A i T q T' j) else en9 (T' j) := fun z j a b => by
        rw [i3 j a b]
        by_cases d : j = r
        · subst d
          rw [if_neg (by lia), if_pos (by lia), z]
        · by_cases d2 : j < r
          · rw [if_pos d2, if_pos (by lia)]
          · rw [if_neg d2, if_neg (by lia)]
      have wr : ∀ v, en9 (rst P A i T q T' r) = v → F40 h (pI h' 40 (ix r) v) ∧ (∀ r, 0 ≤ r → r < P 0 3 → (pI h' 40 (ix r) v).1 40 (ix (6 + r)) = en9 (T r) ∨ True) ∧ ∀ j, 0 ≤ j → j < P 0 3 → (pI h' 40 (ix r) v).1 40 (ix j) = if j < r + 1 then en9 (rst P A i T q T' j) else en9 (T' j) := fun v z => by
        refine ⟨f.wr, fun _ _ _ => .inr trivial, fun j a b => ?_⟩
        rw [pI_ix r0 a]
        by_cases d : j = r
        · subst d
          rw [if_pos rfl, if_pos (by lia), z]
        · rw [if_neg d, i3 j a b]
          by_cases d2 : j < r
          · rw [if_pos d2, if_pos (by lia)]
          · rw [if_neg d2, if_neg (by lia)]
      have w6 : ∀ v, ∀ s, 0 ≤ s → s < P 0 3 → (pI h' 40 (ix r) v).1 40 (ix (6 + s)) = en9 (T s) := fun v s a b => by
        rw [pI_ix r0 (by lia), if_neg (by lia)]
        exact i6 s a b
      have un : lp_Md_stops_195 TR c128 c183 (n + 1) h' 0 i g k q r = (if 0 ≤ en9 (T q) then (if en9 (T q) + lq P i (P 2 q) r < 100 then (if A.1 6 r ≤ 0 then jb_Md_stops_278 TR c128 c183 (lp_Md_stops_195 TR c128 c183 n) h' 0 i g k q r (en9 (T q) + lq P i (P 2 q) r) else jb_Md_stops_278 TR c128 c183 (lp_Md_stops_195 TR c128 c183 n) h' 0 i g k q r 0) else lp_Md_stops_195 TR c128 c183 n h' 0 i g k q (r + 1)) else lp_Md_stops_195 TR c128 c183 n h' 0 i g k q (r + 1)) := by
        simp only [lp_Md_stops_195]
        unfold jb_Md_stops_311
        simp (disch := first | assumption | decide | omega) only [lyR, nmd_q, bnd_q, rdR, e33, e6r, e6q, le, e46]
        rw [e12, if_neg (by lia)]
      have j278 : ∀ s, 0 ≤ s → s < 100 → en9 (rst P A i T q T' r) = en9 (mnI (T' r) s) → ∃ h2, jb_Md_stops_278 TR c128 c183 (lp_Md_stops_195 TR c128 c183 n) h' 0 i g k q r s = lp_Md_stops_195 TR c128 c183 n h2 0 i g k q (r + 1) ∧ F40 h h2 ∧ (∀ r, 0 ≤ r → r < P 0 3 → h2.1 40 (ix (6 + r)) = en9 (T r)) ∧ ∀ j, 0 ≤ j → j < P 0 3 → h2.1 40 (ix j) = if j < r + 1 then en9 (rst P A i T q T' j) else en9 (T' j) := fun s s0 s1 z => by
        obtain ⟨m1, m2, m3⟩ := en9_m B2.1 B2.2 s0 s1
        unfold jb_Md_stops_278 jb_Md_stops_302 jb_Md_stops_311
        simp (disch := first | assumption | decide | omega) only [lyR, nmd_q, bnd_q, rdR, wtR, e4r]
        by_cases c : en9 (T' r) < 0
        · rw [if_pos c]
          exact ⟨_, rfl, f.wr, w6 _, (wr s (z.trans (m1 c))).2.2⟩
        · rw [if_neg c]
          by_cases d : en9 (T' r) ≤ s
          · rw [if_pos d]
            exact ⟨_, rfl, f, i6, same (z.trans (m2 c d))⟩
          · rw [if_neg d]
            exact ⟨_, rfl, f.wr, w6 _, (wr s (z.trans (m3 c d))).2.2⟩
      rw [un]
      by_cases c : 100 ≤ T q
      · have ec : en9 (T q) = -1 := if_pos c
        rw [ec, if_neg (by decide)]
        refine ⟨h', rfl, f, i6, same ?_⟩
        unfold rst
        rw [if_pos c]
      · have ec : en9 (T q) = T q := if_neg c
        have er : rst P A i T q T' r = if 100 ≤ T q + lq P i (P 2 q) r then T' r else mnI (T' r) (if A.1 6 r ≤ 0 then T q + lq P i (P 2 q) r else 0) := by
          unfold rst
          rw [if_neg c]
          rfl
        rw [ec, if_pos Bq.1]
        by_cases d : T q + lq P i (P 2 q) r < 100
        · rw [if_pos d]
          rw [if_neg (by lia)] at er
          by_cases w : A.1 6 r ≤ 0
          · rw [if_pos w] at er ⊢
            exact j278 _ (by lia) d (by rw [er])
          · rw [if_neg w] at er ⊢
            exact j278 _ (by decide) (by decide) (by rw [er])
        · rw [if_neg d]
          rw [if_pos (by lia)] at er
          exact ⟨h', rfl, f, i6, same (by rw [er])⟩) 0 (by decide) (by lia) () h ⟨⟨fun _ _ _ => rfl, rfl⟩, t6, fun r r0 r1 => by rw [if_neg (by lia)]; exact t r r0 r1⟩
  refine ⟨h', e, I1, I2, fun r r0 r1 => ?_⟩
  have := I3 r r0 r1
  rwa [if_pos r1] at this
theorem rst_B {P : Pl} {A : Aw} {i q : Int32} {T T' : Int32 → Int32} (ok : POK P) (h0 : 0 ≤ i) (h1 : i < P 0 4) (q0 : 0 ≤ q) (q1 : q < P 0 3) (B : TB P T) (B' : TB P T') : TB P (rst P A i T q T') := by
  have oq := ok.2.1 q q0 q1
  have b := B q q0 q1
  unfold rst
  split
  · exact B'
  · exact lfp_B ok h0 h1 oq.1 oq.2.1 b.1 (by lia) B'
theorem rdR1 {h : Hp} {P : Pl} {A : Aw} {T : Int32 → Int32} {i g k : Int32} {c128 : Hp → Nat → Int32 → Int32 → Int32 → Option (Int32 × Hp)} (ok : POK P) (x : RZ h P A) (h0 : 0 ≤ i) (h1 : i < P 0 4) (B : TB P T) (t : ∀ r, 0 ≤ r → r < P 0 3 → h.1 40 (ix r) = en9 (T r)) : ∃ h', lp_Md_stops_148 TR c128 fu h 0 i g k 0 = c128 h' 0 i g (k + 1) ∧ F40 h h' ∧ ∀ r, 0 ≤ r → r < P 0 3 → h'.1 40 (ix r) = en9 (rnd P A i T r) := by
  have o1 := ok.1
  obtain ⟨h2, e2, f2, c1, c2⟩ := cyR (i := i) (g := g) (k := k) (c128 := c128) ok x.1.1.1
  rw [e2]
  obtain ⟨h', e, I1, I2, I3, I4⟩ := loopF (S := Int32 → Int32) (R := Int32 × Hp) (f := rst P A i T) (N := P 0 3) (lp := fun n h q => lp_Md_stops_183 TR c128 n h 0 i g k q) (res := fun h => c128 h 0 i g (k + 1)) (fun q T' h' => F40 h h' ∧ TB P T' ∧ (∀ r, 0 ≤ r → r < P 0 3 → h'.1 40 (ix (6 + r)) = en9 (T r)) ∧ ∀ r, 0 ≤ r → r < P 0 3 → h'.1 40 (ix r) = en9 (T' r)) (by lia) (by lia)
    (fun n h' _ I => by
      simp only [lp_Md_stops_183, nmd_q]
      rw [(x.mv I.1).1.1.1, if_pos (by lia)])
    (fun n h' q T' q0 q1 I => by
      obtain ⟨f, b', i6, i4⟩ := I
      obtain ⟨h3, w1, w2, w3, w4⟩ := inR1 (g := g) (k := k) (c128 := c128) (c183 := lp_Md_stops_183 TR c128 n) ok (x.mv f) h0 h1 q0 q1 B b' i6 i4
      refine ⟨h3, ?_, f.tr w2, rst_B ok h0 h1 q0 q1 B b', w3, w4⟩
      simp only [lp_Md_stops_183]
      rw [(x.mv f).1.1.1, if_neg (by lia), w1]) 0 (by decide) (by lia) T h2 ⟨f2, B, fun r r0 r1 => by rw [c2 r r0 r1]; exact t r r0 r1, fun r r0 r1 => by rw [c1 r r0 r1]; exact t r r0 r1⟩
  exact ⟨h', e, I1, I4⟩
theorem flR1 {h : Hp} {P : Pl} {A : Aw} {i g : Int32} (ok : POK P) (wo : WOK P A) (x : RZ h P A) (h0 : 0 ≤ i) (h1 : i < P 0 4) (g0 : 0 ≤ g) (g1 : g < P 0 3) (t : ∀ r, 0 ≤ r → r < P 0 3 → h.1 40 (ix r) = en9 (Tn P A i 0 r)) : ∃ r s, lp_Md_stops_128 TR fu h 0 i g 1 = some (r, s) ∧ F40 h s ∧ FS P A i g 13 r := by
  have o1 := ok.1
  have g12 : g < 12 := by lia
  refine loop_fu (N := 14) (P := fun n k => 1 ≤ k → k ≤ 14 → ∀ h', F40 h h' → (∀ r, 0 ≤ r → r < P 0 3 → h'.1 40 (ix r) = en9 (Tn P A i (ix (k - 1)) r)) → (∀ m, m < ix (k - 1) → 100 ≤ Tn P A i m g) → ∃ r s, lp_Md_stops_128 TR n h' 0 i g k = some (r, s) ∧ F40 h s ∧ FS P A i g 13 r) (by decide) ?_ ?_ 1 (by decide) (by decide) (by decide) h ⟨fun _ _ _ => rfl, rfl⟩ (fun r r0 r1 => by
      have e : ix ((1 : Int32) - 1) = 0 := by decide
      rw [e]
      exact t r r0 r1) (fun m hm => absurd hm (by
      have e : ix ((1 : Int32) - 1) = 0 := by decide
      omega))
  · intro n k k0 k1 k2 k3 h' f i3 i4
    have e : k = 14 := by lia
    subst e
    simp only [lp_Md_stops_128]
    rw [if_pos (by decide)]
    exact ⟨_, _, rfl, f, .inl ⟨rfl, i4⟩⟩
  · intro n k k0 k1 ih k2 k3 h' f i3 i4
    obtain ⟨kx, kn⟩ := ix_k k2 (show k ≤ 900 by lia)
    have e40 := i3 g g0 g1
    have B := Tn_B (A := A) ok wo h0 h1 (ix (k - 1))
    have Bg := B g g0 g1
    simp only [lp_Md_stops_128]
    simp (disch := first | assumption | decide | omega) only [lyR, bnd_q, rdR, e40]
    rw [if_neg (show ¬ (14 : Int32) ≤ k by lia)]
    by_cases c : 100 ≤ Tn P A i (ix (k - 1)) g
    · have ec : en9 (Tn P A i (ix (k - 1)) g) = -1 := if_pos c
      rw [ec, if_pos (by decide)]
      obtain ⟨h2, w1, w2, w4⟩ := rdR1 (c128 := lp_Md_stops_128 TR n) (g := g) (k := k) ok (x.mv f) h0 h1 B i3
      rw [w1]
      refine ih (by lia) (by lia) h2 (f.tr w2) ?_ ?_
      · rw [kx]
        exact w4
      · rw [kx]
        intro m hm
        by_cases d : m = ix (k - 1)
        · rw [d]
          exact c
        · exact i4 m (by omega)
    · have ec : en9 (Tn P A i (ix (k - 1)) g) = Tn P A i (ix (k - 1)) g := if_neg c
      rw [ec, if_neg (by lia)]
      refine ⟨_, _, rfl, f, .inr ⟨ix (k - 1), ?_, kn.symm, by lia, i4⟩⟩
      exact ix_lt (n := 13) (by lia) (by decide) (show k - 1 < 13 by lia)
theorem sp_stops : SP_stops Rl := by
  intro hC hR a1 a2 hr
  obtain ⟨P, L, A, B, X, U, p, x, y⟩ := hr
  have ok := p.1
  have o1 := ok.1
  have lk := p.2.1
  have wo := p.2.2.1
  have g := x.1.h.g
  simp only [Nat.reduceAdd] at g
  have xh := x.1.h
  have y1 := y.th (v := 0) ok
  have k := y1.1.g
  have sx := x.2.2.1
  have sr := y1.2.2.1
  refine q2_of p x y1 ?_
  have e13 := k.1.2.1
  have e12 := k.1.1
  have rz : RZ (pI hR 0 2 0) P A := ⟨y1.1.1, k.2.2.2.2.2.2.2.2.2.2.1, k.2.2.2.2.2.2.2.2.2.2.2.1, k.2.2.2.2.2.2.2.2.2.2.2.2.2.2.2.2.1⟩
  unfold f_Tt_stops f_Md_stops
  simp only [nmd_q]
  generalize pI hR 0 2 0 = h1 at y1 k sr e13 e12 rz ⊢
  simp only [lyC, lyR]
  rw [hhC g.1.2.2.2.2.1, hhR e13, htC xh, htR e12, onC xh]
  by_cases q1 : 0 ≤ a1 ∧ a1 < P 0 4
  case neg =>
    rw [if_neg q1, if_pos (rfl : (0 : Int32) = 0), if_pos (rfl : (0 : Int32) = 0)]
    exact ⟨_, _, _, rfl, rfl, Fr.rf, KF.rf⟩
  rw [if_pos q1, if_neg (show ¬ (1 : Int32) = 0 by decide), if_neg (show ¬ (1 : Int32) = 0 by decide)]
  by_cases q2 : 0 ≤ a2 ∧ a2 < P 0 3
  case neg =>
    rw [if_neg q2, if_pos (rfl : (0 : Int32) = 0), if_pos (rfl : (0 : Int32) = 0)]
    exact ⟨_, _, _, rfl, rfl, Fr.rf, KF.rf⟩
  rw [if_pos q2, if_neg (show ¬ (1 : Int32) = 0 by decide), if_neg (show ¬ (1 : Int32) = 0 by decide)]
  obtain ⟨a0, a4⟩ := q1
  obtain ⟨t0, t1⟩ := q2
  have a6 : a1 < 6 := by lia
  have a12 : a1 < 12 := by lia
  have t6 : a2 < 6 := by lia
  have t12 : a2 < 12 := by lia
  unfold f_Cn_fewestLegs
  simp (disch := first | assumption | decide | omega) only [lyC, rdC, rdR, bnd_q, g, k]
  by_cases q3 : bt (A.1 0 2) a1 = 0
  · rw [if_pos q3, if_pos q3]
    exact ⟨_, _, _, rfl, rfl, Fr.rf, KF.rf⟩
  rw [if_neg q3, if_neg q3]
  by_cases q4 : A.1 1 a1 = P 2 a2
  · rw [if_pos q4, if_pos q4, bnd_q]
    exact ⟨_, _, _, rfl, rfl, Fr.rf, KF.rf⟩
  rw [if_neg q4, if_neg q4]
  obtain ⟨s3, e3, p1, p2, p3, -⟩ := fillT (tb := TC) (h := hC) (v := 100) al91.2.1 (by decide)
  have x3 : CH s3 P L (hC.1 72 2, hC.1 72 3, hC.1 72 4) 45 A := xh.m9 p1 (fun c hc => p2 c (by omega))
  have g3 := x3.g
  simp only [Nat.reduceAdd] at g3
  obtain ⟨s6, e6, w1, w2, w3⟩ := lfC (T := fun _ => 100) (i := a1) (v := A.1 2 a1) (b := A.1 1 a1) ok x3 a0 a4 (fun r r0 r1 => p3 _ (ix_lt (n := 6) r0 (by decide) (show r < 6 by lia)))
  have x6 : CH s6 P L (hC.1 72 2, hC.1 72 3, hC.1 72 4) 45 A := x3.m9 w1 (fun c hc => w2 c (by omega))
  obtain ⟨r, s, e7, z1, z2, z3⟩ := flC1 (g := a2) ok x6 a0 a4 t0 t1 w3
  rw [e3, bnd_q]
  simp (disch := first | assumption | decide | omega) only [rdC, bnd_q, g3]
  rw [e6, bnd_q, e7, bnd_q]
  obtain ⟨u1, v1, v2, v3⟩ := inR (g := a2) ok rz a0 a4
  obtain ⟨r', u, v4, v5, v6⟩ := flR1 (g := a2) ok wo (rz.mv v2) a0 a4 t0 t1 v3
  rw [v1, v4]
  have er : r = r' := z3.eq ok wo a0 a4 t0 t1 v6
  subst er
  refine ⟨r, s, u, rfl, rfl, fun c hc => ?_, (v2.tr v5).KF⟩
  have nc : ¬ (c = 91 ∨ c = 92) := fun q => hc (by unfold SC; omega)
  exact ⟨by rw [z2 c nc, w2 c (by omega), p2 c (by omega)], by rw [z1, w1, p1]⟩
