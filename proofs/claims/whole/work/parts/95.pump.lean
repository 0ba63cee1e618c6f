/-! what must be pumped -/
def fw (A : Aw) (s : Int32) : Aw := (fun r j => if r = 6 then (if 0 ≤ j ∧ j < 6 ∧ ¬ bt s j = 0 then 99 else A.1 6 j) else A.1 r j, A.2)
theorem fw_n {A : Aw} {s : Int32} {r : Nat} {j : Int32} (e : ¬ r = 6) : (fw A s).1 r j = A.1 r j := by
  unfold fw
  rw [fst_q]
  exact if_neg e
theorem fw_6 {A : Aw} {s j : Int32} : (fw A s).1 6 j = if 0 ≤ j ∧ j < 6 ∧ ¬ bt s j = 0 then 99 else A.1 6 j := by
  unfold fw
  rw [fst_q]
  exact if_pos rfl
theorem fw_r {A : Aw} {s j : Int32} (j0 : 0 ≤ j) (j6 : j < 6) : (fw A s).1 6 j = if bt s j = 0 then A.1 6 j else 99 := by
  rw [fw_6]
  by_cases c : bt s j = 0
  · rw [if_pos c, if_neg (fun z => z.2.2 c)]
  · rw [if_neg c, if_pos ⟨j0, j6, c⟩]
theorem fw_2 {A : Aw} {s : Int32} : (fw A s).2 = A.2 := by
  unfold fw
  rw [snd_q]
theorem fw_ok {P : Pl} {A : Aw} {s : Int32} (w : WOK P A) (on : ONK P 0 A) : WOK P (fw A s) ∧ ONK P 0 (fw A s) := by
  refine ⟨⟨fun h h0 h1 => ?_, fun t t0 t1 => ?_, ?_⟩, fun h a b c => ?_⟩
  · rw [fw_n (by decide), fw_n (by decide), fw_n (by decide), fw_n (by decide), fw_n (by decide)]
    exact w.1 h h0 h1
  · rw [fw_6]
    split
    · decide
    · exact w.2.1 t t0 t1
  · rw [fw_n (by decide)]
    exact w.2.2
  · rw [fw_n (by decide)] at c ⊢
    exact on h a b c
theorem bt_or {a b i : Int32} : bt (a ||| b) i = 0 ↔ bt a i = 0 ∧ bt b i = 0 := by
  unfold bt
  rw [or_and_i]
  by_cases c : a &&& ((1 : Int32) <<< (i &&& 31)) = 0
  · rw [if_pos c, c]
    by_cases d : b &&& ((1 : Int32) <<< (i &&& 31)) = 0
    · rw [if_pos d, d]
      simp
    · rw [if_neg d, if_neg (fun z => d (Int32.or_eq_zero_iff.mp z).2)]
      simp
  · rw [if_neg c, if_neg (fun z => c (Int32.or_eq_zero_iff.mp z).1)]
    simp
theorem bt_sh0 : ∀ t : Fin 6, bt ((1 : Int32) <<< (nI t.1 &&& 31)) (nI t.1) = 1 := by decide +kernel
theorem bt_sh {t : Int32} (t0 : 0 ≤ t) (t6 : t < 6) : bt ((1 : Int32) <<< (t &&& 31)) t = 1 := by
  obtain ⟨x, rfl⟩ := fin_i32 (n := 6) t0 (by decide) t6
  exact bt_sh0 x
theorem xr0 : ∀ (s : Fin 64) (t : Fin 6), bt (nI s.1) (nI t.1) = 1 → 0 ≤ nI s.1 ^^^ ((1 : Int32) <<< (nI t.1 &&& 31)) ∧ nI s.1 ^^^ ((1 : Int32) <<< (nI t.1 &&& 31)) < nI s.1 ∧ cn (nI s.1 ^^^ ((1 : Int32) <<< (nI t.1 &&& 31))) < cn (nI s.1) := by decide +kernel
theorem xr1 : ∀ (s : Fin 64) (t : Fin 6), ∀ j : Fin 6, bt (nI s.1) (nI t.1) = 1 → ¬ nI j.1 = nI t.1 → bt (nI s.1 ^^^ ((1 : Int32) <<< (nI t.1 &&& 31))) (nI j.1) = bt (nI s.1) (nI j.1) := by decide +kernel
theorem xro {s t : Int32} (s0 : 0 ≤ s) (s6 : s < 64) (t0 : 0 ≤ t) (t6 : t < 6) (h : ¬ bt s t = 0) : 0 ≤ s ^^^ ((1 : Int32) <<< (t &&& 31)) ∧ s ^^^ ((1 : Int32) <<< (t &&& 31)) < s ∧ cn (s ^^^ ((1 : Int32) <<< (t &&& 31))) < cn s ∧ ∀ j, 0 ≤ j → j < 6 → ¬ j = t → bt (s ^^^ ((1 : Int32) <<< (t &&& 31))) j = bt s j := by
  have h1 : bt s t = 1 := (bt_01 s t).resolve_left h
  obtain ⟨x, rfl⟩ := fin_i32 (n := 64) s0 (by decide) s6
  obtain ⟨y, rfl⟩ := fin_i32 (n := 6) t0 (by decide) t6
  obtain ⟨a, b, c⟩ := xr0 x y h1
  refine ⟨a, b, c, fun j j0 j6 n => ?_⟩
  obtain ⟨z, rfl⟩ := fin_i32 (n := 6) j0 (by decide) j6
  exact xr1 x y z h1 n
theorem ms0 : ∀ a b : Fin 64, (∀ j : Fin 6, bt (nI a.1) (nI j.1) = 0 → bt (nI b.1) (nI j.1) = 0) → (cn (nI b.1) = cn (nI a.1) → nI b.1 = nI a.1) ∧ (¬ nI b.1 = nI a.1 → ∃ j : Fin 6, bt (nI a.1) (nI j.1) = 1 ∧ bt (nI b.1) (nI j.1) = 0) := by decide +kernel
theorem ms {a b : Int32} (a0 : 0 ≤ a) (a6 : a ≤ 63) (b0 : 0 ≤ b) (b6 : b ≤ 63) (h : ∀ j, 0 ≤ j → j < 6 → bt a j = 0 → bt b j = 0) : (cn b = cn a → b = a) ∧ (¬ b = a → ∃ j, 0 ≤ j ∧ j < 6 ∧ bt a j = 1 ∧ bt b j = 0) := by
  obtain ⟨x, rfl⟩ := fin_i32 (n := 64) a0 (by decide) (show a < 64 by lia)
  obtain ⟨y, rfl⟩ := fin_i32 (n := 64) b0 (by decide) (show b < 64 by lia)
  have k := ms0 x y (fun j => h (nI j.1) (nI_pos' (by have := j.2; omega)) (nI_lt (b := 6) j.2 (by decide)))
  refine ⟨k.1, fun n => ?_⟩
  obtain ⟨j, j1, j2⟩ := k.2 n
  exact ⟨nI j.1, nI_pos' (by have := j.2; omega), nI_lt (b := 6) j.2 (by decide), j1, j2⟩
/-- who is on stays among those -/
theorem hrN_on {P : Pl} {L : Lw} {M : Mo} {A : Aw} {N : Int32} (ok : POK P) (mo : MOK M) (wo : WOK P A) (on : ONK P 0 A) (N0 : 0 ≤ N) : ∀ j, 0 ≤ j → j < 6 → bt (A.1 0 2) j = 0 → bt ((hrN P L M N A).1 0 2) j = 0 := by
  intro j j0 j6 h
  unfold hrN
  exact (Fold_inv (f := fun _ A => hr P L M A) (N := N) (fun _ s => bt (s.1 0 2) j = 0 ∧ WOK P s ∧ ONK P 0 s) N0 (fun i s _ _ z => by
    have y := hr_ok (L := L) ok mo z.2.1 z.2.2
    exact ⟨hr_on ok mo z.2.1 z.2.2 j j0 j6 z.1, y.1, y.2⟩) _ 0 A (by decide) N0 rfl ⟨h, wo, on⟩).1
/-- who fell by then isn't on at the end -/
theorem hrN_fe {P : Pl} {L : Lw} {M : Mo} {A : Aw} {m N j : Int32} (ok : POK P) (mo : MOK M) (wo : WOK P A) (on : ONK P 0 A) (m0 : 0 ≤ m) (m1 : m ≤ N) (N9 : N ≤ 900) (j0 : 0 ≤ j) (j6 : j < 6) (h : bt ((hrN P L M m A).1 0 2) j = 0) : bt ((hrN P L M N A).1 0 2) j = 0 := by
  have key := Fold_inv (f := fun _ A => hr P L M A) (N := N) (fun i s => s = hrN P L M i A ∧ (m ≤ i → bt (s.1 0 2) j = 0) ∧ WOK P s ∧ ONK P 0 s) (by lia) (fun i s i0 i1 z => by
    obtain ⟨z1, z2, z3, z4⟩ := z
    have y := hr_ok (L := L) ok mo z3 z4
    refine ⟨by rw [z1, hrN_s i0 (by lia)], fun q => ?_, y.1, y.2⟩
    by_cases c : m ≤ i
    · exact hr_on ok mo z3 z4 j j0 j6 (z2 c)
    · have e : m = i + 1 := by lia
      rw [z1, ← hrN_s i0 (by lia), ← e]
      exact h) _ 0 A (by decide) (by lia) rfl ⟨hrN_0.symm, fun q => by
    have e : m = 0 := by lia
    rw [e, hrN_0] at h
    exact h, wo, on⟩
  exact key.2.1 m1
/-- none falls, these filled -/
def nfp (P : Pl) (L : Lw) (A : Aw) (n s : Int32) : Prop := (hrN P L (mT P) n (fw A s)).1 0 2 = A.1 0 2
/-- tried in vain, and where one was -/
def VOK (P : Pl) (L : Lw) (A : Aw) (n s v : Int32) : Prop := ∃ m, 0 ≤ m ∧ m ≤ n ∧ ¬ (hrN P L (mT P) m (fw A s)).1 0 2 = A.1 0 2 ∧ (∀ k, 0 ≤ k → k < m → (hrN P L (mT P) k (fw A s)).1 0 2 = A.1 0 2) ∧ ∀ t, 0 ≤ t → t < 6 → bt v t = 0 → ∀ k, 1 ≤ k → k ≤ m → ∀ i, 0 ≤ i → i < P 0 4 → ¬ bt (A.1 0 2) i = 0 → ¬ P 5 ((hrN P L (mT P) k (fw A s)).1 1 i) = t
theorem VOK.no {P : Pl} {L : Lw} {A : Aw} {n s v : Int32} (ok : POK P) (wo : WOK P A) (on : ONK P 0 A) (n9 : n ≤ 60) (x : VOK P L A n s v) : ¬ nfp P L A n s := by
  obtain ⟨m, m0, m1, x1, -⟩ := x
  have w := fw_ok (s := s) wo on
  have wm := hrN_ok (L := L) (N := m) ok (mT_ok (P := P)) w.1 w.2 m0
  have e0 : (fw A s).1 0 2 = A.1 0 2 := fw_n (by decide)
  have sub : ∀ j, 0 ≤ j → j < 6 → bt (A.1 0 2) j = 0 → bt ((hrN P L (mT P) m (fw A s)).1 0 2) j = 0 := by
    have := hrN_on (L := L) (N := m) ok (mT_ok (P := P)) w.1 w.2 m0
    rw [e0] at this
    exact this
  obtain ⟨j, j0, j6, j1, j2⟩ := (ms wo.2.2.1 wo.2.2.2.1 wm.1.2.2.1 wm.1.2.2.2.1 sub).2 x1
  have := hrN_fe (L := L) (N := n) ok (mT_ok (P := P)) w.1 w.2 m0 m1 (by lia) j0 j6 j2
  intro z
  unfold nfp at z
  rw [z, j1] at this
  exact absurd this (by decide)
def SW (t : Int32) : Nat → Int32 → Prop := fun r j => r = 6 ∧ j = t
theorem SW.o {t : Int32} : SO (SW t) := fun r j z => .inr z.1
/-- no horse came to that trough: nothing goes otherwise -/
theorem VOK.ex {P : Pl} {L : Lw} {A : Aw} {n s t v : Int32} (ok : POK P) (wo : WOK P A) (on : ONK P 0 A) (n9 : n ≤ 60) (s0 : 0 ≤ s) (s6 : s < 64) (t0 : 0 ≤ t) (t6 : t < 6) (h : ¬ bt s t = 0) (hv : bt v t = 0) (x : VOK P L A n (s ^^^ ((1 : Int32) <<< (t &&& 31))) v) : VOK P L A n s v := by
  obtain ⟨-, -, -, xb⟩ := xro s0 s6 t0 t6 h
  generalize s ^^^ ((1 : Int32) <<< (t &&& 31)) = s' at x xb
  obtain ⟨m, m0, m1, x1, x2, x3⟩ := x
  have o1 := ok.1
  have st : EQ (SW t) (fw A s') (fw A s) := by
    refine ⟨fun r j z => ?_, by rw [fw_2, fw_2]⟩
    by_cases c : r = 6
    · subst c
      rw [fw_6, fw_6]
      by_cases j0 : 0 ≤ j
      · by_cases j6 : j < 6
        · rw [xb j j0 j6 (fun q => z ⟨rfl, q⟩)]
        · rw [if_neg (fun w => j6 w.2.1), if_neg (fun w => j6 w.2.1)]
      · rw [if_neg (fun w => j0 w.1), if_neg (fun w => j0 w.1)]
    · rw [fw_n c, fw_n c]
  have w' := fw_ok (s := s') wo on
  have all : ∀ k, 0 ≤ k → k ≤ m → EQ (SW t) (hrN P L (mT P) k (fw A s')) (hrN P L (mT P) k (fw A s)) := by
    intro k k0 km
    have key := Fold2 (f := fun _ A => hr P L (mT P) A) (f' := fun _ A => hr P L (mT P) A) (N := k) (fun i u u' => u = hrN P L (mT P) i (fw A s') ∧ EQ (SW t) u u' ∧ WOK P u ∧ ONK P 0 u) k0 (by lia) (fun i u u' i0 i1 z => by
      obtain ⟨z1, z2, z3, z4⟩ := z
      have y := hr_ok (L := L) ok (mT_ok (P := P)) z3 z4
      have e1 : hr P L (mT P) u = hrN P L (mT P) (i + 1) (fw A s') := by rw [z1, hrN_s i0 (by lia)]
      refine ⟨e1, eq_hr ok SW.o z2 (fun a a0 a1 => ?_), y.1, y.2⟩
      rw [e1, z1, x2 i i0 (by lia)]
      by_cases c : bt (A.1 0 2) a = 0
      · exact .inl c
      · exact .inr ⟨fun z => absurd z.1 (by decide), fun z => x3 t t0 t6 hv (i + 1) (by lia) (by lia) a a0 a1 c z.2⟩) 0 (by decide) k0 (fw A s') (fw A s) ⟨hrN_0.symm, st, w'.1, w'.2⟩
    exact key.2.1
  refine ⟨m, m0, m1, ?_, fun k k0 k1 => ?_, fun u u0 u6 uv k k0 k1 i i0 i1 c => ?_⟩
  · rw [(all m m0 (by lia)).r SW.o 0 2 (by decide)]
    exact x1
  · rw [(all k k0 (by lia)).r SW.o 0 2 (by decide)]
    exact x2 k k0 k1
  · rw [(all k (by lia) k1).r SW.o 1 i (by decide)]
    exact x3 u u0 u6 uv k k0 k1 i i0 i1 c
/-- at which troughs they are -/
theorem toC {h : Hp} {P : Pl} {L : Lw} {M : Mo} {A : Aw} {on : Int32} (ok : POK P) (wo : WOK P A) (c : CH h P L M 75 A) : ∃ r, f_Fo_troughsOf TC h 74 on = some r ∧ ∀ t, 0 ≤ t → t < 6 → bt r t = 0 → ∀ i, 0 ≤ i → i < P 0 4 → ¬ bt on i = 0 → ¬ P 5 (A.1 1 i) = t := by
  have o1 := ok.1
  have g4 := c.g.1.2.2.2.2.1
  have w1 := c.2.2.2.1 1 (by decide) (by decide)
  unfold f_Fo_troughsOf
  refine loop_fu (N := P 0 4) (P := fun m i => i ≤ P 0 4 → ∀ b, (∀ t, 0 ≤ t → t < 6 → bt b t = 0 → ∀ j, 0 ≤ j → j < i → ¬ bt on j = 0 → ¬ P 5 (A.1 1 j) = t) → ∃ r, lp_Fo_troughsOf_4 TC m h 74 on b i = some r ∧ ∀ t, 0 ≤ t → t < 6 → bt r t = 0 → ∀ j, 0 ≤ j → j < P 0 4 → ¬ bt on j = 0 → ¬ P 5 (A.1 1 j) = t) (by lia) ?_ ?_ 0 (by decide) (by lia) 0 (fun t _ _ _ j a b => absurd b (by lia))
  · intro m i i0 i1 i2 b I
    have e : i = P 0 4 := by lia
    simp only [lp_Fo_troughsOf_4, lyC]
    rw [g4, if_pos i1]
    exact ⟨b, rfl, by rw [← e]; exact I⟩
  · intro m i i0 i1 ih _ b I
    have i6 : i < 6 := by lia
    have wi := wo.1 i i0 i1
    have e76 : h.1 76 (ix i) = A.1 1 i := w1 i i0 i1
    have th := thC c (p := A.1 1 i) wi.1 (by lia)
    simp only [lp_Fo_troughsOf_4]
    unfold jb_Fo_troughsOf_54
    simp (disch := first | assumption | decide | omega) only [lyC, rdC, bnd_q, nmd_q, e76, th]
    rw [g4, if_neg (by lia)]
    by_cases c1 : on &&& ((1 : Int32) <<< (i &&& 31)) = 0
    · rw [if_pos c1]
      refine ih (by lia) b (fun t t0 t6 bz j j0 j1 n => ?_)
      by_cases w : j = i
      · subst w
        exact absurd (show bt on j = 0 from if_pos c1) n
      · exact I t t0 t6 bz j j0 (by lia) n
    rw [if_neg c1]
    by_cases c2 : P 5 (A.1 1 i) = -1
    · rw [if_pos c2]
      refine ih (by lia) b (fun t t0 t6 bz j j0 j1 n => ?_)
      by_cases w : j = i
      · subst w
        rw [c2]
        lia
      · exact I t t0 t6 bz j j0 (by lia) n
    rw [if_neg c2]
    refine ih (by lia) _ (fun t t0 t6 bz j j0 j1 n => ?_)
    obtain ⟨b1, b2⟩ := bt_or.mp bz
    by_cases w : j = i
    · subst w
      intro z
      rw [z] at b2
      rw [bt_sh t0 t6] at b2
      exact absurd b2 (by decide)
    · exact I t t0 t6 b1 j j0 (by lia) n
/-- the class fills them -/
theorem flC2 {h : Hp} {P : Pl} {L : Lw} {M : Mo} {A : Aw} {s n : Int32} (ok : POK P) (c : CH h P L M 75 A) : ∃ h', lp_Fo_noneFalls_6 TC fu h 74 s n 0 = ((wI TC h' 89 s 0).bind fun h1 => lp_Fo_noneFalls_51 TC fu h1 74 s n 0) ∧ CH h' P L M 75 (fw A s) ∧ Fr (WS 75) h h' := by
  have o1 := ok.1
  have W7 : WC 75 := .inr (.inr (.inl rfl))
  have g3 := c.g.1.2.2.2.1
  obtain ⟨h', e, I1, I2, I3⟩ := loopF (S := Unit) (R := Int32 × Hp) (f := fun _ s => s) (N := P 0 3) (lp := fun m h k => lp_Fo_noneFalls_6 TC m h 74 s n k) (res := fun h' => (wI TC h' 89 s 0).bind fun h1 => lp_Fo_noneFalls_51 TC fu h1 74 s n 0) (fun k _ h' => h'.2 = h.2 ∧ (∀ d, ¬ d = 81 → h'.1 d = h.1 d) ∧ ∀ j, 0 ≤ j → j < P 0 3 → h'.1 81 (ix j) = if j < k then (fw A s).1 6 j else A.1 6 j) (by lia) (by lia)
    (fun m h' _ I => by
      simp only [lp_Fo_noneFalls_6, lyC]
      rw [I.2.1 26 (by decide), g3, if_pos (by lia)])
    (fun m h' k _ k0 k1 I => by
      obtain ⟨i1, i2, i3⟩ := I
      have k6 : k < 6 := by lia
      have e3 : h'.1 26 3 = P 0 3 := by rw [i2 26 (by decide)]; exact g3
      have fr := fw_r (A := A) (s := s) k0 k6
      by_cases z : s &&& ((1 : Int32) <<< (k &&& 31)) = 0
      · have bz : bt s k = 0 := if_pos z
        rw [if_pos bz] at fr
        refine ⟨h', ?_, i1, i2, fun j j0 j1 => ?_⟩
        · simp only [lp_Fo_noneFalls_6]
          unfold jb_Fo_noneFalls_36
          simp only [lyC, nmd_q]
          rw [e3, if_neg (by lia), if_pos z]
        · rw [i3 j j0 j1]
          by_cases d : j = k
          · subst d
            rw [if_neg (by lia), if_pos (by lia), fr]
          · by_cases d2 : j < k
            · rw [if_pos d2, if_pos (by lia)]
            · rw [if_neg d2, if_neg (by lia)]
      · have bz : ¬ bt s k = 0 := by
          unfold bt
          rw [if_neg z]
          decide
        rw [if_neg bz] at fr
        refine ⟨pI h' 81 (ix k) 99, ?_, by rw [pI_l]; exact i1, fun d hd => by rw [pI_f hd]; exact i2 d hd, fun j j0 j1 => ?_⟩
        · simp only [lp_Fo_noneFalls_6]
          unfold jb_Fo_noneFalls_36
          simp (disch := first | assumption | decide | omega) only [lyC, nmd_q, bnd_q, wtC]
          rw [e3, if_neg (by lia), if_neg z]
        · rw [pI_ix k0 j0]
          by_cases d : j = k
          · subst d
            rw [if_pos rfl, if_pos (by lia), fr]
          · rw [if_neg d, i3 j j0 j1]
            by_cases d2 : j < k
            · rw [if_pos d2, if_pos (by lia)]
            · rw [if_neg d2, if_neg (by lia)]) 0 (by decide) (by lia) () h ⟨rfl, fun _ _ => rfl, fun r r0 r1 => by rw [if_neg (by lia)]; exact c.2.2.2.2.1 r r0 r1⟩
  have f : Fr (WS 75) h h' := fun d hd => ⟨I2 d (fun z => hd (by unfold WS; omega)), by rw [I1]⟩
  refine ⟨h', e, c.chU W7 f ?_, f⟩
  obtain ⟨c1, c2, c3, c4⟩ := c.2.2.2
  refine ⟨fun r a b i i0 i1 => ?_, fun t t0 t1 => ?_, ?_, ?_⟩
  · rw [I2 _ (by omega), fw_n (by omega)]
    exact c1 r a b i i0 i1
  · have := I3 t t0 t1
    rwa [if_pos t1] at this
  · rw [I2 75 (by decide)]
    simp only [fw_n (show ¬ 0 = 6 by decide)]
    exact c3
  · rw [I1, fw_2]
    exact c4
/-- the class's hours with these filled -/
theorem nofC {b : Hp} {P : Pl} {L : Lw} {A : Aw} {s n : Int32} (ok : POK P) (lk : LOK L) (wo : WOK P A) (on : ONK P 0 A) (s0 : 0 ≤ s) (s6 : s < 64) (n1 : 1 ≤ n) (n6 : n ≤ 60) (c : CH b P L (mT P) 75 (fw A s)) (e45 : b.1 45 2 = A.1 0 2) (e89 : b.1 89 (ix s) = 0) : ∃ r t, lp_Fo_noneFalls_51 TC fu b 74 s n 0 = some (r, t) ∧ Fr (fun c => WS 75 c ∨ c = 89) b t ∧ (∀ d, ¬ d = ix s → t.1 89 d = b.1 89 d) ∧ ((r = 0 ∧ VOK P L A n s (t.1 89 (ix s))) ∨ (r = 1 ∧ nfp P L A n s)) := by
  have W7 : WC 75 := .inr (.inr (.inl rfl))
  have w := fw_ok (s := s) wo on
  have r0 : (0 : Int32) < 64 := by decide
  refine loop_fu (N := n) (P := fun m i => i ≤ n → ∀ h, CH h P L (mT P) 75 (hrN P L (mT P) i (fw A s)) → Fr (fun c => WS 75 c ∨ c = 89) b h → (∀ d, ¬ d = ix s → h.1 89 d = b.1 89 d) → (∀ k, 0 ≤ k → k < i → (hrN P L (mT P) k (fw A s)).1 0 2 = A.1 0 2) → (∀ t, 0 ≤ t → t < 6 → bt (h.1 89 (ix s)) t = 0 → ∀ k, 1 ≤ k → k ≤ i → ∀ j, 0 ≤ j → j < P 0 4 → ¬ bt (A.1 0 2) j = 0 → ¬ P 5 ((hrN P L (mT P) k (fw A s)).1 1 j) = t) → ∃ r t, lp_Fo_noneFalls_51 TC m h 74 s n i = some (r, t) ∧ Fr (fun c => WS 75 c ∨ c = 89) b t ∧ (∀ d, ¬ d = ix s → t.1 89 d = b.1 89 d) ∧ ((r = 0 ∧ VOK P L A n s (t.1 89 (ix s))) ∨ (r = 1 ∧ nfp P L A n s))) (by lia) ?_ ?_ 0 (by decide) (by lia) b (by rw [hrN_0]; exact c) Fr.rf (fun _ _ => rfl) (fun k a b => absurd b (by lia)) (fun t _ _ _ k a b => absurd b (by lia))
  · intro m i i0 i1 i2 h ch f gd K V
    have e : i = n := by lia
    subst e
    have a1 : h.1 75 2 = (hrN P L (mT P) i (fw A s)).1 0 2 := ch.g.2.2.1.2.1
    have a2 : h.1 45 2 = A.1 0 2 := by rw [(f 45 (fun q => by unfold WS at q; omega)).1]; exact e45
    simp only [lp_Fo_noneFalls_51]
    unfold jb_Fo_noneFalls_111
    simp only [lyC]
    rw [if_pos (by lia), a1, a2]
    by_cases z : (hrN P L (mT P) i (fw A s)).1 0 2 = A.1 0 2
    · rw [if_pos z]
      exact ⟨1, h, rfl, f, gd, .inr ⟨rfl, z⟩⟩
    · rw [if_neg z]
      exact ⟨0, h, rfl, f, gd, .inl ⟨rfl, i, i0, by lia, z, K, V⟩⟩
  · intro m i i0 i1 ih _ h ch f gd K V
    have a1 : h.1 75 2 = (hrN P L (mT P) i (fw A s)).1 0 2 := ch.g.2.2.1.2.1
    have a2 : h.1 45 2 = A.1 0 2 := by rw [(f 45 (fun q => by unfold WS at q; omega)).1]; exact e45
    have wi := hrN_ok (L := L) (N := i) ok (mT_ok (P := P)) w.1 w.2 i0
    simp only [lp_Fo_noneFalls_51]
    unfold jb_Fo_noneFalls_111
    simp only [lyC]
    rw [if_neg (show ¬ n ≤ i by lia), a1, a2]
    by_cases z : (hrN P L (mT P) i (fw A s)).1 0 2 = A.1 0 2
    case neg =>
      rw [if_neg z, if_neg z]
      exact ⟨0, h, rfl, f, gd, .inl ⟨rfl, i, i0, by lia, z, K, V⟩⟩
    rw [if_pos z]
    obtain ⟨u, e1, c1, f1⟩ := paC (N := 1) mT_ok W7 ok lk wi.1 ch wi.2 (by decide) (by decide)
    rw [hrN_1, ← hrN_s i0 (by lia)] at c1
    have wi1 := hrN_ok (L := L) (N := i + 1) ok (mT_ok (P := P)) w.1 w.2 (by lia)
    have u89 : u.1 89 = h.1 89 := (f1 89 (fun q => by unfold WS at q; omega)).1
    have u45 : u.1 45 2 = A.1 0 2 := by rw [(f1 45 (fun q => by unfold WS at q; omega)).1]; exact a2
    obtain ⟨r3, e3, t3⟩ := toC (on := A.1 0 2) ok wi1.1 c1
    rw [e1, bnd_q]
    simp (disch := first | assumption | decide | omega) only [rdC, bnd_q, u45, e3, wtC, nmd_q]
    have f2 : Fr (fun c => WS 75 c ∨ c = 89) b (pI u 89 (ix s) (u.1 89 (ix s) ||| r3)) := (f.tr (f1.mono fun c q => .inl q)).tr (Fr.pI (.inr rfl))
    have fp : Fr (fun c => c = 89) u (pI u 89 (ix s) (u.1 89 (ix s) ||| r3)) := Fr.pI rfl
    refine ih (by lia) _ ⟨c1.1.mv fp (fun c q => by omega), c1.2.1.mv fp (fun c q => by omega), by
      rw [(fp 72 (by decide)).1]
      exact c1.2.2.1, c1.2.2.2.mv fp (fun c q => by omega)⟩ f2 (fun d hd => ?_) (fun k k0 k1 => ?_) (fun t t0 t6 bz k k0 k1 j j0 j1 nj => ?_)
    · rw [pI_t, if_neg hd, u89]
      exact gd d hd
    · by_cases q : k = i
      · rw [q]
        exact z
      · exact K k k0 (by lia)
    · rw [pI_t, if_pos rfl, u89] at bz
      obtain ⟨b1, b2⟩ := bt_or.mp bz
      by_cases q : k = i + 1
      · rw [q]
        exact t3 t t0 t6 b2 j j0 j1 nj
      · exact V t t0 t6 b1 k k0 (by lia) j j0 j1 nj
/-- fewer were tried in vain -/
theorem chC {h : Hp} {P : Pl} {L : Lw} {M : Mo} {A : Aw} {n s : Int32} (ok : POK P) (wo : WOK P A) (on : ONK P 0 A) (n6 : n ≤ 60) (c : CH h P L M 45 A) (s0 : 0 ≤ s) (s1 : s < 64) (V : ∀ u, 0 ≤ u → u < s → cn u < cn s → VOK P L A n u (h.1 89 (ix u))) : ∃ r t, f_Fo_canHelp TC h 74 s = some (r, t) ∧ ((r = 0 ∧ ∃ v, t = pI h 89 (ix s) v ∧ VOK P L A n s v) ∨ (¬ r = 0 ∧ t = h)) := by
  have o1 := ok.1
  have g3 := c.g.1.2.2.2.1
  unfold f_Fo_canHelp
  refine loop_fu (N := P 0 3) (P := fun m i => i ≤ P 0 3 → ∃ r t, lp_Fo_canHelp_2 TC m h 74 s i = some (r, t) ∧ ((r = 0 ∧ ∃ v, t = pI h 89 (ix s) v ∧ VOK P L A n s v) ∨ (¬ r = 0 ∧ t = h))) (by lia) ?_ ?_ 0 (by decide) (by lia)
  · intro m i i0 i1 i2
    simp only [lp_Fo_canHelp_2, lyC]
    rw [g3, if_pos i1]
    exact ⟨1, h, rfl, .inr ⟨by decide, rfl⟩⟩
  · intro m i i0 i1 ih _
    have i6 : i < 6 := by lia
    simp only [lp_Fo_canHelp_2, nmd_q]
    unfold jb_Fo_canHelp_52
    simp only [lyC, nmd_q]
    rw [g3, if_neg (show ¬ P 0 3 ≤ i by lia)]
    by_cases z : s &&& ((1 : Int32) <<< (i &&& 31)) = 0
    · rw [if_pos z]
      exact ih (by lia)
    rw [if_neg z]
    have bz : ¬ bt s i = 0 := by
      unfold bt
      rw [if_neg z]
      decide
    obtain ⟨x0, x1, x2, -⟩ := xro s0 s1 i0 i6 bz
    have x64 : s ^^^ ((1 : Int32) <<< (i &&& 31)) < 64 := by lia
    have vv := V _ x0 x1 x2
    simp (disch := first | assumption | decide | omega) only [rdC, bnd_q, wtC]
    by_cases d : h.1 89 (ix (s ^^^ ((1 : Int32) <<< (i &&& 31)))) &&& ((1 : Int32) <<< (i &&& 31)) = 0
    · rw [if_pos d]
      have bd : bt (h.1 89 (ix (s ^^^ ((1 : Int32) <<< (i &&& 31))))) i = 0 := if_pos d
      exact ⟨0, _, rfl, .inl ⟨rfl, _, rfl, VOK.ex ok wo on n6 s0 s1 i0 i6 bz bd vv⟩⟩
    · rw [if_neg d]
      exact ih (by lia)
/-- the reference fills them -/
theorem flR2 {h : Hp} {P : Pl} {L : Lw} {M : Mo} {A : Aw} {n r s : Int32} {c22 : Hp → Nat → Int32 → Int32 → Int32 → Option (Int32 × Hp)} (ok : POK P) (s0 : 0 ≤ s) (s6 : s < 64) (w0 : ∀ t, 0 ≤ t → t < P 0 3 → h.1 33 (ix t) = A.1 6 t) (x : RH h P L M False 1 A) : ∃ h', lp_Md_pump_57 TR c22 fu h 0 n r s 0 = ((f_Md_goMany TR h' 0 n).bind fun r1 => (f_Md_onMany TR r1 0 1).bind fun r2 => (f_Md_onMany TR r1 0 0).bind fun r3 => if r2 = r3 then jb_Md_pump_123 TR c22 r1 0 n s s else jb_Md_pump_123 TR c22 r1 0 n r s) ∧ RH h' P L M False 1 (fw A s) ∧ KF h h' := by
  have o1 := ok.1
  have e12 := x.1.1.1
  obtain ⟨h', e, g, e2, e3⟩ := loopF (S := Unit) (R := Int32 × Hp) (f := fun _ s => s) (N := P 0 3) (lp := fun m h i => lp_Md_pump_57 TR c22 m h 0 n r s i) (res := fun h' => (f_Md_goMany TR h' 0 n).bind fun r1 => (f_Md_onMany TR r1 0 1).bind fun r2 => (f_Md_onMany TR r1 0 0).bind fun r3 => if r2 = r3 then jb_Md_pump_123 TR c22 r1 0 n s s else jb_Md_pump_123 TR c22 r1 0 n r s) (fun i _ h' => (∀ c s, ¬ (c = 33 ∧ 6 ≤ s) → h'.1 c s = h.1 c s) ∧ h'.2 = h.2 ∧ ∀ t, 0 ≤ t → t < i → h'.1 33 (ix (6 + t)) = (fw A s).1 6 t) (by lia) (by lia)
    (fun m h2 _ q => by
      simp only [lp_Md_pump_57]
      rw [q.1 0 12 (by decide), e12, if_pos (show P 0 3 ≤ P 0 3 by lia)])
    (fun m h2 i _ i0 i1 q => by
      have i6 : i < 6 := by lia
      have i12 : i < 12 := by lia
      have j0 : 0 ≤ 6 + i := by lia
      have j12 : 6 + i < 12 := by lia
      have l6 := ix_lt (n := 6) i0 (by decide) i6
      have e33 : h2.1 33 (ix i) = A.1 6 i := by rw [q.1 33 _ (by omega)]; exact w0 i i0 i1
      refine ⟨pI h2 33 (ix (6 + i)) ((fw A s).1 6 i), ?_, ?_, ?_, ?_⟩
      · rw [fw_r i0 i6]
        simp only [lp_Md_pump_57]
        unfold jb_Md_pump_96
        simp (disch := first | assumption | decide | omega) only [lyR, rdR, wtR, bnd_q, nmd_q, e33]
        rw [q.1 0 12 (by decide), e12, if_neg (show ¬ P 0 3 ≤ i by lia), isO s0 s6 i0 i6]
        by_cases z : bt s i = 0
        · rw [if_pos z, if_pos z]
        · rw [if_neg z, if_neg z]
      · intro c s z
        rw [pI_x (by rw [ix_6 i0 i6]; omega)]
        exact q.1 c s z
      · rw [pI_l]
        exact q.2.1
      · intro t t0 t1
        rw [pI_ix j0 (show 0 ≤ 6 + t by lia)]
        by_cases z : t = i
        · rw [z, if_pos rfl]
        · rw [if_neg (by lia)]
          exact q.2.2 t t0 (by lia)) 0 (by decide) (by lia) () h ⟨fun _ _ _ => rfl, rfl, fun t a b => absurd b (by lia)⟩
  refine ⟨h', e, ⟨x.1.m4 (fun c s a b => g c s (by omega)) (fun s _ _ => g 0 s (by omega)), x.2.1.mv (fun c s a b => g c s (by omega)), ?_, ?_, ?_⟩, ⟨fun c s q => g c s (fun z => q (by unfold RX; omega)), fun c s _ => by rw [e2], fun q s => by rw [g 31 s (by omega)]; exact q s⟩⟩
  · have m := x.2.2.1
    unfold RMo at m ⊢
    rw [g 0 72 (by omega), g 0 71 (by omega)]
    exact m
  · have m := x.2.2.2.1
    unfold RR at m ⊢
    rw [g 0 70 (by omega), g 0 69 (by omega), e2, fw_2]
    exact m
  · obtain ⟨x1, x2, x3, x4, x5, x6, x7⟩ := x.2.2.2.2
    refine ⟨fun j j0 j1 => ?_, fun j j0 j1 => ?_, fun j j0 j1 => ?_, fun j j0 j1 => ?_, fun j j0 j1 => ?_, fun j j0 j1 => ?_, ?_⟩
    · rw [g 27 _ (by omega), fw_n (by decide)]; exact x1 j j0 j1
    · rw [g 28 _ (by omega), fw_n (by decide)]; exact x2 j j0 j1
    · rw [g 29 _ (by omega), fw_n (by decide)]; exact x3 j j0 j1
    · rw [g 30 _ (by omega), fw_n (by decide)]; exact x4 j j0 j1
    · rw [g 31 _ (by omega), fw_n (by decide)]; exact x5 j j0 j1
    · rw [i61]
      exact e3 j j0 j1
    · rw [g 34 _ (by omega), g 35 _ (by omega), g 36 _ (by omega), g 37 _ (by omega), g 38 _ (by omega), g 39 _ (by omega)]
      simp only [fw_n (show ¬ 0 = 6 by decide)]
      exact x7
/-- the trial begun, with what else it leaves alone -/
theorem btC2 {h : Hp} {P : Pl} {L : Lw} {A : Aw} (ok : POK P) (x : CNo h P L A) : ∃ h', f_Fo_beginTrial TC h 74 = some h' ∧ CH h' P L (mT P) 75 A ∧ Fr (fun c => c = 72 ∨ WR 75 c) h h' := by
  unfold f_Fo_beginTrial
  simp only [lyC]
  obtain ⟨h1, e1, y1, f1⟩ := beC (w := 75) (v := 45) (by unfold WC; omega) (by unfold WC; omega) (by decide) ok x.2.2
  have f1' : Fr SC h h1 := f1.mono fun c q => by unfold WR at q; unfold SC; omega
  have x1 := x.mv f1'
  obtain ⟨f2, e2, e3, e4⟩ := aigC x1.1
  have f2' : Fr SC h1 (f_Ho_asItGoes TC h1 72) := f2.mono fun c q => by unfold SC; omega
  have x2 := x1.mv f2'
  rw [e1, bnd_q, nmd_q]
  exact ⟨_, rfl, ⟨x2.1, x2.2.1, ⟨e2, e3, e4⟩, y1.mv f2 (fun c q => by omega)⟩, (f1.mono fun c q => .inr q).tr (f2.mono fun c q => .inl q)⟩
theorem sp_pump : SP_pump Rl := by
  intro hC hR a1 hr
  obtain ⟨P, L, A, B, X, U, p, x, y⟩ := hr
  have ok := p.1
  have o1 := ok.1
  have lk := p.2.1
  have wo := p.2.2.1
  have g := x.1.h.g
  simp only [Nat.reduceAdd] at g
  have xh := x.1.h
  have y1 := y.th (v := 0) ok
  have k := y1.1.g
  have sx := x.2.2.1
  have sr := y1.2.2.1
  refine q2_of p x y1 ?_
  have on := p.2.2.2.1
  have e12 := k.1.1
  have g3 := g.1.2.2.2.1
  unfold f_Tt_pump f_Md_pump
  simp only [nmd_q, isIn_e]
  generalize pI hR 0 2 0 = h1 at y1 k sr e12 ⊢
  by_cases q : 1 ≤ a1 ∧ a1 ≤ 60
  case neg =>
    rw [if_neg q, if_pos (rfl : (0 : Int32) = 0)]
    by_cases c : a1 < 1
    · rw [if_pos c]
      exact ⟨_, _, _, rfl, rfl, Fr.rf, KF.rf⟩
    · rw [if_neg c, if_neg (by lia)]
      exact ⟨_, _, _, rfl, rfl, Fr.rf, KF.rf⟩
  rw [if_pos q, if_neg (show ¬ (1 : Int32) = 0 by decide), if_neg (show ¬ a1 < 1 by lia), if_pos q.2]
  have T0 : 0 ≤ P 0 3 := by lia
  have T6 : P 0 3 ≤ 6 := by lia
  obtain ⟨N0, N6⟩ := shN T0 T6
  obtain ⟨r, s, e1, f1, r1⟩ := srch (S := Hp) (R := Option (Int32 × Hp)) (C := Hp → Nat → Int32 → Int32 → Option (Int32 × Hp)) (T := P 0 3) (N := (1 : Int32) <<< (P 0 3 &&& 31)) (fun o => ∃ r s, o = some (r, s) ∧ Fr SC hC s ∧ SRs (nfp P L A a1) ((1 : Int32) <<< (P 0 3 &&& 31)) r) (fun c s k => c s 0 a1 k) (fun c n s k b => lp_Tt_pump_28 TC c n s 0 a1 k b) (fun n => lp_Tt_pump_15 TC n) (fun k b s => Fr SC hC s ∧ ∀ u, 0 ≤ u → u < (1 : Int32) <<< (P 0 3 &&& 31) → (cn u < k ∨ (cn u = k ∧ u < b)) → VOK P L A a1 u (s.1 89 (ix u))) T0 T6 N0 N6
    (fun n s I => by
      have xs := (x.mv I.1).1.h.g.1.2.2.2.1
      simp only [lp_Tt_pump_15, lyC]
      rw [xs, if_pos (by lia)]
      refine ⟨_, _, rfl, I.1, .inl ⟨rfl, fun u u0 u1 => (I.2 u u0 u1 (.inl ?_)).no ok wo on q.2⟩⟩
      have := cnT T0 T6 u0 u1
      lia)
    (fun n s k k0 k1 I => by
      have xs := (x.mv I.1).1.h.g.1.2.2.2.1
      simp only [lp_Tt_pump_15, lyC]
      rw [xs, if_neg (by lia)])
    (fun c n s k k0 k1 I => by
      have xs := (x.mv I.1).1.h.g.1.2.2.2.1
      simp only [lp_Tt_pump_28, lyC, nmd_q]
      rw [xs, if_pos (by lia)]
      refine ⟨rfl, I.1, fun u u0 u1 h => I.2 u u0 u1 ?_⟩
      by_cases z : cn u = k
      · exact .inr ⟨z, u1⟩
      · exact .inl (by lia))
    (fun c n s k b k0 k1 b0 b1 I => by
      have xs := x.mv I.1
      have xg := xs.1.h.g.1.2.2.2.1
      have b64 : b < 64 := by lia
      simp only [lp_Tt_pump_28, lyC, nmd_q]
      unfold jb_Tt_pump_74
      simp only [nmd_q]
      rw [xg, if_neg (by lia), bcH]
      by_cases z : cn b = k
      case neg =>
        rw [if_neg z]
        exact .inr ⟨s, rfl, I.1, fun u u0 u1 h => I.2 u u0 u1 (h.imp id (fun w => ⟨w.1, by
          by_cases d : u = b
          · rw [d] at w
            exact absurd w.1 z
          · have := w.2
            lia⟩))⟩
      rw [if_pos z]
      obtain ⟨r3, t3, w1, w2⟩ := chC (n := a1) ok wo on q.2 xs.1.h b0 b64 (fun u u0 u1 hu => I.2 u u0 (by lia) (.inl (by rw [← z]; exact hu)))
      rw [w1, bnd_q]
      have nxt : ∀ s' : Hp, Fr SC hC s' → (∀ d, ¬ d = ix b → s'.1 89 d = s.1 89 d) → VOK P L A a1 b (s'.1 89 (ix b)) → Fr SC hC s' ∧ ∀ u, 0 ≤ u → u < (1 : Int32) <<< (P 0 3 &&& 31) → (cn u < k ∨ (cn u = k ∧ u < b + 1)) → VOK P L A a1 u (s'.1 89 (ix u)) := fun s' fs gd vb => ⟨fs, fun u u0 u1 h => by
        by_cases d : u = b
        · rw [d]
          exact vb
        · rw [gd _ (fun w => d (by rwa [ix_e u0 b0] at w))]
          refine I.2 u u0 u1 (h.imp id (fun w => ⟨w.1, ?_⟩))
          have := w.2
          lia⟩
      rcases w2 with ⟨z0, v, z1, z2⟩ | ⟨z0, z1⟩
      · rw [if_pos z0, z1]
        refine .inr ⟨_, rfl, nxt _ (I.1.tr (Fr.pI (by unfold SC; omega))) (fun d hd => by rw [pI_t, if_neg hd]) ?_⟩
        rw [pI_t, if_pos rfl]
        exact z2
      rw [if_neg z0, z1]
      obtain ⟨u1, d1, d2, d3⟩ := btC2 ok xs.1
      obtain ⟨u2, d4, d5, d6⟩ := flC2 (s := b) (n := a1) ok d2
      have d45 : u2.1 45 2 = A.1 0 2 := by
        rw [(d6 45 (fun q => by unfold WS at q; omega)).1, (d3 45 (fun q => by unfold WR at q; omega)).1]
        exact xs.1.h.g.2.2.1.2.1
      have fp : Fr (fun c => c = 89) u2 (pI u2 89 (ix b) 0) := Fr.pI rfl
      have d7 : CH (pI u2 89 (ix b) 0) P L (mT P) 75 (fw A b) := ⟨d5.1.mv fp (fun c q => by omega), d5.2.1.mv fp (fun c q => by omega), by
        rw [(fp 72 (by decide)).1]
        exact d5.2.2.1, d5.2.2.2.mv fp (fun c q => by omega)⟩
      obtain ⟨r4, t4, d8, d9, d10, d11⟩ := nofC (n := a1) ok lk wo on b0 b64 q.1 q.2 d7 (by rw [pI_n (by decide)]; exact d45) (by rw [pI_t, if_pos rfl])
      have fT : Fr SC s t4 := (((d3.mono fun c q => by unfold WR at q; unfold SC; omega).tr (d6.mono fun c q => SC.of (.inr (.inr (.inl rfl))) (by decide) q)).tr (Fr.pI (by unfold SC; omega))).tr (d9.mono fun c q => by
        rcases q with q | q
        · exact SC.of (.inr (.inr (.inl rfl))) (by decide) q
        · unfold SC; omega)
      have g89 : ∀ d, ¬ d = ix b → t4.1 89 d = s.1 89 d := fun d hd => by
        rw [d10 d hd, pI_t, if_neg hd, (d6 89 (fun q => by unfold WS at q; omega)).1, (d3 89 (fun q => by unfold WR at q; omega)).1]
      unfold f_Fo_noneFalls
      rw [d1, bnd_q, d4]
      simp (disch := first | assumption | decide | omega) only [wtC, bnd_q]
      rw [d8, bnd_q]
      rcases d11 with ⟨z3, z4⟩ | ⟨z3, z4⟩
      · rw [if_pos z3]
        exact .inr ⟨t4, rfl, nxt t4 (I.1.tr fT) g89 z4⟩
      · rw [if_neg (show ¬ r4 = 0 by rw [z3]; decide)]
        refine .inl ⟨b, t4, rfl, I.1.tr fT, .inr ⟨b0, b1, z4, fun u u0 u1 pu => ?_⟩⟩
        have no : ¬ (cn u < k ∨ (cn u = k ∧ u < b)) := fun h => (I.2 u u0 u1 h).no ok wo on q.2 pu
        rw [z]
        by_cases w : cn u = k
        · exact .inr ⟨w.symm, by
            by_cases d : u < b
            · exact absurd (.inr ⟨w, d⟩) no
            · lia⟩
        · exact .inl (by
            by_cases d : cn u < k
            · exact absurd (.inl d) no
            · lia)) hC ⟨Fr.rf, fun u u0 u1 h => absurd h (by have := cn0 (s := u) u0 (by lia); lia)⟩
  obtain ⟨r', s', e2, f2, r2⟩ := srchR (S := Hp) (R := Option (Int32 × Hp)) (N := (1 : Int32) <<< (P 0 3 &&& 31)) (fun o => ∃ r s, o = some (r, s) ∧ KF h1 s ∧ SRs (nfp P L A a1) ((1 : Int32) <<< (P 0 3 &&& 31)) r) (fun n s r b => lp_Md_pump_22 TR n s 0 a1 r b) (fun b r s => KF h1 s ∧ SRs (nfp P L A a1) b r) N0 N6
    (fun n s r I => by
      have k2 := (y1.mv ok I.1).1.g.1.1
      simp only [lp_Md_pump_22]
      rw [k2, if_pos (by lia)]
      exact ⟨_, _, rfl, I.1, I.2⟩)
    (fun n s r b b0 b1 I => by
      have ys := y1.mv ok I.1
      have k2 := ys.1.g.1.1
      have b64 : b < 64 := by lia
      have j50 : (r < 0 ∨ cn b < cn r) → ∃ s' r', jb_Md_pump_50 TR (lp_Md_pump_22 TR n) s 0 a1 r b = lp_Md_pump_22 TR n s' 0 a1 r' (b + 1) ∧ KF h1 s' ∧ SRs (nfp P L A a1) (b + 1) r' := fun hh => by
        obtain ⟨u, d1, d2, -, d4, -⟩ := ltR ok ys.1
        have w0 : ∀ t, 0 ≤ t → t < P 0 3 → u.1 33 (ix t) = A.1 6 t := (ys.mv ok d4).1.g.2.2.2.2.2.2.2.2.2.2.2.2.2.2.2.2.1
        obtain ⟨u2, d5, d6, d7⟩ := flR2 (n := a1) (r := r) (c22 := lp_Md_pump_22 TR n) ok b0 b64 w0 d2
        have w := fw_ok (s := b) wo on
        obtain ⟨u3, d8, d9, d10⟩ := gmR (b := 0) (N := a1) mT_ok ok lk w.1 d6 w.2 (by lia) (by lia)
        have kT : KF h1 u3 := ((I.1.tr d4).tr d7).tr d10.KF
        have rk := (y1.mv ok kT).1
        have o1' := omR (h := u3) (b := 1) (A := hrN P L (mT P) a1 (fw A b)) (.inr rfl) ok rk.g.1.2.1 d9.2.2.2.2.2.2.2.2.1
        have o0 := omR (h := u3) (b := 0) (A := A) (.inl rfl) ok rk.g.1.2.1 rk.2.2.1.2.2.2.2.1
        have wn := hrN_ok (L := L) (N := a1) ok (mT_ok (P := P)) w.1 w.2 (by lia)
        have e0 : (fw A b).1 0 2 = A.1 0 2 := fw_n (by decide)
        have sub : ∀ j, 0 ≤ j → j < 6 → bt (A.1 0 2) j = 0 → bt ((hrN P L (mT P) a1 (fw A b)).1 0 2) j = 0 := by
          have := hrN_on (L := L) (N := a1) ok (mT_ok (P := P)) w.1 w.2 (by lia)
          rw [e0] at this
          exact this
        have m1 := (ms wo.2.2.1 wo.2.2.2.1 wn.1.2.2.1 wn.1.2.2.2.1 sub).1
        have c1 := bc_e (h := h00) (m := (hrN P L (mT P) a1 (fw A b)).1 0 2) (N := P 0 4) (by lia) (by lia) wn.1.2.2
        have c0 := bc_e (h := h00) (m := A.1 0 2) (N := P 0 4) (by lia) (by lia) wo.2.2
        have iff : onm ((hrN P L (mT P) a1 (fw A b)).1 0 2) (P 0 4) = onm (A.1 0 2) (P 0 4) ↔ nfp P L A a1 b := by
          rw [← c1, ← c0]
          exact ⟨fun z => m1 z, fun z => by
            unfold nfp at z
            rw [z]⟩
        unfold jb_Md_pump_50
        rw [d1, bnd_q, d5, d8, bnd_q, o1', o0, bnd_q, bnd_q]
        unfold jb_Md_pump_123
        simp only [nmd_q]
        by_cases z : onm ((hrN P L (mT P) a1 (fw A b)).1 0 2) (P 0 4) = onm (A.1 0 2) (P 0 4)
        · rw [if_pos z]
          exact ⟨u3, b, rfl, kT, I.2.yes b0 b64 (iff.mp z) hh⟩
        · rw [if_neg z]
          exact ⟨u3, r, rfl, kT, I.2.no b0 b64 (.inl (fun w => z (iff.mpr w)))⟩
      simp only [lp_Md_pump_22]
      rw [k2, if_neg (by lia)]
      by_cases z : r < 0
      · rw [if_pos z]
        exact j50 (.inl z)
      · have rb : r < b := by
          rcases I.2 with J | J
          · exact absurd (show r < 0 by rw [J.1]; decide) z
          · exact J.2.1
        rw [if_neg z, moR b0 b64, moR (by lia) (by lia), bnd_q, bnd_q]
        by_cases z3 : cn b < cn r
        · rw [if_pos z3]
          exact j50 (.inr z3)
        · rw [if_neg z3]
          unfold jb_Md_pump_123
          simp only [nmd_q]
          exact ⟨s, r, rfl, I.1, I.2.no b0 b64 (.inr ⟨by lia, by lia⟩)⟩) h1 (-2) ⟨KF.rf, .inl ⟨rfl, fun s s0 s1 => absurd s1 (by lia)⟩⟩
  rw [r1.eq r2] at e1
  exact ⟨r', s, s', e1, e2, f1, f2⟩
