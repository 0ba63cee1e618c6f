theorem up_1 {A : Aw} {r a : Nat} {i b x : Int32} : (up A r i x).1 a b = if a = r then (if b = i then x else A.1 a b) else A.1 a b := Eq.trans rfl rfl
theorem way_ok {p t w l : Int32} (h : 0 ≤ p) (h2 : p ≤ l) (hy : 0 ≤ t) (hy2 : t ≤ l) (hl : l ≤ 60) (h0 : 1 ≤ w) (h9 : w ≤ 18) : 0 ≤ p + mxI (-w) (mnI w (t - p)) ∧ p + mxI (-w) (mnI w (t - p)) ≤ l := by
  unfold mxI mnI
  split <;> split <;> (constructor <;> lia)
theorem wk1_ok {P : Pl} {M : Mo} {A : Aw} {i : Int32} (ok : POK P) (mo : MOK M) (w : WOK P A) (h0 : 0 ≤ i) (h1 : i < P 0 4) : WOK P (wk1 P M i A) := by
  unfold wk1
  by_cases q : 0 ≤ A.1 4 i ∧ A.1 4 i < P 0 3
  · rw [if_pos q]
    obtain ⟨o1, o2, o3, o4, o5⟩ := ok
    obtain ⟨w1, w2, w3⟩ := w
    have hw := way_ok (l := P 0 0) (w := P 10 i * M.2.2) (w1 i h0 h1).1 (w1 i h0 h1).2.1 (o2 _ q.1 q.2).1 (o2 _ q.1 q.2).2.1 (by grind) (by have := o4 i h0 h1; rcases mo with e | e <;> rw [e] <;> grind) (by have := o4 i h0 h1; rcases mo with e | e <;> rw [e] <;> grind)
    refine ⟨fun h a b => ?_, fun t a b => ?_, ?_⟩
    · have := w1 h a b
      simp only [up_1]
      grind
    · simp only [up_1]
      exact w2 t a b
    · simp only [up_1]
      exact w3
  · rw [if_neg q]
    exact w
theorem wk2_ok {P : Pl} {L : Lw} {M : Mo} {A : Aw} {i : Int32} (w : WOK P A) (h0 : 0 ≤ i) (h1 : i < P 0 4) (ht : A.1 2 i < 100) : WOK P (wk2 P L M i A) := by
  unfold wk2
  have ha := amt_ok (L := L) (nm := nmL P M.2.2 A i) (q := 0) (oth := 1) (by decide) (by decide)
  obtain ⟨w1, w2, w3⟩ := w
  refine ⟨fun h a b => ?_, fun t a b => ?_, ?_⟩
  · have := w1 h a b
    clear w1 w2 w3
    simp only [up_1]
    grind
  · simp only [up_1]
    exact w2 t a b
  · simp only [up_1]
    exact w3
theorem wk_ok {P : Pl} {L : Lw} {M : Mo} {A : Aw} {i : Int32} (ok : POK P) (mo : MOK M) (w : WOK P A) (on : ONK P i A) (h0 : 0 ≤ i) (h1 : i < P 0 4) : WOK P (wk P L M i A) ∧ ONK P (i + 1) (wk P L M i A) := by
  unfold wk
  have o1 := ok.1
  by_cases q : bt (A.1 0 2) i = 0
  · rw [if_pos q]
    exact ⟨w, fun h a b c => on h (by lia) b c⟩
  · rw [if_neg q]
    have q1 : bt (A.1 0 2) i = 1 := by have := bt_01 (A.1 0 2) i; grind
    have e2 : (wk1 P M i A).1 2 = A.1 2 := by
      unfold wk1
      split
      · funext j; simp [up_1]
      · rfl
    have e0 : (wk1 P M i A).1 0 = A.1 0 := by
      unfold wk1
      split
      · funext j; simp [up_1]
      · rfl
    refine ⟨wk2_ok (wk1_ok ok mo w h0 h1) h0 h1 (by rw [e2]; exact on i (by lia) h1 q1), fun h a b c => ?_⟩
    unfold wk2 at c ⊢
    simp only [up_1, e0, e2] at c ⊢
    have := on h (by lia) b
    clear on w ok e0 e2
    grind
theorem dk1_ok {P : Pl} {A : Aw} {i t g : Int32} (w : WOK P A) (h0 : 0 ≤ i) (h1 : i < P 0 4) (t0 : 0 ≤ t) (t1 : t < P 0 3) (g0 : 0 ≤ g) (g1 : g ≤ A.1 2 i) (g2 : g ≤ A.1 6 t) (g9 : g ≤ 99) : WOK P (dk1 A i t g) := by
  unfold dk1
  obtain ⟨w1, w2, w3⟩ := w
  refine ⟨fun h a b => ?_, fun t a b => ?_, ?_⟩
  · have := w1 h a b
    clear w1 w2 w3
    simp only [up_1]
    grind
  · have := w2 t a b
    clear w1 w2 w3
    simp only [up_1]
    grind
  · simp only [up_1]
    exact w3
theorem tat_ok {P : Pl} (ok : POK P) {p : Int32} (h0 : 0 ≤ p) (h1 : p ≤ P 0 0) (q : ¬ P 5 p = -1) : 0 ≤ P 5 p ∧ P 5 p < P 0 3 ∧ P 2 (P 5 p) = p := by
  obtain ⟨o1, o2, o3, o4, o5⟩ := ok
  rcases o3 p h0 (by grind) with e | e
  · exact absurd e q
  · exact e
theorem gul_ok {P : Pl} {L : Lw} {M : Mo} {A : Aw} {i : Int32} (w : WOK P A) (h0 : 0 ≤ i) (h1 : i < P 0 4) (t0 : 0 ≤ P 5 (A.1 1 i)) (t1 : P 5 (A.1 1 i) < P 0 3) : 0 ≤ gul P L M i A ∧ gul P L M i A ≤ A.1 2 i ∧ gul P L M i A ≤ A.1 6 (P 5 (A.1 1 i)) ∧ gul P L M i A ≤ 99 := by
  unfold gul
  have ha := amt_ok (L := L) (nm := nmL P M.2.2 A i) (q := 1) (oth := 9) (by decide) (by decide)
  have := w.1 i h0 h1
  have := w.2.1 _ t0 t1
  grind [mnI]
theorem dk_ok {P : Pl} {L : Lw} {M : Mo} {A : Aw} {i : Int32} (ok : POK P) (w : WOK P A) (h0 : 0 ≤ i) (h1 : i < P 0 4) : WOK P (dk P L M i A) := by
  unfold dk
  split
  · exact w
  split
  · exact w
  split
  · exact w
  split
  · exact w
  rename_i q1 q2 q3 q4
  have ww := w.1 i h0 h1
  obtain ⟨t0, t1, t2⟩ := tat_ok ok ww.1 ww.2.1 q2
  obtain ⟨g0, g1, g2, g3⟩ := gul_ok (L := L) (M := M) w h0 h1 t0 t1
  exact dk1_ok w h0 h1 t0 t1 g0 g1 g2 g3
theorem dz_ok {P : Pl} {A : Aw} (w : WOK P A) : WOK P (dz A) := by
  unfold dz
  obtain ⟨w1, w2, w3⟩ := w
  refine ⟨fun h a b => ?_, fun t a b => ?_, ?_⟩
  · have := w1 h a b
    dsimp only
    grind
  · exact w2 t a b
  · exact w3
/-- only what has no index changes, not who is on -/
theorem up0_ok {P : Pl} {A : Aw} {j x : Int32} (hj : ¬ j = 2) (w : WOK P A) : WOK P (up A 0 j x) := by
  obtain ⟨w1, w2, w3⟩ := w
  refine ⟨fun h a b => ?_, fun t a b => ?_, ?_⟩
  · simp only [up_1]
    exact w1 h a b
  · simp only [up_1]
    exact w2 t a b
  · simp only [up_1, if_true]
    rw [if_neg (fun e => hj e.symm)]
    exact w3
theorem hu_ok {P : Pl} {L : Lw} {M : Mo} {A : Aw} {i : Int32} (w : WOK P A) (h0 : 0 ≤ i) (h1 : i < P 0 4) : WOK P (hu P L M i A) := by
  unfold hu
  have ha := amt_ok (L := L) (nm := nmL P M.2.2 A i) (q := 2) (oth := 1) (by decide) (by decide)
  obtain ⟨w1, w2, w3⟩ := w
  refine ⟨fun h a b => ?_, fun t a b => ?_, ?_⟩
  · have := w1 h a b
    clear w1 w2 w3
    simp only [up_1]
    grind [mnI]
  · simp only [up_1]
    exact w2 t a b
  · simp only [up_1]
    exact w3
theorem me_ok {P : Pl} {L : Lw} {M : Mo} {A : Aw} {i j : Int32} (w : WOK P A) (h0 : 0 ≤ i) (h1 : i < P 0 4) (j0 : 0 ≤ j) (j1 : j < P 0 4) : WOK P (me P L M i j A) := by
  unfold me
  have tw : ∀ q, WOK P (tk A q) := fun q => up0_ok (by decide) (up0_ok (by decide) w)
  have fw : ∀ q x, WOK P (fg (fp A x) q) := fun q x => by
    refine up0_ok (by decide) (up0_ok (by decide) ?_)
    unfold fp
    split
    · exact up0_ok (by decide) w
    · exact w
  split
  · split
    · exact w
    split
    · exact w
    split
    · exact w
    split
    · exact tw _
    split
    · exact hu_ok (hu_ok (fw _ _) h0 h1) j0 j1
    · exact tw _
  · exact w
theorem cl_ok {P : Pl} {A : Aw} {i : Int32} (ok : POK P) (w : WOK P A) (h0 : 0 ≤ i) (h1 : i < P 0 4) : WOK P (up A 0 2 (clr (A.1 0 2) i)) := by
  obtain ⟨w1, w2, m0, m1, m2⟩ := w
  have o1 := ok.1
  have hc := fun j a b => clr_ok (m := A.1 0 2) (i := i) (j := j) m0 m1 h0 (by lia) a b
  refine ⟨fun h a b => ?_, fun t a b => ?_, ?_⟩
  · simp only [up_1]
    exact w1 h a b
  · simp only [up_1]
    exact w2 t a b
  · simp only [up_1, if_true]
    refine ⟨(hc i h0 (by lia)).2.1, (hc i h0 (by lia)).2.2, fun j a b => ?_⟩
    rw [(hc j (by lia) b).1, m2 j a b]
    split <;> rfl
theorem fl_ok {P : Pl} {A : Aw} {i : Int32} (ok : POK P) (w : WOK P A) (h0 : 0 ≤ i) (h1 : i < P 0 4) : WOK P (fl i A) := by
  unfold fl
  split
  · exact cl_ok ok w h0 h1
  split
  · exact w
  · exact cl_ok ok w h0 h1
theorem rn1_ok {P : Pl} {A : Aw} {t : Int32} (ok : POK P) (w : WOK P A) (h0 : 0 ≤ t) (h1 : t < P 0 3) : WOK P (rn1 P t A) := by
  unfold rn1
  obtain ⟨w1, w2, w3⟩ := w
  have hf := ok.2.1 t h0 h1
  clear ok
  refine ⟨fun h a b => ?_, fun t a b => ?_, ?_⟩
  · simp only [up_1]
    exact w1 h a b
  · rename_i tt
    have := w2 t a b
    have := w2 tt h0 h1
    clear w1 w2 w3
    simp only [up_1]
    grind [mnI]
  · simp only [up_1]
    exact w3
theorem fst_q {α β : Type} (a : α) (b : β) : (a, b).1 = a := Eq.trans rfl rfl
theorem snd_q {α β : Type} (a : α) (b : β) : (a, b).2 = b := Eq.trans rfl rfl
theorem drw_e {A : Aw} : drw A = (A.1, (A.2 * 1103515245 + 12345) &&& 2147483647) := rfl
theorem drw_1 {A : Aw} : (drw A).1 = A.1 := by rw [drw_e, fst_q]
theorem drw_2 {A : Aw} : (drw A).2 = (A.2 * 1103515245 + 12345) &&& 2147483647 := by rw [drw_e, snd_q]
theorem drw_ok {P : Pl} {A : Aw} (w : WOK P A) : WOK P (drw A) := by
  unfold WOK at w ⊢
  rw [drw_1]
  exact w
theorem rn_ok {P : Pl} {M : Mo} {A : Aw} {t : Int32} (ok : POK P) (w : WOK P A) (h0 : 0 ≤ t) (h1 : t < P 0 3) : WOK P (rn P M t A) := by
  unfold rn
  split
  · exact w
  split
  · exact rn1_ok ok w h0 h1
  split
  · exact drw_ok w
  · exact rn1_ok ok (drw_ok w) h0 h1
theorem lap_ok {P : Pl} {A : Aw} {l : Int32} (ok : POK P) (w : WOK P A) (h0 : 0 ≤ l) (h1 : l < P 0 5) : WOK P (lap1 P l A) := by
  unfold lap1
  split
  · obtain ⟨w1, w2, w3⟩ := w
    have := ok.2.2.2.2 l h0 h1
    refine ⟨fun h a b => ?_, fun t a b => ?_, ?_⟩
    · have := w1 h a b
      simp only [up_1]
      grind
    · simp only [up_1]
      exact w2 t a b
    · simp only [up_1]
      exact w3
  · exact w
