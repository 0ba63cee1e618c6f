/-! hours go by; ten times by chance -/
def upX (X : Pl) (r : Nat) (i v : Int32) : Pl := fun a b => if a = r then (if b = i then v else X a b) else X a b
theorem upX_s {X : Pl} {r : Nat} {i j v : Int32} : upX X r i v r j = if j = i then v else X r j := if_pos rfl
theorem upX_n {X : Pl} {r q : Nat} {i j v : Int32} (e : ¬ q = r) : upX X r i v q j = X q j := if_neg e
/-- modes by chance -/
theorem mBR {h : Hp} {P : Pl} {n : Int64} (e1 : ¬ h.1 0 69 = 0) (e2 : h.1 0 70 = 0) (e3 : h.1 0 71 = 0) (e4 : h.1 0 72 = 0) (e5 : h.2 0 67 = n) : RMo h (mB P) ∧ RR h P (mB P) True n :=
  ⟨⟨.inl ⟨e4, rfl⟩, ⟨fun _ => (show ¬ (1 : Int32) = 0 by decide), fun _ => e3⟩⟩, .inl ⟨e2, e1, rfl, e5, trivial⟩⟩
theorem RR.dr {h : Hp} {P : Pl} {M : Mo} {n : Int64} (x : RR h P M True n) (e1 : ¬ h.1 0 69 = 0) (e2 : h.1 0 70 = 0) : h.2 0 67 = n := by
  rcases x with x | ⟨-, x⟩ | x
  · exact x.2.2.2.1
  · rcases x with x | x
    · exact absurd e2 x
    · exact absurd x.1 e1
  · exact absurd x.2.2.1 e1
/-- the reference's hours in earnest -/
theorem goR {h : Hp} {P : Pl} {L : Lw} {A : Aw} {N : Int32} (ok : POK P) (lk : LOK L) (wo : WOK P A) (on : ONK P 0 A) (x : RH h P L (mB P) True 0 A) (rd : RD h 0 (P 0 4) A) (h0 : 0 ≤ N) (h1 : N ≤ 900) : ∃ h', lp_Md_go_43 TR fu h 0 N 0 = lp_Md_go_43 TR (0 + 1) h' 0 N N ∧ RH h' P L (mB P) True 0 (hrN P L (mB P) N A) ∧ RD h' 0 (P 0 4) (hrN P L (mB P) N A) ∧ RF 0 True h h' := by
  obtain ⟨h', e, ⟨i1, i2, i3⟩, i4, i5⟩ := loopF (f := fun _ A => hr P L (mB P) A) (N := N) (lp := fun n h i => lp_Md_go_43 TR n h 0 N i) (res := fun h => lp_Md_go_43 TR (0 + 1) h 0 N N) (fun i s h' => RI h P L (mB P) True 0 s h' ∧ ONK P 0 s ∧ RD h' 0 (P 0 4) s) h0 h1
    (fun n h s q => by
      rw [lp_Md_go_43, if_pos (by lia), lp_Md_go_43, if_pos (by lia)])
    (fun n h2 i s a b q => by
      obtain ⟨⟨q1, q2, q3⟩, q4, q5⟩ := q
      obtain ⟨h3, e, y, z, f⟩ := hrR mB_ok (.inl rfl) ok lk q2 q1 q4
      have w := hr_ok (L := L) ok (mB_ok (P := P)) q2 q4
      refine ⟨h3, ?_, ⟨y, w.1, q3.tr f⟩, w.2, z.1⟩
      rw [lp_Md_go_43, if_neg (by lia), e, bnd_q, nmd_q]) 0 (by decide) h0 A h ⟨⟨x, wo, RF.rf⟩, on, rd⟩
  exact ⟨h', e, i1, i5, i3⟩
theorem RRel.rf {h h' : Hp} {P : Pl} {L : Lw} {A A' B : Aw} {X : Pl} {U : Ud} (f : RF 0 True h h') (x : RRel h P L A B X U) (k : RK h' P L A') : RRel h' P L A' B X U := by
  have e6 : ix (6 * 0) = 0 := by decide
  have e0 : ix 0 = 0 := by decide
  have g : ∀ c, ¬ c = 0 → (c < 27 ∨ 39 < c) → h'.1 c = h.1 c := fun c a b => funext fun s => f.1 c s (fun z => by unfold RS at z; omega)
  have g0 : ∀ s, ¬ (s = 53 ∨ s = 68) → h'.1 0 s = h.1 0 s := fun s a => f.1 0 s (fun z => by unfold RS at z; omega)
  obtain ⟨x1, x2, x3, x4, x5, x6, x7⟩ := x
  refine ⟨k, ?_, ?_, ?_, ?_, ?_, by rw [g 2 (by decide) (by decide)]; exact x7⟩
  · unfold RIm SNP at x2 ⊢
    rw [g 44 (by decide) (by decide), g 45 (by decide) (by decide), f.2.1 0 83 (fun z => by rcases z with z | z | z <;> omega)]
    exact x2
  · rw [g0 1 (by decide), g0 4 (by decide), g0 5 (by decide), g0 16 (by decide), g0 80 (by decide), g0 78 (by decide), g0 74 (by decide), g0 75 (by decide)]
    exact x3
  · rw [g 1 (by decide) (by decide)]
    exact x4
  · unfold SNP at x5 ⊢
    rw [g 43 (by decide) (by decide)]
    exact x5
  · rw [g 41 (by decide) (by decide)]
    exact x6
/-- nothing to be undone -/
theorem PRel.fg {P : Pl} {L : Lw} {A A' B : Aw} {X : Pl} {U : Ud} (p : PRel P L A B X U) (wo : WOK P A') (on : ONK P 0 A') (t : TK A') : PRel P L A' B (upX X 0 5 0) (fun _ => A'.1) := by
  obtain ⟨p1, p2, p3, p4, p5, p6, p7, p8, p9, p10, p11, p12⟩ := p
  have e4 : upX X 0 5 0 0 4 = X 0 4 := by rw [upX_s, if_neg (by decide)]
  have e0 : upX X 0 5 0 0 0 = X 0 0 := by rw [upX_s, if_neg (by decide)]
  have e5 : upX X 0 5 0 0 5 = 0 := by rw [upX_s, if_pos rfl]
  refine ⟨p1, p2, wo, on, ?_, ?_, ?_, ?_, ⟨?_, ?_, ?_, ?_⟩, ?_, t, ?_⟩
  · rw [e4]; exact p5
  · rw [e4]; exact p6
  · rw [e0]; exact p7
  · rw [e0]
    intro j a b
    rw [upX_n (by decide)]
    exact p8 j a b
  · rw [e5]; decide
  · exact fun i _ _ => ⟨rfl, rfl⟩
  · exact fun i _ _ => rfl
  · intro k a b
    rw [e5] at b
    exact absurd b (by lia)
  · unfold SOK at p10 ⊢
    simp only [upX_n (show ¬ 11 = 0 by decide), upX_n (show ¬ 7 = 0 by decide), upX_n (show ¬ 8 = 0 by decide), upX_n (show ¬ 9 = 0 by decide), upX_n (show ¬ 10 = 0 by decide), upX_s, if_neg (show ¬ (6 : Int32) = 5 by decide), if_neg (show ¬ (7 : Int32) = 5 by decide)]
    exact p10
  · rw [e4]; exact p12
theorem CRel.fg {h : Hp} {P : Pl} {L : Lw} {A B : Aw} {X : Pl} (x : CRel h P L A B X) : CRel (pI h 59 0 0) P L A B (upX X 0 5 0) := by
  have f : Fr (fun c => c = 59) h (pI h 59 0 0) := Fr.pI rfl
  obtain ⟨x1, x2, x3, x4, x5, x6, x7⟩ := x
  refine ⟨⟨x1.1.mv f (fun c q => by omega), x1.2.1.mv f (fun c q => by omega), x1.2.2.mv f (fun c q => by omega)⟩, ?_, ?_, ?_, ?_, ?_, fun j a => by rw [pI_n (by decide)]; exact x7 j a⟩
  · rw [upX_s, if_neg (by decide)]
    exact fun q => (x2 q).mv f (fun c q => by omega)
  · simp only [upX_s, pI_n (show ¬ 0 = 59 by decide), pI_n (show ¬ 2 = 59 by decide), pI_n (show ¬ 40 = 59 by decide), pI_n (show ¬ 65 = 59 by decide), pI_t]
    obtain ⟨a1, a2, a3, a4, a5, a6, a7, a8⟩ := x3
    exact ⟨a1, a2, a3, a4, a5, rfl, a7, a8⟩
  · rw [upX_s, if_neg (by decide)]
    intro j a b
    rw [pI_n (by decide), upX_n (by decide)]
    exact x4 j a b
  · rw [upX_s, if_pos rfl]
    intro k a b
    exact absurd b (by lia)
  · rw [upX_s, if_neg (by decide)]
    intro k a b
    simp only [pI_n (show ¬ 70 = 59 by decide), pI_n (show ¬ 66 = 59 by decide), pI_n (show ¬ 67 = 59 by decide), pI_n (show ¬ 68 = 59 by decide), pI_n (show ¬ 69 = 59 by decide), upX_n (show ¬ 11 = 0 by decide), upX_n (show ¬ 7 = 0 by decide), upX_n (show ¬ 8 = 0 by decide), upX_n (show ¬ 9 = 0 by decide), upX_n (show ¬ 10 = 0 by decide)]
    exact x6 k a b
/-- the class's own world changed -/
theorem CRel.ch {h h' : Hp} {P : Pl} {L : Lw} {M : Mo} {A A' B : Aw} {X : Pl} (f : Fr (WS 45) h h') (x : CRel h P L A B X) (c : CH h' P L M 45 A') : CRel h' P L A' B X := by
  have g : ∀ c, ¬ c = 44 → (c < 45 ∨ 51 < c) → ¬ c = 73 → h'.1 c = h.1 c := fun c a b d => (f c (fun z => by unfold WS at z; omega)).1
  obtain ⟨x1, x2, x3, x4, x5, x6, x7⟩ := x
  refine ⟨⟨c.1, c.2.1, c.2.2.2⟩, fun q => (x2 q).mv f (fun c z => by unfold WS at z; omega), ?_, ?_, ?_, ?_, by rw [g 23 (by decide) (by decide) (by decide)]; exact x7⟩
  · rw [g 0 (by decide) (by decide) (by decide), g 2 (by decide) (by decide) (by decide), g 40 (by decide) (by decide) (by decide), g 59 (by decide) (by decide) (by decide), g 65 (by decide) (by decide) (by decide)]
    exact x3
  · rw [g 1 (by decide) (by decide) (by decide)]
    exact x4
  · rw [g 60 (by decide) (by decide) (by decide), g 61 (by decide) (by decide) (by decide), g 62 (by decide) (by decide) (by decide), g 63 (by decide) (by decide) (by decide), g 64 (by decide) (by decide) (by decide)]
    exact x5
  · rw [g 70 (by decide) (by decide) (by decide), g 66 (by decide) (by decide) (by decide), g 67 (by decide) (by decide) (by decide), g 68 (by decide) (by decide) (by decide), g 69 (by decide) (by decide) (by decide)]
    exact x6
theorem RRel.fg {h : Hp} {P : Pl} {L : Lw} {A B : Aw} {X : Pl} {U U' : Ud} (x : RRel h P L A B X U) : RRel (pI h 0 78 0) P L A B (upX X 0 5 0) U' := by
  obtain ⟨⟨a1, a2, a3, a4, a5, a6⟩, x2, x3, x4, x5, x6, x7⟩ := x
  have g : ∀ c s, ¬ c = 0 → (pI h 0 78 0).1 c s = h.1 c s := fun c s q => pI_n q
  refine ⟨⟨a1.mw (fun c s q _ => g c s q) (fun s p q => by rw [pI_t, if_neg (by omega)]), a2.mv (fun c s p q => g c s (by omega)), a3.mg (fun c s p q => g c s (by omega)), ?_, ?_, ?_⟩, ?_, ?_, ?_, ?_, ?_, fun j a => by rw [pI_n (by decide)]; exact x7 j a⟩
  · intro i i0 i1
    rw [pI_n (by decide)]
    exact a4 i i0 i1
  · rw [pI_l]; exact a5
  · intro s
    rw [pI_n (by decide)]
    exact a6 s
  · rw [upX_s, if_neg (by decide)]
    intro q
    have z := x2 q
    unfold RIm SNP at z ⊢
    simp only [pI_n (show ¬ 44 = 0 by decide), pI_n (show ¬ 45 = 0 by decide), pI_l]
    exact z
  · obtain ⟨b1, b2, b3, b4, b5, b6, b7, b8⟩ := x3
    simp only [upX_s, pI_t]
    exact ⟨b1, b2, b3, b4, b5, rfl, b7, b8⟩
  · rw [upX_s, if_neg (by decide)]
    intro j a b
    rw [pI_n (by decide), upX_n (by decide)]
    exact x4 j a b
  · rw [upX_s, if_pos rfl]
    intro k a b
    exact absurd b (by lia)
  · rw [upX_s, if_neg (by decide)]
    intro k a b
    simp only [pI_n (show ¬ 41 = 0 by decide), upX_n (show ¬ 11 = 0 by decide), upX_n (show ¬ 7 = 0 by decide), upX_n (show ¬ 8 = 0 by decide), upX_n (show ¬ 9 = 0 by decide), upX_n (show ¬ 10 = 0 by decide)]
    exact x6 k a b
