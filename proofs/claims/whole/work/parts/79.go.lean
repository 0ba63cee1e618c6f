/-! go -/
theorem sp_go : SP_go Rl := by
  intro hC hR a1 hr
  obtain ⟨P, L, A, B, X, U, p, x, y⟩ := hr
  have ok := p.1
  have o1 := ok.1
  have lk := p.2.1
  have wo := p.2.2.1
  have g := x.1.h.g
  simp only [Nat.reduceAdd] at g
  have xh := x.1.h
  have y1 := y.th (v := 0) ok
  have k := y1.1.g
  have sx := x.2.2.1
  have sr := y1.2.2.1
  have on := p.2.2.2.1
  have tk := p.2.2.2.2.2.2.2.2.2.2.1
  have rk := y1.1
  unfold f_Tt_go f_Md_go
  simp only [nmd_q, isIn_e]
  generalize pI hR 0 2 0 = h1 at y1 k sr rk ⊢
  simp (disch := first | assumption | decide | omega) only [lyC, lyR, rdR, bnd_q, g, k]
  have stop : ∃ r r', some ((-1 : Int32), hC) = some r ∧ some ((-1 : Int32), h1) = some r' ∧ r.1 = r'.1 ∧ Rl r.2 r'.2 := ⟨_, _, rfl, rfl, rfl, Rl.mk p x y1⟩
  by_cases n : 0 ≤ a1 ∧ a1 ≤ 200
  case neg =>
    rw [if_neg n, if_pos (rfl : (0 : Int32) = 0)]
    by_cases c : a1 < 0
    · rw [if_pos c]
      exact stop
    · rw [if_neg c, if_pos (by lia)]
      exact stop
  rw [if_pos n, if_neg (show ¬ (1 : Int32) = 0 by decide), if_neg (show ¬ a1 < 0 by lia), if_neg (show ¬ (200 : Int32) < a1 by lia)]
  by_cases c9 : A.1 0 0 + a1 ≤ 9000
  case neg =>
    rw [if_neg c9, if_neg c9]
    exact stop
  rw [if_pos c9, if_pos c9]
  clear stop
  obtain ⟨n0, n2⟩ := n
  have W : WC 45 := .inl rfl
  have wo' := hrN_ok (L := L) (N := a1) ok (mB_ok (P := P)) wo on n0
  have tk' := hrN_tk (L := L) (M := mB P) (N := a1) ok n0 tk
  -- the class
  have cls : ∀ (hc : Hp) (X0 : Pl), CRel hc P L A B X0 → ∃ h', jb_Tt_go_39 TC hc 0 a1 = some ((hrN P L (mB P) a1 A).1 0 0, h') ∧ CRel h' P L (hrN P L (mB P) a1 A) B X0 := by
    intro hc X0 x0
    obtain ⟨f1, m1, m2, m3⟩ := bycC x0.1.1
    have f1' : Fr SC hc (f_Ho_byChance TC hc 72) := f1.mono fun c z => by unfold SC; omega
    have x1 := x0.mv f1'
    have ch : CH (f_Ho_byChance TC hc 72) P L (mB P) 45 A := ⟨x1.1.1, x1.1.2.1, ⟨m1, m2, m3⟩, x1.1.2.2⟩
    obtain ⟨h', e, c, f⟩ := paC (N := a1) mB_ok W ok lk wo ch on n0 (by lia)
    refine ⟨h', ?_, x1.ch f c⟩
    unfold jb_Tt_go_39
    simp only [nmd_q, lyC]
    rw [e, bnd_q, c.2.2.2.2.2.1.1]
  -- the reference
  obtain ⟨p1, p2, p3, p4, p5, p6, p7⟩ := plR (h := h1)
  have kf5 : KF h1 (pI (f_Md_plainTried TR h1 0) 0 69 1) := p1.tr (KF.pI (by unfold RX; omega) (by decide))
  have y5 := y1.mv ok kf5
  have rk5 := y5.1
  have e69 : (pI (f_Md_plainTried TR h1 0) 0 69 1).1 0 69 = 1 := by rw [pI_t, if_pos rfl]
  have e70 : (pI (f_Md_plainTried TR h1 0) 0 69 1).1 0 70 = 0 := by rw [pI_t, if_neg (by decide)]; exact p3
  have e71 : (pI (f_Md_plainTried TR h1 0) 0 69 1).1 0 71 = 0 := by rw [pI_t, if_neg (by decide)]; exact p4
  have e72 : (pI (f_Md_plainTried TR h1 0) 0 69 1).1 0 72 = 0 := by rw [pI_t, if_neg (by decide)]; exact p5
  generalize pI (f_Md_plainTried TR h1 0) 0 69 1 = h5 at kf5 y5 rk5 e69 e70 e71 e72 ⊢
  obtain ⟨mo, rr⟩ := mBR (P := P) (n := A.2) (by rw [e69]; decide) e70 e71 e72 rk5.2.2.2.2.1
  obtain ⟨h6, e6, r6, d6, f6⟩ := goR (N := a1) ok lk wo on ⟨rk5.1, rk5.2.1, mo, rr, rk5.2.2.1⟩ rk5.2.2.2.1 n0 (by lia)
  have s69 : h6.1 0 69 = 1 := by rw [f6.1 0 69 (fun z => by unfold RS at z; omega)]; exact e69
  have s70 : h6.1 0 70 = 0 := by rw [f6.1 0 70 (fun z => by unfold RS at z; omega)]; exact e70
  have rk6 : RK h6 P L (hrN P L (mB P) a1 A) := ⟨r6.1, r6.2.1, r6.2.2.2.2, d6, r6.2.2.2.1.dr (by rw [s69]; decide) s70, f6.2.2 rk5.2.2.2.2.2⟩
  have y7 := (RRel.rf f6 y5 rk6).mv ok (KF.pI (h := h6) (c := 0) (a := 69) (x := 0) (by unfold RX; omega) (by decide))
  rw [e6, lp_Md_go_43, if_pos (show a1 ≤ a1 by lia), nmd_q]
  generalize pI h6 0 69 0 = h7 at y7 ⊢
  have k37 : ∀ v : Int32, (pI h7 0 78 v).1 37 (ix 0) = (hrN P L (mB P) a1 A).1 0 0 := fun v => by
    rw [pI_n (by decide)]
    exact y7.1.g.2.2.2.2.2.2.2.2.2.2.2.2.2.2.2.2.2.2.2.2.1
  unfold jb_Md_go_77
  simp (disch := first | assumption | decide | omega) only [lyR, rdR, nmd_q, bnd_q, k37]
  by_cases c : a1 ≤ 0
  · rw [if_pos c, if_pos c]
    have z : a1 = 0 := by lia
    obtain ⟨hc', e, xx⟩ := cls hC X x
    have eA : hrN P L (mB P) a1 A = A := by
      unfold hrN
      exact Fold_ge (by decide) n0 c
    rw [e]
    refine ⟨_, _, rfl, rfl, rfl, ?_⟩
    rw [eA] at xx y7
    have es : pI h7 0 78 (h7.1 0 78) = h7 := pI_self rfl
    simp only
    rw [es]
    exact Rl.mk p xx y7
  · rw [if_neg c, if_neg c]
    unfold f_De_forget
    rw [nmd_q]
    obtain ⟨hc', e, xx⟩ := cls (pI hC 59 0 0) (upX X 0 5 0) x.fg
    rw [e]
    exact ⟨_, _, rfl, rfl, rfl, Rl.mk (p.fg wo'.1 wo'.2 tk') xx y7.fg⟩
