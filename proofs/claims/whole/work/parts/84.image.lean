/-! an image is kept; back to it -/
theorem PRel.kp {P : Pl} {L : Lw} {A B : Aw} {X : Pl} {U : Ud} (p : PRel P L A B X U) : PRel P L A A (upX X 0 4 1) U := by
  obtain ⟨p1, p2, p3, p4, p5, p6, p7, p8, ⟨d1, d2, d3, d4⟩, p10, p11, p12⟩ := p
  have e4 : upX X 0 4 1 0 4 = 1 := by rw [upX_s, if_pos rfl]
  have e0 : upX X 0 4 1 0 0 = X 0 0 := by rw [upX_s, if_neg (by decide)]
  have e5 : upX X 0 4 1 0 5 = X 0 5 := by rw [upX_s, if_neg (by decide)]
  refine ⟨p1, p2, p3, p4, ?_, fun _ => ⟨p3, p4⟩, ?_, ?_, ⟨?_, ?_, ?_, ?_⟩, ?_, p11, fun _ => p11⟩
  · rw [e4]; exact .inr rfl
  · rw [e0]; exact p7
  · rw [e0]
    intro j a b
    rw [upX_n (by decide)]
    exact p8 j a b
  · rw [e5]; exact d1
  · rw [e5]; exact d2
  · rw [e5]; exact d3
  · rw [e5]
    intro k a b
    have := d4 k a b
    unfold UNK at this ⊢
    simp only [upX_n (show ¬ 2 = 0 by decide), upX_n (show ¬ 3 = 0 by decide), upX_n (show ¬ 4 = 0 by decide), upX_n (show ¬ 5 = 0 by decide), upX_n (show ¬ 6 = 0 by decide)]
    exact this
  · unfold SOK at p10 ⊢
    simp only [upX_n (show ¬ 11 = 0 by decide), upX_n (show ¬ 7 = 0 by decide), upX_n (show ¬ 8 = 0 by decide), upX_n (show ¬ 9 = 0 by decide), upX_n (show ¬ 10 = 0 by decide), upX_s, if_neg (show ¬ (6 : Int32) = 4 by decide), if_neg (show ¬ (7 : Int32) = 4 by decide)]
    exact p10
theorem CRel.kp {h h' : Hp} {P : Pl} {L : Lw} {A B : Aw} {X : Pl} (f : Fr (WR 52) h h') (c : CW h' P 52 A) (x : CRel h P L A B X) : CRel (pI h' 0 6 1) P L A A (upX X 0 4 1) := by
  have g : ∀ c, (c < 52 ∨ 58 < c) → h'.1 c = h.1 c := fun c a => (f c (fun z => by unfold WR at z; omega)).1
  have f2 : Fr (fun c => c = 0) h' (pI h' 0 6 1) := Fr.pI rfl
  obtain ⟨x1, x2, x3, x4, x5, x6, x7⟩ := x
  refine ⟨⟨(x1.1.mv f (fun c q => by unfold WR at q; omega)).mv f2 (fun c q => by omega), (x1.2.1.mv f (fun c q => by unfold WR at q; omega)).mv f2 (fun c q => by omega), (x1.2.2.mv f (fun c q => by unfold WR at q; omega)).mv f2 (fun c q => by omega)⟩, fun _ => c.mv f2 (fun c q => by omega), ?_, ?_, ?_, ?_, fun j a => by rw [pI_n (by decide), g 23 (by decide)]; exact x7 j a⟩
  · simp only [upX_s, pI_n (show ¬ 2 = 0 by decide), pI_n (show ¬ 40 = 0 by decide), pI_n (show ¬ 59 = 0 by decide), pI_n (show ¬ 65 = 0 by decide), pI_t, g 0 (by decide), g 2 (by decide), g 40 (by decide), g 59 (by decide), g 65 (by decide)]
    obtain ⟨a1, a2, a3, a4, a5, a6, a7, a8⟩ := x3
    exact ⟨a1, a2, a3, a4, rfl, a6, a7, a8⟩
  · rw [upX_s, if_neg (by decide)]
    intro j a b
    rw [pI_n (by decide), upX_n (by decide), g 1 (by decide)]
    exact x4 j a b
  · rw [upX_s, if_neg (by decide)]
    intro k a b
    simp only [pI_n (show ¬ 60 = 0 by decide), pI_n (show ¬ 61 = 0 by decide), pI_n (show ¬ 62 = 0 by decide), pI_n (show ¬ 63 = 0 by decide), pI_n (show ¬ 64 = 0 by decide), upX_n (show ¬ 2 = 0 by decide), upX_n (show ¬ 3 = 0 by decide), upX_n (show ¬ 4 = 0 by decide), upX_n (show ¬ 5 = 0 by decide), upX_n (show ¬ 6 = 0 by decide), g 60 (by decide), g 61 (by decide), g 62 (by decide), g 63 (by decide), g 64 (by decide)]
    exact x5 k a b
  · rw [upX_s, if_neg (by decide)]
    intro k a b
    simp only [pI_n (show ¬ 70 = 0 by decide), pI_n (show ¬ 66 = 0 by decide), pI_n (show ¬ 67 = 0 by decide), pI_n (show ¬ 68 = 0 by decide), pI_n (show ¬ 69 = 0 by decide), upX_n (show ¬ 11 = 0 by decide), upX_n (show ¬ 7 = 0 by decide), upX_n (show ¬ 8 = 0 by decide), upX_n (show ¬ 9 = 0 by decide), upX_n (show ¬ 10 = 0 by decide), g 70 (by decide), g 66 (by decide), g 67 (by decide), g 68 (by decide), g 69 (by decide)]
    exact x6 k a b
def K30 (h h' : Hp) (i : Int32) : Prop := h'.2 = h.2 ∧ (∀ d, ¬ d = 45 → h'.1 d = h.1 d) ∧ ∀ j, 0 ≤ j → j < i → h'.1 45 (ix j) = h.1 28 (ix j) ∧ h'.1 45 (ix (6 + j)) = h.1 30 (ix j) ∧ h'.1 45 (ix (12 + j)) = (if h.1 31 (ix j) = 0 then 0 else 1) ∧ h'.1 45 (ix (18 + j)) = h.1 32 (ix j)
theorem kp1R {h h2 : Hp} {n : Nat} {i : Int32} (i0 : 0 ≤ i) (i6 : i < 6) (q : K30 h h2 i) : ∃ h', lp_Md_keep_21 TR (n + 1) h2 0 i = lp_Md_keep_21 TR n h' 0 (i + 1) ∧ K30 h h' (i + 1) := by
  obtain ⟨q1, q2, q4⟩ := q
  have i12 : i < 12 := by lia
  have i30 : i < 30 := by lia
  have a1 : 0 ≤ 6 + i := by lia
  have a2 : 6 + i < 30 := by lia
  have a3 : 0 ≤ 12 + i := by lia
  have a4 : 12 + i < 30 := by lia
  have a5 : 0 ≤ 18 + i := by lia
  have a6 : 18 + i < 30 := by lia
  have g28 : h2.1 28 (ix i) = h.1 28 (ix i) := by rw [q2 28 (by decide)]
  have g30 : h2.1 30 (ix i) = h.1 30 (ix i) := by rw [q2 30 (by decide)]
  have g31 : h2.1 31 (ix i) = h.1 31 (ix i) := by rw [q2 31 (by decide)]
  have g32 : h2.1 32 (ix i) = h.1 32 (ix i) := by rw [q2 32 (by decide)]
  refine ⟨pI (pI (pI (pI h2 45 (ix i) (h.1 28 (ix i))) 45 (ix (6 + i)) (h.1 30 (ix i))) 45 (ix (12 + i)) (if h.1 31 (ix i) = 0 then 0 else 1)) 45 (ix (18 + i)) (h.1 32 (ix i)), ?_, ?_, ?_, ?_⟩
  · rw [lp_Md_keep_21, if_neg (show ¬ (6 : Int32) ≤ i by lia)]
    unfold jb_Md_keep_76
    simp (disch := first | assumption | decide | omega) only [lyR, rdR, wtR, bnd_q, nmd_q, pI_n, g28, g30, g31, g32]
    by_cases z : h.1 31 (ix i) = 0
    · rw [if_pos z, if_pos z]
    · rw [if_neg z, if_neg z]
  · simp only [pI_l]
    exact q1
  · intro d hd
    rw [pI_f hd, pI_f hd, pI_f hd, pI_f hd]
    exact q2 d hd
  · intro j j0 j1
    have l1 : 0 ≤ 6 + j := by lia
    have l2 : 0 ≤ 12 + j := by lia
    have l3 : 0 ≤ 18 + j := by lia
    rw [pI_ix a5 j0, if_neg (show ¬ j = 18 + i by lia), pI_ix a3 j0, if_neg (show ¬ j = 12 + i by lia), pI_ix a1 j0, if_neg (show ¬ j = 6 + i by lia), pI_ix i0 j0, pI_ix a5 l1, if_neg (show ¬ 6 + j = 18 + i by lia), pI_ix a3 l1, if_neg (show ¬ 6 + j = 12 + i by lia), pI_ix a1 l1, pI_ix i0 l1, if_neg (show ¬ 6 + j = i by lia), pI_ix a5 l2, if_neg (show ¬ 12 + j = 18 + i by lia), pI_ix a3 l2, pI_ix a1 l2, if_neg (show ¬ 12 + j = 6 + i by lia), pI_ix i0 l2, if_neg (show ¬ 12 + j = i by lia), pI_ix a5 l3, pI_ix a3 l3, if_neg (show ¬ 18 + j = 12 + i by lia), pI_ix a1 l3, if_neg (show ¬ 18 + j = 6 + i by lia), pI_ix i0 l3, if_neg (show ¬ 18 + j = i by lia)]
    by_cases z : j = i
    · subst z
      simp
    · rw [if_neg z, if_neg (show ¬ 6 + j = 6 + i by lia), if_neg (show ¬ 12 + j = 12 + i by lia), if_neg (show ¬ 18 + j = 18 + i by lia)]
      exact q4 j j0 (by lia)
theorem kp_end {n : Nat} {h : Hp} : lp_Md_keep_21 TR (n + 1) h 0 6 = lp_Md_keep_21 TR (0 + 1) h 0 6 := by
  rw [lp_Md_keep_21, if_pos (by decide), lp_Md_keep_21, if_pos (by decide)]
set_option maxHeartbeats 2000000 in
theorem sp_keep : SP_keep Rl := by
  intro hC hR hr
  obtain ⟨P, L, A, B, X, U, p, x, y⟩ := hr
  have ok := p.1
  have o1 := ok.1
  have lk := p.2.1
  have wo := p.2.2.1
  have g := x.1.h.g
  simp only [Nat.reduceAdd] at g
  have xh := x.1.h
  have y1 := y.th (v := 0) ok
  have k := y1.1.g
  have sx := x.2.2.1
  have sr := y1.2.2.1
  unfold f_Tt_keep f_Md_keep
  simp only [nmd_q]
  generalize pI hR 0 2 0 = h1 at y1 k sr ⊢
  simp only [lyC, lyR]
  obtain ⟨hc, ec, cc, fc⟩ := beC (w := 52) (v := 45) (.inr (.inl rfl)) (.inl rfl) (by decide) ok x.1.2.2
  rw [ec, bnd_q]
  have x2 := x.kp fc cc
  have c45 : (pI hc 0 6 1).1 45 0 = A.1 0 0 := x2.1.h.g.2.2.1.1
  rw [c45]
  have b18 : (0 : Int32) + 18 ≤ nI 18 := by decide
  obtain ⟨h3, e3, p1, p2, p3, p4⟩ := ptR (h := pI h1 0 80 1) (o := 0) alD.2.1 (by decide) (by decide) b18 (by decide) (by decide)
  rw [e3, bnd_q]
  obtain ⟨h4, e4, r1, r2, r3⟩ := loopF (S := Unit) (f := fun _ s => s) (N := 6) (lp := fun m h i => lp_Md_keep_21 TR m h 0 i) (res := fun h => lp_Md_keep_21 TR (0 + 1) h 0 6) (fun i _ h' => K30 h3 h' i) (by decide) (by decide) (fun n h s q => kp_end) (fun n h2 i s a b q => kp1R a b q) 0 (by decide) (by decide) () h3 ⟨rfl, fun _ _ => rfl, fun j a b => absurd b (by lia)⟩
  have e4' : lp_Md_keep_21 TR fu h3 0 0 = lp_Md_keep_21 TR (0 + 1) h4 0 6 := e4
  rw [e4', lp_Md_keep_21, if_pos (by decide)]
  have g : ∀ c s, ¬ (c = 44 ∨ c = 45 ∨ (c = 0 ∧ s = 80)) → h4.1 c s = h1.1 c s := fun c s z => by
    rw [r2 c (by omega), p2 c (by omega), pI_1]
    split
    · rw [if_neg (by omega)]
    · rfl
  have g34 : h4.1 34 (ix 0) = A.1 0 3 := by rw [g 34 _ (by omega)]; exact k.2.2.2.2.2.2.2.2.2.2.2.2.2.2.2.2.2.1
  have g35 : h4.1 35 (ix 0) = A.1 0 4 := by rw [g 35 _ (by omega)]; exact k.2.2.2.2.2.2.2.2.2.2.2.2.2.2.2.2.2.2.1
  have g36 : h4.1 36 (ix 0) = A.1 0 5 := by rw [g 36 _ (by omega)]; exact k.2.2.2.2.2.2.2.2.2.2.2.2.2.2.2.2.2.2.2.1
  have g37 : h4.1 37 (ix 0) = A.1 0 0 := by rw [g 37 _ (by omega)]; exact k.2.2.2.2.2.2.2.2.2.2.2.2.2.2.2.2.2.2.2.2.1
  have g38 : h4.1 38 (ix 0) = sy (A.1 0 6) := by rw [g 38 _ (by omega)]; exact k.2.2.2.2.2.2.2.2.2.2.2.2.2.2.2.2.2.2.2.2.2.1
  have g39 : h4.1 39 (ix 0) = sy (A.1 0 7) := by rw [g 39 _ (by omega)]; exact k.2.2.2.2.2.2.2.2.2.2.2.2.2.2.2.2.2.2.2.2.2.2
  simp (disch := first | assumption | decide | omega) only [lyR, rdR, wtR, bnd_q, nmd_q, pI_n, pI_l, pL_l, g34, g35, g36, g37, g38, g39]
  generalize hh : pL (pI (pI (pI (pI (pI (pI h4 45 (ix 24) (A.1 0 3)) 45 (ix 25) (A.1 0 4)) 45 (ix 26) (A.1 0 5)) 45 (ix 27) (A.1 0 0)) 45 (ix 28) (sy (A.1 0 6))) 45 (ix 29) (sy (A.1 0 7))) 0 83 (h4.2 0 67) = h5
  have g5 : ∀ c s, ¬ (c = 44 ∨ c = 45 ∨ (c = 0 ∧ s = 80)) → h5.1 c s = h1.1 c s := fun c s z => by
    rw [← hh, pL_l, pI_n (by omega), pI_n (by omega), pI_n (by omega), pI_n (by omega), pI_n (by omega), pI_n (by omega)]
    exact g c s z
  have l5 : h5.2 0 67 = A.2 := by
    rw [← hh, pL_t, if_neg (by decide)]
    simp only [pI_l]
    rw [r1, p1, pI_l]
    exact y1.1.2.2.2.2.1
  have l83 : h5.2 0 83 = A.2 := by
    rw [← hh, pL_t, if_pos rfl, r1, p1, pI_l]
    exact y1.1.2.2.2.2.1
  have g80 : h5.1 0 80 = 1 := by
    rw [← hh, pL_l, pI_n (by decide), pI_n (by decide), pI_n (by decide), pI_n (by decide), pI_n (by decide), pI_n (by decide), r2 0 (by decide), p2 0 (by decide), pI_t, if_pos rfl]
  have g44 : ∀ s, h5.1 44 s = h3.1 44 s := fun s => by
    rw [← hh, pL_l, pI_n (by decide), pI_n (by decide), pI_n (by decide), pI_n (by decide), pI_n (by decide), pI_n (by decide), r2 44 (by decide)]
  have g45 : ∀ s : Int32, 0 ≤ s → s < 24 → h5.1 45 (ix s) = h4.1 45 (ix s) := fun s s0 s1 => by
    rw [← hh, pL_l, pI_ix (by decide) s0, if_neg (by lia), pI_ix (by decide) s0, if_neg (by lia), pI_ix (by decide) s0, if_neg (by lia), pI_ix (by decide) s0, if_neg (by lia), pI_ix (by decide) s0, if_neg (by lia), pI_ix (by decide) s0, if_neg (by lia)]
  have s45 : h5.1 45 24 = A.1 0 3 ∧ h5.1 45 25 = A.1 0 4 ∧ h5.1 45 26 = A.1 0 5 ∧ h5.1 45 27 = A.1 0 0 ∧ h5.1 45 28 = sy (A.1 0 6) ∧ h5.1 45 29 = sy (A.1 0 7) := by
    rw [← hh, pL_l]
    simp [pI_t, ixl]
  have gz : ∀ c s, ¬ c = 44 → ¬ c = 45 → ¬ c = 0 → h3.1 c s = h1.1 c s := fun c s a b d => by
    rw [p2 c a, pI_n d]
  clear hh
  have RKn : RK h5 P L A := by
    obtain ⟨a1, a2, a3, a4, a5, a6⟩ := y1.1
    exact ⟨a1.mw (fun c s q _ => g5 c s (by omega)) (fun s p q => g5 0 s (by omega)), a2.mv (fun c s p q => g5 c s (by omega)), a3.mg (fun c s p q => g5 c s (by omega)), fun i a b => by rw [g5 32 _ (by omega)]; exact a4 i a b, l5, fun s => by rw [g5 31 s (by omega)]; exact a6 s⟩
  refine ⟨_, _, rfl, rfl, rfl, Rl.mk p.kp x2 ⟨RKn, fun _ => ⟨⟨fun i a b => ?_, fun i a b => ?_, fun i a b => ?_⟩, fun i a b => ?_, s45, l83⟩, ?_, ?_, ?_, ?_, fun j a => by rw [g5 2 j (by omega)]; exact y1.2.2.2.2.2.2 j a⟩⟩
  · rw [g44, (p4 i a (by lia)).1, pI_n (by decide)]
    exact k.2.2.2.2.2.2.2.2.2.2.1 i a b
  · rw [g44, (p4 i a (by lia)).2.1, pI_n (by decide)]
    exact k.2.2.2.2.2.2.2.2.2.2.2.2.1 i a b
  · rw [g44, (p4 i a (by lia)).2.2, pI_n (by decide)]
    exact k.2.2.2.2.2.2.2.2.2.2.2.2.2.2.2.2.1 i a b
  · obtain ⟨z1, z2, z3, z4⟩ := r3 i a (by lia)
    rw [g45 _ a (by lia), g45 _ (by lia) (by lia), g45 _ (by lia) (by lia), g45 _ (by lia) (by lia), z1, z2, z3, z4, gz 28 _ (by decide) (by decide) (by decide), gz 30 _ (by decide) (by decide) (by decide), gz 31 _ (by decide) (by decide) (by decide), gz 32 _ (by decide) (by decide) (by decide)]
    have k31 := k.2.2.2.2.2.2.2.2.2.2.2.2.2.2.1 i a b
    refine ⟨k.2.2.2.2.2.2.2.2.2.2.2.1 i a b, k.2.2.2.2.2.2.2.2.2.2.2.2.2.1 i a b, ?_, k.2.2.2.2.2.2.2.2.2.2.2.2.2.2.2.1 i a b⟩
    rw [k31]
    rcases bt_01 (A.1 0 2) i with z | z
    · rw [z, if_pos rfl]
    · rw [z, if_neg (by decide)]
  · obtain ⟨b1, b2, b3, b4, b5, b6, b7, b8⟩ := sr
    rw [g5 0 1 (by decide), g5 0 4 (by decide), g5 0 5 (by decide), g5 0 16 (by decide), g80, g5 0 78 (by decide), g5 0 74 (by decide), g5 0 75 (by decide)]
    simp only [upX_s]
    exact ⟨b1, b2, b3, b4, rfl, b6, b7, b8⟩
  · rw [upX_s, if_neg (by decide)]
    intro j a b
    rw [g5 1 _ (by omega), upX_n (by decide)]
    exact y1.2.2.2.1 j a b
  · rw [upX_s, if_neg (by decide)]
    intro k a b
    obtain ⟨z1, z2, z3⟩ := y1.2.2.2.2.1 k a b
    exact ⟨fun i a b => by rw [g5 43 _ (by omega)]; exact z1 i a b, fun i a b => by rw [g5 43 _ (by omega)]; exact z2 i a b, fun i a b => by rw [g5 43 _ (by omega)]; exact z3 i a b⟩
  · rw [upX_s, if_neg (by decide)]
    intro k a b
    rw [g5 41 _ (by omega), g5 41 _ (by omega), g5 41 _ (by omega), g5 41 _ (by omega)]
    simp only [upX_n (show ¬ 11 = 0 by decide), upX_n (show ¬ 7 = 0 by decide), upX_n (show ¬ 8 = 0 by decide), upX_n (show ¬ 9 = 0 by decide), upX_n (show ¬ 10 = 0 by decide)]
    exact y1.2.2.2.2.2.1 k a b
def B30 (h h' : Hp) (i : Int32) : Prop := h'.2 = h.2 ∧ (∀ c s, ¬ ((c = 28 ∨ c = 30 ∨ c = 31 ∨ c = 32) ∧ s < 6) → h'.1 c s = h.1 c s) ∧ OZ h' ∧ ∀ j, 0 ≤ j → j < i → h'.1 28 (ix j) = h.1 45 (ix j) ∧ h'.1 30 (ix j) = h.1 45 (ix (6 + j)) ∧ h'.1 31 (ix j) = (if h.1 45 (ix (12 + j)) = 1 then 1 else 0) ∧ h'.1 32 (ix j) = h.1 45 (ix (18 + j))
theorem bk1R {h h2 : Hp} {n : Nat} {i : Int32} (i0 : 0 ≤ i) (i6 : i < 6) (q : B30 h h2 i) : ∃ h', lp_Md_back_25 TR (n + 1) h2 0 i = lp_Md_back_25 TR n h' 0 (i + 1) ∧ B30 h h' (i + 1) := by
  obtain ⟨q1, q2, q3, q4⟩ := q
  have i12 : i < 12 := by lia
  have i30 : i < 30 := by lia
  have a1 : 0 ≤ 6 + i := by lia
  have a2 : 6 + i < 30 := by lia
  have a3 : 0 ≤ 12 + i := by lia
  have a4 : 12 + i < 30 := by lia
  have a5 : 0 ≤ 18 + i := by lia
  have a6 : 18 + i < 30 := by lia
  have l6 : ix i < 6 := ix_lt i0 (by decide) i6
  have g45 : ∀ s, h2.1 45 s = h.1 45 s := fun s => q2 45 s (by omega)
  have hb0 : bit 0 = true := by decide
  have hb1 : bit 1 = true := by decide
  refine ⟨pI (pI (pI (pI h2 28 (ix i) (h.1 45 (ix i))) 30 (ix i) (h.1 45 (ix (6 + i)))) 31 (ix i) (if h.1 45 (ix (12 + i)) = 1 then 1 else 0)) 32 (ix i) (h.1 45 (ix (18 + i))), ?_, ?_, ?_, ?_, ?_⟩
  · rw [lp_Md_back_25, if_neg (show ¬ (6 : Int32) ≤ i by lia)]
    unfold jb_Md_back_81
    simp (disch := first | assumption | decide | omega) only [lyR, rdR, wtR, bnd_q, nmd_q, pI_n, g45]
    by_cases z : h.1 45 (ix (12 + i)) = 1
    · rw [if_pos z, if_pos z]
    · rw [if_neg z, if_neg z]
  · simp only [pI_l]
    exact q1
  · intro c s hd
    rw [pI_1, pI_1, pI_1, pI_1]
    by_cases z : c = 28 ∨ c = 30 ∨ c = 31 ∨ c = 32
    · have hs : ¬ s = ix i := by omega
      simp only [if_neg hs, ite_self]
      exact q2 c s hd
    · rw [if_neg (by omega), if_neg (by omega), if_neg (by omega), if_neg (by omega)]
      exact q2 c s hd
  · intro s
    rw [pI_n (by decide), pI_t]
    split
    · split
      · exact hb1
      · exact hb0
    · rw [pI_n (by decide), pI_n (by decide)]
      exact q3 s
  · intro j j0 j1
    rw [pI_n (show ¬ 28 = 32 by decide), pI_n (show ¬ 28 = 31 by decide), pI_n (show ¬ 28 = 30 by decide), pI_ix i0 j0, pI_n (show ¬ 30 = 32 by decide), pI_n (show ¬ 30 = 31 by decide), pI_ix i0 j0, pI_n (show ¬ 30 = 28 by decide), pI_n (show ¬ 31 = 32 by decide), pI_ix i0 j0, pI_n (show ¬ 31 = 30 by decide), pI_n (show ¬ 31 = 28 by decide), pI_ix i0 j0, pI_n (show ¬ 32 = 31 by decide), pI_n (show ¬ 32 = 30 by decide), pI_n (show ¬ 32 = 28 by decide)]
    by_cases z : j = i
    · subst z
      simp
    · simp only [if_neg z]
      exact q4 j j0 (by lia)
theorem bk_end {n : Nat} {h : Hp} : lp_Md_back_25 TR (n + 1) h 0 6 = lp_Md_back_25 TR (0 + 1) h 0 6 := by
  rw [lp_Md_back_25, if_pos (by decide), lp_Md_back_25, if_pos (by decide)]
theorem CRel.bk {h h' : Hp} {P : Pl} {L : Lw} {A B : Aw} {X : Pl} (f : Fr (WR 45) h h') (c : CW h' P 45 B) (x : CRel h P L A B X) : CRel h' P L B B X := by
  have f' : Fr (WS 45) h h' := f.mono fun c q => by unfold WR at q; unfold WS; omega
  have x1 := x.1
  exact x.ch f' ⟨x1.1.mv f (fun c q => by unfold WR at q; omega), x1.2.1.mv f (fun c q => by unfold WR at q; omega), ⟨rfl, rfl, rfl⟩, c⟩ (M := (h'.1 72 2, h'.1 72 3, h'.1 72 4))
set_option maxHeartbeats 2000000 in
theorem sp_back : SP_back Rl := by
  intro hC hR hr
  obtain ⟨P, L, A, B, X, U, p, x, y⟩ := hr
  have ok := p.1
  have o1 := ok.1
  have lk := p.2.1
  have wo := p.2.2.1
  have g := x.1.h.g
  simp only [Nat.reduceAdd] at g
  have xh := x.1.h
  have y1 := y.th (v := 0) ok
  have k := y1.1.g
  have sx := x.2.2.1
  have sr := y1.2.2.1
  have e06 := sx.2.2.2.2.1
  have e80 := sr.2.2.2.2.1
  unfold f_Tt_back f_Md_back
  simp only [nmd_q]
  generalize pI hR 0 2 0 = h1 at y1 k sr e80 ⊢
  simp only [lyC, lyR]
  rw [e06, e80]
  by_cases q : X 0 4 = 0
  · rw [if_pos q, if_pos q]
    exact ⟨_, _, rfl, rfl, rfl, Rl.mk p x y1⟩
  rw [if_neg q, if_neg q]
  have q1 : X 0 4 = 1 := p.2.2.2.2.1.resolve_left q
  obtain ⟨hc, ec, cc, fc⟩ := beC (w := 45) (v := 52) (.inl rfl) (.inr (.inl rfl)) (by decide) ok (x.2.1 q1)
  rw [ec, bnd_q]
  unfold f_De_forget
  rw [nmd_q]
  have x2 := (x.bk fc cc).fg
  have c45 : (pI hc 59 0 0).1 45 0 = B.1 0 0 := x2.1.h.g.2.2.1.1
  rw [c45]
  obtain ⟨wB, oB⟩ := p.2.2.2.2.2.1 q1
  have tB := p.2.2.2.2.2.2.2.2.2.2.2 q1
  have im := y1.2.1 q1
  have b18 : (0 : Int32) + 18 ≤ nI 18 := by decide
  obtain ⟨h2, e2, t1, t2, t3⟩ := tkR (h := h1) (o := 0) alD.2.1 (by decide) (by decide) b18 (by decide) (by decide)
  rw [e2, bnd_q]
  have oz2 : OZ h2 := fun s => by rw [t2 31 s (by omega)]; exact y1.1.2.2.2.2.2 s
  obtain ⟨h4, e4, r1, r2, r3, r4⟩ := loopF (S := Unit) (f := fun _ s => s) (N := 6) (lp := fun m h i => lp_Md_back_25 TR m h 0 i) (res := fun h => lp_Md_back_25 TR (0 + 1) h 0 6) (fun i _ h' => B30 h2 h' i) (by decide) (by decide) (fun n h s q => bk_end) (fun n h2 i s a b q => bk1R a b q) 0 (by decide) (by decide) () h2 ⟨rfl, fun _ _ _ => rfl, oz2, fun j a b => absurd b (by lia)⟩
  have e4' : lp_Md_back_25 TR fu h2 0 0 = lp_Md_back_25 TR (0 + 1) h4 0 6 := e4
  rw [e4', lp_Md_back_25, if_pos (by decide)]
  have g : ∀ c s, ¬ ((27 ≤ c ∧ c ≤ 33) ∧ s < 6) → h4.1 c s = h1.1 c s := fun c s z => by
    rw [r2 c s (by omega), t2 c s (by omega)]
  have s24 : h4.1 45 (ix 24) = B.1 0 3 := by rw [g 45 _ (by omega)]; simp only [ixl]; exact im.2.2.1.1
  have s25 : h4.1 45 (ix 25) = B.1 0 4 := by rw [g 45 _ (by omega)]; simp only [ixl]; exact im.2.2.1.2.1
  have s26 : h4.1 45 (ix 26) = B.1 0 5 := by rw [g 45 _ (by omega)]; simp only [ixl]; exact im.2.2.1.2.2.1
  have s27 : h4.1 45 (ix 27) = B.1 0 0 := by rw [g 45 _ (by omega)]; simp only [ixl]; exact im.2.2.1.2.2.2.1
  have s28 : h4.1 45 (ix 28) = sy (B.1 0 6) := by rw [g 45 _ (by omega)]; simp only [ixl]; exact im.2.2.1.2.2.2.2.1
  have s29 : h4.1 45 (ix 29) = sy (B.1 0 7) := by rw [g 45 _ (by omega)]; simp only [ixl]; exact im.2.2.1.2.2.2.2.2
  have l83 : h4.2 0 83 = B.2 := by rw [r1, t1]; exact im.2.2.2
  simp (disch := first | assumption | decide | omega) only [lyR, rdR, wtR, bnd_q, nmd_q, pI_n, pI_l, pL_l, s24, s25, s26, s27, s28, s29, l83]
  generalize hh : pI (pL (pI (pI (pI (pI (pI (pI h4 34 (ix 0) (B.1 0 3)) 35 (ix 0) (B.1 0 4)) 36 (ix 0) (B.1 0 5)) 37 (ix 0) (B.1 0 0)) 38 (ix 0) (sy (B.1 0 6))) 39 (ix 0) (sy (B.1 0 7))) 0 67 B.2) 0 78 0 = h5
  have v37 : (pI h4 37 (ix 0) (B.1 0 0)).1 37 (ix 0) = B.1 0 0 := by rw [pI_t, if_pos rfl]
  have i0 : ix 0 = 0 := by decide
  have g5 : ∀ c s, ¬ ((34 ≤ c ∧ c ≤ 39 ∧ s = 0) ∨ (c = 0 ∧ s = 78)) → h5.1 c s = h4.1 c s := fun c s z => by
    rw [← hh, i0, pI_1, pL_l]
    have fin : (pI (pI (pI (pI (pI (pI h4 34 0 (B.1 0 3)) 35 0 (B.1 0 4)) 36 0 (B.1 0 5)) 37 0 (B.1 0 0)) 38 0 (sy (B.1 0 6))) 39 0 (sy (B.1 0 7))).1 c s = h4.1 c s := by
      by_cases y : s = 0
      · rw [pI_n (by omega), pI_n (by omega), pI_n (by omega), pI_n (by omega), pI_n (by omega), pI_n (by omega)]
      · rw [pI_1, pI_1, pI_1, pI_1, pI_1, pI_1]
        simp only [if_neg y, ite_self]
    split
    · rw [if_neg (by omega)]
      exact fin
    · exact fin
  have sc : h5.1 34 (ix 0) = B.1 0 3 ∧ h5.1 35 (ix 0) = B.1 0 4 ∧ h5.1 36 (ix 0) = B.1 0 5 ∧ h5.1 37 (ix 0) = B.1 0 0 ∧ h5.1 38 (ix 0) = sy (B.1 0 6) ∧ h5.1 39 (ix 0) = sy (B.1 0 7) := by
    rw [← hh, i0]
    simp [pI_1, pL_l]
  have l67 : h5.2 0 67 = B.2 := by rw [← hh, pI_l, pL_t, if_pos rfl]
  have l83' : h5.2 0 83 = B.2 := by
    rw [← hh, pI_l, pL_t, if_neg (by decide)]
    simp only [pI_l]
    exact l83
  have g78 : h5.1 0 78 = 0 := by rw [← hh, pI_t, if_pos rfl]
  rw [pI_t (c := 37), if_pos rfl]
  clear hh v37
  have g1 : ∀ c s, ¬ ((27 ≤ c ∧ c ≤ 33 ∧ s < 6) ∨ (34 ≤ c ∧ c ≤ 39 ∧ s = 0) ∨ (c = 0 ∧ s = 78)) → h5.1 c s = h1.1 c s := fun c s z => by
    rw [g5 c s (by omega), g c s (by omega)]
  obtain ⟨a1, a2, a3, a4, a5, a6⟩ := y1.1
  have zz : ∀ i : Int32, (0 : Int32) + i = i := fun i => by lia
  have z6 : ∀ i : Int32, (0 : Int32) + 6 + i = 6 + i := fun i => by lia
  have z12 : ∀ i : Int32, (0 : Int32) + 12 + i = 12 + i := fun i => by lia
  have RKn : RK h5 P L B := by
    refine ⟨a1.mw (fun c s q _ => g1 c s (by omega)) (fun s p q => g1 0 s (by omega)), a2.mv (fun c s p q => g1 c s (by omega)), ⟨fun i a b => ?_, fun i a b => ?_, fun i a b => ?_, fun i a b => ?_, fun i a b => ?_, fun i a b => ?_, sc⟩, fun i a b => ?_, l67, fun s => ?_⟩
    · rw [i60, g5 27 _ (by omega), r2 27 _ (by omega), (t3 i a (by lia)).1]
      exact im.1.1 i a b
    · rw [i60, g5 28 _ (by omega), (r4 i a (by lia)).1, t2 45 _ (by omega)]
      exact (im.2.1 i a b).1
    · rw [i60, g5 29 _ (by omega), r2 29 _ (by omega), (t3 i a (by lia)).2.1]
      exact im.1.2.1 i a b
    · rw [i60, g5 30 _ (by omega), (r4 i a (by lia)).2.1, t2 45 _ (by omega)]
      exact (im.2.1 i a b).2.1
    · rw [i60, g5 31 _ (by omega), (r4 i a (by lia)).2.2.1, t2 45 _ (by omega), (im.2.1 i a b).2.2.1]
      rcases bt_01 (B.1 0 2) i with z | z
      · rw [z, if_neg (by decide)]
      · rw [z, if_pos rfl]
    · rw [i60, g5 33 _ (by omega), r2 33 _ (by omega), (t3 i a (by lia)).2.2]
      exact im.1.2.2 i a b
    · rw [i60, g5 32 _ (by omega), (r4 i a (by lia)).2.2.2, t2 45 _ (by omega)]
      exact (im.2.1 i a b).2.2.2
    · rw [g5 31 s (by omega)]
      exact r3 s
  refine ⟨_, _, rfl, rfl, rfl, Rl.mk (p.fg wB oB tB) x2 ⟨RKn, fun _ => ?_, ?_, ?_, ?_, ?_, fun j a => by rw [g1 2 j (by omega)]; exact y1.2.2.2.2.2.2 j a⟩⟩
  · obtain ⟨⟨z1, z2, z3⟩, z4, z5, z6⟩ := im
    refine ⟨⟨fun i a b => ?_, fun i a b => ?_, fun i a b => ?_⟩, fun i a b => ?_, ?_, l83'⟩
    · rw [g1 44 _ (by omega)]; exact z1 i a b
    · rw [g1 44 _ (by omega)]; exact z2 i a b
    · rw [g1 44 _ (by omega)]; exact z3 i a b
    · rw [g1 45 _ (by omega), g1 45 _ (by omega), g1 45 _ (by omega), g1 45 _ (by omega)]; exact z4 i a b
    · rw [g1 45 _ (by omega), g1 45 _ (by omega), g1 45 _ (by omega), g1 45 _ (by omega), g1 45 _ (by omega), g1 45 _ (by omega)]; exact z5
  · obtain ⟨b1, b2, b3, b4, b5, b6, b7, b8⟩ := sr
    rw [g1 0 1 (by decide), g1 0 4 (by decide), g1 0 5 (by decide), g1 0 16 (by decide), g1 0 80 (by decide), g78, g1 0 74 (by decide), g1 0 75 (by decide)]
    simp only [upX_s]
    exact ⟨b1, b2, b3, b4, b5, rfl, b7, b8⟩
  · rw [upX_s, if_neg (by decide)]
    intro j a b
    rw [g1 1 _ (by omega), upX_n (by decide)]
    exact y1.2.2.2.1 j a b
  · rw [upX_s, if_pos rfl]
    intro k a b
    exact absurd b (by lia)
  · rw [upX_s, if_neg (by decide)]
    intro k a b
    rw [g1 41 _ (by omega), g1 41 _ (by omega), g1 41 _ (by omega), g1 41 _ (by omega)]
    simp only [upX_n (show ¬ 11 = 0 by decide), upX_n (show ¬ 7 = 0 by decide), upX_n (show ¬ 8 = 0 by decide), upX_n (show ¬ 9 = 0 by decide), upX_n (show ¬ 10 = 0 by decide)]
    exact y1.2.2.2.2.2.1 k a b
