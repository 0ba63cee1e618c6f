/-! a text read -/
theorem alS1 : al TC 1 = 700 := by simp only [alC]
theorem mn7 {n : Int32} (h : n ≤ 700) : mnI n (Int32.ofNat 700) = n := by
  unfold mnI
  have e : Int32.ofNat 700 = 700 := by decide
  rw [e]
  exact if_neg (show ¬ 700 < n by lia)
def h6R (h : Hp) (n : Int32) : Hp := pI (pI (pI (pI (pI (pI h 0 2 0) 0 6 n) 0 1 0) 0 4 0) 0 5 (-1)) 0 7 0
theorem rdt {hC hR : Hp} {n : Int32} {T : Int32 → Int32} (n0 : 0 ≤ n) (n7 : n ≤ 700) (tp : ∀ j, 0 ≤ j → j < n → 0 ≤ T j ∧ T j ≤ 255 ∧ hC.1 1 (ix j) = sb (T j) ∧ hR.1 1 (ix j) = T j) (wc : ∀ j, j < 20 → hC.1 23 j = wdC j) (wr : ∀ j, j < 99 → hR.1 2 j = wdR j) :
    TE hC hR n T (f_Tr_readText TC (pI hC 0 1 0) 2 n) ((f_Md_plain TR (h6R hR n) 0).bind fun r7 => (f_Md_token TR r7 0).bind fun r8 => lp_Md_text_53 TR fu r8 0) := by
  obtain ⟨r, c1, c2, c3, c4, c5⟩ := clC (h := pI hC 0 1 0)
  obtain ⟨B, eB⟩ : ∃ B, B = pI (pI (pI (pI (pI (pI r 2 1 0) 2 2 (-1)) 2 5 0) 2 6 0) 22 6 n) 22 7 0 := ⟨_, rfl⟩
  obtain ⟨B', eB'⟩ : ∃ B', B' = pI (pI (pI (pI (pI (pI (pI (pI (pI (pI (pI (pI (pI (pI (h6R hR n) 0 17 0) 0 18 0) 0 19 0) 0 20 20) 0 21 0) 0 22 0) 0 48 0) 3 0 0) 4 2 0) 3 1 0) 4 3 0) 17 3 0) 17 4 0) 17 5 0 := ⟨_, rfl⟩
  have gC : ∀ c s, ¬ (c = 2 ∧ (s = 1 ∨ s = 2 ∨ s = 5 ∨ s = 6)) → ¬ (c = 22 ∧ (s = 6 ∨ s = 7)) → B.1 c s = r.1 c s := fun c s z1 z2 => by
    rw [eB, pI_x (by omega), pI_x (by omega), pI_x (by omega), pI_x (by omega), pI_x (by omega), pI_x (by omega)]
  have gR : ∀ c s, ¬ (c = 0 ∧ (s = 1 ∨ s = 2 ∨ (4 ≤ s ∧ s ≤ 7) ∨ (17 ≤ s ∧ s ≤ 22) ∨ s = 48)) → ¬ (c = 3 ∧ s < 2) → ¬ (c = 4 ∧ (s = 2 ∨ s = 3)) → ¬ (c = 17 ∧ 3 ≤ s ∧ s ≤ 5) → B'.1 c s = hR.1 c s := fun c s z1 z2 z3 z4 => by
    rw [eB', pI_x (by omega), pI_x (by omega), pI_x (by omega), pI_x (by omega), pI_x (by omega), pI_x (by omega), pI_x (by omega), pI_x (by omega), pI_x (by omega), pI_x (by omega), pI_x (by omega), pI_x (by omega), pI_x (by omega), pI_x (by omega)]
    unfold h6R
    rw [pI_x (by omega), pI_x (by omega), pI_x (by omega), pI_x (by omega), pI_x (by omega), pI_x (by omega)]
  have fC : ∀ c s, ¬ TXc c s → ¬ (c = 0 ∧ s = 1) → ¬ (c = 2 ∧ (s = 1 ∨ s = 2)) → B.1 c s = hC.1 c s := fun c s z1 z2 z3 => by
    rw [gC c s (fun w => z1 (by unfold TXc; omega)) (fun w => z1 (by unfold TXc; omega)), c5.2 c s z1, pI_x z2]
  have fR : ∀ c s, ¬ TXr c s → ¬ (c = 0 ∧ (s = 1 ∨ s = 2 ∨ s = 4 ∨ s = 5 ∨ s = 6 ∨ s = 21)) → B'.1 c s = hR.1 c s := fun c s z1 z2 => by
    unfold TXr at z1
    exact gR c s (by omega) (by omega) (by omega) (by omega)
  have t1 : TP B B' n T := by
    refine ⟨⟨n0, n7⟩, fun j a b => ?_, fun j a => ?_, fun j a => ?_, ?_, ?_⟩
    · obtain ⟨p1, p2, p3, p4⟩ := tp j a b
      refine ⟨p1, p2, ?_, ?_⟩
      · rw [fC 1 _ (by unfold TXc; omega) (by omega) (by omega)]
        exact p3
      · rw [fR 1 _ (by unfold TXr; omega) (by omega)]
        exact p4
    · rw [fC 23 _ (by unfold TXc; omega) (by omega) (by omega)]
      exact wc j a
    · rw [fR 2 _ (by unfold TXr; omega) (by omega)]
      exact wr j a
    · rw [eB, pI_t, if_neg (by decide), pI_t, if_pos rfl]
    · rw [eB', pI_n (by decide), pI_n (by decide), pI_n (by decide), pI_n (by decide), pI_n (by decide), pI_n (by decide), pI_n (by decide)]
      unfold h6R
      repeat (first | rw [pI_t, if_pos rfl] | rw [pI_t, if_neg (by decide)])
  have b7 : B.1 22 7 = 0 := by rw [eB, pI_t, if_pos rfl]
  have b7' : B'.1 0 7 = 0 := by
    rw [eB', pI_n (by decide), pI_n (by decide), pI_n (by decide), pI_n (by decide), pI_n (by decide), pI_n (by decide), pI_n (by decide)]
    unfold h6R
    repeat (first | rw [pI_t, if_pos rfl] | rw [pI_t, if_neg (by decide)])
  obtain ⟨t, t', a, j, w1, w2, w3, w4, w5, w6⟩ := tok t1 (i := 0) (by decide) n0 b7 b7'
  have eC : f_Tr_readText TC (pI hC 0 1 0) 2 n = lp_Tr_readText_37 TC fu t 2 0 := by
    unfold f_Tr_readText f_Sc_begin
    simp only [nmd_q, lyC, alS1]
    rw [c1, bnd_q, mn7 n7, ← eB, w1, bnd_q, bnd_q]
  rw [eC, plnR, bnd_q, ← eB', w2, bnd_q]
  have q17 : B'.1 0 17 = 0 ∧ B'.1 0 18 = 0 ∧ B'.1 0 19 = 0 ∧ B'.1 0 20 = 20 ∧ B'.1 0 21 = 0 ∧ B'.1 0 22 = 0 ∧ B'.1 0 48 = 0 := by
    rw [eB']
    refine ⟨?_, ?_, ?_, ?_, ?_, ?_, ?_⟩ <;> repeat (first | rw [pI_n (by decide)] | rw [pI_t, if_pos rfl] | rw [pI_t, if_neg (by decide)])
  have q3 : B'.1 3 0 = 0 ∧ B'.1 3 1 = 0 ∧ B'.1 4 2 = 0 ∧ B'.1 4 3 = 0 := by
    rw [eB']
    refine ⟨?_, ?_, ?_, ?_⟩ <;> repeat (first | rw [pI_n (by decide)] | rw [pI_t, if_pos rfl] | rw [pI_t, if_neg (by decide)])
  have q17b : B'.1 17 3 = 0 ∧ B'.1 17 4 = 0 ∧ B'.1 17 5 = 0 := by
    rw [eB']
    refine ⟨?_, ?_, ?_⟩ <;> repeat (first | rw [pI_n (by decide)] | rw [pI_t, if_pos rfl] | rw [pI_t, if_neg (by decide)])
  have z4 : B'.1 0 1 = 0 ∧ B'.1 0 4 = 0 ∧ B'.1 0 5 = -1 := by
    rw [eB']
    unfold h6R
    refine ⟨?_, ?_, ?_⟩ <;> repeat (first | rw [pI_n (by decide)] | rw [pI_t, if_pos rfl] | rw [pI_t, if_neg (by decide)])
  have y2 : B.1 2 1 = 0 ∧ B.1 2 2 = -1 ∧ B.1 2 5 = 0 ∧ B.1 2 6 = 0 := by
    rw [eB]
    refine ⟨?_, ?_, ?_, ?_⟩ <;> repeat (first | rw [pI_n (by decide)] | rw [pI_t, if_pos rfl] | rw [pI_t, if_neg (by decide)])
  have y01 : B.1 0 1 = 0 := by rw [gC 0 1 (by omega) (by omega), c5.2 0 1 (by unfold TXc; omega), pI_t, if_pos rfl]
  obtain ⟨e0, e1, e2, e3, e4, e5, e6⟩ := pE_e
  have tC : ∀ c s, ¬ c = 22 → t.1 c s = B.1 c s := fun c s z => w3.2 c s (by omega)
  have tR : ∀ c s, ¬ (c = 0 ∧ 7 ≤ s ∧ s ≤ 10) → t'.1 c s = B'.1 c s := fun c s z => w4.2 c s z
  refine lns 0 (by decide) (Q := pE) (L := lE) (sz := 0) (fr := 0) (fs := 0) (a := a) (j := j) w6 ⟨FrP.rf, FrQ.rf, pE_ok, ?_, ?_, ?_, ⟨lE_ok, ?_, ?_, ⟨?_, ?_, ?_, ?_⟩, by omega, fun q _ => Nat.le_refl _⟩, ⟨t1.mv w3 w4, w5⟩⟩ ?_ (fun _ => ⟨e3, e4, e5⟩) ⟨?_, fun c s z1 z2 z3 => ?_⟩ ⟨?_, fun c s z1 z2 => ?_⟩ ?_
  · exact c2.m3 (fun c s z1 z2 => by rw [tC c s (by omega), gC c s (by omega) (by omega)])
  · refine ⟨?_, fun i x y => ?_, fun i x y => ?_, fun i x y => ?_⟩
    · rw [tR 0 17 (by omega), tR 0 18 (by omega), tR 0 19 (by omega), tR 0 20 (by omega), tR 4 2 (by omega), tR 4 3 (by omega), e0, e1, e2, e3, e4, e5]
      exact ⟨q17.1, q17.2.1, q17.2.2.1, q17.2.2.2.1, q3.2.2.1, q3.2.2.2⟩
    · rw [e3] at y
      exact absurd y (by lia)
    · rw [e4] at y
      exact absurd y (by lia)
    · rw [e5] at y
      exact absurd y (by lia)
  · unfold PW
    rw [tC 2 5 (by omega), tC 2 6 (by omega), tR 3 0 (by omega), tR 3 1 (by omega)]
    exact ⟨y2.2.2.1, q3.1, y2.2.2.2, q3.2.1⟩
  · intro q hq
    obtain ⟨l1, l2, l3⟩ := c3 q hq
    simp only [Nat.reduceAdd] at l1 l2 l3 ⊢
    refine ⟨?_, ?_, fun i _ z => absurd z (Nat.not_lt_zero i)⟩
    · rw [tC 19 q (by omega), gC 19 q (by omega) (by omega)]
      exact l1
    · rw [tC 20 q (by omega), gC 20 q (by omega) (by omega)]
      exact l2
  · intro q hq
    refine ⟨?_, fun z => absurd z (Nat.lt_irrefl 0)⟩
    rw [tR 17 (3 + q) (by omega), if_neg (show ¬ lE.2.1 q < lE.2.2 q from Nat.lt_irrefl 0)]
    match q, hq with
    | 0, _ => exact q17b.1
    | 1, _ => exact q17b.2.1
    | 2, _ => exact q17b.2.2
  · rw [tC 17 0 (by omega), gC 17 0 (by omega) (by omega)]
    exact c4.1
  · rw [tC 17 1 (by omega), gC 17 1 (by omega) (by omega)]
    exact c4.2
  · rw [tR 0 48 (by omega)]
    exact q17.2.2.2.2.2.2
  · rw [tR 0 22 (by omega)]
    exact q17.2.2.2.2.2.1
  · rw [tR 0 21 (by omega)]
    exact q17.2.2.2.2.1
  · rw [w3.1, eB, pI_l, pI_l, pI_l, pI_l, pI_l, pI_l, c5.1, pI_l]
  · rw [tC c s (fun w => z1 (by unfold TXc; omega))]
    exact fC c s z1 z2 z3
  · rw [w4.1, eB', pI_l, pI_l, pI_l, pI_l, pI_l, pI_l, pI_l, pI_l, pI_l, pI_l, pI_l, pI_l, pI_l, pI_l]
    unfold h6R
    rw [pI_l, pI_l, pI_l, pI_l, pI_l, pI_l]
  · rw [tR c s (fun w => z1 (by unfold TXr; omega))]
    exact fR c s z1 z2
  · unfold FZ
    rw [tC 0 1 (by omega), tC 2 1 (by omega), tC 2 2 (by omega), tR 0 1 (by omega), tR 0 4 (by omega), tR 0 5 (by omega)]
    exact ⟨y01, z4.1, y2.1, y2.2.1, z4.2.1, z4.2.2⟩
