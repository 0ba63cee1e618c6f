/-! the reference lays its trial -/
theorem ix_6 {i : Int32} (h0 : 0 ≤ i) (h1 : i < 6) : ix (6 + i) = 6 + ix i := by
  obtain ⟨a, rfl⟩ := fin_i32 (n := 6) h0 (by decide) h1
  have : ∀ a : Fin 6, ix (6 + nI a.1) = 6 + ix (nI a.1) := by decide +kernel
  exact this a
/-- one world beside the other, so far -/
def LT6 (h h' : Hp) (k : Nat) : Prop := (∀ c s, ¬ (27 ≤ c ∧ c ≤ 33 ∧ 6 ≤ s) → h'.1 c s = h.1 c s) ∧ (∀ c, 27 ≤ c → c ≤ 33 → ∀ j, j < k → h'.1 c (6 + j) = h.1 c j) ∧ h'.2 = h.2 ∧ OZ h'
set_option maxHeartbeats 2000000 in
theorem lt1R {h h2 : Hp} {n : Nat} {i : Int32} (h0 : 0 ≤ i) (h1 : i < 6) (x : LT6 h h2 (ix i)) : ∃ h', lp_Md_layTried_2 TR (n + 1) h2 0 i = lp_Md_layTried_2 TR n h' 0 (i + 1) ∧ LT6 h h' (ix (i + 1)) := by
  have e6 := ix_6 h0 h1
  have i6 : ix i < 6 := ix_lt h0 (by decide) h1
  have i12 : i < 12 := by lia
  have j0 : 0 ≤ 6 + i := by lia
  have j12 : 6 + i < 12 := by lia
  obtain ⟨x1, x2, x3, x4⟩ := x
  have b31 : bit (h2.1 31 (ix i)) = true := x4 (ix i)
  rw [lp_Md_layTried_2, if_neg (by lia)]
  simp (disch := first | assumption | decide | omega) only [lyR, rdR, wtR, bnd_q, nmd_q, pI_n]
  refine ⟨_, rfl, ?_, ?_, ?_, ?_⟩
  · intro c s q
    rw [e6]
    by_cases z : 27 ≤ c ∧ c ≤ 33
    · have hs : ¬ s = 6 + ix i := by omega
      rw [pI_1, pI_1, pI_1, pI_1, pI_1, pI_1, pI_1]
      simp only [if_neg hs, ite_self]
      exact x1 c s q
    · rw [pI_n (by omega), pI_n (by omega), pI_n (by omega), pI_n (by omega), pI_n (by omega), pI_n (by omega), pI_n (by omega)]
      exact x1 c s q
  · intro c c0 c1 j hj
    rw [ix_s h0 (by lia)] at hj
    have g : ∀ c, h2.1 c (ix i) = h.1 c (ix i) := fun c => x1 c _ (by omega)
    rw [e6, pI_1, pI_1, pI_1, pI_1, pI_1, pI_1, pI_1]
    by_cases z : j = ix i
    · subst z
      rcases (show c = 27 ∨ c = 28 ∨ c = 29 ∨ c = 30 ∨ c = 31 ∨ c = 32 ∨ c = 33 by omega) with rfl | rfl | rfl | rfl | rfl | rfl | rfl <;> simp [g]
    · have hs : ¬ 6 + j = 6 + ix i := by omega
      simp only [if_neg hs, ite_self]
      exact x2 c c0 c1 j (by omega)
  · simp only [pI_l]
    exact x3
  · intro s
    rw [pI_n (by decide), pI_n (by decide), pI_t]
    split
    · exact b31
    · rw [pI_n (by decide), pI_n (by decide), pI_n (by decide), pI_n (by decide)]
      exact x4 s
theorem lt_end {n : Nat} {h : Hp} : lp_Md_layTried_2 TR (n + 1) h 0 6 = lp_Md_layTried_2 TR (0 + 1) h 0 6 := by
  rw [lp_Md_layTried_2, if_pos (by decide), lp_Md_layTried_2, if_pos (by decide)]
/-- nothing tried otherwise -/
def MZ (h : Hp) : Prop := h.1 0 69 = 0 ∧ h.1 0 70 = 0 ∧ h.1 0 71 = 0 ∧ h.1 0 72 = 0
theorem ltR {h : Hp} {P : Pl} {L : Lw} {A : Aw} (ok : POK P) (x : RK h P L A) : ∃ h', f_Md_layTried TR h 0 = some h' ∧ RH h' P L (mT P) False 1 A ∧ RD h' 1 (P 0 4) A ∧ KF h h' ∧ MZ h' := by
  have o1 := ok.1
  obtain ⟨h2, e2, x1, x2, x3, x4⟩ := loopF (S := Unit) (f := fun _ s => s) (N := 6) (lp := fun n h i => lp_Md_layTried_2 TR n h 0 i) (res := fun h => lp_Md_layTried_2 TR (0 + 1) h 0 6) (fun i _ h' => LT6 h h' (ix i)) (by decide) (by decide)
    (fun n h s q => lt_end)
    (fun n h2 i s a b q => lt1R a b q) 0 (by decide) (by decide) () h ⟨fun _ _ _ => rfl, fun _ _ _ j hj => by
      rw [show ix 0 = 0 by decide] at hj
      omega, rfl, x.2.2.2.2.2⟩
  unfold f_Md_layTried
  have e2' : lp_Md_layTried_2 TR fu h 0 0 = lp_Md_layTried_2 TR (0 + 1) h2 0 6 := e2
  have e6 : ix 6 = 6 := by decide
  rw [e6] at x2
  rw [e2', lp_Md_layTried_2, if_pos (by decide)]
  simp (disch := first | assumption | decide | omega) only [lyR, rdR, wtR, bnd_q, nmd_q, pI_n]
  have g : ∀ c s, ¬ (27 ≤ c ∧ c ≤ 33 ∧ 6 ≤ s) → h2.1 c s = h.1 c s := x1
  generalize hh : (pI (pI (pI (pI (pI (pI h2 34 (ix 1) (h2.1 34 (ix 0))) 35 (ix 1) (h2.1 35 (ix 0))) 36 (ix 1) (h2.1 36 (ix 0))) 37 (ix 1) (h2.1 37 (ix 0))) 38 (ix 1) (h2.1 38 (ix 0))) 39 (ix 1) (h2.1 39 (ix 0))) = h3
  have i1 : ix 1 = 1 := by decide
  have i0 : ix 0 = 0 := by decide
  have y1 : ∀ c s, ¬ (34 ≤ c ∧ c ≤ 39 ∧ s = 1) → h3.1 c s = h2.1 c s := fun c s q => by
    rw [← hh, i1]
    by_cases z : s = 1
    · rw [pI_n (by omega), pI_n (by omega), pI_n (by omega), pI_n (by omega), pI_n (by omega), pI_n (by omega)]
    · rw [pI_1, pI_1, pI_1, pI_1, pI_1, pI_1]
      simp only [if_neg z, ite_self]
  have y2 : h3.1 34 1 = h2.1 34 0 ∧ h3.1 35 1 = h2.1 35 0 ∧ h3.1 36 1 = h2.1 36 0 ∧ h3.1 37 1 = h2.1 37 0 ∧ h3.1 38 1 = h2.1 38 0 ∧ h3.1 39 1 = h2.1 39 0 := by
    rw [← hh, i1, i0]
    simp [pI_1]
  have y3 : h3.2 = h.2 := by
    rw [← hh]
    simp only [pI_l]
    exact x3
  obtain ⟨p1, p2, p3, p4, p5, p6, p7⟩ := plR (h := h3)
  have k1 : ∀ c s, ¬ RX c s → (f_Md_plainTried TR h3 0).1 c s = h.1 c s := fun c s q => by
    unfold RX at q
    rw [p7 c s (by omega), y1 c s (by omega), g c s (by omega)]
  have kf : KF h (f_Md_plainTried TR h3 0) := by
    refine ⟨k1, fun c s _ => by rw [p6, y3], fun _ => p1.2.2 (fun s => ?_)⟩
    rw [y1 31 s (by omega)]
    exact x4 s
  have rk := x.mv ok kf
  have w := x.2.2.1
  obtain ⟨mo, rr⟩ := mTR (n := A.2) ok p2 p3 p4 p5
  have b1 : ∀ i : Int32, 6 * 1 + i = 6 + i := fun i => by lia
  have cp : ∀ c, 27 ≤ c → c ≤ 33 → ∀ i : Int32, 0 ≤ i → i < 6 → (f_Md_plainTried TR h3 0).1 c (ix (6 * 1 + i)) = h.1 c (ix (6 * 0 + i)) := fun c c0 c1 i j0 j1 => by
    rw [b1, i60, ix_6 j0 j1, p7 c _ (by omega), y1 c _ (by omega)]
    exact x2 c c0 c1 _ (ix_lt j0 (by decide) j1)
  have sc : ∀ c, 34 ≤ c → c ≤ 39 → h3.1 c 1 = h2.1 c 0 → (f_Md_plainTried TR h3 0).1 c (ix 1) = h.1 c (ix 0) := fun c c0 c1 e => by
    rw [i1, i0, p7 c _ (by omega), e, g c _ (by omega)]
  refine ⟨_, rfl, ⟨rk.1, rk.2.1, mo, rr, ⟨fun i a b => ?_, fun i a b => ?_, fun i a b => ?_, fun i a b => ?_, fun i a b => ?_, fun i a b => ?_, ?_⟩⟩, fun i a b => ?_, kf, p2, p3, p4, p5⟩
  · rw [cp 27 (by decide) (by decide) i a (by lia)]; exact w.1 i a b
  · rw [cp 28 (by decide) (by decide) i a (by lia)]; exact w.2.1 i a b
  · rw [cp 29 (by decide) (by decide) i a (by lia)]; exact w.2.2.1 i a b
  · rw [cp 30 (by decide) (by decide) i a (by lia)]; exact w.2.2.2.1 i a b
  · rw [cp 31 (by decide) (by decide) i a (by lia)]; exact w.2.2.2.2.1 i a b
  · rw [cp 33 (by decide) (by decide) i a (by lia)]; exact w.2.2.2.2.2.1 i a b
  · rw [sc 34 (by decide) (by decide) y2.1, sc 35 (by decide) (by decide) y2.2.1, sc 36 (by decide) (by decide) y2.2.2.1, sc 37 (by decide) (by decide) y2.2.2.2.1, sc 38 (by decide) (by decide) y2.2.2.2.2.1, sc 39 (by decide) (by decide) y2.2.2.2.2.2]
    exact w.2.2.2.2.2.2
  · rw [cp 32 (by decide) (by decide) i a (by lia)]; exact x.2.2.2.1 i a b
/-- many hours of the reference's trial -/
theorem gmR {h : Hp} {P : Pl} {L : Lw} {M : Mo} {d : Prop} {b : Int32} {A : Aw} {N : Int32} (mo : MOK M) (ok : POK P) (lk : LOK L) (wo : WOK P A) (x : RH h P L M d 1 A) (on : ONK P 0 A) (h0 : 0 ≤ N) (h1 : N ≤ 900) : ∃ h', f_Md_goMany TR h 0 N = some h' ∧ RH h' P L M d 1 (hrN P L M N A) ∧ RF 1 d h h' := by
  obtain ⟨h', e, ⟨i1, i2, i3⟩, -⟩ := loopF (f := fun _ A => hr P L M A) (N := N) (lp := fun n h i => lp_Md_goMany_2 TR n h 0 N i) (res := fun h => some h) (fun i s h' => RI h P L M d 1 s h' ∧ ONK P 0 s) h0 h1
    (fun n h s q => by
      simp only [lp_Md_goMany_2]
      rw [if_pos (by lia)])
    (fun n h2 i s a b q => by
      obtain ⟨⟨q1, q2, q3⟩, q4⟩ := q
      obtain ⟨h3, e, y, z, f⟩ := hrR mo (.inr rfl) ok lk q2 q1 q4
      have z := hr_ok (L := L) ok mo q2 q4
      refine ⟨h3, ?_, ⟨y, z.1, q3.tr f⟩, z.2⟩
      simp only [lp_Md_goMany_2]
      rw [if_neg (by lia), e, bnd_q, nmd_q]) 0 (by decide) h0 A h ⟨⟨x, wo, RF.rf⟩, on⟩
  exact ⟨h', e, i1, i3⟩
