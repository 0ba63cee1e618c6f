/-! twenty bytes more -/
theorem by8 (v : Int32) : v.toInt8.toInt32.toInt8.toInt32 = (v &&& 255).toInt8.toInt32 := by
  rw [Int8.toInt8_toInt32, Int32.toInt8_and, show (255 : Int32).toInt8 = -1 by decide, Int8.and_neg_one]
theorem an255 (v : Int32) : 0 ≤ v &&& 255 ∧ v &&& 255 ≤ 255 := by
  have e : v &&& 255 = nI (v.toBitVec.toNat &&& 255) := by
    apply Int32.toBitVec_inj.1
    rw [Int32.toBitVec_and]
    apply BitVec.eq_of_toNat_eq
    rw [BitVec.toNat_and]
    have h1 : (nI (v.toBitVec.toNat &&& 255)).toBitVec = BitVec.ofNat 32 (v.toBitVec.toNat &&& 255) := rfl
    rw [h1, BitVec.toNat_ofNat]
    have h2 : v.toBitVec.toNat &&& 255 ≤ 255 := Nat.and_le_right
    rw [Nat.mod_eq_of_lt (by omega)]
    rfl
  have h2 : v.toBitVec.toNat &&& 255 ≤ 255 := Nat.and_le_right
  rw [e]
  exact ⟨nI_le (a := 0) (by omega) (by omega), nI_le (b := 255) h2 (by decide)⟩
/-- the byte k of five numbers -/
def bya (a b c d e k : Int32) : Int32 := ((if 4 ≤ k then (if 8 ≤ k then (if 12 ≤ k then (if 16 ≤ k then e else d) else c) else b) else a) >>> ((24 - 8 * (k - k / 4 * 4)) &&& 31)) &&& 255
/-- the tape from m on, q bytes of it -/
def FT (h0 h : Hp) (m q : Int32) (F : Int32 → Int32) : Prop := h.2 = h0.2 ∧ (∀ c s, ¬ c = 1 → ¬ (c = 0 ∧ s = 1) → h.1 c s = h0.1 c s) ∧ (∀ j, 0 ≤ j → j < m → h.1 1 (ix j) = h0.1 1 (ix j)) ∧ ∀ k, 0 ≤ k → k < q → h.1 1 (ix (m + k)) = F k
theorem FT.st {h0 h : Hp} {m q x : Int32} {F : Int32 → Int32} (f : FT h0 h m q F) (m0 : 0 ≤ m) (q0 : 0 ≤ q) (q1 : q < 20) (m1 : m ≤ 680) (e : F q = x) : FT h0 (pI h 1 (ix (m + q)) x) m (q + 1) F := by
  obtain ⟨f1, f2, f3, f4⟩ := f
  refine ⟨by rw [pI_l]; exact f1, fun c s a b => ?_, fun j a b => ?_, fun k a b => ?_⟩
  · rw [pI_n a]
    exact f2 c s a b
  · rw [pI_ix (by lia) a, if_neg (by lia)]
    exact f3 j a b
  · rw [pI_ix (by lia) (by lia)]
    by_cases z : k = q
    · rw [if_pos (by rw [z]), z, e]
    · rw [if_neg (by lia)]
      exact f4 k a (by lia)
theorem FT.s1 {h0 h : Hp} {m q x : Int32} {F : Int32 → Int32} (f : FT h0 h m q F) : FT h0 (pI h 0 1 x) m q F := by
  obtain ⟨f1, f2, f3, f4⟩ := f
  refine ⟨by rw [pI_l]; exact f1, fun c s a b => ?_, fun j a b => ?_, fun k a b => ?_⟩
  · rw [pI_1]
    split
    · rw [if_neg (by omega)]
      exact f2 c s a b
    · exact f2 c s a b
  · rw [pI_n (by decide)]
    exact f3 j a b
  · rw [pI_n (by decide)]
    exact f4 k a b
/-- one byte of the class -/
theorem pf1 {h0 h : Hp} {n : Nat} {m q v s : Int32} {F : Int32 → Int32} (f : FT h0 h m q F) (e : h.1 0 1 = m + q) (m0 : 0 ≤ m) (q0 : 0 ≤ q) (q1 : q < 20) (m1 : m ≤ 680) (s0 : ¬ s < 0) (eF : F q = ((v >>> (s &&& 31)) &&& 255).toInt8.toInt32) : ∃ h', lp_Tt_putFour_3 TC (n + 1) h 0 v s = lp_Tt_putFour_3 TC n h' 0 v (s + -8) ∧ FT h0 h' m (q + 1) F ∧ h'.1 0 1 = m + (q + 1) := by
  have i0 : 0 ≤ m + q := by lia
  have i7 : m + q < 700 := by lia
  refine ⟨pI (pI h 1 (ix (m + q)) ((v >>> (s &&& 31)) &&& 255).toInt8.toInt32) 0 1 (m + (q + 1)), ?_, (f.st m0 q0 q1 m1 eF).s1, ?_⟩
  · simp only [lp_Tt_putFour_3]
    rw [if_neg s0, e, if_neg (by lia)]
    simp (disch := first | assumption | decide | omega) only [lyC, wtC, bnd_q, nmd_q, pI_n, e, by8]
    rw [show m + q + 1 = m + (q + 1) by lia]
  · rw [pI_t, if_pos rfl]
theorem pfC {h0 h : Hp} {m q v : Int32} {F : Int32 → Int32} (f : FT h0 h m q F) (e : h.1 0 1 = m + q) (m0 : 0 ≤ m) (q0 : 0 ≤ q) (q1 : q ≤ 16) (m1 : m ≤ 680) (e0 : F q = ((v >>> ((24 : Int32) &&& 31)) &&& 255).toInt8.toInt32) (e1 : F (q + 1) = ((v >>> ((16 : Int32) &&& 31)) &&& 255).toInt8.toInt32) (e2 : F (q + 1 + 1) = ((v >>> ((8 : Int32) &&& 31)) &&& 255).toInt8.toInt32) (e3 : F (q + 1 + 1 + 1) = ((v >>> ((0 : Int32) &&& 31)) &&& 255).toInt8.toInt32) : ∃ h', f_Tt_putFour TC h 0 v = some h' ∧ FT h0 h' m (q + 1 + 1 + 1 + 1) F ∧ h'.1 0 1 = m + (q + 1 + 1 + 1 + 1) := by
  unfold f_Tt_putFour
  rw [show fu = 995 + 1 + 1 + 1 + 1 + 1 from rfl]
  obtain ⟨h1, w1, f1, c1⟩ := pf1 (n := 995 + 1 + 1 + 1 + 1) (v := v) (s := 24) f e m0 q0 (by lia) m1 (by decide) e0
  obtain ⟨h2, w2, f2, c2⟩ := pf1 (n := 995 + 1 + 1 + 1) (v := v) (s := 16) f1 c1 m0 (by lia) (by lia) m1 (by decide) e1
  obtain ⟨h3, w3, f3, c3⟩ := pf1 (n := 995 + 1 + 1) (v := v) (s := 8) f2 c2 m0 (by lia) (by lia) m1 (by decide) e2
  obtain ⟨h4, w4, f4, c4⟩ := pf1 (n := 995 + 1) (v := v) (s := 0) f3 c3 m0 (by lia) (by lia) m1 (by decide) e3
  refine ⟨h4, ?_, f4, c4⟩
  rw [w1, show (24 : Int32) + -8 = 16 by decide, w2, show (16 : Int32) + -8 = 8 by decide, w3, show (8 : Int32) + -8 = 0 by decide, w4, lp_Tt_putFour_3, if_pos (by decide)]
theorem bya_e (a b c d e : Int32) : bya a b c d e 0 = (a >>> ((24 : Int32) &&& 31)) &&& 255 ∧ bya a b c d e 1 = (a >>> ((16 : Int32) &&& 31)) &&& 255 ∧ bya a b c d e 2 = (a >>> ((8 : Int32) &&& 31)) &&& 255 ∧ bya a b c d e 3 = (a >>> ((0 : Int32) &&& 31)) &&& 255 ∧
    bya a b c d e 4 = (b >>> ((24 : Int32) &&& 31)) &&& 255 ∧ bya a b c d e 5 = (b >>> ((16 : Int32) &&& 31)) &&& 255 ∧ bya a b c d e 6 = (b >>> ((8 : Int32) &&& 31)) &&& 255 ∧ bya a b c d e 7 = (b >>> ((0 : Int32) &&& 31)) &&& 255 ∧
    bya a b c d e 8 = (c >>> ((24 : Int32) &&& 31)) &&& 255 ∧ bya a b c d e 9 = (c >>> ((16 : Int32) &&& 31)) &&& 255 ∧ bya a b c d e 10 = (c >>> ((8 : Int32) &&& 31)) &&& 255 ∧ bya a b c d e 11 = (c >>> ((0 : Int32) &&& 31)) &&& 255 ∧
    bya a b c d e 12 = (d >>> ((24 : Int32) &&& 31)) &&& 255 ∧ bya a b c d e 13 = (d >>> ((16 : Int32) &&& 31)) &&& 255 ∧ bya a b c d e 14 = (d >>> ((8 : Int32) &&& 31)) &&& 255 ∧ bya a b c d e 15 = (d >>> ((0 : Int32) &&& 31)) &&& 255 ∧
    bya a b c d e 16 = (e >>> ((24 : Int32) &&& 31)) &&& 255 ∧ bya a b c d e 17 = (e >>> ((16 : Int32) &&& 31)) &&& 255 ∧ bya a b c d e 18 = (e >>> ((8 : Int32) &&& 31)) &&& 255 ∧ bya a b c d e 19 = (e >>> ((0 : Int32) &&& 31)) &&& 255 :=
  ⟨rfl, rfl, rfl, rfl, rfl, rfl, rfl, rfl, rfl, rfl, rfl, rfl, rfl, rfl, rfl, rfl, rfl, rfl, rfl, rfl⟩
theorem fdC {h : Hp} {m a b c d e : Int32} (es : h.1 0 1 = m) (m0 : 0 ≤ m) (m1 : m ≤ 680) : ∃ h', f_Tt_feed TC h 0 a b c d e = some (m + 20, h') ∧ FT h h' m 20 (fun k => (bya a b c d e k).toInt8.toInt32) ∧ h'.1 0 1 = m + 20 := by
  obtain ⟨b0, b1, b2, b3, b4, b5, b6, b7, b8, b9, b10, b11, b12, b13, b14, b15, b16, b17, b18, b19⟩ := bya_e a b c d e
  have f0 : FT h h m 0 (fun k => (bya a b c d e k).toInt8.toInt32) := ⟨rfl, fun _ _ _ _ => rfl, fun _ _ _ => rfl, fun k z1 z2 => absurd z2 (by lia)⟩
  unfold f_Tt_feed
  rw [es, if_pos (by lia)]
  obtain ⟨h1, w1, f1, c1⟩ := pfC (v := a) f0 (by rw [es]; lia) m0 (by decide) (by decide) m1 (congrArg (fun z : Int32 => z.toInt8.toInt32) b0) (congrArg (fun z : Int32 => z.toInt8.toInt32) b1) (congrArg (fun z : Int32 => z.toInt8.toInt32) b2) (congrArg (fun z : Int32 => z.toInt8.toInt32) b3)
  obtain ⟨h2, w2, f2, c2⟩ := pfC (v := b) f1 c1 m0 (by decide) (by decide) m1 (congrArg (fun z : Int32 => z.toInt8.toInt32) b4) (congrArg (fun z : Int32 => z.toInt8.toInt32) b5) (congrArg (fun z : Int32 => z.toInt8.toInt32) b6) (congrArg (fun z : Int32 => z.toInt8.toInt32) b7)
  obtain ⟨h3, w3, f3, c3⟩ := pfC (v := c) f2 c2 m0 (by decide) (by decide) m1 (congrArg (fun z : Int32 => z.toInt8.toInt32) b8) (congrArg (fun z : Int32 => z.toInt8.toInt32) b9) (congrArg (fun z : Int32 => z.toInt8.toInt32) b10) (congrArg (fun z : Int32 => z.toInt8.toInt32) b11)
  obtain ⟨h4, w4, f4, c4⟩ := pfC (v := d) f3 c3 m0 (by decide) (by decide) m1 (congrArg (fun z : Int32 => z.toInt8.toInt32) b12) (congrArg (fun z : Int32 => z.toInt8.toInt32) b13) (congrArg (fun z : Int32 => z.toInt8.toInt32) b14) (congrArg (fun z : Int32 => z.toInt8.toInt32) b15)
  obtain ⟨h5, w5, f5, c5⟩ := pfC (v := e) f4 c4 m0 (by decide) (by decide) m1 (congrArg (fun z : Int32 => z.toInt8.toInt32) b16) (congrArg (fun z : Int32 => z.toInt8.toInt32) b17) (congrArg (fun z : Int32 => z.toInt8.toInt32) b18) (congrArg (fun z : Int32 => z.toInt8.toInt32) b19)
  have e20 : (0 : Int32) + 1 + 1 + 1 + 1 + 1 + 1 + 1 + 1 + 1 + 1 + 1 + 1 + 1 + 1 + 1 + 1 + 1 + 1 + 1 + 1 = 20 := by decide
  rw [e20] at f5 c5
  rw [w1, bnd_q, w2, bnd_q, w3, bnd_q, w4, bnd_q, w5, bnd_q, c5]
  exact ⟨h5, rfl, f5, c5⟩
theorem fdR {h : Hp} {m a b c d e : Int32} (es : h.1 0 1 = m) (m0 : 0 ≤ m) (m1 : m ≤ 680) : ∃ h', lp_Md_feed_23 TR fu h 0 a b c d e 0 = some (m + 20, h') ∧ FT h h' m 20 (fun k => bya a b c d e k) ∧ h'.1 0 1 = m + 20 := by
  obtain ⟨h', e1, e2, e3⟩ := loopF (S := Unit) (R := Int32 × Hp) (f := fun _ s => s) (N := 20) (lp := fun n h i => lp_Md_feed_23 TR n h 0 a b c d e i) (res := fun h => some (m + 20, pI h 0 1 (m + 20))) (fun i _ h' => FT h h' m i (fun k => bya a b c d e k) ∧ h'.1 0 1 = m) (by decide) (by decide) (fun n h' _ i => by
      simp only [lp_Md_feed_23, nmd_q]
      rw [if_pos (by decide), i.2, pI_t, if_pos rfl]) (fun n h' i _ i0 i1 I => by
      have j0 : 0 ≤ m + i := by lia
      have j7 : m + i < 700 := by lia
      refine ⟨pI h' 1 (ix (m + i)) (bya a b c d e i), ?_, I.1.st m0 i0 i1 m1 rfl, by rw [pI_n (by decide)]; exact I.2⟩
      simp only [lp_Md_feed_23]
      unfold jb_Md_feed_76 bya
      rw [if_neg (by lia), I.2]
      simp (disch := first | assumption | decide | omega) only [lyR, wtR, bnd_q, nmd_q]
      (repeat' split) <;> rfl) 0 (by decide) (by decide) () h ⟨⟨rfl, fun _ _ _ _ => rfl, fun _ _ _ => rfl, fun k z1 z2 => absurd z2 (by lia)⟩, es⟩
  exact ⟨_, e1, e2.s1, by rw [pI_t, if_pos rfl]⟩
def fdX (X : Pl) (F : Int32 → Int32) : Pl := fun r j => if r = 0 then (if j = 0 then X 0 0 + 20 else X 0 j) else if r = 1 then (if X 0 0 ≤ j then F (j - X 0 0) else X 1 j) else X r j
theorem fdX_0 {X : Pl} {F : Int32 → Int32} : fdX X F 0 0 = X 0 0 + 20 := by
  unfold fdX
  rw [if_pos rfl, if_pos rfl]
theorem fdX_j {X : Pl} {F : Int32 → Int32} {j : Int32} (q : ¬ j = 0) : fdX X F 0 j = X 0 j := by
  unfold fdX
  rw [if_pos rfl, if_neg q]
theorem fdX_1 {X : Pl} {F : Int32 → Int32} {j : Int32} : fdX X F 1 j = if X 0 0 ≤ j then F (j - X 0 0) else X 1 j := by
  unfold fdX
  rw [if_neg (by decide), if_pos rfl]
theorem fdX_r {X : Pl} {F : Int32 → Int32} {r : Nat} {j : Int32} (q : ¬ r = 0) (q1 : ¬ r = 1) : fdX X F r j = X r j := by
  unfold fdX
  rw [if_neg q, if_neg q1]
theorem PRel.fd {P : Pl} {L : Lw} {A B : Aw} {X : Pl} {U : Ud} {F : Int32 → Int32} (p : PRel P L A B X U) (m : X 0 0 ≤ 680) (c : ∀ k, 0 ≤ F k ∧ F k ≤ 255) : PRel P L A B (fdX X F) U := by
  obtain ⟨p1, p2, p3, p4, p5, p6, p7, p8, ⟨d1, d2, d3, d4⟩, ⟨s1, s2⟩, p11, p12⟩ := p
  refine ⟨p1, p2, p3, p4, ?_, ?_, ?_, ?_, ⟨?_, ?_, ?_, ?_⟩, ⟨?_, ?_⟩, p11, ?_⟩
  · rw [fdX_j (by decide)]; exact p5
  · rw [fdX_j (by decide)]; exact p6
  · rw [fdX_0]
    exact ⟨by lia, by lia⟩
  · rw [fdX_0]
    intro j a b
    rw [fdX_1]
    by_cases z : X 0 0 ≤ j
    · rw [if_pos z]
      exact c _
    · rw [if_neg z]
      exact p8 j a (by lia)
  · rw [fdX_j (by decide)]; exact d1
  · rw [fdX_j (by decide)]; exact d2
  · rw [fdX_j (by decide)]; exact d3
  · rw [fdX_j (by decide)]
    intro k a b
    have := d4 k a b
    unfold UNK at this ⊢
    rw [fdX_r (by decide) (by decide), fdX_r (by decide) (by decide), fdX_r (by decide) (by decide), fdX_r (by decide) (by decide), fdX_r (by decide) (by decide)]
    exact this
  · rw [fdX_j (by decide), fdX_j (by decide)]
    exact s1
  · rw [fdX_j (by decide)]
    intro k a b
    rw [fdX_r (by decide) (by decide), fdX_r (by decide) (by decide), fdX_r (by decide) (by decide), fdX_r (by decide) (by decide), fdX_r (by decide) (by decide)]
    exact s2 k a b
  · rw [fdX_j (by decide)]; exact p12
theorem CRel.fd {h h' : Hp} {P : Pl} {L : Lw} {A B : Aw} {X : Pl} {F : Int32 → Int32} (m0 : 0 ≤ X 0 0) (m1 : X 0 0 ≤ 680) (x : CRel h P L A B X) (f : FT h h' (X 0 0) 20 (fun k => (F k).toInt8.toInt32)) (e : h'.1 0 1 = X 0 0 + 20) : CRel h' P L A B (fdX X F) := by
  obtain ⟨f1, f2, f3, f4⟩ := f
  have fr : Fr (fun c => c ≤ 1) h h' := fun c hc => ⟨funext fun s => f2 c s (by omega) (by omega), by rw [f1]⟩
  have gg : ∀ c, 2 ≤ c → h'.1 c = h.1 c := fun c hc => (fr c (by omega)).1
  obtain ⟨x1, x2, x3, x4, x5, x6, x7⟩ := x
  refine ⟨⟨x1.1.mv fr (fun c q => by omega), x1.2.1.mv fr (fun c q => by omega), x1.2.2.mv fr (fun c q => by omega)⟩, ?_, ?_, ?_, ?_, ?_, by rw [gg 23 (by decide)]; exact x7⟩
  · rw [fdX_j (by decide)]
    exact fun q => (x2 q).mv fr (fun c q => by omega)
  · obtain ⟨a1, a2, a3, a4, a5, a6, a7, a8⟩ := x3
    rw [fdX_0, fdX_j (show ¬ (1 : Int32) = 0 by decide), fdX_j (show ¬ (2 : Int32) = 0 by decide), fdX_j (show ¬ (3 : Int32) = 0 by decide), fdX_j (show ¬ (4 : Int32) = 0 by decide), fdX_j (show ¬ (5 : Int32) = 0 by decide), fdX_j (show ¬ (6 : Int32) = 0 by decide), fdX_j (show ¬ (7 : Int32) = 0 by decide), gg 2 (by decide), gg 40 (by decide), gg 59 (by decide), gg 65 (by decide), f2 0 6 (by decide) (by decide)]
    exact ⟨e, a2, a3, a4, a5, a6, a7, a8⟩
  · rw [fdX_0]
    intro j a b
    rw [fdX_1]
    by_cases z : X 0 0 ≤ j
    · rw [if_pos z]
      have := f4 (j - X 0 0) (by lia) (by lia)
      rw [show X 0 0 + (j - X 0 0) = j by lia] at this
      exact this
    · rw [if_neg z, f3 j a (by lia)]
      exact x4 j a (by lia)
  · rw [fdX_j (by decide), gg 60 (by decide), gg 61 (by decide), gg 62 (by decide), gg 63 (by decide), gg 64 (by decide)]
    intro k a b
    rw [fdX_r (by decide) (by decide), fdX_r (by decide) (by decide), fdX_r (by decide) (by decide), fdX_r (by decide) (by decide), fdX_r (by decide) (by decide)]
    exact x5 k a b
  · rw [fdX_j (by decide), gg 70 (by decide), gg 66 (by decide), gg 67 (by decide), gg 68 (by decide), gg 69 (by decide)]
    intro k a b
    rw [fdX_r (by decide) (by decide), fdX_r (by decide) (by decide), fdX_r (by decide) (by decide), fdX_r (by decide) (by decide), fdX_r (by decide) (by decide)]
    exact x6 k a b
theorem RP.m4 {h h' : Hp} {P : Pl} (g : ∀ c s, 4 ≤ c → c ≤ 16 → h'.1 c s = h.1 c s) (g0 : ∀ s, 12 ≤ s → s ≤ 15 → h'.1 0 s = h.1 0 s) (x : RP h P) : RP h' P := by
  have gg : ∀ c, 4 ≤ c → c ≤ 16 → h'.1 c = h.1 c := fun c a b => funext fun s => g c s a b
  unfold RP at x ⊢
  rw [gg 4 (by decide) (by decide), gg 5 (by decide) (by decide), gg 6 (by decide) (by decide), gg 7 (by decide) (by decide), gg 8 (by decide) (by decide), gg 9 (by decide) (by decide), gg 10 (by decide) (by decide), gg 11 (by decide) (by decide), gg 12 (by decide) (by decide), gg 13 (by decide) (by decide), gg 14 (by decide) (by decide), gg 15 (by decide) (by decide), gg 16 (by decide) (by decide), g0 12 (by decide) (by decide), g0 13 (by decide) (by decide), g0 14 (by decide) (by decide), g0 15 (by decide) (by decide)]
  exact x
theorem RRel.fd {h h' : Hp} {P : Pl} {L : Lw} {A B : Aw} {X : Pl} {U : Ud} {F : Int32 → Int32} (m0 : 0 ≤ X 0 0) (m1 : X 0 0 ≤ 680) (x : RRel h P L A B X U) (f : FT h h' (X 0 0) 20 F) (e : h'.1 0 1 = X 0 0 + 20) : RRel h' P L A B (fdX X F) U := by
  obtain ⟨f1, f2, f3, f4⟩ := f
  have gg : ∀ c s, 2 ≤ c → h'.1 c s = h.1 c s := fun c s hc => f2 c s (by omega) (by omega)
  obtain ⟨⟨a1, a2, a3, a4, a5, a6⟩, x2, x3, x4, x5, x6, x7⟩ := x
  refine ⟨⟨a1.m4 (fun c s p q => gg c s (by omega)) (fun s p q => f2 0 s (by omega) (by omega)), a2.mv (fun c s p q => gg c s (by omega)), a3.mg (fun c s p q => gg c s (by omega)), ?_, ?_, ?_⟩, ?_, ?_, ?_, ?_, ?_, fun j a => by rw [gg 2 j (by omega)]; exact x7 j a⟩
  · intro i j0 j1
    rw [gg 32 _ (by omega)]
    exact a4 i j0 j1
  · rw [f1]; exact a5
  · intro s
    rw [gg 31 s (by omega)]
    exact a6 s
  · rw [fdX_j (by decide)]
    intro q
    obtain ⟨⟨z1, z2, z3⟩, z4, z5, z6⟩ := x2 q
    refine ⟨⟨fun i a b => ?_, fun i a b => ?_, fun i a b => ?_⟩, fun i a b => ?_, ?_, ?_⟩
    · rw [gg 44 _ (by omega)]; exact z1 i a b
    · rw [gg 44 _ (by omega)]; exact z2 i a b
    · rw [gg 44 _ (by omega)]; exact z3 i a b
    · rw [gg 45 _ (by omega), gg 45 _ (by omega), gg 45 _ (by omega), gg 45 _ (by omega)]; exact z4 i a b
    · rw [gg 45 _ (by omega), gg 45 _ (by omega), gg 45 _ (by omega), gg 45 _ (by omega), gg 45 _ (by omega), gg 45 _ (by omega)]; exact z5
    · rw [f1]; exact z6
  · obtain ⟨b1, b2, b3, b4, b5, b6, b7, b8⟩ := x3
    rw [fdX_0, fdX_j (show ¬ (1 : Int32) = 0 by decide), fdX_j (show ¬ (2 : Int32) = 0 by decide), fdX_j (show ¬ (3 : Int32) = 0 by decide), fdX_j (show ¬ (4 : Int32) = 0 by decide), fdX_j (show ¬ (5 : Int32) = 0 by decide), fdX_j (show ¬ (6 : Int32) = 0 by decide), fdX_j (show ¬ (7 : Int32) = 0 by decide), f2 0 4 (by decide) (by decide), f2 0 5 (by decide) (by decide), f2 0 16 (by decide) (by decide), f2 0 80 (by decide) (by decide), f2 0 78 (by decide) (by decide), f2 0 74 (by decide) (by decide), f2 0 75 (by decide) (by decide)]
    exact ⟨e, b2, b3, b4, b5, b6, b7, b8⟩
  · rw [fdX_0]
    intro j a b
    rw [fdX_1]
    by_cases z : X 0 0 ≤ j
    · rw [if_pos z]
      have := f4 (j - X 0 0) (by lia) (by lia)
      rw [show X 0 0 + (j - X 0 0) = j by lia] at this
      exact this
    · rw [if_neg z, f3 j a (by lia)]
      exact x4 j a (by lia)
  · rw [fdX_j (by decide)]
    intro k a b
    obtain ⟨z1, z2, z3⟩ := x5 k a b
    exact ⟨fun i a b => by rw [gg 43 _ (by omega)]; exact z1 i a b, fun i a b => by rw [gg 43 _ (by omega)]; exact z2 i a b, fun i a b => by rw [gg 43 _ (by omega)]; exact z3 i a b⟩
  · rw [fdX_j (by decide)]
    intro k a b
    rw [fdX_r (by decide) (by decide), fdX_r (by decide) (by decide), fdX_r (by decide) (by decide), fdX_r (by decide) (by decide), fdX_r (by decide) (by decide), gg 41 _ (by omega), gg 41 _ (by omega), gg 41 _ (by omega), gg 41 _ (by omega)]
    exact x6 k a b
theorem sp_feed : SP_feed Rl := by
  intro hC hR a1 a2 a3 a4 a5 hr
  obtain ⟨P, L, A, B, X, U, p, x, y⟩ := hr
  have ok := p.1
  have o1 := ok.1
  have lk := p.2.1
  have wo := p.2.2.1
  have g := x.1.h.g
  simp only [Nat.reduceAdd] at g
  have xh := x.1.h
  have y1 := y.th (v := 0) ok
  have k := y1.1.g
  have sx := x.2.2.1
  have sr := y1.2.2.1
  have so := p.2.2.2.2.2.2.1
  have e1 := sr.1
  have e0 := sx.1
  unfold f_Md_feed
  simp only [nmd_q]
  generalize pI hR 0 2 0 = h1 at y1 k sr e1 ⊢
  by_cases q : X 0 0 + 20 ≤ 700
  · rw [e1, if_pos q]
    have m1 : X 0 0 ≤ 680 := by lia
    obtain ⟨h', w, f, c⟩ := fdC (a := a1) (b := a2) (c := a3) (d := a4) (e := a5) e0 so.1 m1
    obtain ⟨h'', w', f', c'⟩ := fdR (a := a1) (b := a2) (c := a3) (d := a4) (e := a5) e1 so.1 m1
    exact ⟨_, _, w, w', rfl, Rl.mk (p.fd m1 (fun k => an255 _)) (x.fd so.1 m1 f c) (y1.fd so.1 m1 f' c')⟩
  · unfold f_Tt_feed
    rw [e0, e1, if_neg q, if_neg q]
    exact ⟨_, _, rfl, rfl, rfl, Rl.mk p x y1⟩
