/-! what was seen: see, strike, known -/
theorem PRel.kn {P : Pl} {L : Lw} {A B : Aw} {X : Pl} {U : Ud} {n : Int32} (p : PRel P L A B X U) (n0 : -1 ≤ n) (n1 : n ≤ X 0 6) : PRel P L A B (upX X 0 7 n) U := by
  obtain ⟨p1, p2, p3, p4, p5, p6, p7, p8, ⟨d1, d2, d3, d4⟩, p10, p11, p12⟩ := p
  have e4 : upX X 0 7 n 0 4 = X 0 4 := by rw [upX_s, if_neg (by decide)]
  have e0 : upX X 0 7 n 0 0 = X 0 0 := by rw [upX_s, if_neg (by decide)]
  have e5 : upX X 0 7 n 0 5 = X 0 5 := by rw [upX_s, if_neg (by decide)]
  refine ⟨p1, p2, p3, p4, ?_, ?_, ?_, ?_, ⟨?_, ?_, ?_, ?_⟩, ?_, p11, ?_⟩
  · rw [e4]; exact p5
  · rw [e4]; exact p6
  · rw [e0]; exact p7
  · rw [e0]
    intro j a b
    rw [upX_n (by decide)]
    exact p8 j a b
  · rw [e5]; exact d1
  · rw [e5]; exact d2
  · rw [e5]; exact d3
  · rw [e5]
    intro k a b
    have := d4 k a b
    unfold UNK at this ⊢
    simp only [upX_n (show ¬ 2 = 0 by decide), upX_n (show ¬ 3 = 0 by decide), upX_n (show ¬ 4 = 0 by decide), upX_n (show ¬ 5 = 0 by decide), upX_n (show ¬ 6 = 0 by decide)]
    exact this
  · unfold SOK at p10 ⊢
    simp only [upX_n (show ¬ 11 = 0 by decide), upX_n (show ¬ 7 = 0 by decide), upX_n (show ¬ 8 = 0 by decide), upX_n (show ¬ 9 = 0 by decide), upX_n (show ¬ 10 = 0 by decide), upX_s, if_neg (show ¬ (6 : Int32) = 7 by decide), if_true]
    exact ⟨⟨p10.1.1, p10.1.2.1, n0, n1⟩, p10.2⟩
  · rw [e4]; exact p12
theorem CRel.kn {h : Hp} {P : Pl} {L : Lw} {A B : Aw} {X : Pl} {n : Int32} (x : CRel h P L A B X) : CRel (pI h 65 1 n) P L A B (upX X 0 7 n) := by
  have f : Fr (fun c => c = 65) h (pI h 65 1 n) := Fr.pI rfl
  obtain ⟨x1, x2, x3, x4, x5, x6, x7⟩ := x
  refine ⟨⟨x1.1.mv f (fun c q => by omega), x1.2.1.mv f (fun c q => by omega), x1.2.2.mv f (fun c q => by omega)⟩, ?_, ?_, ?_, ?_, ?_, fun j a => by rw [pI_n (by decide)]; exact x7 j a⟩
  · rw [upX_s, if_neg (by decide)]
    exact fun q => (x2 q).mv f (fun c q => by omega)
  · simp only [upX_s, pI_n (show ¬ 0 = 65 by decide), pI_n (show ¬ 2 = 65 by decide), pI_n (show ¬ 40 = 65 by decide), pI_n (show ¬ 59 = 65 by decide), pI_t]
    obtain ⟨a1, a2, a3, a4, a5, a6, a7, a8⟩ := x3
    exact ⟨a1, a2, a3, a4, a5, a6, a7, rfl⟩
  · rw [upX_s, if_neg (by decide)]
    intro j a b
    rw [pI_n (by decide), upX_n (by decide)]
    exact x4 j a b
  · rw [upX_s, if_neg (by decide)]
    intro k a b
    simp only [pI_n (show ¬ 60 = 65 by decide), pI_n (show ¬ 61 = 65 by decide), pI_n (show ¬ 62 = 65 by decide), pI_n (show ¬ 63 = 65 by decide), pI_n (show ¬ 64 = 65 by decide), upX_n (show ¬ 2 = 0 by decide), upX_n (show ¬ 3 = 0 by decide), upX_n (show ¬ 4 = 0 by decide), upX_n (show ¬ 5 = 0 by decide), upX_n (show ¬ 6 = 0 by decide)]
    exact x5 k a b
  · rw [upX_s, if_neg (by decide)]
    intro k a b
    simp only [pI_n (show ¬ 70 = 65 by decide), pI_n (show ¬ 66 = 65 by decide), pI_n (show ¬ 67 = 65 by decide), pI_n (show ¬ 68 = 65 by decide), pI_n (show ¬ 69 = 65 by decide), upX_n (show ¬ 11 = 0 by decide), upX_n (show ¬ 7 = 0 by decide), upX_n (show ¬ 8 = 0 by decide), upX_n (show ¬ 9 = 0 by decide), upX_n (show ¬ 10 = 0 by decide)]
    exact x6 k a b
theorem RRel.kn {h : Hp} {P : Pl} {L : Lw} {A B : Aw} {X : Pl} {U : Ud} {n : Int32} (x : RRel h P L A B X U) : RRel (pI h 0 75 n) P L A B (upX X 0 7 n) U := by
  obtain ⟨⟨a1, a2, a3, a4, a5, a6⟩, x2, x3, x4, x5, x6, x7⟩ := x
  have g : ∀ c s, ¬ c = 0 → (pI h 0 75 n).1 c s = h.1 c s := fun c s q => pI_n q
  refine ⟨⟨a1.mw (fun c s q _ => g c s q) (fun s p q => by rw [pI_t, if_neg (by omega)]), a2.mv (fun c s p q => g c s (by omega)), a3.mg (fun c s p q => g c s (by omega)), ?_, ?_, ?_⟩, ?_, ?_, ?_, ?_, ?_, fun j a => by rw [pI_n (by decide)]; exact x7 j a⟩
  · intro i i0 i1
    rw [pI_n (by decide)]
    exact a4 i i0 i1
  · rw [pI_l]; exact a5
  · intro s
    rw [pI_n (by decide)]
    exact a6 s
  · rw [upX_s, if_neg (by decide)]
    intro q
    have z := x2 q
    unfold RIm SNP at z ⊢
    simp only [pI_n (show ¬ 44 = 0 by decide), pI_n (show ¬ 45 = 0 by decide), pI_l]
    exact z
  · obtain ⟨b1, b2, b3, b4, b5, b6, b7, b8⟩ := x3
    simp only [upX_s, pI_t]
    exact ⟨b1, b2, b3, b4, b5, b6, b7, rfl⟩
  · rw [upX_s, if_neg (by decide)]
    intro j a b
    rw [pI_n (by decide), upX_n (by decide)]
    exact x4 j a b
  · rw [upX_s, if_neg (by decide)]
    intro k a b
    have z := x5 k a b
    unfold SNP at z ⊢
    simp only [pI_n (show ¬ 43 = 0 by decide)]
    exact z
  · rw [upX_s, if_neg (by decide)]
    intro k a b
    simp only [pI_n (show ¬ 41 = 0 by decide), upX_n (show ¬ 11 = 0 by decide), upX_n (show ¬ 7 = 0 by decide), upX_n (show ¬ 8 = 0 by decide), upX_n (show ¬ 9 = 0 by decide), upX_n (show ¬ 10 = 0 by decide)]
    exact x6 k a b
theorem sp_known : SP_known Rl := by
  intro hC hR a1 hr
  obtain ⟨P, L, A, B, X, U, p, x, y⟩ := hr
  have ok := p.1
  have o1 := ok.1
  have lk := p.2.1
  have wo := p.2.2.1
  have g := x.1.h.g
  simp only [Nat.reduceAdd] at g
  have xh := x.1.h
  have y1 := y.th (v := 0) ok
  have k := y1.1.g
  have sx := x.2.2.1
  have sr := y1.2.2.1
  have so := p.2.2.2.2.2.2.2.2.2.1.1
  have e74 := sr.2.2.2.2.2.2.1
  have e65 := sx.2.2.2.2.2.2.1
  unfold f_Tt_known f_Md_known f_Se_knowBy
  simp only [nmd_q, isIn_e]
  generalize pI hR 0 2 0 = h1 at y1 k sr e74 ⊢
  simp only [lyC]
  rw [e65, e74]
  have z0 : cZ 0 = some 0 := by decide
  have z1 : cZ 1 = some 1 := by decide
  by_cases q : -1 ≤ a1 ∧ a1 ≤ X 0 6
  · rw [if_pos q, if_neg (show ¬ (1 : Int32) = 0 by decide), if_neg (show ¬ a1 < -1 by lia), if_pos q.2]
    simp only [z1, bnd_q]
    exact ⟨_, _, rfl, rfl, rfl, Rl.mk (p.kn q.1 q.2) x.kn y1.kn⟩
  · rw [if_neg q, if_pos (rfl : (0 : Int32) = 0)]
    by_cases c : a1 < -1
    · rw [if_pos c]
      simp only [z0, bnd_q]
      exact ⟨_, _, rfl, rfl, rfl, Rl.mk p x y1⟩
    · rw [if_neg c, if_neg (by lia)]
      simp only [z0, bnd_q]
      exact ⟨_, _, rfl, rfl, rfl, Rl.mk p x y1⟩
/-- one more seen -/
def snX (X : Pl) (hr t w al st : Int32) : Pl := fun r j =>
  if r = 0 then (if j = 6 then X 0 6 + 1 else X 0 j)
  else if j = X 0 6 then (if r = 7 then hr else if r = 8 then t else if r = 9 then w else if r = 10 then al else if r = 11 then st else X r j)
  else X r j
theorem snX_0 {X : Pl} {a t pl go w j : Int32} (q : ¬ j = 6) : snX X a t pl go w 0 j = X 0 j := by
  unfold snX
  rw [if_pos rfl, if_neg q]
theorem snX_6 {X : Pl} {a t pl go w : Int32} : snX X a t pl go w 0 6 = X 0 6 + 1 := by
  unfold snX
  rw [if_pos rfl, if_pos rfl]
theorem snX_n {X : Pl} {a t pl go w j : Int32} {r : Nat} (q : ¬ r = 0) (z : ¬ j = X 0 6) : snX X a t pl go w r j = X r j := by
  unfold snX
  rw [if_neg q, if_neg z]
theorem snX_r {X : Pl} {a t pl go w j : Int32} {r : Nat} (q : ¬ r = 0) (z : ¬ (7 ≤ r ∧ r ≤ 11)) : snX X a t pl go w r j = X r j := by
  unfold snX
  rw [if_neg q, if_neg (show ¬ r = 7 by omega), if_neg (show ¬ r = 8 by omega), if_neg (show ¬ r = 9 by omega), if_neg (show ¬ r = 10 by omega), if_neg (show ¬ r = 11 by omega), ite_self]
theorem snX_m {X : Pl} {a t pl go w : Int32} : snX X a t pl go w 7 (X 0 6) = a ∧ snX X a t pl go w 8 (X 0 6) = t ∧ snX X a t pl go w 9 (X 0 6) = pl ∧ snX X a t pl go w 10 (X 0 6) = go ∧ snX X a t pl go w 11 (X 0 6) = w := by
  unfold snX
  refine ⟨?_, ?_, ?_, ?_, ?_⟩ <;> rw [if_neg (by decide), if_pos rfl] <;> rfl
theorem PRel.sn {P : Pl} {L : Lw} {A B : Aw} {X : Pl} {U : Ud} {hr t w al st : Int32} (p : PRel P L A B X U) (m : X 0 6 ≤ 23) (c : (st = -1 ∧ 1 ≤ hr ∧ hr ≤ 60 ∧ 0 ≤ t ∧ t < P 0 3 ∧ 0 ≤ w ∧ w ≤ 99 ∧ (al = 0 ∨ al = 1)) ∨ (0 ≤ st ∧ st < X 0 6)) : PRel P L A B (snX X hr t w al st) U := by
  obtain ⟨p1, p2, p3, p4, p5, p6, p7, p8, ⟨d1, d2, d3, d4⟩, p10, p11, p12⟩ := p
  refine ⟨p1, p2, p3, p4, ?_, ?_, ?_, ?_, ⟨?_, ?_, ?_, ?_⟩, ⟨?_, ?_⟩, p11, ?_⟩
  · rw [snX_0 (by decide)]; exact p5
  · rw [snX_0 (by decide)]; exact p6
  · rw [snX_0 (by decide)]; exact p7
  · rw [snX_0 (by decide)]
    intro j a b
    rw [snX_r (by decide) (by decide)]
    exact p8 j a b
  · rw [snX_0 (by decide)]; exact d1
  · rw [snX_0 (by decide)]; exact d2
  · rw [snX_0 (by decide)]; exact d3
  · rw [snX_0 (by decide)]
    intro k a b
    have := d4 k a b
    unfold UNK at this ⊢
    rw [snX_r (by decide) (by decide), snX_r (by decide) (by decide), snX_r (by decide) (by decide), snX_r (by decide) (by decide), snX_r (by decide) (by decide)]
    exact this
  · rw [snX_6, snX_0 (by decide)]
    have := p10.1
    exact ⟨by lia, by lia, by lia, by lia⟩
  · rw [snX_6]
    intro k k0 k1
    by_cases z : k = X 0 6
    · subst z
      obtain ⟨b1, b2, b3, b4, b5⟩ := snX_m (X := X) (a := hr) (t := t) (pl := w) (go := al) (w := st)
      rw [b1, b2, b3, b4, b5]
      exact c
    · rw [snX_n (by decide) z, snX_n (by decide) z, snX_n (by decide) z, snX_n (by decide) z, snX_n (by decide) z]
      exact p10.2 k k0 (by lia)
  · rw [snX_0 (by decide)]; exact p12
theorem CRel.sn {h h' : Hp} {P : Pl} {L : Lw} {A B : Aw} {X : Pl} {hr t w al st : Int32} (m0 : 0 ≤ X 0 6) (x : CRel h P L A B X) (g : ∀ d, (d < 65 ∨ 70 < d) → h'.1 d = h.1 d) (g2 : h'.2 = h.2) (e : h'.1 65 0 = X 0 6 + 1) (e1 : h'.1 65 1 = h.1 65 1) (o : ∀ r, 66 ≤ r → r ≤ 70 → ∀ k : Int32, 0 ≤ k → k < X 0 6 → h'.1 r (ix k) = h.1 r (ix k)) (ea : h'.1 70 (ix (X 0 6)) = st) (ep : st = -1 → h'.1 66 (ix (X 0 6)) = hr ∧ h'.1 67 (ix (X 0 6)) = t ∧ h'.1 68 (ix (X 0 6)) = w ∧ h'.1 69 (ix (X 0 6)) = al) : CRel h' P L A B (snX X hr t w al st) := by
  have f : Fr (fun c => 65 ≤ c ∧ c ≤ 70) h h' := fun c hc => ⟨g c (by omega), by rw [g2]⟩
  obtain ⟨x1, x2, x3, x4, x5, x6, x7⟩ := x
  refine ⟨⟨x1.1.mv f (fun c q => by omega), x1.2.1.mv f (fun c q => by omega), x1.2.2.mv f (fun c q => by omega)⟩, ?_, ?_, ?_, ?_, ?_, by rw [g 23 (by decide)]; exact x7⟩
  · rw [snX_0 (by decide)]
    exact fun q => (x2 q).mv f (fun c q => by omega)
  · obtain ⟨a1, a2, a3, a4, a5, a6, a7, a8⟩ := x3
    rw [snX_0 (show ¬ (0 : Int32) = 6 by decide), snX_0 (show ¬ (1 : Int32) = 6 by decide), snX_0 (show ¬ (2 : Int32) = 6 by decide), snX_0 (show ¬ (3 : Int32) = 6 by decide), snX_0 (show ¬ (4 : Int32) = 6 by decide), snX_0 (show ¬ (5 : Int32) = 6 by decide), snX_0 (show ¬ (7 : Int32) = 6 by decide), snX_6, g 0 (by decide), g 2 (by decide), g 40 (by decide), g 59 (by decide), e, e1]
    exact ⟨a1, a2, a3, a4, a5, a6, rfl, a8⟩
  · rw [snX_0 (by decide), g 1 (by decide)]
    intro j p q
    rw [snX_r (by decide) (by decide)]
    exact x4 j p q
  · rw [snX_0 (by decide), g 60 (by decide), g 61 (by decide), g 62 (by decide), g 63 (by decide), g 64 (by decide)]
    intro k p q
    rw [snX_r (by decide) (by decide), snX_r (by decide) (by decide), snX_r (by decide) (by decide), snX_r (by decide) (by decide), snX_r (by decide) (by decide)]
    exact x5 k p q
  · rw [snX_6]
    intro k k0 k1
    by_cases z : k = X 0 6
    · subst z
      obtain ⟨b1, b2, b3, b4, b5⟩ := snX_m (X := X) (a := hr) (t := t) (pl := w) (go := al) (w := st)
      rw [b1, b2, b3, b4, b5]
      exact ⟨ea, ep⟩
    · rw [snX_n (by decide) z, snX_n (by decide) z, snX_n (by decide) z, snX_n (by decide) z, snX_n (by decide) z, o 70 (by decide) (by decide) k k0 (by lia), o 66 (by decide) (by decide) k k0 (by lia), o 67 (by decide) (by decide) k k0 (by lia), o 68 (by decide) (by decide) k k0 (by lia), o 69 (by decide) (by decide) k k0 (by lia)]
      exact x6 k k0 (by lia)
theorem alS : al TR 41 = 96 := by simp only [alR]
/-- the reference notes it -/
theorem ntR {h : Hp} {P : Pl} {L : Lw} {A B : Aw} {X : Pl} {U : Ud} {hr t w al st b1 b2 b3 b4 : Int32} (ok : POK P) (m0 : 0 ≤ X 0 6) (m1 : X 0 6 ≤ 23) (x : RRel h P L A B X U) (c1 : b1 = (if st = -1 then hr else -1)) (c2 : b2 = (if st = -1 then t else st)) (c3 : st = -1 → b3 = w ∧ b4 = al) : ∃ h', f_Md_noted TR h 0 b1 b2 b3 b4 = some (X 0 6, h') ∧ RRel h' P L A B (snX X hr t w al st) U := by
  have e74 := x.2.2.1.2.2.2.2.2.2.1
  have i1 : 0 ≤ 4 * X 0 6 := by lia
  have i2 : 4 * X 0 6 < 96 := by lia
  have i3 : 0 ≤ 4 * X 0 6 + 1 := by lia
  have i4 : 4 * X 0 6 + 1 < 96 := by lia
  have i5 : 0 ≤ 4 * X 0 6 + 2 := by lia
  have i6 : 4 * X 0 6 + 2 < 96 := by lia
  have i7 : 0 ≤ 4 * X 0 6 + 3 := by lia
  have i8 : 4 * X 0 6 + 3 < 96 := by lia
  unfold f_Md_noted
  simp (disch := first | assumption | decide | omega) only [lyR, wtR, bnd_q, nmd_q, pI_n, e74]
  rw [pI_t, if_pos rfl, show X 0 6 + 1 - 1 = X 0 6 by lia]
  refine ⟨_, rfl, ?_⟩
  generalize hh : pI (pI (pI (pI (pI h 41 (ix (4 * X 0 6)) b1) 41 (ix (4 * X 0 6 + 1)) b2) 41 (ix (4 * X 0 6 + 2)) b3) 41 (ix (4 * X 0 6 + 3)) b4) 0 74 (X 0 6 + 1) = h5
  have g : ∀ c s, ¬ (c = 41 ∨ (c = 0 ∧ s = 74)) → h5.1 c s = h.1 c s := fun c s z => by
    rw [← hh, pI_1]
    split
    · rw [if_neg (by omega), pI_n (by omega), pI_n (by omega), pI_n (by omega), pI_n (by omega)]
    · rw [pI_n (by omega), pI_n (by omega), pI_n (by omega), pI_n (by omega)]
  have g2 : h5.2 = h.2 := by
    rw [← hh]
    simp only [pI_l]
  have g74 : h5.1 0 74 = X 0 6 + 1 := by rw [← hh, pI_t, if_pos rfl]
  have o : ∀ s : Int32, 0 ≤ s → s < 4 * X 0 6 → h5.1 41 (ix s) = h.1 41 (ix s) := fun s s0 s1 => by
    rw [← hh, pI_n (by decide), pI_ix i7 s0, if_neg (by lia), pI_ix i5 s0, if_neg (by lia), pI_ix i3 s0, if_neg (by lia), pI_ix i1 s0, if_neg (by lia)]
  have n1 : h5.1 41 (ix (4 * X 0 6)) = b1 := by
    rw [← hh, pI_n (by decide), pI_ix i7 i1, if_neg (by lia), pI_ix i5 i1, if_neg (by lia), pI_ix i3 i1, if_neg (by lia), pI_ix i1 i1, if_pos rfl]
  have n2 : h5.1 41 (ix (4 * X 0 6 + 1)) = b2 := by
    rw [← hh, pI_n (by decide), pI_ix i7 i3, if_neg (by lia), pI_ix i5 i3, if_neg (by lia), pI_ix i3 i3, if_pos rfl]
  have n3 : h5.1 41 (ix (4 * X 0 6 + 2)) = b3 := by
    rw [← hh, pI_n (by decide), pI_ix i7 i5, if_neg (by lia), pI_ix i5 i5, if_pos rfl]
  have n4 : h5.1 41 (ix (4 * X 0 6 + 3)) = b4 := by
    rw [← hh, pI_n (by decide), pI_ix i7 i7, if_pos rfl]
  clear hh
  obtain ⟨⟨a1, a2, a3, a4, a5, a6⟩, x2, x3, x4, x5, x6, x7⟩ := x
  refine ⟨⟨a1.mw (fun c s q _ => g c s (by omega)) (fun s p q => g 0 s (by omega)), a2.mv (fun c s p q => g c s (by omega)), a3.mg (fun c s p q => g c s (by omega)), ?_, ?_, ?_⟩, ?_, ?_, ?_, ?_, ?_, fun j a => by rw [g 2 j (by omega)]; exact x7 j a⟩
  · intro i j0 j1
    rw [g 32 _ (by omega)]
    exact a4 i j0 j1
  · rw [g2]; exact a5
  · intro s
    rw [g 31 s (by omega)]
    exact a6 s
  · rw [snX_0 (by decide)]
    intro q
    obtain ⟨⟨z1, z2, z3⟩, z4, z5, z6⟩ := x2 q
    refine ⟨⟨fun i a b => ?_, fun i a b => ?_, fun i a b => ?_⟩, fun i a b => ?_, ?_, ?_⟩
    · rw [g 44 _ (by omega)]; exact z1 i a b
    · rw [g 44 _ (by omega)]; exact z2 i a b
    · rw [g 44 _ (by omega)]; exact z3 i a b
    · rw [g 45 _ (by omega), g 45 _ (by omega), g 45 _ (by omega), g 45 _ (by omega)]; exact z4 i a b
    · rw [g 45 _ (by omega), g 45 _ (by omega), g 45 _ (by omega), g 45 _ (by omega), g 45 _ (by omega), g 45 _ (by omega)]; exact z5
    · rw [g2]; exact z6
  · obtain ⟨b1, b2, b3, b4, b5, b6, b7, b8⟩ := x3
    rw [snX_0 (show ¬ (0 : Int32) = 6 by decide), snX_0 (show ¬ (1 : Int32) = 6 by decide), snX_0 (show ¬ (2 : Int32) = 6 by decide), snX_0 (show ¬ (3 : Int32) = 6 by decide), snX_0 (show ¬ (4 : Int32) = 6 by decide), snX_0 (show ¬ (5 : Int32) = 6 by decide), snX_0 (show ¬ (7 : Int32) = 6 by decide), snX_6, g 0 1 (by decide), g 0 4 (by decide), g 0 5 (by decide), g 0 16 (by decide), g 0 80 (by decide), g 0 78 (by decide), g 0 75 (by decide), g74]
    exact ⟨b1, b2, b3, b4, b5, b6, rfl, b8⟩
  · rw [snX_0 (by decide)]
    intro j a b
    rw [g 1 _ (by omega), snX_r (by decide) (by decide)]
    exact x4 j a b
  · rw [snX_0 (by decide)]
    intro k a b
    obtain ⟨z1, z2, z3⟩ := x5 k a b
    exact ⟨fun i a b => by rw [g 43 _ (by omega)]; exact z1 i a b, fun i a b => by rw [g 43 _ (by omega)]; exact z2 i a b, fun i a b => by rw [g 43 _ (by omega)]; exact z3 i a b⟩
  · rw [snX_6]
    intro k k0 k1
    by_cases z : k = X 0 6
    · subst z
      obtain ⟨s1, s2, s3, s4, s5⟩ := snX_m (X := X) (a := hr) (t := t) (pl := w) (go := al) (w := st)
      rw [s1, s2, s3, s4, s5, n1, n2, n3, n4]
      exact ⟨c1, c2, c3⟩
    · rw [snX_n (by decide) z, snX_n (by decide) z, snX_n (by decide) z, snX_n (by decide) z, snX_n (by decide) z, o _ (by lia) (by lia), o _ (by lia) (by lia), o _ (by lia) (by lia), o _ (by lia) (by lia)]
      exact x6 k k0 (by lia)
theorem sp_strike : SP_strike Rl := by
  intro hC hR a1 hr
  obtain ⟨P, L, A, B, X, U, p, x, y⟩ := hr
  have ok := p.1
  have o1 := ok.1
  have lk := p.2.1
  have wo := p.2.2.1
  have g := x.1.h.g
  simp only [Nat.reduceAdd] at g
  have xh := x.1.h
  have y1 := y.th (v := 0) ok
  have k := y1.1.g
  have sx := x.2.2.1
  have sr := y1.2.2.1
  have so := p.2.2.2.2.2.2.2.2.2.1.1
  have e74 := sr.2.2.2.2.2.2.1
  have e65 := sx.2.2.2.2.2.2.1
  unfold f_Tt_strike f_Md_strike f_Se_addStrike
  simp only [nmd_q]
  generalize pI hR 0 2 0 = h1 at y1 k sr e74 ⊢
  simp only [lyC]
  rw [e65, e74]
  have stop : ∃ r r', (some ((-1 : Int32), hC)).bind (fun r1 => some (r1.1, r1.2)) = some r ∧ some ((-1 : Int32), h1) = some r' ∧ r.1 = r'.1 ∧ Rl r.2 r'.2 := ⟨_, _, rfl, rfl, rfl, Rl.mk p x y1⟩
  by_cases q0 : X 0 6 = 24
  · rw [if_pos (by lia), if_pos q0]
    exact stop
  rw [if_neg (by lia), if_neg q0]
  by_cases q1 : a1 < 0
  · rw [if_pos q1, if_pos q1]
    exact stop
  rw [if_neg q1, if_neg q1]
  by_cases q2 : a1 < X 0 6
  case neg =>
    rw [if_neg q2, if_neg q2]
    exact stop
  rw [if_pos q2, if_pos q2]
  clear stop
  have m24 : X 0 6 < 24 := by lia
  have m0 := so.1
  obtain ⟨h5, e5, y5⟩ := ntR (hr := 0) (t := 0) (w := 0) (al := 0) (st := a1) (b1 := -1) (b2 := a1) (b3 := 0) (b4 := 0) ok m0 (by lia) y1 (by rw [if_neg (by lia)]) (by rw [if_neg (by lia)]) (fun z => absurd z (by lia))
  rw [e5, bnd_q]
  simp (disch := first | assumption | decide | omega) only [wtC, bnd_q, pI_n, e65]
  rw [pI_t, if_pos rfl, show X 0 6 + 1 - 1 = X 0 6 by lia]
  refine ⟨_, _, rfl, rfl, rfl, Rl.mk (p.sn (hr := 0) (t := 0) (w := 0) (al := 0) (st := a1) (by lia) (.inr ⟨by lia, q2⟩)) (x.sn m0 (fun d hd => ?_) ?_ ?_ ?_ (fun r r0 r1 k k0 k1 => ?_) ?_ (fun z => absurd z (by lia))) y5⟩
  · rw [pI_f (by omega), pI_f (by omega)]
  · simp only [pI_l]
  · rw [pI_t, if_pos rfl]
  · rw [pI_t, if_neg (by decide), pI_n (by decide)]
  · rw [pI_n (by omega)]
    by_cases z : r = 70
    · subst z
      rw [pI_ix m0 k0, if_neg (by lia)]
    · rw [pI_n z]
  · rw [pI_n (by decide), pI_ix m0 m0, if_pos rfl]
theorem sp_see : SP_see Rl := by
  intro hC hR a1 a2 a3 a4 hr hb
  obtain ⟨P, L, A, B, X, U, p, x, y⟩ := hr
  have ok := p.1
  have o1 := ok.1
  have lk := p.2.1
  have wo := p.2.2.1
  have g := x.1.h.g
  simp only [Nat.reduceAdd] at g
  have xh := x.1.h
  have y1 := y.th (v := 0) ok
  have k := y1.1.g
  have sx := x.2.2.1
  have sr := y1.2.2.1
  have so := p.2.2.2.2.2.2.2.2.2.1.1
  have e74 := sr.2.2.2.2.2.2.1
  have e65 := sx.2.2.2.2.2.2.1
  have e12 := k.1.1
  unfold f_Tt_see f_Md_see
  simp only [nmd_q, isIn_e]
  generalize pI hR 0 2 0 = h1 at y1 k sr e74 e12 ⊢
  simp only [lyC]
  rw [htC xh, htR e12, e74]
  have no : jb_Tt_see_36 TC hC 0 a1 a2 a3 a4 = some (-1, hC) := by
    unfold jb_Tt_see_36 jb_Tt_see_37
    rw [if_pos (rfl : (0 : Int32) = 0)]
  have stop : ∃ r r', some ((-1 : Int32), hC) = some r ∧ some ((-1 : Int32), h1) = some r' ∧ r.1 = r'.1 ∧ Rl r.2 r'.2 := ⟨_, _, rfl, rfl, rfl, Rl.mk p x y1⟩
  rw [no]
  have full : X 0 6 = 24 → jb_Tt_see_37 TC hC 0 a1 a2 a3 a4 1 = some (-1, hC) := fun z => by
    unfold jb_Tt_see_37 f_Se_addSight
    simp only [lyC]
    rw [if_neg (show ¬ (1 : Int32) = 0 by decide), e65, if_neg (by lia), bnd_q]
  by_cases q0 : X 0 6 = 24
  · rw [if_pos q0, full q0]
    simp only [ite_self]
    exact stop
  rw [if_neg q0]
  by_cases q1 : 1 ≤ a1 ∧ a1 ≤ 60
  case neg =>
    rw [if_neg q1, if_pos (rfl : (0 : Int32) = 0)]
    by_cases c : a1 < 1
    · rw [if_pos c]
      exact stop
    · rw [if_neg c, if_pos (by lia)]
      exact stop
  rw [if_pos q1, if_neg (show ¬ (1 : Int32) = 0 by decide), if_neg (show ¬ a1 < 1 by lia), if_neg (show ¬ (60 : Int32) < a1 by lia)]
  by_cases q2 : 0 ≤ a2 ∧ a2 < P 0 3
  case neg =>
    rw [if_neg q2, if_pos (rfl : (0 : Int32) = 0), if_pos (rfl : (0 : Int32) = 0)]
    exact stop
  rw [if_pos q2, if_neg (show ¬ (1 : Int32) = 0 by decide), if_neg (show ¬ (1 : Int32) = 0 by decide)]
  by_cases q3 : 0 ≤ a3 ∧ a3 ≤ 99
  case neg =>
    rw [if_neg q3, if_pos (rfl : (0 : Int32) = 0)]
    by_cases c : a3 < 0
    · rw [if_pos c]
      exact stop
    · rw [if_neg c, if_pos (by lia)]
      exact stop
  rw [if_pos q3, if_neg (show ¬ (1 : Int32) = 0 by decide), if_neg (show ¬ a3 < 0 by lia), if_neg (show ¬ (99 : Int32) < a3 by lia)]
  clear stop full no
  have m24 : X 0 6 < 24 := by lia
  have m0 := so.1
  have b01 : a4 = 0 ∨ a4 = 1 := by
    unfold bit at hb
    simpa using hb
  have eif : (if a4 = 0 then jb_Md_see_60 TR h1 0 a1 a2 a3 0 else jb_Md_see_60 TR h1 0 a1 a2 a3 1) = jb_Md_see_60 TR h1 0 a1 a2 a3 a4 := by
    rcases b01 with z | z <;> subst z <;> rfl
  rw [eif]
  obtain ⟨h5, e5, y5⟩ := ntR (hr := a1) (t := a2) (w := a3) (al := a4) (st := -1) (b1 := a1) (b2 := a2) (b3 := a3) (b4 := a4) ok m0 (by lia) y1 (by rw [if_pos rfl]) (by rw [if_pos rfl]) (fun _ => ⟨rfl, rfl⟩)
  unfold jb_Md_see_60 jb_Tt_see_37 f_Se_addSight
  simp only [lyC]
  rw [e5, bnd_q, if_neg (show ¬ (1 : Int32) = 0 by decide), e65, if_pos m24]
  simp (disch := first | assumption | decide | omega) only [wtC, bnd_q, nmd_q, pI_n, e65]
  rw [pI_t, if_pos rfl, show X 0 6 + 1 - 1 = X 0 6 by lia]
  refine ⟨_, _, rfl, rfl, rfl, Rl.mk (p.sn (by lia) (.inl ⟨rfl, q1.1, q1.2, q2.1, q2.2, q3.1, q3.2, b01⟩)) (x.sn m0 (fun d hd => ?_) ?_ ?_ ?_ (fun r r0 r1 k k0 k1 => ?_) ?_ (fun _ => ⟨?_, ?_, ?_, ?_⟩)) y5⟩
  · rw [pI_f (by omega), pI_f (by omega), pI_f (by omega), pI_f (by omega), pI_f (by omega), pI_f (by omega)]
  · simp only [pI_l]
  · rw [pI_t, if_pos rfl]
  · rw [pI_t, if_neg (by decide), pI_n (by decide), pI_n (by decide), pI_n (by decide), pI_n (by decide), pI_n (by decide)]
  · rw [pI_n (by omega)]
    have z : ¬ k = X 0 6 := by lia
    rcases (show r = 66 ∨ r = 67 ∨ r = 68 ∨ r = 69 ∨ r = 70 by omega) with rfl | rfl | rfl | rfl | rfl
    · rw [pI_n (by decide), pI_n (by decide), pI_n (by decide), pI_n (by decide), pI_ix m0 k0, if_neg z]
    · rw [pI_n (by decide), pI_n (by decide), pI_n (by decide), pI_ix m0 k0, if_neg z, pI_n (by decide)]
    · rw [pI_n (by decide), pI_n (by decide), pI_ix m0 k0, if_neg z, pI_n (by decide), pI_n (by decide)]
    · rw [pI_n (by decide), pI_ix m0 k0, if_neg z, pI_n (by decide), pI_n (by decide), pI_n (by decide)]
    · rw [pI_ix m0 k0, if_neg z, pI_n (by decide), pI_n (by decide), pI_n (by decide), pI_n (by decide)]
  · rw [pI_n (by decide), pI_ix m0 m0, if_pos rfl]
  · rw [pI_n (by decide), pI_n (by decide), pI_n (by decide), pI_n (by decide), pI_n (by decide), pI_ix m0 m0, if_pos rfl]
  · rw [pI_n (by decide), pI_n (by decide), pI_n (by decide), pI_n (by decide), pI_ix m0 m0, if_pos rfl]
  · rw [pI_n (by decide), pI_n (by decide), pI_n (by decide), pI_ix m0 m0, if_pos rfl]
  · rw [pI_n (by decide), pI_n (by decide), pI_ix m0 m0, if_pos rfl]
