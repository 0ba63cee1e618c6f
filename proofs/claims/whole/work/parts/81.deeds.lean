/-! what can be undone: laid by, taken back -/
theorem ptR {h : Hp} {c n : Nat} {o : Int32} (ha : al TR c = n) (hn : n ≤ 900) (o0 : 0 ≤ o) (o1 : o + 18 ≤ nI n) (oo : o ≤ 900) (c27 : ¬ c = 27 ∧ ¬ c = 29 ∧ ¬ c = 33) : ∃ h', f_Md_put TR h 0 c o = some h' ∧ h'.2 = h.2 ∧ (∀ d, ¬ d = c → h'.1 d = h.1 d) ∧ (∀ s : Int32, 0 ≤ s → (s < o ∨ o + 18 ≤ s) → h'.1 c (ix s) = h.1 c (ix s)) ∧ ∀ i, 0 ≤ i → i < 6 → h'.1 c (ix (o + i)) = h.1 27 (ix i) ∧ h'.1 c (ix (o + 6 + i)) = h.1 29 (ix i) ∧ h'.1 c (ix (o + 12 + i)) = h.1 33 (ix i) := by
  unfold f_Md_put
  have hN : nI n ≤ 900 := nI_le (b := 900) hn (by decide)
  exact loopF (S := Unit) (f := fun _ s => s) (N := 6) (lp := fun m h i => lp_Md_put_2 TR m h 0 c o i) (res := fun h => some h) (fun i _ h' => h'.2 = h.2 ∧ (∀ d, ¬ d = c → h'.1 d = h.1 d) ∧ (∀ s : Int32, 0 ≤ s → (s < o ∨ o + 18 ≤ s) → h'.1 c (ix s) = h.1 c (ix s)) ∧ ∀ j, 0 ≤ j → j < i → h'.1 c (ix (o + j)) = h.1 27 (ix j) ∧ h'.1 c (ix (o + 6 + j)) = h.1 29 (ix j) ∧ h'.1 c (ix (o + 12 + j)) = h.1 33 (ix j)) (by decide) (by decide)
    (fun m h s q => by
      simp only [lp_Md_put_2]
      rw [if_pos (by decide)])
    (fun m h2 i s i0 i6 q => by
      obtain ⟨q1, q2, q3, q4⟩ := q
      have i12 : i < 12 := by lia
      have b1 : 0 ≤ o + i := by lia
      have b2 : o + i < nI n := by lia
      have b3 : 0 ≤ o + 6 + i := by lia
      have b4 : o + 6 + i < nI n := by lia
      have b5 : 0 ≤ o + 12 + i := by lia
      have b6 : o + 12 + i < nI n := by lia
      have n31 : n < 2 ^ 31 := by omega
      refine ⟨pI (pI (pI h2 c (ix (o + i)) (h.1 27 (ix i))) c (ix (o + 6 + i)) (h.1 29 (ix i))) c (ix (o + 12 + i)) (h.1 33 (ix i)), ?_, ?_, ?_, ?_, ?_⟩
      · simp only [lp_Md_put_2, lyR]
        rw [if_neg (show ¬ (6 : Int32) ≤ i by lia)]
        simp (disch := first | assumption | decide | omega) only [rdR, bnd_q]
        rw [wI_i n ha n31 b1 b2, bnd_q, wI_i n ha n31 b3 b4, bnd_q, wI_i n ha n31 b5 b6, bnd_q, nmd_q, pI_n (show ¬ 29 = c by omega), pI_n (show ¬ 33 = c by omega), pI_n (show ¬ 33 = c by omega), q2 27 (by omega), q2 29 (by omega), q2 33 (by omega)]
      · simp only [pI_l]
        exact q1
      · intro d hd
        rw [pI_f hd, pI_f hd, pI_f hd]
        exact q2 d hd
      · intro s s0 hs
        rw [pI_ix b5 s0, if_neg (by lia), pI_ix b3 s0, if_neg (by lia), pI_ix b1 s0, if_neg (by lia)]
        exact q3 s s0 hs
      · intro j j0 j1
        have l1 : 0 ≤ o + j := by lia
        have l3 : 0 ≤ o + 6 + j := by lia
        have l5 : 0 ≤ o + 12 + j := by lia
        have n1 : ¬ o + j = o + 12 + i := by lia
        have n2 : ¬ o + j = o + 6 + i := by lia
        have n3 : ¬ o + 6 + j = o + 12 + i := by lia
        have n4 : ¬ o + 6 + j = o + i := by lia
        have n5 : ¬ o + 12 + j = o + 6 + i := by lia
        have n6 : ¬ o + 12 + j = o + i := by lia
        rw [pI_ix b5 l1, if_neg n1, pI_ix b3 l1, if_neg n2, pI_ix b1 l1, pI_ix b5 l3, if_neg n3, pI_ix b3 l3, pI_ix b1 l3, if_neg n4, pI_ix b5 l5, pI_ix b3 l5, if_neg n5, pI_ix b1 l5, if_neg n6]
        by_cases z : j = i
        · subst z
          rw [if_pos rfl, if_pos rfl, if_pos rfl]
          exact ⟨rfl, rfl, rfl⟩
        · rw [if_neg (show ¬ o + j = o + i by lia), if_neg (show ¬ o + 6 + j = o + 6 + i by lia), if_neg (show ¬ o + 12 + j = o + 12 + i by lia)]
          exact q4 j j0 (by lia)) 0 (by decide) (by decide) () h ⟨rfl, fun _ _ => rfl, fun _ _ _ => rfl, fun j a b => absurd b (by lia)⟩
theorem tkR {h : Hp} {c n : Nat} {o : Int32} (ha : al TR c = n) (hn : n ≤ 900) (o0 : 0 ≤ o) (o1 : o + 18 ≤ nI n) (oo : o ≤ 900) (c27 : ¬ c = 27 ∧ ¬ c = 29 ∧ ¬ c = 33) : ∃ h', f_Md_take TR h 0 c o = some h' ∧ h'.2 = h.2 ∧ (∀ d s, ¬ ((d = 27 ∨ d = 29 ∨ d = 33) ∧ s < 6) → h'.1 d s = h.1 d s) ∧ ∀ i, 0 ≤ i → i < 6 → h'.1 27 (ix i) = h.1 c (ix (o + i)) ∧ h'.1 29 (ix i) = h.1 c (ix (o + 6 + i)) ∧ h'.1 33 (ix i) = h.1 c (ix (o + 12 + i)) := by
  unfold f_Md_take
  have hN : nI n ≤ 900 := nI_le (b := 900) hn (by decide)
  exact loopF (S := Unit) (f := fun _ s => s) (N := 6) (lp := fun m h i => lp_Md_take_2 TR m h 0 c o i) (res := fun h => some h) (fun i _ h' => h'.2 = h.2 ∧ (∀ d s, ¬ ((d = 27 ∨ d = 29 ∨ d = 33) ∧ s < 6) → h'.1 d s = h.1 d s) ∧ ∀ j, 0 ≤ j → j < i → h'.1 27 (ix j) = h.1 c (ix (o + j)) ∧ h'.1 29 (ix j) = h.1 c (ix (o + 6 + j)) ∧ h'.1 33 (ix j) = h.1 c (ix (o + 12 + j))) (by decide) (by decide)
    (fun m h s q => by
      simp only [lp_Md_take_2]
      rw [if_pos (by decide)])
    (fun m h2 i s i0 i6 q => by
      obtain ⟨q1, q2, q4⟩ := q
      have i12 : i < 12 := by lia
      have b1 : 0 ≤ o + i := by lia
      have b2 : o + i < nI n := by lia
      have b3 : 0 ≤ o + 6 + i := by lia
      have b4 : o + 6 + i < nI n := by lia
      have b5 : 0 ≤ o + 12 + i := by lia
      have b6 : o + 12 + i < nI n := by lia
      have n31 : n < 2 ^ 31 := by omega
      have l6 : ix i < 6 := ix_lt i0 (by decide) i6
      refine ⟨pI (pI (pI h2 27 (ix i) (h.1 c (ix (o + i)))) 29 (ix i) (h.1 c (ix (o + 6 + i)))) 33 (ix i) (h.1 c (ix (o + 12 + i))), ?_, ?_, ?_, ?_⟩
      · simp only [lp_Md_take_2, lyR]
        rw [if_neg (show ¬ (6 : Int32) ≤ i by lia)]
        simp (disch := first | assumption | decide | omega) only [wtR, bnd_q, nmd_q]
        rw [rI_i n ha n31 b1 b2, bnd_q, rI_i n ha n31 b3 b4, bnd_q, rI_i n ha n31 b5 b6, bnd_q, pI_n (show ¬ c = 27 by omega), pI_n (show ¬ c = 29 by omega), pI_n (show ¬ c = 27 by omega), q2 c _ (by omega), q2 c _ (by omega), q2 c _ (by omega)]
      · simp only [pI_l]
        exact q1
      · intro d s hd
        rw [pI_1, pI_1, pI_1]
        have z : ∀ e, (e = 27 ∨ e = 29 ∨ e = 33) → d = e → ¬ s = ix i := fun e he hde => by omega
        by_cases z1 : d = 33
        · rw [if_pos z1, if_neg (z 33 (by omega) z1), if_neg (by omega), if_neg (by omega)]
          exact q2 d s hd
        rw [if_neg z1]
        by_cases z2 : d = 29
        · rw [if_pos z2, if_neg (z 29 (by omega) z2), if_neg (by omega)]
          exact q2 d s hd
        rw [if_neg z2]
        by_cases z3 : d = 27
        · rw [if_pos z3, if_neg (z 27 (by omega) z3)]
          exact q2 d s hd
        · rw [if_neg z3]
          exact q2 d s hd
      · intro j j0 j1
        rw [pI_n (show ¬ 27 = 33 by decide), pI_n (show ¬ 27 = 29 by decide), pI_n (show ¬ 29 = 33 by decide), pI_ix i0 j0, pI_ix i0 j0, pI_ix i0 j0, pI_n (show ¬ 29 = 27 by decide), pI_n (show ¬ 33 = 29 by decide), pI_n (show ¬ 33 = 27 by decide)]
        by_cases z : j = i
        · subst z
          rw [if_pos rfl, if_pos rfl, if_pos rfl]
          exact ⟨rfl, rfl, rfl⟩
        · rw [if_neg z, if_neg z, if_neg z]
          exact q4 j j0 (by lia)) 0 (by decide) (by decide) () h ⟨rfl, fun _ _ _ => rfl, fun j a b => absurd b (by lia)⟩
theorem alD : al TR 43 = 360 ∧ al TR 44 = 18 ∧ al TR 45 = 30 ∧ al TC 60 = 20 ∧ al TC 61 = 20 ∧ al TC 62 = 20 ∧ al TC 63 = 20 ∧ al TC 64 = 20 := by
  simp only [alC, alR, and_self]
/-- rows moved on by one -/
theorem shT {h : Hp} {c : Nat} (ha : al TC c = 20) : ∃ h', f_De_shift TC h c = some h' ∧ h'.2 = h.2 ∧ (∀ d, ¬ d = c → h'.1 d = h.1 d) ∧ ∀ k : Int32, 0 ≤ k → k < 19 → h'.1 c (ix k) = h.1 c (ix (k + 1)) := by
  unfold f_De_shift cpI
  rw [ha]
  have e : Int32.ofNat 20 - 1 = 19 := by decide
  have e0 : (0 : Int32).toNatClampNeg = 0 := by decide
  have e1 : (1 : Int32).toNatClampNeg = 1 := by decide
  have e19 : (19 : Int32).toNatClampNeg = 19 := by decide
  rw [e, e0, e1, e19, if_pos ⟨by decide, by decide, by decide, by decide, by decide⟩, bnd_q]
  refine ⟨_, rfl, pR_2, fun d hd => funext fun k => ?_, fun k k0 k1 => ?_⟩
  · rw [pR_1, if_neg hd]
  · have l : ix k < 19 := ix_lt k0 (by decide) k1
    rw [pR_1, if_pos rfl, ix_s k0 (by lia)]
    unfold va_cpy
    rw [if_pos (by omega), Nat.sub_zero, Nat.add_comm]
def shX (X : Pl) : Pl := if X 0 5 < 20 then X else fun a b => if a = 0 then (if b = 5 then 19 else X 0 b) else if 2 ≤ a ∧ a ≤ 6 then X a (b + 1) else X a b
def shU (X : Pl) (U : Ud) : Ud := if X 0 5 < 20 then U else fun k => U (k + 1)
theorem shX_0 {X : Pl} {j : Int32} (q : ¬ j = 5) : shX X 0 j = X 0 j := by
  unfold shX
  split
  · rfl
  · show (if 0 = 0 then (if j = 5 then (19 : Int32) else X 0 j) else _) = X 0 j
    rw [if_pos rfl, if_neg q]
theorem shX_r {X : Pl} {r : Nat} {j : Int32} (q : ¬ r = 0) (q2 : ¬ (2 ≤ r ∧ r ≤ 6)) : shX X r j = X r j := by
  unfold shX
  split
  · rfl
  · show (if r = 0 then _ else if 2 ≤ r ∧ r ≤ 6 then X r (j + 1) else X r j) = X r j
    rw [if_neg q, if_neg q2]
theorem shX_5 {X : Pl} (h : X 0 5 ≤ 20) : shX X 0 5 = (if X 0 5 < 20 then X 0 5 else 19) ∧ shX X 0 5 ≤ 19 := by
  unfold shX
  split
  · exact ⟨rfl, by lia⟩
  · exact ⟨rfl, show (19 : Int32) ≤ 19 by decide⟩
theorem shX_f {X : Pl} (h : ¬ X 0 5 < 20) : (∀ r j, 2 ≤ r → r ≤ 6 → shX X r j = X r (j + 1)) ∧ shX X 0 5 = 19 := by
  unfold shX
  rw [if_neg h]
  refine ⟨fun r j a b => ?_, rfl⟩
  show (if r = 0 then _ else if 2 ≤ r ∧ r ≤ 6 then X r (j + 1) else X r j) = X r (j + 1)
  rw [if_neg (by omega), if_pos ⟨a, b⟩]
theorem PRel.sh {P : Pl} {L : Lw} {A B : Aw} {X : Pl} {U : Ud} (p : PRel P L A B X U) : PRel P L A B (shX X) (shU X U) := by
  by_cases q : X 0 5 < 20
  · unfold shX shU
    rw [if_pos q, if_pos q]
    exact p
  obtain ⟨p1, p2, p3, p4, p5, p6, p7, p8, ⟨d1, d2, d3, d4⟩, p10, p11, p12⟩ := p
  have e20 : X 0 5 = 20 := by lia
  obtain ⟨s1, s2⟩ := shX_f q
  have eU : shU X U = fun k => U (k + 1) := if_neg q
  refine ⟨p1, p2, p3, p4, ?_, ?_, ?_, ?_, ⟨?_, ?_, ?_, ?_⟩, ?_, p11, ?_⟩
  · rw [shX_0 (by decide)]; exact p5
  · rw [shX_0 (by decide)]; exact p6
  · rw [shX_0 (by decide)]; exact p7
  · rw [shX_0 (by decide)]
    intro j a b
    rw [shX_r (by decide) (by decide)]
    exact p8 j a b
  · rw [s2]; decide
  · rw [s2, eU]
    rw [e20] at d2
    exact d2
  · rw [s2, eU]
    rw [e20] at d3
    exact d3
  · rw [s2, eU]
    intro k a b
    have := d4 (k + 1) (by lia) (by lia)
    unfold UNK at this ⊢
    rw [s1 2 k (by decide) (by decide), s1 3 k (by decide) (by decide), s1 4 k (by decide) (by decide), s1 5 k (by decide) (by decide), s1 6 k (by decide) (by decide)]
    exact this
  · unfold SOK at p10 ⊢
    simp only [shX_r (X := X) (show ¬ 11 = 0 by decide) (by decide), shX_r (X := X) (show ¬ 7 = 0 by decide) (by decide), shX_r (X := X) (show ¬ 8 = 0 by decide) (by decide), shX_r (X := X) (show ¬ 9 = 0 by decide) (by decide), shX_r (X := X) (show ¬ 10 = 0 by decide) (by decide), shX_0 (X := X) (show ¬ (6 : Int32) = 5 by decide), shX_0 (X := X) (show ¬ (7 : Int32) = 5 by decide)]
    exact p10
  · rw [shX_0 (by decide)]; exact p12
/-- the class makes room -/
theorem roC {h : Hp} {P : Pl} {L : Lw} {A B : Aw} {X : Pl} (h20 : X 0 5 ≤ 20) (x : CRel h P L A B X) : ∃ h', f_De_makeRoom TC h 59 = some h' ∧ CRel h' P L A B (shX X) := by
  have e59 := x.2.2.1.2.2.2.2.2.1
  unfold f_De_makeRoom
  rw [e59]
  by_cases q : X 0 5 < 20
  · rw [if_pos q]
    refine ⟨h, rfl, ?_⟩
    unfold shX
    rw [if_pos q]
    exact x
  rw [if_neg q]
  have e20 : X 0 5 = 20 := by lia
  obtain ⟨t1, t2⟩ := shX_f q
  simp only [lyC, nmd_q]
  obtain ⟨h1, b1, p1, q1, r1⟩ := shT (h := pI h 59 0 19) alD.2.2.2.1
  rw [b1, bnd_q]
  obtain ⟨h2, b2, p2, q2, r2⟩ := shT (h := h1) alD.2.2.2.2.1
  rw [b2, bnd_q]
  obtain ⟨h3, b3, p3, q3, r3⟩ := shT (h := h2) alD.2.2.2.2.2.1
  rw [b3, bnd_q]
  obtain ⟨h4, b4, p4, q4, r4⟩ := shT (h := h3) alD.2.2.2.2.2.2.1
  rw [b4, bnd_q]
  obtain ⟨h5, b5, p5, q5, r5⟩ := shT (h := h4) alD.2.2.2.2.2.2.2
  rw [b5, bnd_q]
  have g : ∀ d, (d < 59 ∨ 64 < d) → h5.1 d = h.1 d := fun d hd => by
    rw [q5 d (by omega), q4 d (by omega), q3 d (by omega), q2 d (by omega), q1 d (by omega), pI_f (by omega)]
  have g2 : h5.2 = h.2 := by rw [p5, p4, p3, p2, p1, pI_l]
  have f : Fr (fun c => 59 ≤ c ∧ c ≤ 64) h h5 := fun c hc => ⟨g c (by omega), by rw [g2]⟩
  obtain ⟨x1, x2, x3, x4, x5, x6, x7⟩ := x
  refine ⟨h5, rfl, ⟨x1.1.mv f (fun c q => by omega), x1.2.1.mv f (fun c q => by omega), x1.2.2.mv f (fun c q => by omega)⟩, ?_, ?_, ?_, ?_, ?_, by rw [g 23 (by decide)]; exact x7⟩
  · rw [shX_0 (by decide)]
    exact fun q => (x2 q).mv f (fun c q => by omega)
  · obtain ⟨a1, a2, a3, a4, a5, a6, a7, a8⟩ := x3
    rw [shX_0 (show ¬ (0 : Int32) = 5 by decide), shX_0 (show ¬ (1 : Int32) = 5 by decide), shX_0 (show ¬ (2 : Int32) = 5 by decide), shX_0 (show ¬ (3 : Int32) = 5 by decide), shX_0 (show ¬ (4 : Int32) = 5 by decide), shX_0 (show ¬ (6 : Int32) = 5 by decide), shX_0 (show ¬ (7 : Int32) = 5 by decide), t2, g 0 (by decide), g 2 (by decide), g 40 (by decide), g 65 (by decide), q5 59 (by decide), q4 59 (by decide), q3 59 (by decide), q2 59 (by decide), q1 59 (by decide), pI_t, if_pos rfl]
    exact ⟨a1, a2, a3, a4, a5, rfl, a7, a8⟩
  · rw [shX_0 (by decide), g 1 (by decide)]
    intro j a b
    rw [shX_r (by decide) (by decide)]
    exact x4 j a b
  · rw [t2]
    intro k k0 k1
    have z := x5 (k + 1) (by lia) (by lia)
    rw [t1 2 k (by decide) (by decide), t1 3 k (by decide) (by decide), t1 4 k (by decide) (by decide), t1 5 k (by decide) (by decide), t1 6 k (by decide) (by decide)]
    rw [q5 60 (by decide), q4 60 (by decide), q3 60 (by decide), q2 60 (by decide), r1 k k0 k1, q5 61 (by decide), q4 61 (by decide), q3 61 (by decide), r2 k k0 k1, q1 61 (by decide), q5 62 (by decide), q4 62 (by decide), r3 k k0 k1, q2 62 (by decide), q1 62 (by decide), q5 63 (by decide), r4 k k0 k1, q3 63 (by decide), q2 63 (by decide), q1 63 (by decide), r5 k k0 k1, q4 64 (by decide), q3 64 (by decide), q2 64 (by decide), q1 64 (by decide), pI_f (by decide), pI_f (by decide), pI_f (by decide), pI_f (by decide), pI_f (by decide)]
    exact z
  · rw [shX_0 (by decide), g 70 (by decide), g 66 (by decide), g 67 (by decide), g 68 (by decide), g 69 (by decide)]
    intro k a b
    rw [shX_r (by decide) (by decide), shX_r (by decide) (by decide), shX_r (by decide) (by decide), shX_r (by decide) (by decide), shX_r (by decide) (by decide)]
    exact x6 k a b
/-- the reference makes room -/
theorem roR {h : Hp} {P : Pl} {L : Lw} {A B : Aw} {X : Pl} {U : Ud} (h20 : X 0 5 ≤ 20) (h0 : 0 ≤ X 0 5) (ok : POK P) (x : RRel h P L A B X U) : ∃ h', f_Md_remember TR h 0 = jb_Md_remember_49 TR h' 0 ∧ RRel h' P L A B (shX X) (shU X U) := by
  have o1 := ok.1
  have e78 := x.2.2.1.2.2.2.2.2.1
  unfold f_Md_remember
  rw [e78]
  by_cases q : X 0 5 < 20
  · rw [if_neg (by lia)]
    refine ⟨h, rfl, ?_⟩
    unfold shX shU
    rw [if_pos q, if_pos q]
    exact x
  have e20 : X 0 5 = 20 := by lia
  rw [if_pos e20]
  obtain ⟨t1, t2⟩ := shX_f q
  have eU : shU X U = fun k => U (k + 1) := if_neg q
  obtain ⟨h2, e, i1, i2, i3, i4⟩ := loopF (S := Unit) (f := fun _ s => s) (N := 342) (lp := fun m h i => lp_Md_remember_11 TR m h 0 i) (res := fun h => jb_Md_remember_49 TR (pI h 0 78 (h.1 0 78 - 1)) 0) (fun i _ h' => h'.2 = h.2 ∧ (∀ d, ¬ d = 43 → h'.1 d = h.1 d) ∧ (∀ s : Int32, i ≤ s → s < 360 → h'.1 43 (ix s) = h.1 43 (ix s)) ∧ ∀ s : Int32, 0 ≤ s → s < i → h'.1 43 (ix s) = h.1 43 (ix (s + 18))) (by decide) (by decide)
    (fun m h s q => by
      simp only [lp_Md_remember_11]
      rw [if_pos (by decide), nmd_q])
    (fun m h2 i s i0 i1 q => by
      obtain ⟨q1, q2, q3, q4⟩ := q
      have a1 : i < 360 := by lia
      have a2 : 0 ≤ i + 18 := by lia
      have a3 : i + 18 < 360 := by lia
      refine ⟨pI h2 43 (ix i) (h.1 43 (ix (i + 18))), ?_, ?_, ?_, ?_, ?_⟩
      · simp only [lp_Md_remember_11]
        rw [if_neg (show ¬ (342 : Int32) ≤ i by lia)]
        simp (disch := first | assumption | decide | omega) only [lyR, rdR, wtR, bnd_q, nmd_q]
        rw [q3 _ (by lia) a3]
      · rw [pI_l]; exact q1
      · intro d hd
        rw [pI_f hd]
        exact q2 d hd
      · intro s s0 s1
        rw [pI_ix i0 (by lia), if_neg (by lia)]
        exact q3 s (by lia) s1
      · intro s s0 s1
        rw [pI_ix i0 s0]
        by_cases z : s = i
        · rw [if_pos z, z]
        · rw [if_neg z]
          exact q4 s s0 (by lia)) 0 (by decide) (by decide) () h ⟨rfl, fun _ _ => rfl, fun _ _ _ => rfl, fun s a b => absurd b (by lia)⟩
  refine ⟨pI h2 0 78 (h2.1 0 78 - 1), e, ?_⟩
  have g : ∀ c s, ¬ (c = 43 ∨ (c = 0 ∧ s = 78)) → (pI h2 0 78 (h2.1 0 78 - 1)).1 c s = h.1 c s := fun c s z => by
    rw [pI_1]
    split
    · rw [if_neg (by omega), i2 c (by omega)]
    · rw [i2 c (by omega)]
  have g2 : (pI h2 0 78 (h2.1 0 78 - 1)).2 = h.2 := by rw [pI_l, i1]
  have g78 : (pI h2 0 78 (h2.1 0 78 - 1)).1 0 78 = 19 := by
    rw [pI_t, if_pos rfl, i2 0 (by decide), e78, e20]
    decide
  have g43 : ∀ s : Int32, 0 ≤ s → s < 342 → (pI h2 0 78 (h2.1 0 78 - 1)).1 43 (ix s) = h.1 43 (ix (s + 18)) := fun s a b => by
    rw [pI_n (by decide)]
    exact i4 s a b
  generalize pI h2 0 78 (h2.1 0 78 - 1) = h3 at g g2 g78 g43 ⊢
  obtain ⟨⟨a1, a2, a3, a4, a5, a6⟩, x2, x3, x4, x5, x6, x7⟩ := x
  refine ⟨⟨a1.mw (fun c s q _ => g c s (by omega)) (fun s p q => g 0 s (by omega)), a2.mv (fun c s p q => g c s (by omega)), a3.mg (fun c s p q => g c s (by omega)), ?_, ?_, ?_⟩, ?_, ?_, ?_, ?_, ?_, fun j a => by rw [g 2 j (by omega)]; exact x7 j a⟩
  · intro i j0 j1
    rw [g 32 _ (by omega)]
    exact a4 i j0 j1
  · rw [g2]; exact a5
  · intro s
    rw [g 31 s (by omega)]
    exact a6 s
  · rw [shX_0 (by decide)]
    intro q
    obtain ⟨⟨z1, z2, z3⟩, z4, z5, z6⟩ := x2 q
    refine ⟨⟨fun i a b => ?_, fun i a b => ?_, fun i a b => ?_⟩, fun i a b => ?_, ?_, ?_⟩
    · rw [g 44 _ (by omega)]; exact z1 i a b
    · rw [g 44 _ (by omega)]; exact z2 i a b
    · rw [g 44 _ (by omega)]; exact z3 i a b
    · rw [g 45 _ (by omega), g 45 _ (by omega), g 45 _ (by omega), g 45 _ (by omega)]; exact z4 i a b
    · rw [g 45 _ (by omega), g 45 _ (by omega), g 45 _ (by omega), g 45 _ (by omega), g 45 _ (by omega), g 45 _ (by omega)]; exact z5
    · rw [g2]; exact z6
  · obtain ⟨b1, b2, b3, b4, b5, b6, b7, b8⟩ := x3
    rw [shX_0 (show ¬ (0 : Int32) = 5 by decide), shX_0 (show ¬ (1 : Int32) = 5 by decide), shX_0 (show ¬ (2 : Int32) = 5 by decide), shX_0 (show ¬ (3 : Int32) = 5 by decide), shX_0 (show ¬ (4 : Int32) = 5 by decide), shX_0 (show ¬ (6 : Int32) = 5 by decide), shX_0 (show ¬ (7 : Int32) = 5 by decide), t2, g 0 1 (by decide), g 0 4 (by decide), g 0 5 (by decide), g 0 16 (by decide), g 0 80 (by decide), g 0 74 (by decide), g 0 75 (by decide), g78]
    exact ⟨b1, b2, b3, b4, b5, rfl, b7, b8⟩
  · rw [shX_0 (by decide)]
    intro j a b
    rw [g 1 _ (by omega), shX_r (by decide) (by decide)]
    exact x4 j a b
  · rw [t2, eU]
    intro k k0 k1
    obtain ⟨z1, z2, z3⟩ := x5 (k + 1) (by lia) (by lia)
    refine ⟨fun i a b => ?_, fun i a b => ?_, fun i a b => ?_⟩
    · rw [g43 _ (by lia) (by lia), show 18 * k + i + 18 = 18 * (k + 1) + i by lia]
      exact z1 i a b
    · rw [g43 _ (by lia) (by lia), show 18 * k + 6 + i + 18 = 18 * (k + 1) + 6 + i by lia]
      exact z2 i a b
    · rw [g43 _ (by lia) (by lia), show 18 * k + 12 + i + 18 = 18 * (k + 1) + 12 + i by lia]
      exact z3 i a b
  · rw [shX_0 (by decide)]
    intro k a b
    rw [shX_r (by decide) (by decide), shX_r (by decide) (by decide), shX_r (by decide) (by decide), shX_r (by decide) (by decide), shX_r (by decide) (by decide), g 41 _ (by omega), g 41 _ (by omega), g 41 _ (by omega), g 41 _ (by omega)]
    exact x6 k a b
