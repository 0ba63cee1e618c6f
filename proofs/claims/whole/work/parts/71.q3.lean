/-! peace, count, reach -/
theorem an2 {m c : Int32} (k : Nat) (e : c.toBitVec = BitVec.twoPow 32 k) : m &&& c = 0 ∨ m &&& c = c := by
  by_cases q : m.toBitVec.getLsbD k
  · right
    apply Int32.toBitVec_inj.1
    rw [Int32.toBitVec_and, e, BitVec.and_twoPow, if_pos q]
  · left
    apply Int32.toBitVec_inj.1
    rw [Int32.toBitVec_and, e, BitVec.and_twoPow, if_neg q]
    rfl
theorem and_or_i {m n c : Int32} : c &&& (m ||| n) = (c &&& m) ||| (c &&& n) := by
  rw [Int32.and_comm, or_and_i, Int32.and_comm m, Int32.and_comm n]
def mk6 (a b c d e f : Bool) : Int32 := (if a then 2 else 0) ||| (if b then 4 else 0) ||| (if c then 8 else 0) ||| (if d then 64 else 0) ||| (if e then 128 else 0) ||| (if f then 2048 else 0)
theorem mk_ex {m : Int32} (h : m &&& 2254 = m) : ∃ a b c d e f, m = mk6 a b c d e f := by
  have e : (2254 : Int32) = 2 ||| 4 ||| 8 ||| 64 ||| 128 ||| 2048 := by decide
  rw [e, and_or_i, and_or_i, and_or_i, and_or_i, and_or_i] at h
  have k1 := an2 (m := m) (c := 2) 1 (by decide)
  have k2 := an2 (m := m) (c := 4) 2 (by decide)
  have k3 := an2 (m := m) (c := 8) 3 (by decide)
  have k4 := an2 (m := m) (c := 64) 6 (by decide)
  have k5 := an2 (m := m) (c := 128) 7 (by decide)
  have k6 := an2 (m := m) (c := 2048) 11 (by decide)
  refine ⟨decide (m &&& 2 = 2), decide (m &&& 4 = 4), decide (m &&& 8 = 8), decide (m &&& 64 = 64), decide (m &&& 128 = 128), decide (m &&& 2048 = 2048), h.symm.trans ?_⟩
  unfold mk6
  rcases k1 with k1 | k1 <;> rw [k1] <;> rcases k2 with k2 | k2 <;> rw [k2] <;> rcases k3 with k3 | k3 <;> rw [k3] <;> rcases k4 with k4 | k4 <;> rw [k4] <;> rcases k5 with k5 | k5 <;> rw [k5] <;> rcases k6 with k6 | k6 <;> rw [k6] <;> rfl
theorem pc0 : ∀ (a b c d e f : Bool) (i j : Fin 4), ¬ nI i.1 = nI j.1 → (((sy (mk6 a b c d e f) >>> ((4 * nI i.1 + nI j.1) &&& 31)) &&& 1 = 1) ↔ ¬ (mk6 a b c d e f &&& pai (nI i.1) (nI j.1) = 0)) := by decide +kernel
theorem pc1 {m i j : Int32} (h : m &&& 2254 = m) (i0 : 0 ≤ i) (i3 : i ≤ 3) (j0 : 0 ≤ j) (j3 : j ≤ 3) (q : ¬ i = j) : (((sy m >>> ((4 * i + j) &&& 31)) &&& 1 = 1) ↔ ¬ (m &&& pai i j = 0)) := by
  obtain ⟨a, b, c, d, e, f, rfl⟩ := mk_ex h
  obtain ⟨x, rfl⟩ := fin_i32 (n := 4) i0 (by decide) (show i < 4 by lia)
  obtain ⟨y, rfl⟩ := fin_i32 (n := 4) j0 (by decide) (show j < 4 by lia)
  exact pc0 a b c d e f x y q
theorem sp_peace : SP_peace Rl := by
  intro hC hR a1 a2 hr
  obtain ⟨P, L, A, B, X, U, p, x, y⟩ := hr
  have ok := p.1
  have o1 := ok.1
  have lk := p.2.1
  have wo := p.2.2.1
  have g := x.1.h.g
  simp only [Nat.reduceAdd] at g
  have xh := x.1.h
  have y1 := y.th (v := 0) ok
  have k := y1.1.g
  have sx := x.2.2.1
  have sr := y1.2.2.1
  have tk := p.2.2.2.2.2.2.2.2.2.2.1
  have key : f_Md_peace TR hR 0 a1 a2 = some (f_Tt_peace TC hC 0 a1 a2, pI hR 0 2 0) := by
    unfold f_Tt_peace f_Md_peace
    simp only [nmd_q, isIn_e]
    generalize pI hR 0 2 0 = h1 at y1 k sr ⊢
    simp (disch := first | assumption | decide | omega) only [lyC, lyR, rdR, bnd_q, g, k]
    by_cases q1 : a1 < 0
    · rw [if_neg (show ¬ (0 ≤ a1 ∧ a1 ≤ 3) by lia), if_pos (rfl : (0 : Int32) = 0), if_pos q1]
    rw [if_neg q1]
    by_cases q2 : 4 ≤ a1
    · rw [if_neg (show ¬ (0 ≤ a1 ∧ a1 ≤ 3) by lia), if_pos (rfl : (0 : Int32) = 0), if_pos q2]
    rw [if_neg q2, if_pos (show 0 ≤ a1 ∧ a1 ≤ 3 by lia), if_neg (show ¬ (1 : Int32) = 0 by decide)]
    by_cases q3 : a2 < 0
    · rw [if_neg (show ¬ (0 ≤ a2 ∧ a2 ≤ 3) by lia), if_pos (rfl : (0 : Int32) = 0), if_pos q3]
    rw [if_neg q3]
    by_cases q4 : 4 ≤ a2
    · rw [if_neg (show ¬ (0 ≤ a2 ∧ a2 ≤ 3) by lia), if_pos (rfl : (0 : Int32) = 0), if_pos q4]
    rw [if_neg q4, if_pos (show 0 ≤ a2 ∧ a2 ≤ 3 by lia), if_neg (show ¬ (1 : Int32) = 0 by decide)]
    by_cases q5 : a1 = a2
    · rw [if_pos q5, if_pos q5]
    rw [if_neg q5, if_neg q5]
    have e1 := pc1 tk.1 (show 0 ≤ a1 by lia) (by lia) (show 0 ≤ a2 by lia) (by lia) q5
    have e2 := pc1 tk.2 (show 0 ≤ a1 by lia) (by lia) (show 0 ≤ a2 by lia) (by lia) q5
    have ep : f_Wo_pairOf TC hC a1 a2 = pai a1 a2 := rfl
    rw [ep]
    unfold f_Md_isOf
    by_cases c1 : A.1 0 6 &&& pai a1 a2 = 0
    · rw [if_pos c1, if_neg (fun z => e1.mp z c1), if_pos (rfl : (0 : Int32) = 0)]
    rw [if_neg c1, if_pos (e1.mpr c1), if_neg (show ¬ (1 : Int32) = 0 by decide)]
    by_cases c2 : A.1 0 7 &&& pai a1 a2 = 0
    · rw [if_pos c2, if_neg (fun z => e2.mp z c2), if_pos (rfl : (0 : Int32) = 0)]
    · rw [if_neg c2, if_pos (e2.mpr c2), if_neg (show ¬ (1 : Int32) = 0 by decide)]
  exact ⟨_, _, rfl, key, rfl, Rl.mk p x y1⟩
/-- how many are on -/
def onm (m N : Int32) : Int32 := Fold (fun i s => s + bt m i) N 0 0
theorem onm0 : ∀ (a : Fin 64) (n : Fin 7), (∀ j : Fin 6, n.1 ≤ j.1 → bt (nI a.1) (nI j.1) = 0) → f_In_bitCount TC ((fun _ _ => 0), (fun _ _ => 0)) (nI a.1) = onm (nI a.1) (nI n.1) := by decide +kernel
theorem bc_e {h : Hp} {m N : Int32} (h0 : 0 ≤ N) (h6 : N ≤ 6) (k : mOK N m) : f_In_bitCount TC h m = onm m N := by
  obtain ⟨k1, k2, k3⟩ := k
  obtain ⟨a, rfl⟩ := fin_i32 (n := 64) k1 (by decide) (show m < 64 by lia)
  obtain ⟨n, rfl⟩ := fin_i32 (n := 7) h0 (by decide) (show N < 7 by lia)
  refine Eq.trans rfl (onm0 a n fun j hj => k3 (nI j.1) ?_ ?_)
  · exact nI_le hj (by have := j.2; omega)
  · exact nI_lt j.2 (by decide)
theorem omR {h : Hp} {P : Pl} {b : Int32} {A : Aw} (hb : BOK b) (ok : POK P) (e13 : h.1 0 13 = P 0 4) (w : ∀ i, 0 ≤ i → i < P 0 4 → h.1 31 (ix (6 * b + i)) = bt (A.1 0 2) i) : f_Md_onMany TR h 0 b = some (onm (A.1 0 2) (P 0 4)) := by
  have o1 := ok.1
  unfold f_Md_onMany onm
  refine loopV (f := fun i s => s + bt (A.1 0 2) i) (N := P 0 4) (lp := fun n i s => lp_Md_onMany_4 TR n h 0 b s i) (res := fun s => some s) (by lia) (by lia) ?_ ?_ 0 (by decide) (by lia) 0
  · intro n s
    simp only [lp_Md_onMany_4, e13]
    rw [if_pos (by lia)]
  · intro n i s h0 h1
    obtain ⟨b0, b1⟩ := ib0 hb h0 (show i < 6 by lia)
    simp only [lp_Md_onMany_4, e13]
    unfold jb_Md_onMany_32
    simp (disch := first | assumption | decide | omega) only [lyR, rdR, bnd_q, nmd_q, w i h0 h1]
    rw [if_neg (by lia)]
    rcases bt_01 (A.1 0 2) i with q | q
    · rw [if_pos q, q]
    · rw [if_neg (by rw [q]; decide), q]
theorem sp_count : SP_count Rl := by
  intro hC hR a1 hr
  obtain ⟨P, L, A, B, X, U, p, x, y⟩ := hr
  have ok := p.1
  have o1 := ok.1
  have lk := p.2.1
  have wo := p.2.2.1
  have g := x.1.h.g
  simp only [Nat.reduceAdd] at g
  have xh := x.1.h
  have y1 := y.th (v := 0) ok
  have k := y1.1.g
  have sx := x.2.2.1
  have sr := y1.2.2.1
  refine q_of p x y1 ?_
  have so := p.2.2.2.2.2.2.2.2.2.1
  have e13 := k.1.2.1
  have w31 := y1.1.2.2.1.2.2.2.2.1
  unfold f_Tt_count f_Md_count
  simp only [nmd_q]
  generalize pI hR 0 2 0 = h1 at y1 k sr e13 w31 ⊢
  have fin : ∀ v : Int32, ∃ r, some v = some r ∧ some (v, h1) = some (r, h1) := fun v => ⟨v, rfl, rfl⟩
  simp only [lyC, lyR, sx, sr]
  have S9 : ∃ r, f_Tt_waterInAll TC hC 0 = some r ∧ lp_Md_count_134 TR fu h1 0 0 0 = some (r, h1) := by
    unfold f_Tt_waterInAll
    refine lock (S := Int32) (S' := Int32) (N := P 0 3) (lp := fun n i s => lp_Tt_waterInAll_4 TC n hC 0 s i) (lp' := fun n i s => lp_Md_count_134 TR n h1 0 s i) (fun a b => ∃ r, a = some r ∧ b = some (r, h1)) (fun _ s s' => s = s') (by lia) (by lia) ?_ ?_ 0 (by decide) (by lia) 0 0 rfl
    · intro n m s s' e
      subst e
      simp only [lp_Tt_waterInAll_4, lp_Md_count_134, lyC, g, k]
      rw [if_pos (by lia), if_pos (by lia)]
      exact ⟨_, rfl, rfl⟩
    · intro n m i s s' h0 h1' e
      subst e
      have h6 : i < 6 := by lia
      have h12 : i < 12 := by lia
      simp only [lp_Tt_waterInAll_4, lp_Md_count_134]
      simp (disch := first | assumption | decide | omega) only [lyC, lyR, rdC, rdR, bnd_q, nmd_q, g, k]
      rw [if_neg (show ¬ P 0 3 ≤ i by lia), if_neg (show ¬ P 0 3 ≤ i by lia)]
      exact .inr ⟨_, _, rfl, rfl, rfl⟩
  have S : ∀ {c : Int32}, a1 = c → True := fun _ => trivial
  by_cases c0 : a1 = 0
  · rw [if_pos c0, if_pos c0, g.1.2.2.2.1, k.1.1]
    exact fin _
  rw [if_neg c0, if_neg c0]
  by_cases c1 : a1 = 1
  · rw [if_pos c1, if_pos c1, g.1.2.2.2.2.1, e13]
    exact fin _
  rw [if_neg c1, if_neg c1]
  by_cases c2 : a1 = 2
  · rw [if_pos c2, if_pos c2, g.1.2.2.2.2.2, k.1.2.2.1]
    exact fin _
  rw [if_neg c2, if_neg c2]
  by_cases c3 : a1 = 3
  · rw [if_pos c3, if_pos c3, g.1.1, k.1.2.2.2.1]
    exact fin _
  rw [if_neg c3, if_neg c3]
  by_cases c4 : a1 = 4
  · rw [if_pos c4, if_pos c4]
    exact fin _
  rw [if_neg c4, if_neg c4]
  by_cases c5 : a1 = 5
  · rw [if_pos c5, if_pos c5]
    simp (disch := first | assumption | decide | omega) only [rdR, bnd_q, g, k]
    exact fin _
  rw [if_neg c5, if_neg c5]
  by_cases c6 : a1 = 6
  · rw [if_pos c6, if_pos c6]
    simp (disch := first | assumption | decide | omega) only [rdR, bnd_q, g, k]
    exact fin _
  rw [if_neg c6, if_neg c6]
  by_cases c7 : a1 = 7
  · rw [if_pos c7, if_pos c7]
    simp (disch := first | assumption | decide | omega) only [rdR, bnd_q, g, k]
    exact fin _
  rw [if_neg c7, if_neg c7]
  by_cases c8 : a1 = 8
  · rw [if_pos c8, if_pos c8, omR (.inl rfl) ok e13 w31, bnd_q, g.2.2.1.2.1, bc_e (by lia) (by lia) wo.2.2]
    exact fin _
  rw [if_neg c8, if_neg c8]
  by_cases c9 : a1 = 9
  · rw [if_pos c9, if_pos c9]
    obtain ⟨r, e1, e2⟩ := S9
    rw [e1, e2, bnd_q]
    exact fin _
  rw [if_neg c9, if_neg c9]
  by_cases c10 : a1 = 10
  · rw [if_pos c10, if_pos c10]
    simp (disch := first | assumption | decide | omega) only [rdR, bnd_q, g, k]
    exact fin _
  rw [if_neg c10, if_neg c10]
  by_cases c11 : a1 = 11
  · rw [if_pos c11, if_pos c11]
    exact fin _
  rw [if_neg c11, if_neg c11]
  by_cases c12 : a1 = 12
  · rw [if_pos c12, if_pos c12]
    unfold f_Se_manyKnown f_Md_knownBy
    simp only [sx, sr]
    have so1 := so.1
    by_cases z : X 0 7 = -1
    · rw [if_pos z, if_neg (by rw [z]; decide)]
      exact fin _
    · rw [if_neg z, if_pos (by lia)]
      exact fin _
  rw [if_neg c12, if_neg c12]
  by_cases c13 : a1 = 13
  · rw [if_pos c13, if_pos c13]
    exact fin _
  rw [if_neg c13, if_neg c13]
  exact fin _
