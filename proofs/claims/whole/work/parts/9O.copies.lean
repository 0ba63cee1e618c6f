/-! what was read is kept: copies -/
def cpL : List (Nat × Nat × Nat) → Hp → Option Hp
  | [], h => some h
  | p :: t, h => (f_Tt_copy TC h p.1 p.2.1).bind fun r => cpL t r
theorem cpL_ok : ∀ (l : List (Nat × Nat × Nat)) (h : Hp), (∀ p ∈ l, al TC p.1 = p.2.2 ∧ al TC p.2.1 = p.2.2 ∧ p.2.2 ≤ 900) → (∀ p ∈ l, ∀ q ∈ l, ¬ p.1 = q.2.1) → l.Pairwise (fun p q => ¬ p.2.1 = q.2.1) → ∃ r, cpL l h = some r ∧ r.2 = h.2 ∧ (∀ d, (∀ p ∈ l, ¬ d = p.2.1) → r.1 d = h.1 d) ∧ ∀ p ∈ l, ∀ j, j < p.2.2 → r.1 p.2.1 j = h.1 p.1 j
  | [], h, _, _, _ => ⟨h, rfl, rfl, fun _ _ => rfl, fun p m => absurd m (List.not_mem_nil)⟩
  | p :: t, h, x, y, z => by
    obtain ⟨a1, a2, a3⟩ := x p (List.mem_cons_self ..)
    obtain ⟨g, e1, e2, e3, e4⟩ := cpT (h := h) a1 a2 a3
    rw [List.pairwise_cons] at z
    obtain ⟨r, q1, q2, q3, q4⟩ := cpL_ok t g (fun q m => x q (List.mem_cons_of_mem _ m)) (fun q m s k => y q (List.mem_cons_of_mem _ m) s (List.mem_cons_of_mem _ k)) z.2
    refine ⟨r, ?_, q2.trans e2, fun d hd => ?_, fun q m j hj => ?_⟩
    · show (f_Tt_copy TC h p.1 p.2.1).bind _ = _
      rw [e1, bnd_q]
      exact q1
    · rw [q3 d (fun s k => hd s (List.mem_cons_of_mem _ k)), e3 d (hd p (List.mem_cons_self ..))]
    · rcases List.mem_cons.mp m with k | k
      · subst k
        rw [q3 q.2.1 (fun s k => z.1 s k)]
        exact e4 j hj
      · rw [q4 q k j hj, e3 q.1 (y q (List.mem_cons_of_mem _ k) p (List.mem_cons_self ..))]
theorem cyT {h : Hp} {c k : Nat} (ha : al TR c = 2 * k) (hk : k ≤ 400) : ∃ r, f_Md_copies TR h c (nI k) = some r ∧ r.2 = h.2 ∧ (∀ d, ¬ d = c → r.1 d = h.1 d) ∧ (∀ j, j < k → r.1 c j = h.1 c (k + j)) ∧ (∀ j, k ≤ j → r.1 c j = h.1 c j) := by
  have hN : nI k ≤ 900 := nI_le (b := 900) (by omega) (by decide)
  have hN0 : 0 ≤ nI k := nI_pos' (by omega)
  obtain ⟨h', e, i1, i2, i3, i4⟩ := loopF (S := Unit) (f := fun _ s => s) (N := nI k) (lp := fun m h i => lp_Md_copies_2 TR m h c (nI k) i) (res := fun h => some h) (fun i _ h' => h'.2 = h.2 ∧ (∀ d, ¬ d = c → h'.1 d = h.1 d) ∧ (∀ j, j < ix i → h'.1 c j = h.1 c (k + j)) ∧ (∀ j, k ≤ j → h'.1 c j = h.1 c j)) hN0 hN
    (fun m h s q => by
      simp only [lp_Md_copies_2]
      rw [if_pos (by lia)])
    (fun m h2 i s a b q => by
      have hi : ix i < k := ix_lt a (by omega) b
      have ei : nI (ix i) = i := nI_ix a
      refine ⟨pI h2 c (ix i) (h2.1 c (k + ix i)), ?_, ?_, ?_, ?_, ?_⟩
      · simp only [lp_Md_copies_2]
        rw [if_neg (by lia), show nI k + i = nI (k + ix i) by rw [← nI_add, ei], rI_ok ha (show k + ix i < 2 * k by omega) (by omega), bnd_q, show wI TR h2 c i (h2.1 c (k + ix i)) = some (pI h2 c (ix i) (h2.1 c (k + ix i))) by
          have w := wI_ok (h := h2) (x := h2.1 c (k + ix i)) ha (show ix i < 2 * k by omega) (by omega)
          rw [ei] at w
          exact w, bnd_q, nmd_q]
      · rw [pI_l]
        exact q.1
      · intro d hd
        rw [pI_f hd]
        exact q.2.1 d hd
      · intro j hj
        rw [ix_s a (by lia)] at hj
        rw [pI_t]
        by_cases z : j = ix i
        · rw [if_pos z, z]
          exact q.2.2.2 _ (by omega)
        · rw [if_neg z]
          exact q.2.2.1 j (by omega)
      · intro j hj
        rw [pI_t, if_neg (by omega)]
        exact q.2.2.2 j hj) 0 (by decide) hN0 () h ⟨rfl, fun _ _ => rfl, fun j hj => by
          rw [ix_le0 (by decide)] at hj
          omega, fun _ _ => rfl⟩
  refine ⟨h', ?_, i1, i2, ?_, i4⟩
  · unfold f_Md_copies
    exact e
  · intro j hj
    refine i3 j ?_
    rw [ix_nI (by omega)]
    exact hj
def cyL : List (Nat × Nat) → Hp → Option Hp
  | [], h => some h
  | p :: t, h => (f_Md_copies TR h p.1 (nI p.2)).bind fun r => cyL t r
theorem cyL_ok : ∀ (l : List (Nat × Nat)) (h : Hp), (∀ p ∈ l, al TR p.1 = 2 * p.2 ∧ p.2 ≤ 400) → l.Pairwise (fun p q => ¬ p.1 = q.1) → ∃ r, cyL l h = some r ∧ r.2 = h.2 ∧ (∀ d, (∀ p ∈ l, ¬ d = p.1) → r.1 d = h.1 d) ∧ ∀ p ∈ l, (∀ j, j < p.2 → r.1 p.1 j = h.1 p.1 (p.2 + j))
  | [], h, _, _ => ⟨h, rfl, rfl, fun _ _ => rfl, fun p m => absurd m (List.not_mem_nil)⟩
  | p :: t, h, x, z => by
    obtain ⟨a1, a2⟩ := x p (List.mem_cons_self ..)
    obtain ⟨g, e1, e2, e3, e4, -⟩ := cyT (h := h) a1 a2
    rw [List.pairwise_cons] at z
    obtain ⟨r, q1, q2, q3, q4⟩ := cyL_ok t g (fun q m => x q (List.mem_cons_of_mem _ m)) z.2
    refine ⟨r, ?_, q2.trans e2, fun d hd => ?_, fun q m j hj => ?_⟩
    · show (f_Md_copies TR h p.1 (nI p.2)).bind _ = _
      rw [e1, bnd_q]
      exact q1
    · rw [q3 d (fun s k => hd s (List.mem_cons_of_mem _ k)), e3 d (hd p (List.mem_cons_self ..))]
    · rcases List.mem_cons.mp m with k | k
      · subst k
        rw [q3 q.1 (fun s k => z.1 s k)]
        exact e4 j hj
      · rw [q4 q k j hj, e3 q.1 (fun w => z.1 q k w.symm)]
/-- the class keeps what it read -/
def pC1 : List (Nat × Nat × Nat) := [(4, 27, 6), (5, 28, 6), (6, 29, 6), (7, 30, 6), (8, 31, 61), (9, 32, 6), (10, 33, 6), (11, 34, 6), (12, 35, 6), (13, 36, 6), (14, 37, 12), (15, 38, 12), (16, 39, 12)]
def pC2 : List (Nat × Nat × Nat) := [(18, 41, 64), (19, 42, 3), (20, 43, 3)]
theorem keC {g : Hp} {Q : Pl} {L : Lw} {sz : Nat} (ok : POK Q) (lk : LOK L) (cp : CP g 3 Q) (cl : CLa g 17 L) (k0 : g.1 17 0 = nI sz) : ∃ r, f_Pl_become TC g 26 3 = some r ∧ CP r 26 Q ∧ CLa r 40 L ∧ r.1 40 0 = nI sz ∧ r.2 = g.2 ∧ ∀ d, ¬ (26 ≤ d ∧ d ≤ 43) → r.1 d = g.1 d := by
  have o1 := ok.1
  obtain ⟨h6, e6⟩ : ∃ h6, h6 = pI (pI (pI (pI (pI (pI g 26 0 (g.1 3 0)) 26 1 (g.1 3 1)) 26 2 (g.1 3 2)) 26 3 (g.1 3 3)) 26 4 (g.1 3 4)) 26 5 (g.1 3 5) := ⟨_, rfl⟩
  obtain ⟨r, a1, a2, a3, a4⟩ := cpL_ok pC1 h6 (by simp only [pC1, List.mem_cons, List.not_mem_nil, or_false, forall_eq_or_imp, forall_eq, alC]; decide) (by decide) (by decide)
  obtain ⟨u, b1, b2, b3, b4⟩ := cpL_ok pC2 (pI (pI r 40 0 (r.1 17 0)) 40 1 (r.1 17 1)) (by simp only [pC2, List.mem_cons, List.not_mem_nil, or_false, forall_eq_or_imp, forall_eq, alC]; decide) (by decide) (by decide)
  have e : f_Pl_become TC g 26 3 = (cpL pC1 h6).bind fun r19 => (cpL pC2 (pI (pI r19 40 0 (r19.1 17 0)) 40 1 (r19.1 17 1))).bind fun r20 => some r20 := by
    unfold f_Pl_become f_La_become pC1 pC2
    simp only [nmd_q, lyC, cpL, Option.bind_assoc, bnd_q, e6, pI_n (show ¬ 3 = 26 by decide), pI_n (show ¬ 17 = 40 by decide)]
  have d1 : ∀ d, ¬ (26 ≤ d ∧ d ≤ 39) → r.1 d = h6.1 d := fun d hd => a3 d (by simp only [pC1, List.mem_cons, List.not_mem_nil, or_false, forall_eq_or_imp, forall_eq]; omega)
  have d2 : ∀ d, ¬ (40 ≤ d ∧ d ≤ 43) → u.1 d = r.1 d := fun d hd => by
    rw [b3 d (by simp only [pC2, List.mem_cons, List.not_mem_nil, or_false, forall_eq_or_imp, forall_eq]; omega), pI_f (by omega), pI_f (by omega)]
  have d6 : ∀ d, ¬ d = 26 → h6.1 d = g.1 d := fun d hd => by rw [e6, pI_f hd, pI_f hd, pI_f hd, pI_f hd, pI_f hd, pI_f hd]
  have d26 : u.1 26 = h6.1 26 := by rw [d2 26 (by omega), a3 26 (by simp only [pC1, List.mem_cons, List.not_mem_nil, or_false, forall_eq_or_imp, forall_eq]; omega)]
  have f1 : ∀ p ∈ pC1, ∀ j, j < p.2.2 → u.1 p.2.1 j = g.1 p.1 j := fun p m j hj => by
    have q : p.2.1 ≤ 39 ∧ ¬ p.1 = 26 := (show ∀ p ∈ pC1, p.2.1 ≤ 39 ∧ ¬ p.1 = 26 by decide) p m
    rw [d2 _ (by omega), a4 p m j hj, d6 _ q.2]
  have f2 : ∀ p ∈ pC2, ∀ j, j < p.2.2 → u.1 p.2.1 j = g.1 p.1 j := fun p m j hj => by
    have q : p.1 ≤ 20 ∧ ¬ p.1 = 26 := (show ∀ p ∈ pC2, p.1 ≤ 20 ∧ ¬ p.1 = 26 by decide) p m
    rw [b4 p m j hj, pI_n (by omega), pI_n (by omega), d1 _ (by omega), d6 _ q.2]
  have x6 : ∀ {t : Int32} {n : Nat}, 0 ≤ t → n ≤ 61 → t < nI n → ix t < n := fun a b c => ix_lt a (by omega) c
  obtain ⟨c1, c2, c3, c4, c5⟩ := cp
  simp only [Nat.reduceAdd] at c2 c3 c4 c5
  refine ⟨u, by rw [e, a1, bnd_q, b1, bnd_q], ⟨?_, fun t x y => ?_, fun t x y => ?_, fun t x y => ?_, fun t x y => ?_⟩, fun q hq => ?_, ?_, ?_, fun d hd => ?_⟩
  · rw [d26, e6]
    refine ⟨?_, ?_, ?_, ?_, ?_, ?_⟩
    · rw [← c1.1]
      repeat (first | rw [pI_t, if_pos rfl] | rw [pI_t, if_neg (by decide)])
    · rw [← c1.2.1]
      repeat (first | rw [pI_t, if_pos rfl] | rw [pI_t, if_neg (by decide)])
    · rw [← c1.2.2.1]
      repeat (first | rw [pI_t, if_pos rfl] | rw [pI_t, if_neg (by decide)])
    · rw [← c1.2.2.2.1]
      repeat (first | rw [pI_t, if_pos rfl] | rw [pI_t, if_neg (by decide)])
    · rw [← c1.2.2.2.2.1]
      repeat (first | rw [pI_t, if_pos rfl] | rw [pI_t, if_neg (by decide)])
    · rw [← c1.2.2.2.2.2]
      repeat (first | rw [pI_t, if_pos rfl] | rw [pI_t, if_neg (by decide)])
  · have l : ix t < 6 := x6 (n := 6) x (by decide) (show t < 6 by lia)
    simp only [Nat.reduceAdd]
    rw [f1 (4, 27, 6) (by decide) _ l, f1 (5, 28, 6) (by decide) _ l, f1 (6, 29, 6) (by decide) _ l, f1 (7, 30, 6) (by decide) _ l]
    exact c2 t x y
  · have l : ix t < 61 := x6 (n := 61) x (by decide) (show t < 61 from y)
    simp only [Nat.reduceAdd]
    rw [f1 (8, 31, 61) (by decide) _ l]
    exact c3 t x y
  · have l : ix t < 6 := x6 (n := 6) x (by decide) (show t < 6 by lia)
    simp only [Nat.reduceAdd]
    rw [f1 (9, 32, 6) (by decide) _ l, f1 (10, 33, 6) (by decide) _ l, f1 (11, 34, 6) (by decide) _ l, f1 (12, 35, 6) (by decide) _ l, f1 (13, 36, 6) (by decide) _ l]
    exact c4 t x y
  · have l : ix t < 12 := x6 (n := 12) x (by decide) (show t < 12 by lia)
    simp only [Nat.reduceAdd]
    rw [f1 (14, 37, 12) (by decide) _ l, f1 (15, 38, 12) (by decide) _ l, f1 (16, 39, 12) (by decide) _ l]
    exact c5 t x y
  · obtain ⟨l1, l2, l3⟩ := cl q hq
    obtain ⟨k1, k2, -⟩ := lk q hq
    simp only [Nat.reduceAdd] at l1 l2 l3 ⊢
    refine ⟨?_, ?_, fun j x y => ?_⟩
    · rw [f2 (19, 42, 3) (by decide) q hq]
      exact l1
    · rw [f2 (20, 43, 3) (by decide) q hq]
      exact l2
    · rw [f2 (18, 41, 64) (by decide) j (show j < 64 by omega)]
      exact l3 j x y
  · rw [b3 40 (by decide), pI_t, if_neg (by decide), pI_t, if_pos rfl, d1 17 (by omega), d6 17 (by decide)]
    exact k0
  · rw [b2, pI_l, pI_l, a2, e6, pI_l, pI_l, pI_l, pI_l, pI_l, pI_l]
  · rw [d2 d (by omega), d1 d (by omega), d6 d (by omega)]
