/-! the reference keeps what it read -/
def pR1 : List (Nat × Nat) := [(4, 2), (5, 6), (6, 6), (7, 6), (8, 6), (9, 6), (10, 6), (11, 6), (12, 6), (13, 6), (14, 12), (15, 12), (16, 12)]
def pR2 : List (Nat × Nat) := [(18, 3), (19, 3), (20, 64), (21, 64), (22, 64)]
theorem RPc {h t : Hp} {P : Pl} (x : RP h P) (g : ∀ c, 4 ≤ c → c ≤ 16 → t.1 c = h.1 c) (g0 : ∀ s, 12 ≤ s → s ≤ 15 → t.1 0 s = h.1 0 s) : RP t P := by
  unfold RP at x ⊢
  rw [g0 12 (by decide) (by decide), g0 13 (by decide) (by decide), g0 14 (by decide) (by decide), g0 15 (by decide) (by decide), g 4 (by decide) (by decide), g 5 (by decide) (by decide), g 6 (by decide) (by decide), g 7 (by decide) (by decide), g 8 (by decide) (by decide), g 9 (by decide) (by decide), g 10 (by decide) (by decide), g 11 (by decide) (by decide), g 12 (by decide) (by decide), g 13 (by decide) (by decide), g 14 (by decide) (by decide), g 15 (by decide) (by decide), g 16 (by decide) (by decide)]
  exact x
theorem RLc {h t : Hp} {L : Lw} (x : RLa h L) (g : ∀ c, 17 ≤ c → c ≤ 22 → t.1 c = h.1 c) : RLa t L := by
  unfold RLa RKn at x ⊢
  rw [g 17 (by decide) (by decide), g 18 (by decide) (by decide), g 19 (by decide) (by decide), g 20 (by decide) (by decide), g 21 (by decide) (by decide), g 22 (by decide) (by decide)]
  exact x
theorem beR {h : Hp} {P : Pl} {L : Lw} (ok : POK P) (x : RP h P) (y : RLa h L) (oz : OZ h) : ∃ r, f_Md_begin TR h 0 = some r ∧ RK r P L (wb P) ∧ (r.1 0 80 = 0 ∧ r.1 0 78 = 0 ∧ r.1 0 74 = 0 ∧ r.1 0 75 = -1) ∧ (∀ s, s < 69 → r.1 0 s = h.1 0 s) ∧ r.1 2 = h.1 2 := by
  obtain ⟨t, a1, a2, a3, a4, a5, a6⟩ := afR (b := 0) (.inl rfl) ok x oz
  have g : ∀ c, ¬ (27 ≤ c ∧ c ≤ 39) → t.1 c = h.1 c := fun c hc => funext fun s => a6 c s (by unfold AF; omega)
  have xt : RP t P := RPc x (fun c _ _ => g c (by omega)) (fun s _ _ => by rw [g 0 (by omega)])
  have yt : RLa t L := RLc y (fun c _ _ => g c (by omega))
  obtain ⟨r, er⟩ : ∃ r, r = pI (pI (pI (pI (pI (pI (pI (pI (pL t 0 67 ((P 0 2).toInt64)) 0 69 0) 0 70 0) 0 71 0) 0 72 0) 0 74 0) 0 75 (-1)) 0 78 0) 0 80 0 := ⟨_, rfl⟩
  have e : f_Md_begin TR h 0 = some r := by
    unfold f_Md_begin f_Md_plainTried
    simp only [nmd_q, lyR]
    rw [a1, bnd_q, show rI TR t 4 1 = some (t.1 4 1) from rI_ok (n := 4) (i := 1) (by simp only [alR]) (by decide) (by decide), bnd_q, xt.1.2.2.2.2.2, ← er]
  have gc : ∀ c, ¬ c = 0 → r.1 c = t.1 c := fun c hc => by
    rw [er, pI_f hc, pI_f hc, pI_f hc, pI_f hc, pI_f hc, pI_f hc, pI_f hc, pI_f hc]
    rfl
  have g0 : ∀ s, s < 69 → r.1 0 s = t.1 0 s := fun s hs => by
    rw [er, pI_x (by omega), pI_x (by omega), pI_x (by omega), pI_x (by omega), pI_x (by omega), pI_x (by omega), pI_x (by omega), pI_x (by omega)]
    rfl
  refine ⟨r, e, ⟨RPc xt (fun c _ _ => gc c (by omega)) (fun s _ _ => g0 s (by omega)), RLc yt (fun c _ _ => gc c (by omega)), ?_, ?_, ?_, ?_⟩, ?_, fun s hs => by rw [g0 s hs, g 0 (by omega)], by rw [gc 2 (by decide), g 2 (by omega)]⟩
  · unfold RW at a2 ⊢
    simp only [gc 27 (by decide), gc 28 (by decide), gc 29 (by decide), gc 30 (by decide), gc 31 (by decide), gc 32 (by decide), gc 33 (by decide), gc 34 (by decide), gc 35 (by decide), gc 36 (by decide), gc 37 (by decide), gc 38 (by decide), gc 39 (by decide)]
    exact a2
  · unfold RD at a3 ⊢
    simp only [gc 32 (by decide)]
    exact a3
  · rw [er, pI_l, pI_l, pI_l, pI_l, pI_l, pI_l, pI_l, pI_l]
    rw [pL_2, if_pos rfl, if_pos rfl]
    rfl
  · intro s
    rw [gc 31 (by decide)]
    exact a4 s
  · rw [er]
    refine ⟨?_, ?_, ?_, ?_⟩ <;> repeat (first | rw [pI_t, if_pos rfl] | rw [pI_t, if_neg (by decide)])
theorem keR {g : Hp} {Q : Pl} {L : Lw} {sz : Nat} (ok : POK Q) (lk : LOK L) (rq : RQ g Q) (rl : RLr g L) (k22 : g.1 0 22 = nI sz) (oz : OZ g) : ∃ r, f_Md_keepText TR g 0 = some r ∧ RK r Q L (wb Q) ∧ (r.1 0 80 = 0 ∧ r.1 0 78 = 0 ∧ r.1 0 74 = 0 ∧ r.1 0 75 = -1) ∧ r.1 0 16 = nI sz ∧ (∀ s, s = 1 ∨ s = 4 ∨ s = 5 ∨ s = 21 → r.1 0 s = g.1 0 s) ∧ r.1 2 = g.1 2 := by
  have o1 := ok.1
  obtain ⟨h5, e5⟩ : ∃ h5, h5 = pI (pI (pI (pI (pI g 0 12 (g.1 0 17)) 0 13 (g.1 0 18)) 0 14 (g.1 0 19)) 0 15 (g.1 0 20)) 0 16 (g.1 0 22) := ⟨_, rfl⟩
  obtain ⟨r, a1, a2, a3, a4⟩ := cyL_ok pR1 h5 (by simp only [pR1, List.mem_cons, List.not_mem_nil, or_false, forall_eq_or_imp, forall_eq, alR]; decide) (by decide)
  obtain ⟨v, ev⟩ : ∃ v, v = pI (pI (pI r 17 0 (r.1 17 3)) 17 1 (r.1 17 4)) 17 2 (r.1 17 5) := ⟨_, rfl⟩
  obtain ⟨u, b1, b2, b3, b4⟩ := cyL_ok pR2 v (by simp only [pR2, List.mem_cons, List.not_mem_nil, or_false, forall_eq_or_imp, forall_eq, alR]; decide) (by decide)
  have d6 : ∀ d, ¬ d = 0 → h5.1 d = g.1 d := fun d hd => by rw [e5, pI_f hd, pI_f hd, pI_f hd, pI_f hd, pI_f hd]
  have d1 : ∀ d, ¬ (4 ≤ d ∧ d ≤ 16) → r.1 d = h5.1 d := fun d hd => a3 d (by simp only [pR1, List.mem_cons, List.not_mem_nil, or_false, forall_eq_or_imp, forall_eq]; omega)
  have dv : ∀ d, ¬ d = 17 → v.1 d = r.1 d := fun d hd => by rw [ev, pI_f hd, pI_f hd, pI_f hd]
  have d2 : ∀ d, ¬ (18 ≤ d ∧ d ≤ 22) → u.1 d = v.1 d := fun d hd => b3 d (by simp only [pR2, List.mem_cons, List.not_mem_nil, or_false, forall_eq_or_imp, forall_eq]; omega)
  have r17 : r.1 17 = g.1 17 := by rw [d1 17 (by omega), d6 17 (by decide)]
  have bt17 : ∀ q, q < 3 → bit (r.1 17 (3 + q)) = true := fun q hq => by
    rw [r17, (rl q hq).1]
    by_cases c : L.2.1 q < L.2.2 q
    · rw [if_pos c]; decide
    · rw [if_neg c]; decide
  have e : f_Md_keepText TR g 0 = (f_Md_begin TR u 0).bind fun r6 => some r6 := by
    have s1 : ∀ k t i, lp_Md_keepText_158 TR (k + 1) t 0 i = if 3 ≤ i then ((cyL pR2 t).bind fun r5 => (f_Md_begin TR r5 0).bind fun r6 => some r6) else (rI TR t 17 (3 + i)).bind fun x7 => (wZ TR t 17 i x7).bind fun h8 => lp_Md_keepText_158 TR k h8 0 (i + 1) := fun k t i => by
      unfold pR2
      simp only [lp_Md_keepText_158, lyR, nmd_q, cyL, Option.bind_assoc, bnd_q, show nI 3 = 3 from rfl, show nI 64 = 64 from rfl]
    have e1 : f_Md_keepText TR g 0 = (cyL pR1 h5).bind fun r18 => lp_Md_keepText_158 TR fu r18 0 0 := by
      unfold f_Md_keepText pR1
      have p1 : ∀ (v1 : Int32), (pI g 0 12 v1).1 0 18 = g.1 0 18 := fun v1 => by rw [pI_t, if_neg (by decide)]
      have p2 : ∀ (v1 v2 : Int32), (pI (pI g 0 12 v1) 0 13 v2).1 0 19 = g.1 0 19 := fun v1 v2 => by rw [pI_t, if_neg (by decide), pI_t, if_neg (by decide)]
      have p3 : ∀ (v1 v2 v3 : Int32), (pI (pI (pI g 0 12 v1) 0 13 v2) 0 14 v3).1 0 20 = g.1 0 20 := fun v1 v2 v3 => by rw [pI_t, if_neg (by decide), pI_t, if_neg (by decide), pI_t, if_neg (by decide)]
      have p4 : ∀ (v1 v2 v3 v4 : Int32), (pI (pI (pI (pI g 0 12 v1) 0 13 v2) 0 14 v3) 0 15 v4).1 0 22 = g.1 0 22 := fun v1 v2 v3 v4 => by rw [pI_t, if_neg (by decide), pI_t, if_neg (by decide), pI_t, if_neg (by decide), pI_t, if_neg (by decide)]
      simp only [nmd_q, lyR, cyL, Option.bind_assoc, bnd_q, e5, p1, p2, p3, p4, show nI 2 = 2 from rfl, show nI 6 = 6 from rfl, show nI 12 = 12 from rfl]
    obtain ⟨m, hm⟩ : ∃ m, fu = m + 1 + 1 + 1 + 1 := ⟨996, rfl⟩
    have rd : ∀ (t : Hp) (i : Nat), i < 6 → rI TR t 17 (nI i) = some (t.1 17 i) := fun t i hi => rI_ok alL.2.2.2.2.1 hi (by decide)
    have wt : ∀ (t : Hp) (i : Nat) (x : Int32), i < 6 → bit x = true → wZ TR t 17 (nI i) x = some (pI t 17 i x) := fun t i x hi hx => wZ_ok alL.2.2.2.2.1 hi (by decide) hx
    rw [e1, a1, bnd_q, hm, s1, if_neg (show ¬ (3 : Int32) ≤ 0 by decide), show ∀ t, rI TR t 17 (3 + 0) = some (t.1 17 3) from fun t => rd t 3 (by decide), bnd_q, show wZ TR r 17 0 (r.1 17 3) = some (pI r 17 0 (r.1 17 3)) from wt r 0 _ (by decide) (bt17 0 (by decide)), bnd_q, s1, if_neg (show ¬ (3 : Int32) ≤ 0 + 1 by decide), show ∀ t, rI TR t 17 (3 + (0 + 1)) = some (t.1 17 4) from fun t => rd t 4 (by decide), bnd_q, pI_t, if_neg (by decide), show ∀ t, wZ TR t 17 (0 + 1) (r.1 17 4) = some (pI t 17 1 (r.1 17 4)) from fun t => wt t 1 _ (by decide) (bt17 1 (by decide)), bnd_q, s1, if_neg (show ¬ (3 : Int32) ≤ 0 + 1 + 1 by decide), show ∀ t, rI TR t 17 (3 + (0 + 1 + 1)) = some (t.1 17 5) from fun t => rd t 5 (by decide), bnd_q, pI_t, if_neg (by decide), pI_t, if_neg (by decide), show ∀ t, wZ TR t 17 (0 + 1 + 1) (r.1 17 5) = some (pI t 17 2 (r.1 17 5)) from fun t => wt t 2 _ (by decide) (bt17 2 (by decide)), bnd_q, s1, if_pos (show (3 : Int32) ≤ 0 + 1 + 1 + 1 by decide), ← ev, b1, bnd_q]
  have f1 : ∀ p ∈ pR1, ∀ j, j < p.2 → u.1 p.1 j = g.1 p.1 (p.2 + j) := fun p m j hj => by
    have q : p.1 ≤ 16 ∧ ¬ p.1 = 0 := (show ∀ p ∈ pR1, p.1 ≤ 16 ∧ ¬ p.1 = 0 by decide) p m
    rw [d2 _ (by omega), dv _ (by omega), a4 p m j hj, d6 _ q.2]
  have f2 : ∀ p ∈ pR2, ∀ j, j < p.2 → u.1 p.1 j = g.1 p.1 (p.2 + j) := fun p m j hj => by
    have q : 18 ≤ p.1 := (show ∀ p ∈ pR2, 18 ≤ p.1 by decide) p m
    rw [b4 p m j hj, dv _ (by omega), d1 _ (by omega), d6 _ (by omega)]
  have u0 : u.1 0 = h5.1 0 := by rw [d2 0 (by omega), dv 0 (by decide), d1 0 (by omega)]
  have u17 : ∀ q, q < 3 → u.1 17 q = g.1 17 (3 + q) := fun q hq => by
    rw [d2 17 (by omega), ev, ← r17]
    match q, hq with
    | 0, _ => rw [pI_t, if_neg (by decide), pI_t, if_neg (by decide), pI_t, if_pos rfl]
    | 1, _ => rw [pI_t, if_neg (by decide), pI_t, if_pos rfl]
    | 2, _ => rw [pI_t, if_pos rfl]
  obtain ⟨c1, c2, c3, c4⟩ := rq
  have xp : RP u Q := by
    refine ⟨?_, fun t x y => ?_, fun t x y => ?_, fun t x y => ?_⟩
    · rw [u0, f1 (4, 2) (by decide) 0 (by decide), f1 (4, 2) (by decide) 1 (by decide), e5]
      refine ⟨?_, ?_, ?_, ?_, c1.2.2.2.2⟩
      · rw [← c1.1]
        repeat (first | rw [pI_t, if_pos rfl] | rw [pI_t, if_neg (by decide)])
      · rw [← c1.2.1]
        repeat (first | rw [pI_t, if_pos rfl] | rw [pI_t, if_neg (by decide)])
      · rw [← c1.2.2.1]
        repeat (first | rw [pI_t, if_pos rfl] | rw [pI_t, if_neg (by decide)])
      · rw [← c1.2.2.2.1]
        repeat (first | rw [pI_t, if_pos rfl] | rw [pI_t, if_neg (by decide)])
    · have l : ix t < 6 := ix_lt (n := 6) x (by decide) (show t < 6 by lia)
      have i6 : ix (6 + t) = 6 + ix t := ix_6 x (by lia)
      rw [f1 (5, 6) (by decide) _ l, f1 (6, 6) (by decide) _ l, f1 (7, 6) (by decide) _ l, f1 (8, 6) (by decide) _ l]
      have z := c2 t x y
      rw [i6] at z
      exact z
    · have l : ix t < 6 := ix_lt (n := 6) x (by decide) (show t < 6 by lia)
      have i6 : ix (6 + t) = 6 + ix t := ix_6 x (by lia)
      rw [f1 (9, 6) (by decide) _ l, f1 (10, 6) (by decide) _ l, f1 (11, 6) (by decide) _ l, f1 (12, 6) (by decide) _ l, f1 (13, 6) (by decide) _ l]
      have z := c3 t x y
      rw [i6] at z
      exact z
    · have l : ix t < 12 := ix_lt (n := 12) x (by decide) (show t < 12 by lia)
      have i6 : ix (12 + t) = 12 + ix t := ix_12 x (by lia)
      rw [f1 (14, 12) (by decide) _ l, f1 (15, 12) (by decide) _ l, f1 (16, 12) (by decide) _ l]
      have z := c4 t x y
      rw [i6] at z
      exact z
  have xl : RLa u L := by
    intro q hq
    obtain ⟨l1, l2⟩ := rl q hq
    obtain ⟨k1, k2, -⟩ := lk q hq
    refine ⟨by rw [u17 q hq]; exact l1, fun z => ⟨?_, ?_, fun i x y => ?_⟩⟩
    · rw [f2 (18, 3) (by decide) q hq]
      exact (l2 z).1
    · rw [f2 (19, 3) (by decide) q hq]
      exact (l2 z).2.1
    · have i6 : i < 64 := by omega
      rw [f2 (20, 64) (by decide) i i6, f2 (21, 64) (by decide) i i6, f2 (22, 64) (by decide) i i6]
      exact (l2 z).2.2 i x y
  have uz : OZ u := fun s => by
    rw [d2 31 (by omega), dv 31 (by decide), d1 31 (by omega), d6 31 (by decide)]
    exact oz s
  obtain ⟨w, w1, w2, w3, w4, w5⟩ := beR ok xp xl uz
  refine ⟨w, by rw [e, w1, bnd_q], w2, w3, ?_, fun s hs => ?_, ?_⟩
  · rw [w4 16 (by decide), u0, e5, pI_t, if_pos rfl]
    exact k22
  · rw [w4 s (by omega), u0, e5, pI_x (by omega), pI_x (by omega), pI_x (by omega), pI_x (by omega), pI_x (by omega)]
  · rw [w5, d2 2 (by omega), dv 2 (by decide), d1 2 (by omega), d6 2 (by decide)]
