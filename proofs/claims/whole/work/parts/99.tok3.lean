/-! tokens: a whole one -/
/-- digits -/
theorem nuL {h h' : Hp} {n : Int32} {T : Int32 → Int32} (tp : TP h h' n T) {i : Int32} (i0 : 0 ≤ i) (i1 : i ≤ n) {t t' : Hp} (f : FSc h t) (f' : FTo h' t') (e : t.1 22 7 = i) (e' : t'.1 0 7 = i) (nv : NV (t.1 22 2) (t'.1 0 9)) :
    ∃ u u' j, lp_Sc_readNumber_10 TC fu t 22 = some u ∧ lp_Md_token_213 TR fu t' 0 = some u' ∧ FSc h u ∧ FTo h' u' ∧ u.1 22 7 = j ∧ u'.1 0 7 = j ∧ i ≤ j ∧ j ≤ n ∧ u.1 22 0 = t.1 22 0 ∧ u.1 22 1 = t.1 22 1 ∧ u'.1 0 8 = t'.1 0 8 ∧ u'.1 0 10 = t'.1 0 10 ∧ NV (u.1 22 2) (u'.1 0 9) ∧ ((i < n ∧ 48 ≤ T i ∧ T i ≤ 57) → i < j) := by
  have n7 := tp.1.2
  refine loop_fu (N := n) (P := fun m i => i ≤ n → ∀ t t' : Hp, FSc h t → FTo h' t' → t.1 22 7 = i → t'.1 0 7 = i → NV (t.1 22 2) (t'.1 0 9) → ∃ u u' j, lp_Sc_readNumber_10 TC m t 22 = some u ∧ lp_Md_token_213 TR m t' 0 = some u' ∧ FSc h u ∧ FTo h' u' ∧ u.1 22 7 = j ∧ u'.1 0 7 = j ∧ i ≤ j ∧ j ≤ n ∧ u.1 22 0 = t.1 22 0 ∧ u.1 22 1 = t.1 22 1 ∧ u'.1 0 8 = t'.1 0 8 ∧ u'.1 0 10 = t'.1 0 10 ∧ NV (u.1 22 2) (u'.1 0 9) ∧ ((i < n ∧ 48 ≤ T i ∧ T i ≤ 57) → i < j)) (by lia) ?_ ?_ i i0 i1 t t' f f' e e' nv
  · intro m i i0 i1 i2 t t' f f' e e' nv
    have q := tp.mv f f'
    simp only [lp_Sc_readNumber_10, lp_Md_token_213]
    rw [e, e', q.2.2.2.2.1, idR (T := T) q.2.2.2.2.2 n7 i0 (fun z => absurd z (by lia)), if_pos i1, bnd_q, if_neg (show ¬ (i < n ∧ 48 ≤ T i ∧ T i ≤ 57) by lia), if_pos (rfl : (0 : Int32) = 0)]
    exact ⟨t, t', i, rfl, rfl, f, f', e, e', by lia, i2, rfl, rfl, rfl, rfl, nv, fun z => absurd z.1 (by lia)⟩
  · intro m i i0 i1 ih _ t t' f f' e e' nv
    have q := tp.mv f f'
    have i7 : i < 700 := by lia
    obtain ⟨b0, b1, c1, c2⟩ := q.2.1 i i0 i1
    have rg := sb_r (c := 48) (d := 57) b0 b1 (by decide) (by decide)
    simp only [lp_Sc_readNumber_10, lp_Md_token_213]
    unfold jb_Md_token_261
    rw [e, e', q.2.2.2.2.1, idR (T := T) q.2.2.2.2.2 n7 i0 (fun _ => c2), if_neg (show ¬ n ≤ i by lia), bnd_q]
    simp (disch := first | assumption | decide | omega) only [lyC, lyR, rdC, rdR, bnd_q, nmd_q, idC, c1, c2]
    by_cases d : 48 ≤ T i ∧ T i ≤ 57
    · have es : sb (T i) = T i := by
        rcases sb_c b0 b1 with w | w
        · exact w.2
        · exact absurd (rg.mpr d).1 (by lia)
      rw [if_pos (rg.mpr d), if_neg (show ¬ (1 : Int32) = 0 by decide), if_pos (show i < n ∧ 48 ≤ T i ∧ T i ≤ 57 from ⟨i1, d⟩), if_neg (show ¬ (1 : Int32) = 0 by decide), es]
      have nv' := nv.st d.1 d.2
      have r7 : (pI t 22 2 (mnI 1000000 (t.1 22 2 * 10 + T i - 48))).1 22 7 = i := by rw [pI_t, if_neg (by decide)]; exact e
      rw [r7]
      have go : ∀ w : Int32, w = (if t'.1 0 9 ≤ 99999 then 10 * t'.1 0 9 + T i - 48 else t'.1 0 9) → ∃ u u' j, lp_Sc_readNumber_10 TC m (pI (pI t 22 2 (mnI 1000000 (t.1 22 2 * 10 + T i - 48))) 22 7 (i + 1)) 22 = some u ∧ lp_Md_token_213 TR m (pI (pI t' 0 9 w) 0 7 ((pI t' 0 9 w).1 0 7 + 1)) 0 = some u' ∧ FSc h u ∧ FTo h' u' ∧ u.1 22 7 = j ∧ u'.1 0 7 = j ∧ i ≤ j ∧ j ≤ n ∧ u.1 22 0 = t.1 22 0 ∧ u.1 22 1 = t.1 22 1 ∧ u'.1 0 8 = t'.1 0 8 ∧ u'.1 0 10 = t'.1 0 10 ∧ NV (u.1 22 2) (u'.1 0 9) ∧ ((i < n ∧ 48 ≤ T i ∧ T i ≤ 57) → i < j) := fun w ew => by
        have s7 : (pI t' 0 9 w).1 0 7 = i := by rw [pI_t, if_neg (by decide)]; exact e'
        rw [s7]
        obtain ⟨u, u', j, k1, k2, k3, k4, k5, k6, k7, k8, k9, k10, k11, k12, k13, -⟩ := ih (by lia) (pI (pI t 22 2 (mnI 1000000 (t.1 22 2 * 10 + T i - 48))) 22 7 (i + 1)) (pI (pI t' 0 9 w) 0 7 (i + 1)) ((f.wr (by decide)).wr (by decide)) ((f'.wr (by decide)).wr (by decide)) (by rw [pI_t, if_pos rfl]) (by rw [pI_t, if_pos rfl]) (by
          rw [pI_t, if_neg (by decide), pI_t, if_pos rfl, pI_t, if_neg (by decide), pI_t, if_pos rfl, ew]
          exact nv')
        refine ⟨u, u', j, k1, k2, k3, k4, k5, k6, by lia, k8, ?_, ?_, ?_, ?_, k13, fun _ => by lia⟩
        · rw [k9, pI_t, if_neg (by decide), pI_t, if_neg (by decide)]
        · rw [k10, pI_t, if_neg (by decide), pI_t, if_neg (by decide)]
        · rw [k11, pI_t, if_neg (by decide), pI_t, if_neg (by decide)]
        · rw [k12, pI_t, if_neg (by decide), pI_t, if_neg (by decide)]
      by_cases c : t'.1 0 9 ≤ 99999
      · rw [if_pos c]
        exact go _ (by rw [if_pos c])
      · rw [if_neg c]
        exact go _ (by rw [if_neg c])
    · rw [if_neg (fun z => d (rg.mp z)), if_pos (rfl : (0 : Int32) = 0), if_neg (show ¬ (i < n ∧ 48 ≤ T i ∧ T i ≤ 57) from fun z => d z.2), if_pos (rfl : (0 : Int32) = 0)]
      exact ⟨t, t', i, rfl, rfl, f, f', e, e', by lia, by lia, rfl, rfl, rfl, rfl, nv, fun z => absurd z.2 d⟩
/-- what the reference does behind a word -/
def W90 (u : Hp) : Option Hp := (f_Md_wordAt TR u 0 (u.1 0 10) (u.1 0 7)).bind fun r2 => if (pI u 0 9 r2).1 0 9 < 0 then (if (pI u 0 9 r2).1 0 7 - (pI u 0 9 r2).1 0 10 ≤ 6 then jb_Md_token_162 TR (pI u 0 9 r2) 0 0 2 else jb_Md_token_162 TR (pI u 0 9 r2) 0 0 6) else jb_Md_token_162 TR (pI u 0 9 r2) 0 0 1
def mn6 (k : Nat) : Nat := if k ≤ 6 then k else 6
theorem woL {h h' : Hp} {n a : Int32} {T : Int32 → Int32} (tp : TP h h' n T) (a0 : 0 ≤ a) {i : Int32} (ai : a ≤ i) (i1 : i ≤ n) {t t' : Hp} (f : FSc h t) (f' : FTo h' t') (e : t.1 22 7 = i) (e' : t'.1 0 7 = i) (p : t.1 22 1 = a) (p' : t'.1 0 10 = a) (hl : ∀ j, a ≤ j → j < i → 97 ≤ T j ∧ T j ≤ 122) :
    ∃ u u' j, lp_Sc_readWord_2 TC fu t 22 (bk T a (mn6 (ix (i - a)))) = jb_Sc_readWord_74 TC u 22 (bk T a (mn6 (ix (j - a)))) ∧ lp_Md_token_90 TR fu t' 0 = W90 u' ∧ FSc h u ∧ FTo h' u' ∧ u.1 22 7 = j ∧ u'.1 0 7 = j ∧ u.1 22 1 = a ∧ u'.1 0 10 = a ∧ i ≤ j ∧ j ≤ n ∧ (∀ k, a ≤ k → k < j → 97 ≤ T k ∧ T k ≤ 122) ∧ ((i < n ∧ 97 ≤ T i ∧ T i ≤ 122) → i < j) := by
  have n7 := tp.1.2
  refine loop_fu (N := n) (P := fun m i => a ≤ i → i ≤ n → ∀ t t' : Hp, FSc h t → FTo h' t' → t.1 22 7 = i → t'.1 0 7 = i → t.1 22 1 = a → t'.1 0 10 = a → (∀ j, a ≤ j → j < i → 97 ≤ T j ∧ T j ≤ 122) → ∃ u u' j, lp_Sc_readWord_2 TC m t 22 (bk T a (mn6 (ix (i - a)))) = jb_Sc_readWord_74 TC u 22 (bk T a (mn6 (ix (j - a)))) ∧ lp_Md_token_90 TR m t' 0 = W90 u' ∧ FSc h u ∧ FTo h' u' ∧ u.1 22 7 = j ∧ u'.1 0 7 = j ∧ u.1 22 1 = a ∧ u'.1 0 10 = a ∧ i ≤ j ∧ j ≤ n ∧ (∀ k, a ≤ k → k < j → 97 ≤ T k ∧ T k ≤ 122) ∧ ((i < n ∧ 97 ≤ T i ∧ T i ≤ 122) → i < j)) (by lia) ?_ ?_ i (by lia) ai i1 t t' f f' e e' p p' hl
  · intro m i i0 i1 ai i2 t t' f f' e e' p p' hl
    have q := tp.mv f f'
    simp only [lp_Sc_readWord_2, lp_Md_token_90, nmd_q]
    rw [e, q.2.2.2.2.1, if_pos i1]
    refine ⟨t, t', i, rfl, ?_, f, f', e, e', p, p', by lia, i2, hl, fun z => absurd z.1 (by lia)⟩
    unfold W90
    rw [e', ilR (T := T) q.2.2.2.2.2 n7 i0 (fun z => absurd z (by lia)), bnd_q, if_neg (show ¬ (i < n ∧ 97 ≤ T i ∧ T i ≤ 122) by lia), if_pos (rfl : (0 : Int32) = 0)]
  · intro m i i0 i1 ih ai _ t t' f f' e e' p p' hl
    have q := tp.mv f f'
    have i7 : i < 700 := by lia
    obtain ⟨b0, b1, c1, c2⟩ := q.2.1 i i0 i1
    have rg := sb_r (c := 97) (d := 122) b0 b1 (by decide) (by decide)
    simp only [lp_Sc_readWord_2, lp_Md_token_90]
    unfold jb_Sc_readWord_61
    rw [e, e', p, q.2.2.2.2.1, ilR (T := T) q.2.2.2.2.2 n7 i0 (fun _ => c2), if_neg (show ¬ n ≤ i by lia), bnd_q]
    simp (disch := first | assumption | decide | omega) only [lyC, rdC, bnd_q, nmd_q, ilC, c1]
    by_cases d : 97 ≤ T i ∧ T i ≤ 122
    · have es : sb (T i) = T i := by
        rcases sb_c b0 b1 with w | w
        · exact w.2
        · exact absurd (rg.mpr d).1 (by lia)
      rw [if_pos (rg.mpr d), if_neg (show ¬ (1 : Int32) = 0 by decide), if_pos (show i < n ∧ 97 ≤ T i ∧ T i ≤ 122 from ⟨i1, d⟩), if_neg (show ¬ (1 : Int32) = 0 by decide), es]
      have k0 : 0 ≤ i - a := by lia
      have ek : nI (ix (i - a)) = i - a := nI_ix k0
      have ks : ix (i + 1 - a) = ix (i - a) + 1 := by
        rw [show i + 1 - a = i - a + 1 by lia]
        exact ix_s k0 (by lia)
      obtain ⟨u, u', j, g1, g2, g3, g4, g5, g6, g7, g8, g9, g10, g11, -⟩ := ih (by lia) (by lia) (pI t 22 7 (i + 1)) (pI t' 0 7 (i + 1)) (f.wr (by decide)) (f'.wr (by decide)) (by rw [pI_t, if_pos rfl]) (by rw [pI_t, if_pos rfl]) (by rw [pI_t, if_neg (by decide)]; exact p) (by rw [pI_t, if_neg (by decide)]; exact p') (fun j x y => by
        by_cases z : j = i
        · rw [z]
          exact d
        · exact hl j x (by lia))
      refine ⟨u, u', j, ?_, g2, g3, g4, g5, g6, g7, g8, by lia, g10, g11, fun _ => by lia⟩
      rw [← g1, ks]
      by_cases c : 6 ≤ i - a
      · rw [if_pos c]
        have c6 : 6 ≤ ix (i - a) := by
          have := ix_int k0
          have z := Int32.le_iff_toInt_le.mp c
          have z6 : (6 : Int32).toInt = 6 := by decide
          omega
        have e1 : mn6 (ix (i - a)) = 6 := by
          unfold mn6
          split <;> omega
        have e2 : mn6 (ix (i - a) + 1) = 6 := by
          unfold mn6
          split <;> omega
        rw [e1, e2]
      · rw [if_neg c]
        have c6 : ix (i - a) < 6 := ix_lt (n := 6) k0 (by decide) (show i - a < 6 by lia)
        have e1 : mn6 (ix (i - a)) = ix (i - a) := by
          unfold mn6
          split <;> omega
        have e2 : mn6 (ix (i - a) + 1) = ix (i - a) + 1 := by
          unfold mn6
          split <;> omega
        have e3 : bk T a (ix (i - a) + 1) = (bk T a (ix (i - a)) <<< ((5 : Int32) &&& 31)) ||| (T (a + nI (ix (i - a))) - 96) := rfl
        rw [e1, e2, e3, ek, show a + (i - a) = i by lia, show T i - 97 + 1 = T i - 96 by lia]
    · rw [if_neg (fun z => d (rg.mp z)), if_pos (rfl : (0 : Int32) = 0), if_neg (show ¬ (i < n ∧ 97 ≤ T i ∧ T i ≤ 122) from fun z => d z.2), if_pos (rfl : (0 : Int32) = 0)]
      refine ⟨t, t', i, rfl, ?_, f, f', e, e', p, p', by lia, by lia, hl, fun z => absurd z.2 d⟩
      unfold W90
      rw [e']
/-- the end of a word -/
theorem woE {h h' : Hp} {n a j : Int32} {T : Int32 → Int32} (tp : TP h h' n T) (a0 : 0 ≤ a) (aj : a < j) (jn : j ≤ n) {u u' : Hp} (f : FSc h u) (f' : FTo h' u') (e : u.1 22 7 = j) (e' : u'.1 0 7 = j) (p : u.1 22 1 = a) (p' : u'.1 0 10 = a) (hl : ∀ k, a ≤ k → k < j → 97 ≤ T k ∧ T k ≤ 122) : ∃ t t', jb_Sc_readWord_74 TC u 22 (bk T a (mn6 (ix (j - a)))) = some t ∧ W90 u' = some t' ∧ FSc h t ∧ FTo h' t' ∧ TKS t t' n a j := by
  have n7 := tp.1.2
  have q := tp.mv f f'
  have k0 : 0 ≤ j - a := by lia
  have ek : nI (ix (j - a)) = j - a := nI_ix k0
  have m700 : ix (j - a) ≤ 700 := by
    have := ix_lt (n := 701) k0 (by decide) (show j - a < 701 by lia)
    omega
  have m1 : 1 ≤ ix (j - a) := by
    have := ix_int k0
    have z := Int32.le_iff_toInt_le.mp (show (1 : Int32) ≤ j - a by lia)
    have z1 : (1 : Int32).toInt = 1 := by decide
    omega
  have bm : j = a + nI (ix (j - a)) := by rw [ek]; lia
  have hl' : ∀ k, k < ix (j - a) → 97 ≤ T (a + nI k) ∧ T (a + nI k) ≤ 122 := fun k hk => by
    have z := nI_lt (a := k) (b := ix (j - a)) hk (by omega)
    have z0 : 0 ≤ nI k := nI_pos' (by omega)
    rw [ek] at z
    exact hl _ (by lia) (by lia)
  have r9 : ∀ v, (pI u' 0 9 v).1 0 9 = v := fun v => by rw [pI_t, if_pos rfl]
  have r7 : ∀ v, (pI u' 0 9 v).1 0 7 = j := fun v => by rw [pI_t, if_neg (by decide)]; exact e'
  have r10 : ∀ v, (pI u' 0 9 v).1 0 10 = a := fun v => by rw [pI_t, if_neg (by decide)]; exact p'
  have r8 : ∀ v x, (pI (pI u' 0 9 v) 0 8 x).1 0 8 = x := fun v x => by rw [pI_t, if_pos rfl]
  unfold jb_Sc_readWord_74 jb_Sc_readWord_136 W90 jb_Md_token_162
  simp only [nmd_q, lyC]
  rw [e, e', p, p']
  by_cases c : j - a ≤ 6
  · have c6 : ix (j - a) ≤ 6 := by
      have := ix_lt (n := 7) k0 (by decide) (show j - a < 7 by lia)
      omega
    have e1 : mn6 (ix (j - a)) = ix (j - a) := by
      unfold mn6
      split <;> omega
    have bp : bk T a (ix (j - a)) <<< (((5 : Int32) * (6 - (j - a))) &&& 31) = pz T a (ix (j - a)) 6 := by
      have := bk_pz (T := T) (a := a) m1 c6
      rwa [ek] at this
    rw [if_pos c, e1, bp, pI_t, if_pos rfl]
    have q2 : TP (pI u 22 3 (pz T a (ix (j - a)) 6)) u' n T := tp.mv (f.wr (by decide)) f'
    obtain ⟨v, v1, v2, v3, v4⟩ := fnd3 q2 a0 bm (by lia) jn m1 c6 hl'
    rw [v1, v2, bnd_q, bnd_q, r9, r7, r10, if_pos c]
    by_cases d : v = -1
    · have f9 : FTo h' (pI (pI u' 0 9 v) 0 8 2) := (f'.wr (by decide)).wr (by decide)
      have q3 := tp.mv f f9
      have pk := pkR (h := pI (pI u' 0 9 v) 0 8 2) (T := T) (fun k x y => (q3.2.1 k x y).2.2.2) n7 a0 bm (by lia) c6 jn
      have r10 : (pI (pI u' 0 9 v) 0 8 2).1 0 10 = a := by rw [pI_t, if_neg (by decide), pI_t, if_neg (by decide)]; exact p'
      have r7 : (pI (pI u' 0 9 v) 0 8 2).1 0 7 = j := by rw [pI_t, if_neg (by decide), pI_t, if_neg (by decide)]; exact e'
      have r8 : (pI (pI u' 0 9 v) 0 8 2).1 0 8 = 2 := by rw [pI_t, if_pos rfl]
      rw [if_pos d, if_pos (show v < 0 by lia), r8, if_pos (rfl : (2 : Int32) = 2), r10, r7, pk, bnd_q]
      refine ⟨_, _, rfl, rfl, (f.wr (by decide)).wr (by decide), f9.wr (by decide), ?_, ?_, ?_, ?_, a0, by lia, jn, .inr aj, ?_⟩
      · rw [pI_t, if_neg (by decide), pI_t, if_neg (by decide)]
        exact e
      · rw [pI_t, if_neg (by decide)]
        exact r7
      · rw [pI_t, if_neg (by decide), pI_t, if_neg (by decide)]
        exact p
      · rw [pI_t, if_neg (by decide)]
        exact r10
      · refine .inr (.inr (.inr (.inl ⟨?_, ?_, ?_⟩)))
        · rw [pI_t, if_pos rfl]
        · rw [pI_t, if_neg (by decide)]
          exact r8
        · rw [pI_t, if_neg (by decide), pI_t, if_pos rfl, pI_t, if_pos rfl]
    · rw [if_neg d, if_neg (show ¬ v < 0 by lia), r8, if_neg (show ¬ (1 : Int32) = 2 by decide)]
      refine ⟨_, _, rfl, rfl, (f.wr (by decide)).wr (by decide), (f'.wr (by decide)).wr (by decide), ?_, ?_, ?_, ?_, a0, by lia, jn, .inr aj, ?_⟩
      · rw [pI_t, if_neg (by decide), pI_t, if_neg (by decide)]
        exact e
      · rw [pI_t, if_neg (by decide), pI_t, if_neg (by decide)]
        exact e'
      · rw [pI_t, if_neg (by decide), pI_t, if_neg (by decide)]
        exact p
      · rw [pI_t, if_neg (by decide), pI_t, if_neg (by decide)]
        exact p'
      · refine .inr (.inr (.inr (.inr (.inl ⟨?_, ?_, ?_, ?_⟩))))
        · rw [pI_t, if_pos rfl]
          lia
        · rw [pI_t, if_pos rfl]
          lia
        · rw [pI_t, if_pos rfl]
        · rw [pI_t, if_neg (by decide), pI_t, if_pos rfl, pI_t, if_pos rfl]
          lia
  · have c7 : 7 ≤ ix (j - a) := by
      have := ix_int k0
      have z := Int32.le_iff_toInt_le.mp (show (7 : Int32) ≤ j - a by lia)
      have z1 : (7 : Int32).toInt = 7 := by decide
      omega
    rw [if_neg c, fnd4 q a0 bm (by lia) jn c7 m700, bnd_q, r9, r7, r10, if_pos (show (-1 : Int32) < 0 by decide), if_neg c, r8, if_neg (show ¬ (6 : Int32) = 2 by decide)]
    refine ⟨_, _, rfl, rfl, f.wr (by decide), (f'.wr (by decide)).wr (by decide), ?_, ?_, ?_, ?_, a0, by lia, jn, .inr aj, ?_⟩
    · rw [pI_t, if_neg (by decide)]
      exact e
    · rw [pI_t, if_neg (by decide), pI_t, if_neg (by decide)]
      exact e'
    · rw [pI_t, if_neg (by decide)]
      exact p
    · rw [pI_t, if_neg (by decide), pI_t, if_neg (by decide)]
      exact p'
    · refine .inr (.inl ⟨?_, .inl ?_⟩)
      · rw [pI_t, if_pos rfl]
      · rw [pI_t, if_pos rfl]
theorem sgk1 {l s : Int32} (h : ¬ (l = 40 ∨ l = 41 ∨ l = 42 ∨ l = 43 ∨ l = 45 ∨ l = 47 ∨ l = 59 ∨ l = 60 ∨ l = 61 ∨ l = 62)) : sgk l s = 1 := by
  have h40 : ¬ l = 40 := fun z => h (.inl z)
  have h41 : ¬ l = 41 := fun z => h (.inr (.inl z))
  have h42 : ¬ l = 42 := fun z => h (.inr (.inr (.inl z)))
  have h43 : ¬ l = 43 := fun z => h (.inr (.inr (.inr (.inl z))))
  have h45 : ¬ l = 45 := fun z => h (.inr (.inr (.inr (.inr (.inl z)))))
  have h47 : ¬ l = 47 := fun z => h (.inr (.inr (.inr (.inr (.inr (.inl z))))))
  have h59 : ¬ l = 59 := fun z => h (.inr (.inr (.inr (.inr (.inr (.inr (.inl z)))))))
  have h60 : ¬ l = 60 := fun z => h (.inr (.inr (.inr (.inr (.inr (.inr (.inr (.inl z))))))))
  have h61 : ¬ l = 61 := fun z => h (.inr (.inr (.inr (.inr (.inr (.inr (.inr (.inr (.inl z)))))))))
  have h62 : ¬ l = 62 := fun z => h (.inr (.inr (.inr (.inr (.inr (.inr (.inr (.inr (.inr z)))))))))
  unfold sgk
  simp only [if_neg h40, if_neg h41, if_neg h42, if_neg h43, if_neg h45, if_neg h47, if_neg h59, if_neg h60, if_neg h61, if_neg h62, ite_self]
/-- the class's sign -/
theorem siC {h h' : Hp} {n a : Int32} {T : Int32 → Int32} (tp : TP h h' n T) (a0 : 0 ≤ a) (an : a < n) {u : Hp} (f : FSc h u) (e : u.1 22 7 = a) (p : u.1 22 1 = a) (x : Int32) : ∃ t s, f_Sc_readSign TC u 22 x = some t ∧ FSc h t ∧ (s = if a + 1 < n then sb (T (a + 1)) else 0) ∧ t.1 22 0 = sgk x s ∧ t.1 22 1 = a ∧ ((((sgk x s = 34 ∨ sgk x s = 36 ∨ sgk x s = 37)) ∧ t.1 22 7 = a + 2) ∨ (¬ (sgk x s = 34 ∨ sgk x s = 36 ∨ sgk x s = 37) ∧ t.1 22 7 = a + 1)) := by
  have n7 := tp.1.2
  have q := tp.mv (f.wr (s := 7) (v := a + 1) (by decide)) (FTo.rf (h := h'))
  have g7 : (pI u 22 7 (a + 1)).1 22 7 = a + 1 := by rw [pI_t, if_pos rfl]
  have g1 : (pI u 22 7 (a + 1)).1 22 1 = a := by rw [pI_t, if_neg (by decide)]; exact p
  have main : ∀ s, ∃ t, jb_Sc_readSign_34 TC (pI u 22 7 (a + 1)) 22 x s = some t ∧ FSc h t ∧ t.1 22 0 = sgk x s ∧ t.1 22 1 = a ∧ ((((sgk x s = 34 ∨ sgk x s = 36 ∨ sgk x s = 37)) ∧ t.1 22 7 = a + 2) ∨ (¬ (sgk x s = 34 ∨ sgk x s = 36 ∨ sgk x s = 37) ∧ t.1 22 7 = a + 1)) := by
    intro s
    have e0 : (pI (pI u 22 7 (a + 1)) 22 0 (sgk x s)).1 22 0 = sgk x s := by rw [pI_t, if_pos rfl]
    have e7 : (pI (pI u 22 7 (a + 1)) 22 0 (sgk x s)).1 22 7 = a + 1 := by rw [pI_t, if_neg (by decide)]; exact g7
    have e1 : (pI (pI u 22 7 (a + 1)) 22 0 (sgk x s)).1 22 1 = a := by rw [pI_t, if_neg (by decide)]; exact g1
    have ff : FSc h (pI (pI u 22 7 (a + 1)) 22 0 (sgk x s)) := (f.wr (by decide)).wr (by decide)
    rw [sgC, sgC2 e0]
    by_cases c : sgk x s = 34 ∨ sgk x s = 36 ∨ sgk x s = 37
    · rw [if_pos c]
      refine ⟨_, rfl, ff.wr (by decide), ?_, ?_, .inl ⟨c, ?_⟩⟩
      · rw [pI_t, if_neg (by decide)]; exact e0
      · rw [pI_t, if_neg (by decide)]; exact e1
      · rw [pI_t, if_pos rfl, e7]; lia
    · rw [if_neg c]
      exact ⟨_, rfl, ff, e0, e1, .inr ⟨c, e7⟩⟩
  unfold f_Sc_readSign
  simp only [nmd_q, lyC]
  rw [e, g7, q.2.2.2.2.1]
  by_cases c : n ≤ a + 1
  · rw [if_pos c]
    obtain ⟨t, t1, t2, t3, t4, t5⟩ := main 0
    exact ⟨t, 0, t1, t2, by rw [if_neg (by lia)], t3, t4, t5⟩
  · rw [if_neg c]
    have i0 : 0 ≤ a + 1 := by lia
    have i7 : a + 1 < 700 := by lia
    have c1 := (q.2.1 (a + 1) i0 (by lia)).2.2.1
    simp (disch := first | assumption | decide | omega) only [rdC, bnd_q, c1]
    obtain ⟨t, t1, t2, t3, t4, t5⟩ := main (sb (T (a + 1)))
    exact ⟨t, _, t1, t2, by rw [if_pos (by lia)], t3, t4, t5⟩
/-- the reference's sign -/
theorem siR {h h' : Hp} {n a : Int32} {T : Int32 → Int32} (tp : TP h h' n T) (a0 : 0 ≤ a) (an : a < n) {u : Hp} (f : FTo h' u) (e : u.1 0 7 = a) (p : u.1 0 10 = a) : ∃ t s, f_Md_signToken TR u 0 = some t ∧ FTo h' t ∧ (s = if a + 1 < n then T (a + 1) else 0) ∧ t.1 0 10 = a ∧ (((T a = 60 ∨ T a = 62 ∨ T a = 61) ∧ t.1 0 8 = 5 ∧ t.1 0 9 = sgw (T a) s ∧ ((sgd (T a) s ∧ t.1 0 7 = a + 2) ∨ (¬ sgd (T a) s ∧ t.1 0 7 = a + 1))) ∨ (¬ (T a = 60 ∨ T a = 62 ∨ T a = 61) ∧ t.1 0 9 = T a ∧ t.1 0 7 = a + 1 ∧ ((t.1 0 8 = 4 ∧ (T a = 59 ∨ T a = 40 ∨ T a = 41 ∨ T a = 43 ∨ T a = 45 ∨ T a = 42 ∨ T a = 47 ∨ T a = 37)) ∨ (t.1 0 8 = 6 ∧ ¬ (T a = 59 ∨ T a = 40 ∨ T a = 41 ∨ T a = 43 ∨ T a = 45 ∨ T a = 42 ∨ T a = 47 ∨ T a = 37))))) := by
  have n7 := tp.1.2
  have a7 : a < 700 := by lia
  have q0 := tp.mv (FSc.rf (h := h)) f
  have c1 := (q0.2.1 a a0 an).2.2.2
  have f3 : FTo h' (pI (pI u 0 9 (T a)) 0 7 (a + 1)) := (f.wr (by decide)).wr (by decide)
  have q := tp.mv (FSc.rf (h := h)) f3
  have s7 : (pI u 0 9 (T a)).1 0 7 = a := by rw [pI_t, if_neg (by decide)]; exact e
  have g9 : (pI (pI u 0 9 (T a)) 0 7 (a + 1)).1 0 9 = T a := by rw [pI_t, if_neg (by decide), pI_t, if_pos rfl]
  have g7 : (pI (pI u 0 9 (T a)) 0 7 (a + 1)).1 0 7 = a + 1 := by rw [pI_t, if_pos rfl]
  have g10 : (pI (pI u 0 9 (T a)) 0 7 (a + 1)).1 0 10 = a := by rw [pI_t, if_neg (by decide), pI_t, if_neg (by decide)]; exact p
  have rd1 : rI TR u (lay TR 0 0) a = some (T a) := by
    simp (disch := first | assumption | decide | omega) only [lyR, rdR, c1]
  unfold f_Md_signToken
  rw [e, rd1, bnd_q, nmd_q, nmd_q, s7, g9]
  have j50 : (T a = 60 ∨ T a = 62 ∨ T a = 61) → ∃ t s, jb_Md_signToken_50 TR (pI (pI u 0 9 (T a)) 0 7 (a + 1)) 0 = some t ∧ FTo h' t ∧ (s = if a + 1 < n then T (a + 1) else 0) ∧ t.1 0 10 = a ∧ (((T a = 60 ∨ T a = 62 ∨ T a = 61) ∧ t.1 0 8 = 5 ∧ t.1 0 9 = sgw (T a) s ∧ ((sgd (T a) s ∧ t.1 0 7 = a + 2) ∨ (¬ sgd (T a) s ∧ t.1 0 7 = a + 1))) ∨ (¬ (T a = 60 ∨ T a = 62 ∨ T a = 61) ∧ t.1 0 9 = T a ∧ t.1 0 7 = a + 1 ∧ ((t.1 0 8 = 4 ∧ (T a = 59 ∨ T a = 40 ∨ T a = 41 ∨ T a = 43 ∨ T a = 45 ∨ T a = 42 ∨ T a = 47 ∨ T a = 37)) ∨ (t.1 0 8 = 6 ∧ ¬ (T a = 59 ∨ T a = 40 ∨ T a = 41 ∨ T a = 43 ∨ T a = 45 ∨ T a = 42 ∨ T a = 47 ∨ T a = 37))))) := fun hc => by
    unfold jb_Md_signToken_50
    simp only [lyR]
    rw [g7, q.2.2.2.2.2]
    have fin : ∀ s, (s = if a + 1 < n then T (a + 1) else 0) → ∃ t s, jb_Md_signToken_74 TR (pI (pI u 0 9 (T a)) 0 7 (a + 1)) 0 s = some t ∧ FTo h' t ∧ (s = if a + 1 < n then T (a + 1) else 0) ∧ t.1 0 10 = a ∧ ((T a = 60 ∨ T a = 62 ∨ T a = 61) ∧ t.1 0 8 = 5 ∧ t.1 0 9 = sgw (T a) s ∧ ((sgd (T a) s ∧ t.1 0 7 = a + 2) ∨ (¬ sgd (T a) s ∧ t.1 0 7 = a + 1))) := fun s es => by
      obtain ⟨t, t1, t2, t3, t4, t5, t6⟩ := sgR1 (s := s) hc g9
      rw [g7] at t6
      refine ⟨t, s, t1, f3.tr t2, es, by rw [t5]; exact g10, hc, t3, t4, ?_⟩
      rcases t6 with ⟨z1, z2⟩ | ⟨z1, z2⟩
      · exact .inl ⟨z1, by rw [z2]; lia⟩
      · exact .inr ⟨z1, z2⟩
    by_cases c : n ≤ a + 1
    · rw [if_pos c]
      obtain ⟨t, s, t1, t2, t3, t4, t5⟩ := fin 0 (by rw [if_neg (by lia)])
      rw [if_neg (by lia)] at t3
      subst t3
      exact ⟨t, 0, t1, t2, by rw [if_neg (by lia)], t4, .inl t5⟩
    · rw [if_neg c]
      have i0 : 0 ≤ a + 1 := by lia
      have i7 : a + 1 < 700 := by lia
      have c2 := (q.2.1 (a + 1) i0 (by lia)).2.2.2
      simp (disch := first | assumption | decide | omega) only [rdR, bnd_q, c2]
      obtain ⟨t, s, t1, t2, t3, t4, t5⟩ := fin (T (a + 1)) (by rw [if_pos (by lia)])
      rw [if_pos (by lia)] at t3
      subst t3
      exact ⟨t, _, t1, t2, by rw [if_pos (by lia)], t4, .inl t5⟩
  by_cases c60 : T a = 60
  · rw [if_pos c60]
    exact j50 (.inl c60)
  rw [if_neg c60]
  by_cases c62 : T a = 62
  · rw [if_pos c62]
    exact j50 (.inr (.inl c62))
  rw [if_neg c62]
  by_cases c61 : T a = 61
  · rw [if_pos c61]
    exact j50 (.inr (.inr c61))
  rw [if_neg c61]
  clear j50
  have nn : ¬ (T a = 60 ∨ T a = 62 ∨ T a = 61) := fun z => z.elim c60 (fun z => z.elim c62 c61)
  have j4 : (T a = 59 ∨ T a = 40 ∨ T a = 41 ∨ T a = 43 ∨ T a = 45 ∨ T a = 42 ∨ T a = 47 ∨ T a = 37) → ∃ t s, jb_Md_signToken_270 TR (pI (pI u 0 9 (T a)) 0 7 (a + 1)) 0 = some t ∧ FTo h' t ∧ (s = if a + 1 < n then T (a + 1) else 0) ∧ t.1 0 10 = a ∧ (((T a = 60 ∨ T a = 62 ∨ T a = 61) ∧ t.1 0 8 = 5 ∧ t.1 0 9 = sgw (T a) s ∧ ((sgd (T a) s ∧ t.1 0 7 = a + 2) ∨ (¬ sgd (T a) s ∧ t.1 0 7 = a + 1))) ∨ (¬ (T a = 60 ∨ T a = 62 ∨ T a = 61) ∧ t.1 0 9 = T a ∧ t.1 0 7 = a + 1 ∧ ((t.1 0 8 = 4 ∧ (T a = 59 ∨ T a = 40 ∨ T a = 41 ∨ T a = 43 ∨ T a = 45 ∨ T a = 42 ∨ T a = 47 ∨ T a = 37)) ∨ (t.1 0 8 = 6 ∧ ¬ (T a = 59 ∨ T a = 40 ∨ T a = 41 ∨ T a = 43 ∨ T a = 45 ∨ T a = 42 ∨ T a = 47 ∨ T a = 37))))) := fun hc => by
    unfold jb_Md_signToken_270 jb_Md_signToken_275 jb_Md_signToken_287
    simp only [nmd_q]
    rw [if_neg (show ¬ (1 : Int32) = 0 by decide)]
    refine ⟨_, _, rfl, f3.wr (by decide), rfl, ?_, .inr ⟨nn, ?_, ?_, .inl ⟨?_, hc⟩⟩⟩
    · rw [pI_t, if_neg (by decide)]; exact g10
    · rw [pI_t, if_neg (by decide)]; exact g9
    · rw [pI_t, if_neg (by decide)]; exact g7
    · rw [pI_t, if_pos rfl]
  by_cases d1 : T a = 59
  · rw [if_pos d1]
    exact j4 (.inl d1)
  rw [if_neg d1]
  by_cases d2 : T a = 40
  · rw [if_pos d2]
    exact j4 (.inr (.inl d2))
  rw [if_neg d2]
  by_cases d3 : T a = 41
  · rw [if_pos d3]
    exact j4 (.inr (.inr (.inl d3)))
  rw [if_neg d3]
  by_cases d4 : T a = 43
  · rw [if_pos d4]
    exact j4 (.inr (.inr (.inr (.inl d4))))
  rw [if_neg d4]
  by_cases d5 : T a = 45
  · rw [if_pos d5]
    exact j4 (.inr (.inr (.inr (.inr (.inl d5)))))
  rw [if_neg d5]
  by_cases d6 : T a = 42
  · rw [if_pos d6]
    exact j4 (.inr (.inr (.inr (.inr (.inr (.inl d6))))))
  rw [if_neg d6]
  by_cases d7 : T a = 47
  · rw [if_pos d7]
    exact j4 (.inr (.inr (.inr (.inr (.inr (.inr (.inl d7)))))))
  rw [if_neg d7]
  by_cases d8 : T a = 37
  · rw [if_pos d8]
    exact j4 (.inr (.inr (.inr (.inr (.inr (.inr (.inr d8)))))))
  rw [if_neg d8]
  clear j4
  unfold jb_Md_signToken_275 jb_Md_signToken_287
  simp only [nmd_q]
  rw [if_pos trivial]
  refine ⟨_, _, rfl, f3.wr (by decide), rfl, ?_, .inr ⟨nn, ?_, ?_, .inr ⟨?_, fun z => ?_⟩⟩⟩
  · rw [pI_t, if_neg (by decide)]; exact g10
  · rw [pI_t, if_neg (by decide)]; exact g9
  · rw [pI_t, if_neg (by decide)]; exact g7
  · rw [pI_t, if_pos rfl]
  · rcases z with z | z | z | z | z | z | z | z
    · exact d1 z
    · exact d2 z
    · exact d3 z
    · exact d4 z
    · exact d5 z
    · exact d6 z
    · exact d7 z
    · exact d8 z
/-- from a place that isn't blank -/
theorem tok1 {h h' : Hp} {n a : Int32} {T : Int32 → Int32} (tp : TP h h' n T) (a0 : 0 ≤ a) (an : a ≤ n) {u u' : Hp} (f : FSc h u) (f' : FTo h' u') (e : u.1 22 7 = a) (e' : u'.1 0 7 = a) : ∃ t t' j, jb_Sc_step_52 TC u 22 = some t ∧ jb_Md_token_52 TR u' 0 = some t' ∧ FSc h t ∧ FTo h' t' ∧ TKS t t' n a j := by
  have n7 := tp.1.2
  have f1 : FSc h (pI u 22 1 a) := f.wr (by decide)
  have f1' : FTo h' (pI u' 0 10 a) := f'.wr (by decide)
  have q := tp.mv f1 f1'
  have g7 : (pI u 22 1 a).1 22 7 = a := by rw [pI_t, if_neg (by decide)]; exact e
  have g1 : (pI u 22 1 a).1 22 1 = a := by rw [pI_t, if_pos rfl]
  have k7 : (pI u' 0 10 a).1 0 7 = a := by rw [pI_t, if_neg (by decide)]; exact e'
  have k10 : (pI u' 0 10 a).1 0 10 = a := by rw [pI_t, if_pos rfl]
  unfold jb_Sc_step_52 jb_Md_token_52
  simp only [nmd_q]
  rw [e, e', g7, k7, q.2.2.2.2.1, q.2.2.2.2.2]
  by_cases c : a = n
  · rw [if_neg (show ¬ a < n by lia), if_pos c]
    refine ⟨_, _, a, rfl, rfl, f1.wr (by decide), f1'.wr (by decide), ?_, ?_, ?_, ?_, a0, by lia, an, .inl ?_, .inl ⟨?_, ?_⟩⟩
    · rw [pI_t, if_neg (by decide)]; exact g7
    · rw [pI_t, if_neg (by decide)]; exact k7
    · rw [pI_t, if_neg (by decide)]; exact g1
    · rw [pI_t, if_neg (by decide)]; exact k10
    · rw [pI_t, if_pos rfl]
    · rw [pI_t, if_pos rfl]
    · rw [pI_t, if_pos rfl]
  rw [if_pos (show a < n by lia), if_neg c]
  have an' : a < n := by lia
  have a7 : a < 700 := by lia
  obtain ⟨b0, b1, c1, c2⟩ := q.2.1 a a0 an'
  have rdc : rI TC (pI u 22 1 a) (lay TC 22 4) a = some (sb (T a)) := by
    simp (disch := first | assumption | decide | omega) only [lyC, rdC, c1]
  have rl := sb_r (c := 97) (d := 122) b0 b1 (by decide) (by decide)
  have rdg := sb_r (c := 48) (d := 57) b0 b1 (by decide) (by decide)
  rw [rdc, bnd_q, bnd_q, bnd_q, ilC, idC, ilR (T := T) q.2.2.2.2.2 n7 a0 (fun _ => c2), idR (T := T) q.2.2.2.2.2 n7 a0 (fun _ => c2), bnd_q, bnd_q]
  by_cases l : 97 ≤ T a ∧ T a ≤ 122
  · rw [if_pos (rl.mpr l), if_neg (show ¬ (1 : Int32) = 0 by decide), if_pos (show a < n ∧ 97 ≤ T a ∧ T a ≤ 122 from ⟨an', l⟩), if_neg (show ¬ (1 : Int32) = 0 by decide)]
    obtain ⟨v, v', j, p1, p2, p3, p4, p5, p6, p7, p8, p9, p10, p11, p12⟩ := woL tp a0 (i := a) (by lia) an f1 f1' g7 k7 g1 k10 (fun j x y => absurd y (by lia))
    have ez : ix (a - a) = 0 := by
      rw [show a - a = 0 by lia]
      decide
    rw [ez] at p1
    obtain ⟨t, t', w1, w2, w3, w4, w5⟩ := woE tp a0 (p12 ⟨an', l⟩) p10 p3 p4 p5 p6 p7 p8 p11
    unfold f_Sc_readWord
    have p1' : lp_Sc_readWord_2 TC fu (pI u 22 1 a) 22 0 = jb_Sc_readWord_74 TC v 22 (bk T a (mn6 (ix (j - a)))) := p1
    rw [p1', w1, bnd_q, p2, w2]
    exact ⟨t, t', j, rfl, rfl, w3, w4, w5⟩
  rw [if_neg (fun z => l (rl.mp z)), if_pos (rfl : (0 : Int32) = 0), if_neg (show ¬ (a < n ∧ 97 ≤ T a ∧ T a ≤ 122) from fun z => l z.2), if_pos (rfl : (0 : Int32) = 0)]
  by_cases d : 48 ≤ T a ∧ T a ≤ 57
  · rw [if_pos (rdg.mpr d), if_neg (show ¬ (1 : Int32) = 0 by decide), if_pos (show a < n ∧ 48 ≤ T a ∧ T a ≤ 57 from ⟨an', d⟩), if_neg (show ¬ (1 : Int32) = 0 by decide)]
    unfold f_Sc_readNumber
    simp only [nmd_q]
    obtain ⟨v, v', j, p1, p2, p3, p4, p5, p6, p7, p8, p9, p10, p11, p12, p13, p14⟩ := nuL tp a0 an (t := pI (pI (pI u 22 1 a) 22 0 2) 22 2 0) (t' := pI (pI (pI u' 0 10 a) 0 8 3) 0 9 0) ((f1.wr (by decide)).wr (by decide)) ((f1'.wr (by decide)).wr (by decide)) (by rw [pI_t, if_neg (by decide), pI_t, if_neg (by decide)]; exact g7) (by rw [pI_t, if_neg (by decide), pI_t, if_neg (by decide)]; exact k7) (by
      rw [pI_t, if_pos rfl, pI_t, if_pos rfl]
      exact .inl ⟨rfl, by decide, by decide⟩)
    rw [p1, p2, bnd_q]
    refine ⟨v, v', j, rfl, rfl, p3, p4, p5, p6, ?_, ?_, a0, p7, p8, .inr (p14 ⟨an', d⟩), .inr (.inr (.inl ⟨?_, ?_, p13⟩))⟩
    · rw [p10, pI_t, if_neg (by decide), pI_t, if_neg (by decide)]
      exact g1
    · rw [p12, pI_t, if_neg (by decide), pI_t, if_neg (by decide)]
      exact k10
    · rw [p9, pI_t, if_neg (by decide), pI_t, if_pos rfl]
    · rw [p11, pI_t, if_neg (by decide), pI_t, if_pos rfl]
  rw [if_neg (fun z => d (rdg.mp z)), if_pos (rfl : (0 : Int32) = 0), if_neg (show ¬ (a < n ∧ 48 ≤ T a ∧ T a ≤ 57) from fun z => d z.2), if_pos (rfl : (0 : Int32) = 0)]
  obtain ⟨t, s, p1, p2, p3, p4, p5, p6⟩ := siC tp a0 an' f1 g7 g1 (sb (T a))
  obtain ⟨t', s', r1, r2, r3, r4, r5⟩ := siR tp a0 an' f1' k7 k10
  rw [p1, r1, bnd_q, bnd_q]
  have s61 : s = 61 ↔ s' = 61 := by
    rw [p3, r3]
    by_cases z : a + 1 < n
    · rw [if_pos z, if_pos z]
      obtain ⟨x0, x1, -, -⟩ := q.2.1 (a + 1) (by lia) z
      exact sb_i x0 x1 (by decide) (by decide)
    · rw [if_neg z, if_neg z]
  have s62 : s = 62 ↔ s' = 62 := by
    rw [p3, r3]
    by_cases z : a + 1 < n
    · rw [if_pos z, if_pos z]
      obtain ⟨x0, x1, -, -⟩ := q.2.1 (a + 1) (by lia) z
      exact sb_i x0 x1 (by decide) (by decide)
    · rw [if_neg z, if_neg z]
  have s61n : s = 61 ∨ s = 62 → a + 1 < n := fun w => by
    rw [p3] at w
    by_cases z : a + 1 < n
    · exact z
    · rw [if_neg z] at w
      rcases w with w | w <;> exact absurd w (by decide)
  have fin : ∀ k w : Int32, sgk (sb (T a)) s = k → (k = 34 ∨ k = 36 ∨ k = 37 → a + 1 < n) → (((k = 34 ∨ k = 36 ∨ k = 37) ∧ t'.1 0 7 = a + 2) ∨ (¬ (k = 34 ∨ k = 36 ∨ k = 37) ∧ t'.1 0 7 = a + 1)) → TKR k (t.1 22 2) (t.1 22 3) (t'.1 0 8) (t'.1 0 9) → ∃ x x' j, some t = some x ∧ some t' = some x' ∧ FSc h x ∧ FTo h' x' ∧ TKS x x' n a j := by
    intro k w ek en e7 tk
    rw [ek] at p4 p6
    rcases e7 with ⟨z1, z2⟩ | ⟨z1, z2⟩
    · have z3 := p6.resolve_right (fun y => y.1 z1)
      exact ⟨t, t', a + 2, rfl, rfl, p2, r2, z3.2, z2, p5, r4, a0, by lia, by have := en z1; lia, .inr (by lia), by rw [p4]; exact tk⟩
    · have z3 := p6.resolve_left (fun y => z1 y.1)
      exact ⟨t, t', a + 1, rfl, rfl, p2, r2, z3.2, z2, p5, r4, a0, by lia, by lia, .inr (by lia), by rw [p4]; exact tk⟩
  have sbe : T a < 128 → sb (T a) = T a := fun z => by
    rcases sb_c b0 b1 with w | w
    · exact w.2
    · exact absurd z (by lia)
  rcases r5 with ⟨y1, y2, y3, y4⟩ | ⟨y1, y2, y3, y4⟩
  · rcases y1 with y1 | y1 | y1
    · have eb : sb (T a) = 60 := by rw [sbe (by lia)]; exact y1
      rw [y1] at y3 y4
      by_cases z1 : s = 61
      · refine fin 34 0 (by rw [eb, z1]; decide) (fun _ => s61n (.inl z1)) ?_ ?_
        · exact .inl ⟨.inl rfl, (y4.resolve_right (fun w => w.1 (.inl ⟨rfl, .inl (s61.mp z1)⟩))).2⟩
        · refine .inr (.inr (.inr (.inr (.inr (.inr ⟨by decide, by decide, y2, ?_⟩)))))
          rw [y3, s61.mp z1]
          decide
      by_cases z2 : s = 62
      · refine fin 36 0 (by rw [eb, z2]; decide) (fun _ => s61n (.inr z2)) ?_ ?_
        · exact .inl ⟨.inr (.inl rfl), (y4.resolve_right (fun w => w.1 (.inl ⟨rfl, .inr (s62.mp z2)⟩))).2⟩
        · refine .inr (.inr (.inr (.inr (.inr (.inr ⟨by decide, by decide, y2, ?_⟩)))))
          rw [y3, s62.mp z2]
          decide
      have n1 : ¬ s' = 61 := fun w => z1 (s61.mpr w)
      have n2 : ¬ s' = 62 := fun w => z2 (s62.mpr w)
      refine fin 33 0 ?_ (fun w => absurd w (by decide)) ?_ ?_
      · rw [eb]
        show (if s = 61 then (34 : Int32) else if s = 62 then 36 else 33) = 33
        rw [if_neg z1, if_neg z2]
      · exact .inr ⟨by decide, (y4.resolve_left (fun w => by
          rcases w.1 with w | w
          · exact w.2.elim n1 n2
          · exact absurd w.1 (by decide))).2⟩
      · refine .inr (.inr (.inr (.inr (.inr (.inr ⟨by decide, by decide, y2, ?_⟩)))))
        rw [y3]
        show (if s' = 61 then (1 : Int32) else if s' = 62 then 3 else 0) = 33 - 33
        rw [if_neg n1, if_neg n2]
        decide
    · have eb : sb (T a) = 62 := by rw [sbe (by lia)]; exact y1
      rw [y1] at y3 y4
      by_cases z1 : s = 61
      · refine fin 37 0 (by rw [eb, z1]; decide) (fun _ => s61n (.inl z1)) ?_ ?_
        · exact .inl ⟨.inr (.inr rfl), (y4.resolve_right (fun w => w.1 (.inr ⟨rfl, s61.mp z1⟩))).2⟩
        · refine .inr (.inr (.inr (.inr (.inr (.inr ⟨by decide, by decide, y2, ?_⟩)))))
          rw [y3, s61.mp z1]
          decide
      have n1 : ¬ s' = 61 := fun w => z1 (s61.mpr w)
      refine fin 38 0 ?_ (fun w => absurd w (by decide)) ?_ ?_
      · rw [eb]
        show (if s = 61 then (37 : Int32) else 38) = 38
        rw [if_neg z1]
      · exact .inr ⟨by decide, (y4.resolve_left (fun w => by
          rcases w.1 with w | w
          · exact absurd w.1 (by decide)
          · exact n1 w.2)).2⟩
      · refine .inr (.inr (.inr (.inr (.inr (.inr ⟨by decide, by decide, y2, ?_⟩)))))
        rw [y3]
        show (if s' = 61 then (4 : Int32) else 5) = 38 - 33
        rw [if_neg n1]
        decide
    · have eb : sb (T a) = 61 := by rw [sbe (by lia)]; exact y1
      rw [y1] at y3 y4
      refine fin 35 0 (by rw [eb]; rfl) (fun w => absurd w (by decide)) ?_ ?_
      · exact .inr ⟨by decide, (y4.resolve_left (fun w => by
          rcases w.1 with w | w
          · exact absurd w.1 (by decide)
          · exact absurd w.1 (by decide))).2⟩
      · exact .inr (.inr (.inr (.inr (.inr (.inr ⟨by decide, by decide, y2, by rw [y3]; rfl⟩)))))
  · have one : ∀ k c : Int32, T a = c → c < 128 → (∀ s, sgk c s = k) → ¬ (k = 34 ∨ k = 36 ∨ k = 37) → TKR k (t.1 22 2) (t.1 22 3) (t'.1 0 8) c → ∃ x x' j, some t = some x ∧ some t' = some x' ∧ FSc h x ∧ FTo h' x' ∧ TKS x x' n a j := fun k c ec c8 ks nk tk => fin k 0 (by rw [sbe (by lia), ec]; exact ks s) (fun w => absurd w nk) (.inr ⟨nk, y3⟩) (by rw [y2, ec]; exact tk)
    rcases y4 with ⟨w1, w2⟩ | ⟨w1, w2⟩
    · rcases w2 with w | w | w | w | w | w | w | w
      · exact one 30 59 w (by decide) (fun _ => rfl) (by decide) (.inr (.inr (.inr (.inr (.inr (.inl ⟨w1, .inl ⟨rfl, rfl⟩⟩))))))
      · exact one 31 40 w (by decide) (fun _ => rfl) (by decide) (.inr (.inr (.inr (.inr (.inr (.inl ⟨w1, .inr (.inl ⟨rfl, rfl⟩)⟩))))))
      · exact one 32 41 w (by decide) (fun _ => rfl) (by decide) (.inr (.inr (.inr (.inr (.inr (.inl ⟨w1, .inr (.inr (.inl ⟨rfl, rfl⟩))⟩))))))
      · exact one 39 43 w (by decide) (fun _ => rfl) (by decide) (.inr (.inr (.inr (.inr (.inr (.inl ⟨w1, .inr (.inr (.inr (.inl ⟨rfl, rfl⟩)))⟩))))))
      · exact one 40 45 w (by decide) (fun _ => rfl) (by decide) (.inr (.inr (.inr (.inr (.inr (.inl ⟨w1, .inr (.inr (.inr (.inr (.inl ⟨rfl, rfl⟩))))⟩))))))
      · exact one 41 42 w (by decide) (fun _ => rfl) (by decide) (.inr (.inr (.inr (.inr (.inr (.inl ⟨w1, .inr (.inr (.inr (.inr (.inr (.inl ⟨rfl, rfl⟩)))))⟩))))))
      · exact one 42 47 w (by decide) (fun _ => rfl) (by decide) (.inr (.inr (.inr (.inr (.inr (.inl ⟨w1, .inr (.inr (.inr (.inr (.inr (.inr ⟨rfl, rfl⟩)))))⟩))))))
      · exact one 1 37 w (by decide) (fun _ => rfl) (by decide) (.inr (.inl ⟨rfl, .inr ⟨w1, rfl⟩⟩))
    · refine fin 1 0 (sgk1 ?_) (fun w => absurd w (by decide)) (.inr ⟨by decide, y3⟩) (.inr (.inl ⟨rfl, .inl w1⟩))
      have st : ∀ c : Int32, 0 ≤ c → c < 128 → ¬ T a = c → ¬ sb (T a) = c := fun c x y z w => z ((sb_i b0 b1 x y).mp w)
      intro z
      rcases z with z | z | z | z | z | z | z | z | z | z
      · exact st 40 (by decide) (by decide) (fun w => w2 (.inr (.inl w))) z
      · exact st 41 (by decide) (by decide) (fun w => w2 (.inr (.inr (.inl w)))) z
      · exact st 42 (by decide) (by decide) (fun w => w2 (.inr (.inr (.inr (.inr (.inr (.inl w))))))) z
      · exact st 43 (by decide) (by decide) (fun w => w2 (.inr (.inr (.inr (.inl w))))) z
      · exact st 45 (by decide) (by decide) (fun w => w2 (.inr (.inr (.inr (.inr (.inl w)))))) z
      · exact st 47 (by decide) (by decide) (fun w => w2 (.inr (.inr (.inr (.inr (.inr (.inr (.inl w)))))))) z
      · exact st 59 (by decide) (by decide) (fun w => w2 (.inl w)) z
      · exact st 60 (by decide) (by decide) (fun w => y1 (.inl w)) z
      · exact st 61 (by decide) (by decide) (fun w => y1 (.inr (.inr w))) z
      · exact st 62 (by decide) (by decide) (fun w => y1 (.inr (.inl w))) z
/-- a token, on both sides -/
theorem tok {h h' : Hp} {n i : Int32} {T : Int32 → Int32} (tp : TP h h' n T) (i0 : 0 ≤ i) (i1 : i ≤ n) (e : h.1 22 7 = i) (e' : h'.1 0 7 = i) : ∃ t t' a j, f_Sc_step TC h 22 = some t ∧ f_Md_token TR h' 0 = some t' ∧ FSc h t ∧ FTo h' t' ∧ TKS t t' n a j ∧ i ≤ a := by
  have n7 := tp.1.2
  unfold f_Sc_step f_Md_token
  refine loop_fu (N := n) (P := fun m i => i ≤ n → ∀ u u' : Hp, FSc h u → FTo h' u' → u.1 22 7 = i → u'.1 0 7 = i → ∃ t t' a j, lp_Sc_step_0 TC m u 22 = some t ∧ lp_Md_token_0 TR m u' 0 = some t' ∧ FSc h t ∧ FTo h' t' ∧ TKS t t' n a j ∧ i ≤ a) (by lia) ?_ ?_ i i0 i1 h h' FSc.rf FTo.rf e e'
  · intro m i i0 i1 i2 u u' f f' e e'
    have q := tp.mv f f'
    obtain ⟨t, t', j, p1, p2, p3, p4, p5⟩ := tok1 tp i0 i2 f f' e e'
    simp only [lp_Sc_step_0, lp_Md_token_0]
    rw [e, e', q.2.2.2.2.1, q.2.2.2.2.2, if_pos i1, if_pos i1]
    exact ⟨t, t', i, j, p1, p2, p3, p4, p5, by lia⟩
  · intro m i i0 i1 ih _ u u' f f' e e'
    have q := tp.mv f f'
    have i7 : i < 700 := by lia
    obtain ⟨b0, b1, c1, c2⟩ := q.2.1 i i0 i1
    obtain ⟨t, t', j, p1, p2, p3, p4, p5⟩ := tok1 tp i0 (by lia) f f' e e'
    have x10 := sb_i (c := 10) b0 b1 (by decide) (by decide)
    have x32 := sb_i (c := 32) b0 b1 (by decide) (by decide)
    have go : ∃ t t' a j, lp_Sc_step_0 TC m (pI u 22 7 (i + 1)) 22 = some t ∧ lp_Md_token_0 TR m (pI u' 0 7 (i + 1)) 0 = some t' ∧ FSc h t ∧ FTo h' t' ∧ TKS t t' n a j ∧ i ≤ a := by
      obtain ⟨t, t', a, j, w1, w2, w3, w4, w5, w6⟩ := ih (by lia) (pI u 22 7 (i + 1)) (pI u' 0 7 (i + 1)) (f.wr (by decide)) (f'.wr (by decide)) (by rw [pI_t, if_pos rfl]) (by rw [pI_t, if_pos rfl])
      exact ⟨t, t', a, j, w1, w2, w3, w4, w5, by lia⟩
    have rc : rI TC u (lay TC 22 4) i = some (sb (T i)) := by
      simp (disch := first | assumption | decide | omega) only [lyC, rdC, c1]
    have rr : rI TR u' (lay TR 0 0) i = some (T i) := by
      simp (disch := first | assumption | decide | omega) only [lyR, rdR, c2]
    simp only [lp_Sc_step_0, lp_Md_token_0]
    unfold jb_Sc_step_39 jb_Md_token_39
    simp only [nmd_q]
    rw [e, e', q.2.2.2.2.1, q.2.2.2.2.2, if_neg (show ¬ n ≤ i by lia), if_neg (show ¬ n ≤ i by lia), rc, rr, bnd_q, bnd_q, bnd_q, bnd_q]
    by_cases z1 : T i = 10
    · rw [if_pos (x10.mpr z1), if_pos z1]
      exact go
    rw [if_neg (fun w => z1 (x10.mp w)), if_neg z1]
    by_cases z2 : T i = 32
    · rw [if_pos (x32.mpr z2), if_pos z2]
      exact go
    · rw [if_neg (fun w => z2 (x32.mp w)), if_neg z2]
      exact ⟨t, t', i, j, p1, p2, p3, p4, p5, by lia⟩
