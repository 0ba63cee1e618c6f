/-! the fewest of a set: a search; covers of the road -/
def cn (s : Int32) : Int32 := f_In_bitCount TC h00 s
theorem bcH {h : Hp} {s : Int32} : f_In_bitCount TC h s = cn s := Eq.trans rfl rfl
theorem moH {h : Hp} : ∀ (n : Nat) (a b c : Int32), lp_Md_manyOf_4 TR n h a b c = lp_Md_manyOf_4 TR n h00 a b c := by
  intro n
  induction n with
  | zero => intro a b c; rfl
  | succ n ih =>
    intro a b c
    simp only [lp_Md_manyOf_4, ih]
theorem mo0 : ∀ a : Fin 64, lp_Md_manyOf_4 TR fu h00 (nI a.1) 0 0 = some (cn (nI a.1)) ∧ 0 ≤ cn (nI a.1) := by decide +kernel
theorem moR {h : Hp} {s : Int32} (s0 : 0 ≤ s) (s1 : s < 64) : f_Md_manyOf TR h s = some (cn s) := by
  obtain ⟨x, rfl⟩ := fin_i32 (n := 64) s0 (by decide) s1
  unfold f_Md_manyOf
  rw [moH]
  exact (mo0 x).1
theorem cn0 {s : Int32} (s0 : 0 ≤ s) (s1 : s < 64) : 0 ≤ cn s := by
  obtain ⟨x, rfl⟩ := fin_i32 (n := 64) s0 (by decide) s1
  exact (mo0 x).2
theorem cnT0 : ∀ (t : Fin 7) (a : Fin 64), nI a.1 < (1 : Int32) <<< (nI t.1 &&& 31) → cn (nI a.1) ≤ nI t.1 := by decide +kernel
theorem shN0 : ∀ t : Fin 7, 0 ≤ (1 : Int32) <<< (nI t.1 &&& 31) ∧ (1 : Int32) <<< (nI t.1 &&& 31) ≤ 64 := by decide +kernel
theorem shN {t : Int32} (t0 : 0 ≤ t) (t6 : t ≤ 6) : 0 ≤ (1 : Int32) <<< (t &&& 31) ∧ (1 : Int32) <<< (t &&& 31) ≤ 64 := by
  obtain ⟨x, rfl⟩ := fin_i32 (n := 7) t0 (by decide) (show t < 7 by lia)
  exact shN0 x
theorem cnT {t s : Int32} (t0 : 0 ≤ t) (t6 : t ≤ 6) (s0 : 0 ≤ s) (s1 : s < (1 : Int32) <<< (t &&& 31)) : cn s ≤ t := by
  have := (shN t0 t6).2
  obtain ⟨x, rfl⟩ := fin_i32 (n := 7) t0 (by decide) (show t < 7 by lia)
  obtain ⟨y, rfl⟩ := fin_i32 (n := 64) s0 (by decide) (show s < 64 by lia)
  exact cnT0 x y s1
theorem isO0 : ∀ (s : Fin 64) (t : Fin 6), (if ((nI s.1 >>> (nI t.1 &&& 31)) &&& 1) = 1 then (1 : Int32) else 0) = bt (nI s.1) (nI t.1) := by decide +kernel
theorem isO {h : Hp} {s t : Int32} (s0 : 0 ≤ s) (s1 : s < 64) (t0 : 0 ≤ t) (t1 : t < 6) : f_Md_isOf TR h s t = bt s t := by
  obtain ⟨x, rfl⟩ := fin_i32 (n := 64) s0 (by decide) s1
  obtain ⟨y, rfl⟩ := fin_i32 (n := 6) t0 (by decide) t1
  exact isO0 x y
/-- the class's search: by how many, then by the number -/
theorem srch {S R C : Type} {T N : Int32} (Q : R → Prop) (app : C → S → Int32 → R) (lp28 : C → Nat → S → Int32 → Int32 → R) (lp15 : Nat → C) (I : Int32 → Int32 → S → Prop) (T0 : 0 ≤ T) (T6 : T ≤ 6) (N0 : 0 ≤ N) (N6 : N ≤ 64)
    (e15 : ∀ n s, I (T + 1) 0 s → Q (app (lp15 (n + 1)) s (T + 1)))
    (h15 : ∀ n s k, 0 ≤ k → k ≤ T → I k 0 s → app (lp15 (n + 1)) s k = lp28 (lp15 n) fu s k 0)
    (e28 : ∀ c n s k, 0 ≤ k → k ≤ T → I k N s → lp28 c (n + 1) s k N = app c s (k + 1) ∧ I (k + 1) 0 s)
    (h28 : ∀ c n s k b, 0 ≤ k → k ≤ T → 0 ≤ b → b < N → I k b s → Q (lp28 c (n + 1) s k b) ∨ ∃ s', lp28 c (n + 1) s k b = lp28 c n s' k (b + 1) ∧ I k (b + 1) s') : ∀ s, I 0 0 s → Q (app (lp15 fu) s 0) := by
  have inner : ∀ c k, 0 ≤ k → k ≤ T → (∀ s, I (k + 1) 0 s → Q (app c s (k + 1))) → ∀ s, I k 0 s → Q (lp28 c fu s k 0) := by
    intro c k k0 k1 hc s hI
    refine loop_fu (P := fun n b => b ≤ N → ∀ s, I k b s → Q (lp28 c n s k b)) (N := N) (by lia) ?_ ?_ 0 (by decide) N0 s hI
    · intro n b b0 b1 b2 s hI
      have e : b = N := by lia
      subst e
      obtain ⟨e1, e2⟩ := e28 c n s k k0 k1 hI
      rw [e1]
      exact hc s e2
    · intro n b b0 b1 ih _ s hI
      rcases h28 c n s k b k0 k1 b0 b1 hI with q | ⟨s', e1, e2⟩
      · exact q
      · rw [e1]
        exact ih (by lia) s' e2
  intro s hI
  refine loop_fu (P := fun n k => k ≤ T + 1 → ∀ s, I k 0 s → Q (app (lp15 n) s k)) (N := T + 1) (by lia) ?_ ?_ 0 (by decide) (by lia) s hI
  · intro n k k0 k1 k2 s hI
    have e : k = T + 1 := by lia
    rw [e] at hI ⊢
    exact e15 n s hI
  · intro n k k0 k1 ih _ s hI
    rw [h15 n s k k0 (by lia) hI]
    exact inner (lp15 n) k k0 (by lia) (fun s' hs => ih (by lia) s' hs) s hI
/-- the reference's search: one by one -/
theorem srchR {S R : Type} {N : Int32} (Q : R → Prop) (lp : Nat → S → Int32 → Int32 → R) (I : Int32 → Int32 → S → Prop) (N0 : 0 ≤ N) (N6 : N ≤ 64) (hend : ∀ n s r, I N r s → Q (lp (n + 1) s r N)) (hstep : ∀ n s r b, 0 ≤ b → b < N → I b r s → ∃ s' r', lp (n + 1) s r b = lp n s' r' (b + 1) ∧ I (b + 1) r' s') : ∀ s r, I 0 r s → Q (lp fu s r 0) := by
  intro s r hI
  refine loop_fu (P := fun n b => b ≤ N → ∀ s r, I b r s → Q (lp n s r b)) (N := N) (by lia) ?_ ?_ 0 (by decide) N0 s r hI
  · intro n b b0 b1 b2 s r hI
    have e : b = N := by lia
    subst e
    exact hend n s r hI
  · intro n b b0 b1 ih _ s r hI
    obtain ⟨s', r', e1, e2⟩ := hstep n s r b b0 b1 hI
    rw [e1]
    exact ih (by lia) s' r' e2
/-- the fewest, of several the least -/
def SRs (p : Int32 → Prop) (N r : Int32) : Prop := (r = -2 ∧ ∀ s, 0 ≤ s → s < N → ¬ p s) ∨ (0 ≤ r ∧ r < N ∧ p r ∧ ∀ s, 0 ≤ s → s < N → p s → cn r < cn s ∨ (cn r = cn s ∧ r ≤ s))
theorem SRs.eq {p : Int32 → Prop} {N r r' : Int32} (a : SRs p N r) (b : SRs p N r') : r = r' := by
  rcases a with ⟨a1, a2⟩ | ⟨a1, a2, a3, a4⟩
  · rcases b with ⟨b1, b2⟩ | ⟨b1, b2, b3, b4⟩
    · rw [a1, b1]
    · exact absurd b3 (a2 _ b1 b2)
  · rcases b with ⟨b1, b2⟩ | ⟨b1, b2, b3, b4⟩
    · exact absurd a3 (b2 _ a1 a2)
    · have u := a4 _ b1 b2 b3
      have v := b4 _ a1 a2 a3
      clear a4 b4 a3 b3
      lia
theorem SRs.no {p : Int32 → Prop} {b r : Int32} (a : SRs p b r) (b0 : 0 ≤ b) (b6 : b < 64) (h : ¬ p b ∨ (0 ≤ r ∧ cn r ≤ cn b)) : SRs p (b + 1) r := by
  rcases a with ⟨a1, a2⟩ | ⟨a1, a2, a3, a4⟩
  · refine .inl ⟨a1, fun s s0 s1 => ?_⟩
    by_cases z : s = b
    · subst z
      rcases h with h | h
      · exact h
      · exact absurd h.1 (by rw [a1]; decide)
    · exact a2 s s0 (by lia)
  · refine .inr ⟨a1, by lia, a3, fun s s0 s1 ps => ?_⟩
    by_cases z : s = b
    · subst z
      rcases h with h | h
      · exact absurd ps h
      · have := h.2
        clear a4
        by_cases w : cn r = cn s
        · exact .inr ⟨w, by lia⟩
        · exact .inl (by lia)
    · exact a4 s s0 (by lia) ps
theorem SRs.yes {p : Int32 → Prop} {b r : Int32} (a : SRs p b r) (b0 : 0 ≤ b) (b6 : b < 64) (h : p b) (hh : r < 0 ∨ cn b < cn r) : SRs p (b + 1) b := by
  refine .inr ⟨b0, by lia, h, fun s s0 s1 ps => ?_⟩
  by_cases z : s = b
  · subst z
    exact .inr ⟨rfl, by lia⟩
  · rcases a with ⟨a1, a2⟩ | ⟨a1, a2, a3, a4⟩
    · exact absurd ps (a2 s s0 (by lia))
    · have u := a4 s s0 (by lia) ps
      have v := hh.resolve_left (by lia)
      clear a4
      exact .inl (by lia)
def ICs (p : Int32 → Prop) (N k b : Int32) : Prop := (∀ s, 0 ≤ s → s < N → cn s < k → ¬ p s) ∧ ∀ s, 0 ≤ s → s < b → cn s = k → ¬ p s
theorem ICs.i {p : Int32 → Prop} {N : Int32} (N6 : N ≤ 64) : ICs p N 0 0 := ⟨fun s s0 s1 s2 => absurd s2 (by have := cn0 (s := s) s0 (by lia); lia), fun s s0 s1 => absurd s1 (by lia)⟩
theorem ICs.st {p : Int32 → Prop} {N k b : Int32} (x : ICs p N k b) (b0 : 0 ≤ b) (b6 : b < 64) (h : cn b = k → ¬ p b) : ICs p N k (b + 1) := ⟨x.1, fun s s0 s1 s2 => by
  by_cases z : s = b
  · subst z
    exact h s2
  · exact x.2 s s0 (by lia) s2⟩
theorem ICs.nx {p : Int32 → Prop} {N k : Int32} (x : ICs p N k N) (k0 : 0 ≤ k) (k6 : k ≤ 6) : ICs p N (k + 1) 0 := ⟨fun s s0 s1 s2 => by
  by_cases z : cn s = k
  · exact x.2 s s0 s1 z
  · exact x.1 s s0 s1 (by lia), fun s s0 s1 => absurd s1 (by lia)⟩
theorem ICs.got {p : Int32 → Prop} {N k b : Int32} (x : ICs p N k b) (b0 : 0 ≤ b) (b1 : b < N) (e : cn b = k) (h : p b) : SRs p N b := by
  refine .inr ⟨b0, b1, h, fun s s0 s1 ps => ?_⟩
  have u : ¬ cn s < k := fun z => x.1 s s0 s1 z ps
  have v : s < b → ¬ cn s = k := fun z w => x.2 s s0 z w ps
  clear x
  by_cases w : cn s = k
  · exact .inr ⟨by rw [e, w], by have := fun z => v z w; lia⟩
  · exact .inl (by lia)
theorem ICs.fin {p : Int32 → Prop} {T N : Int32} (x : ICs p N (T + 1) 0) (T0 : 0 ≤ T) (T6 : T ≤ 6) (e : N = (1 : Int32) <<< (T &&& 31)) : SRs p N (-2) := .inl ⟨rfl, fun s s0 s1 => x.1 s s0 s1 (by have := cnT (t := T) (s := s) T0 T6 s0 (by rw [← e]; exact s1); lia)⟩
theorem cov2 {hC h1 : Hp} {P : Pl} {L : Lw} {M : Mo} {w : Nat} {A : Aw} {s n : Int32} (ok : POK P) (xh : CH hC P L M w A) (rp : RP h1 P) (s0 : 0 ≤ s) (s1 : s < 64) (n0 : 1 ≤ n) : ∃ v, f_Cn_covers TC hC 90 s n = some v ∧ f_Md_isCovered TR h1 0 s n = some v := by
  have o1 := ok.1
  have e15 := rp.1.2.2.2.1
  have e0 := xh.1.1.1
  unfold f_Cn_covers f_Md_isCovered
  have st : lp_Cn_covers_5 TC fu hC 90 s n 0 0 = lp_Cn_covers_5 TC 999 hC 90 s n 0 1 := by
    rw [show fu = 999 + 1 from rfl, lp_Cn_covers_5]
    unfold jb_Cn_covers_55 jb_Cn_covers_68
    simp only [lyC]
    rw [e0, thC xh (p := 0) (by decide) (by decide), bnd_q, if_neg (show ¬ P 0 0 < 0 by lia), if_neg (show ¬ (0 : Int32) = P 0 0 by lia)]
    simp only [nmd_q]
    rw [if_pos (show (0 : Int32) - 0 ≤ n by lia)]
    by_cases c : P 5 0 = -1
    · rw [if_pos c]
      rfl
    · rw [if_neg c]
      by_cases d : s &&& ((1 : Int32) <<< (P 5 0 &&& 31)) = 0
      · rw [if_pos d]
        rfl
      · rw [if_neg d]
        rfl
  rw [st]
  refine lockG (S := Int32) (S' := Int32) (N := P 0 0 + 1) (lp := fun m i z => lp_Cn_covers_5 TC m hC 90 s n z i) (lp' := fun m i z => lp_Md_isCovered_5 TR m h1 0 s n z i) (fun a b => ∃ v, a = some v ∧ b = some v) (fun _ s s' => s = s') (by lia) (by lia) ?_ ?_ 999 1 (by decide) 1 (by decide) (by lia) 0 0 rfl
  · intro m m' z z' e
    subst e
    simp only [lp_Cn_covers_5, lp_Md_isCovered_5, lyC]
    rw [e0, e15, if_pos (by lia), if_pos (by lia)]
    exact ⟨_, rfl, rfl⟩
  · intro m m' i z z' i0 i1 e
    subst e
    simp only [lp_Cn_covers_5, lp_Md_isCovered_5]
    unfold jb_Cn_covers_55 jb_Cn_covers_68 jb_Md_isCovered_48 jb_Md_isCovered_61
    simp only [lyC, nmd_q]
    rw [e0, e15, thC xh i0 (by lia), ftR ok rp i0 (by lia), bnd_q, bnd_q, if_neg (show ¬ P 0 0 < i by lia), if_neg (show ¬ P 0 0 < i by lia)]
    have fin : (∃ v, (if i - z ≤ n then lp_Cn_covers_5 TC m hC 90 s n i (i + 1) else some 0) = some v ∧ (if i - z ≤ n then lp_Md_isCovered_5 TR m' h1 0 s n i (i + 1) else some 0) = some v) ∨ ∃ t t', (if i - z ≤ n then lp_Cn_covers_5 TC m hC 90 s n i (i + 1) else some 0) = lp_Cn_covers_5 TC m hC 90 s n t (i + 1) ∧ (if i - z ≤ n then lp_Md_isCovered_5 TR m' h1 0 s n i (i + 1) else some 0) = lp_Md_isCovered_5 TR m' h1 0 s n t' (i + 1) ∧ t = t' := by
      by_cases c : i - z ≤ n
      · rw [if_pos c, if_pos c]
        exact .inr ⟨i, i, rfl, rfl, rfl⟩
      · rw [if_neg c, if_neg c]
        exact .inl ⟨0, rfl, rfl⟩
    by_cases c : i = P 0 0
    · rw [if_pos c, if_pos (show P 0 0 ≤ i by lia)]
      exact fin
    rw [if_neg c, if_neg (show ¬ P 0 0 ≤ i by lia)]
    rcases ok.2.2.1 i i0 (by lia) with d | ⟨d0, d1, d2⟩
    · rw [if_pos d, if_pos (show P 5 i < 0 by rw [d]; decide)]
      exact .inr ⟨z, z, rfl, rfl, rfl⟩
    rw [if_neg (show ¬ P 5 i = -1 by lia), if_neg (show ¬ P 5 i < 0 by lia), isO s0 s1 d0 (by lia)]
    unfold bt
    by_cases d : s &&& ((1 : Int32) <<< (P 5 i &&& 31)) = 0
    · rw [if_pos d, if_pos d, if_pos (rfl : (0 : Int32) = 0)]
      exact .inr ⟨z, z, rfl, rfl, rfl⟩
    · rw [if_neg d, if_neg d, if_neg (show ¬ (1 : Int32) = 0 by decide)]
      exact fin
theorem sp_cover : SP_cover Rl := by
  intro hC hR a1 hr
  obtain ⟨P, L, A, B, X, U, p, x, y⟩ := hr
  have ok := p.1
  have o1 := ok.1
  have lk := p.2.1
  have wo := p.2.2.1
  have g := x.1.h.g
  simp only [Nat.reduceAdd] at g
  have xh := x.1.h
  have y1 := y.th (v := 0) ok
  have k := y1.1.g
  have sx := x.2.2.1
  have sr := y1.2.2.1
  refine q_of p x y1 ?_
  have rp := y1.1.1
  have e12 := k.1.1
  have g3 := g.1.2.2.2.1
  unfold f_Tt_cover f_Md_cover
  simp only [nmd_q, isIn_e]
  generalize pI hR 0 2 0 = h1 at y1 k sr rp e12 ⊢
  by_cases q : 1 ≤ a1 ∧ a1 ≤ 60
  case neg =>
    rw [if_neg q, if_pos (rfl : (0 : Int32) = 0)]
    by_cases c : a1 < 1
    · rw [if_pos c]
      exact ⟨_, rfl, rfl⟩
    · rw [if_neg c, if_neg (by lia)]
      exact ⟨_, rfl, rfl⟩
  rw [if_pos q, if_neg (show ¬ (1 : Int32) = 0 by decide), if_neg (show ¬ a1 < 1 by lia), if_pos q.2]
  have T0 : 0 ≤ P 0 3 := by lia
  have T6 : P 0 3 ≤ 6 := by lia
  obtain ⟨N0, N6⟩ := shN T0 T6
  obtain ⟨V, cv⟩ : ∃ V : Int32 → Int32, ∀ s, 0 ≤ s → s < 64 → f_Cn_covers TC hC 90 s a1 = some (V s) ∧ f_Md_isCovered TR h1 0 s a1 = some (V s) := ⟨fun s => (f_Cn_covers TC hC 90 s a1).getD 0, fun s s0 s1 => by
    obtain ⟨v, e1, e2⟩ := cov2 (n := a1) ok xh rp s0 s1 q.1
    simp only [e1, e2]
    exact ⟨rfl, rfl⟩⟩
  obtain ⟨r, e1, r1⟩ := srch (S := Unit) (R := Option Int32) (C := Hp → Nat → Int32 → Int32 → Option Int32) (T := P 0 3) (N := (1 : Int32) <<< (P 0 3 &&& 31)) (fun o => ∃ r, o = some r ∧ SRs (fun s => ¬ V s = 0) ((1 : Int32) <<< (P 0 3 &&& 31)) r) (fun c _ k => c hC 0 a1 k) (fun c n _ k b => lp_Tt_cover_28 TC c n hC 0 a1 k b) (fun n => lp_Tt_cover_15 TC n) (fun k b _ => ICs (fun s => ¬ V s = 0) ((1 : Int32) <<< (P 0 3 &&& 31)) k b) T0 T6 N0 N6
    (fun n _ I => by
      simp only [lp_Tt_cover_15, lyC]
      rw [g3, if_pos (by lia)]
      exact ⟨_, rfl, I.fin T0 T6 rfl⟩)
    (fun n _ k k0 k1 _ => by
      simp only [lp_Tt_cover_15, lyC]
      rw [g3, if_neg (by lia)])
    (fun c n _ k k0 k1 I => by
      simp only [lp_Tt_cover_28, lyC, nmd_q]
      rw [g3, if_pos (by lia)]
      exact ⟨rfl, I.nx k0 (by lia)⟩)
    (fun c n _ k b k0 k1 b0 b1 I => by
      simp only [lp_Tt_cover_28, lyC, nmd_q]
      unfold jb_Tt_cover_63
      simp only [nmd_q]
      rw [g3, if_neg (by lia), bcH]
      by_cases z : cn b = k
      · rw [if_pos z, (cv b b0 (by lia)).1, bnd_q]
        by_cases z2 : V b = 0
        · rw [if_pos z2]
          exact .inr ⟨(), rfl, I.st b0 (by lia) (fun _ h => h z2)⟩
        · rw [if_neg z2]
          exact .inl ⟨_, rfl, I.got b0 b1 z z2⟩
      · rw [if_neg z]
        exact .inr ⟨(), rfl, I.st b0 (by lia) (fun h => absurd h z)⟩) () (ICs.i N6)
  obtain ⟨r', e2, r2⟩ := srchR (S := Unit) (R := Option (Int32 × Hp)) (N := (1 : Int32) <<< (P 0 3 &&& 31)) (fun o => ∃ r, o = some (r, h1) ∧ SRs (fun s => ¬ V s = 0) ((1 : Int32) <<< (P 0 3 &&& 31)) r) (fun n _ r b => lp_Md_cover_22 TR n h1 0 a1 r b) (fun b r _ => SRs (fun s => ¬ V s = 0) b r) N0 N6
    (fun n _ r I => by
      simp only [lp_Md_cover_22]
      rw [e12, if_pos (by lia)]
      exact ⟨_, rfl, I⟩)
    (fun n _ r b b0 b1 I => by
      simp only [lp_Md_cover_22]
      unfold jb_Md_cover_47 jb_Md_cover_58
      simp only [nmd_q]
      rw [e12, if_neg (by lia), (cv b b0 (by lia)).2, bnd_q]
      by_cases z : r < 0
      · rw [if_pos z]
        by_cases z2 : V b = 0
        · rw [if_pos z2]
          exact ⟨(), r, rfl, I.no b0 (by lia) (.inl (fun h => h z2))⟩
        · rw [if_neg z2]
          exact ⟨(), b, rfl, I.yes b0 (by lia) z2 (.inl z)⟩
      · have rb : r < b := by
          rcases I with I | I
          · exact absurd (show r < 0 by rw [I.1]; decide) z
          · exact I.2.1
        rw [if_neg z, moR b0 (by lia), moR (by lia) (by lia), bnd_q, bnd_q]
        by_cases z3 : cn r ≤ cn b
        · rw [if_pos z3]
          exact ⟨(), r, rfl, I.no b0 (by lia) (.inr ⟨by lia, z3⟩)⟩
        · rw [if_neg z3]
          by_cases z2 : V b = 0
          · rw [if_pos z2]
            exact ⟨(), r, rfl, I.no b0 (by lia) (.inl (fun h => h z2))⟩
          · rw [if_neg z2]
            exact ⟨(), b, rfl, I.yes b0 (by lia) z2 (.inr (by lia))⟩) () (-2) (.inl ⟨rfl, fun s s0 s1 => absurd s1 (by lia)⟩)
  rw [r1.eq r2] at e1
  exact ⟨r', e1, e2⟩
