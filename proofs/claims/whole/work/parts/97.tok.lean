/-! one token, on both sides -/
def sb (b : Int32) : Int32 := b.toInt8.toInt32
theorem sb0 : ∀ b : Fin 256, (nI b.1 < 128 ∧ sb (nI b.1) = nI b.1) ∨ (128 ≤ nI b.1 ∧ sb (nI b.1) < 0) := by decide +kernel
theorem sb_c {b : Int32} (b0 : 0 ≤ b) (b1 : b ≤ 255) : (b < 128 ∧ sb b = b) ∨ (128 ≤ b ∧ sb b < 0) := by
  obtain ⟨x, rfl⟩ := fin_i32 (n := 256) b0 (by decide) (show b < 256 by lia)
  exact sb0 x
theorem sb_i {b c : Int32} (b0 : 0 ≤ b) (b1 : b ≤ 255) (c0 : 0 ≤ c) (c1 : c < 128) : sb b = c ↔ b = c := by
  rcases sb_c b0 b1 with ⟨h, e⟩ | ⟨h, e⟩
  · rw [e]
  · constructor
    · intro z
      rw [z] at e
      lia
    · intro z
      lia
theorem sb_r {b c d : Int32} (b0 : 0 ≤ b) (b1 : b ≤ 255) (c0 : 0 ≤ c) (d1 : d < 128) : (c ≤ sb b ∧ sb b ≤ d) ↔ (c ≤ b ∧ b ≤ d) := by
  rcases sb_c b0 b1 with ⟨h, e⟩ | ⟨h, e⟩
  · rw [e]
  · constructor <;> (intro z; lia)
/-- the tape's first n bytes and the words, on both sides -/
def TP (h h' : Hp) (n : Int32) (T : Int32 → Int32) : Prop := (0 ≤ n ∧ n ≤ 700) ∧ (∀ j, 0 ≤ j → j < n → 0 ≤ T j ∧ T j ≤ 255 ∧ h.1 1 (ix j) = sb (T j) ∧ h'.1 1 (ix j) = T j) ∧ (∀ j, j < 20 → h.1 23 j = wdC j) ∧ (∀ j, j < 99 → h'.1 2 j = wdR j) ∧ h.1 22 6 = n ∧ h'.1 0 6 = n
/-- what a token may write -/
def FSc (h t : Hp) : Prop := t.2 = h.2 ∧ ∀ c s, ¬ (c = 22 ∧ (s ≤ 3 ∨ s = 7)) → t.1 c s = h.1 c s
def FTo (h t : Hp) : Prop := t.2 = h.2 ∧ ∀ c s, ¬ (c = 0 ∧ 7 ≤ s ∧ s ≤ 10) → t.1 c s = h.1 c s
theorem FSc.rf {h : Hp} : FSc h h := ⟨rfl, fun _ _ _ => rfl⟩
theorem FTo.rf {h : Hp} : FTo h h := ⟨rfl, fun _ _ _ => rfl⟩
theorem FSc.tr {a b c : Hp} (x : FSc a b) (y : FSc b c) : FSc a c := ⟨y.1.trans x.1, fun d s q => (y.2 d s q).trans (x.2 d s q)⟩
theorem FTo.tr {a b c : Hp} (x : FTo a b) (y : FTo b c) : FTo a c := ⟨y.1.trans x.1, fun d s q => (y.2 d s q).trans (x.2 d s q)⟩
theorem FSc.wr {h t : Hp} {s : Nat} {v : Int32} (x : FSc h t) (q : s ≤ 3 ∨ s = 7) : FSc h (pI t 22 s v) := ⟨by rw [pI_l]; exact x.1, fun d j z => by rw [pI_x (by omega)]; exact x.2 d j z⟩
theorem FTo.wr {h t : Hp} {s : Nat} {v : Int32} (x : FTo h t) (q : 7 ≤ s ∧ s ≤ 10) : FTo h (pI t 0 s v) := ⟨by rw [pI_l]; exact x.1, fun d j z => by rw [pI_x (by omega)]; exact x.2 d j z⟩
theorem TP.mv {h h' t t' : Hp} {n : Int32} {T : Int32 → Int32} (x : TP h h' n T) (f : FSc h t) (f' : FTo h' t') : TP t t' n T := by
  obtain ⟨x1, x2, x3, x4, x5, x6⟩ := x
  refine ⟨x1, fun j a b => ?_, fun j a => ?_, fun j a => ?_, ?_, ?_⟩
  · rw [f.2 1 _ (by omega), f'.2 1 _ (by omega)]
    exact x2 j a b
  · rw [f.2 23 _ (by omega)]
    exact x3 j a
  · rw [f'.2 2 _ (by omega)]
    exact x4 j a
  · rw [f.2 22 6 (by omega)]
    exact x5
  · rw [f'.2 0 6 (by omega)]
    exact x6
theorem ilC {h : Hp} {x : Int32} : f_Sc_isLetter TC h x = if 97 ≤ x ∧ x ≤ 122 then 1 else 0 := by
  unfold f_Sc_isLetter
  split
  · rw [if_neg (by lia)]
  split
  · rw [if_neg (by lia)]
  · rw [if_pos (by lia)]
theorem idC {h : Hp} {x : Int32} : f_Sc_isDigit TC h x = if 48 ≤ x ∧ x ≤ 57 then 1 else 0 := by
  unfold f_Sc_isDigit
  split
  · rw [if_neg (by lia)]
  split
  · rw [if_neg (by lia)]
  · rw [if_pos (by lia)]
theorem ilR {h : Hp} {n i : Int32} {T : Int32 → Int32} (e6 : h.1 0 6 = n) (n7 : n ≤ 700) (i0 : 0 ≤ i) (e1 : i < n → h.1 1 (ix i) = T i) : f_Md_isSmall TR h 0 i = some (if i < n ∧ 97 ≤ T i ∧ T i ≤ 122 then 1 else 0) := by
  unfold f_Md_isSmall
  rw [e6]
  by_cases c : n ≤ i
  · rw [if_pos c, if_neg (by lia)]
  rw [if_neg c]
  have i7 : i < 700 := by lia
  simp (disch := first | assumption | decide | omega) only [lyR, rdR, bnd_q]
  rw [e1 (by lia)]
  split
  · rw [if_neg (by lia)]
  split
  · rw [if_neg (by lia)]
  · rw [if_pos (by lia)]
theorem idR {h : Hp} {n i : Int32} {T : Int32 → Int32} (e6 : h.1 0 6 = n) (n7 : n ≤ 700) (i0 : 0 ≤ i) (e1 : i < n → h.1 1 (ix i) = T i) : f_Md_isDigit TR h 0 i = some (if i < n ∧ 48 ≤ T i ∧ T i ≤ 57 then 1 else 0) := by
  unfold f_Md_isDigit
  rw [e6]
  by_cases c : n ≤ i
  · rw [if_pos c, if_neg (by lia)]
  rw [if_neg c]
  have i7 : i < 700 := by lia
  simp (disch := first | assumption | decide | omega) only [lyR, rdR, bnd_q]
  rw [e1 (by lia)]
  split
  · rw [if_neg (by lia)]
  split
  · rw [if_neg (by lia)]
  · rw [if_pos (by lia)]
/-- a number as far as either side follows it -/
def NV (v w : Int32) : Prop := (v = w ∧ 0 ≤ v ∧ v ≤ 99999) ∨ (99999 < v ∧ v ≤ 1000000 ∧ 99999 < w ∧ w ≤ 999999)
theorem NV.st {v w d : Int32} (x : NV v w) (d0 : 48 ≤ d) (d9 : d ≤ 57) : NV (mnI 1000000 (v * 10 + d - 48)) (if w ≤ 99999 then 10 * w + d - 48 else w) := by
  unfold NV mnI at *
  rcases x with ⟨rfl, x0, x1⟩ | ⟨x0, x1, x2, x3⟩
  · rw [if_pos x1]
    have e : v * 10 + d - 48 = 10 * v + d - 48 := by lia
    rw [e, if_pos (by lia)]
    by_cases c : 10 * v + d - 48 ≤ 99999
    · exact .inl ⟨rfl, by lia, c⟩
    · exact .inr ⟨by lia, by lia, by lia, by lia⟩
  · rw [if_neg (by lia), if_neg (by lia)]
    exact .inr ⟨by decide, by decide, x2, x3⟩
/-- the kind and what goes with it, on both sides -/
def SGN (ck rw_ : Int32) : Prop := (ck = 30 ∧ rw_ = 59) ∨ (ck = 31 ∧ rw_ = 40) ∨ (ck = 32 ∧ rw_ = 41) ∨ (ck = 39 ∧ rw_ = 43) ∨ (ck = 40 ∧ rw_ = 45) ∨ (ck = 41 ∧ rw_ = 42) ∨ (ck = 42 ∧ rw_ = 47)
def TKR (ck cv cl rk rw_ : Int32) : Prop :=
  (ck = 0 ∧ rk = 0) ∨ (ck = 1 ∧ (rk = 6 ∨ (rk = 4 ∧ rw_ = 37))) ∨ (ck = 2 ∧ rk = 3 ∧ NV cv rw_) ∨ (ck = 3 ∧ rk = 2 ∧ cl = rw_) ∨ (10 ≤ ck ∧ ck ≤ 29 ∧ rk = 1 ∧ rw_ = ck - 10) ∨ (rk = 4 ∧ SGN ck rw_) ∨ (33 ≤ ck ∧ ck ≤ 38 ∧ rk = 5 ∧ rw_ = ck - 33)
def TKS (t t' : Hp) (n a j : Int32) : Prop := t.1 22 7 = j ∧ t'.1 0 7 = j ∧ t.1 22 1 = a ∧ t'.1 0 10 = a ∧ 0 ≤ a ∧ a ≤ j ∧ j ≤ n ∧ (t.1 22 0 = 0 ∨ a < j) ∧ TKR (t.1 22 0) (t.1 22 2) (t.1 22 3) (t'.1 0 8) (t'.1 0 9)
/-- the kind of a sign -/
def sgk (l s : Int32) : Int32 := if l = 40 then 31 else if l = 41 then 32 else if l = 42 then 41 else if l = 43 then 39 else if l = 44 then 1 else if l = 45 then 40 else if l = 46 then 1 else if l = 47 then 42 else if l = 48 then 1 else if l = 49 then 1 else if l = 50 then 1 else if l = 51 then 1 else if l = 52 then 1 else if l = 53 then 1 else if l = 54 then 1 else if l = 55 then 1 else if l = 56 then 1 else if l = 57 then 1 else if l = 58 then 1 else if l = 59 then 30 else if l = 60 then (if s = 61 then 34 else if s = 62 then 36 else 33) else if l = 61 then 35 else if l = 62 then (if s = 61 then 37 else 38) else 1
theorem sgC {h : Hp} {l s : Int32} : jb_Sc_readSign_34 TC h 22 l s = jb_Sc_readSign_272 TC (pI h 22 0 (sgk l s)) 22 := by
  unfold jb_Sc_readSign_34 jb_Sc_readSign_241 jb_Sc_readSign_261 sgk
  simp only [nmd_q]
  by_cases e40 : l = 40
  · rw [if_pos e40, if_pos e40]
  rw [if_neg e40, if_neg e40]
  by_cases e41 : l = 41
  · rw [if_pos e41, if_pos e41]
  rw [if_neg e41, if_neg e41]
  by_cases e42 : l = 42
  · rw [if_pos e42, if_pos e42]
  rw [if_neg e42, if_neg e42]
  by_cases e43 : l = 43
  · rw [if_pos e43, if_pos e43]
  rw [if_neg e43, if_neg e43]
  by_cases e44 : l = 44
  · rw [if_pos e44, if_pos e44]
  rw [if_neg e44, if_neg e44]
  by_cases e45 : l = 45
  · rw [if_pos e45, if_pos e45]
  rw [if_neg e45, if_neg e45]
  by_cases e46 : l = 46
  · rw [if_pos e46, if_pos e46]
  rw [if_neg e46, if_neg e46]
  by_cases e47 : l = 47
  · rw [if_pos e47, if_pos e47]
  rw [if_neg e47, if_neg e47]
  by_cases e48 : l = 48
  · rw [if_pos e48, if_pos e48]
  rw [if_neg e48, if_neg e48]
  by_cases e49 : l = 49
  · rw [if_pos e49, if_pos e49]
  rw [if_neg e49, if_neg e49]
  by_cases e50 : l = 50
  · rw [if_pos e50, if_pos e50]
  rw [if_neg e50, if_neg e50]
  by_cases e51 : l = 51
  · rw [if_pos e51, if_pos e51]
  rw [if_neg e51, if_neg e51]
  by_cases e52 : l = 52
  · rw [if_pos e52, if_pos e52]
  rw [if_neg e52, if_neg e52]
  by_cases e53 : l = 53
  · rw [if_pos e53, if_pos e53]
  rw [if_neg e53, if_neg e53]
  by_cases e54 : l = 54
  · rw [if_pos e54, if_pos e54]
  rw [if_neg e54, if_neg e54]
  by_cases e55 : l = 55
  · rw [if_pos e55, if_pos e55]
  rw [if_neg e55, if_neg e55]
  by_cases e56 : l = 56
  · rw [if_pos e56, if_pos e56]
  rw [if_neg e56, if_neg e56]
  by_cases e57 : l = 57
  · rw [if_pos e57, if_pos e57]
  rw [if_neg e57, if_neg e57]
  by_cases e58 : l = 58
  · rw [if_pos e58, if_pos e58]
  rw [if_neg e58, if_neg e58]
  by_cases e59 : l = 59
  · rw [if_pos e59, if_pos e59]
  rw [if_neg e59, if_neg e59]
  by_cases e60 : l = 60
  · rw [if_pos e60, if_pos e60]
    by_cases s61 : s = 61
    · rw [if_pos s61, if_pos s61]
    rw [if_neg s61, if_neg s61]
    by_cases s62 : s = 62
    · rw [if_pos s62, if_pos s62]
    · rw [if_neg s62, if_neg s62]
  rw [if_neg e60, if_neg e60]
  by_cases e61 : l = 61
  · rw [if_pos e61, if_pos e61]
  rw [if_neg e61, if_neg e61]
  by_cases e62 : l = 62
  · rw [if_pos e62, if_pos e62]
    by_cases s61 : s = 61
    · rw [if_pos s61, if_pos s61]
    · rw [if_neg s61, if_neg s61]
  · rw [if_neg e62, if_neg e62]
theorem sgC2 {h : Hp} {k : Int32} (e : h.1 22 0 = k) : jb_Sc_readSign_272 TC h 22 = some (if k = 34 ∨ k = 36 ∨ k = 37 then pI h 22 7 (h.1 22 7 + 1) else h) := by
  unfold jb_Sc_readSign_272 jb_Sc_readSign_299
  simp only [nmd_q]
  rw [e]
  by_cases c1 : k = 34
  · rw [if_pos c1, if_pos (.inl c1)]
  rw [if_neg c1]
  by_cases c2 : k = 36
  · rw [if_pos c2, if_pos (.inr (.inl c2))]
  rw [if_neg c2]
  by_cases c3 : k = 37
  · rw [if_pos c3, if_pos (.inr (.inr c3))]
  · rw [if_neg c3, if_neg (fun z => z.elim c1 (fun z => z.elim c2 c3))]
/-- the reference's sign: kind, which, whether of two letters -/
def sgw (c s : Int32) : Int32 := if c = 60 then (if s = 61 then 1 else if s = 62 then 3 else 0) else if c = 62 then (if s = 61 then 4 else 5) else 2
def sgd (c s : Int32) : Prop := (c = 60 ∧ (s = 61 ∨ s = 62)) ∨ (c = 62 ∧ s = 61)
theorem sgR1 {h : Hp} {c s : Int32} (hc : c = 60 ∨ c = 62 ∨ c = 61) (e9 : h.1 0 9 = c) : ∃ u, jb_Md_signToken_74 TR h 0 s = some u ∧ FTo h u ∧ u.1 0 8 = 5 ∧ u.1 0 9 = sgw c s ∧ u.1 0 10 = h.1 0 10 ∧ ((sgd c s ∧ u.1 0 7 = h.1 0 7 + 1) ∨ (¬ sgd c s ∧ u.1 0 7 = h.1 0 7)) := by
  have k135 : ∀ (l2 l3 w : Int32) (g : Hp), FTo h g → g.1 0 9 = c → g.1 0 10 = h.1 0 10 → (w = if c = 61 then 2 else if c = 60 then (if l2 = 0 then (if l3 = 0 then 0 else 3) else 1) else (if l2 = 0 then 5 else 4)) → ∃ u, jb_Md_signToken_135 TR g 0 l2 l3 = some u ∧ FTo h u ∧ u.1 0 8 = 5 ∧ u.1 0 9 = w ∧ u.1 0 10 = h.1 0 10 ∧ u.1 0 7 = g.1 0 7 := by
    intro l2 l3 w g f g9 g10 ew
    have r9 : (pI g 0 8 5).1 0 9 = c := by rw [pI_t, if_neg (by decide)]; exact g9
    have fin : ∃ u, jb_Md_signToken_192 TR (pI g 0 8 5) 0 w = some u ∧ FTo h u ∧ u.1 0 8 = 5 ∧ u.1 0 9 = w ∧ u.1 0 10 = h.1 0 10 ∧ u.1 0 7 = g.1 0 7 := by
      refine ⟨_, rfl, (f.wr (by decide)).wr (by decide), ?_, ?_, ?_, ?_⟩
      · rw [pI_t, if_neg (by decide), pI_t, if_pos rfl]
      · rw [pI_t, if_pos rfl]
      · rw [pI_t, if_neg (by decide), pI_t, if_neg (by decide)]
        exact g10
      · rw [pI_t, if_neg (by decide), pI_t, if_neg (by decide)]
    unfold jb_Md_signToken_135
    simp only [nmd_q]
    rw [r9]
    by_cases c1 : c = 61
    · rw [if_pos c1] at ew ⊢
      subst ew
      exact fin
    rw [if_neg c1] at ew ⊢
    by_cases c2 : c = 60
    · rw [if_pos c2] at ew ⊢
      by_cases c3 : l2 = 0
      · rw [if_pos c3] at ew ⊢
        by_cases c4 : l3 = 0
        · rw [if_pos c4] at ew ⊢
          subst ew
          exact fin
        · rw [if_neg c4] at ew ⊢
          subst ew
          exact fin
      · rw [if_neg c3] at ew ⊢
        subst ew
        exact fin
    · rw [if_neg c2] at ew ⊢
      by_cases c3 : l2 = 0
      · rw [if_pos c3] at ew ⊢
        subst ew
        exact fin
      · rw [if_neg c3] at ew ⊢
        subst ew
        exact fin
  have f1 : FTo h (pI h 0 7 (h.1 0 7 + 1)) := FTo.rf.wr (by decide)
  have g9 : (pI h 0 7 (h.1 0 7 + 1)).1 0 9 = c := by rw [pI_t, if_neg (by decide)]; exact e9
  have g10 : (pI h 0 7 (h.1 0 7 + 1)).1 0 10 = h.1 0 10 := by rw [pI_t, if_neg (by decide)]
  have g7 : (pI h 0 7 (h.1 0 7 + 1)).1 0 7 = h.1 0 7 + 1 := by rw [pI_t, if_pos rfl]
  unfold jb_Md_signToken_74 jb_Md_signToken_94 jb_Md_signToken_95 jb_Md_signToken_115 jb_Md_signToken_116 jb_Md_signToken_125
  simp only [nmd_q]
  rw [e9]
  rcases hc with rfl | rfl | rfl
  · rw [if_neg (by decide)]
    by_cases s1 : s = 61
    · subst s1
      obtain ⟨u, q1, q2, q3, q4, q5, q6⟩ := k135 1 0 1 _ f1 g9 g10 rfl
      exact ⟨u, q1, q2, q3, q4, q5, .inl ⟨.inl ⟨rfl, .inl rfl⟩, by rw [q6, g7]⟩⟩
    · rw [if_neg s1]
      by_cases s2 : s = 62
      · subst s2
        obtain ⟨u, q1, q2, q3, q4, q5, q6⟩ := k135 0 1 3 _ f1 g9 g10 rfl
        exact ⟨u, q1, q2, q3, q4, q5, .inl ⟨.inl ⟨rfl, .inr rfl⟩, by rw [q6, g7]⟩⟩
      · obtain ⟨u, q1, q2, q3, q4, q5, q6⟩ := k135 0 0 0 h FTo.rf e9 rfl rfl
        refine ⟨u, ?_, q2, q3, ?_, q5, .inr ⟨fun z => ?_, q6⟩⟩
        · rw [if_pos rfl, if_neg s2, if_pos trivial, if_pos trivial]
          exact q1
        · unfold sgw
          rw [q4, if_pos rfl, if_neg s1, if_neg s2]
        · rcases z with z | z
          · exact z.2.elim s1 s2
          · exact absurd z.1 (by decide)
  · rw [if_neg (by decide)]
    by_cases s1 : s = 61
    · subst s1
      obtain ⟨u, q1, q2, q3, q4, q5, q6⟩ := k135 1 0 4 _ f1 g9 g10 rfl
      exact ⟨u, q1, q2, q3, q4, q5, .inl ⟨.inr ⟨rfl, rfl⟩, by rw [q6, g7]⟩⟩
    · obtain ⟨u, q1, q2, q3, q4, q5, q6⟩ := k135 0 0 5 h FTo.rf e9 rfl rfl
      refine ⟨u, ?_, q2, q3, ?_, q5, .inr ⟨fun z => ?_, q6⟩⟩
      · rw [if_neg s1, if_neg (by decide), if_pos trivial, if_pos trivial]
        exact q1
      · unfold sgw
        rw [q4, if_neg (by decide), if_pos rfl, if_neg s1]
      · rcases z with z | z
        · exact absurd z.1 (by decide)
        · exact s1 z.2
  · obtain ⟨u, q1, q2, q3, q4, q5, q6⟩ := k135 0 0 2 h FTo.rf e9 rfl rfl
    refine ⟨u, ?_, q2, q3, q4, q5, .inr ⟨fun z => ?_, q6⟩⟩
    · rw [if_pos rfl, if_neg (by decide), if_pos trivial, if_pos trivial]
      exact q1
    · rcases z with z | z
      · exact absurd z.1 (by decide)
      · exact absurd z.1 (by decide)
