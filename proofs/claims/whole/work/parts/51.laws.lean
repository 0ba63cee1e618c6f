/-! laws: one sign, on both sides -/
theorem lc_cases (x y : Int64) : (x < y ∧ lg_cmp x y = -1) ∨ (x = y ∧ lg_cmp x y = 0) ∨ (y < x ∧ lg_cmp x y = 1) := by
  unfold lg_cmp
  by_cases h : x > y
  · exact Or.inr (Or.inr ⟨h, if_pos h⟩)
  · rw [if_neg h]
    by_cases e : x = y
    · exact Or.inr (Or.inl ⟨e, if_pos e⟩)
    · rw [if_neg e]
      refine Or.inl ⟨?_, rfl⟩
      have h' : ¬ y < x := h
      rw [Int64.lt_iff_toInt_lt] at h' ⊢
      have e' : x.toInt ≠ y.toInt := fun q => e (Int64.toInt_inj.mp q)
      omega
theorem l64 {x y : Int64} : x < y ↔ x.toInt < y.toInt := Int64.lt_iff_toInt_lt
theorem l64e {x y : Int64} : x = y ↔ x.toInt = y.toInt := Int64.toInt_inj.symm
theorem lc_eq0 (x y : Int64) : lg_cmp x y = 0 ↔ x = y := by
  rcases lc_cases x y with ⟨h, e⟩ | ⟨h, e⟩ | ⟨h, e⟩ <;> rw [e]
  · rw [l64] at h; rw [l64e]; constructor
    · intro q; exact absurd q (by decide)
    · intro q; omega
  · simp [h]
  · rw [l64] at h; rw [l64e]; constructor
    · intro q; exact absurd q (by decide)
    · intro q; omega
theorem lc_ge0 (x y : Int64) : 0 ≤ lg_cmp x y ↔ ¬ x < y := by
  rcases lc_cases x y with ⟨h, e⟩ | ⟨h, e⟩ | ⟨h, e⟩ <;> rw [e]
  · simp only [h, not_true_eq_false, iff_false]; decide
  · rw [l64]; rw [l64e] at h; constructor
    · intro _; omega
    · intro _; decide
  · rw [l64] at h ⊢; constructor
    · intro _; omega
    · intro _; decide
theorem lc_gt0 (x y : Int64) : 0 < lg_cmp x y ↔ y < x := by
  rcases lc_cases x y with ⟨h, e⟩ | ⟨h, e⟩ | ⟨h, e⟩ <;> rw [e]
  · rw [l64] at h ⊢; constructor
    · intro q; exact absurd q (by decide)
    · intro q; omega
  · rw [l64]; rw [l64e] at h; constructor
    · intro q; exact absurd q (by decide)
    · intro q; omega
  · simp only [h, iff_true]; decide
theorem lc_lt0 (x y : Int64) : lg_cmp x y < 0 ↔ x < y := by
  rcases lc_cases x y with ⟨h, e⟩ | ⟨h, e⟩ | ⟨h, e⟩ <;> rw [e]
  · simp only [h, iff_true]; decide
  · rw [l64]; rw [l64e] at h; constructor
    · intro q; exact absurd q (by decide)
    · intro q; omega
  · rw [l64] at h ⊢; constructor
    · intro q; exact absurd q (by decide)
    · intro q; omega
theorem lc_le0 (x y : Int64) : lg_cmp x y ≤ 0 ↔ ¬ y < x := by
  rcases lc_cases x y with ⟨h, e⟩ | ⟨h, e⟩ | ⟨h, e⟩ <;> rw [e]
  · rw [l64] at h ⊢; constructor
    · intro _; omega
    · intro _; decide
  · rw [l64]; rw [l64e] at h; constructor
    · intro _; omega
    · intro _; decide
  · simp only [h, not_true_eq_false, iff_false]; decide
/-- the error's mark -/
abbrev ERR : Int64 := -9223372036854775808
abbrev LIM : Int64 := 1000000000000
def ab (l : Int64) : Int64 := if l < 0 then -l else l
def bd (v : Int64) : Option Int64 := if LIM < v then none else if v < -LIM then none else some v
/-- one sign of two sides, by the reference's numbers: 3 and, 4 or, 5 .. 10 comparisons, 11 +, 12 -, 13 *, 14 / -/
def op2 (k : Nat) (l r : Int64) : Option Int64 :=
  if k = 3 then some (if l = 0 then 0 else if r = 0 then 0 else 1)
  else if k = 4 then some (if l = 0 then (if r = 0 then 0 else 1) else 1)
  else if k = 5 then some (if l < r then 1 else 0)
  else if k = 6 then some (if r < l then 0 else 1)
  else if k = 7 then some (if l = r then 1 else 0)
  else if k = 8 then some (if l = r then 0 else 1)
  else if k = 9 then some (if l < r then 0 else 1)
  else if k = 10 then some (if r < l then 1 else 0)
  else if k = 11 then bd (l + r)
  else if k = 12 then bd (l - r)
  else if k = 13 then (if l = 0 then some 0 else if LIM / ab l < ab r then none else some (l * r))
  else (if r = 0 then none else some (l / r))
/-- the class's token of a sign -/
def tkn (k : Nat) : Nat := if k = 2 then 22 else if k = 3 then 20 else if k = 4 then 21 else k + 28
def er (o : Option Int64) : Int64 := match o with
  | none => ERR
  | some v => v
theorem within_ok {tb : Tb} {h : Hp} {v : Int64} : f_La_within tb h v = er (bd v) := by
  unfold f_La_within bd
  simp only [lc_gt0, lc_ge0]
  by_cases h1 : LIM < v
  · rw [if_pos h1, if_pos h1]; rfl
  · rw [if_neg h1, if_neg h1]
    by_cases h2 : v < -LIM
    · rw [if_neg (fun q => q h2), if_pos h2]; rfl
    · rw [if_pos h2, if_neg h2]; rfl
theorem neg0 {l : Int64} (h : ¬ l = 0) : ¬ -l = 0 := by
  intro q
  apply h
  have := congrArg (fun x : Int64 => -x) q
  simpa using this
theorem ab0 {l : Int64} (h : ¬ l = 0) : ¬ ab l = 0 := by
  unfold ab
  split
  · exact neg0 h
  · exact h
theorem tooBig_ok {tb : Tb} {h : Hp} {l r : Int64} : f_La_isTooBig tb h l r = some (if l = 0 then 0 else if LIM / ab l < ab r then 1 else 0) := by
  have e : f_La_isTooBig tb h l r = jb_La_isTooBig_12 tb h r (ab l) := by
    unfold f_La_isTooBig ab
    simp only [lc_ge0]
    by_cases q : l < 0
    · rw [if_neg (fun z => z q), if_pos q]
    · rw [if_pos q, if_neg q]
  rw [e]
  unfold jb_La_isTooBig_12
  simp only [lc_eq0, lc_ge0]
  by_cases q : l = 0
  · subst q
    rfl
  · rw [if_neg (ab0 q), if_neg q]
    have e2 : (if ¬ r < 0 then jb_La_isTooBig_33 tb h (ab l) r else jb_La_isTooBig_33 tb h (ab l) (-r)) = jb_La_isTooBig_33 tb h (ab l) (ab r) := by
      by_cases q2 : r < 0
      · rw [if_neg (fun z => z q2)]
        unfold ab
        rw [if_pos q2]
      · rw [if_pos q2]
        conv => rhs; unfold ab
        rw [if_neg q2]
        rfl
    rw [e2]
    unfold jb_La_isTooBig_33 dL
    rw [if_neg (ab0 q), bnd_s]
    simp only [lc_le0]
    by_cases q3 : LIM / ab l < ab r
    · rw [if_neg (fun z => z q3), if_pos q3]
    · rw [if_pos q3, if_neg q3]
theorem join_ok {tb : Tb} {h : Hp} {k : Nat} {l r : Int64} (h1 : 3 ≤ k) (h2 : k ≤ 14) : f_La_join tb h (nI (tkn k)) l r = some (er (op2 k l r)) := by
  rcases (show k = 3 ∨ k = 4 ∨ k = 5 ∨ k = 6 ∨ k = 7 ∨ k = 8 ∨ k = 9 ∨ k = 10 ∨ k = 11 ∨ k = 12 ∨ k = 13 ∨ k = 14 by omega) with rfl | rfl | rfl | rfl | rfl | rfl | rfl | rfl | rfl | rfl | rfl | rfl
  · show f_La_join tb h 20 l r = _
    simp [f_La_join, op2, lc_eq0, er]
    split <;> (try split) <;> simp_all
  · show f_La_join tb h 21 l r = _
    simp [f_La_join, op2, lc_eq0, er]
    split <;> (try split) <;> simp_all
  · show f_La_join tb h 33 l r = _
    simp [f_La_join, op2, lc_ge0, er]
    split <;> simp_all
  · show f_La_join tb h 34 l r = _
    simp [f_La_join, op2, lc_gt0, er]
    split <;> simp_all
  · show f_La_join tb h 35 l r = _
    simp [f_La_join, op2, lc_eq0, er]
    split <;> simp_all
  · show f_La_join tb h 36 l r = _
    simp [f_La_join, op2, lc_eq0, er]
    split <;> simp_all
  · show f_La_join tb h 37 l r = _
    simp [f_La_join, op2, lc_lt0, er]
    split <;> simp_all
  · show f_La_join tb h 38 l r = _
    simp [f_La_join, op2, lc_le0, er]
    split <;> simp_all
  · show f_La_join tb h 39 l r = _
    simp [f_La_join, op2, within_ok, nmd]
  · show f_La_join tb h 40 l r = _
    simp [f_La_join, op2, within_ok, nmd]
  · show f_La_join tb h 41 l r = _
    simp [f_La_join, op2, tooBig_ok]
    by_cases q : l = 0
    · simp [q, er]
    · simp only [q, if_false]
      by_cases q2 : LIM / ab l < ab r
      · simp [q2, er]
        intro q3
        rw [l64] at q2
        rw [Int64.le_iff_toInt_le] at q3
        omega
      · simp [q2, er]
  · show f_La_join tb h 42 l r = _
    simp [f_La_join, op2, lc_eq0, dL]
    split
    · simp [er]
    · simp_all [er]
theorem pI_self {h : Hp} {c j : Nat} {x : Int32} (e : h.1 c j = x) : pI h c j x = h := by
  unfold pI
  refine Prod.ext ?_ rfl
  funext a b
  dsimp only
  by_cases q : a = c
  · subst q
    rw [if_pos rfl]
    by_cases q2 : b = j
    · subst q2
      rw [if_pos rfl, e]
    · rw [if_neg q2]
  · rw [if_neg q]
theorem pZ_ok {h : Hp} {c j : Nat} {x : Int32} (hx : bit x = true) : pZ h c j x = some (pI h c j x) := if_pos hx
theorem pI_at {h : Hp} {c j : Nat} {x : Int32} : (pI h c j x).1 c j = x := by simp [pI]
theorem bounded_ok {tb : Tb} {h : Hp} {v : Int64} (he : h.1 0 53 = 0) : f_Md_bounded tb h 0 v = some ((bd v).getD 0, pI h 0 53 (if (bd v).isNone then 1 else 0)) := by
  unfold f_Md_bounded bd
  rw [if_pos he]
  simp only [lc_gt0, lc_ge0]
  by_cases h1 : LIM < v
  · rw [if_pos h1, if_pos h1]
    unfold jb_Md_bounded_24 jb_Md_bounded_29
    rw [pZ_ok rfl, bnd_s, pI_at]
    rfl
  · rw [if_neg h1, if_neg h1]
    by_cases h2 : v < -LIM
    · rw [if_neg (fun q => q h2), if_pos h2]
      unfold jb_Md_bounded_24 jb_Md_bounded_29
      rw [pZ_ok rfl, bnd_s, pI_at]
      rfl
    · rw [if_pos h2, if_neg h2]
      unfold jb_Md_bounded_29
      rw [pZ_ok rfl, bnd_s, pI_at]
      rfl
theorem bounded_er {tb : Tb} {h : Hp} {v : Int64} (he : h.1 0 53 = 1) : f_Md_bounded tb h 0 v = some (0, h) := by
  unfold f_Md_bounded
  rw [if_neg (by rw [he]; decide)]
  unfold jb_Md_bounded_24 jb_Md_bounded_29
  rw [pZ_ok rfl, bnd_s, pI_at, pI_self he]
  rfl
theorem times_er {tb : Tb} {h : Hp} {l r : Int64} (he : h.1 0 53 = 1) : f_Md_times tb h 0 l r = some (0, h) := by
  have k64 : jb_Md_times_64 tb h 0 l r 0 = some (0, h) := by
    unfold jb_Md_times_64 jb_Md_times_69
    rw [pZ_ok rfl, bnd_s, pI_at, pI_self he]
    rfl
  have k49 : ∀ x, jb_Md_times_49 tb h 0 l r x = some (0, h) := by
    intro x
    unfold jb_Md_times_49
    rw [if_neg (by rw [he]; decide)]
    exact k64
  have k39 : ∀ a b : Int64, ¬ b = 0 → jb_Md_times_39 tb h 0 l r a LIM b = some (0, h) := by
    intro a b hb
    unfold jb_Md_times_39 dL jb_Md_times_48
    rw [if_neg hb, bnd_s, k49, k49]
    exact ite_self _
  unfold f_Md_times
  simp only [lc_eq0, lc_ge0]
  by_cases q : l = 0
  · rw [if_pos q]
    exact k49 _
  · rw [if_neg q]
    by_cases q2 : r = 0
    · rw [if_pos q2]
      exact k49 _
    · rw [if_neg q2]
      have k24 : ∀ a, jb_Md_times_24 tb h 0 l r a = some (0, h) := by
        intro a
        unfold jb_Md_times_24
        rw [k39 _ _ q, k39 _ _ (neg0 q)]
        exact ite_self _
      rw [k24, k24]
      exact ite_self _
/-- within the limit -/
def inL (l : Int64) : Prop := -1000000000000 ≤ l.toInt ∧ l.toInt ≤ 1000000000000
theorem ab_inL {l : Int64} (h : inL l) : 0 ≤ (ab l).toInt ∧ (ab l).toInt ≤ 1000000000000 ∧ ((ab l).toInt = l.toInt ∨ (ab l).toInt = -l.toInt) := by
  obtain ⟨h1, h2⟩ := h
  have z : (0 : Int64).toInt = 0 := by decide
  unfold ab
  by_cases q : l < 0
  · rw [if_pos q]
    rw [l64, z] at q
    have e : (-l).toInt = -l.toInt := by
      rw [Int64.toInt_neg]
      exact Int.bmod_eq_of_le (by omega) (by omega)
    rw [e]
    omega
  · rw [if_neg q]
    rw [l64, z] at q
    omega
theorem div_nn {l : Int64} (h : inL l) : 0 ≤ (LIM / ab l).toInt := by
  have e : (LIM / ab l).toInt = LIM.toInt.tdiv (ab l).toInt := Int64.toInt_div_of_ne_left _ _ (by decide)
  rw [e]
  exact Int.tdiv_nonneg (by decide) (ab_inL h).1
theorem times_ok {tb : Tb} {h : Hp} {l r : Int64} (hl : inL l) (he : h.1 0 53 = 0) : f_Md_times tb h 0 l r = some ((op2 13 l r).getD 0, pI h 0 53 (if (op2 13 l r).isNone then 1 else 0)) := by
  have k49 : ∀ x : Int32, jb_Md_times_49 tb h 0 l r x = if x = 0 then some (l * r, pI h 0 53 0) else some (0, pI h 0 53 1) := by
    intro x
    unfold jb_Md_times_49 jb_Md_times_64 jb_Md_times_69
    rw [if_pos he, pZ_ok rfl, pZ_ok rfl, bnd_s, bnd_s, pI_at, pI_at]
    rfl
  have e13 : op2 13 l r = if l = 0 then some 0 else if LIM / ab l < ab r then none else some (l * r) := by simp [op2]
  rw [e13]
  unfold f_Md_times jb_Md_times_48
  simp only [lc_eq0, lc_ge0, k49]
  by_cases q : l = 0
  · subst q
    simp
  · rw [if_neg q, if_neg q]
    have k24 : ∀ a, jb_Md_times_24 tb h 0 l r a = if LIM / ab l < a then some (0, pI h 0 53 1) else some (l * r, pI h 0 53 0) := by
      intro a
      have e : jb_Md_times_24 tb h 0 l r a = jb_Md_times_39 tb h 0 l r a LIM (ab l) := by
        unfold jb_Md_times_24 ab
        simp only [lc_ge0]
        by_cases q : l < 0
        · rw [if_neg (fun z => z q), if_pos q]
        · rw [if_pos q, if_neg q]
      rw [e]
      unfold jb_Md_times_39 dL jb_Md_times_48
      rw [if_neg (ab0 q), bnd_s, k49, k49]
      simp only [lc_le0]
      by_cases q3 : LIM / ab l < a
      · rw [if_neg (fun z => z q3), if_pos q3]
        rfl
      · rw [if_pos q3, if_neg q3]
        rfl
    by_cases q2 : r = 0
    · subst q2
      have hx : ¬ LIM / ab l < ab 0 := by
        have := div_nn hl
        have z : (ab 0).toInt = 0 := by decide
        rw [l64, z]
        omega
      rw [if_pos rfl, if_neg hx]
      rfl
    · rw [if_neg q2]
      have e : (if ¬ r < 0 then jb_Md_times_24 tb h 0 l r r else jb_Md_times_24 tb h 0 l r (-r)) = jb_Md_times_24 tb h 0 l r (ab r) := by
        by_cases q3 : r < 0
        · rw [if_neg (fun z => z q3)]
          conv => rhs; unfold ab
          rw [if_pos q3]
        · rw [if_pos q3]
          conv => rhs; unfold ab
          rw [if_neg q3]
      rw [e, k24]
      by_cases q3 : LIM / ab l < ab r
      · rw [if_pos q3, if_pos q3]
        rfl
      · rw [if_neg q3, if_neg q3]
        rfl
theorem val_ok {h : Hp} {i k a b : Nat} {l r : Int64} (hi : i < 128) (hk : h.1 20 i = nI k) (ha : h.1 21 i = nI a) (hb : h.1 22 i = nI b) (ha6 : a < 64) (hb6 : b < 64) (el : h.2 26 a = l) (er_ : h.2 26 b = r) (h3 : 3 ≤ k) (h14 : k ≤ 14) (hl : inL l) (he : h.1 0 53 = 0) :
    f_Md_valueOf TR h 0 (nI i) = some ((op2 k l r).getD 0, pI h 0 53 (if (op2 k l r).isNone then 1 else 0)) := by
  have r20 : rI TR h 20 (nI i) = some (nI k) := by rw [rI_ok (n := 128) rfl hi (by decide), hk]
  have r21 : rI TR h 21 (nI i) = some (nI a) := by rw [rI_ok (n := 128) rfl hi (by decide), ha]
  have r22 : rI TR h 22 (nI i) = some (nI b) := by rw [rI_ok (n := 128) rfl hi (by decide), hb]
  have va : rL TR h 26 (nI a) = some l := by rw [rL_ok (n := 64) rfl ha6 (by decide), el]
  have vb : rL TR h 26 (nI b) = some r := by rw [rL_ok (n := 64) rfl hb6 (by decide), er_]
  have es : pI h 0 53 0 = h := pI_self he
  unfold f_Md_valueOf
  simp only [lyR, r20, r21, r22, va, vb, bnd_s]
  rcases (show k = 3 ∨ k = 4 ∨ k = 5 ∨ k = 6 ∨ k = 7 ∨ k = 8 ∨ k = 9 ∨ k = 10 ∨ k = 11 ∨ k = 12 ∨ k = 13 ∨ k = 14 by omega) with rfl | rfl | rfl | rfl | rfl | rfl | rfl | rfl | rfl | rfl | rfl | rfl
  · simp [nI, op2, lc_eq0, es]
    split <;> (try split) <;> simp_all
  · simp [nI, op2, lc_eq0, es]
    split <;> (try split) <;> simp_all
  · simp [nI, op2, f_Md_compares, lc_ge0, es, nmd]
    split <;> simp_all
  · simp [nI, op2, f_Md_compares, lc_gt0, es, nmd]
    split <;> simp_all
  · simp [nI, op2, f_Md_compares, lc_eq0, es, nmd]
    split <;> simp_all
  · simp [nI, op2, f_Md_compares, lc_eq0, es, nmd]
    split <;> simp_all
  · simp [nI, op2, f_Md_compares, lc_lt0, es, nmd]
    split <;> simp_all
  · simp [nI, op2, f_Md_compares, lc_le0, es, nmd]
    split <;> simp_all
  · simp [nI, op2, bounded_ok he]
  · simp [nI, op2, bounded_ok he]
  · simp only [nI, times_ok hl he]
    simp
  · simp [nI, op2, lc_eq0, he, jb_Md_valueOf_235, jb_Md_valueOf_240, pZ, bit, pI_at, dL]
    split
    · simp_all [pZ, bit, pI_at]
    · simp_all [pZ, bit, pI_at]
theorem exi {c : Prop} [Decidable c] {h : Hp} {x y : Int64} : ∃ v, (if c then some (x, h) else some (y, h)) = some (v, h) := by
  by_cases q : c
  · exact ⟨x, if_pos q⟩
  · exact ⟨y, if_neg q⟩
theorem val_er {h : Hp} {i k a b : Nat} (hi : i < 128) (hk : h.1 20 i = nI k) (ha : h.1 21 i = nI a) (hb : h.1 22 i = nI b) (ha6 : a < 64) (hb6 : b < 64) (h3 : 3 ≤ k) (h14 : k ≤ 14) (he : h.1 0 53 = 1) :
    ∃ v, f_Md_valueOf TR h 0 (nI i) = some (v, h) := by
  have r20 : rI TR h 20 (nI i) = some (nI k) := by rw [rI_ok (n := 128) rfl hi (by decide), hk]
  have r21 : rI TR h 21 (nI i) = some (nI a) := by rw [rI_ok (n := 128) rfl hi (by decide), ha]
  have r22 : rI TR h 22 (nI i) = some (nI b) := by rw [rI_ok (n := 128) rfl hi (by decide), hb]
  have va : rL TR h 26 (nI a) = some (h.2 26 a) := rL_ok (n := 64) rfl ha6 (by decide)
  have vb : rL TR h 26 (nI b) = some (h.2 26 b) := rL_ok (n := 64) rfl hb6 (by decide)
  have es : pI h 0 53 1 = h := pI_self he
  unfold f_Md_valueOf
  simp only [lyR, r20, r21, r22, va, vb, bnd_s]
  rcases (show k = 3 ∨ k = 4 ∨ k = 5 ∨ k = 6 ∨ k = 7 ∨ k = 8 ∨ k = 9 ∨ k = 10 ∨ k = 11 ∨ k = 12 ∨ k = 13 ∨ k = 14 by omega) with rfl | rfl | rfl | rfl | rfl | rfl | rfl | rfl | rfl | rfl | rfl | rfl
  · simp [nI]; split <;> (try split) <;> simp_all
  · simp [nI]; split <;> (try split) <;> simp_all
  · simp [nI, nmd]; exact exi
  · simp [nI, nmd]; exact exi
  · simp [nI, nmd]; exact exi
  · simp [nI, nmd]; exact exi
  · simp [nI, nmd]; exact exi
  · simp [nI, nmd]; exact exi
  · simp [nI, bounded_er he]
  · simp [nI, bounded_er he]
  · simp [nI, times_er he]
  · simp [nI, he, jb_Md_valueOf_235, jb_Md_valueOf_240, pZ, bit, pI_at, es]
