/-! laws: whole programs of knots, on both sides -/
theorem inL_i32 (x : Int32) : inL x.toInt64 := by
  unfold inL
  rw [Int32.toInt_toInt64]
  have h1 := Int32.le_toInt x
  have h2 := Int32.toInt_lt x
  constructor <;> omega
theorem inL_0 : inL 0 := by unfold inL; decide
theorem inL_1 : inL 1 := by unfold inL; decide
theorem LIMi : LIM.toInt = 1000000000000 := by decide
theorem nLIMi : (-LIM).toInt = -1000000000000 := by decide
theorem bd_inL {v w : Int64} (h : bd v = some w) : inL w := by
  unfold bd at h
  by_cases h1 : LIM < v
  · rw [if_pos h1] at h; cases h
  · rw [if_neg h1] at h
    by_cases h2 : v < -LIM
    · rw [if_pos h2] at h; cases h
    · rw [if_neg h2] at h
      cases h
      rw [l64, LIMi] at h1
      rw [l64, nLIMi] at h2
      exact ⟨by omega, by omega⟩
theorem mul_lim {a b m : Int} (ha : 0 < a) (hb : 0 ≤ b) (h : ¬ (1000000000000 : Int).tdiv a < b) : a * b ≤ 1000000000000 := by
  have h1 : b ≤ (1000000000000 : Int).tdiv a := by omega
  rw [Int.tdiv_eq_ediv_of_nonneg (by decide)] at h1
  have h2 := (Int.le_ediv_iff_mul_le ha).mp h1
  rw [Int.mul_comm]
  exact h2
theorem op2_inL {k : Nat} {l r v : Int64} (h1 : 3 ≤ k) (h2 : k ≤ 14) (hl : inL l) (hr : inL r) (h : op2 k l r = some v) : inL v := by
  rcases (show k = 3 ∨ k = 4 ∨ k = 5 ∨ k = 6 ∨ k = 7 ∨ k = 8 ∨ k = 9 ∨ k = 10 ∨ k = 11 ∨ k = 12 ∨ k = 13 ∨ k = 14 by omega) with rfl | rfl | rfl | rfl | rfl | rfl | rfl | rfl | rfl | rfl | rfl | rfl
  · simp [op2] at h; subst h; split <;> (try split) <;> first | exact inL_0 | exact inL_1
  · simp [op2] at h; subst h; split <;> (try split) <;> first | exact inL_0 | exact inL_1
  · simp [op2] at h; subst h; split <;> first | exact inL_0 | exact inL_1
  · simp [op2] at h; subst h; split <;> first | exact inL_0 | exact inL_1
  · simp [op2] at h; subst h; split <;> first | exact inL_0 | exact inL_1
  · simp [op2] at h; subst h; split <;> first | exact inL_0 | exact inL_1
  · simp [op2] at h; subst h; split <;> first | exact inL_0 | exact inL_1
  · simp [op2] at h; subst h; split <;> first | exact inL_0 | exact inL_1
  · simp [op2] at h; exact bd_inL h
  · simp [op2] at h; exact bd_inL h
  · have e13 : op2 13 l r = if l = 0 then some 0 else if LIM / ab l < ab r then none else some (l * r) := by simp [op2]
    rw [e13] at h
    by_cases q : l = 0
    · rw [if_pos q] at h; cases h; exact inL_0
    · rw [if_neg q] at h
      by_cases q2 : LIM / ab l < ab r
      · rw [if_pos q2] at h; cases h
      · rw [if_neg q2] at h
        cases h
        obtain ⟨a1, a2, a3⟩ := ab_inL hl
        obtain ⟨b1, b2, b3⟩ := ab_inL hr
        have hz : (ab l).toInt ≠ 0 := fun e => ab0 q (l64e.mpr (by rw [e]; rfl))
        rw [l64, Int64.toInt_div_of_ne_left _ _ (by decide), LIMi] at q2
        have hm := mul_lim (m := 0) (by omega) b1 q2
        have key : -1000000000000 ≤ l.toInt * r.toInt ∧ l.toInt * r.toInt ≤ 1000000000000 := by
          rcases a3 with a3 | a3 <;> rcases b3 with b3 | b3 <;> rw [a3, b3] at hm
          · rw [a3] at a1; rw [b3] at b1
            have := Int.mul_nonneg a1 b1
            omega
          · rw [a3] at a1; rw [b3] at b1
            rw [Int.mul_neg] at hm
            have := Int.mul_nonneg a1 b1
            rw [Int.mul_neg] at this
            omega
          · rw [a3] at a1; rw [b3] at b1
            rw [Int.neg_mul] at hm
            have := Int.mul_nonneg a1 b1
            rw [Int.neg_mul] at this
            omega
          · rw [a3] at a1; rw [b3] at b1
            rw [Int.neg_mul_neg] at hm
            have := Int.mul_nonneg a1 b1
            rw [Int.neg_mul_neg] at this
            omega
        unfold inL
        rw [Int64.toInt_mul, Int.bmod_eq_of_le (by omega) (by omega)]
        exact key
  · simp [op2] at h
    obtain ⟨hr0, rfl⟩ := h
    unfold inL
    rw [Int64.toInt_div_of_ne_left _ _ (fun e => by rw [e] at hl; exact absurd hl.1 (by decide))]
    have h3 := Int.natAbs_tdiv_le_natAbs l.toInt r.toInt
    obtain ⟨q1, q2⟩ := hl
    omega
theorem inL_ERR {v : Int64} (h : inL v) : ¬ lg_cmp v ERR = 0 := by
  rw [lc_eq0]
  intro e
  rw [e] at h
  exact absurd h.1 (by decide)
