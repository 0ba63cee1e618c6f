/-! letters packed; the words of the language -/
theorem sh5 (x : Int32) : x <<< ((5 : Int32) &&& 31) = x * 32 := by
  apply Int32.toBitVec_inj.1
  rw [Int32.toBitVec_shiftLeft, Int32.toBitVec_mul]
  have e : ((5 : Int32) &&& 31).toBitVec.smod 32 = 5#32 := by decide
  rw [e, BitVec.shiftLeft_eq', BitVec.shiftLeft_eq_mul_twoPow]
  rfl
theorem shk (x s : Int32) (k : Nat) (v : Int32) (e : (s &&& 31).toBitVec.smod 32 = BitVec.ofNat 32 k) (hk : (BitVec.ofNat 32 k).toNat = k) (hv : BitVec.twoPow 32 k = v.toBitVec) : x <<< (s &&& 31) = x * v := by
  apply Int32.toBitVec_inj.1
  rw [Int32.toBitVec_shiftLeft, Int32.toBitVec_mul, e, BitVec.shiftLeft_eq', hk, BitVec.shiftLeft_eq_mul_twoPow, hv]
theorem orl {x c : Int32} (x0 : 0 ≤ x) (x1 : x < 33554432) (c0 : 0 ≤ c) (c1 : c < 32) : x * 32 ||| c = x * 32 + c := by
  obtain ⟨a, rfl⟩ := fin_i32 (n := 33554432) x0 (by decide) x1
  obtain ⟨b, rfl⟩ := fin_i32 (n := 32) c0 (by decide) c1
  have ha := a.2
  have hb := b.2
  have e1 : nI a.1 * 32 = nI (a.1 * 32) := by
    apply Int32.toInt_inj.mp
    rw [nI_toInt (by omega), Int32.toInt_mul, nI_toInt (by omega)]
    have : (32 : Int32).toInt = 32 := by decide
    rw [this, Int.bmod_eq_of_le (by omega) (by omega)]
    omega
  have e2 : nI (a.1 * 32) ||| nI b.1 = nI (a.1 * 32 ||| b.1) := by
    apply Int32.toBitVec_inj.1
    rw [Int32.toBitVec_or]
    exact BitVec.ofNat_or.symm
  have e3 : a.1 * 32 ||| b.1 = a.1 * 32 + b.1 := by
    have := Nat.shiftLeft_add_eq_or_of_lt (i := 5) (b := b.1) hb a.1
    rw [Nat.shiftLeft_eq] at this
    exact this.symm
  rw [e1, e2, e3]
  apply Int32.toInt_inj.mp
  rw [nI_toInt (by omega), Int32.toInt_add, nI_toInt (by omega), nI_toInt (by omega), Int.bmod_eq_of_le (by omega) (by omega)]
  omega
/-- the letters of a tape from a on: k of them; six, with nothing behind the m-th -/
def bk (T : Int32 → Int32) (a : Int32) : Nat → Int32
  | 0 => 0
  | k + 1 => (bk T a k <<< ((5 : Int32) &&& 31)) ||| (T (a + nI k) - 96)
def dg (T : Int32 → Int32) (a : Int32) (m j : Nat) : Int32 := if j < m then T (a + nI j) - 96 else 0
def pz (T : Int32 → Int32) (a : Int32) (m : Nat) : Nat → Int32
  | 0 => 0
  | k + 1 => (pz T a m k <<< ((5 : Int32) &&& 31)) ||| dg T a m k
theorem pz_bk {T : Int32 → Int32} {a : Int32} {m : Nat} : ∀ k, k ≤ m → pz T a m k = bk T a k
  | 0, _ => rfl
  | k + 1, h => by
    unfold pz bk dg
    rw [pz_bk k (by omega), if_pos (by omega)]
theorem pz_s {T : Int32 → Int32} {a : Int32} {m k : Nat} (h : m ≤ k) : pz T a m (k + 1) = pz T a m k * 32 := by
  rw [pz, sh5]
  unfold dg
  rw [if_neg (by omega), Int32.or_zero]
theorem bk_pz {T : Int32 → Int32} {a : Int32} {m : Nat} (m1 : 1 ≤ m) (m6 : m ≤ 6) : bk T a m <<< (((5 : Int32) * (6 - nI m)) &&& 31) = pz T a m 6 := by
  rcases (show m = 1 ∨ m = 2 ∨ m = 3 ∨ m = 4 ∨ m = 5 ∨ m = 6 by omega) with rfl | rfl | rfl | rfl | rfl | rfl
  · rw [pz_s (by decide), pz_s (by decide), pz_s (by decide), pz_s (by decide), pz_s (by decide), pz_bk 1 (by decide), shk _ _ 25 33554432 (by decide) (by decide) (by decide)]
    generalize bk T a 1 = x
    lia
  · rw [pz_s (by decide), pz_s (by decide), pz_s (by decide), pz_s (by decide), pz_bk 2 (by decide), shk _ _ 20 1048576 (by decide) (by decide) (by decide)]
    generalize bk T a 2 = x
    lia
  · rw [pz_s (by decide), pz_s (by decide), pz_s (by decide), pz_bk 3 (by decide), shk _ _ 15 32768 (by decide) (by decide) (by decide)]
    generalize bk T a 3 = x
    lia
  · rw [pz_s (by decide), pz_s (by decide), pz_bk 4 (by decide), shk _ _ 10 1024 (by decide) (by decide) (by decide)]
    generalize bk T a 4 = x
    lia
  · rw [pz_s (by decide), pz_bk 5 (by decide), shk _ _ 5 32 (by decide) (by decide) (by decide)]
  · rw [pz_bk 6 (by decide), shk _ _ 0 1 (by decide) (by decide) (by decide)]
    generalize bk T a 6 = x
    lia
theorem pz6 {T : Int32 → Int32} {a : Int32} {m : Nat} (h : ∀ j, j < 6 → 0 ≤ dg T a m j ∧ dg T a m j < 32) : pz T a m 6 = dg T a m 0 * 33554432 + dg T a m 1 * 1048576 + dg T a m 2 * 32768 + dg T a m 3 * 1024 + dg T a m 4 * 32 + dg T a m 5 := by
  have h0 := h 0 (by decide)
  have h1 := h 1 (by decide)
  have h2 := h 2 (by decide)
  have h3 := h 3 (by decide)
  have h4 := h 4 (by decide)
  have h5 := h 5 (by decide)
  have e : pz T a m 6 = ((((((0 <<< ((5 : Int32) &&& 31)) ||| dg T a m 0) <<< ((5 : Int32) &&& 31) ||| dg T a m 1) <<< ((5 : Int32) &&& 31) ||| dg T a m 2) <<< ((5 : Int32) &&& 31) ||| dg T a m 3) <<< ((5 : Int32) &&& 31) ||| dg T a m 4) <<< ((5 : Int32) &&& 31) ||| dg T a m 5 := rfl
  rw [e]
  clear e h
  generalize dg T a m 0 = d0 at *
  generalize dg T a m 1 = d1 at *
  generalize dg T a m 2 = d2 at *
  generalize dg T a m 3 = d3 at *
  generalize dg T a m 4 = d4 at *
  generalize dg T a m 5 = d5 at *
  simp only [sh5]
  rw [orl (x := 0) (c := d0) (by decide) (by decide) h0.1 h0.2, orl (c := d1) (by lia) (by lia) h1.1 h1.2, orl (c := d2) (by lia) (by lia) h2.1 h2.2, orl (c := d3) (by lia) (by lia) h3.1 h3.2, orl (c := d4) (by lia) (by lia) h4.1 h4.2, orl (c := d5) (by lia) (by lia) h5.1 h5.2]
  lia
theorem dig6 {a b c d e f a' b' c' d' e' f' : Int32} (ha : 0 ≤ a ∧ a < 32) (hb : 0 ≤ b ∧ b < 32) (hc : 0 ≤ c ∧ c < 32) (hd : 0 ≤ d ∧ d < 32) (he : 0 ≤ e ∧ e < 32) (hf : 0 ≤ f ∧ f < 32) (ka : 0 ≤ a' ∧ a' < 32) (kb : 0 ≤ b' ∧ b' < 32) (kc : 0 ≤ c' ∧ c' < 32) (kd : 0 ≤ d' ∧ d' < 32) (ke : 0 ≤ e' ∧ e' < 32) (kf : 0 ≤ f' ∧ f' < 32) (h : a * 33554432 + b * 1048576 + c * 32768 + d * 1024 + e * 32 + f = a' * 33554432 + b' * 1048576 + c' * 32768 + d' * 1024 + e' * 32 + f') : a = a' ∧ b = b' ∧ c = c' ∧ d = d' ∧ e = e' ∧ f = f' := by
  have i : a.toInt * 33554432 + b.toInt * 1048576 + c.toInt * 32768 + d.toInt * 1024 + e.toInt * 32 + f.toInt = a'.toInt * 33554432 + b'.toInt * 1048576 + c'.toInt * 32768 + d'.toInt * 1024 + e'.toInt * 32 + f'.toInt := by
    have t : ∀ {x : Int32}, 0 ≤ x ∧ x < 32 → 0 ≤ x.toInt ∧ x.toInt < 32 := fun {x} hx => ⟨Int32.le_iff_toInt_le.mp hx.1, Int32.lt_iff_toInt_lt.mp hx.2⟩
    have key : ∀ {a b c d e f : Int32}, (0 ≤ a ∧ a < 32) → (0 ≤ b ∧ b < 32) → (0 ≤ c ∧ c < 32) → (0 ≤ d ∧ d < 32) → (0 ≤ e ∧ e < 32) → (0 ≤ f ∧ f < 32) → (a * 33554432 + b * 1048576 + c * 32768 + d * 1024 + e * 32 + f).toInt = a.toInt * 33554432 + b.toInt * 1048576 + c.toInt * 32768 + d.toInt * 1024 + e.toInt * 32 + f.toInt := by
      intro a b c d e f ha hb hc hd he hf
      have := t ha; have := t hb; have := t hc; have := t hd; have := t he; have := t hf
      have k1 : (33554432 : Int32).toInt = 33554432 := by decide
      have k2 : (1048576 : Int32).toInt = 1048576 := by decide
      have k3 : (32768 : Int32).toInt = 32768 := by decide
      have k4 : (1024 : Int32).toInt = 1024 := by decide
      have k5 : (32 : Int32).toInt = 32 := by decide
      simp only [Int32.toInt_add, Int32.toInt_mul, k1, k2, k3, k4, k5]
      rw [Int.bmod_eq_of_le (n := a.toInt * 33554432) (by omega) (by omega), Int.bmod_eq_of_le (n := b.toInt * 1048576) (by omega) (by omega), Int.bmod_eq_of_le (n := c.toInt * 32768) (by omega) (by omega), Int.bmod_eq_of_le (n := d.toInt * 1024) (by omega) (by omega), Int.bmod_eq_of_le (n := e.toInt * 32) (by omega) (by omega)]
      rw [Int.bmod_eq_of_le (n := a.toInt * 33554432 + b.toInt * 1048576) (by omega) (by omega)]
      rw [Int.bmod_eq_of_le (n := a.toInt * 33554432 + b.toInt * 1048576 + c.toInt * 32768) (by omega) (by omega)]
      rw [Int.bmod_eq_of_le (n := a.toInt * 33554432 + b.toInt * 1048576 + c.toInt * 32768 + d.toInt * 1024) (by omega) (by omega)]
      rw [Int.bmod_eq_of_le (n := a.toInt * 33554432 + b.toInt * 1048576 + c.toInt * 32768 + d.toInt * 1024 + e.toInt * 32) (by omega) (by omega)]
      rw [Int.bmod_eq_of_le (by omega) (by omega)]
    rw [← key ha hb hc hd he hf, ← key ka kb kc kd ke kf, h]
  have t : ∀ {x : Int32}, 0 ≤ x ∧ x < 32 → 0 ≤ x.toInt ∧ x.toInt < 32 := fun {x} hx => ⟨Int32.le_iff_toInt_le.mp hx.1, Int32.lt_iff_toInt_lt.mp hx.2⟩
  have := t ha; have := t hb; have := t hc; have := t hd; have := t he; have := t hf
  have := t ka; have := t kb; have := t kc; have := t kd; have := t ke; have := t kf
  refine ⟨?_, ?_, ?_, ?_, ?_, ?_⟩ <;> (apply Int32.toInt_inj.mp; omega)
/-- where a word begins, how long it is -/
def wof (k : Nat) : Nat := ([0, 5, 12, 18, 22, 27, 32, 36, 40, 45, 51, 55, 58, 62, 69, 74, 79, 85, 89, 94, 99] : List Nat).getD k 99
def wln (k : Nat) : Nat := ([4, 6, 5, 3, 4, 4, 3, 3, 4, 5, 3, 2, 3, 6, 4, 4, 5, 3, 4, 4] : List Nat).getD k 0
def wdg (k j : Nat) : Int32 := if j < wln k then wdR (wof k + j) - 96 else 0
theorem w_0 : ∀ k : Fin 20, (1 ≤ wln k.1 ∧ wln k.1 ≤ 6 ∧ wof (k.1 + 1) = wof k.1 + wln k.1 + 1 ∧ wof k.1 + wln k.1 < 99) ∧ wdR (wof k.1 + wln k.1) = 32 ∧ wdC k.1 = wdg k.1 0 * 33554432 + wdg k.1 1 * 1048576 + wdg k.1 2 * 32768 + wdg k.1 3 * 1024 + wdg k.1 4 * 32 + wdg k.1 5 := by decide +kernel
theorem w_1 : ∀ (k : Fin 20) (j : Fin 6), (j.1 < wln k.1 → ¬ wdR (wof k.1 + j.1) = 32 ∧ 97 ≤ wdR (wof k.1 + j.1) ∧ wdR (wof k.1 + j.1) ≤ 122) ∧ 0 ≤ wdg k.1 j.1 ∧ wdg k.1 j.1 < 32 ∧ (j.1 < wln k.1 → 1 ≤ wdg k.1 j.1) := by decide +kernel
/-- a word of the tape is the k-th of the language -/
def WM (T : Int32 → Int32) (a : Int32) (m k : Nat) : Prop := wln k = m ∧ ∀ j, j < wln k → wdR (wof k + j) = T (a + nI j)
theorem wm_e {T : Int32 → Int32} {a : Int32} {m k : Nat} (m1 : 1 ≤ m) (m6 : m ≤ 6) (hk : k < 20) (hl : ∀ j, j < m → 97 ≤ T (a + nI j) ∧ T (a + nI j) ≤ 122) : wdC k = pz T a m 6 ↔ WM T a m k := by
  have hd : ∀ j, j < 6 → 0 ≤ dg T a m j ∧ dg T a m j < 32 ∧ (j < m → 1 ≤ dg T a m j) := fun j _ => by
    unfold dg
    by_cases q : j < m
    · rw [if_pos q]
      have := hl j q
      lia
    · rw [if_neg q]
      exact ⟨by decide, by decide, fun z => absurd z q⟩
  have w0 := w_0 ⟨k, hk⟩
  simp only at w0
  have w1 : ∀ j, j < 6 → (j < wln k → ¬ wdR (wof k + j) = 32 ∧ 97 ≤ wdR (wof k + j) ∧ wdR (wof k + j) ≤ 122) ∧ 0 ≤ wdg k j ∧ wdg k j < 32 ∧ (j < wln k → 1 ≤ wdg k j) := fun j hj => w_1 ⟨k, hk⟩ ⟨j, hj⟩
  rw [w0.2.2, pz6 (fun j hj => ⟨(hd j hj).1, (hd j hj).2.1⟩)]
  have b := fun j hj => (⟨(hd j hj).1, (hd j hj).2.1⟩ : 0 ≤ dg T a m j ∧ dg T a m j < 32)
  have c := fun j hj => (⟨(w1 j hj).2.1, (w1 j hj).2.2.1⟩ : 0 ≤ wdg k j ∧ wdg k j < 32)
  constructor
  · intro h
    obtain ⟨e0, e1, e2, e3, e4, e5⟩ := dig6 (c 0 (by decide)) (c 1 (by decide)) (c 2 (by decide)) (c 3 (by decide)) (c 4 (by decide)) (c 5 (by decide)) (b 0 (by decide)) (b 1 (by decide)) (b 2 (by decide)) (b 3 (by decide)) (b 4 (by decide)) (b 5 (by decide)) h
    have ej : ∀ j, j < 6 → wdg k j = dg T a m j := fun j hj => by
      rcases (show j = 0 ∨ j = 1 ∨ j = 2 ∨ j = 3 ∨ j = 4 ∨ j = 5 by omega) with rfl | rfl | rfl | rfl | rfl | rfl <;> assumption
    have lt : ∀ j, j < 6 → (j < wln k ↔ j < m) := fun j hj => by
      have e := ej j hj
      constructor
      · intro q
        by_cases z : j < m
        · exact z
        · have h1 := (w1 j hj).2.2.2 q
          rw [e] at h1
          unfold dg at h1
          rw [if_neg z] at h1
          exact absurd h1 (by decide)
      · intro q
        by_cases z : j < wln k
        · exact z
        · have h1 := (hd j hj).2.2 q
          rw [← e] at h1
          unfold wdg at h1
          rw [if_neg z] at h1
          exact absurd h1 (by decide)
    have lm : wln k = m := by
      have l1 := lt (m - 1) (by omega)
      have l2 := lt (wln k - 1) (by omega)
      omega
    refine ⟨lm, fun j hj => ?_⟩
    have e := ej j (by omega)
    unfold wdg dg at e
    rw [if_pos hj, if_pos (by omega)] at e
    generalize wdR (wof k + j) = x at e ⊢
    generalize T (a + nI j) = y at e ⊢
    lia
  · rintro ⟨lm, h⟩
    have ej : ∀ j, j < 6 → wdg k j = dg T a m j := fun j hj => by
      unfold wdg dg
      rw [lm]
      by_cases z : j < m
      · rw [if_pos z, if_pos z, h j (by omega)]
      · rw [if_neg z, if_neg z]
    rw [ej 0 (by decide), ej 1 (by decide), ej 2 (by decide), ej 3 (by decide), ej 4 (by decide), ej 5 (by decide)]
