/-! how all stands at first -/
def wb (P : Pl) : Aw := (fun r j => if r = 0 then (if j = 2 then ((1 : Int32) <<< (P 0 4 &&& 31)) - 1 else if j = 8 then -1 else 0) else if r = 1 then P 8 j else if r = 2 then P 9 j else if r = 4 then -2 else if r = 6 then P 3 j else 0, (P 0 2).toInt64)
theorem wb_e {P : Pl} : (∀ j, (wb P).1 1 j = P 8 j) ∧ (∀ j, (wb P).1 2 j = P 9 j) ∧ (∀ j, (wb P).1 3 j = 0) ∧ (∀ j, (wb P).1 4 j = -2) ∧ (∀ j, (wb P).1 5 j = 0) ∧ (∀ j, (wb P).1 6 j = P 3 j) ∧ (wb P).1 0 0 = 0 ∧ (wb P).1 0 2 = ((1 : Int32) <<< (P 0 4 &&& 31)) - 1 ∧ (wb P).1 0 3 = 0 ∧ (wb P).1 0 4 = 0 ∧ (wb P).1 0 5 = 0 ∧ (wb P).1 0 6 = 0 ∧ (wb P).1 0 7 = 0 ∧ (wb P).1 0 8 = -1 ∧ (wb P).2 = (P 0 2).toInt64 :=
  ⟨fun _ => rfl, fun _ => rfl, fun _ => rfl, fun _ => rfl, fun _ => rfl, fun _ => rfl, rfl, rfl, rfl, rfl, rfl, rfl, rfl, rfl, rfl⟩
theorem fb0 : ∀ (n : Fin 7) (j : Fin 6), bt (((1 : Int32) <<< (nI n.1 &&& 31)) - 1) (nI j.1) = (if nI j.1 < nI n.1 then 1 else 0) ∧ 0 ≤ ((1 : Int32) <<< (nI n.1 &&& 31)) - 1 ∧ ((1 : Int32) <<< (nI n.1 &&& 31)) - 1 ≤ 63 := by decide +kernel
theorem fb1 {n j : Int32} (n0 : 0 ≤ n) (n6 : n ≤ 6) (j0 : 0 ≤ j) (j6 : j < 6) : bt (((1 : Int32) <<< (n &&& 31)) - 1) j = (if j < n then 1 else 0) ∧ 0 ≤ ((1 : Int32) <<< (n &&& 31)) - 1 ∧ ((1 : Int32) <<< (n &&& 31)) - 1 ≤ 63 := by
  obtain ⟨x, rfl⟩ := fin_i32 (n := 7) n0 (by decide) (show n < 7 by lia)
  obtain ⟨y, rfl⟩ := fin_i32 (n := 6) j0 (by decide) j6
  exact fb0 x y
theorem wb_ok {P : Pl} (ok : POK P) : WOK P (wb P) ∧ ONK P 0 (wb P) ∧ TK (wb P) := by
  obtain ⟨b1, b2, b3, b4, b5, b6, b00, b02, -, -, -, b06, b07, -, -⟩ := wb_e (P := P)
  have o1 := ok.1
  refine ⟨⟨fun h h0 h1 => ?_, fun t t0 t1 => ?_, ?_⟩, fun h h0 h1 _ => ?_, ?_⟩
  · rw [b1, b2, b3, b4, b5]
    have := ok.2.2.2.1 h h0 h1
    exact ⟨this.2.2.1, this.2.2.2.1, this.2.2.2.2.1, by lia, by decide, by decide, .inl rfl, by decide, by decide⟩
  · rw [b6]
    have := ok.2.1 t t0 t1
    exact ⟨this.2.2.1, this.2.2.2.1⟩
  · rw [b02]
    have f := fb1 (n := P 0 4) (j := 0) (by lia) (by lia) (by decide) (by decide)
    refine ⟨f.2.1, f.2.2, fun j a b => ?_⟩
    rw [(fb1 (n := P 0 4) (j := j) (by lia) (by lia) (by lia) b).1, if_neg (by lia)]
  · rw [b2]
    have := ok.2.2.2.1 h h0 h1
    lia
  · unfold TK
    rw [b06, b07]
    decide
def bgl (h : Hp) (w : Nat) : Hp :=
  nmd (pI h w 0 0) fun h1 =>
  nmd (pL h1 w 1 (h1.1 26 2).toInt64) fun h2 =>
  nmd (pI h2 w 2 (((1 : Int32) <<< (h2.1 26 4 &&& 31)) - 1)) fun h3 =>
  nmd (pI h3 w 3 0) fun h4 =>
  nmd (pI h4 w 4 0) fun h5 =>
  nmd (pI h5 w 5 0) fun h6 =>
  nmd (pI h6 w 6 0) fun h7 =>
  nmd (pI h7 w 7 0) fun h8 =>
  nmd (pI h8 w 8 (-1)) fun h9 => h9
theorem bgl_e {h : Hp} {w : Nat} (q : ¬ 26 = w) : Fr (fun c => c = w) h (bgl h w) ∧ (bgl h w).1 w 0 = 0 ∧ (bgl h w).1 w 2 = ((1 : Int32) <<< (h.1 26 4 &&& 31)) - 1 ∧ (bgl h w).1 w 3 = 0 ∧ (bgl h w).1 w 4 = 0 ∧ (bgl h w).1 w 5 = 0 ∧ (bgl h w).1 w 6 = 0 ∧ (bgl h w).1 w 7 = 0 ∧ (bgl h w).1 w 8 = -1 ∧ (bgl h w).2 w 1 = (h.1 26 2).toInt64 := by
  unfold bgl
  simp only [nmd_q, pI_n q, pL_l, pI_l]
  refine ⟨fr_w (fr_w (fr_w (fr_w (fr_w (fr_w (fr_w (Fr.tr (Fr.pI rfl) (Fr.pL rfl)) rfl) rfl) rfl) rfl) rfl) rfl) rfl, ?_⟩
  simp [pI_t, pL_l, pL_t, pI_l]
theorem wo_bg {h : Hp} {w : Nat} : f_Wo_begin TC h w 26 = ((f_Tt_copy TC (bgl h w) (lay TC 26 13) (lay TC w 9)).bind fun r10 => (f_Tt_copy TC r10 (lay TC 26 14) (lay TC w 10)).bind fun r11 => (f_Ar_fill TC r11 (lay TC w 11) 0).bind fun r12 => (f_Ar_fill TC r12 (lay TC w 12) (-2)).bind fun r13 => (f_Ar_fill TC r13 (lay TC w 13) 0).bind fun r14 => (f_Tt_copy TC r14 (lay TC 26 8) (lay TC w 14)).bind fun r15 => some r15) := by
  unfold f_Wo_begin bgl
  simp only [nmd_q]
theorem al26 : al TC 34 = 6 ∧ al TC 35 = 6 ∧ al TC 29 = 6 := by
  simp only [alC, and_self]
theorem wbC {h : Hp} {P : Pl} {w : Nat} (hw : WC w) (ok : POK P) (x : CP h 26 P) : ∃ h', f_Wo_begin TC h w 26 = some h' ∧ CW h' P w (wb P) ∧ Fr (WR w) h h' := by
  have o1 := ok.1
  obtain ⟨a1, a2, a3, a4, a5, a6⟩ := hw.al
  obtain ⟨l1, l2, l3, l4, l5, l6⟩ := hw.ly
  have ne := hw.ne
  obtain ⟨f0, e0, e2, e3, e4, e5, e6, e7, e8, en⟩ := bgl_e (h := h) (show ¬ 26 = w by omega)
  obtain ⟨b1, b2, b3, b4, b5, b6, b00, b02, b03, b04, b05, b06, b07, b08, bn⟩ := wb_e (P := P)
  rw [wo_bg, l1, l2, l3, l4, l5, l6]
  simp only [lyC]
  obtain ⟨h1, c1, p1, q1, r1⟩ := cpT (h := bgl h w) al26.1 a1 (by decide)
  rw [c1, bnd_q]
  obtain ⟨h2, c2, p2, q2, r2⟩ := cpT (h := h1) al26.2.1 a2 (by decide)
  rw [c2, bnd_q]
  obtain ⟨h3, c3, p3, q3, r3, -⟩ := fillT (tb := TC) (h := h2) (v := 0) a3 (by decide)
  rw [c3, bnd_q]
  obtain ⟨h4, c4, p4, q4, r4, -⟩ := fillT (tb := TC) (h := h3) (v := -2) a4 (by decide)
  rw [c4, bnd_q]
  obtain ⟨h5, c5, p5, q5, r5, -⟩ := fillT (tb := TC) (h := h4) (v := 0) a5 (by decide)
  rw [c5, bnd_q]
  obtain ⟨h6, c6, p6, q6, r6⟩ := cpT (h := h5) al26.2.2 a6 (by decide)
  rw [c6, bnd_q]
  have g0 : ∀ d, ¬ d = w → (bgl h w).1 d = h.1 d := fun d hd => (f0 d hd).1
  have n2 : h6.2 = (bgl h w).2 := by rw [p6, p5, p4, p3, p2, p1]
  have n1 : ∀ d, ¬ WR w d ∨ d = w → h6.1 d = (bgl h w).1 d := fun d hd => by
    unfold WR at hd
    rw [q6 d (by omega), q5 d (by omega), q4 d (by omega), q3 d (by omega), q2 d (by omega), q1 d (by omega)]
  refine ⟨h6, rfl, ⟨fun r ra rb i i0 i1 => ?_, fun t t0 t1 => ?_, ?_, ?_⟩, fun c hc => ⟨?_, ?_⟩⟩
  · have j6 := ix_lt (n := 6) i0 (by decide) (show i < 6 by lia)
    have xp := x.2.2.2.1 i i0 i1
    rcases (show r = 1 ∨ r = 2 ∨ r = 3 ∨ r = 4 ∨ r = 5 by omega) with rfl | rfl | rfl | rfl | rfl
    · rw [b1, q6 _ (by omega), q5 _ (by omega), q4 _ (by omega), q3 _ (by omega), q2 _ (by omega), r1 _ j6, g0 _ (by omega)]
      exact xp.2.2.1
    · rw [b2, q6 _ (by omega), q5 _ (by omega), q4 _ (by omega), q3 _ (by omega), r2 _ j6, q1 _ (by omega), g0 _ (by omega)]
      exact xp.2.2.2.1
    · rw [b3, q6 _ (by omega), q5 _ (by omega), q4 _ (by omega), r3 _ j6]
    · rw [b4, q6 _ (by omega), q5 _ (by omega), r4 _ j6]
    · rw [b5, q6 _ (by omega), r5 _ j6]
  · have j6 := ix_lt (n := 6) t0 (by decide) (show t < 6 by lia)
    rw [b6, r6 _ j6, q5 _ (by omega), q4 _ (by omega), q3 _ (by omega), q2 _ (by omega), q1 _ (by omega), g0 _ (by omega)]
    exact (x.2.1 t t0 t1).2.2.1
  · rw [n1 w (.inr rfl), e0, e2, e3, e4, e5, e6, e7, e8, b00, b02, b03, b04, b05, b06, b07, b08, x.1.2.2.2.2.1]
    exact ⟨rfl, rfl, rfl, rfl, rfl, rfl, rfl, rfl⟩
  · rw [n2, en, bn, x.1.2.2.1]
  · rw [n1 c (.inl hc)]
    exact g0 c (fun z => hc (by unfold WR; omega))
  · rw [n2]
    exact (f0 c (fun z => hc (by unfold WR; omega))).2
theorem pI_x {h : Hp} {c a d s : Nat} {x : Int32} (n : ¬ (d = c ∧ s = a)) : (pI h c a x).1 d s = h.1 d s := by
  rw [pI_1]
  by_cases q : d = c
  · rw [if_pos q, if_neg (fun z => n ⟨q, z⟩)]
  · rw [if_neg q]
theorem ix6b {b i : Int32} (hb : BOK b) (i0 : 0 ≤ i) (i6 : i < 6) : ix (6 * b) ≤ ix (6 * b + i) ∧ ix (6 * b + i) < ix (6 * b) + 6 ∧ 0 ≤ 6 * b + i ∧ 6 * b + i < 12 := by
  have l := ix_lt (n := 6) i0 (by decide) i6
  rcases hb with rfl | rfl
  · have e : ix ((6 : Int32) * 0) = 0 := by decide
    rw [i60, e]
    exact ⟨by omega, by omega, i0, by lia⟩
  · have e : ix ((6 : Int32) * 1) = 6 := by decide
    rw [i61, e, ix_6 i0 i6]
    exact ⟨by omega, by omega, by lia, by lia⟩
/-- where the reference writes as it begins -/
def AF (b : Int32) (c s : Nat) : Prop := (27 ≤ c ∧ c ≤ 33 ∧ ix (6 * b) ≤ s ∧ s < ix (6 * b) + 6) ∨ (34 ≤ c ∧ c ≤ 39 ∧ s = ix b)
theorem pI_ixa {h : Hp} {c d : Nat} {i j x : Int32} (h0 : 0 ≤ i) (h1 : 0 ≤ j) : (pI h c (ix i) x).1 d (ix j) = if d = c ∧ j = i then x else h.1 d (ix j) := by
  by_cases q : d = c
  · subst q
    rw [pI_ix h0 h1]
    by_cases z : j = i
    · rw [if_pos z, if_pos ⟨rfl, z⟩]
    · rw [if_neg z, if_neg (fun w => z w.2)]
  · rw [pI_n q, if_neg (fun w => q w.1)]
theorem af1 {h h2 : Hp} {b k : Int32} {n : Nat} (hb : BOK b) (k0 : 0 ≤ k) (k6 : k < 6) (I : (∀ c s, ¬ AF b c s → h2.1 c s = h.1 c s) ∧ h2.2 = h.2 ∧ OZ h2 ∧ ∀ j, 0 ≤ j → j < k → h2.1 27 (ix (6 * b + j)) = h.1 11 (ix j) ∧ h2.1 28 (ix (6 * b + j)) = h.1 12 (ix j) ∧ h2.1 29 (ix (6 * b + j)) = -1 ∧ h2.1 30 (ix (6 * b + j)) = 0 ∧ h2.1 31 (ix (6 * b + j)) = 1 ∧ h2.1 32 (ix (6 * b + j)) = 0) :
    ∃ h', lp_Md_atFirst_2 TR (n + 1) h2 0 b k = lp_Md_atFirst_2 TR n h' 0 b (k + 1) ∧ (∀ c s, ¬ AF b c s → h'.1 c s = h.1 c s) ∧ h'.2 = h.2 ∧ OZ h' ∧ ∀ j, 0 ≤ j → j < k + 1 → h'.1 27 (ix (6 * b + j)) = h.1 11 (ix j) ∧ h'.1 28 (ix (6 * b + j)) = h.1 12 (ix j) ∧ h'.1 29 (ix (6 * b + j)) = -1 ∧ h'.1 30 (ix (6 * b + j)) = 0 ∧ h'.1 31 (ix (6 * b + j)) = 1 ∧ h'.1 32 (ix (6 * b + j)) = 0 := by
  obtain ⟨i1, i2, i3, i4⟩ := I
  obtain ⟨x1, x2, x3, x4⟩ := ix6b hb k0 k6
  have k12 : k < 12 := by lia
  have hb1 : bit 1 = true := by decide
  have n11 : ∀ s, ¬ AF b 11 s := fun s z => by unfold AF at z; omega
  have n12 : ∀ s, ¬ AF b 12 s := fun s z => by unfold AF at z; omega
  have g11 : h2.1 11 (ix k) = h.1 11 (ix k) := i1 11 _ (n11 _)
  have g12 : h2.1 12 (ix k) = h.1 12 (ix k) := i1 12 _ (n12 _)
  refine ⟨pI (pI (pI (pI (pI (pI h2 27 (ix (6 * b + k)) (h.1 11 (ix k))) 28 (ix (6 * b + k)) (h.1 12 (ix k))) 29 (ix (6 * b + k)) (-1)) 30 (ix (6 * b + k)) 0) 31 (ix (6 * b + k)) 1) 32 (ix (6 * b + k)) 0, ?_, fun c s q => ?_, ?_, fun s => ?_, fun j j0 j1 => ?_⟩
  · rw [lp_Md_atFirst_2, if_neg (show ¬ (6 : Int32) ≤ k by lia)]
    simp (disch := first | assumption | decide | omega) only [lyR, rdR, wtR, bnd_q, nmd_q, pI_n, g11, g12]
  · have q' : ∀ d, 27 ≤ d → d ≤ 32 → ¬ (c = d ∧ s = ix (6 * b + k)) := fun d d1 d2 z => q (by unfold AF; omega)
    rw [pI_x (q' 32 (by decide) (by decide)), pI_x (q' 31 (by decide) (by decide)), pI_x (q' 30 (by decide) (by decide)), pI_x (q' 29 (by decide) (by decide)), pI_x (q' 28 (by decide) (by decide)), pI_x (q' 27 (by decide) (by decide))]
    exact i1 c s q
  · simp only [pI_l]
    exact i2
  · rw [pI_n (by decide), pI_t]
    split
    · exact hb1
    · rw [pI_n (by decide), pI_n (by decide), pI_n (by decide), pI_n (by decide)]
      exact i3 s
  · have y0 : 0 ≤ 6 * b + j := by
      have := ix6b hb j0 (show j < 6 by lia)
      exact this.2.2.1
    simp only [pI_ixa x3 y0]
    by_cases z : j = k
    · subst z
      simp
    · have z' : ¬ 6 * b + j = 6 * b + k := by lia
      simp only [z', and_false, if_false]
      exact i4 j j0 (by lia)
theorem af2 {h h2 : Hp} {b k : Int32} {n : Nat} (hb : BOK b) (k0 : 0 ≤ k) (k6 : k < 6) (I : (∀ c s, ¬ (c = 33 ∧ AF b c s) → h2.1 c s = h.1 c s) ∧ h2.2 = h.2 ∧ ∀ j, 0 ≤ j → j < k → h2.1 33 (ix (6 * b + j)) = h.1 7 (ix j)) :
    ∃ h', lp_Md_atFirst_98 TR (n + 1) h2 0 b k = lp_Md_atFirst_98 TR n h' 0 b (k + 1) ∧ (∀ c s, ¬ (c = 33 ∧ AF b c s) → h'.1 c s = h.1 c s) ∧ h'.2 = h.2 ∧ ∀ j, 0 ≤ j → j < k + 1 → h'.1 33 (ix (6 * b + j)) = h.1 7 (ix j) := by
  obtain ⟨i1, i2, i4⟩ := I
  obtain ⟨x1, x2, x3, x4⟩ := ix6b hb k0 k6
  have k12 : k < 12 := by lia
  have g7 : h2.1 7 (ix k) = h.1 7 (ix k) := i1 7 _ (by omega)
  refine ⟨pI h2 33 (ix (6 * b + k)) (h.1 7 (ix k)), ?_, fun c s q => ?_, ?_, fun j j0 j1 => ?_⟩
  · rw [lp_Md_atFirst_98, if_neg (show ¬ (6 : Int32) ≤ k by lia)]
    simp (disch := first | assumption | decide | omega) only [lyR, rdR, wtR, bnd_q, nmd_q, g7]
  · rw [pI_x (fun z => q (by unfold AF; omega))]
    exact i1 c s q
  · rw [pI_l]
    exact i2
  · have y0 : 0 ≤ 6 * b + j := by
      have := ix6b hb j0 (show j < 6 by lia)
      exact this.2.2.1
    rw [pI_ix x3 y0]
    by_cases z : j = k
    · subst z
      rw [if_pos rfl]
    · rw [if_neg (by lia)]
      exact i4 j j0 (by lia)
theorem afR {h : Hp} {P : Pl} {b : Int32} (hb : BOK b) (ok : POK P) (x : RP h P) (oz : OZ h) : ∃ h', f_Md_atFirst TR h 0 b = some h' ∧ RW h' P b (wb P) ∧ RD h' b (P 0 4) (wb P) ∧ OZ h' ∧ h'.2 = h.2 ∧ ∀ c s, ¬ AF b c s → h'.1 c s = h.1 c s := by
  have o1 := ok.1
  have b0 : 0 ≤ b := by rcases hb with rfl | rfl <;> decide
  have b2 : b < 2 := by rcases hb with rfl | rfl <;> decide
  obtain ⟨w1, w2, w3, w4, w5, w6, w00, w02, w03, w04, w05, w06, w07, w08, wn⟩ := wb_e (P := P)
  obtain ⟨h1, e1, i1, i2, i3, i4⟩ := loopF (S := Unit) (R := Hp) (f := fun _ s => s) (N := 6) (lp := fun n h k => lp_Md_atFirst_2 TR n h 0 b k) (res := fun h => lp_Md_atFirst_98 TR fu h 0 b 0) (fun k _ h2 => (∀ c s, ¬ AF b c s → h2.1 c s = h.1 c s) ∧ h2.2 = h.2 ∧ OZ h2 ∧ ∀ j, 0 ≤ j → j < k → h2.1 27 (ix (6 * b + j)) = h.1 11 (ix j) ∧ h2.1 28 (ix (6 * b + j)) = h.1 12 (ix j) ∧ h2.1 29 (ix (6 * b + j)) = -1 ∧ h2.1 30 (ix (6 * b + j)) = 0 ∧ h2.1 31 (ix (6 * b + j)) = 1 ∧ h2.1 32 (ix (6 * b + j)) = 0) (by decide) (by decide) (fun n h2 _ _ => by rw [lp_Md_atFirst_2, if_pos (by decide)]) (fun n h2 k _ k0 k6 I => af1 hb k0 k6 I) 0 (by decide) (by decide) () h ⟨fun _ _ _ => rfl, rfl, oz, fun j a b => absurd b (by lia)⟩
  obtain ⟨h2, e2, j1, j2, j4⟩ := loopF (S := Unit) (R := Hp) (f := fun _ s => s) (N := 6) (lp := fun n h k => lp_Md_atFirst_98 TR n h 0 b k) (res := fun h => lp_Md_atFirst_98 TR (0 + 1) h 0 b 6) (fun k _ h2 => (∀ c s, ¬ (c = 33 ∧ AF b c s) → h2.1 c s = h1.1 c s) ∧ h2.2 = h1.2 ∧ ∀ j, 0 ≤ j → j < k → h2.1 33 (ix (6 * b + j)) = h1.1 7 (ix j)) (by decide) (by decide) (fun n h2 _ _ => by rw [lp_Md_atFirst_98, lp_Md_atFirst_98, if_pos (by decide), if_pos (by decide)]) (fun n h2 k _ k0 k6 I => af2 hb k0 k6 I) 0 (by decide) (by decide) () h1 ⟨fun _ _ _ => rfl, rfl, fun j a b => absurd b (by lia)⟩
  have e1' : lp_Md_atFirst_2 TR fu h 0 b 0 = lp_Md_atFirst_98 TR fu h1 0 b 0 := e1
  have e2' : lp_Md_atFirst_98 TR fu h1 0 b 0 = lp_Md_atFirst_98 TR (0 + 1) h2 0 b 6 := e2
  unfold f_Md_atFirst
  rw [e1', e2', lp_Md_atFirst_98, if_pos (by decide)]
  simp (disch := first | assumption | decide | omega) only [lyR, wtR, bnd_q]
  generalize hh : pI (pI (pI (pI (pI (pI h2 34 (ix b) 0) 35 (ix b) 0) 36 (ix b) 0) 37 (ix b) 0) 38 (ix b) 0) 39 (ix b) 0 = h3
  have g : ∀ c s, ¬ (34 ≤ c ∧ c ≤ 39 ∧ s = ix b) → h3.1 c s = h2.1 c s := fun c s q => by
    rw [← hh, pI_x (by omega), pI_x (by omega), pI_x (by omega), pI_x (by omega), pI_x (by omega), pI_x (by omega)]
  have g2 : h3.2 = h2.2 := by
    rw [← hh]
    simp only [pI_l]
  have z : ∀ c, 34 ≤ c → c ≤ 39 → h3.1 c (ix b) = 0 := fun c c1 c2 => by
    rw [← hh]
    rcases (show c = 34 ∨ c = 35 ∨ c = 36 ∨ c = 37 ∨ c = 38 ∨ c = 39 by omega) with rfl | rfl | rfl | rfl | rfl | rfl <;> simp [pI_1]
  clear hh
  have rd : ∀ c j, 27 ≤ c → c ≤ 32 → 0 ≤ j → j < 6 → h3.1 c (ix (6 * b + j)) = h1.1 c (ix (6 * b + j)) := fun c j c1 c2 j0 j6 => by
    rw [g c _ (by omega), j1 c _ (by omega)]
  have s0 : sy 0 = 0 := by decide
  refine ⟨h3, rfl, ⟨fun i a c => ?_, fun i a c => ?_, fun i a c => ?_, fun i a c => ?_, fun i a c => ?_, fun i a c => ?_, ?_⟩, fun i a c => ?_, fun s => ?_, by rw [g2, j2, i2], fun c s q => ?_⟩
  · rw [rd 27 i (by decide) (by decide) a (by lia), (i4 i a (by lia)).1, w1]
    exact (x.2.2.1 i a c).2.2.1
  · rw [rd 28 i (by decide) (by decide) a (by lia), (i4 i a (by lia)).2.1, w2]
    exact (x.2.2.1 i a c).2.2.2.1
  · rw [rd 29 i (by decide) (by decide) a (by lia), (i4 i a (by lia)).2.2.1, w4]
    rfl
  · rw [rd 30 i (by decide) (by decide) a (by lia), (i4 i a (by lia)).2.2.2.1, w3]
  · rw [rd 31 i (by decide) (by decide) a (by lia), (i4 i a (by lia)).2.2.2.2.1, w02, (fb1 (n := P 0 4) (j := i) (by lia) (by lia) a (by lia)).1, if_pos c]
  · rw [g 33 _ (by omega), j4 i a (by lia), i1 7 _ (fun q => by unfold AF at q; omega), w6]
    exact (x.2.1 i a c).2.2.1
  · rw [z 34 (by decide) (by decide), z 35 (by decide) (by decide), z 36 (by decide) (by decide), z 37 (by decide) (by decide), z 38 (by decide) (by decide), z 39 (by decide) (by decide), w03, w04, w05, w00, w06, w07, s0]
    exact ⟨rfl, rfl, rfl, rfl, rfl, rfl⟩
  · rw [rd 32 i (by decide) (by decide) a (by lia), (i4 i a (by lia)).2.2.2.2.2, w5]
  · rw [g 31 s (by omega), j1 31 s (by omega)]
    exact i3 s
  · rw [g c s (fun w => q (.inr w)), j1 c s (fun w => q w.2)]
    exact i1 c s q
