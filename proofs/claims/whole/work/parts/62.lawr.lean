/-! the reference: names, amounts -/
theorem ftR {h : Hp} {P : Pl} {p : Int32} (ok : POK P) (x : RP h P) (h0 : 0 ≤ p) (h1 : p ≤ 60) : f_Md_troughAt TR h 0 p = some (P 5 p) := by
  have o1 := ok.1
  have o2 := ok.2.1
  have o3 := ok.2.2.1 p h0 h1
  have e12 := x.1.1
  unfold f_Md_troughAt f_Md_find
  simp only [lyR, e12]
  have key := loop_fu (N := P 0 3) (P := fun n i => i ≤ P 0 3 → (∀ j, 0 ≤ j → j < i → ¬ P 2 j = p) → lp_Md_find_3 TR n h 6 0 (P 0 3) p i = some (P 5 p)) (by lia)
    (fun n i a b c hn => by
      rw [lp_Md_find_3, if_pos b]
      rcases o3 with q | ⟨q1, q2, q3⟩
      · rw [q]
      · exact absurd q3 (hn _ q1 (by lia)))
    (fun n i a b ih c hn => by
      have z : (0 : Int32) + i = i := by lia
      have i12 : i < 12 := by lia
      rw [lp_Md_find_3, if_neg (by lia), z]
      simp (disch := first | assumption | decide | omega) only [rdR, bnd_q, (x.2.1 i a b).2.1, nmd_q]
      by_cases q : P 2 i = p
      · rw [if_pos q]
        have := (o2 i a b).2.2.2.2.2.2
        rw [q] at this
        rw [this]
      · rw [if_neg q]
        exact ih (by lia) (fun j j0 j1 => by
          by_cases k : j = i
          · rw [k]; exact q
          · exact hn j j0 (by lia)))
  rw [key 0 (by decide) (by lia) (fun j a b => absurd b (by lia)), bnd_q]
theorem paR {h : Hp} {P : Pl} {M : Mo} {i : Int32} (ok : POK P) (x : RP h P) (m : RMo h M) (h0 : 0 ≤ i) (h1 : i < P 0 4) : f_Md_paceOf TR h 0 i = some (P 10 i * M.2.2) := by
  have o1 := ok.1
  have i12 : i < 12 := by lia
  have e := (x.2.2.1 i h0 h1).2.2.2.2
  unfold f_Md_paceOf
  simp (disch := first | assumption | decide | omega) only [lyR, rdR, bnd_q, e]
  rcases m.1 with ⟨q1, q2⟩ | ⟨q1, q2⟩
  · rw [if_pos q1, q2, Int32.mul_one]
  · rw [if_neg q1, q2, Int32.mul_comm]
theorem gl_ok {P : Pl} {g : Int32} (ok : POK P) (h : g = -2 ∨ (0 ≤ g ∧ g < P 0 3)) : (0 ≤ gl g ↔ (0 ≤ g ∧ g < P 0 3)) ∧ ((0 ≤ g ∧ g < P 0 3) → gl g = g) := by
  unfold gl
  rcases h with rfl | ⟨a, b⟩
  · rw [if_pos rfl]
    exact ⟨⟨fun q => absurd q (by decide), fun q => absurd q.1 (by decide)⟩, fun q => absurd q.1 (by decide)⟩
  · rw [if_neg (by lia)]
    exact ⟨⟨fun _ => ⟨a, b⟩, fun _ => a⟩, fun _ => rfl⟩
def faA (P : Pl) (A : Aw) (i : Int32) : Int32 := if 0 ≤ A.1 4 i ∧ A.1 4 i < P 0 3 then abI (P 2 (A.1 4 i) - A.1 1 i) else 0
theorem faR {h : Hp} {P : Pl} {A : Aw} {b i : Int32} (hb : BOK b) (ok : POK P) (wo : WOK P A) (x : RP h P) (y : RW h P b A) (h0 : 0 ≤ i) (h1 : i < P 0 4) : f_Md_farOf TR h 0 b i = some (faA P A i) := by
  have o1 := ok.1
  have w1 := wo.1 i h0 h1
  obtain ⟨b0, b1⟩ := ib0 hb h0 (show i < 6 by lia)
  obtain ⟨g1, g2⟩ := gl_ok ok w1.2.2.2.2.2.2.1
  unfold f_Md_farOf faA f_Md_sizeOf abI
  simp (disch := first | assumption | decide | omega) only [lyR, rdR, bnd_q, nmd_q, y.1 i h0 h1, y.2.2.1 i h0 h1]
  by_cases q : 0 ≤ A.1 4 i ∧ A.1 4 i < P 0 3
  · rw [if_pos (g1.mpr q), if_pos q, g2 q]
    have q6 : A.1 4 i < 12 := by lia
    obtain ⟨q1, q2⟩ := q
    simp (disch := first | assumption | decide | omega) only [rdR, bnd_q, (x.2.1 _ q1 q2).2.1]
    split
    · rfl
    · congr 1
  · rw [if_neg (fun z => q (g1.mp z)), if_neg q]
theorem pL_f {h : Hp} {c a d : Nat} {x : Int64} (e : ¬ d = c) : (pL h c a x).2 d = h.2 d := funext fun _ => pL_n e
theorem RP.q {h h' : Hp} {P : Pl} (e : h'.1 = h.1) (x : RP h P) : RP h' P := by
  unfold RP at x ⊢
  rw [e]
  exact x
theorem RMo.q {h h' : Hp} {M : Mo} (e : h'.1 = h.1) (x : RMo h M) : RMo h' M := by
  unfold RMo at x ⊢
  rw [e]
  exact x
theorem RW.q {h h' : Hp} {P : Pl} {b : Int32} {A : Aw} (e : h'.1 = h.1) (x : RW h P b A) : RW h' P b A := by
  unfold RW at x ⊢
  rw [e]
  exact x
set_option maxRecDepth 4000 in
theorem lnR {h : Hp} {P : Pl} {L : Lw} {M : Mo} {d : Prop} {b : Int32} {A : Aw} {i : Int32} (hb : BOK b) (ok : POK P) (wo : WOK P A) (x : RH h P L M d b A) (h0 : 0 ≤ i) (h1 : i < P 0 4) : ∃ h', f_Md_layNames TR h 0 b i = some h' ∧ h'.1 = h.1 ∧ (∀ c, ¬ c = 25 → h'.2 c = h.2 c) ∧ ∀ j, j < 7 → h'.2 25 j = nmL P M.2.2 A i j := by
  have g := x.g
  have o1 := ok.1
  have i6 : i < 6 := by lia
  have i12 : i < 12 := by lia
  have w1 := wo.1 i h0 h1
  have hp60 : A.1 1 i ≤ 60 := by lia
  have ta := tat_ok ok w1.1 w1.2.1
  obtain ⟨b0, b1⟩ := ib0 hb h0 i6
  have b2 : b < 2 := by rcases hb with rfl | rfl <;> decide
  have b3 : 0 ≤ b := by rcases hb with rfl | rfl <;> decide
  unfold f_Md_layNames
  simp (disch := first | assumption | decide | omega) only [lyR, rdR, wtR, bnd_q, nmd_q, pL_l, g, ftR ok x.1 w1.1 hp60]
  rw [paR ok (x.1.q pL_l) (x.2.2.1.q pL_l) h0 h1]
  simp (disch := first | assumption | decide | omega) only [lyR, rdR, wtR, bnd_q, nmd_q, pL_l, g]
  have k84 : ∀ z : Int32, z = (if P 5 (A.1 1 i) = -1 then 0 else A.1 6 (P 5 (A.1 1 i))) → ∃ h', jb_Md_layNames_84 TR (pL (pL (pL h 25 (ix 0) (A.1 2 i).toInt64) 25 (ix 1) (P 10 i * M.2.2).toInt64) 25 (ix 2) (P 7 i).toInt64) 0 b i (6 * b + i) 25 3 z.toInt64 = some h' ∧ h'.1 = h.1 ∧ (∀ c, ¬ c = 25 → h'.2 c = h.2 c) ∧ ∀ j, j < 7 → h'.2 25 j = nmL P M.2.2 A i j := by
    intro z hz
    unfold jb_Md_layNames_84
    simp (disch := first | assumption | decide | omega) only [lyR, rdR, wtR, bnd_q, nmd_q, pL_l, g]
    rw [faR hb ok wo (x.1.q (by simp only [pL_l])) (x.2.2.2.2.q (by simp only [pL_l])) h0 h1, bnd_q]
    refine ⟨_, rfl, by simp only [pL_l], fun c hc => by simp only [pL_f hc], fun j hj => ?_⟩
    have e3 : (ix 3) = 3 := by simp only [ixl]
    rcases (show j = 0 ∨ j = 1 ∨ j = 2 ∨ j = 3 ∨ j = 4 ∨ j = 5 ∨ j = 6 by omega) with rfl | rfl | rfl | rfl | rfl | rfl | rfl
    · simp [pL_t, ixl, nmL, nmA]
    · simp [pL_t, ixl, nmL, nmA]
    · simp [pL_t, ixl, nmL, nmA]
    · simp [pL_t, ixl, nmL, nmA, hz]
    · simp [pL_t, ixl, nmL, nmA, faA]
    · simp [pL_t, ixl, nmL, nmA]
    · simp [pL_t, ixl, nmL, nmA]
  by_cases q : P 5 (A.1 1 i) = -1
  · rw [if_neg (by rw [q]; decide)]
    have := k84 0 (by rw [if_pos q])
    rwa [show (0 : Int32).toInt64 = 0 by decide] at this
  · obtain ⟨t0, t1, t2⟩ := ta q
    rw [if_pos t0]
    obtain ⟨c0, c1⟩ := ib0 hb t0 (show P 5 (A.1 1 i) < 6 by lia)
    simp (disch := first | assumption | decide | omega) only [lyR, rdR, wtR, bnd_q, nmd_q, pL_l, g]
    exact k84 _ (by rw [if_neg q])
theorem clp_e (v : Int64) : (if (0 : Int32) ≤ lg_cmp v 0 then (if lg_cmp v 99 ≤ (0 : Int32) then v.toInt32 else 99) else 0) = clp v := by
  have e0 : (0 : Int64).toInt32 = 0 := by decide
  have e1 : (99 : Int64).toInt32 = 99 := by decide
  unfold clp mxL mnL
  simp only [lc_ge0, lc_le0]
  by_cases q1 : v < 99
  · rw [if_pos q1]
    by_cases q2 : v < 0
    · rw [if_pos q2, if_neg (by simp [q2]), e0]
    · rw [if_neg q2, if_pos q2, if_pos (by lia)]
  · rw [if_neg q1, if_pos (show ¬ v < 0 by lia), if_neg (show ¬ (99 : Int64) < 0 by decide), e1]
    by_cases q3 : (99 : Int64) < v
    · rw [if_neg (by simp [q3])]
    · have : v = 99 := by lia
      subst this
      rfl
theorem alR17 : al TR 17 = 6 := by simp only [alR]
/-- an amount -/
theorem amR {h : Hp} {P : Pl} {L : Lw} {M : Mo} {d : Prop} {b : Int32} {A : Aw} {i : Int32} {q : Nat} (oth : Int32) (hb : BOK b) (ok : POK P) (lk : LOK L) (wo : WOK P A) (x : RH h P L M d b A) (h0 : 0 ≤ i) (h1 : i < P 0 4) (hq : q < 3) : ∃ h', f_Md_boundLaw TR h 0 b (nI q) i oth = some (amt L (nmL P M.2.2 A i) q oth, h') ∧ RG h h' := by
  obtain ⟨k1, k2, k3⟩ := lk q hq
  obtain ⟨c1, c2⟩ := x.2.1 q hq
  unfold f_Md_boundLaw amt
  simp only [lyR]
  rw [rI_ok (n := 6) alR17 (by omega) (by decide), bnd_q, c1]
  by_cases ht : L.2.1 q < L.2.2 q
  case neg =>
    rw [if_neg ht, if_pos rfl, if_neg ht]
    exact ⟨h, rfl, RG.rf⟩
  rw [if_pos ht, if_neg (by decide), if_pos ht]
  obtain ⟨c3, c4, c5⟩ := c2 ht
  obtain ⟨k4, y, k5⟩ := k3 ht
  obtain ⟨h2, e2, e3, e4, e5⟩ := lnR hb ok wo x h0 h1
  rw [e2, bnd_q]
  unfold f_Md_lawOf
  simp only [lyR, nmd_q]
  have g53 : ∀ c s, (c ≠ 0 ∨ s ≠ 53) → (pI h2 0 53 0).1 c s = h.1 c s := fun c s z => by
    rw [pI_1, e3]
    split
    · split
      · omega
      · rfl
    · rfl
  obtain ⟨h3, v, e6, e7, e8⟩ := evR (nm := nmL P M.2.2 A i) (fun j _ => nmL_inL j) k2 (show q < 6 by omega) k4 ht k5 (L.2.2 q - L.2.1 q) fu (L.2.1 q) (pI h2 0 53 0) [] [] (by omega) (by unfold fu; omega) (Nat.le_refl _) (by rw [Nat.sub_self]; rfl) trivial (by intro v hv; cases hv) (c5.mq fun c s z1 z2 => g53 c s (by omega)) (by rw [g53 _ _ (by omega)]; exact c4) (fun j hj => by rw [pI_l]; exact e5 j hj) (by rw [pI_t, if_pos rfl])
  rw [rI_ok (n := 6) alR18 (by omega) (by decide), bnd_q, g53 _ _ (by omega), c3, e7, bnd_q]
  have fr : RG h h3 := ⟨fun c s z => (e6.1 c s z).trans (g53 c s z), fun c z1 z2 => by rw [e6.2 c z2, pI_l]; exact e4 c z1⟩
  refine ⟨h3, ?_, fr⟩
  have el : one (evS L.1 (nmL P M.2.2 A i) (L.2.2 q - L.2.1 q) (L.2.1 q) []) = lawE L q (nmL P M.2.2 A i) := rfl
  rw [el] at e8
  cases hl : lawE L q (nmL P M.2.2 A i) with
  | none =>
    rw [hl] at e8
    obtain ⟨e9, -⟩ := e8
    rw [snd_q, e9, if_neg (by decide)]
  | some v' =>
    rw [hl] at e8
    obtain ⟨e9, e10⟩ := e8
    subst e10
    simp only [fst_q, snd_q]
    rw [e9, if_pos rfl, ← clp_e]
    split
    · split <;> rfl
    · rfl
