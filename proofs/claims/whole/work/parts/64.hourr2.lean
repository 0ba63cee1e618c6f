/-! the reference: who meets, who falls, rain, an hour -/
theorem or_and_i {m n c : Int32} : (m ||| n) &&& c = (m &&& c) ||| (n &&& c) := Int32.toBitVec_inj.1 (by
  simp only [Int32.toBitVec_and, Int32.toBitVec_or]
  ext i
  simp [Bool.and_or_distrib_right])
theorem sy_or {m n : Int32} : sy (m ||| n) = sy m ||| sy n := by
  unfold sy
  simp only [or_and_i, Int32.shiftLeft_or]
  generalize (m &&& 2) <<< 3 = a1
  generalize (n &&& 2) <<< 3 = b1
  generalize (m &&& 4) <<< 6 = a2
  generalize (n &&& 4) <<< 6 = b2
  generalize (m &&& 8) <<< 9 = a3
  generalize (n &&& 8) <<< 9 = b3
  generalize (m &&& 64) <<< 3 = a4
  generalize (n &&& 64) <<< 3 = b4
  generalize (m &&& 128) <<< 6 = a5
  generalize (n &&& 128) <<< 6 = b5
  generalize (m &&& 2048) <<< 3 = a6
  generalize (n &&& 2048) <<< 3 = b6
  have : Std.Associative (α := Int32) (· ||| ·) := ⟨Int32.or_assoc⟩
  have : Std.Commutative (α := Int32) (· ||| ·) := ⟨Int32.or_comm⟩
  ac_rfl
theorem sy_p0 : ∀ a b : Fin 4, ¬ nI a.1 = nI b.1 → sy (pai (nI a.1) (nI b.1)) = ((1 : Int32) <<< ((4 * nI a.1 + nI b.1) &&& 31)) ||| ((1 : Int32) <<< ((4 * nI b.1 + nI a.1) &&& 31)) := by decide +kernel
theorem sy_p {a b : Int32} (a0 : 0 ≤ a) (a3 : a ≤ 3) (b0 : 0 ≤ b) (b3 : b ≤ 3) (q : ¬ a = b) : sy (pai a b) = ((1 : Int32) <<< ((4 * a + b) &&& 31)) ||| ((1 : Int32) <<< ((4 * b + a) &&& 31)) := by
  obtain ⟨x, rfl⟩ := fin_i32 (n := 4) a0 (by decide) (show a < 4 by lia)
  obtain ⟨y, rfl⟩ := fin_i32 (n := 4) b0 (by decide) (show b < 4 by lia)
  exact sy_p0 x y q
/-- what an hour's meetings leave alone: the drinks and where they fought -/
def RE (h h' : Hp) : Prop := (∀ s, h'.1 32 s = h.1 32 s) ∧ h'.1 0 68 = h.1 0 68
theorem huR {h : Hp} {P : Pl} {L : Lw} {M : Mo} {d : Prop} {b : Int32} {A : Aw} {i : Int32} (hb : BOK b) (ok : POK P) (lk : LOK L) (wo : WOK P A) (x : RH h P L M d b A) (h0 : 0 ≤ i) (h1 : i < P 0 4) : ∃ r h', f_Md_boundLaw TR h 0 b 2 i 1 = some r ∧ wI TR r.2 30 (6 * b + i) (f_Md_more TR r.2 0 (A.1 3 i) r.1) = some h' ∧ RH h' P L M d b (hu P L M i A) ∧ RF b d h h' ∧ RE h h' := by
  have o1 := ok.1
  have hi6 : i < 6 := by lia
  obtain ⟨b0, b1⟩ := ib0 hb h0 hi6
  obtain ⟨h2, e2, f2⟩ := amR (q := 2) 1 hb ok lk wo x h0 h1 (by decide)
  have x2 := x.mg ok f2
  have em : f_Md_more TR h2 0 (A.1 3 i) (amt L (nmL P M.2.2 A i) 2 1) = mnI 9999 (A.1 3 i + amt L (nmL P M.2.2 A i) 2 1) := by
    unfold f_Md_more mnI
    split <;> split <;> lia
  have rs := rs6 (c := 30) hb h0 hi6 (by decide) (by decide)
  refine ⟨_, pI h2 30 (ix (6 * b + i)) (mnI 9999 (A.1 3 i + amt L (nmL P M.2.2 A i) 2 1)), e2, ?_, ?_, f2.RF.tr (RF.pI rs), ?_⟩
  · simp only [fst_q, snd_q]
    rw [em]
    simp (disch := first | assumption | decide | omega) only [wtR]
  · unfold hu
    exact x2.wI ok rs (x2.2.2.2.2.w30 hb ok h0 h1)
  · exact ⟨fun s => by rw [pI_n (by decide), f2.1 _ _ (by omega)], by rw [pI_n (by decide), f2.1 _ _ (by omega)]⟩
def FPK (A : Aw) : Prop := A.1 0 8 = -1 ∨ 0 ≤ A.1 0 8
theorem hu_0 {P : Pl} {L : Lw} {M : Mo} {i j : Int32} {A : Aw} : (hu P L M i A).1 0 j = A.1 0 j := up_n (by decide)
theorem hu_5 {P : Pl} {L : Lw} {M : Mo} {i j : Int32} {A : Aw} : (hu P L M i A).1 5 j = A.1 5 j := up_n (by decide)
theorem me_5 {P : Pl} {L : Lw} {M : Mo} {i j k : Int32} {A : Aw} : (me P L M i j A).1 5 k = A.1 5 k := by
  unfold me tk fg fp
  repeat' split
  all_goals try rfl
  all_goals simp only [hu_5, up_n (show ¬ 5 = 0 by decide)]
theorem meR {h : Hp} {P : Pl} {L : Lw} {M : Mo} {d : Prop} {b : Int32} {A : Aw} {i j : Int32} (hb : BOK b) (ok : POK P) (lk : LOK L) (wo : WOK P A) (x : RH h P L M d b A) (h0 : 0 ≤ i) (h1 : i < P 0 4) (j0 : 0 ≤ j) (j1 : j < P 0 4) (rd : RD h b (P 0 4) A) (r68 : h.1 0 68 = A.1 0 8) (fk : FPK A) : ∃ h', f_Md_meets TR h 0 b i j = some h' ∧ RH h' P L M d b (me P L M i j A) ∧ RD h' b (P 0 4) (me P L M i j A) ∧ h'.1 0 68 = (me P L M i j A).1 0 8 ∧ FPK (me P L M i j A) ∧ RF b d h h' := by
  have g := x.g
  have o1 := ok.1
  have hi6 : i < 6 := by lia
  have hj6 : j < 6 := by lia
  have hi12 : i < 12 := by lia
  have hj12 : j < 12 := by lia
  have w1 := wo.1 i h0 h1
  have w2 := wo.1 j j0 j1
  have p1 := ok.2.2.2.1 i h0 h1
  have p2 := ok.2.2.2.1 j j0 j1
  have b2 : b < 2 := by rcases hb with rfl | rfl <;> decide
  have b3 : 0 ≤ b := by rcases hb with rfl | rfl <;> decide
  obtain ⟨b0, b1⟩ := ib0 hb h0 hi6
  obtain ⟨c0, c1⟩ := ib0 hb j0 hj6
  have stay : ∀ A', A' = A → ∃ h', some h = some h' ∧ RH h' P L M d b A' ∧ RD h' b (P 0 4) A' ∧ h'.1 0 68 = A'.1 0 8 ∧ FPK A' ∧ RF b d h h' := fun A' e => by
    subst e
    exact ⟨h, rfl, x, rd, r68, fk, RF.rf⟩
  have k34 := rs1 (b := b) (c := 34) (by decide) (by decide)
  have k35 := rs1 (b := b) (c := 35) (by decide) (by decide)
  have k38 := rs1 (b := b) (c := 38) (by decide) (by decide)
  have k39 := rs1 (b := b) (c := 39) (by decide) (by decide)
  have k68 : RS b 0 68 := .inl ⟨rfl, .inr rfl⟩
  unfold f_Md_meets me
  simp (maxSteps := 1000000) (disch := first | assumption | decide | omega) only [lyR, rdR, wtR, bnd_q, nmd_q, pI_n, g, rd i h0 h1, rd j j0 j1]
  by_cases q1 : bt (A.1 0 2) i = 0
  · rw [if_pos q1]
    refine stay _ ?_
    split
    · split
      · rfl
      · first | rfl | rw [if_pos q1]
    · rfl
  rw [if_neg q1]
  by_cases q2 : bt (A.1 0 2) j = 0
  · rw [if_pos q2]
    refine stay _ ?_
    split
    · split
      · rfl
      · first | rfl | rw [if_neg q1, if_pos q2]
    · rfl
  rw [if_neg q2]
  by_cases q3 : A.1 1 i = A.1 1 j
  case neg =>
    rw [if_neg q3, if_neg q3]
    exact stay _ rfl
  rw [if_pos q3, if_pos q3]
  by_cases q4 : P 7 i = P 7 j
  · rw [if_pos q4, if_pos q4]
    exact stay _ rfl
  rw [if_neg q4, if_neg q4, if_neg q1, if_neg q2]
  have es := sy_p p1.1 p1.2.1 p2.1 p2.2.1 q4
  rw [← es, ← sy_or, ← sy_or]
  have talk : ∃ h', some (pI (pI h 35 (ix b) (A.1 0 4 + 1)) 38 (ix b) (sy (A.1 0 6 ||| pai (P 7 i) (P 7 j)))) = some h' ∧ RH h' P L M d b (tk A (pai (P 7 i) (P 7 j))) ∧ RD h' b (P 0 4) (tk A (pai (P 7 i) (P 7 j))) ∧ h'.1 0 68 = (tk A (pai (P 7 i) (P 7 j))).1 0 8 ∧ FPK (tk A (pai (P 7 i) (P 7 j))) ∧ RF b d h h' := by
    unfold tk
    have y1 := x.wI ok k35 (x.2.2.2.2.w35 (y := A.1 0 4 + 1))
    have y2 := y1.wI ok k38 (y1.2.2.2.2.w38 (y := A.1 0 6 ||| pai (P 7 i) (P 7 j)))
    refine ⟨_, rfl, y2, fun k k0 k1 => ?_, ?_, ?_, (RF.pI k35).tr (RF.pI k38)⟩
    · rw [pI_n (by decide), pI_n (by decide), up_n (by decide), up_n (by decide)]
      exact rd k k0 k1
    · rw [pI_n (by decide), pI_n (by decide), up_s, if_neg (by decide), up_s, if_neg (by decide)]
      exact r68
    · unfold FPK
      rw [up_s, if_neg (by decide), up_s, if_neg (by decide)]
      exact fk
  by_cases q5 : 0 < A.1 5 i
  · rw [if_neg (show ¬ A.1 5 i + A.1 5 j ≤ 0 by lia), if_pos q5]
    exact talk
  rw [if_neg q5]
  by_cases q6 : A.1 5 j ≤ 0
  case neg =>
    rw [if_neg (show ¬ A.1 5 i + A.1 5 j ≤ 0 by lia), if_neg q6]
    exact talk
  rw [if_pos (show A.1 5 i + A.1 5 j ≤ 0 by lia), if_pos q6]
  clear talk stay
  have y1 := x.wI ok k34 (x.2.2.2.2.w34 (y := A.1 0 3 + 1))
  have y2 := y1.wI ok k39 (y1.2.2.2.2.w39 (y := A.1 0 7 ||| pai (P 7 i) (P 7 j)))
  have fin : ∀ (h2 : Hp) (A2 : Aw), RH h2 P L M d b A2 → WOK P A2 → RD h2 b (P 0 4) A2 → h2.1 0 68 = A2.1 0 8 → FPK A2 → RF b d h h2 → ∃ h', jb_Md_meets_185 TR h2 0 b i j (6 * b + i) (6 * b + j) = some h' ∧ RH h' P L M d b (hu P L M j (hu P L M i A2)) ∧ RD h' b (P 0 4) (hu P L M j (hu P L M i A2)) ∧ h'.1 0 68 = (hu P L M j (hu P L M i A2)).1 0 8 ∧ FPK (hu P L M j (hu P L M i A2)) ∧ RF b d h h' := by
    intro h2 A2 x2 o2 d2 s2 fk2 f2
    have g2 := x2.g
    obtain ⟨r3, h4, e3, e4, x4, f4, n4⟩ := huR hb ok lk o2 x2 h0 h1
    have g4 := x4.g
    obtain ⟨r5, h6, e5, e6, x6, f6, n6⟩ := huR hb ok lk (hu_ok o2 h0 h1) x4 j0 j1
    refine ⟨h6, ?_, x6, fun k k0 k1 => ?_, ?_, ?_, (f2.tr f4).tr f6⟩
    · unfold jb_Md_meets_185
      clear g
      simp (disch := first | assumption | decide | omega) only [lyR, rdR, bnd_q, nmd_q, g2, e3, e4]
      clear g2
      simp (disch := first | assumption | decide | omega) only [lyR, rdR, bnd_q, nmd_q, g4, e5, e6]
    · rw [n6.1, n4.1, hu_5, hu_5]
      exact d2 k k0 k1
    · rw [n6.2, n4.2, hu_0, hu_0]
      exact s2
    · unfold FPK
      rw [hu_0, hu_0]
      exact fk2
  have e68 : (pI (pI h 34 (ix b) (A.1 0 3 + 1)) 39 (ix b) (sy (A.1 0 7 ||| pai (P 7 i) (P 7 j)))).1 0 68 = A.1 0 8 := by
    rw [pI_n (by decide), pI_n (by decide)]
    exact r68
  have f2 : RF b d h (pI (pI h 34 (ix b) (A.1 0 3 + 1)) 39 (ix b) (sy (A.1 0 7 ||| pai (P 7 i) (P 7 j)))) := (RF.pI k34).tr (RF.pI k39)
  have rd2 : ∀ k, 0 ≤ k → k < P 0 4 → (pI (pI h 34 (ix b) (A.1 0 3 + 1)) 39 (ix b) (sy (A.1 0 7 ||| pai (P 7 i) (P 7 j)))).1 32 (ix (6 * b + k)) = A.1 5 k := fun k k0 k1 => by
    rw [pI_n (by decide), pI_n (by decide)]
    exact rd k k0 k1
  rw [r68]
  unfold fg fp
  by_cases q7 : A.1 0 8 = -1
  · rw [if_neg (by rw [q7]; decide), if_pos q7]
    have ex : up (up (up A 0 8 (A.1 1 i)) 0 3 ((up A 0 8 (A.1 1 i)).1 0 3 + 1)) 0 7 ((up A 0 8 (A.1 1 i)).1 0 7 ||| pai (P 7 i) (P 7 j)) = up (up (up A 0 3 (A.1 0 3 + 1)) 0 7 (A.1 0 7 ||| pai (P 7 i) (P 7 j))) 0 8 (A.1 1 i) := by
      rw [up_s, if_neg (by decide), up_s, if_neg (by decide)]
      refine Prod.ext (funext fun r => funext fun k => ?_) rfl
      simp only [up_1]
      by_cases z : r = 0
      · simp only [if_pos z]
        by_cases z1 : k = 3
        · subst z1
          rfl
        · by_cases z2 : k = 7
          · subst z2
            rfl
          · simp only [if_neg z1, if_neg z2]
      · simp only [if_neg z]
    rw [ex]
    have y3 := y2.wI (A' := up (up (up A 0 3 (A.1 0 3 + 1)) 0 7 (A.1 0 7 ||| pai (P 7 i) (P 7 j))) 0 8 (A.1 1 i)) (y := A.1 1 i) ok k68 y2.2.2.2.2.w0.w8
    refine fin _ _ y3 (up0_ok (by decide) (up0_ok (by decide) (up0_ok (by decide) wo))) (fun k k0 k1 => ?_) ?_ ?_ (f2.tr (RF.pI k68))
    · rw [pI_n (by decide), rd2 k k0 k1, up_n (by decide), up_n (by decide), up_n (by decide)]
    · rw [pI_t, if_pos rfl, up_s, if_pos rfl]
    · unfold FPK
      rw [up_s, if_pos rfl]
      exact .inr w1.1
  · rw [if_pos (fk.resolve_left q7), if_neg q7]
    refine fin _ _ y2 (up0_ok (by decide) (up0_ok (by decide) wo)) (fun k k0 k1 => ?_) ?_ ?_ f2
    · rw [rd2 k k0 k1, up_n (by decide), up_n (by decide)]
    · rw [e68, up_s, if_neg (by decide), up_s, if_neg (by decide)]
    · unfold FPK
      rw [up_s, if_neg (by decide), up_s, if_neg (by decide)]
      exact fk
theorem flR {h : Hp} {P : Pl} {L : Lw} {M : Mo} {d : Prop} {b : Int32} {A : Aw} {n : Nat} {i : Int32} (hb : BOK b) (ok : POK P) (wo : WOK P A) (x : RH h P L M d b A) (h0 : 0 ≤ i) (h1 : i < P 0 4) : ∃ h', lp_Md_hourGoes_159 TR (n + 1) h 0 b i = lp_Md_hourGoes_159 TR n h' 0 b (i + 1) ∧ RH h' P L M d b (fl i A) ∧ RF b d h h' ∧ RE h h' := by
  have g := x.g
  have o1 := ok.1
  have m := wo.2.2
  have hi6 : i < 6 := by lia
  obtain ⟨b0, b1⟩ := ib0 hb h0 hi6
  have k31 := rs6 (c := 31) hb h0 hi6 (by decide) (by decide)
  have c1 := fun j j0 j1 => clr_ok m.1 m.2.1 h0 hi6 (j := j) j0 j1
  have re : ∀ y, RE h (pI h 31 (ix (6 * b + i)) y) := fun y => ⟨fun s => by rw [pI_n (by decide)], by rw [pI_n (by decide)]⟩
  have off : ∀ A', (A' = up A 0 2 (clr (A.1 0 2) i)) → RH (pI h 31 (ix (6 * b + i)) 0) P L M d b A' := fun A' e => by
    subst e
    refine x.wI ok k31 (x.2.2.2.2.w31 hb ok h0 h1 ?_ ?_) rfl (fun _ => by decide)
    · rw [(c1 i h0 hi6).1, if_pos rfl]
    · intro j j0 j1 q
      rw [(c1 j j0 (by lia)).1, if_neg q]
  have same : RH (pI h 31 (ix (6 * b + i)) (bt (A.1 0 2) i)) P L M d b A := by
    have r := x.2.2.2.2.w31 (z := A.1 0 2) hb ok h0 h1 rfl (fun _ _ _ _ => rfl)
    rw [up_self] at r
    exact x.wI ok k31 r rfl (fun _ => by rcases bt_01 (A.1 0 2) i with q | q <;> rw [q] <;> decide)
  have hz : bit 0 = true := by decide
  have ho : bit 1 = true := by decide
  rw [lp_Md_hourGoes_159]
  unfold jb_Md_hourGoes_227 jb_Md_hourGoes_228
  simp (disch := first | assumption | decide | omega) only [lyR, rdR, wtR, bnd_q, nmd_q, pI_n, g]
  rw [if_neg (show ¬ P 0 4 ≤ i by lia)]
  unfold fl
  by_cases q0 : bt (A.1 0 2) i = 0
  · rw [if_pos q0]
    refine ⟨_, rfl, ?_, RF.pI k31 (fun _ => by decide), re _⟩
    rw [q0] at same
    by_cases q1 : 100 ≤ A.1 2 i
    · rw [if_pos q1]
      exact off _ rfl
    · rw [if_neg q1]
      split
      · exact same
      · exact off _ rfl
  rw [if_neg q0]
  have q00 := (bt_01 (A.1 0 2) i).resolve_left q0
  rw [q00] at same
  by_cases q1 : 100 ≤ A.1 2 i
  · rw [if_pos q1, if_pos q1]
    exact ⟨_, rfl, off _ rfl, RF.pI k31 (fun _ => by decide), re _⟩
  rw [if_neg q1, if_neg q1]
  by_cases q2 : 100 ≤ A.1 3 i
  · rw [if_pos q2, if_neg (by lia)]
    exact ⟨_, rfl, off _ rfl, RF.pI k31 (fun _ => by decide), re _⟩
  · rw [if_neg q2, if_pos (by lia)]
    exact ⟨_, rfl, same, RF.pI k31 (fun _ => by decide), re _⟩
theorem rem_e {v : Int64} (h0 : 0 ≤ v.toInt) (h1 : v.toInt < 32768) : (v - v / 100 * 100).toInt32 = v.toInt32 - v.toInt32 / 100 * 100 := by
  apply Int32.toInt_inj.mp
  have c64 : (100 : Int64).toInt = 100 := by decide
  have c32 : (100 : Int32).toInt = 100 := by decide
  have e1 : v.toInt32.toInt = v.toInt := by
    rw [Int64.toInt_toInt32]
    exact Int.bmod_eq_of_le (by omega) (by omega)
  have e2 : (v / 100).toInt = v.toInt / 100 := by
    rw [Int64.toInt_div_of_ne_right _ _ (by decide), c64, Int.tdiv_eq_ediv_of_nonneg h0]
  have e3 : (v / 100 * 100).toInt = v.toInt / 100 * 100 := by
    rw [Int64.toInt_mul, e2, c64]
    exact Int.bmod_eq_of_le (by omega) (by omega)
  have e4 : (v - v / 100 * 100).toInt = v.toInt - v.toInt / 100 * 100 := by
    rw [Int64.toInt_sub, e3]
    exact Int.bmod_eq_of_le (by omega) (by omega)
  have e5 : (v.toInt32 / 100).toInt = v.toInt / 100 := by
    rw [Int32.toInt_div_of_ne_right _ _ (by decide), c32, e1, Int.tdiv_eq_ediv_of_nonneg h0]
  have e6 : (v.toInt32 / 100 * 100).toInt = v.toInt / 100 * 100 := by
    rw [Int32.toInt_mul, e5, c32]
    exact Int.bmod_eq_of_le (by omega) (by omega)
  rw [Int64.toInt_toInt32, e4, Int32.toInt_sub, e6, e1]
theorem and_31 {z : Int64} : 0 ≤ (z &&& 2147483647).toInt ∧ (z &&& 2147483647).toInt < 2147483648 := by
  have e : (z &&& 2147483647).toBitVec.toNat ≤ 2147483647 := by
    rw [Int64.toBitVec_and, BitVec.toNat_and]
    have : (2147483647 : Int64).toBitVec.toNat = 2147483647 := by decide
    rw [this]
    exact Nat.and_le_right
  have e2 : (z &&& 2147483647).toInt = (z &&& 2147483647).toBitVec.toNat := by
    rw [← Int64.toInt_toBitVec]
    exact BitVec.toInt_eq_toNat_of_lt (by omega)
  omega
theorem drx_e {A : Aw} : (((drw A).2 / 65536) - ((drw A).2 / 65536) / 100 * 100).toInt32 = drx A - drx A / 100 * 100 := by
  unfold drx
  have a := and_31 (z := A.2 * 1103515245 + 12345)
  rw [← drw_2] at a
  have c : (65536 : Int64).toInt = 65536 := by decide
  have e : ((drw A).2 / 65536).toInt = (drw A).2.toInt / 65536 := by
    rw [Int64.toInt_div_of_ne_right _ _ (by decide), c, Int.tdiv_eq_ediv_of_nonneg a.1]
  exact rem_e (by omega) (by omega)
/-- does it rain -/
def rnB (M : Mo) (A : Aw) : Bool := if M.1 ≤ 0 then false else if 100 ≤ M.1 then true else if M.1 ≤ drx A - drx A / 100 * 100 then false else true
def rnA (M : Mo) (A : Aw) : Aw := if M.1 ≤ 0 then A else if 100 ≤ M.1 then A else drw A
theorem rn_e {P : Pl} {M : Mo} {t : Int32} {A : Aw} : rn P M t A = if rnB M A = true then rn1 P t (rnA M A) else rnA M A := by
  unfold rn rnB rnA
  by_cases q1 : M.1 ≤ 0
  · simp only [if_pos q1]
    rfl
  simp only [if_neg q1]
  by_cases q2 : 100 ≤ M.1
  · simp only [if_pos q2, if_true]
  simp only [if_neg q2]
  by_cases q3 : M.1 ≤ drx A - drx A / 100 * 100
  · simp only [if_pos q3]
    rfl
  · simp only [if_neg q3, if_true]
theorem rnA_1 {M : Mo} {A : Aw} : (rnA M A).1 = A.1 := by
  unfold rnA
  split
  · rfl
  split
  · rfl
  · exact drw_1
theorem rnB_0 {M : Mo} {A : Aw} (q : M.1 ≤ 0) : rnB M A = false ∧ rnA M A = A := by
  unfold rnB rnA
  rw [if_pos q, if_pos q]
  exact ⟨rfl, rfl⟩
theorem rnB_1 {M : Mo} {A : Aw} (q : 100 ≤ M.1) : rnB M A = true ∧ rnA M A = A := by
  have k : ¬ M.1 ≤ 0 := by lia
  unfold rnB rnA
  rw [if_neg k, if_pos q, if_neg k, if_pos q]
  exact ⟨rfl, rfl⟩
theorem rnB_2 {M : Mo} {A : Aw} (k : ¬ M.1 ≤ 0) (q : ¬ 100 ≤ M.1) : rnB M A = (if M.1 ≤ drx A - drx A / 100 * 100 then false else true) ∧ rnA M A = drw A := by
  unfold rnB rnA
  rw [if_neg k, if_neg q, if_neg k, if_neg q]
  exact ⟨rfl, rfl⟩
theorem isRn {h : Hp} {P : Pl} {L : Lw} {M : Mo} {d : Prop} {b : Int32} {A : Aw} (ok : POK P) (x : RH h P L M d b A) : ∃ h', f_Md_isRain TR h 0 = some ((if rnB M A = true then 1 else 0), h') ∧ RH h' P L M d b (rnA M A) ∧ RF b d h h' ∧ RE h h' := by
  have g := x.g
  have o1 := ok.1
  have rr := x.2.2.2.1
  have e100 : (100 : Int32).toInt64 = 100 := by decide
  have st : ∀ (y : Int32), y = (if rnB M A = true then 1 else 0) → A = rnA M A → ∃ h', some (y, h) = some ((if rnB M A = true then (1 : Int32) else 0), h') ∧ RH h' P L M d b (rnA M A) ∧ RF b d h h' ∧ RE h h' := fun y e1 e2 => by
    rw [← e2, e1]
    exact ⟨h, rfl, x, RF.rf, fun _ => rfl, rfl⟩
  unfold f_Md_isRain
  simp (disch := first | assumption | decide | omega) only [lyR, rdR, wtR, bnd_q, nmd_q, pI_n, g]
  have g0 := g.1
  clear g
  rcases rr with ⟨r1, r2, r3, r4, r5⟩ | ⟨r1, r2⟩ | ⟨r1, r2, r3, r4⟩
  · rw [if_pos r1]
    by_cases q1 : P 0 1 = 0
    · rw [if_pos q1]
      have k := rnB_0 (M := M) (A := A) (by lia)
      exact st _ (by rw [k.1]; rfl) k.2.symm
    rw [if_neg q1]
    by_cases q2 : P 0 1 = 100
    · rw [if_pos q2]
      have k := rnB_1 (M := M) (A := A) (by lia)
      exact st _ (by rw [k.1]; rfl) k.2.symm
    rw [if_neg q2, if_neg r2]
    unfold f_Md_number1
    rw [nmd_q, r4, e100]
    unfold mL
    rw [if_neg (by decide), bnd_q, bnd_q, pL_t, if_pos rfl]
    simp only [fst_q, snd_q, pL_l, rdR.2.2.2.1 _ 0 (by decide) (by decide), bnd_q, g0]
    rw [← drw_2, drx_e]
    obtain ⟨eB, eA⟩ := rnB_2 (M := M) (A := A) (by lia) (by lia)
    have f1 : RF b d h (pL h 0 67 (drw A).2) := ⟨fun c s _ => by rw [pL_l], fun c s z => by
      rw [pL_2]
      split
      · split
        · exact absurd (.inr (.inr ⟨r5, by omega, by omega⟩)) z
        · rfl
      · rfl, fun z s => by rw [pL_l]; exact z s⟩
    have x1 : RH (pL h 0 67 (drw A).2) P L M d b (drw A) := by
      refine x.chU ok f1 (.inl ⟨?_, ?_, r3, ?_, r5⟩) ?_
      · rw [pL_l]; exact r1
      · rw [pL_l]; exact r2
      · rw [pL_t, if_pos rfl]
      · exact (x.2.2.2.2.q pL_l).eq (fun r j _ => by rw [drw_1])
    rw [eA]
    have k : ∃ h', some ((if P 0 1 ≤ drx A - drx A / 100 * 100 then (0 : Int32) else 1), pL h 0 67 (drw A).2) = some ((if rnB M A = true then (1 : Int32) else 0), h') ∧ RH h' P L M d b (drw A) ∧ RF b d h h' ∧ RE h h' := by
      refine ⟨_, ?_, x1, f1, fun _ => by rw [pL_l], by rw [pL_l]⟩
      rw [eB, r3]
      split <;> rfl
    split
    · rename_i z
      rw [if_pos z] at k
      exact k
    · rename_i z
      rw [if_neg z] at k
      exact k
  · obtain ⟨eB', eA'⟩ := rnB_0 (M := M) (A := A) (by lia)
    have eB : (0 : Int32) = (if rnB M A = true then 1 else 0) := by rw [eB']; rfl
    have eA := eA'.symm
    by_cases q0 : h.1 0 70 = 0
    · rw [if_pos q0]
      have r3 := r2.resolve_left (fun z => z q0)
      rw [if_pos r3.1]
      by_cases q1 : P 0 1 = 0
      · rw [if_pos q1]
        exact st _ eB eA
      rw [if_neg q1, if_neg (by lia), if_pos r3.2]
      exact st _ eB eA
    · rw [if_neg q0]
      exact st _ eB eA
  · obtain ⟨eB', eA'⟩ := rnB_1 (M := M) (A := A) (by lia)
    have eB : (1 : Int32) = (if rnB M A = true then 1 else 0) := by rw [eB']; rfl
    have eA := eA'.symm
    rw [if_pos r2, if_neg (by lia)]
    by_cases q1 : P 0 1 = 100
    · rw [if_pos q1]
      exact st _ eB eA
    rw [if_neg q1, if_pos r3, if_neg (by lia)]
    exact st _ eB eA
theorem rnR {h : Hp} {P : Pl} {L : Lw} {M : Mo} {d : Prop} {b : Int32} {A : Aw} {n : Nat} {i : Int32} (hb : BOK b) (ok : POK P) (x : RH h P L M d b A) (h0 : 0 ≤ i) (h1 : i < P 0 3) (h9 : A.1 0 0 - A.1 0 0 / 10 * 10 = 9) : ∃ h', lp_Md_hourGoes_237 TR (n + 1) h 0 b i = lp_Md_hourGoes_237 TR n h' 0 b (i + 1) ∧ RH h' P L M d b (rn P M i A) ∧ RF b d h h' ∧ RE h h' := by
  have g := x.g
  have o1 := ok.1
  have hi6 : i < 6 := by lia
  have hi12 : i < 12 := by lia
  have b2 : b < 2 := by rcases hb with rfl | rfl <;> decide
  have b3 : 0 ≤ b := by rcases hb with rfl | rfl <;> decide
  obtain ⟨b0, b1⟩ := ib0 hb h0 hi6
  obtain ⟨h2, e2, x2, f2, n2⟩ := isRn ok x
  have g2 := x2.g
  rw [rnA_1] at g2
  have k33 := rs6 (c := 33) hb h0 hi6 (by decide) (by decide)
  rw [lp_Md_hourGoes_237]
  simp (disch := first | assumption | decide | omega) only [lyR, rdR, wtR, bnd_q, nmd_q, pI_n, g]
  rw [if_neg (show ¬ P 0 3 ≤ i by lia), if_pos h9, e2, bnd_q, rn_e]
  unfold jb_Md_hourGoes_310 jb_Md_hourGoes_311
  simp only [fst_q, snd_q, nmd_q]
  clear g
  by_cases q : rnB M A = true
  · rw [if_pos q, if_neg (by decide), if_pos q]
    have em : ∀ z : Int32, z ≤ 99 → mnI 99 z = z := fun z hz => by
      unfold mnI
      split <;> lia
    have em2 : ∀ z : Int32, ¬ z ≤ 99 → mnI 99 z = 99 := fun z hz => by
      unfold mnI
      split <;> lia
    simp (disch := first | assumption | decide | omega) only [lyR, rdR, wtR, bnd_q, nmd_q, g2]
    have r := x2.wI ok k33 (x2.2.2.2.2.w33 (y := mnI 99 (A.1 6 i + P 4 i)) hb ok h0 h1)
    have er : rn1 P i (rnA M A) = up (rnA M A) 6 i (mnI 99 (A.1 6 i + P 4 i)) := by
      unfold rn1
      rw [rnA_1]
    rw [er]
    have fr := f2.tr (RF.pI (d := d) (x := mnI 99 (A.1 6 i + P 4 i)) k33)
    have re : RE h (pI h2 33 (ix (6 * b + i)) (mnI 99 (A.1 6 i + P 4 i))) := ⟨fun s => by rw [pI_n (by decide)]; exact n2.1 s, by rw [pI_n (by decide)]; exact n2.2⟩
    by_cases q2 : A.1 6 i + P 4 i ≤ 99
    · rw [if_pos q2]
      rw [em _ q2] at r fr re ⊢
      exact ⟨_, rfl, r, fr, re⟩
    · rw [if_neg q2]
      rw [em2 _ q2] at r fr re ⊢
      exact ⟨_, rfl, r, fr, re⟩
  · rw [if_neg q, if_pos rfl, if_neg q]
    exact ⟨h2, rfl, x2, f2, n2⟩
