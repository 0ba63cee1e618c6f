/-! a law read -/
def REL (fr : Nat) (u u' : Hp) (K0 : Kn) (n : Int32) (T : Int32 → Int32) (q : Nat) (a0 : Int32) (x y : Option (Int32 × Hp)) : Prop := (∃ k g g', x = some (k, g) ∧ ¬ k = 0 ∧ y = some (0, g') ∧ LF fr u u' k g g') ∨ (∃ g g' K s v a j, x = some (0, pI g 20 q (nI s)) ∧ y = some (1, g') ∧ LWS fr u u' K0 n T a j g g' K s [] [v] 0 ∧ a0 ≤ a)
theorem n0 {m : Nat} (h : m ≤ 64) : (nI m = 0 ↔ m = 0) ∧ (nI m ≤ 0 ↔ m = 0) := ⟨nI_eq (b := 0) (by omega) (by omega), (nI_leI (b := 0) (by omega) (by omega)).trans (by omega)⟩
theorem elp {fr : Nat} {u u' : Hp} {K0 : Kn} {n a0 : Int32} {T : Int32 → Int32} {q : Nat} (hq : q < 3) : ∀ i : Int32, 0 ≤ i → ∀ {h h' : Hp} {K : Kn} {a j pd : Int32} {s : Nat} {W H : List Nat}, i ≤ a → a0 ≤ a → LWS fr u u' K0 n T a j h h' K s W H pd → INW h' W H pd → REL fr u u' K0 n T q a0 (lp_Lr_readE_25 TC fu h 24 (nI q) i) (lp_Md_sumRead_25 TR fu h' 0) := by
  refine loop_fu (N := 701) (P := fun m i => ∀ {h h' : Hp} {K : Kn} {a j pd : Int32} {s : Nat} {W H : List Nat}, i ≤ a → a0 ≤ a → LWS fr u u' K0 n T a j h h' K s W H pd → INW h' W H pd → REL fr u u' K0 n T q a0 (lp_Lr_readE_25 TC m h 24 (nI q) i) (lp_Md_sumRead_25 TR m h' 0)) (by decide) ?_ ?_
  · intro m i i0 i1 h h' K a j pd s W H ia _ x _
    exact absurd ia (by
      have z1 := x.2.2.1.1.1.2
      have z2 := x.2.2.1.2.2.2.2.2.2.1
      have z3 := x.2.2.1.2.2.2.2.2.2.2.1
      lia)
  · intro m i i0 i1 ih h h' K a j pd s W H ia a0a x iw
    have sc := x.2.2.1
    obtain ⟨-, -, -, -, -, -, -, k30, -, -⟩ := sc.k2
    obtain ⟨⟨c1, c2, c3⟩, c4, c5, c6⟩ := x.2.2.2.2.2.2.1
    have p1 := x.2.2.2.2.2.2.2.1
    have p2 := x.2.2.2.2.2.2.2.2
    simp only [lp_Lr_readE_25, lp_Md_sumRead_25, lyC, nmd_q, isg]
    rw [if_neg (show ¬ (700 : Int32) < i by lia), p1, p2, c4, c5]
    have body : REL fr u u' K0 n T q a0 (jb_Lr_readE_73 TC (lp_Lr_readE_25 TC m) h 24 (nI q) i) (jb_Md_sumRead_48 TR (lp_Md_sumRead_25 TR m) h' 0) := by
      unfold jb_Lr_readE_73 jb_Md_sumRead_48 jb_Lr_readE_91
      simp only [lyC, nmd_q]
      rw [p1, p2]
      have key : ∀ X Y : Option (Int32 × Hp), BR fr u u' K0 n T a X Y → REL fr u u' K0 n T q a0 (X.bind fun r1 => if r1.1 = 0 then (f_Sc_step TC r1.2 22).bind fun r2 => lp_Lr_readE_25 TC m r2 24 (nI q) (i + 1) else some (r1.1, r1.2)) (Y.bind fun r1 => if r1.1 = 0 then some (0, r1.2) else lp_Md_sumRead_25 TR m r1.2 0) := by
        intro X Y br
        rcases br with ⟨k, g, g', e1, e2, e3, e4⟩ | ⟨g, t, t', K2, s2, W2, H2, pd2, a2, j2, e1, e2, e3, e4, e5, e6⟩
        · rw [e1, e3, bnd_q, bnd_q]
          simp only [fst_q, snd_q]
          rw [if_neg e2, if_pos trivial]
          exact .inl ⟨k, g, g', rfl, e2, rfl, e4⟩
        · rw [e1, e3, bnd_q, bnd_q]
          simp only [fst_q, snd_q]
          rw [if_pos trivial, if_neg (show ¬ (1 : Int32) = 0 by decide), e2, bnd_q]
          exact ih (by lia) (by lia) e4 e5
      rcases iw with ⟨rfl, i1⟩ | ⟨rfl, i1⟩
      · rw [if_pos rfl, if_pos rfl]
        exact key _ _ (tsign x i1)
      · rw [if_neg (by decide), if_neg (by decide)]
        exact key _ _ (tpart x i1)
    by_cases d : h.1 22 0 = 30
    case neg =>
      rw [if_neg (show ¬ (h'.1 0 8 = 4 ∧ h'.1 0 9 = 59) from fun z => d (k30.mpr z)), if_pos (rfl : (0 : Int32) = 0)]
      by_cases z1 : pd = 0
      · rw [if_pos z1]
        by_cases z2 : nI (obW W) = 0
        · rw [if_pos z2, if_neg d]
          exact body
        · rw [if_neg z2]
          exact body
      · rw [if_neg z1]
        exact body
    rw [if_pos (k30.mp d), if_neg (show ¬ (1 : Int32) = 0 by decide)]
    by_cases z1 : pd = 0
    case neg =>
      rw [if_neg z1, if_neg z1]
      exact body
    rw [if_pos z1, if_pos z1]
    by_cases z2 : obW W = 0
    case neg =>
      rw [if_neg (fun z => z2 ((n0 (by omega)).1.mp z)), if_neg (fun z => z2 ((n0 (by omega)).2.mp z))]
      exact body
    rw [if_pos ((n0 (by omega)).1.mpr z2), if_pos ((n0 (by omega)).2.mpr z2), if_pos d]
    clear body ih
    subst z1
    have hl : H.length = 1 + bnW W := by
      rcases iw with w | w
      · exact w.2
      · exact absurd w.1 (by decide)
    obtain ⟨g, g', K2, s2, W2, H2, q1, q2, q3, q4, q5, q6, q7⟩ := stlC (r := 1) (by decide) x hl
    have w0 : W2 = [] := by
      rcases q7 with w | ⟨w, t, e, r⟩
      · exact w
      · subst e
        have := (rk0 (q3.2.2.2.2.2.1.2.2.2.2 w (List.mem_cons_self ..))).mp r
        rw [obc, if_pos this] at q5
        omega
    subst w0
    obtain ⟨v, rfl⟩ : ∃ v, H2 = [v] := by
      cases H2 with
      | nil => rw [List.length_nil] at q4; omega
      | cons v t => cases t with
        | nil => exact ⟨v, rfl⟩
        | cons w t =>
          rw [List.length_cons, List.length_cons, show bnW [] = 0 from rfl] at q4
          omega
    refine .inr ⟨g, g', K2, s2, v, a, j, ?_, by rw [q2, bnd_q], q3, a0a⟩
    rw [q1, bnd_q]
    unfold f_La_endLaw
    simp only [lyC]
    rw [q3.2.2.2.1.2.1, wI_ok alL.2.2.1 hq (by decide), bnd_q, bnd_q]
/-- the reference's line of a law, but its end -/
def lawR (h : Hp) : Option (Int32 × Hp) :=
  (f_Md_token TR h 0).bind fun r14 => if r14.1 0 8 = 1 ∧ 7 ≤ r14.1 0 9 ∧ r14.1 0 9 ≤ 9 then ((rI TR r14 17 (3 + r14.1 0 9 - 7)).bind fun x16 => if x16 = 0 then (wZ TR r14 17 (3 + r14.1 0 9 - 7) 1).bind fun h17 => (f_Md_token TR h17 0).bind fun r18 => (wI TR r18 18 (3 + r14.1 0 9 - 7) (r18.1 0 22)).bind fun h19 => (f_Md_sumRead TR h19 0).bind fun r20 => (wI TR r20.2 19 (3 + r14.1 0 9 - 7) (r20.2.1 0 22)).bind fun h21 => some (r20.1, h21) else some (0, (f_Md_wrong TR r14 0 3).2)) else some (0, (f_Md_wrong TR r14 0 1).2)
