/-! what no horse sees changes nothing else in an hour -/
def EQ (S : Nat → Int32 → Prop) (A B : Aw) : Prop := (∀ r j, ¬ S r j → B.1 r j = A.1 r j) ∧ B.2 = A.2
def SO (S : Nat → Int32 → Prop) : Prop := ∀ r j, S r j → r = 4 ∨ r = 6
def SR (S : Nat → Int32 → Prop) (P : Pl) (A : Aw) (i : Int32) : Prop := ¬ S 4 i ∧ ¬ S 6 (P 5 (A.1 1 i))
theorem EQ.rf {S : Nat → Int32 → Prop} {A : Aw} : EQ S A A := ⟨fun _ _ _ => rfl, rfl⟩
theorem EQ.r {S : Nat → Int32 → Prop} {A B : Aw} (o : SO S) (e : EQ S A B) (r : Nat) (j : Int32) (h : ¬ r = 4 ∧ ¬ r = 6) : B.1 r j = A.1 r j := e.1 r j (fun z => by have := o r j z; omega)
theorem EQ.up {S : Nat → Int32 → Prop} {A B : Aw} {r : Nat} {i x : Int32} (e : EQ S A B) : EQ S (up A r i x) (up B r i x) := by
  refine ⟨fun q j z => ?_, by rw [up_2, up_2]; exact e.2⟩
  rw [up_1, up_1]
  split
  · split
    · rfl
    · exact e.1 q j z
  · exact e.1 q j z
theorem eq_us {S : Nat → Int32 → Prop} {A B : Aw} {r : Nat} {i x y : Int32} (e : EQ S A B) (s : S r i) : EQ S (up A r i x) (up B r i y) := by
  refine ⟨fun q j z => ?_, by rw [up_2, up_2]; exact e.2⟩
  rw [up_1, up_1]
  by_cases c : q = r
  · subst c
    rw [if_pos rfl, if_pos rfl]
    by_cases d : j = i
    · subst d
      exact absurd s z
    · rw [if_neg d, if_neg d]
      exact e.1 q j z
  · rw [if_neg c, if_neg c]
    exact e.1 q j z
theorem eq_nm {S : Nat → Int32 → Prop} {A B : Aw} {P : Pl} {pt i : Int32} (o : SO S) (e : EQ S A B) (s : SR S P A i) : nmL P pt B i = nmL P pt A i := by
  funext j
  unfold nmL nmA
  rw [e.r o 2 i (by decide), e.r o 1 i (by decide), e.1 4 i s.1, e.1 6 _ s.2, e.r o 3 i (by decide), e.r o 0 0 (by decide)]
theorem eq_w1 {S : Nat → Int32 → Prop} {A B : Aw} {P : Pl} {M : Mo} {i : Int32} (o : SO S) (e : EQ S A B) (s : ¬ S 4 i) : EQ S (wk1 P M i A) (wk1 P M i B) := by
  unfold wk1
  rw [e.1 4 i s, e.r o 1 i (by decide)]
  split
  · exact e.up
  · exact e
theorem eq_wk {S : Nat → Int32 → Prop} {A B : Aw} {P : Pl} {L : Lw} {M : Mo} {i : Int32} (o : SO S) (e : EQ S A B) (s : bt (A.1 0 2) i = 0 ∨ SR S P (wk1 P M i A) i) : EQ S (wk P L M i A) (wk P L M i B) := by
  unfold wk
  rw [e.r o 0 2 (by decide)]
  by_cases c : bt (A.1 0 2) i = 0
  · rw [if_pos c, if_pos c]
    exact e
  · rw [if_neg c, if_neg c]
    have s' := s.resolve_left c
    have e1 := eq_w1 (P := P) (M := M) o e s'.1
    unfold wk2
    rw [eq_nm o e1 s', e1.r o 2 i (by decide)]
    exact e1.up
theorem eq_dk {S : Nat → Int32 → Prop} {A B : Aw} {P : Pl} {L : Lw} {M : Mo} {i : Int32} (o : SO S) (e : EQ S A B) (s : bt (A.1 0 2) i = 0 ∨ SR S P A i) : EQ S (dk P L M i A) (dk P L M i B) := by
  unfold dk
  rw [e.r o 0 2 (by decide)]
  by_cases c : bt (A.1 0 2) i = 0
  · rw [if_pos c, if_pos c]
    exact e
  rw [if_neg c, if_neg c]
  have s' := s.resolve_left c
  unfold gul dk1
  rw [eq_nm o e s', e.r o 1 i (by decide), e.r o 2 i (by decide), e.1 6 _ s'.2, e.r o 0 5 (by decide)]
  split
  · exact e
  split
  · exact e
  split
  · exact e
  exact e.up.up.up.up
theorem eq_dkn {S : Nat → Int32 → Prop} {A B : Aw} {P : Pl} {L : Lw} {M : Mo} {i : Int32} (o : SO S) (e : EQ S A B) (s : bt (A.1 0 2) i = 0 ∨ SR S P A i) : EQ S (dkn P L M i A) (dkn P L M i B) := by
  unfold dkn
  split
  · exact e
  · exact eq_dk o e s
theorem eq_hu {S : Nat → Int32 → Prop} {A B : Aw} {P : Pl} {L : Lw} {M : Mo} {i : Int32} (o : SO S) (e : EQ S A B) (s : SR S P A i) : EQ S (hu P L M i A) (hu P L M i B) := by
  unfold hu
  rw [eq_nm o e s, e.r o 3 i (by decide)]
  exact e.up
theorem fgp_1 {A : Aw} {x q i : Int32} : (fg (fp A x) q).1 1 i = A.1 1 i := by
  unfold fg fp
  rw [up_n (by decide), up_n (by decide)]
  split
  · exact up_n (by decide)
  · rfl
theorem hu_1 {P : Pl} {L : Lw} {M : Mo} {i j : Int32} {A : Aw} : (hu P L M i A).1 1 j = A.1 1 j := by
  unfold hu
  exact up_n (by decide)
theorem eq_tk {S : Nat → Int32 → Prop} {A B : Aw} {q : Int32} (o : SO S) (e : EQ S A B) : EQ S (tk A q) (tk B q) := by
  unfold tk
  rw [e.r o 0 4 (by decide)]
  have e1 : EQ S (up A 0 4 (A.1 0 4 + 1)) (up B 0 4 (A.1 0 4 + 1)) := e.up
  rw [e.r o 0 6 (by decide)]
  exact e1.up
theorem eq_fp {S : Nat → Int32 → Prop} {A B : Aw} {q : Int32} (o : SO S) (e : EQ S A B) : EQ S (fp A q) (fp B q) := by
  unfold fp
  rw [e.r o 0 8 (by decide)]
  split
  · exact e.up
  · exact e
theorem eq_fg {S : Nat → Int32 → Prop} {A B : Aw} {q : Int32} (o : SO S) (e : EQ S A B) : EQ S (fg A q) (fg B q) := by
  unfold fg
  rw [e.r o 0 3 (by decide), e.r o 0 7 (by decide)]
  exact e.up.up
theorem eq_me {S : Nat → Int32 → Prop} {A B : Aw} {P : Pl} {L : Lw} {M : Mo} {i j : Int32} (o : SO S) (e : EQ S A B) (si : bt (A.1 0 2) i = 0 ∨ SR S P A i) (sj : bt (A.1 0 2) j = 0 ∨ SR S P A j) : EQ S (me P L M i j A) (me P L M i j B) := by
  unfold me
  rw [e.r o 1 i (by decide), e.r o 1 j (by decide), e.r o 0 2 (by decide), e.r o 5 i (by decide), e.r o 5 j (by decide)]
  by_cases c1 : A.1 1 i = A.1 1 j
  case neg =>
    rw [if_neg c1, if_neg c1]
    exact e
  rw [if_pos c1, if_pos c1]
  by_cases c2 : P 7 i = P 7 j
  · rw [if_pos c2, if_pos c2]
    exact e
  rw [if_neg c2, if_neg c2]
  by_cases c3 : bt (A.1 0 2) i = 0
  · rw [if_pos c3, if_pos c3]
    exact e
  rw [if_neg c3, if_neg c3]
  by_cases c4 : bt (A.1 0 2) j = 0
  · rw [if_pos c4, if_pos c4]
    exact e
  rw [if_neg c4, if_neg c4]
  by_cases c5 : 0 < A.1 5 i
  · rw [if_pos c5, if_pos c5]
    exact eq_tk o e
  rw [if_neg c5, if_neg c5]
  by_cases c6 : A.1 5 j ≤ 0
  · rw [if_pos c6, if_pos c6]
    have s1 := si.resolve_left c3
    have s2 := sj.resolve_left c4
    have f1 := eq_fg (q := pai (P 7 i) (P 7 j)) o (eq_fp (q := A.1 1 i) o e)
    refine eq_hu o (eq_hu o f1 ⟨s1.1, ?_⟩) ⟨s2.1, ?_⟩
    · rw [fgp_1]
      exact s1.2
    · rw [hu_1, fgp_1]
      exact s2.2
  · rw [if_neg c6, if_neg c6]
    exact eq_tk o e
theorem eq_fl {S : Nat → Int32 → Prop} {A B : Aw} {i : Int32} (o : SO S) (e : EQ S A B) : EQ S (fl i A) (fl i B) := by
  unfold fl
  rw [e.r o 2 i (by decide), e.r o 3 i (by decide), e.r o 0 2 (by decide)]
  split
  · exact e.up
  split
  · exact e
  · exact e.up
theorem eq_drw {S : Nat → Int32 → Prop} {A B : Aw} (e : EQ S A B) : EQ S (drw A) (drw B) := ⟨fun r j z => by rw [drw_1, drw_1]; exact e.1 r j z, by rw [drw_2, drw_2, e.2]⟩
theorem eq_rn1 {S : Nat → Int32 → Prop} {A B : Aw} {P : Pl} {t : Int32} (e : EQ S A B) : EQ S (rn1 P t A) (rn1 P t B) := by
  unfold rn1
  by_cases z : S 6 t
  · exact eq_us e z
  · rw [e.1 6 t z]
    exact e.up
theorem eq_rn {S : Nat → Int32 → Prop} {A B : Aw} {P : Pl} {M : Mo} {t : Int32} (e : EQ S A B) : EQ S (rn P M t A) (rn P M t B) := by
  have ed : drx B = drx A := by
    unfold drx
    rw [drw_2, drw_2, e.2]
  unfold rn
  rw [ed]
  split
  · exact e
  split
  · exact eq_rn1 e
  split
  · exact eq_drw e
  · exact eq_rn1 (eq_drw e)
theorem eq_lap {S : Nat → Int32 → Prop} {A B : Aw} {P : Pl} {l : Int32} (o : SO S) (e : EQ S A B) : EQ S (lap1 P l A) (lap1 P l B) := by
  unfold lap1
  rw [e.r o 0 0 (by decide)]
  split
  · exact e.up
  · exact e
theorem eq_dz {S : Nat → Int32 → Prop} {A B : Aw} (e : EQ S A B) : EQ S (dz A) (dz B) := by
  unfold dz
  refine ⟨fun r j z => ?_, e.2⟩
  show (if r = 5 then (0 : Int32) else B.1 r j) = (if r = 5 then (0 : Int32) else A.1 r j)
  by_cases c : r = 5
  · rw [if_pos c, if_pos c]
  · rw [if_neg c, if_neg c]
    exact e.1 r j z
/-- where a horse goes -/
def pw (P : Pl) (M : Mo) (A : Aw) (i : Int32) : Int32 := if 0 ≤ A.1 4 i ∧ A.1 4 i < P 0 3 then A.1 1 i + mxI (-(P 10 i * M.2.2)) (mnI (P 10 i * M.2.2) (P 2 (A.1 4 i) - A.1 1 i)) else A.1 1 i
theorem wk1_1 {P : Pl} {M : Mo} {A : Aw} {i j : Int32} : (wk1 P M i A).1 1 j = if j = i then pw P M A i else A.1 1 j := by
  unfold wk1 pw
  by_cases c : 0 ≤ A.1 4 i ∧ A.1 4 i < P 0 3
  · rw [if_pos c, if_pos c, up_s]
  · rw [if_neg c, if_neg c]
    split
    · rename_i d
      rw [d]
    · rfl
theorem wk_1 {P : Pl} {L : Lw} {M : Mo} {A : Aw} {i j : Int32} : (wk P L M i A).1 1 j = if bt (A.1 0 2) i = 0 then A.1 1 j else (wk1 P M i A).1 1 j := by
  unfold wk
  split
  · rfl
  · unfold wk2
    rw [up_n (by decide)]
theorem wk_4 {P : Pl} {L : Lw} {M : Mo} {A : Aw} {i j : Int32} : (wk P L M i A).1 4 j = A.1 4 j := by
  unfold wk
  split
  · rfl
  · unfold wk2 wk1
    rw [up_n (by decide)]
    split
    · exact up_n (by decide)
    · rfl
theorem pw_e {P : Pl} {M : Mo} {A B : Aw} {i : Int32} (e1 : B.1 1 i = A.1 1 i) (e4 : B.1 4 i = A.1 4 i) : pw P M B i = pw P M A i := by
  unfold pw
  rw [e1, e4]
/-- in the midst of walking -/
def WI (P : Pl) (M : Mo) (A : Aw) (k : Int32) (s : Aw) : Prop := s.1 0 2 = A.1 0 2 ∧ (∀ j, s.1 4 j = A.1 4 j) ∧ (∀ j, k ≤ j → s.1 1 j = A.1 1 j) ∧ ∀ j, 0 ≤ j → j < k → s.1 1 j = if bt (A.1 0 2) j = 0 then A.1 1 j else pw P M A j
theorem WI.st {P : Pl} {L : Lw} {M : Mo} {A s : Aw} {k : Int32} (k0 : 0 ≤ k) (k6 : k < 6) (x : WI P M A k s) : WI P M A (k + 1) (wk P L M k s) := by
  obtain ⟨x1, x2, x3, x4⟩ := x
  refine ⟨by rw [wk_0]; exact x1, fun j => by rw [wk_4]; exact x2 j, fun j h => ?_, fun j h0 h1 => ?_⟩
  · rw [wk_1, wk1_1, if_neg (show ¬ j = k by lia), ite_self]
    exact x3 j (by lia)
  · rw [wk_1, wk1_1, x1]
    by_cases c : j = k
    · subst c
      rw [if_pos rfl, pw_e (x3 j (by lia)) (x2 j), x3 j (by lia)]
    · rw [if_neg c, ite_self]
      exact x4 j h0 (by lia)
theorem wks_1 {P : Pl} {L : Lw} {M : Mo} {A : Aw} (ok : POK P) : WI P M A (P 0 4) (Fold (wk P L M) (P 0 4) 0 A) := by
  have o1 := ok.1
  exact Fold_inv (fun k s => WI P M A k s) (by lia) (fun i s i0 i1 x => x.st i0 (by lia)) _ 0 _ (by decide) (by lia) rfl ⟨rfl, fun _ => rfl, fun _ _ => rfl, fun j a b => absurd b (by lia)⟩
theorem dkn_1 {P : Pl} {L : Lw} {M : Mo} {i j : Int32} {A : Aw} : (dkn P L M i A).1 1 j = A.1 1 j := by
  unfold dkn dk dk1
  repeat' split
  all_goals first | rfl | rw [up_n (by decide), up_n (by decide), up_n (by decide), up_n (by decide)]
theorem me_1 {P : Pl} {L : Lw} {M : Mo} {i k j : Int32} {A : Aw} : (me P L M i k A).1 1 j = A.1 1 j := by
  unfold me tk
  repeat' split
  all_goals first | rfl | rw [up_n (by decide), up_n (by decide)] | rw [hu_1, hu_1, fgp_1]
theorem fl_1 {i j : Int32} {A : Aw} : (fl i A).1 1 j = A.1 1 j := by
  unfold fl
  repeat' split
  all_goals first | rfl | exact up_n (by decide)
theorem rn_1 {P : Pl} {M : Mo} {t j : Int32} {A : Aw} : (rn P M t A).1 1 j = A.1 1 j := by
  unfold rn rn1
  repeat' split
  · rfl
  · exact up_n (by decide)
  · rw [drw_1]
  · rw [up_n (by decide), drw_1]
theorem enc_1 {P : Pl} {L : Lw} {M : Mo} {j : Int32} {A : Aw} : (enc P L M A).1 1 j = A.1 1 j := by
  unfold enc
  rw [Fold_eq (fun s : Aw => s.1 1 j) (fun i s => Fold_eq (fun s : Aw => s.1 1 j) (fun k s => me_1)), up_n (by decide)]
theorem dka_1 {P : Pl} {L : Lw} {M : Mo} {j : Int32} {A : Aw} : (dka P L M A).1 1 j = A.1 1 j := by
  rw [dka_e, Fold_eq (fun s : Aw => s.1 1 j) (fun i s => dkn_1)]
  exact dz_n (by decide)
theorem hr_1 {P : Pl} {L : Lw} {M : Mo} {j : Int32} {A : Aw} : (hr P L M A).1 1 j = (Fold (wk P L M) (P 0 4) 0 (Fold (lap1 P) (P 0 5) 0 A)).1 1 j := by
  rw [hr_e]
  unfold hr7 hr6 hr4
  rw [up_n (by decide)]
  split
  · rw [Fold_eq (fun s : Aw => s.1 1 j) (fun i s => rn_1), Fold_eq (fun s : Aw => s.1 1 j) (fun i s => fl_1), enc_1, dka_1]
  · rw [Fold_eq (fun s : Aw => s.1 1 j) (fun i s => fl_1), enc_1, dka_1]
theorem eq_hr {S : Nat → Int32 → Prop} {A B : Aw} {P : Pl} {L : Lw} {M : Mo} (ok : POK P) (o : SO S) (e : EQ S A B) (hon : ∀ i, 0 ≤ i → i < P 0 4 → bt (A.1 0 2) i = 0 ∨ (¬ S 4 i ∧ ¬ S 6 (P 5 ((hr P L M A).1 1 i)))) : EQ S (hr P L M A) (hr P L M B) := by
  have o1 := ok.1
  have n4 : P 0 4 ≤ 900 := by lia
  have n40 : 0 ≤ P 0 4 := by lia
  simp only [hr_1] at hon
  rw [hr_e, hr_e]
  unfold hr4
  have e1 : EQ S (Fold (lap1 P) (P 0 5) 0 A) (Fold (lap1 P) (P 0 5) 0 B) := Fold2 (f := lap1 P) (f' := lap1 P) (fun _ s s' => EQ S s s') (by lia) (by lia) (fun i s s' _ _ z => eq_lap o z) 0 (by decide) (by lia) _ _ e
  have z1 : (Fold (lap1 P) (P 0 5) 0 A).1 0 2 = A.1 0 2 := Fold_eq (fun s : Aw => s.1 0 2) (fun i s => lap_0)
  rw [← z1] at hon
  generalize Fold (lap1 P) (P 0 5) 0 A = A1 at e1 hon ⊢
  generalize Fold (lap1 P) (P 0 5) 0 B = B1 at e1 ⊢
  have w := wks_1 (P := P) (L := L) (M := M) (A := A1) ok
  have e2 : EQ S (Fold (wk P L M) (P 0 4) 0 A1) (Fold (wk P L M) (P 0 4) 0 B1) := by
    refine (Fold2 (f := wk P L M) (f' := wk P L M) (fun k s s' => EQ S s s' ∧ WI P M A1 k s) n40 n4 (fun i s s' i0 i1 z => ⟨eq_wk o z.1 ?_, z.2.st i0 (by lia)⟩) 0 (by decide) n40 A1 B1 ⟨e1, rfl, fun _ => rfl, fun _ _ => rfl, fun j a b => absurd b (by lia)⟩).1
    obtain ⟨y1, y2, y3, y4⟩ := z.2
    rw [y1]
    by_cases c : bt (A1.1 0 2) i = 0
    · exact .inl c
    · have q := (hon i i0 i1).resolve_left c
      rw [w.2.2.2 i i0 i1, if_neg c] at q
      refine .inr ⟨q.1, ?_⟩
      rw [wk1_1, if_pos rfl, pw_e (y3 i (by lia)) (y2 i)]
      exact q.2
  have w0 := w.1
  rw [← w0] at hon
  generalize Fold (wk P L M) (P 0 4) 0 A1 = W at e2 hon ⊢
  generalize Fold (wk P L M) (P 0 4) 0 B1 = V at e2 ⊢
  have e3 : EQ S (dka P L M W) (dka P L M V) := by
    rw [dka_e, dka_e]
    refine (Fold2 (f := dkn P L M) (f' := dkn P L M) (fun k s s' => EQ S s s' ∧ s.1 0 2 = W.1 0 2 ∧ ∀ j, s.1 1 j = W.1 1 j) n40 n4 (fun i s s' i0 i1 z => ⟨eq_dkn o z.1 ?_, by rw [dkn_0 (by decide)]; exact z.2.1, fun j => by rw [dkn_1]; exact z.2.2 j⟩) 0 (by decide) n40 (dz W) (dz V) ⟨eq_dz e2, dz_n (by decide), fun j => dz_n (by decide)⟩).1
    rw [z.2.1]
    refine (hon i i0 i1).imp id (fun q => ⟨q.1, ?_⟩)
    rw [z.2.2 i]
    exact q.2
  have d0 : (dka P L M W).1 0 2 = W.1 0 2 := dka_0 (by decide)
  have d1 : ∀ j, (dka P L M W).1 1 j = W.1 1 j := fun j => dka_1
  generalize dka P L M W = D at e3 d0 d1 ⊢
  generalize dka P L M V = G at e3 ⊢
  have sr : ∀ s : Aw, s.1 0 2 = W.1 0 2 → (∀ j, s.1 1 j = W.1 1 j) → ∀ i, 0 ≤ i → i < P 0 4 → bt (s.1 0 2) i = 0 ∨ SR S P s i := by
    intro s a b i i0 i1
    rw [a]
    refine (hon i i0 i1).imp id (fun q => ⟨q.1, ?_⟩)
    rw [b i]
    exact q.2
  have e4 : EQ S (enc P L M D) (enc P L M G) := by
    unfold enc
    refine (Fold2 (f := fun i A => Fold (me P L M i) (P 0 4) (i + 1) A) (f' := fun i A => Fold (me P L M i) (P 0 4) (i + 1) A) (fun k s s' => EQ S s s' ∧ s.1 0 2 = W.1 0 2 ∧ ∀ j, s.1 1 j = W.1 1 j) n40 n4 (fun i s s' i0 i1 z => ?_) 0 (by decide) n40 _ _ ⟨e3.up, by rw [up_s, if_neg (by decide)]; exact d0, fun j => by rw [up_n (by decide)]; exact d1 j⟩).1
    refine Fold2 (f := me P L M i) (f' := me P L M i) (fun k s s' => EQ S s s' ∧ s.1 0 2 = W.1 0 2 ∧ ∀ j, s.1 1 j = W.1 1 j) n40 n4 (fun j s s' j0 j1 z => ⟨eq_me o z.1 (sr s z.2.1 z.2.2 i i0 i1) (sr s z.2.1 z.2.2 j j0 j1), by rw [me_0 (by decide)]; exact z.2.1, fun j => by rw [me_1]; exact z.2.2 j⟩) (i + 1) (by lia) (by lia) s s' z
  have e5 : EQ S (Fold fl (P 0 4) 0 (enc P L M D)) (Fold fl (P 0 4) 0 (enc P L M G)) := Fold2 (f := fl) (f' := fl) (fun _ s s' => EQ S s s') n40 n4 (fun i s s' _ _ z => eq_fl o z) 0 (by decide) n40 _ _ e4
  generalize Fold fl (P 0 4) 0 (enc P L M D) = X at e5 ⊢
  generalize Fold fl (P 0 4) 0 (enc P L M G) = Y at e5 ⊢
  have e6 : EQ S (hr6 P M X) (hr6 P M Y) := by
    unfold hr6
    rw [e5.r o 0 0 (by decide)]
    split
    · exact Fold2 (f := rn P M) (f' := rn P M) (fun _ s s' => EQ S s s') (by lia) (by lia) (fun i s s' _ _ z => eq_rn z) 0 (by decide) (by lia) _ _ e5
    · exact e5
  unfold hr7
  rw [e6.r o 0 0 (by decide)]
  exact e6.up
