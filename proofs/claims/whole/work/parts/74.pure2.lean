/-! what an hour leaves alone -/
theorem lap_0 {P : Pl} {l j : Int32} {A : Aw} : (lap1 P l A).1 0 j = A.1 0 j := by
  unfold lap1
  split
  · exact up_n (by decide)
  · rfl
theorem wk_0 {P : Pl} {L : Lw} {M : Mo} {i j : Int32} {A : Aw} : (wk P L M i A).1 0 j = A.1 0 j := by
  unfold wk
  split
  · rfl
  · unfold wk2
    rw [up_n (by decide)]
    unfold wk1
    split
    · exact up_n (by decide)
    · rfl
theorem dkn_0 {P : Pl} {L : Lw} {M : Mo} {i j : Int32} {A : Aw} (q : ¬ j = 5) : (dkn P L M i A).1 0 j = A.1 0 j := by
  unfold dkn dk dk1
  repeat' split
  all_goals try rfl
  rw [up_s, if_neg q, up_n (by decide), up_n (by decide), up_n (by decide)]
theorem me_0 {P : Pl} {L : Lw} {M : Mo} {i k j : Int32} {A : Aw} (q : ¬ j = 3 ∧ ¬ j = 4 ∧ ¬ j = 6 ∧ ¬ j = 7 ∧ ¬ j = 8) : (me P L M i k A).1 0 j = A.1 0 j := by
  obtain ⟨q3, q4, q6, q7, q8⟩ := q
  unfold me tk fg fp
  repeat' split
  all_goals try rfl
  all_goals simp only [hu_0, up_s, if_neg q3, if_neg q4, if_neg q6, if_neg q7, if_neg q8]
theorem fl_0 {i j : Int32} {A : Aw} (q : ¬ j = 2) : (fl i A).1 0 j = A.1 0 j := by
  unfold fl
  repeat' split
  all_goals first | rfl | rw [up_s, if_neg q]
/-- of a fold: what each step leaves alone -/
theorem Fold_eq {S T : Type} {f : Int32 → S → S} (v : S → T) (hf : ∀ i s, v (f i s) = v s) {N i : Int32} {s : S} : v (Fold f N i s) = v s := by
  unfold Fold
  have : ∀ (k : Nat) (i : Int32) (s : S), v (fld f k i s) = v s := by
    intro k
    induction k with
    | zero => exact fun _ _ => rfl
    | succ k ih => exact fun i s => (ih (i + 1) (f i s)).trans (hf i s)
  exact this _ i s
theorem dka_0 {P : Pl} {L : Lw} {M : Mo} {j : Int32} {A : Aw} (q : ¬ j = 5) : (dka P L M A).1 0 j = A.1 0 j := by
  rw [dka_e, Fold_eq (fun s : Aw => s.1 0 j) (fun i s => dkn_0 q)]
  exact dz_n (by decide)
theorem enc_0 {P : Pl} {L : Lw} {M : Mo} {j : Int32} {A : Aw} (q : ¬ j = 3 ∧ ¬ j = 4 ∧ ¬ j = 6 ∧ ¬ j = 7 ∧ ¬ j = 8) : (enc P L M A).1 0 j = A.1 0 j := by
  unfold enc
  rw [Fold_eq (fun s : Aw => s.1 0 j) (fun i s => Fold_eq (fun s : Aw => s.1 0 j) (fun k s => me_0 q)), up_s, if_neg q.2.2.2.2]
/-- the world ahead of the falls -/
def hr4 (P : Pl) (L : Lw) (M : Mo) (A : Aw) : Aw := enc P L M (dka P L M (Fold (wk P L M) (P 0 4) 0 (Fold (lap1 P) (P 0 5) 0 A)))
theorem hr4_0 {P : Pl} {L : Lw} {M : Mo} {j : Int32} {A : Aw} (q : ¬ j = 3 ∧ ¬ j = 4 ∧ ¬ j = 6 ∧ ¬ j = 7 ∧ ¬ j = 8) (q5 : ¬ j = 5) : (hr4 P L M A).1 0 j = A.1 0 j := by
  unfold hr4
  rw [enc_0 q, dka_0 q5, Fold_eq (fun s : Aw => s.1 0 j) (fun i s => wk_0), Fold_eq (fun s : Aw => s.1 0 j) (fun i s => lap_0)]
theorem hr6_0 {P : Pl} {M : Mo} {j : Int32} {A : Aw} : (hr6 P M A).1 0 j = A.1 0 j := by
  unfold hr6
  split
  · exact Fold_eq (fun s : Aw => s.1 0 j) (fun i s => rn_02.1 j)
  · rfl
theorem hr_e {P : Pl} {L : Lw} {M : Mo} {A : Aw} : hr P L M A = hr7 (hr6 P M (Fold fl (P 0 4) 0 (hr4 P L M A))) := rfl
theorem hr_0 {P : Pl} {L : Lw} {M : Mo} {j : Int32} {A : Aw} (q2 : ¬ j = 2) (q0 : ¬ j = 0) : (hr P L M A).1 0 j = (hr4 P L M A).1 0 j := by
  rw [hr_e]
  unfold hr7
  rw [up_s, if_neg q0, hr6_0, Fold_eq (fun s : Aw => s.1 0 j) (fun i s => fl_0 q2)]
theorem hr_00 {P : Pl} {L : Lw} {M : Mo} {A : Aw} : (hr P L M A).1 0 0 = A.1 0 0 + 1 := by
  rw [hr_e]
  unfold hr7
  rw [up_s, if_pos rfl, hr6_0, Fold_eq (fun s : Aw => s.1 0 0) (fun i s => fl_0 (by decide)), hr4_0 (by decide) (by decide)]
/-- who fell stays so -/
theorem hr_on {P : Pl} {L : Lw} {M : Mo} {A : Aw} (ok : POK P) (mo : MOK M) (wo : WOK P A) (on : ONK P 0 A) : ∀ j, 0 ≤ j → j < 6 → bt (A.1 0 2) j = 0 → bt ((hr P L M A).1 0 2) j = 0 := by
  intro j j0 j6 h
  have e : (hr P L M A).1 0 2 = (Fold fl (P 0 4) 0 (hr4 P L M A)).1 0 2 := by
    rw [hr_e]
    unfold hr7
    rw [up_s, if_neg (by decide), hr6_0]
  rw [e]
  have w4 : WOK P (hr4 P L M A) := by
    obtain ⟨a1, a2⟩ := laps_ok ok wo on
    exact enc_ok ok (dka_ok ok (wks_ok ok mo a1 a2))
  have h4 : bt ((hr4 P L M A).1 0 2) j = 0 := by
    rw [hr4_0 (by decide) (by decide)]
    exact h
  have o1 := ok.1
  refine (Fold_inv (fun i s => WOK P s ∧ bt (s.1 0 2) j = 0) (by lia) (fun i s i0 i1 q => ⟨fl_ok ok q.1 i0 i1, ?_⟩) _ 0 _ (by decide) (by lia) rfl ⟨w4, h4⟩).2
  have cl := clr_ok q.1.2.2.1 q.1.2.2.2.1 i0 (show i < 6 by lia) j0 j6
  unfold fl
  repeat' split
  all_goals first | exact q.2 | (rw [up_s, if_pos rfl, cl.1]; split <;> first | rfl | exact q.2)
theorem pai0 : ∀ a b : Fin 4, ¬ nI a.1 = nI b.1 → pai (nI a.1) (nI b.1) &&& 2254 = pai (nI a.1) (nI b.1) := by decide +kernel
theorem pai_k {a b : Int32} (a0 : 0 ≤ a) (a3 : a ≤ 3) (b0 : 0 ≤ b) (b3 : b ≤ 3) (q : ¬ a = b) : pai a b &&& 2254 = pai a b := by
  obtain ⟨x, rfl⟩ := fin_i32 (n := 4) a0 (by decide) (show a < 4 by lia)
  obtain ⟨y, rfl⟩ := fin_i32 (n := 4) b0 (by decide) (show b < 4 by lia)
  exact pai0 x y q
theorem me_tk {P : Pl} {L : Lw} {M : Mo} {i j : Int32} {A : Aw} (ok : POK P) (h0 : 0 ≤ i) (h1 : i < P 0 4) (j0 : 0 ≤ j) (j1 : j < P 0 4) (t : TK A) : TK (me P L M i j A) := by
  have p1 := ok.2.2.2.1 i h0 h1
  have p2 := ok.2.2.2.1 j j0 j1
  have or_k : ∀ {m n : Int32}, m &&& 2254 = m → n &&& 2254 = n → (m ||| n) &&& 2254 = m ||| n := fun {m n} a b => by rw [or_and_i, a, b]
  unfold me
  by_cases q1 : A.1 1 i = A.1 1 j
  case neg =>
    rw [if_neg q1]
    exact t
  rw [if_pos q1]
  by_cases q2 : P 7 i = P 7 j
  · rw [if_pos q2]
    exact t
  rw [if_neg q2]
  have pk := pai_k p1.1 p1.2.1 p2.1 p2.2.1 q2
  have t1 : TK (tk A (pai (P 7 i) (P 7 j))) := by
    unfold TK tk
    rw [up_s, if_pos rfl, up_s, if_neg (by decide), up_s, if_neg (by decide)]
    exact ⟨or_k t.1 pk, t.2⟩
  have t2 : TK (fg (fp A (A.1 1 i)) (pai (P 7 i) (P 7 j))) := by
    have t3 : TK (fp A (A.1 1 i)) := by
      unfold fp
      split
      · unfold TK
        rw [up_s, if_neg (by decide), up_s, if_neg (by decide)]
        exact t
      · exact t
    unfold TK fg
    rw [up_s, if_neg (by decide), up_s, if_neg (by decide), up_s, if_pos rfl]
    exact ⟨t3.1, or_k t3.2 pk⟩
  repeat' split
  all_goals first | exact t | exact t1 | skip
  unfold TK
  rw [hu_0, hu_0, hu_0, hu_0]
  exact t2
theorem hr_tk {P : Pl} {L : Lw} {M : Mo} {A : Aw} (ok : POK P) (t : TK A) : TK (hr P L M A) := by
  have o1 := ok.1
  unfold TK
  rw [hr_0 (by decide) (by decide), hr_0 (by decide) (by decide)]
  suffices h : TK (hr4 P L M A) from h
  unfold hr4 enc
  have t0 : TK (up (dka P L M (Fold (wk P L M) (P 0 4) 0 (Fold (lap1 P) (P 0 5) 0 A))) 0 8 (-1)) := by
    unfold TK
    rw [up_s, if_neg (by decide), up_s, if_neg (by decide), dka_0 (by decide), dka_0 (by decide), Fold_eq (fun s : Aw => s.1 0 6) (fun i s => wk_0), Fold_eq (fun s : Aw => s.1 0 7) (fun i s => wk_0), Fold_eq (fun s : Aw => s.1 0 6) (fun i s => lap_0), Fold_eq (fun s : Aw => s.1 0 7) (fun i s => lap_0)]
    exact t
  refine Fold_inv (fun _ s => TK s) (by lia) (fun i s i0 i1 q => ?_) _ 0 _ (by decide) (by lia) rfl t0
  exact (Fold_inv (fun j s => i < j ∧ TK s) (by lia) (fun j s j0 j1 q => ⟨by lia, me_tk ok i0 i1 j0 j1 q.2⟩) _ (i + 1) s (by lia) (by lia) rfl ⟨by lia, q⟩).2
theorem hrN_tk {P : Pl} {L : Lw} {M : Mo} {N : Int32} {A : Aw} (ok : POK P) (hN : 0 ≤ N) (t : TK A) : TK (hrN P L M N A) :=
  Fold_inv (fun _ s => TK s) hN (fun _ _ _ _ q => hr_tk ok q) _ 0 A (by decide) hN rfl t
theorem hrN_1 {P : Pl} {L : Lw} {M : Mo} {A : Aw} : hrN P L M 1 A = hr P L M A := by
  unfold hrN
  rw [Fold_lt (by decide) (by decide), Fold_ge (by decide) (by decide) (by decide)]
