/-! how likely it stays dry -/
theorem gsH {h : Hp} : ∀ (n : Nat) (a b c : Int32), lp_Tt_greatestShared_7 TC n h a b c = lp_Tt_greatestShared_7 TC n h00 a b c := by
  intro n
  induction n with
  | zero => intro a b c; rfl
  | succ n ih =>
    intro a b c
    simp only [lp_Tt_greatestShared_7, ih]
theorem sd72H {h : Hp} : ∀ (n : Nat) (a b : Int32) (c : Int64) (d : Int32), lp_Tt_staysDry_72 TC n h a b c d = lp_Tt_staysDry_72 TC n h00 a b c d := by
  intro n
  induction n with
  | zero => intro a b c d; rfl
  | succ n ih =>
    intro a b c d
    simp only [lp_Tt_staysDry_72, ih]
theorem sd76H {h g : Hp} : ∀ (n : Nat) (l2 : Int32) (l3 l5 l7 l9 : Int64), lp_Md_staysDry_76 TR n h l2 l3 l5 l7 l9 = (lp_Md_staysDry_76 TR n g l2 l3 l5 l7 l9).map (fun q => (q.1, h)) := by
  intro n
  induction n with
  | zero => intro l2 l3 l5 l7 l9; rfl
  | succ n ih =>
    intro l2 l3 l5 l7 l9
    simp only [lp_Md_staysDry_76]
    by_cases c : lg_cmp l9 0 = 0
    · rw [if_pos c, if_pos c]
      by_cases d : l2 = 0
      · rw [if_pos d, if_pos d]
        cases dL l3 l7 <;> rfl
      · rw [if_neg d, if_neg d]
        cases dL l5 l7 <;> rfl
    · rw [if_neg c, if_neg c]
      cases mL l7 l9 with
      | none => rfl
      | some v =>
        rw [bnd_q, bnd_q]
        exact ih _ _ _ _ _
theorem sd36H {h g : Hp} {r : Int32} (e : rI TR h 4 0 = some r) (e' : rI TR g 4 0 = some r) : ∀ (n : Nat) (l1 l2 : Int32) (l3 l5 : Int64) (l7 : Int32), lp_Md_staysDry_36 TR n h 0 l1 l2 l3 l5 l7 = (lp_Md_staysDry_36 TR n g 0 l1 l2 l3 l5 l7).map (fun q => (q.1, h)) := by
  intro n
  induction n with
  | zero => intro l1 l2 l3 l5 l7; rfl
  | succ n ih =>
    intro l1 l2 l3 l5 l7
    simp only [lp_Md_staysDry_36, lyR, e, e', bnd_q, nmd_q]
    by_cases c : l1 ≤ l7
    · rw [if_pos c, if_pos c]
      exact sd76H _ _ _ _ _ _
    · rw [if_neg c, if_neg c]
      exact ih _ _ _ _ _
def hq (r : Int32) : Hp := (fun _ _ => r, fun _ _ => 0)
theorem hq_r {r : Int32} : rI TR (hq r) 4 0 = some r := by
  rw [rI_i 4 (by simp only [alR]) (by decide) (by decide) (by decide)]
  rfl
def sdC (r n w : Int32) : Option Int64 := (lp_Tt_greatestShared_7 TC fu h00 100 (100 - r) 0).bind fun r2 => if r2 = 0 then some (-1) else if w = 0 then (dI (100 - r) r2).bind fun x1 => lp_Tt_staysDry_72 TC fu h00 n x1 1 0 else (dI 100 r2).bind fun x1 => lp_Tt_staysDry_72 TC fu h00 n x1 1 0
def sdR (r n w : Int32) : Option (Int64 × Hp) := lp_Md_staysDry_36 TR fu (hq r) 0 n w 1 1 0
def sdQ (r n w : Int32) : Bool := match sdC r n w, sdR r n w with
  | some a, some b => a == b.1
  | _, _ => false
set_option maxRecDepth 100000 in
theorem sd0 : ∀ (r : Fin 101) (n : Fin 7) (w : Fin 2), sdQ (nI r.1) (nI n.1) (nI w.1) = true := by decide +kernel
theorem sd1 {r n w : Int32} (r0 : 0 ≤ r) (r1 : r ≤ 100) (n0 : 0 ≤ n) (n1 : n ≤ 6) (w0 : 0 ≤ w) (w1 : w ≤ 1) : ∃ a b, sdC r n w = some a ∧ sdR r n w = some b ∧ a = b.1 := by
  obtain ⟨x, rfl⟩ := fin_i32 (n := 101) r0 (by decide) (show r < 101 by lia)
  obtain ⟨y, rfl⟩ := fin_i32 (n := 7) n0 (by decide) (show n < 7 by lia)
  obtain ⟨z, rfl⟩ := fin_i32 (n := 2) w0 (by decide) (show w < 2 by lia)
  have h := sd0 x y z
  unfold sdQ at h
  cases e : sdC (nI x.1) (nI y.1) (nI z.1) with
  | none => rw [e] at h; exact absurd h (by simp)
  | some a =>
    cases e' : sdR (nI x.1) (nI y.1) (nI z.1) with
    | none => rw [e, e'] at h; exact absurd h (by simp)
    | some b =>
      rw [e, e'] at h
      exact ⟨a, b, rfl, rfl, by simpa using h⟩
theorem sp_staysDry : SP_staysDry Rl := by
  intro hC hR a1 a2 hr
  obtain ⟨P, L, A, B, X, U, p, x, y⟩ := hr
  have ok := p.1
  have o1 := ok.1
  have lk := p.2.1
  have wo := p.2.2.1
  have g := x.1.h.g
  simp only [Nat.reduceAdd] at g
  have xh := x.1.h
  have y1 := y.th (v := 0) ok
  have k := y1.1.g
  have sx := x.2.2.1
  have sr := y1.2.2.1
  have k4 := k.1.2.2.2.2.1
  have g1 := g.1.2.1
  unfold f_Tt_staysDry f_Md_staysDry
  simp only [nmd_q, isIn_e]
  generalize pI hR 0 2 0 = h1 at y1 k sr k4 ⊢
  simp only [lyC]
  rw [g1]
  have stop : ∃ (r : Int64) (r' : Int64 × Hp), some (-1 : Int64) = some r ∧ some ((-1 : Int64), h1) = some r' ∧ r = r'.1 ∧ Rl hC r'.2 := ⟨_, _, rfl, rfl, rfl, Rl.mk p x y1⟩
  by_cases q1 : 0 ≤ a1 ∧ a1 ≤ 6
  case neg =>
    rw [if_neg q1, if_pos (rfl : (0 : Int32) = 0)]
    by_cases c : a1 < 0
    · rw [if_pos c]
      exact stop
    · rw [if_neg c, if_pos (by lia)]
      exact stop
  rw [if_pos q1, if_neg (show ¬ (1 : Int32) = 0 by decide), if_neg (show ¬ a1 < 0 by lia), if_neg (show ¬ (6 : Int32) < a1 by lia)]
  by_cases q2 : 0 ≤ a2 ∧ a2 ≤ 1
  case neg =>
    rw [if_neg q2, if_pos (rfl : (0 : Int32) = 0)]
    by_cases c : a2 < 0
    · rw [if_pos c]
      exact stop
    · rw [if_neg c, if_neg (by lia)]
      exact stop
  rw [if_pos q2, if_neg (show ¬ (1 : Int32) = 0 by decide), if_neg (show ¬ a2 < 0 by lia), if_pos q2.2]
  obtain ⟨a, b, e1, e2, e3⟩ := sd1 (r := P 0 1) (n := a1) (w := a2) (by lia) (by lia) q1.1 q1.2 q2.1 q2.2
  have rr : rI TR h1 4 0 = some (P 0 1) := by
    rw [rI_i 4 (by simp only [alR]) (by decide) (by decide) (by decide), k4]
  refine ⟨a, (b.1, h1), ?_, ?_, e3, Rl.mk p x y1⟩
  · rw [← e1]
    unfold sdC jb_Tt_staysDry_61 f_Tt_greatestShared
    simp only [gsH, sd72H]
  · rw [sd36H rr hq_r]
    unfold sdR at e2
    rw [e2]
    rfl
