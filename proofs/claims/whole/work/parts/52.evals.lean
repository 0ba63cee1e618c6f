/-! laws: whole programs of knots, on both sides -/
theorem inL_i32 (x : Int32) : inL x.toInt64 := by
  unfold inL
  rw [Int32.toInt_toInt64]
  have h1 := Int32.le_toInt x
  have h2 := Int32.toInt_lt x
  constructor <;> omega
theorem inL_0 : inL 0 := by unfold inL; decide
theorem inL_1 : inL 1 := by unfold inL; decide
theorem LIMi : LIM.toInt = 1000000000000 := by decide
theorem nLIMi : (-LIM).toInt = -1000000000000 := by decide
theorem bd_inL {v w : Int64} (h : bd v = some w) : inL w := by
  unfold bd at h
  by_cases h1 : LIM < v
  · rw [if_pos h1] at h; cases h
  · rw [if_neg h1] at h
    by_cases h2 : v < -LIM
    · rw [if_pos h2] at h; cases h
    · rw [if_neg h2] at h
      cases h
      rw [l64, LIMi] at h1
      rw [l64, nLIMi] at h2
      exact ⟨by omega, by omega⟩
theorem mul_lim {a b m : Int} (ha : 0 < a) (hb : 0 ≤ b) (h : ¬ (1000000000000 : Int).tdiv a < b) : a * b ≤ 1000000000000 := by
  have h1 : b ≤ (1000000000000 : Int).tdiv a := by omega
  rw [Int.tdiv_eq_ediv_of_nonneg (by decide)] at h1
  have h2 := (Int.le_ediv_iff_mul_le ha).mp h1
  rw [Int.mul_comm]
  exact h2
theorem op2_inL {k : Nat} {l r v : Int64} (h1 : 3 ≤ k) (h2 : k ≤ 14) (hl : inL l) (hr : inL r) (h : op2 k l r = some v) : inL v := by
  rcases (show k = 3 ∨ k = 4 ∨ k = 5 ∨ k = 6 ∨ k = 7 ∨ k = 8 ∨ k = 9 ∨ k = 10 ∨ k = 11 ∨ k = 12 ∨ k = 13 ∨ k = 14 by omega) with rfl | rfl | rfl | rfl | rfl | rfl | rfl | rfl | rfl | rfl | rfl | rfl
  · simp [op2] at h; subst h; split <;> (try split) <;> first | exact inL_0 | exact inL_1
  · simp [op2] at h; subst h; split <;> (try split) <;> first | exact inL_0 | exact inL_1
  · simp [op2] at h; subst h; split <;> first | exact inL_0 | exact inL_1
  · simp [op2] at h; subst h; split <;> first | exact inL_0 | exact inL_1
  · simp [op2] at h; subst h; split <;> first | exact inL_0 | exact inL_1
  · simp [op2] at h; subst h; split <;> first | exact inL_0 | exact inL_1
  · simp [op2] at h; subst h; split <;> first | exact inL_0 | exact inL_1
  · simp [op2] at h; subst h; split <;> first | exact inL_0 | exact inL_1
  · simp [op2] at h; exact bd_inL h
  · simp [op2] at h; exact bd_inL h
  · have e13 : op2 13 l r = if l = 0 then some 0 else if LIM / ab l < ab r then none else some (l * r) := by simp [op2]
    rw [e13] at h
    by_cases q : l = 0
    · rw [if_pos q] at h; cases h; exact inL_0
    · rw [if_neg q] at h
      by_cases q2 : LIM / ab l < ab r
      · rw [if_pos q2] at h; cases h
      · rw [if_neg q2] at h
        cases h
        obtain ⟨a1, a2, a3⟩ := ab_inL hl
        obtain ⟨b1, b2, b3⟩ := ab_inL hr
        have hz : (ab l).toInt ≠ 0 := fun e => ab0 q (l64e.mpr (by rw [e]; rfl))
        rw [l64, Int64.toInt_div_of_ne_left _ _ (by decide), LIMi] at q2
        have hm := mul_lim (m := 0) (by omega) b1 q2
        have key : -1000000000000 ≤ l.toInt * r.toInt ∧ l.toInt * r.toInt ≤ 1000000000000 := by
          rcases a3 with a3 | a3 <;> rcases b3 with b3 | b3 <;> rw [a3, b3] at hm
          · rw [a3] at a1; rw [b3] at b1
            have := Int.mul_nonneg a1 b1
            omega
          · rw [a3] at a1; rw [b3] at b1
            rw [Int.mul_neg] at hm
            have := Int.mul_nonneg a1 b1
            rw [Int.mul_neg] at this
            omega
          · rw [a3] at a1; rw [b3] at b1
            rw [Int.neg_mul] at hm
            have := Int.mul_nonneg a1 b1
            rw [Int.neg_mul] at this
            omega
          · rw [a3] at a1; rw [b3] at b1
            rw [Int.neg_mul_neg] at hm
            have := Int.mul_nonneg a1 b1
            rw [Int.neg_mul_neg] at this
            omega
        unfold inL
        rw [Int64.toInt_mul, Int.bmod_eq_of_le (by omega) (by omega)]
        exact key
  · simp [op2] at h
    obtain ⟨hr0, rfl⟩ := h
    unfold inL
    rw [Int64.toInt_div_of_ne_left _ _ (fun e => by rw [e] at hl; exact absurd hl.1 (by decide))]
    have h3 := Int.natAbs_tdiv_le_natAbs l.toInt r.toInt
    obtain ⟨q1, q2⟩ := hl
    omega
theorem inL_ERR {v : Int64} (h : inL v) : ¬ lg_cmp v ERR = 0 := by
  rw [lc_eq0]
  intro e
  rw [e] at h
  exact absurd h.1 (by decide)
/-- a knot: (0, number), (1, name), (2, _) not, (3 .. 14, _) signs -/
abbrev Kn : Type := Nat → Nat × Nat
def evS (K : Kn) (nm : Nat → Int64) : Nat → Nat → List Int64 → Option (List Int64)
  | 0, _, s => some s
  | n + 1, i, s =>
    if (K i).1 = 0 then evS K nm n (i + 1) (lN (K i).2 :: s)
    else if (K i).1 = 1 then evS K nm n (i + 1) (nm (K i).2 :: s)
    else if (K i).1 = 2 then (match s with
      | a :: t => evS K nm n (i + 1) ((if a = 0 then 1 else 0) :: t)
      | _ => none)
    else (match s with
      | b :: a :: t => (match op2 (K i).1 a b with
        | some v => evS K nm n (i + 1) (v :: t)
        | none => none)
      | _ => none)
theorem evS_s {K : Kn} {nm : Nat → Int64} {n i : Nat} {s : List Int64} : evS K nm (n + 1) i s = (if (K i).1 = 0 then evS K nm n (i + 1) (lN (K i).2 :: s)
    else if (K i).1 = 1 then evS K nm n (i + 1) (nm (K i).2 :: s)
    else if (K i).1 = 2 then (match s with
      | a :: t => evS K nm n (i + 1) ((if a = 0 then 1 else 0) :: t)
      | _ => none)
    else (match s with
      | b :: a :: t => (match op2 (K i).1 a b with
        | some v => evS K nm n (i + 1) (v :: t)
        | none => none)
      | _ => none)) := rfl
/-- which knots wait behind so many -/
def hsim (K : Kn) : Nat → Nat → List Nat → Option (List Nat)
  | 0, _, s => some s
  | n + 1, i, s =>
    if (K i).1 ≤ 1 then hsim K n (i + 1) (i :: s)
    else if (K i).1 = 2 then (match s with
      | _ :: t => hsim K n (i + 1) (i :: t)
      | _ => none)
    else (match s with
      | _ :: _ :: t => hsim K n (i + 1) (i :: t)
      | _ => none)
def KnOK (K : Kn) (fr to : Nat) : Prop := ∀ i, fr ≤ i → i < to → (K i).1 ≤ 14 ∧ ((K i).1 = 0 → (K i).2 ≤ 9999) ∧ ((K i).1 = 1 → (K i).2 < 7)
def cdOf (q : Nat × Nat) : Int32 := if q.1 = 0 then nI q.2 else if q.1 = 1 then -nI (23 + q.2) else -nI (tkn q.1)
def stk (h : Hp) : List Int64 → Prop
  | [] => True
  | v :: t => h.2 44 t.length = v ∧ stk h t
theorem stk_up {h : Hp} {x : Int64} : ∀ {t : List Int64} {j : Nat}, stk h t → t.length ≤ j → stk (pL h 44 j x) t
  | [], _, _, _ => trivial
  | v :: t, j, hs, hj => by
    have hj : t.length + 1 ≤ j := hj
    refine ⟨?_, stk_up hs.2 (by omega)⟩
    rw [pL_2, if_pos rfl, if_neg (by omega)]
    exact hs.1
/-- the class: what stays while a law is worked out -/
def CF (h h' : Hp) : Prop := h'.1 = h.1 ∧ ∀ c, c ≠ 44 → h'.2 c = h.2 c
theorem CF.rf {h : Hp} : CF h h := ⟨rfl, fun _ _ => rfl⟩
theorem CF.tr {a b c : Hp} (h1 : CF a b) (h2 : CF b c) : CF a c := ⟨h2.1.trans h1.1, fun q hq => (h2.2 q hq).trans (h1.2 q hq)⟩
theorem CF.pL {h : Hp} {j : Nat} {x : Int64} : CF h (pL h 44 j x) := ⟨rfl, fun c hc => pL_o hc⟩
theorem ok_of_len {s : List Int64} {n : Nat} (h : s.length = n) : s.length = n := h
theorem nn23 {a : Nat} (h : a < 7) : ¬ (0 : Int32) ≤ -nI (23 + a) ∧ - -nI (23 + a) = nI (23 + a) ∧ nI (23 + a) - 23 = nI a ∧ ¬ f_Tt_isName TC h00 (nI (23 + a)) = 0 := by
  rcases (show a = 0 ∨ a = 1 ∨ a = 2 ∨ a = 3 ∨ a = 4 ∨ a = 5 ∨ a = 6 by omega) with rfl | rfl | rfl | rfl | rfl | rfl | rfl <;> decide
theorem ntk {k : Nat} (h2 : 2 ≤ k) (h : k ≤ 14) : ¬ (0 : Int32) ≤ -nI (tkn k) ∧ - -nI (tkn k) = nI (tkn k) ∧ f_Tt_isName TC h00 (nI (tkn k)) = 0 ∧ (nI (tkn k) = 22 ↔ k = 2) := by
  rcases (show k = 2 ∨ k = 3 ∨ k = 4 ∨ k = 5 ∨ k = 6 ∨ k = 7 ∨ k = 8 ∨ k = 9 ∨ k = 10 ∨ k = 11 ∨ k = 12 ∨ k = 13 ∨ k = 14 by omega) with rfl | rfl | rfl | rfl | rfl | rfl | rfl | rfl | rfl | rfl | rfl | rfl | rfl <;> decide
theorem isN_h {h : Hp} {x : Int32} : f_Tt_isName TC h x = f_Tt_isName TC h00 x := rfl
theorem er_n : er none = ERR := rfl
theorem er_s (v : Int64) : er (some v) = v := rfl
/-- the class works a law out, from the knot i on -/
theorem evC {K : Kn} {fr to k : Nat} (hto : to ≤ 64) (hk3 : k < 3) (hK : KnOK K fr to) : ∀ (m n i : Nat) (h : Hp) (s : List Int64), i + m = to → m < n → fr ≤ i → s.length ≤ i - fr → (∀ v ∈ s, inL v) → stk h s → (∀ j, fr ≤ j → j < to → h.1 41 j = cdOf (K j)) → h.1 43 k = nI to →
    ∃ h', CF h h' ∧ lp_La_worthOf_10 TC n h 40 (nI k) 73 (nI s.length) (nI i) = some (er ((evS K (fun j => (h.1 73 j).toInt64) m i s).bind (fun q => match q with
      | [v] => some v
      | _ => none)), h') := by
  intro m
  induction m with
  | zero =>
    intro n i h s e1 e2 e3 e4 e5 hst hcd hto2
    obtain ⟨n, rfl⟩ : ∃ n', n = n' + 1 := ⟨n - 1, by omega⟩
    have hi : i = to := by omega
    subst hi
    rw [lp_La_worthOf_10]
    simp only [lyC, evS, bnd_s, Option.bind_some]
    rw [rI_ok (n := 3) rfl hk3 (by decide), hto2, bnd_s, if_pos (nI_le (Nat.le_refl _) (by omega))]
    match s, e4, hst with
    | [], _, _ =>
      refine ⟨h, CF.rf, ?_⟩
      rw [if_neg (show ¬ nI ([] : List Int64).length = 1 by decide)]
      simp only [er_n]
    | [v], _, hst =>
      refine ⟨h, CF.rf, ?_⟩
      rw [if_pos (show nI [v].length = 1 from rfl), show (0 : Int32) = nI 0 from rfl, rL_ok (n := 64) rfl (by decide) (by decide), bnd_s]
      have h1 : h.2 44 0 = v := hst.1
      rw [h1]
      simp only [er_s]
    | a :: b :: t, e4, _ =>
      have e4 : t.length + 2 ≤ i - fr := e4
      refine ⟨h, CF.rf, ?_⟩
      rw [if_neg]
      · simp only [er_n]
      · show ¬ nI (t.length + 2) = nI 1
        rw [nI_eq (by omega) (by omega)]
        omega
  | succ m ih =>
    intro n i h s e1 e2 e3 e4 e5 hst hcd hto2
    obtain ⟨n, rfl⟩ : ∃ n', n = n' + 1 := ⟨n - 1, by omega⟩
    obtain ⟨o1, o2, o3⟩ := hK i e3 (by omega)
    have hcode := hcd i e3 (by omega)
    have push : ∀ x : Int64, inL x → ∃ h', CF h h' ∧ jb_La_worthOf_85 TC (lp_La_worthOf_10 TC n) h 40 (nI k) 73 (nI s.length) (nI i) 44 (nI s.length) x = some (er ((evS K (fun j => (h.1 73 j).toInt64) m (i + 1) (x :: s)).bind (fun q => match q with
      | [v] => some v
      | _ => none)), h') := by
      intro x hx
      obtain ⟨h', c1, c2⟩ := ih n (i + 1) (pL h 44 s.length x) (x :: s) (by omega) (by omega) (by omega) (by show s.length + 1 ≤ _; omega) (fun v hv => by rcases List.mem_cons.mp hv with rfl | hv; exact hx; exact e5 v hv) ⟨by rw [pL_2, if_pos rfl, if_pos rfl], stk_up hst (Nat.le_refl _)⟩ hcd hto2
      refine ⟨h', CF.pL.tr c1, ?_⟩
      unfold jb_La_worthOf_85 jb_La_worthOf_193
      rw [wL_ok (n := 64) rfl (by omega) (by decide), bnd_s]
      simp only [nmd_s]
      rw [nI_1, nI_1]
      exact c2
    rw [lp_La_worthOf_10]
    simp only [lyC]
    rw [rI_ok (n := 3) rfl hk3 (by decide), hto2, bnd_s, if_neg (nI_ge (by omega) (by omega)), rI_ok (n := 64) rfl (by omega) (by decide), bnd_s, hcode]
    simp only [nmd_s, isN_h]
    rw [evS_s]
    have in48 : ∀ a b : Int32, jb_La_worthOf_48 TC (lp_La_worthOf_10 TC n) h 40 (nI k) 73 (nI s.length) (nI i) a b = if a < 0 then ((rI TC h 73 (b - 23)).bind fun x1 => jb_La_worthOf_85 TC (lp_La_worthOf_10 TC n) h 40 (nI k) 73 (nI s.length) (nI i) 44 (nI s.length) x1.toInt64) else jb_La_worthOf_85 TC (lp_La_worthOf_10 TC n) h 40 (nI k) 73 (nI s.length) (nI i) 44 (nI s.length) a.toInt64 := by
      intro a b
      unfold jb_La_worthOf_48
      simp only [lyC, alC]
      rw [if_pos (show nI s.length < Int32.ofNat 64 from nI_lt (b := 64) (by omega) (by decide))]
    by_cases q0 : (K i).1 = 0
    · rw [if_pos q0]
      have ec : cdOf (K i) = nI (K i).2 := if_pos q0
      have hle := o2 q0
      rw [ec, if_pos (nI_pos' (by omega)), in48, if_neg (nI_pos (by omega)), nI_l (by omega)]
      exact push _ (by rw [← nI_l (by omega)]; exact inL_i32 _)
    · rw [if_neg q0]
      by_cases q1 : (K i).1 = 1
      · rw [if_pos q1]
        have ec : cdOf (K i) = -nI (23 + (K i).2) := by unfold cdOf; rw [if_neg q0, if_pos q1]
        obtain ⟨n1, n2, n3, n4⟩ := nn23 (o3 q1)
        sorry
      · rw [if_neg q1]
        have ec : cdOf (K i) = -nI (tkn (K i).1) := by unfold cdOf; rw [if_neg q0, if_neg q1]
        obtain ⟨n1, n2, n3, n4⟩ := ntk (k := (K i).1) (by omega) o1
        rw [ec, if_neg n1, n2, if_pos n3]
        by_cases q2 : (K i).1 = 2
        · sorry
        · rw [if_neg q2, if_neg (fun z => q2 (n4.mp z))]
          sorry
