/-! the same rules as rows that the kernel needn't compute -/
theorem nmd_q {α β : Type} (x : α) (f : α → β) : nmd x f = f x := Eq.trans rfl rfl
theorem bnd_q {α β : Type} (y : α) (f : α → Option β) : (some y).bind f = f y := Eq.trans rfl rfl
/-- a knot: (0, number), (1, name), (2, _) not, (3 .. 14, _) signs -/
abbrev Kn : Type := Nat → Nat × Nat
def evS (K : Kn) (nm : Nat → Int64) : Nat → Nat → List Int64 → Option (List Int64)
  | 0, _, s => some s
  | n + 1, i, s =>
    if (K i).1 = 0 then evS K nm n (i + 1) (lN (K i).2 :: s)
    else if (K i).1 = 1 then evS K nm n (i + 1) (nm (K i).2 :: s)
    else if (K i).1 = 2 then (match s with
      | a :: t => evS K nm n (i + 1) ((if a = 0 then 1 else 0) :: t)
      | _ => none)
    else (match s with
      | b :: a :: t => (match op2 (K i).1 a b with
        | some v => evS K nm n (i + 1) (v :: t)
        | none => none)
      | _ => none)
theorem evS_s {K : Kn} {nm : Nat → Int64} {n i : Nat} {s : List Int64} : evS K nm (n + 1) i s = (if (K i).1 = 0 then evS K nm n (i + 1) (lN (K i).2 :: s)
    else if (K i).1 = 1 then evS K nm n (i + 1) (nm (K i).2 :: s)
    else if (K i).1 = 2 then (match s with
      | a :: t => evS K nm n (i + 1) ((if a = 0 then 1 else 0) :: t)
      | _ => none)
    else (match s with
      | b :: a :: t => (match op2 (K i).1 a b with
        | some v => evS K nm n (i + 1) (v :: t)
        | none => none)
      | _ => none)) := rfl
theorem evS_0 {K : Kn} {nm : Nat → Int64} {i : Nat} {s : List Int64} : evS K nm 0 i s = some s := rfl
theorem evS_num {K : Kn} {nm : Nat → Int64} {n i : Nat} {s : List Int64} (h : (K i).1 = 0) : evS K nm (n + 1) i s = evS K nm n (i + 1) (lN (K i).2 :: s) := by
  rw [evS_s, if_pos h]
theorem evS_nam {K : Kn} {nm : Nat → Int64} {n i : Nat} {s : List Int64} (h : (K i).1 = 1) : evS K nm (n + 1) i s = evS K nm n (i + 1) (nm (K i).2 :: s) := by
  rw [evS_s, if_neg (by omega), if_pos h]
theorem evS_not {K : Kn} {nm : Nat → Int64} {n i : Nat} {a : Int64} {t : List Int64} (h : (K i).1 = 2) : evS K nm (n + 1) i (a :: t) = evS K nm n (i + 1) ((if a = 0 then 1 else 0) :: t) := by
  rw [evS_s, if_neg (by omega), if_neg (by omega), if_pos h]
theorem evS_not0 {K : Kn} {nm : Nat → Int64} {n i : Nat} (h : (K i).1 = 2) : evS K nm (n + 1) i [] = none := by
  rw [evS_s, if_neg (by omega), if_neg (by omega), if_pos h]
theorem evS_op {K : Kn} {nm : Nat → Int64} {n i : Nat} {a b v : Int64} {t : List Int64} (h : 3 ≤ (K i).1) (e : op2 (K i).1 a b = some v) : evS K nm (n + 1) i (b :: a :: t) = evS K nm n (i + 1) (v :: t) := by
  rw [evS_s, if_neg (by omega), if_neg (by omega), if_neg (by omega)]
  simp only [e]
theorem evS_opn {K : Kn} {nm : Nat → Int64} {n i : Nat} {a b : Int64} {t : List Int64} (h : 3 ≤ (K i).1) (e : op2 (K i).1 a b = none) : evS K nm (n + 1) i (b :: a :: t) = none := by
  rw [evS_s, if_neg (by omega), if_neg (by omega), if_neg (by omega)]
  simp only [e]
theorem evS_op0 {K : Kn} {nm : Nat → Int64} {n i : Nat} (h : 3 ≤ (K i).1) : evS K nm (n + 1) i [] = none := by
  rw [evS_s, if_neg (by omega), if_neg (by omega), if_neg (by omega)]
theorem evS_op1 {K : Kn} {nm : Nat → Int64} {n i : Nat} {a : Int64} (h : 3 ≤ (K i).1) : evS K nm (n + 1) i [a] = none := by
  rw [evS_s, if_neg (by omega), if_neg (by omega), if_neg (by omega)]
/-- the one value left; else the error -/
def one : Option (List Int64) → Option Int64
  | some [v] => some v
  | _ => none
def KnOK (K : Kn) (fr to : Nat) : Prop := ∀ i, fr ≤ i → i < to → (K i).1 ≤ 14 ∧ ((K i).1 = 0 → (K i).2 ≤ 9999) ∧ ((K i).1 = 1 → (K i).2 < 7)
def cdOf (q : Nat × Nat) : Int32 := if q.1 = 0 then nI q.2 else if q.1 = 1 then -nI (23 + q.2) else -nI (tkn q.1)
def stk (h : Hp) : Nat → List Int64 → Prop
  | 0, [] => True
  | n + 1, v :: t => h.2 44 n = v ∧ stk h n t
  | _, _ => False
theorem stk_up {h : Hp} {x : Int64} : ∀ {n : Nat} {t : List Int64} {j : Nat}, stk h n t → n ≤ j → stk (pL h 44 j x) n t
  | 0, [], _, _, _ => trivial
  | n + 1, v :: t, j, hs, hj => by
    refine ⟨?_, stk_up hs.2 (by omega)⟩
    rw [pL_2, if_pos rfl, if_neg (by omega)]
    exact hs.1
  | 0, v :: t, _, hs, _ => hs.elim
  | n + 1, [], _, hs, _ => hs.elim
theorem stk_pu {h : Hp} {x : Int64} {n : Nat} {t : List Int64} (hs : stk h n t) : stk (pL h 44 n x) (n + 1) (x :: t) :=
  ⟨by rw [pL_2, if_pos rfl, if_pos rfl], stk_up hs (Nat.le_refl _)⟩
/-- the class: what stays while a law is worked out -/
def CF (h h' : Hp) : Prop := h'.1 = h.1 ∧ ∀ c, c ≠ 44 → h'.2 c = h.2 c
theorem CF.rf {h : Hp} : CF h h := ⟨rfl, fun _ _ => rfl⟩
theorem CF.tr {a b c : Hp} (h1 : CF a b) (h2 : CF b c) : CF a c := ⟨h2.1.trans h1.1, fun q hq => (h2.2 q hq).trans (h1.2 q hq)⟩
theorem CF.pL {h : Hp} {j : Nat} {x : Int64} : CF h (pL h 44 j x) := ⟨rfl, fun c hc => pL_o hc⟩
theorem nn23 {a : Nat} (h : a < 7) : ¬ (0 : Int32) ≤ -nI (23 + a) ∧ - -nI (23 + a) = nI (23 + a) ∧ nI (23 + a) - 23 = nI a ∧ ¬ f_Tt_isName TC h00 (nI (23 + a)) = 0 := by
  rcases (show a = 0 ∨ a = 1 ∨ a = 2 ∨ a = 3 ∨ a = 4 ∨ a = 5 ∨ a = 6 by omega) with rfl | rfl | rfl | rfl | rfl | rfl | rfl <;> (unfold f_Tt_isName; decide)
theorem ntk {k : Nat} (h2 : 2 ≤ k) (h : k ≤ 14) : ¬ (0 : Int32) ≤ -nI (tkn k) ∧ - -nI (tkn k) = nI (tkn k) ∧ f_Tt_isName TC h00 (nI (tkn k)) = 0 ∧ (nI (tkn k) = 22 ↔ k = 2) := by
  rcases (show k = 2 ∨ k = 3 ∨ k = 4 ∨ k = 5 ∨ k = 6 ∨ k = 7 ∨ k = 8 ∨ k = 9 ∨ k = 10 ∨ k = 11 ∨ k = 12 ∨ k = 13 ∨ k = 14 by omega) with rfl | rfl | rfl | rfl | rfl | rfl | rfl | rfl | rfl | rfl | rfl | rfl | rfl <;> (unfold f_Tt_isName; decide)
theorem isN_h {h : Hp} {x : Int32} : f_Tt_isName TC h x = f_Tt_isName TC h00 x := by unfold f_Tt_isName; rfl
theorem er_n : er none = ERR := rfl
theorem er_s (v : Int64) : er (some v) = v := rfl
theorem alC3 : al TC 43 = 3 := by simp only [alC]
theorem alC4 : al TC 44 = 64 := by simp only [alC]
theorem alC41 : al TC 41 = 64 := by simp only [alC]
theorem alC73 : al TC 73 = 7 := by simp only [alC]
/-- the class works a law out, from the knot i on -/
def ECp (K : Kn) (fr to k : Nat) (nm : Nat → Int64) (m n : Nat) : Prop := ∀ (i top : Nat) (h : Hp) (s : List Int64), i + m = to → fr ≤ i → top ≤ i - fr → stk h top s → (∀ v ∈ s, inL v) → (∀ j, fr ≤ j → j < to → h.1 41 j = cdOf (K j)) → h.1 43 k = nI to → (∀ j, j < 7 → (h.1 73 j).toInt64 = nm j) →
    ∃ h', CF h h' ∧ lp_La_worthOf_10 TC n h 40 (nI k) 73 (nI top) (nI i) = some (er (one (evS K nm m i s)), h')
theorem ec_0 {K : Kn} {fr to k n : Nat} {nm : Nat → Int64} (hto : to ≤ 64) (hk3 : k < 3) : ECp K fr to k nm 0 (n + 1) := by
  intro i top h s e1 e3 e4 hst e5 hcd hto2 hnm
  have hi : i = to := by omega
  subst hi
  refine ⟨h, CF.rf, ?_⟩
  rw [lp_La_worthOf_10]
  simp only [lyC]
  rw [rI_ok (n := 3) alC3 hk3 (by decide), hto2, bnd_s, if_pos (nI_le (Nat.le_refl _) (by omega)), evS_0]
  match top, s, hst, e4 with
  | 0, [], _, _ =>
    rw [if_neg (show ¬ nI 0 = 1 by decide)]
    rfl
  | 1, [v], hst, _ =>
    rw [if_pos (show nI 1 = 1 from rfl), show (0 : Int32) = nI 0 from rfl, rL_ok (n := 64) alC4 (by decide) (by decide), bnd_s, hst.1]
    rfl
  | t + 2, a :: b :: r, hst, e4 =>
    rw [if_neg]
    · rfl
    · rw [show (1 : Int32) = nI 1 from rfl, nI_eq (by omega) (by omega)]
      omega

theorem ec_push {K : Kn} {fr to k m n : Nat} {nm : Nat → Int64} (hto : to ≤ 64) (ih : ECp K fr to k nm m n) {i top : Nat} {h : Hp} {s : List Int64} (e1 : i + (m + 1) = to) (e3 : fr ≤ i) (e4 : top ≤ i - fr) (hst : stk h top s) (e5 : ∀ v ∈ s, inL v) (hcd : ∀ j, fr ≤ j → j < to → h.1 41 j = cdOf (K j)) (hto2 : h.1 43 k = nI to) (hnm : ∀ j, j < 7 → (h.1 73 j).toInt64 = nm j) (x : Int64) (hx : inL x) :
    ∃ h', CF h h' ∧ jb_La_worthOf_85 TC (lp_La_worthOf_10 TC n) h 40 (nI k) 73 (nI top) (nI i) 44 (nI top) x = some (er (one (evS K nm m (i + 1) (x :: s))), h') := by
  obtain ⟨h', c1, c2⟩ := ih (i + 1) (top + 1) (pL h 44 top x) (x :: s) (by omega) (by omega) (by omega) (stk_pu hst) (fun v hv => by rcases List.mem_cons.mp hv with rfl | hv; exact hx; exact e5 v hv) hcd hto2 hnm
  refine ⟨h', CF.pL.tr c1, ?_⟩
  unfold jb_La_worthOf_85 jb_La_worthOf_193
  rw [wL_ok (n := 64) alC4 (by omega) (by decide), bnd_s]
  simp only [nmd_q]
  rw [nI_1, nI_1]
  exact c2
theorem le1 {t : Nat} (h : t < 1000) : (1 : Int32) ≤ nI (t + 1) := nI_le (a := 1) (by omega) (by omega)
theorem le2 {t : Nat} (h : t < 1000) : (2 : Int32) ≤ nI (t + 2) := nI_le (a := 2) (by omega) (by omega)
theorem lt64 {t : Nat} (h : t < 64) : nI t < Int32.ofNat 64 := nI_lt (b := 64) h (by decide)
theorem nn23h {a : Nat} (q : a < 7) (h : Hp) : ¬ f_Tt_isName TC h (nI (23 + a)) = 0 := by
  rw [isN_h]
  exact (nn23 q).2.2.2
theorem ntkh {k : Nat} (h2 : 2 ≤ k) (h : k ≤ 14) (hp : Hp) : f_Tt_isName TC hp (nI (tkn k)) = 0 := by
  rw [isN_h]
  exact (ntk h2 h).2.2.1
theorem ec_48 {h : Hp} {n k top i : Nat} {a b : Int32} (ht : top < 64) : jb_La_worthOf_48 TC (lp_La_worthOf_10 TC n) h 40 (nI k) 73 (nI top) (nI i) a b = if a < 0 then ((rI TC h 73 (b - 23)).bind fun x1 => jb_La_worthOf_85 TC (lp_La_worthOf_10 TC n) h 40 (nI k) 73 (nI top) (nI i) 44 (nI top) x1.toInt64) else jb_La_worthOf_85 TC (lp_La_worthOf_10 TC n) h 40 (nI k) 73 (nI top) (nI i) 44 (nI top) a.toInt64 := by
  unfold jb_La_worthOf_48
  simp only [lyC, alC4]
  rw [if_pos (lt64 ht)]
theorem ec_num {K : Kn} {fr to k m n : Nat} {nm : Nat → Int64} (hto : to ≤ 64) (hk3 : k < 3) (hK : KnOK K fr to) (ih : ECp K fr to k nm m n) {i top : Nat} {h : Hp} {s : List Int64} (e1 : i + (m + 1) = to) (e3 : fr ≤ i) (e4 : top ≤ i - fr) (hst : stk h top s) (e5 : ∀ v ∈ s, inL v) (hcd : ∀ j, fr ≤ j → j < to → h.1 41 j = cdOf (K j)) (hto2 : h.1 43 k = nI to) (hnm : ∀ j, j < 7 → (h.1 73 j).toInt64 = nm j) (q0 : (K i).1 = 0) : ∃ h', CF h h' ∧ lp_La_worthOf_10 TC (n + 1) h 40 (nI k) 73 (nI top) (nI i) = some (er (one (evS K nm (m + 1) i s)), h') := by
  obtain ⟨o1, o2, o3⟩ := hK i e3 (by omega)
  have hcode := hcd i e3 (by omega)
  have push := ec_push hto ih e1 e3 e4 hst e5 hcd hto2 hnm
  rw [lp_La_worthOf_10]
  simp only [lyC]
  rw [rI_ok (n := 3) alC3 hk3 (by decide), hto2, bnd_s, if_neg (nI_ge (by omega) (by omega)), rI_ok (n := 64) alC41 (by omega) (by decide), bnd_s, hcode]
  simp only [nmd_q]
  have ec : cdOf (K i) = nI (K i).2 := if_pos q0
  have hle := o2 q0
  rw [evS_num q0, ec, if_pos (nI_pos' (by omega)), ec_48 (by omega), if_neg (nI_pos (by omega)), nI_l (by omega)]
  exact push _ (by rw [← nI_l (by omega)]; exact inL_i32 _)
theorem ec_nam {K : Kn} {fr to k m n : Nat} {nm : Nat → Int64} (hto : to ≤ 64) (hk3 : k < 3) (hK : KnOK K fr to) (ih : ECp K fr to k nm m n) {i top : Nat} {h : Hp} {s : List Int64} (e1 : i + (m + 1) = to) (e3 : fr ≤ i) (e4 : top ≤ i - fr) (hst : stk h top s) (e5 : ∀ v ∈ s, inL v) (hcd : ∀ j, fr ≤ j → j < to → h.1 41 j = cdOf (K j)) (hto2 : h.1 43 k = nI to) (hnm : ∀ j, j < 7 → (h.1 73 j).toInt64 = nm j) (q1 : (K i).1 = 1) : ∃ h', CF h h' ∧ lp_La_worthOf_10 TC (n + 1) h 40 (nI k) 73 (nI top) (nI i) = some (er (one (evS K nm (m + 1) i s)), h') := by
  obtain ⟨o1, o2, o3⟩ := hK i e3 (by omega)
  have hcode := hcd i e3 (by omega)
  have push := ec_push hto ih e1 e3 e4 hst e5 hcd hto2 hnm
  rw [lp_La_worthOf_10]
  simp only [lyC]
  rw [rI_ok (n := 3) alC3 hk3 (by decide), hto2, bnd_s, if_neg (nI_ge (by omega) (by omega)), rI_ok (n := 64) alC41 (by omega) (by decide), bnd_s, hcode]
  simp only [nmd_q]
  have ec : cdOf (K i) = -nI (23 + (K i).2) := by unfold cdOf; rw [if_neg (by omega), if_pos q1]
  obtain ⟨n1, n2, n3, _⟩ := nn23 (o3 q1)
  rw [evS_nam q1, ec, if_neg n1, n2, if_neg (nn23h (o3 q1) h), ec_48 (by omega), if_pos (by
      have := n1
      rw [Int32.le_iff_toInt_le] at this
      rw [Int32.lt_iff_toInt_lt]
      omega), n3, rI_ok (n := 7) alC73 (o3 q1) (by decide), bnd_s]
  rw [← hnm _ (o3 q1)]
  exact push _ (inL_i32 _)
theorem ec_not {K : Kn} {fr to k m n : Nat} {nm : Nat → Int64} (hto : to ≤ 64) (hk3 : k < 3) (hK : KnOK K fr to) (ih : ECp K fr to k nm m n) {i top : Nat} {h : Hp} {s : List Int64} (e1 : i + (m + 1) = to) (e3 : fr ≤ i) (e4 : top ≤ i - fr) (hst : stk h top s) (e5 : ∀ v ∈ s, inL v) (hcd : ∀ j, fr ≤ j → j < to → h.1 41 j = cdOf (K j)) (hto2 : h.1 43 k = nI to) (hnm : ∀ j, j < 7 → (h.1 73 j).toInt64 = nm j) (q2 : (K i).1 = 2) : ∃ h', CF h h' ∧ lp_La_worthOf_10 TC (n + 1) h 40 (nI k) 73 (nI top) (nI i) = some (er (one (evS K nm (m + 1) i s)), h') := by
  obtain ⟨o1, o2, o3⟩ := hK i e3 (by omega)
  have hcode := hcd i e3 (by omega)
  have push := ec_push hto ih e1 e3 e4 hst e5 hcd hto2 hnm
  rw [lp_La_worthOf_10]
  simp only [lyC]
  rw [rI_ok (n := 3) alC3 hk3 (by decide), hto2, bnd_s, if_neg (nI_ge (by omega) (by omega)), rI_ok (n := 64) alC41 (by omega) (by decide), bnd_s, hcode]
  simp only [nmd_q]
  have ec : cdOf (K i) = -nI (tkn (K i).1) := by unfold cdOf; rw [if_neg (by omega), if_neg (by omega)]
  obtain ⟨n1, n2, _, n4⟩ := ntk (k := (K i).1) (by omega) o1
  rw [ec, if_neg n1, n2, if_pos (ntkh (by omega) o1 h), if_pos (n4.mpr q2)]
  match top, s, hst, e4, e5 with
  | 0, [], _, _, _ =>
    refine ⟨h, CF.rf, ?_⟩
    rw [evS_not0 q2, if_neg (show ¬ (1 : Int32) ≤ nI 0 by decide)]
    rfl
  | t + 1, a :: r, hst, e4, e5 =>
    have et : nI (t + 1) - 1 = nI t := nI_pred t
    rw [evS_not q2, if_pos (le1 (by omega)), et, rL_ok (n := 64) alC4 (by omega) (by decide), bnd_s, hst.1]
    have go : ∀ x : Int64, inL x → ∃ h', CF h h' ∧ jb_La_worthOf_133 TC (lp_La_worthOf_10 TC n) h 40 (nI k) 73 (nI (t + 1)) (nI i) 44 (nI t) x = some (er (one (evS K nm m (i + 1) (x :: r))), h') := by
      intro x hx
      obtain ⟨h', c1, c2⟩ := ih (i + 1) (t + 1) (pL h 44 t x) (x :: r) (by omega) (by omega) (by omega) (stk_pu hst.2) (fun v hv => by rcases List.mem_cons.mp hv with rfl | hv; exact hx; exact e5 v (List.mem_cons_of_mem _ hv)) hcd hto2 hnm
      refine ⟨h', CF.pL.tr c1, ?_⟩
      unfold jb_La_worthOf_133 jb_La_worthOf_193
      rw [wL_ok (n := 64) alC4 (by omega) (by decide), bnd_s]
      simp only [nmd_q]
      rw [nI_1]
      exact c2
    by_cases qa : a = 0
    · rw [if_pos ((lc_eq0 a 0).mpr qa), if_pos qa]
      exact go 1 inL_1
    · rw [if_neg (fun z => qa ((lc_eq0 a 0).mp z)), if_neg qa]
      exact go 0 inL_0
theorem ec_op {K : Kn} {fr to k m n : Nat} {nm : Nat → Int64} (hto : to ≤ 64) (hk3 : k < 3) (hK : KnOK K fr to) (ih : ECp K fr to k nm m n) {i top : Nat} {h : Hp} {s : List Int64} (e1 : i + (m + 1) = to) (e3 : fr ≤ i) (e4 : top ≤ i - fr) (hst : stk h top s) (e5 : ∀ v ∈ s, inL v) (hcd : ∀ j, fr ≤ j → j < to → h.1 41 j = cdOf (K j)) (hto2 : h.1 43 k = nI to) (hnm : ∀ j, j < 7 → (h.1 73 j).toInt64 = nm j) (q3 : 3 ≤ (K i).1) : ∃ h', CF h h' ∧ lp_La_worthOf_10 TC (n + 1) h 40 (nI k) 73 (nI top) (nI i) = some (er (one (evS K nm (m + 1) i s)), h') := by
  obtain ⟨o1, o2, o3⟩ := hK i e3 (by omega)
  have hcode := hcd i e3 (by omega)
  have push := ec_push hto ih e1 e3 e4 hst e5 hcd hto2 hnm
  rw [lp_La_worthOf_10]
  simp only [lyC]
  rw [rI_ok (n := 3) alC3 hk3 (by decide), hto2, bnd_s, if_neg (nI_ge (by omega) (by omega)), rI_ok (n := 64) alC41 (by omega) (by decide), bnd_s, hcode]
  simp only [nmd_q]
  have ec : cdOf (K i) = -nI (tkn (K i).1) := by unfold cdOf; rw [if_neg (by omega), if_neg (by omega)]
  obtain ⟨n1, n2, _, n4⟩ := ntk (k := (K i).1) (by omega) o1
  rw [ec, if_neg n1, n2, if_pos (ntkh (by omega) o1 h), if_neg (fun z => absurd (n4.mp z) (by omega))]
  match top, s, hst, e4, e5 with
  | 0, [], _, _, _ =>
    refine ⟨h, CF.rf, ?_⟩
    rw [evS_op0 q3, if_neg (show ¬ (2 : Int32) ≤ nI 0 by decide)]
    rfl
  | 1, [a], _, _, _ =>
    refine ⟨h, CF.rf, ?_⟩
    rw [evS_op1 q3, if_neg (show ¬ (2 : Int32) ≤ nI 1 by decide)]
    rfl
  | t + 2, b :: a :: r, hst, e4, e5 =>
    have e6 : nI (t + 2) + -1 = nI (t + 1) := pk_m1 (t + 1)
    have e7 : nI (t + 1) - 1 = nI t := nI_pred t
    have hb : h.2 44 (t + 1) = b := hst.1
    have ha : inL a := e5 a (List.mem_cons_of_mem _ List.mem_cons_self)
    have hbL : inL b := e5 b List.mem_cons_self
    rw [if_pos (le2 (by omega)), e6, e7, rL_ok (n := 64) alC4 (by omega) (by decide), bnd_s, rL_ok (n := 64) alC4 (by omega) (by decide), bnd_s, hst.2.1, hb, join_ok (by omega) o1, bnd_s]
    cases hop : op2 (K i).1 a b with
    | none =>
      refine ⟨h, CF.rf, ?_⟩
      rw [evS_opn q3 hop, er_n, if_pos ((lc_eq0 _ _).mpr rfl)]
      rfl
    | some x =>
      have hx := op2_inL (by omega) o1 ha hbL hop
      rw [evS_op q3 hop, er_s, if_neg (inL_ERR hx)]
      obtain ⟨h', c1, c2⟩ := ih (i + 1) (t + 1) (pL h 44 t x) (x :: r) (by omega) (by omega) (by omega) (stk_pu hst.2.2) (fun v hv => by rcases List.mem_cons.mp hv with rfl | hv; exact hx; exact e5 v (List.mem_cons_of_mem _ (List.mem_cons_of_mem _ hv))) hcd hto2 hnm
      refine ⟨h', CF.pL.tr c1, ?_⟩
      unfold jb_La_worthOf_193
      rw [wL_ok (n := 64) alC4 (by omega) (by decide), bnd_s]
      simp only [nmd_q]
      rw [nI_1]
      exact c2
theorem ec_s {K : Kn} {fr to k m n : Nat} {nm : Nat → Int64} (hto : to ≤ 64) (hk3 : k < 3) (hK : KnOK K fr to) (ih : ECp K fr to k nm m n) : ECp K fr to k nm (m + 1) (n + 1) := by
  intro i top h s e1 e3 e4 hst e5 hcd hto2 hnm
  rcases (show (K i).1 = 0 ∨ (K i).1 = 1 ∨ (K i).1 = 2 ∨ 3 ≤ (K i).1 by omega) with q | q | q | q
  · exact ec_num hto hk3 hK ih e1 e3 e4 hst e5 hcd hto2 hnm q
  · exact ec_nam hto hk3 hK ih e1 e3 e4 hst e5 hcd hto2 hnm q
  · exact ec_not hto hk3 hK ih e1 e3 e4 hst e5 hcd hto2 hnm q
  · exact ec_op hto hk3 hK ih e1 e3 e4 hst e5 hcd hto2 hnm q
theorem evC {K : Kn} {fr to k : Nat} {nm : Nat → Int64} (hto : to ≤ 64) (hk3 : k < 3) (hK : KnOK K fr to) : ∀ m n, m < n → ECp K fr to k nm m n
  | 0, n + 1, _ => ec_0 hto hk3
  | m + 1, n + 1, h => ec_s hto hk3 hK (evC hto hk3 hK m n (by omega))
