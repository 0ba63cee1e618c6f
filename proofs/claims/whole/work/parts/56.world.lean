/-! a plan, a world, an hour, as plain functions -/
abbrev Pl : Type := Nat → Int32 → Int32
abbrev Aw : Type := (Nat → Int32 → Int32) × Int64
abbrev Lw : Type := Kn × (Nat → Nat) × (Nat → Nat)
abbrev Mo : Type := Int32 × Int32 × Int32
def up (A : Aw) (r : Nat) (i x : Int32) : Aw := (fun a b => if a = r then (if b = i then x else A.1 a b) else A.1 a b, A.2)
theorem up_s {A : Aw} {r : Nat} {i j x : Int32} : (up A r i x).1 r j = if j = i then x else A.1 r j := by
  unfold up
  exact if_pos rfl
theorem up_n {A : Aw} {r q : Nat} {i j x : Int32} (e : ¬ q = r) : (up A r i x).1 q j = A.1 q j := by
  unfold up
  exact if_neg e
theorem up_2 {A : Aw} {r : Nat} {i x : Int32} : (up A r i x).2 = A.2 := Eq.trans rfl rfl
/-- the rows by themselves: 0 what has no index, 1 place, 2 thirst, 3 hurt, 4 goal, 5 drank, 6 water -/
theorem up_r {A : Aw} {r : Nat} {i x : Int32} : (∀ j, ¬ 0 = r → (up A r i x).1 0 j = A.1 0 j) ∧ (∀ j, ¬ 1 = r → (up A r i x).1 1 j = A.1 1 j) ∧ (∀ j, ¬ 2 = r → (up A r i x).1 2 j = A.1 2 j) ∧ (∀ j, ¬ 3 = r → (up A r i x).1 3 j = A.1 3 j) ∧ (∀ j, ¬ 4 = r → (up A r i x).1 4 j = A.1 4 j) ∧ (∀ j, ¬ 5 = r → (up A r i x).1 5 j = A.1 5 j) ∧ (∀ j, ¬ 6 = r → (up A r i x).1 6 j = A.1 6 j) := ⟨fun _ e => up_n e, fun _ e => up_n e, fun _ e => up_n e, fun _ e => up_n e, fun _ e => up_n e, fun _ e => up_n e, fun _ e => up_n e⟩
def bt (m i : Int32) : Int32 := if m &&& ((1 : Int32) <<< (i &&& 31)) = 0 then 0 else 1
theorem bt_01 (m i : Int32) : bt m i = 0 ∨ bt m i = 1 := by
  unfold bt
  by_cases q : m &&& ((1 : Int32) <<< (i &&& 31)) = 0
  · rw [if_pos q]; exact .inl rfl
  · rw [if_neg q]; exact .inr rfl
def clr (m i : Int32) : Int32 := m &&& (((1 : Int32) <<< (i &&& 31)) ^^^ (-1 : Int32))
theorem fin_i32 {m : Int32} {n : Nat} (h0 : 0 ≤ m) (hn : n < 2 ^ 31) (h1 : m < nI n) : ∃ a : Fin n, m = nI a.1 := ⟨⟨ix m, ix_lt h0 hn h1⟩, (nI_ix h0).symm⟩
theorem clr_ok0 : ∀ (a : Fin 64) (b c : Fin 6), bt (clr (nI a.1) (nI b.1)) (nI c.1) = (if nI c.1 = nI b.1 then 0 else bt (nI a.1) (nI c.1)) ∧ 0 ≤ clr (nI a.1) (nI b.1) ∧ clr (nI a.1) (nI b.1) ≤ 63 := by decide +kernel
theorem clr_ok {m i j : Int32} (h0 : 0 ≤ m) (h1 : m ≤ 63) (i0 : 0 ≤ i) (i1 : i < 6) (j0 : 0 ≤ j) (j1 : j < 6) : bt (clr m i) j = (if j = i then 0 else bt m j) ∧ 0 ≤ clr m i ∧ clr m i ≤ 63 := by
  obtain ⟨a, rfl⟩ := fin_i32 (n := 64) h0 (by decide) (show m < 64 by lia)
  obtain ⟨b, rfl⟩ := fin_i32 (n := 6) i0 (by decide) i1
  obtain ⟨c, rfl⟩ := fin_i32 (n := 6) j0 (by decide) j1
  exact clr_ok0 a b c
/-- what a text tells: its bounds -/
def POK (P : Pl) : Prop :=
  (0 ≤ P 0 3 ∧ P 0 3 ≤ 6 ∧ 0 ≤ P 0 4 ∧ P 0 4 ≤ 6 ∧ 0 ≤ P 0 5 ∧ P 0 5 ≤ 12 ∧ 2 ≤ P 0 0 ∧ P 0 0 ≤ 60 ∧ 0 ≤ P 0 1 ∧ P 0 1 ≤ 100 ∧ 0 ≤ P 0 2 ∧ P 0 2 ≤ 99999) ∧
  (∀ t, 0 ≤ t → t < P 0 3 → 0 ≤ P 2 t ∧ P 2 t ≤ P 0 0 ∧ 0 ≤ P 3 t ∧ P 3 t ≤ 99 ∧ 0 ≤ P 4 t ∧ P 4 t ≤ 9 ∧ P 5 (P 2 t) = t) ∧
  (∀ p, 0 ≤ p → p ≤ 60 → P 5 p = -1 ∨ (0 ≤ P 5 p ∧ P 5 p < P 0 3 ∧ P 2 (P 5 p) = p)) ∧
  (∀ h, 0 ≤ h → h < P 0 4 → 0 ≤ P 7 h ∧ P 7 h ≤ 3 ∧ 0 ≤ P 8 h ∧ P 8 h ≤ P 0 0 ∧ 0 ≤ P 9 h ∧ P 9 h ≤ 99 ∧ 1 ≤ P 10 h ∧ P 10 h ≤ 9) ∧
  (∀ l, 0 ≤ l → l < P 0 5 → 0 ≤ P 11 l ∧ P 11 l < P 0 4 ∧ 0 ≤ P 12 l ∧ P 12 l < P 0 3 ∧ 0 ≤ P 13 l ∧ P 13 l ≤ 99)
def LOK (L : Lw) : Prop := ∀ q, q < 3 → L.2.1 q ≤ L.2.2 q ∧ L.2.2 q ≤ 64 ∧ (L.2.1 q < L.2.2 q → KnOK L.1 (L.2.1 q) (L.2.2 q) ∧ ∃ x, hsim L.1 (L.2.1 q) (L.2.2 q - L.2.1 q) = some [x])
def mOK (n m : Int32) : Prop := 0 ≤ m ∧ m ≤ 63 ∧ ∀ j, n ≤ j → j < 6 → bt m j = 0
def WOK (P : Pl) (A : Aw) : Prop :=
  (∀ h, 0 ≤ h → h < P 0 4 → 0 ≤ A.1 1 h ∧ A.1 1 h ≤ P 0 0 ∧ 0 ≤ A.1 2 h ∧ A.1 2 h ≤ 198 ∧ 0 ≤ A.1 3 h ∧ A.1 3 h ≤ 9999 ∧ (A.1 4 h = -2 ∨ (0 ≤ A.1 4 h ∧ A.1 4 h < P 0 3)) ∧ 0 ≤ A.1 5 h ∧ A.1 5 h ≤ 99) ∧
  (∀ t, 0 ≤ t → t < P 0 3 → 0 ≤ A.1 6 t ∧ A.1 6 t ≤ 99) ∧ mOK (P 0 4) (A.1 0 2)
/-- who is on is not too thirsty: from the horse i on -/
def ONK (P : Pl) (i : Int32) (A : Aw) : Prop := ∀ h, i ≤ h → h < P 0 4 → bt (A.1 0 2) h = 1 → A.1 2 h < 100
def MOK (M : Mo) : Prop := (M.2.2 = 1 ∨ M.2.2 = 2)
def nmA (P : Pl) (pt : Int32) (A : Aw) (h : Int32) (j : Nat) : Int32 :=
  if j = 0 then A.1 2 h else if j = 1 then P 10 h * pt else if j = 2 then P 7 h
  else if j = 3 then (if P 5 (A.1 1 h) = -1 then 0 else A.1 6 (P 5 (A.1 1 h)))
  else if j = 4 then (if 0 ≤ A.1 4 h ∧ A.1 4 h < P 0 3 then abI (P 2 (A.1 4 h) - A.1 1 h) else 0)
  else if j = 5 then A.1 3 h else A.1 0 0
def nmL (P : Pl) (pt : Int32) (A : Aw) (h : Int32) (j : Nat) : Int64 := (nmA P pt A h j).toInt64
def lawE (L : Lw) (q : Nat) (nm : Nat → Int64) : Option Int64 := one (evS L.1 nm (L.2.2 q - L.2.1 q) (L.2.1 q) [])
def clp (v : Int64) : Int32 := (mxL 0 (mnL 99 v)).toInt32
theorem clp_ok (v : Int64) : 0 ≤ clp v ∧ clp v ≤ 99 := by
  unfold clp mxL mnL
  have e0 : (0 : Int64).toInt32 = 0 := by decide
  have e1 : (99 : Int64).toInt32 = 99 := by decide
  by_cases q : v < 99
  · rw [if_pos q]
    by_cases q2 : v < 0
    · rw [if_pos q2, e0]
      decide
    · rw [if_neg q2]
      have h1 : 0 ≤ v.toInt := by
        rw [l64] at q2
        have : (0 : Int64).toInt = 0 := by decide
        omega
      have h2 : v.toInt < 99 := by
        rw [l64] at q
        have : (99 : Int64).toInt = 99 := by decide
        omega
      obtain ⟨k, hk, rfl⟩ : ∃ k, k < 99 ∧ v = lN k := ⟨v.toInt.toNat, by omega, by
        apply Int64.toInt_inj.mp
        rw [lN_toInt (by omega)]
        omega⟩
      rw [lN_i]
      exact ⟨nI_pos' (by omega), nI_le (b := 99) (by omega) (by decide)⟩
  · rw [if_neg q]
    decide
def amt (L : Lw) (nm : Nat → Int64) (q : Nat) (oth : Int32) : Int32 := if L.2.1 q < L.2.2 q then (match lawE L q nm with
  | none => oth
  | some v => clp v) else oth
theorem amt_ok {L : Lw} {nm : Nat → Int64} {q : Nat} {oth : Int32} (h0 : 0 ≤ oth) (h1 : oth ≤ 99) : 0 ≤ amt L nm q oth ∧ amt L nm q oth ≤ 99 := by
  unfold amt
  by_cases z : L.2.1 q < L.2.2 q
  · rw [if_pos z]
    cases lawE L q nm with
    | none => exact ⟨h0, h1⟩
    | some v => exact clp_ok v
  · rw [if_neg z]
    exact ⟨h0, h1⟩
def wk1 (P : Pl) (M : Mo) (i : Int32) (A : Aw) : Aw := if 0 ≤ A.1 4 i ∧ A.1 4 i < P 0 3 then up A 1 i (A.1 1 i + mxI (-(P 10 i * M.2.2)) (mnI (P 10 i * M.2.2) (P 2 (A.1 4 i) - A.1 1 i))) else A
def wk2 (P : Pl) (L : Lw) (M : Mo) (i : Int32) (A : Aw) : Aw := up A 2 i (A.1 2 i + amt L (nmL P M.2.2 A i) 0 1)
def wk (P : Pl) (L : Lw) (M : Mo) (i : Int32) (A : Aw) : Aw := if bt (A.1 0 2) i = 0 then A else wk2 P L M i (wk1 P M i A)
def gul (P : Pl) (L : Lw) (M : Mo) (i : Int32) (A : Aw) : Int32 := mnI (mnI (A.1 2 i) (A.1 6 (P 5 (A.1 1 i)))) (amt L (nmL P M.2.2 A i) 1 9)
def dk1 (A : Aw) (i t g : Int32) : Aw := up (up (up (up A 2 i (A.1 2 i - g)) 6 t (A.1 6 t - g)) 5 i g) 0 5 (A.1 0 5 + g)
def dk (P : Pl) (L : Lw) (M : Mo) (i : Int32) (A : Aw) : Aw :=
  if bt (A.1 0 2) i = 0 then A else if P 5 (A.1 1 i) = -1 then A else if A.1 2 i ≤ 0 then A else if A.1 6 (P 5 (A.1 1 i)) ≤ 0 then A
  else dk1 A i (P 5 (A.1 1 i)) (gul P L M i A)
def dz (A : Aw) : Aw := (fun a b => if a = 5 then 0 else A.1 a b, A.2)
def dka (P : Pl) (L : Lw) (M : Mo) (A : Aw) : Aw := if M.2.1 = 0 then dz A else Fold (dk P L M) (P 0 4) 0 (dz A)
def pai (a b : Int32) : Int32 := (1 : Int32) <<< ((((4 : Int32) * (mnI a b)) + (mxI a b)) &&& 31)
def hu (P : Pl) (L : Lw) (M : Mo) (i : Int32) (A : Aw) : Aw := up A 3 i (mnI 9999 (A.1 3 i + amt L (nmL P M.2.2 A i) 2 1))
def fp (A : Aw) (x : Int32) : Aw := if A.1 0 8 = -1 then up A 0 8 x else A
def fg (A : Aw) (q : Int32) : Aw := up (up A 0 3 (A.1 0 3 + 1)) 0 7 (A.1 0 7 ||| q)
def tk (A : Aw) (q : Int32) : Aw := up (up A 0 4 (A.1 0 4 + 1)) 0 6 (A.1 0 6 ||| q)
def ene (P : Pl) (A : Aw) (i j : Int32) : Prop := A.1 1 i = A.1 1 j ∧ ¬ P 7 i = P 7 j ∧ ¬ bt (A.1 0 2) i = 0 ∧ ¬ bt (A.1 0 2) j = 0
def me (P : Pl) (L : Lw) (M : Mo) (i j : Int32) (A : Aw) : Aw :=
  if A.1 1 i = A.1 1 j then (if P 7 i = P 7 j then A else if bt (A.1 0 2) i = 0 then A else if bt (A.1 0 2) j = 0 then A
    else if 0 < A.1 5 i then tk A (pai (P 7 i) (P 7 j)) else if A.1 5 j ≤ 0 then hu P L M j (hu P L M i (fg (fp A (A.1 1 i)) (pai (P 7 i) (P 7 j)))) else tk A (pai (P 7 i) (P 7 j)))
  else A
def enc (P : Pl) (L : Lw) (M : Mo) (A : Aw) : Aw := Fold (fun i A => Fold (me P L M i) (P 0 4) (i + 1) A) (P 0 4) 0 (up A 0 8 (-1))
def fl (i : Int32) (A : Aw) : Aw := if 100 ≤ A.1 2 i then up A 0 2 (clr (A.1 0 2) i) else if A.1 3 i < 100 then A else up A 0 2 (clr (A.1 0 2) i)
def rn1 (P : Pl) (t : Int32) (A : Aw) : Aw := up A 6 t (mnI 99 (A.1 6 t + P 4 t))
def drw (A : Aw) : Aw := (A.1, (A.2 * 1103515245 + 12345) &&& 2147483647)
def drx (A : Aw) : Int32 := ((drw A).2 / 65536).toInt32
def rn (P : Pl) (M : Mo) (t : Int32) (A : Aw) : Aw :=
  if M.1 ≤ 0 then A else if 100 ≤ M.1 then rn1 P t A else if M.1 ≤ drx A - drx A / 100 * 100 then drw A else rn1 P t (drw A)
def lap1 (P : Pl) (l : Int32) (A : Aw) : Aw := if P 13 l = A.1 0 0 then up A 4 (P 11 l) (P 12 l) else A
def h10 (A : Aw) : Prop := A.1 0 0 - A.1 0 0 / 10 * 10 = 9
def hr5 (P : Pl) (L : Lw) (M : Mo) (A : Aw) : Aw := Fold fl (P 0 4) 0 (enc P L M (dka P L M (Fold (wk P L M) (P 0 4) 0 (Fold (lap1 P) (P 0 5) 0 A))))
def hr6 (P : Pl) (M : Mo) (A : Aw) : Aw := if A.1 0 0 - A.1 0 0 / 10 * 10 = 9 then Fold (rn P M) (P 0 3) 0 A else A
def hr7 (A : Aw) : Aw := up A 0 0 (A.1 0 0 + 1)
/-- an hour -/
def hr (P : Pl) (L : Lw) (M : Mo) (A : Aw) : Aw := hr7 (hr6 P M (hr5 P L M A))
def hrs (P : Pl) (L : Lw) (M : Mo) : Nat → Aw → Aw
  | 0, A => A
  | n + 1, A => hrs P L M n (hr P L M A)
/-- a fold keeps what each step keeps -/
theorem Fold_inv {S : Type} {f : Int32 → S → S} {N : Int32} (I : Int32 → S → Prop) (hN : 0 ≤ N) (hs : ∀ i s, 0 ≤ i → i < N → I i s → I (i + 1) (f i s)) : ∀ (m : Nat) (i : Int32) (s : S), 0 ≤ i → i ≤ N → ix (N - i) = m → I i s → I N (Fold f N i s) := by
  intro m
  induction m with
  | zero =>
    intro i s h0 h1 hm hi
    have e : i = N := by
      have := ix_int (i := N - i) (by lia)
      have e2 : (N - i).toInt = (0 : Int32).toInt := by
        have z : (0 : Int32).toInt = 0 := by decide
        omega
      have := Int32.toInt_inj.mp e2
      lia
    rw [Fold_ge h0 hN (by lia)]
    rw [← e]
    exact e ▸ hi
  | succ m ih =>
    intro i s h0 h1 hm hi
    have q : i < N := by
      by_cases q : i < N
      · exact q
      · have := ix_le0 (i := N - i) (by lia)
        omega
    rw [Fold_lt h0 q]
    refine ih (i + 1) (f i s) (by lia) (by lia) ?_ (hs i s h0 q hi)
    have e : N - i = N - (i + 1) + 1 := by lia
    rw [e, ix_s (by lia) (by lia)] at hm
    omega
