/-! the way with fewest stops -/
theorem lgf0 : ∀ (d : Fin 61) (p : Fin 9), nI d.1 ≤ nI (p.1 + 1) * ((nI d.1 + nI (p.1 + 1) - 1) / nI (p.1 + 1)) ∧ nI (p.1 + 1) * ((nI d.1 + nI (p.1 + 1) - 1) / nI (p.1 + 1)) ≤ nI d.1 + nI (p.1 + 1) - 1 := by decide +kernel
theorem lg_b {P : Pl} {i d : Int32} (ok : POK P) (h0 : 0 ≤ i) (h1 : i < P 0 4) (d0 : 0 ≤ d) (d1 : d ≤ 60) : d ≤ P 10 i * lg P i d ∧ P 10 i * lg P i d ≤ d + P 10 i - 1 := by
  have o4 := ok.2.2.2.1 i h0 h1
  unfold lg
  obtain ⟨x, rfl⟩ := fin_i32 (n := 61) d0 (by decide) (show d < 61 by lia)
  obtain ⟨y, e⟩ := fin_i32 (m := P 10 i - 1) (n := 9) (by lia) (by decide) (show P 10 i - 1 < 9 by lia)
  have e2 : P 10 i = nI (y.1 + 1) := by
    rw [← nI_1, ← e]
    lia
  rw [e2]
  exact lgf0 x y
theorem leg_tri0 {p a b c x y z : Int32} (p1 : 1 ≤ p) (p9 : p ≤ 9) (x0 : 0 ≤ x) (x6 : x ≤ 60) (y0 : 0 ≤ y) (y6 : y ≤ 60) (z0 : 0 ≤ z) (z6 : z ≤ 60) (a0 : 0 ≤ a) (a6 : a ≤ 60) (b0 : 0 ≤ b) (b6 : b ≤ 60) (c0 : 0 ≤ c) (c6 : c ≤ 60) (h : c ≤ a + b) (ha : a ≤ p * x) (hb : b ≤ p * y) (hc : p * z ≤ c + p - 1) : z ≤ x + y := by
  rcases (show p = 1 ∨ p = 2 ∨ p = 3 ∨ p = 4 ∨ p = 5 ∨ p = 6 ∨ p = 7 ∨ p = 8 ∨ p = 9 by lia) with rfl | rfl | rfl | rfl | rfl | rfl | rfl | rfl | rfl <;> lia
theorem leg_tri {P : Pl} {i a b c : Int32} (ok : POK P) (h0 : 0 ≤ i) (h1 : i < P 0 4) (a0 : 0 ≤ a) (a6 : a ≤ 60) (b0 : 0 ≤ b) (b6 : b ≤ 60) (c0 : 0 ≤ c) (c6 : c ≤ 60) (h : c ≤ a + b) : lg P i c ≤ lg P i a + lg P i b := by
  have o4 := ok.2.2.2.1 i h0 h1
  have ka := lg_b ok h0 h1 a0 a6
  have kb := lg_b ok h0 h1 b0 b6
  have kc := lg_b ok h0 h1 c0 c6
  have la := lg_ok ok h0 h1 a0 a6
  have lb := lg_ok ok h0 h1 b0 b6
  have lc := lg_ok ok h0 h1 c0 c6
  exact leg_tri0 o4.2.2.2.2.2.2.1 o4.2.2.2.2.2.2.2 la.1 la.2 lb.1 lb.2 lc.1 lc.2 a0 a6 b0 b6 c0 c6 h ka.1 kb.1 kc.2
theorem ab_tri {a b c : Int32} (a0 : 0 ≤ a) (a1 : a ≤ 60) (b0 : 0 ≤ b) (b1 : b ≤ 60) (c0 : 0 ≤ c) (c1 : c ≤ 60) : abI (c - a) ≤ abI (b - a) + abI (c - b) := by
  rw [ab_e c0 c1 a0 a1, ab_e b0 b1 a0 a1, ab_e c0 c1 b0 b1]
  (repeat' split) <;> lia
/-- a leg from a place to a trough -/
def lq (P : Pl) (i b r : Int32) : Int32 := lg P i (abI (P 2 r - b))
theorem lq_ok {P : Pl} {i b r : Int32} (ok : POK P) (h0 : 0 ≤ i) (h1 : i < P 0 4) (b0 : 0 ≤ b) (b1 : b ≤ P 0 0) (r0 : 0 ≤ r) (r1 : r < P 0 3) : 0 ≤ lq P i b r ∧ lq P i b r ≤ 60 := by
  have := ab60 ok r0 r1 b0 b1
  exact lg_ok ok h0 h1 this.1 this.2
theorem lq_tri {P : Pl} {i b q r : Int32} (ok : POK P) (h0 : 0 ≤ i) (h1 : i < P 0 4) (b0 : 0 ≤ b) (b1 : b ≤ P 0 0) (q0 : 0 ≤ q) (q1 : q < P 0 3) (r0 : 0 ≤ r) (r1 : r < P 0 3) : lq P i b r ≤ lq P i b q + lq P i (P 2 q) r := by
  have o1 := ok.1
  have oq := ok.2.1 q q0 q1
  have or_ := ok.2.1 r r0 r1
  have k1 := ab60 ok q0 q1 b0 b1
  have k2 := ab60 ok r0 r1 oq.1 oq.2.1
  have k3 := ab60 ok r0 r1 b0 b1
  exact leg_tri ok h0 h1 k1.1 k1.2 k2.1 k2.2 k3.1 k3.2 (ab_tri b0 (by lia) oq.1 (by lia) or_.1 (by lia))
def lfv (P : Pl) (A : Aw) (i v b r t : Int32) : Int32 := if 100 ≤ v + lq P i b r then t else mnI t (if A.1 6 r ≤ 0 then v + lq P i b r else 0)
def lfp (P : Pl) (A : Aw) (i v b : Int32) (T : Int32 → Int32) : Int32 → Int32 := fun r => lfv P A i v b r (T r)
def rst (P : Pl) (A : Aw) (i : Int32) (T : Int32 → Int32) (q : Int32) (T' : Int32 → Int32) : Int32 → Int32 := if 100 ≤ T q then T' else lfp P A i (T q) (P 2 q) T'
def rnd (P : Pl) (A : Aw) (i : Int32) (T : Int32 → Int32) : Int32 → Int32 := Fold (rst P A i T) (P 0 3) 0 T
def Tn (P : Pl) (A : Aw) (i : Int32) : Nat → Int32 → Int32
  | 0 => lfp P A i (A.1 2 i) (A.1 1 i) (fun _ => 100)
  | n + 1 => rnd P A i (Tn P A i n)
def TB (P : Pl) (T : Int32 → Int32) : Prop := ∀ r, 0 ≤ r → r < P 0 3 → 0 ≤ T r ∧ T r ≤ 100
theorem lfv_b {P : Pl} {A : Aw} {i v b r t : Int32} (l0 : 0 ≤ lq P i b r) (l6 : lq P i b r ≤ 60) (v0 : 0 ≤ v) (v1 : v ≤ 198) (t0 : 0 ≤ t) (t1 : t ≤ 100) : 0 ≤ lfv P A i v b r t ∧ lfv P A i v b r t ≤ t ∧ (v + lq P i b r < 100 → lfv P A i v b r t < 100) ∧ (lfv P A i v b r t < t → v + lq P i b r < 100 ∧ lfv P A i v b r t = (if A.1 6 r ≤ 0 then v + lq P i b r else 0)) := by
  unfold lfv mnI
  generalize lq P i b r = l at l0 l6 ⊢
  (repeat' split) <;> lia
theorem lfp_B {P : Pl} {A : Aw} {i v b : Int32} {T : Int32 → Int32} (ok : POK P) (h0 : 0 ≤ i) (h1 : i < P 0 4) (b0 : 0 ≤ b) (b1 : b ≤ P 0 0) (v0 : 0 ≤ v) (v1 : v ≤ 198) (t : TB P T) : TB P (lfp P A i v b T) := by
  intro r r0 r1
  have k := lq_ok ok h0 h1 b0 b1 r0 r1
  have z := t r r0 r1
  have := lfv_b (A := A) k.1 k.2 v0 v1 z.1 z.2
  unfold lfp
  exact ⟨this.1, by lia⟩
/-- what a round does -/
def RDP (P : Pl) (A : Aw) (i : Int32) (T : Int32 → Int32) (k : Int32) (T' : Int32 → Int32) : Prop :=
  (∀ r, 0 ≤ r → r < P 0 3 → 0 ≤ T' r ∧ T' r ≤ T r) ∧
  (∀ q, 0 ≤ q → q < k → T q < 100 → ∀ r, 0 ≤ r → r < P 0 3 → T q + lq P i (P 2 q) r < 100 → T' r < 100) ∧
  (∀ r, 0 ≤ r → r < P 0 3 → T' r < T r → ∃ q, 0 ≤ q ∧ q < P 0 3 ∧ T q < 100 ∧ T q + lq P i (P 2 q) r < 100 ∧ T' r = (if A.1 6 r ≤ 0 then T q + lq P i (P 2 q) r else 0))
theorem RDP.st {P : Pl} {A : Aw} {i k : Int32} {T T' : Int32 → Int32} (ok : POK P) (h0 : 0 ≤ i) (h1 : i < P 0 4) (t : TB P T) (k0 : 0 ≤ k) (k1 : k < P 0 3) (x : RDP P A i T k T') : RDP P A i T (k + 1) (rst P A i T k T') := by
  have o1 := ok.1
  have ok2 := ok.2.1 k k0 k1
  have tk := t k k0 k1
  obtain ⟨x1, x2, x3⟩ := x
  unfold rst
  by_cases c : 100 ≤ T k
  · rw [if_pos c]
    refine ⟨x1, fun q q0 q1 a => ?_, x3⟩
    by_cases d : q = k
    · subst d
      exact absurd a (by lia)
    · exact x2 q q0 (by lia) a
  rw [if_neg c]
  have key : ∀ r, 0 ≤ r → r < P 0 3 → 0 ≤ lfp P A i (T k) (P 2 k) T' r ∧ lfp P A i (T k) (P 2 k) T' r ≤ T' r ∧ (T k + lq P i (P 2 k) r < 100 → lfp P A i (T k) (P 2 k) T' r < 100) ∧ (lfp P A i (T k) (P 2 k) T' r < T' r → T k + lq P i (P 2 k) r < 100 ∧ lfp P A i (T k) (P 2 k) T' r = (if A.1 6 r ≤ 0 then T k + lq P i (P 2 k) r else 0)) := fun r r0 r1 => by
    have l := lq_ok ok h0 h1 ok2.1 ok2.2.1 r0 r1
    have z := x1 r r0 r1
    have w := t r r0 r1
    exact lfv_b (A := A) l.1 l.2 tk.1 (by lia) z.1 (by lia)
  generalize lfp P A i (T k) (P 2 k) T' = T2 at key ⊢
  refine ⟨fun r r0 r1 => ?_, fun q q0 q1 a r r0 r1 b => ?_, fun r r0 r1 a => ?_⟩
  · have y := key r r0 r1
    have z := x1 r r0 r1
    exact ⟨y.1, by lia⟩
  · have y := key r r0 r1
    by_cases d : q = k
    · subst d
      exact y.2.2.1 b
    · have := x2 q q0 (by lia) a r r0 r1 b
      lia
  · have y := key r r0 r1
    by_cases d : T2 r < T' r
    · have z := y.2.2.2 d
      exact ⟨k, k0, k1, by lia, z.1, z.2⟩
    · have e : T2 r = T' r := by lia
      rw [e] at a ⊢
      exact x3 r r0 r1 a
theorem rnd_p {P : Pl} {A : Aw} {i : Int32} {T : Int32 → Int32} (ok : POK P) (h0 : 0 ≤ i) (h1 : i < P 0 4) (t : TB P T) : RDP P A i T (P 0 3) (rnd P A i T) := by
  have o1 := ok.1
  exact Fold_inv (fun k T' => RDP P A i T k T') (by lia) (fun k T' k0 k1 x => x.st ok h0 h1 t k0 k1) _ 0 T (by decide) (by lia) rfl ⟨fun r r0 r1 => ⟨(t r r0 r1).1, by lia⟩, fun q q0 q1 => absurd q1 (by lia), fun r r0 r1 a => absurd a (by lia)⟩
theorem Tn_B {P : Pl} {A : Aw} {i : Int32} (ok : POK P) (wo : WOK P A) (h0 : 0 ≤ i) (h1 : i < P 0 4) : ∀ n, TB P (Tn P A i n)
  | 0 => by
    have w := wo.1 i h0 h1
    exact lfp_B ok h0 h1 w.1 w.2.1 w.2.2.1 w.2.2.2.1 (fun _ _ _ => by decide)
  | n + 1 => by
    have t := Tn_B ok wo h0 h1 n
    have x := rnd_p (A := A) ok h0 h1 t
    intro r r0 r1
    have y := x.1 r r0 r1
    have z := t r r0 r1
    exact ⟨y.1, by
      show rnd P A i (Tn P A i n) r ≤ 100
      lia⟩
/-- at a wet trough thirst is gone -/
theorem Tn_w {P : Pl} {A : Aw} {i r : Int32} (ok : POK P) (wo : WOK P A) (h0 : 0 ≤ i) (h1 : i < P 0 4) (r0 : 0 ≤ r) (r1 : r < P 0 3) (w : ¬ A.1 6 r ≤ 0) : ∀ n, Tn P A i n r < 100 → Tn P A i n r = 0
  | 0, h => by
    unfold Tn lfp lfv at h ⊢
    simp only at h ⊢
    by_cases c : 100 ≤ A.1 2 i + lq P i (A.1 1 i) r
    · rw [if_pos c] at h
      exact absurd h (by decide)
    · rw [if_neg c, if_neg w]
      decide
  | n + 1, h => by
    have x := rnd_p (A := A) ok h0 h1 (Tn_B ok wo h0 h1 n)
    have y := x.1 r r0 r1
    by_cases c : rnd P A i (Tn P A i n) r < Tn P A i n r
    · obtain ⟨q, -, -, -, -, e⟩ := x.2.2 r r0 r1 c
      rw [if_neg w] at e
      exact e
    · have e : rnd P A i (Tn P A i n) r = Tn P A i n r := by lia
      have h2 : rnd P A i (Tn P A i n) r < 100 := h
      show rnd P A i (Tn P A i n) r = 0
      rw [e] at h2 ⊢
      exact Tn_w ok wo h0 h1 r0 r1 w n h2
/-- a dry trough brings one nowhere else -/
theorem Tn_d {P : Pl} {A : Aw} {i q : Int32} (ok : POK P) (wo : WOK P A) (h0 : 0 ≤ i) (h1 : i < P 0 4) (q0 : 0 ≤ q) (q1 : q < P 0 3) (w : A.1 6 q ≤ 0) : ∀ n, Tn P A i n q < 100 → ∀ r, 0 ≤ r → r < P 0 3 → Tn P A i n q + lq P i (P 2 q) r < 100 → Tn P A i n r < 100
  | 0, h, r, r0, r1, a => by
    have ww := wo.1 i h0 h1
    have t := lq_tri ok h0 h1 ww.1 ww.2.1 q0 q1 r0 r1
    have l1 := lq_ok ok h0 h1 ww.1 ww.2.1 q0 q1
    have l2 := lq_ok ok h0 h1 ww.1 ww.2.1 r0 r1
    have oq := ok.2.1 q q0 q1
    have l3 := lq_ok ok h0 h1 oq.1 oq.2.1 r0 r1
    unfold Tn lfp lfv at h a ⊢
    simp only at h a ⊢
    by_cases c : 100 ≤ A.1 2 i + lq P i (A.1 1 i) q
    · rw [if_pos c] at h
      exact absurd h (by decide)
    · rw [if_neg c, if_pos w] at a
      unfold mnI at a ⊢
      generalize lq P i (A.1 1 i) q = x1 at *
      generalize lq P i (A.1 1 i) r = x2 at *
      generalize lq P i (P 2 q) r = x3 at *
      rw [if_pos (by lia)] at a
      rw [if_neg (by lia)]
      (repeat' split) <;> lia
  | n + 1, h, r, r0, r1, a => by
    have B := Tn_B ok wo h0 h1 n
    have x := rnd_p (A := A) ok h0 h1 B
    have y := x.1 q q0 q1
    have h2 : rnd P A i (Tn P A i n) q < 100 := h
    have a2 : rnd P A i (Tn P A i n) q + lq P i (P 2 q) r < 100 := a
    show rnd P A i (Tn P A i n) r < 100
    by_cases c : rnd P A i (Tn P A i n) q < Tn P A i n q
    · obtain ⟨p, p0, p1, pa, pb, e⟩ := x.2.2 q q0 q1 c
      rw [if_pos w] at e
      rw [e] at a2
      have op := ok.2.1 p p0 p1
      have oq := ok.2.1 q q0 q1
      have t := lq_tri ok h0 h1 op.1 op.2.1 q0 q1 r0 r1
      have l1 := lq_ok ok h0 h1 op.1 op.2.1 q0 q1
      have l2 := lq_ok ok h0 h1 op.1 op.2.1 r0 r1
      have l3 := lq_ok ok h0 h1 oq.1 oq.2.1 r0 r1
      have bp := B p p0 p1
      exact x.2.1 p p0 p1 pa r r0 r1 (by
        clear x y h h2 a c e B op oq
        lia)
    · have e : rnd P A i (Tn P A i n) q = Tn P A i n q := by lia
      rw [e] at h2 a2
      have := Tn_d ok wo h0 h1 q0 q1 w n h2 r r0 r1 a2
      have z := x.1 r r0 r1
      lia
/-- who isn't reached by two legs is never reached -/
theorem Tn_e {P : Pl} {A : Aw} {i g : Int32} (ok : POK P) (wo : WOK P A) (h0 : 0 ≤ i) (h1 : i < P 0 4) (g0 : 0 ≤ g) (g1 : g < P 0 3) (h : 100 ≤ Tn P A i 1 g) : ∀ n, 100 ≤ Tn P A i n g := by
  have B := Tn_B (A := A) ok wo h0 h1
  have x0 := rnd_p (A := A) ok h0 h1 (B 0)
  have hh : 100 ≤ rnd P A i (Tn P A i 0) g := h
  have dry : ∀ q, 0 ≤ q → q < P 0 3 → Tn P A i 0 q < 100 → A.1 6 q ≤ 0 := by
    intro q q0 q1 a
    by_cases w : A.1 6 q ≤ 0
    · exact w
    · have e := Tn_w ok wo h0 h1 q0 q1 w 0 a
      have oq := ok.2.1 q q0 q1
      have l := lq_ok ok h0 h1 oq.1 oq.2.1 g0 g1
      have := x0.2.1 q q0 q1 a g g0 g1 (by rw [e]; clear x0 h hh; lia)
      exact absurd this (by clear x0; lia)
  have all : ∀ n r, 0 ≤ r → r < P 0 3 → Tn P A i n r < 100 → Tn P A i 0 r < 100 := by
    intro n
    induction n with
    | zero => exact fun r _ _ a => a
    | succ n ih =>
      intro r r0 r1 a
      have x := rnd_p (A := A) ok h0 h1 (B n)
      have a2 : rnd P A i (Tn P A i n) r < 100 := a
      have y := x.1 r r0 r1
      by_cases c : Tn P A i n r < 100
      · exact ih r r0 r1 c
      · obtain ⟨q, q0, q1, qa, qb, -⟩ := x.2.2 r r0 r1 (by lia)
        have d := dry q q0 q1 (ih q q0 q1 qa)
        exact absurd (Tn_d ok wo h0 h1 q0 q1 d n qa r r0 r1 qb) c
  intro n
  by_cases c : Tn P A i n g < 100
  · have a := all n g g0 g1 c
    have y := x0.1 g g0 g1
    exact absurd hh (by clear x0; lia)
  · lia
/-- the first leg by which one comes there -/
def FS (P : Pl) (A : Aw) (i g : Int32) (m : Nat) (r : Int32) : Prop := (r = -2 ∧ ∀ n, n < m → 100 ≤ Tn P A i n g) ∨ ∃ n, n < m ∧ r = nI (n + 1) ∧ Tn P A i n g < 100 ∧ ∀ k, k < n → 100 ≤ Tn P A i k g
theorem FS.eq {P : Pl} {A : Aw} {i g r r' : Int32} (ok : POK P) (wo : WOK P A) (h0 : 0 ≤ i) (h1 : i < P 0 4) (g0 : 0 ≤ g) (g1 : g < P 0 3) (a : FS P A i g 6 r) (b : FS P A i g 13 r') : r = r' := by
  have no : ∀ n, (∀ k, k < 6 → 100 ≤ Tn P A i k g) → ¬ Tn P A i n g < 100 := fun n h z => absurd (Tn_e ok wo h0 h1 g0 g1 (h 1 (by decide)) n) (by lia)
  rcases a with ⟨a1, a2⟩ | ⟨n, a1, a2, a3, a4⟩
  · rcases b with ⟨b1, b2⟩ | ⟨m, b1, b2, b3, b4⟩
    · rw [a1, b1]
    · exact absurd b3 (no m a2)
  · rcases b with ⟨b1, b2⟩ | ⟨m, b1, b2, b3, b4⟩
    · exact absurd a3 (by have := b2 n (by omega); lia)
    · have e : n = m := by
        rcases Nat.lt_trichotomy n m with z | z | z
        · exact absurd a3 (by have := b4 n z; lia)
        · exact z
        · exact absurd b3 (by have := a4 m z; lia)
      rw [a2, b2, e]
