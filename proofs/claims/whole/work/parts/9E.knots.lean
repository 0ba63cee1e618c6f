/-! laws as they are read: the knots -/
theorem alL : al TC 18 = 64 ∧ al TC 19 = 3 ∧ al TC 20 = 3 ∧ al TC 25 = 72 ∧ al TR 17 = 6 ∧ al TR 18 = 6 ∧ al TR 19 = 6 ∧ al TR 20 = 128 ∧ al TR 21 = 128 ∧ al TR 22 = 128 ∧ al TR 23 = 96 ∧ al TR 24 = 96 := by
  simp only [alC, alR, true_and, and_self]
def upK (K : Kn) (s : Nat) (p : Nat × Nat) : Kn := fun i => if i = s then p else K i
theorem upK_s {K : Kn} {s : Nat} {p : Nat × Nat} : upK K s p s = p := by
  unfold upK
  exact if_pos rfl
theorem upK_n {K : Kn} {s i : Nat} {p : Nat × Nat} (e : ¬ i = s) : upK K s p i = K i := by
  unfold upK
  exact if_neg e
theorem hcg {K K' : Kn} {fr : Nat} : ∀ {n : Nat}, (∀ i, fr ≤ i → i < fr + n → K' i = K i) → hsim K' fr n = hsim K fr n
  | 0, _ => by rw [hsim_0, hsim_0]
  | n + 1, e => by
    rw [hsim_1, hsim_1, hcg (fun i a b => e i a (by omega)), show hst1 K' (fr + n) = hst1 K (fr + n) from funext fun s => by
      unfold hst1
      rw [e (fr + n) (by omega) (by omega)]]
theorem hsl {K : Kn} {fr : Nat} : ∀ {n : Nat} {r : List Nat}, hsim K fr n = some r → r.length ≤ n
  | 0, r, h => by
    rw [hsim_0] at h
    cases h
    exact Nat.le_refl _
  | n + 1, r, h => by
    obtain ⟨s, h1, h2⟩ := hsim_pre h
    have := hsl h1
    rcases hst1_cases h2 with ⟨_, rfl⟩ | ⟨_, a, t, rfl, rfl⟩ | ⟨_, a, b, t, rfl, rfl⟩ <;> simp only [List.length_cons] at * <;> omega
def stI (f g : Nat → Int32) : List Nat → Prop
  | [] => True
  | v :: t => f t.length = g v ∧ stI f g t
theorem stI.cg {f f' g : Nat → Int32} : ∀ {W : List Nat}, stI f g W → (∀ i, i < W.length → f' i = f i) → stI f' g W
  | [], _, _ => trivial
  | v :: t, x, e => ⟨by rw [e _ (by simp only [List.length_cons]; omega)]; exact x.1, stI.cg x.2 (fun i a => e i (by simp only [List.length_cons]; omega))⟩
def KSb (h h' : Hp) (fr : Nat) (K0 K : Kn) (s : Nat) (H : List Nat) : Prop :=
  (fr ≤ s ∧ s ≤ 64) ∧ h.1 17 1 = nI s ∧ h'.1 0 22 = nI s ∧ (∀ i, i < fr → K i = K0 i) ∧ (∀ i, fr ≤ i → i < s → h.1 18 i = cdOf (K i)) ∧ KnOK K fr s ∧ RKu h' K fr s ∧ hsim K fr (s - fr) = some H
theorem KSb.mv {h h' t t' : Hp} {fr s : Nat} {K0 K : Kn} {H : List Nat} (x : KSb h h' fr K0 K s H) (g1 : t.1 17 1 = h.1 17 1) (g2 : t.1 18 = h.1 18) (g3 : t'.1 0 22 = h'.1 0 22) (g4 : t'.1 20 = h'.1 20) (g5 : t'.1 21 = h'.1 21) (g6 : t'.1 22 = h'.1 22) : KSb t t' fr K0 K s H := by
  unfold KSb RKu at *
  rw [g1, g2, g3, g4, g5, g6]
  exact x
def HS (h' : Hp) (H : List Nat) : Prop := h'.1 0 46 = nI H.length ∧ stI (h'.1 24) nI H
theorem HS.mv {h' t' : Hp} {H : List Nat} (x : HS h' H) (g1 : t'.1 0 46 = h'.1 0 46) (g2 : t'.1 24 = h'.1 24) : HS t' H := by
  unfold HS at *
  rw [g1, g2]
  exact x
/-- one knot more -/
def apC (h : Hp) (s : Nat) (c : Int32) : Hp := pI (pI h 18 s c) 17 1 (nI (s + 1))
def apR (h : Hp) (s m : Nat) (k p o : Int32) : Hp := pI (pI (pI (pI (pI (pI h 20 (64 + s) k) 21 (64 + s) p) 22 (64 + s) o) 24 m (nI s)) 0 46 (nI (m + 1))) 0 22 (nI (s + 1))
theorem apCe {h : Hp} {s : Nat} {c : Int32} (e : h.1 17 1 = nI s) (hs : s < 64) : f_La_append TC h 17 c = some (apC h s c) := by
  unfold f_La_append
  simp only [lyC, alL]
  rw [e, if_neg (show ¬ Int32.ofNat 64 ≤ nI s from fun w => absurd ((nI_leI (a := 64) (by omega) (by omega)).mp w) (by omega)), wI_ok alL.1 hs (by decide), bnd_q, nmd_q, pI_n (by decide), e, nI_1]
  rfl
theorem apRe {h : Hp} {s m : Nat} {k p o : Int32} (e : h.1 0 22 = nI s) (hs : s < 64) (e2 : h.1 0 46 = nI m) (hm : m < 96) : f_Md_grown TR h 0 k p o = some (apR h s m k p o) := by
  unfold f_Md_grown apR
  simp only [lyR]
  have e6 : (64 : Int32) + nI s = nI (64 + s) := nI_add 64 s
  rw [e, e6, wI_ok alL.2.2.2.2.2.2.2.1 (show 64 + s < 128 by omega) (by decide), bnd_q, pI_n (by decide), e, e6, wI_ok alL.2.2.2.2.2.2.2.2.1 (show 64 + s < 128 by omega) (by decide), bnd_q, pI_n (by decide), pI_n (by decide), e, e6, wI_ok alL.2.2.2.2.2.2.2.2.2.1 (show 64 + s < 128 by omega) (by decide), bnd_q]
  rw [pI_n (show ¬ 0 = 22 by decide), pI_n (show ¬ 0 = 21 by decide), pI_n (show ¬ 0 = 20 by decide), pI_n (show ¬ 0 = 22 by decide), pI_n (show ¬ 0 = 21 by decide), pI_n (show ¬ 0 = 20 by decide), e, e2, wI_ok alL.2.2.2.2.2.2.2.2.2.2.2 hm (by decide), bnd_q, nmd_q, nmd_q]
  rw [pI_n (show ¬ 0 = 24 by decide), pI_n (show ¬ 0 = 22 by decide), pI_n (show ¬ 0 = 21 by decide), pI_n (show ¬ 0 = 20 by decide), e2, nI_1, pI_t, if_neg (show ¬ 22 = 46 by decide), pI_n (show ¬ 0 = 24 by decide), pI_n (show ¬ 0 = 22 by decide), pI_n (show ¬ 0 = 21 by decide), pI_n (show ¬ 0 = 20 by decide), e, nI_1]
theorem apCx {h : Hp} {s d j : Nat} {c : Int32} (n1 : ¬ (d = 18 ∧ j = s)) (n2 : ¬ (d = 17 ∧ j = 1)) : (apC h s c).1 d j = h.1 d j := by
  unfold apC
  rw [pI_x n2, pI_x n1]
theorem apRx {h : Hp} {s m d j : Nat} {k p o : Int32} (n1 : ¬ (20 ≤ d ∧ d ≤ 22 ∧ j = 64 + s)) (n2 : ¬ (d = 24 ∧ j = m)) (n3 : ¬ (d = 0 ∧ (j = 46 ∨ j = 22))) : (apR h s m k p o).1 d j = h.1 d j := by
  unfold apR
  rw [pI_x (by omega), pI_x (by omega), pI_x (by omega), pI_x (by omega), pI_x (by omega), pI_x (by omega)]
theorem kapp {h h' : Hp} {fr s k v : Nat} {K0 K : Kn} {H t : List Nat} {p o : Int32} (x : KSb h h' fr K0 K s H) (hs : s < 64) (hk : k ≤ 14) (kv : (k = 0 → v ≤ 9999) ∧ (k = 1 → v < 7)) (y : stI (h'.1 24) nI t) (hp : k ≤ 1 → p = nI v ∧ H = t) (h2 : k = 2 → ∃ a, H = a :: t ∧ p = nI a) (h3 : 3 ≤ k → ∃ a b, H = b :: a :: t ∧ p = nI a ∧ o = nI b) :
    KSb (apC h s (cdOf (k, v))) (apR h' s t.length (nI k) p o) fr K0 (upK K s (k, v)) (s + 1) (s :: t) ∧ HS (apR h' s t.length (nI k) p o) (s :: t) := by
  obtain ⟨⟨x1, x1b⟩, x2, x3, x4, x5, x6, x7, x8⟩ := x
  have cg : ∀ i, fr ≤ i → i ≤ s → hsim (upK K s (k, v)) fr (i - fr) = hsim K fr (i - fr) := fun i a b => hcg (fun q c d => upK_n (by omega))
  refine ⟨⟨⟨by omega, by omega⟩, ?_, ?_, fun i a => ?_, fun i a b => ?_, fun i a b => ?_, fun i a b => ?_, ?_⟩, ?_, ?_⟩
  · unfold apC
    rw [pI_t, if_pos rfl]
  · unfold apR
    rw [pI_t, if_pos rfl]
  · rw [upK_n (by omega)]
    exact x4 i a
  · by_cases q : i = s
    · subst q
      unfold apC
      rw [upK_s, pI_n (by decide), pI_t, if_pos rfl]
    · rw [upK_n q, apCx (by omega) (by omega)]
      exact x5 i a (by omega)
  · by_cases q : i = s
    · subst q
      rw [upK_s]
      exact ⟨hk, kv⟩
    · rw [upK_n q]
      exact x6 i a (by omega)
  · by_cases q : i = s
    · subst q
      rw [upK_s, cg i a (Nat.le_refl _), x8]
      have e1 : (apR h' i t.length (nI k) p o).1 20 (64 + i) = nI k := by
        unfold apR
        rw [pI_n (by decide), pI_n (by decide), pI_n (by decide), pI_n (by decide), pI_n (by decide), pI_t, if_pos rfl]
      have e2 : (apR h' i t.length (nI k) p o).1 21 (64 + i) = p := by
        unfold apR
        rw [pI_n (by decide), pI_n (by decide), pI_n (by decide), pI_n (by decide), pI_t, if_pos rfl]
      have e3 : (apR h' i t.length (nI k) p o).1 22 (64 + i) = o := by
        unfold apR
        rw [pI_n (by decide), pI_n (by decide), pI_n (by decide), pI_t, if_pos rfl]
      refine ⟨e1, fun c => e2.trans (hp c).1, fun w ew => ?_⟩
      cases ew
      refine ⟨fun c => ?_, fun c => ?_⟩
      · obtain ⟨a, q1, q2⟩ := h2 c
        exact ⟨a, t, q1, e2.trans q2⟩
      · obtain ⟨a, b, q1, q2, q3⟩ := h3 c
        exact ⟨a, b, t, q1, e2.trans q2, e3.trans q3⟩
    · rw [upK_n q, cg i a (by omega), apRx (by omega) (by omega) (by omega), apRx (by omega) (by omega) (by omega), apRx (by omega) (by omega) (by omega)]
      exact x7 i a (by omega)
  · rw [show s + 1 - fr = (s - fr) + 1 by omega, hsim_1, cg s x1 (Nat.le_refl _), x8, bnd_q, show fr + (s - fr) = s by omega]
    unfold hst1
    rw [upK_s]
    by_cases c1 : k ≤ 1
    · rw [if_pos c1, (hp c1).2]
    · rw [if_neg c1]
      by_cases c2 : k = 2
      · obtain ⟨a, q1, -⟩ := h2 c2
        rw [if_pos c2, q1]
      · obtain ⟨a, b, q1, -⟩ := h3 (by omega)
        rw [if_neg c2, q1]
  · unfold apR
    rw [pI_t, if_neg (by decide), pI_t, if_pos rfl]
    rfl
  · refine ⟨?_, y.cg (fun i a => apRx (by omega) (by omega) (by omega))⟩
    unfold apR
    rw [pI_n (by decide), pI_n (by decide), pI_t, if_pos rfl]
