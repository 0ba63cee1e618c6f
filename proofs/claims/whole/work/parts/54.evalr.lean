/-! the reference works a law out -/
theorem alR18 : al TR 18 = 6 := by simp only [alR]
theorem alR19 : al TR 19 = 6 := by simp only [alR]
theorem alR20 : al TR 20 = 128 := by simp only [alR]
theorem alR21 : al TR 21 = 128 := by simp only [alR]
theorem alR22 : al TR 22 = 128 := by simp only [alR]
theorem alR25 : al TR 25 = 7 := by simp only [alR]
theorem alR26 : al TR 26 = 64 := by simp only [alR]
/-- which knots wait: one step, many -/
def hst1 (K : Kn) (i : Nat) (s : List Nat) : Option (List Nat) :=
  if (K i).1 ≤ 1 then some (i :: s)
  else if (K i).1 = 2 then (match s with
    | _ :: t => some (i :: t)
    | [] => none)
  else (match s with
    | _ :: _ :: t => some (i :: t)
    | _ => none)
def hsim (K : Kn) (fr : Nat) : Nat → Option (List Nat)
  | 0 => some []
  | n + 1 => (hsim K fr n).bind (hst1 K (fr + n))
theorem hsim_0 {K : Kn} {fr : Nat} : hsim K fr 0 = some [] := rfl
theorem hsim_1 {K : Kn} {fr n : Nat} : hsim K fr (n + 1) = (hsim K fr n).bind (hst1 K (fr + n)) := rfl
theorem hst1_cases {K : Kn} {i : Nat} {s r : List Nat} (h : hst1 K i s = some r) : ((K i).1 ≤ 1 ∧ r = i :: s) ∨ ((K i).1 = 2 ∧ ∃ a t, s = a :: t ∧ r = i :: t) ∨ (3 ≤ (K i).1 ∧ ∃ a b t, s = b :: a :: t ∧ r = i :: t) := by
  unfold hst1 at h
  by_cases q : (K i).1 ≤ 1
  · rw [if_pos q] at h
    cases h
    exact .inl ⟨q, rfl⟩
  · rw [if_neg q] at h
    by_cases q2 : (K i).1 = 2
    · rw [if_pos q2] at h
      match s, h with
      | a :: t, h =>
        cases h
        exact .inr (.inl ⟨q2, a, t, rfl, rfl⟩)
    · rw [if_neg q2] at h
      match s, h with
      | b :: a :: t, h =>
        cases h
        exact .inr (.inr ⟨by omega, a, b, t, rfl, rfl⟩)
theorem hsim_pre {K : Kn} {fr n : Nat} {r : List Nat} (h : hsim K fr (n + 1) = some r) : ∃ s, hsim K fr n = some s ∧ hst1 K (fr + n) s = some r := by
  rw [hsim_1] at h
  exact bnd_e h
theorem hsim_le {K : Kn} {fr : Nat} : ∀ {n m : Nat} {r : List Nat}, hsim K fr n = some r → m ≤ n → ∃ s, hsim K fr m = some s
  | 0, m, r, h, hm => ⟨[], by rw [show m = 0 by omega]; rfl⟩
  | n + 1, m, r, h, hm => by
    by_cases q : m = n + 1
    · exact ⟨r, q ▸ h⟩
    · obtain ⟨s, h1, _⟩ := hsim_pre h
      exact hsim_le h1 (by omega)
theorem hsim_lt {K : Kn} {fr : Nat} : ∀ {n : Nat} {r : List Nat}, hsim K fr n = some r → ∀ j ∈ r, j < fr + n
  | 0, r, h => by
    cases h
    intro j hj
    cases hj
  | n + 1, r, h => by
    obtain ⟨s, h1, h2⟩ := hsim_pre h
    have ih := hsim_lt h1
    intro j hj
    rcases hst1_cases h2 with ⟨_, rfl⟩ | ⟨_, a, t, rfl, rfl⟩ | ⟨_, a, b, t, rfl, rfl⟩
    · rcases List.mem_cons.mp hj with rfl | hj
      · omega
      · have := ih j hj; omega
    · rcases List.mem_cons.mp hj with rfl | hj
      · omega
      · have := ih j (List.mem_cons_of_mem _ hj); omega
    · rcases List.mem_cons.mp hj with rfl | hj
      · omega
      · have := ih j (List.mem_cons_of_mem _ (List.mem_cons_of_mem _ hj)); omega
theorem hsim_hd {K : Kn} {fr n : Nat} {r : List Nat} (h : hsim K fr (n + 1) = some r) : ∃ t, r = (fr + n) :: t := by
  obtain ⟨s, h1, h2⟩ := hsim_pre h
  rcases hst1_cases h2 with ⟨_, rfl⟩ | ⟨_, a, t, rfl, rfl⟩ | ⟨_, a, b, t, rfl, rfl⟩
  · exact ⟨_, rfl⟩
  · exact ⟨_, rfl⟩
  · exact ⟨_, rfl⟩
def RKn (h : Hp) (K : Kn) (fr to : Nat) : Prop := ∀ i, fr ≤ i → i < to → h.1 20 i = nI (K i).1 ∧ ((K i).1 ≤ 1 → h.1 21 i = nI (K i).2) ∧ (∀ s, hsim K fr (i - fr) = some s → ((K i).1 = 2 → ∃ a t, s = a :: t ∧ h.1 21 i = nI a) ∧ (3 ≤ (K i).1 → ∃ a b t, s = b :: a :: t ∧ h.1 21 i = nI a ∧ h.1 22 i = nI b))
/-- what stays -/
def RLf (h h' : Hp) : Prop := (∀ c j, (c ≠ 0 ∨ j ≠ 53) → h'.1 c j = h.1 c j) ∧ (∀ c, c ≠ 26 → h'.2 c = h.2 c)
theorem RLf.rf {h : Hp} : RLf h h := ⟨fun _ _ _ => rfl, fun _ _ => rfl⟩
theorem RLf.tr {a b c : Hp} (h1 : RLf a b) (h2 : RLf b c) : RLf a c := ⟨fun q j hq => (h2.1 q j hq).trans (h1.1 q j hq), fun q hq => (h2.2 q hq).trans (h1.2 q hq)⟩
theorem RLf.pL {h : Hp} {j : Nat} {x : Int64} : RLf h (pL h 26 j x) := ⟨fun _ _ _ => rfl, fun c hc => pL_o hc⟩
theorem RLf.pI {h : Hp} {x : Int32} : RLf h (pI h 0 53 x) := by
  refine ⟨fun c j q => ?_, fun _ _ => rfl⟩
  rw [pI_1]
  by_cases h1 : c = 0
  · rw [if_pos h1, if_neg (by omega)]
  · rw [if_neg h1]
theorem RKn.mv {h h' : Hp} {K : Kn} {fr to : Nat} (f : RLf h h') (r : RKn h K fr to) : RKn h' K fr to := by
  intro i h1 h2
  rw [f.1 20 i (by omega), f.1 21 i (by omega), f.1 22 i (by omega)]
  exact r i h1 h2
theorem val_num {h : Hp} {i a : Nat} (hi : i < 128) (hk : h.1 20 i = nI 0) (ha : h.1 21 i = nI a) : f_Md_valueOf TR h 0 (nI i) = some ((nI a).toInt64, h) := by
  unfold f_Md_valueOf
  simp only [lyR]
  rw [rI_ok (n := 128) alR20 hi (by decide), bnd_q, hk, if_pos (show nI 0 = 0 from rfl), rI_ok (n := 128) alR21 hi (by decide), bnd_q, ha]
theorem val_nam {h : Hp} {i a : Nat} (hi : i < 128) (hk : h.1 20 i = nI 1) (ha : h.1 21 i = nI a) (h7 : a < 7) : f_Md_valueOf TR h 0 (nI i) = some (h.2 25 a, h) := by
  unfold f_Md_valueOf
  simp only [lyR]
  rw [rI_ok (n := 128) alR20 hi (by decide), bnd_q, hk, if_neg (show ¬ nI 1 = 0 by decide), bnd_q, if_pos (show nI 1 = 1 from rfl), rI_ok (n := 128) alR21 hi (by decide), bnd_q, ha, rL_ok (n := 7) alR25 h7 (by decide), bnd_q]
theorem val_not {h : Hp} {i a : Nat} (hi : i < 128) (hk : h.1 20 i = nI 2) (ha : h.1 21 i = nI a) (h6 : a < 64) : f_Md_valueOf TR h 0 (nI i) = some ((if h.2 26 a = 0 then 1 else 0), h) := by
  unfold f_Md_valueOf
  simp only [lyR]
  rw [rI_ok (n := 128) alR20 hi (by decide), bnd_q, hk, if_neg (show ¬ nI 2 = 0 by decide), bnd_q, if_neg (show ¬ nI 2 = 1 by decide), rI_ok (n := 128) alR21 hi (by decide), bnd_q, ha, rL_ok (n := 64) alR26 h6 (by decide), bnd_q, bnd_q, if_pos (show nI 2 = 2 from rfl)]
  by_cases q : h.2 26 a = 0
  · rw [if_pos ((lc_eq0 _ _).mpr q), if_pos q]
  · rw [if_neg (fun z => q ((lc_eq0 _ _).mp z)), if_neg q]
theorem er_go {to k n i : Nat} {h h1 : Hp} {v : Int64} (hto : to ≤ 64) (hk3 : k < 6) (hi : i < to) (hl : h.1 19 k = nI to) (hv : f_Md_valueOf TR h 0 (nI i) = some (v, h1)) : lp_Md_lawOf_12 TR (n + 1) h 0 (nI k) (nI i) = lp_Md_lawOf_12 TR n (pL h1 26 i v) 0 (nI k) (nI (i + 1)) := by
  rw [lp_Md_lawOf_12]
  simp only [lyR]
  rw [rI_ok (n := 6) alR19 hk3 (by decide), bnd_q, hl, if_neg (nI_ge hi (by omega)), hv, bnd_q, wL_ok (n := 64) alR26 (by omega) (by decide), bnd_q, nmd_q, nI_1]
/-- once wrong, it stays so -/
theorem evR_er {K : Kn} {fr to k : Nat} (hto : to ≤ 64) (hk3 : k < 6) (hK : KnOK K fr to) {x : List Nat} (hx : hsim K fr (to - fr) = some x) : ∀ (m n i : Nat) (h : Hp), i + m = to → m < n → fr ≤ i → RKn h K fr to → h.1 19 k = nI to → h.1 0 53 = 1 →
    ∃ h', RLf h h' ∧ lp_Md_lawOf_12 TR n h 0 (nI k) (nI i) = some (0, h') ∧ h'.1 0 53 = 1 := by
  intro m
  induction m with
  | zero =>
    intro n i h e1 e2 e3 hr hl he
    obtain ⟨n, rfl⟩ : ∃ n', n = n' + 1 := ⟨n - 1, by omega⟩
    have hi : i = to := by omega
    refine ⟨h, RLf.rf, ?_, he⟩
    rw [lp_Md_lawOf_12]
    simp only [lyR]
    rw [rI_ok (n := 6) alR19 hk3 (by decide), bnd_q, hl, hi, if_pos (nI_le (Nat.le_refl _) (by omega)), if_neg (by rw [he]; decide)]
  | succ m ih =>
    intro n i h e1 e2 e3 hr hl he
    obtain ⟨n, rfl⟩ : ∃ n', n = n' + 1 := ⟨n - 1, by omega⟩
    obtain ⟨o1, o2, o3⟩ := hK i e3 (by omega)
    obtain ⟨r1, r2, r3⟩ := hr i e3 (by omega)
    obtain ⟨s, hs⟩ := hsim_le hx (show i - fr ≤ to - fr by omega)
    obtain ⟨s', hs'⟩ := hsim_le hx (show i - fr + 1 ≤ to - fr by omega)
    obtain ⟨r4, r5⟩ := r3 s hs
    have hlt := hsim_lt hs
    have key : ∃ v, f_Md_valueOf TR h 0 (nI i) = some (v, h) := by
      rcases (show (K i).1 = 0 ∨ (K i).1 = 1 ∨ (K i).1 = 2 ∨ 3 ≤ (K i).1 by omega) with q | q | q | q
      · exact ⟨_, val_num (by omega) (q ▸ r1) (r2 (by omega))⟩
      · exact ⟨_, val_nam (by omega) (q ▸ r1) (r2 (by omega)) (o3 q)⟩
      · obtain ⟨a, t, rfl, ha⟩ := r4 q
        have := hlt a List.mem_cons_self
        exact ⟨_, val_not (by omega) (q ▸ r1) ha (by omega)⟩
      · obtain ⟨a, b, t, rfl, ha, hb⟩ := r5 q
        have := hlt b List.mem_cons_self
        have := hlt a (List.mem_cons_of_mem _ List.mem_cons_self)
        exact val_er (by omega) r1 ha hb (by omega) (by omega) q o1 he
    obtain ⟨v, hv⟩ := key
    obtain ⟨h', c1, c2, c3⟩ := ih n (i + 1) (pL h 26 i v) (by omega) (by omega) (by omega) (RKn.mv RLf.pL hr) hl he
    exact ⟨h', RLf.pL.tr c1, by rw [er_go hto hk3 (by omega) hl hv]; exact c2, c3⟩
def hvs (h : Hp) : List Nat → List Int64 → Prop
  | [], [] => True
  | j :: r, v :: t => h.2 26 j = v ∧ hvs h r t
  | _, _ => False
theorem hvs_up {h h1 : Hp} {i : Nat} {x : Int64} (e : h1.2 = h.2) : ∀ {r : List Nat} {t : List Int64}, hvs h r t → (∀ j ∈ r, j < i) → hvs (pL h1 26 i x) r t
  | [], [], _, _ => trivial
  | j :: r, v :: t, hs, hj => by
    refine ⟨?_, hvs_up e hs.2 (fun q hq => hj q (List.mem_cons_of_mem _ hq))⟩
    have := hj j List.mem_cons_self
    rw [pL_2, if_pos rfl, if_neg (by omega), e]
    exact hs.1
  | [], _ :: _, hs, _ => hs.elim
  | _ :: _, [], hs, _ => hs.elim
def rres (o : Option Int64) (v : Int64) (h' : Hp) : Prop := match o with
  | some x => h'.1 0 53 = 0 ∧ v = x
  | none => h'.1 0 53 = 1 ∧ v = 0
theorem evR {K : Kn} {fr to k : Nat} {nm : Nat → Int64} (hnL : ∀ j, j < 7 → inL (nm j)) (hto : to ≤ 64) (hk3 : k < 6) (hK : KnOK K fr to) (hft : fr < to) {x : Nat} (hx : hsim K fr (to - fr) = some [x]) : ∀ (m n i : Nat) (h : Hp) (hs : List Nat) (s : List Int64), i + m = to → m < n → fr ≤ i → hsim K fr (i - fr) = some hs → hvs h hs s → (∀ v ∈ s, inL v) → RKn h K fr to → h.1 19 k = nI to → (∀ j, j < 7 → h.2 25 j = nm j) → h.1 0 53 = 0 →
    ∃ h' v, RLf h h' ∧ lp_Md_lawOf_12 TR n h 0 (nI k) (nI i) = some (v, h') ∧ rres (one (evS K nm m i s)) v h' := by
  intro m
  induction m with
  | zero =>
    intro n i h hs s e1 e2 e3 hh hv hL hr hl hn he
    obtain ⟨n, rfl⟩ : ∃ n', n = n' + 1 := ⟨n - 1, by omega⟩
    have hi : i = to := by omega
    subst hi
    rw [hx] at hh
    cases hh
    match s, hv with
    | [v], hv =>
      have hx1 : x = i - 1 := by
        obtain ⟨d, hd⟩ : ∃ d, i - fr = d + 1 := ⟨i - fr - 1, by omega⟩
        rw [hd] at hx
        obtain ⟨t, ht⟩ := hsim_hd hx
        injection ht with h1 h2
        omega
      refine ⟨h, v, RLf.rf, ?_, ⟨he, rfl⟩⟩
      rw [lp_Md_lawOf_12]
      simp only [lyR]
      have e9 : nI i - 1 = nI (i - 1) := by
        have := nI_pred (i - 1)
        rwa [show i - 1 + 1 = i by omega] at this
      rw [rI_ok (n := 6) alR19 hk3 (by decide), bnd_q, hl, if_pos (nI_le (Nat.le_refl _) (by omega)), if_pos he, bnd_q, e9, rL_ok (n := 64) alR26 (by omega) (by decide), bnd_q, ← hx1, hv.1]
  | succ m ih =>
    intro n i h hs s e1 e2 e3 hh hv hL hr hl hn he
    obtain ⟨n, rfl⟩ : ∃ n', n = n' + 1 := ⟨n - 1, by omega⟩
    obtain ⟨o1, o2, o3⟩ := hK i e3 (by omega)
    obtain ⟨r1, r2, r3⟩ := hr i e3 (by omega)
    obtain ⟨s', hs'⟩ := hsim_le hx (show i - fr + 1 ≤ to - fr by omega)
    obtain ⟨s2, h2, h3⟩ := hsim_pre hs'
    rw [hh] at h2
    cases h2
    rw [show fr + (i - fr) = i by omega] at h3
    have hs'' : hsim K fr (i + 1 - fr) = some s' := by rw [show i + 1 - fr = i - fr + 1 by omega]; exact hs'
    obtain ⟨r4, r5⟩ := r3 hs hh
    have hlt : ∀ j ∈ hs, j < i := fun j hj => by have := hsim_lt hh j hj; omega
    -- a value without an error
    have go : ∀ (v : Int64) (r : List Nat) (t : List Int64), f_Md_valueOf TR h 0 (nI i) = some (v, h) → s' = i :: r → hvs h r t → (∀ j ∈ r, j < i) → inL v → (∀ v ∈ t, inL v) → ∃ h' v', RLf h h' ∧ lp_Md_lawOf_12 TR (n + 1) h 0 (nI k) (nI i) = some (v', h') ∧ rres (one (evS K nm m (i + 1) (v :: t))) v' h' := by
      intro v r t hval hsr hvr hjr hvL htL
      obtain ⟨h', v', c1, c2, c3⟩ := ih n (i + 1) (pL h 26 i v) s' (v :: t) (by omega) (by omega) (by omega) hs'' (by rw [hsr]; exact ⟨by rw [pL_2, if_pos rfl, if_pos rfl], hvs_up rfl hvr hjr⟩) (fun w hw => by rcases List.mem_cons.mp hw with rfl | hw; exact hvL; exact htL w hw) (RKn.mv RLf.pL hr) hl (fun j hj => by rw [pL_o (by decide)]; exact hn j hj) he
      exact ⟨h', v', RLf.pL.tr c1, by rw [er_go hto hk3 (by omega) hl hval]; exact c2, c3⟩
    rcases hst1_cases h3 with ⟨q, hq⟩ | ⟨q, a, t, hq, hq2⟩ | ⟨q, a, b, t, hq, hq2⟩
    · rcases (show (K i).1 = 0 ∨ (K i).1 = 1 by omega) with q0 | q1
      · rw [evS_num q0]
        have e7 : (nI (K i).2).toInt64 = lN (K i).2 := nI_l (by have := o2 q0; omega)
        have e8 := val_num (by omega) (q0 ▸ r1) (r2 q)
        have e9 := inL_i32 (nI (K i).2)
        rw [e7] at e8 e9
        exact go _ hs s e8 hq hv hlt e9 hL
      · rw [evS_nam q1]
        have e8 := val_nam (by omega) (q1 ▸ r1) (r2 q) (o3 q1)
        rw [hn _ (o3 q1)] at e8
        exact go _ hs s e8 hq hv hlt (hnL _ (o3 q1)) hL
    · subst hq
      obtain ⟨a', t', e, ha⟩ := r4 q
      cases e
      match s, hv, hL with
      | v :: s, hv, hL =>
        rw [evS_not q]
        have e8 := val_not (by omega) (q ▸ r1) ha (by have := hlt a List.mem_cons_self; omega)
        rw [hv.1] at e8
        refine go _ t s e8 hq2 hv.2 (fun j hj => hlt j (List.mem_cons_of_mem _ hj)) ?_ (fun w hw => hL w (List.mem_cons_of_mem _ hw))
        by_cases qa : v = 0
        · rw [if_pos qa]; exact inL_1
        · rw [if_neg qa]; exact inL_0
    · subst hq
      obtain ⟨a', b', t', e, ha, hb⟩ := r5 q
      cases e
      match s, hv, hL with
      | vb :: va :: s, hv, hL =>
        have la : inL va := hL va (List.mem_cons_of_mem _ List.mem_cons_self)
        have lb : inL vb := hL vb List.mem_cons_self
        have e8 := val_ok (by omega) r1 ha hb (by have := hlt a (List.mem_cons_of_mem _ List.mem_cons_self); omega) (by have := hlt b List.mem_cons_self; omega) hv.2.1 hv.1 q o1 la he
        cases hop : op2 (K i).1 va vb with
        | some v =>
          rw [evS_op q hop]
          rw [hop] at e8
          have e9 : f_Md_valueOf TR h 0 (nI i) = some (v, h) := by
            rw [e8]
            have : pI h 0 53 (if (some v).isNone then 1 else 0) = h := pI_self he
            rw [this]
            rfl
          exact go v t s e9 hq2 hv.2.2 (fun j hj => hlt j (List.mem_cons_of_mem _ (List.mem_cons_of_mem _ hj))) (op2_inL q o1 la lb hop) (fun w hw => hL w (List.mem_cons_of_mem _ (List.mem_cons_of_mem _ hw)))
        | none =>
          rw [evS_opn q hop]
          rw [hop] at e8
          have e9 : f_Md_valueOf TR h 0 (nI i) = some (0, pI h 0 53 1) := e8
          have fr1 : RLf h (pL (pI h 0 53 1) 26 i 0) := RLf.pI.tr RLf.pL
          obtain ⟨h', c1, c2, c3⟩ := evR_er hto hk3 hK hx m n (i + 1) (pL (pI h 0 53 1) 26 i 0) (by omega) (by omega) (by omega) (RKn.mv fr1 hr) ((fr1.1 19 k (by omega)).trans hl) (by rw [pL_1]; exact pI_at)
          exact ⟨h', 0, fr1.tr c1, by rw [er_go hto hk3 (by omega) hl e9]; exact c2, ⟨c3, rfl⟩⟩
