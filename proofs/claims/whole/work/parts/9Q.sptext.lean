/-! the call text -/
def xF (X : Pl) (v w : Int32) : Pl := fun r j => if r = 0 then (if j = 0 then 0 else if j = 1 then v else if j = 2 then w else X 0 j) else X r j
theorem xF_r {X : Pl} {v w : Int32} {r : Nat} (h : ¬ r = 0) : xF X v w r = X r := funext fun j => by
  unfold xF
  rw [if_neg h]
theorem xF_0 {X : Pl} {v w : Int32} : xF X v w 0 0 = 0 ∧ xF X v w 0 1 = v ∧ xF X v w 0 2 = w ∧ xF X v w 0 3 = X 0 3 ∧ xF X v w 0 4 = X 0 4 ∧ xF X v w 0 5 = X 0 5 ∧ xF X v w 0 6 = X 0 6 ∧ xF X v w 0 7 = X 0 7 := by
  have e : ∀ j : Int32, ¬ j = 0 → ¬ j = 1 → ¬ j = 2 → xF X v w 0 j = X 0 j := fun j a b c => by
    unfold xF
    rw [if_pos rfl, if_neg a, if_neg b, if_neg c]
  refine ⟨?_, ?_, ?_, e 3 (by decide) (by decide) (by decide), e 4 (by decide) (by decide) (by decide), e 5 (by decide) (by decide) (by decide), e 6 (by decide) (by decide) (by decide), e 7 (by decide) (by decide) (by decide)⟩
  · unfold xF
    rw [if_pos rfl, if_pos rfl]
  · unfold xF
    rw [if_pos rfl, if_neg (by decide), if_pos rfl]
  · unfold xF
    rw [if_pos rfl, if_neg (by decide), if_neg (by decide), if_pos rfl]
theorem PRel.tx {P : Pl} {L : Lw} {A B : Aw} {X : Pl} {U : Ud} {v w : Int32} (x : PRel P L A B X U) : PRel P L A B (xF X v w) U := by
  obtain ⟨e0, e1, e2, e3, e4, e5, e6, e7⟩ := xF_0 (X := X) (v := v) (w := w)
  unfold PRel DOK UNK SOK at x ⊢
  simp only [e0, e4, e5, e6, e7, xF_r (X := X) (v := v) (w := w) (show ¬ 1 = 0 by decide), xF_r (X := X) (v := v) (w := w) (show ¬ 2 = 0 by decide), xF_r (X := X) (v := v) (w := w) (show ¬ 3 = 0 by decide), xF_r (X := X) (v := v) (w := w) (show ¬ 4 = 0 by decide), xF_r (X := X) (v := v) (w := w) (show ¬ 5 = 0 by decide), xF_r (X := X) (v := v) (w := w) (show ¬ 6 = 0 by decide), xF_r (X := X) (v := v) (w := w) (show ¬ 7 = 0 by decide), xF_r (X := X) (v := v) (w := w) (show ¬ 8 = 0 by decide), xF_r (X := X) (v := v) (w := w) (show ¬ 9 = 0 by decide), xF_r (X := X) (v := v) (w := w) (show ¬ 10 = 0 by decide), xF_r (X := X) (v := v) (w := w) (show ¬ 11 = 0 by decide)]
  obtain ⟨x1, x2, x3, x4, x5, x6, x7, x8, x9, x10, x11, x12⟩ := x
  exact ⟨x1, x2, x3, x4, x5, x6, ⟨by decide, by decide⟩, fun j a b => absurd b (by lia), x9, x10, x11, x12⟩
def SX (c : Nat) : Prop := c < 26
theorem CRel.tx {h g : Hp} {P : Pl} {L : Lw} {A B : Aw} {X : Pl} (x : CRel h P L A B X) (G : GrP h g) (e01 : g.1 0 1 = 0) : CRel g P L A B (xF X (g.1 2 1) (g.1 2 2)) := by
  obtain ⟨e0, e1, e2, e3, e4, e5, e6, e7⟩ := xF_0 (X := X) (v := g.1 2 1) (w := g.1 2 2)
  have gg : ∀ c, 26 ≤ c → g.1 c = h.1 c := fun c hc => funext fun s => G.2 c s (by unfold TXc; omega) (by omega) (by omega)
  have f : Fr SX h g := fun c hc => ⟨gg c (by unfold SX at hc; omega), by rw [G.1]⟩
  obtain ⟨x1, x2, x3, x4, x5, x6, x7⟩ := x
  refine ⟨⟨x1.1.mv f (fun c q => by unfold SX at q; omega), x1.2.1.mv f (fun c q => by unfold SX at q; omega), x1.2.2.mv f (fun c q => by unfold SX at q; omega)⟩, fun q => (x2 (by rw [← e4]; exact q)).mv f (fun c q => by unfold SX at q; omega), ?_, fun j a b => ?_, ?_, ?_, fun j a => ?_⟩
  · rw [e0, e1, e2, e3, e4, e5, e6, e7, gg 40 (by decide), gg 59 (by decide), gg 65 (by decide), G.2 0 6 (by unfold TXc; omega) (by omega) (by omega)]
    exact ⟨e01, rfl, rfl, x3.2.2.2⟩
  · rw [e0] at b
    exact absurd b (by lia)
  · rw [e5, gg 60 (by decide), gg 61 (by decide), gg 62 (by decide), gg 63 (by decide), gg 64 (by decide), xF_r (show ¬ 2 = 0 by decide), xF_r (show ¬ 3 = 0 by decide), xF_r (show ¬ 4 = 0 by decide), xF_r (show ¬ 5 = 0 by decide), xF_r (show ¬ 6 = 0 by decide)]
    exact x5
  · rw [e6, gg 66 (by decide), gg 67 (by decide), gg 68 (by decide), gg 69 (by decide), gg 70 (by decide), xF_r (show ¬ 7 = 0 by decide), xF_r (show ¬ 8 = 0 by decide), xF_r (show ¬ 9 = 0 by decide), xF_r (show ¬ 10 = 0 by decide), xF_r (show ¬ 11 = 0 by decide)]
    exact x6
  · rw [G.2 23 j (by unfold TXc; omega) (by omega) (by omega)]
    exact x7 j a
theorem RRel.tx {h g : Hp} {P : Pl} {L : Lw} {A B : Aw} {X : Pl} {U : Ud} (ok : POK P) (lk : LOK L) (x : RRel h P L A B X U) (G : GrQ h g) (e01 : g.1 0 1 = 0) : RRel g P L A B (xF X (g.1 0 4) (g.1 0 5)) U := by
  have o1 := ok.1
  obtain ⟨e0, e1, e2, e3, e4, e5, e6, e7⟩ := xF_0 (X := X) (v := g.1 0 4) (w := g.1 0 5)
  have gg : ∀ c, 25 ≤ c → g.1 c = h.1 c := fun c hc => funext fun s => G.2 c s (by unfold TXr; omega) (by omega)
  have g0 : ∀ s, ((12 ≤ s ∧ s ≤ 16) ∨ 51 ≤ s) → g.1 0 s = h.1 0 s := fun s hs => G.2 0 s (by unfold TXr; omega) (by omega)
  obtain ⟨⟨⟨p1, p2, p3, p4⟩, y, w, rd, nn, oz⟩, x2, x3, x4, x5, x6, x7⟩ := x
  refine ⟨⟨⟨?_, fun t a b => ?_, fun t a b => ?_, fun t a b => ?_⟩, fun q hq => ?_, ?_, ?_, ?_, ?_⟩, ?_, ?_, fun j a b => ?_, ?_, ?_, fun j a => ?_⟩
  · rw [g0 12 (by omega), g0 13 (by omega), g0 14 (by omega), g0 15 (by omega), G.2 4 0 (by unfold TXr; omega) (by omega), G.2 4 1 (by unfold TXr; omega) (by omega)]
    exact p1
  · have l : ix t < 6 := ix_lt (n := 6) a (by decide) (show t < 6 by lia)
    rw [G.2 5 _ (by unfold TXr; omega) (by omega), G.2 6 _ (by unfold TXr; omega) (by omega), G.2 7 _ (by unfold TXr; omega) (by omega), G.2 8 _ (by unfold TXr; omega) (by omega)]
    exact p2 t a b
  · have l : ix t < 6 := ix_lt (n := 6) a (by decide) (show t < 6 by lia)
    rw [G.2 9 _ (by unfold TXr; omega) (by omega), G.2 10 _ (by unfold TXr; omega) (by omega), G.2 11 _ (by unfold TXr; omega) (by omega), G.2 12 _ (by unfold TXr; omega) (by omega), G.2 13 _ (by unfold TXr; omega) (by omega)]
    exact p3 t a b
  · have l : ix t < 12 := ix_lt (n := 12) a (by decide) (show t < 12 by lia)
    rw [G.2 14 _ (by unfold TXr; omega) (by omega), G.2 15 _ (by unfold TXr; omega) (by omega), G.2 16 _ (by unfold TXr; omega) (by omega)]
    exact p4 t a b
  · obtain ⟨l1, l2⟩ := y q hq
    obtain ⟨k1, k2, -⟩ := lk q hq
    refine ⟨by rw [G.2 17 q (by unfold TXr; omega) (by omega)]; exact l1, fun z => ⟨?_, ?_, fun i a b => ?_⟩⟩
    · rw [G.2 18 q (by unfold TXr; omega) (by omega)]
      exact (l2 z).1
    · rw [G.2 19 q (by unfold TXr; omega) (by omega)]
      exact (l2 z).2.1
    · have i6 : i < 64 := by omega
      rw [G.2 20 i (by unfold TXr; omega) (by omega), G.2 21 i (by unfold TXr; omega) (by omega), G.2 22 i (by unfold TXr; omega) (by omega)]
      exact (l2 z).2.2 i a b
  · unfold RW at w ⊢
    rw [gg 27 (by decide), gg 28 (by decide), gg 29 (by decide), gg 30 (by decide), gg 31 (by decide), gg 33 (by decide), gg 34 (by decide), gg 35 (by decide), gg 36 (by decide), gg 37 (by decide), gg 38 (by decide), gg 39 (by decide)]
    exact w
  · unfold RD at rd ⊢
    rw [gg 32 (by decide)]
    exact rd
  · rw [G.1]
    exact nn
  · unfold OZ at oz ⊢
    rw [gg 31 (by decide)]
    exact oz
  · unfold RIm SNP at x2 ⊢
    rw [e4, gg 44 (by decide), gg 45 (by decide), G.1]
    exact x2
  · rw [e0, e1, e2, e3, e4, e5, e6, e7, g0 16 (by omega), g0 80 (by omega), g0 78 (by omega), g0 74 (by omega), g0 75 (by omega)]
    exact ⟨e01, rfl, rfl, x3.2.2.2⟩
  · rw [e0] at b
    exact absurd b (by lia)
  · unfold SNP at x5 ⊢
    rw [e5, gg 43 (by decide)]
    exact x5
  · rw [e6, gg 41 (by decide), xF_r (show ¬ 7 = 0 by decide), xF_r (show ¬ 8 = 0 by decide), xF_r (show ¬ 9 = 0 by decide), xF_r (show ¬ 10 = 0 by decide), xF_r (show ¬ 11 = 0 by decide)]
    exact x6
  · rw [G.2 2 j (by unfold TXr; omega) (by omega)]
    exact x7 j a
/-- how a read text stands -/
def xT (sz : Nat) : Pl := fun r j => if r = 0 then (if j = 2 then -1 else if j = 7 then -1 else if j = 3 then nI sz else 0) else 0
theorem xT_0 {sz : Nat} : xT sz 0 0 = 0 ∧ xT sz 0 1 = 0 ∧ xT sz 0 2 = -1 ∧ xT sz 0 3 = nI sz ∧ xT sz 0 4 = 0 ∧ xT sz 0 5 = 0 ∧ xT sz 0 6 = 0 ∧ xT sz 0 7 = -1 := by
  have e : ∀ j : Int32, ¬ j = 2 → ¬ j = 7 → ¬ j = 3 → xT sz 0 j = 0 := fun j a b c => by
    unfold xT
    rw [if_pos rfl, if_neg a, if_neg b, if_neg c]
  refine ⟨e 0 (by decide) (by decide) (by decide), e 1 (by decide) (by decide) (by decide), ?_, ?_, e 4 (by decide) (by decide) (by decide), e 5 (by decide) (by decide) (by decide), e 6 (by decide) (by decide) (by decide), ?_⟩
  · unfold xT
    rw [if_pos rfl, if_pos rfl]
  · unfold xT
    rw [if_pos rfl, if_neg (by decide), if_neg (by decide), if_pos rfl]
  · unfold xT
    rw [if_pos rfl, if_neg (by decide), if_pos rfl]
theorem PRel.nw {Q : Pl} {L : Lw} {sz : Nat} (ok : POK Q) (lk : LOK L) : PRel Q L (wb Q) (wb Q) (xT sz) (fun _ r j => (wb Q).1 r j) := by
  obtain ⟨e0, e1, e2, e3, e4, e5, e6, e7⟩ := xT_0 (sz := sz)
  obtain ⟨w1, w2, w3⟩ := wb_ok ok
  refine ⟨ok, lk, w1, w2, .inl e4, fun z => absurd (e4.symm.trans z) (by decide), by rw [e0]; decide, fun j a b => ?_, ⟨by rw [e5]; decide, fun i a b => ⟨rfl, rfl⟩, fun t a b => rfl, fun k a b => ?_⟩, ⟨by rw [e6, e7]; decide, fun k a b => ?_⟩, w3, fun z => absurd (e4.symm.trans z) (by decide)⟩
  · rw [e0] at b
    exact absurd b (by lia)
  · rw [e5] at b
    exact absurd b (by lia)
  · rw [e6] at b
    exact absurd b (by lia)
theorem sp_text : SP_text Rl := by
  intro hC hR n hr
  obtain ⟨P, L, A, B, X, U, p, x, y⟩ := hr
  have ok := p.1
  have lk := p.2.1
  have x0 : hC.1 0 1 = X 0 0 := x.2.2.1.1
  have y0 : hR.1 0 1 = X 0 0 := y.2.2.1.1
  have x7 := p.2.2.2.2.2.2.1
  have out : Rl hC (pI hR 0 2 0) := ⟨P, L, A, B, X, U, p, x, y.mv ok (KF.pI (by unfold RX; omega) (by decide))⟩
  have eC : f_Tt_text TC hC 0 n = if n < 0 then some (-2, hC) else if n ≤ X 0 0 then (f_Tr_readText TC (pI hC 0 1 0) 2 n).bind fun r2 => if r2.1 = -1 then some (-1, r2.2) else (f_Pl_become TC r2.2 26 3).bind fun r3 => (f_Wo_begin TC r3 45 26).bind fun r4 => some (r2.1, pI (pI (pI (pI r4 0 6 0) 59 0 0) 65 0 0) 65 1 (-1)) else some (-2, hC) := by
    unfold f_Tt_text f_De_forget f_Se_forget
    simp only [nmd_q, lyC]
    rw [x0]
  have eR : f_Md_text TR hR 0 n = if n < 0 then some (-2, pI hR 0 2 0) else if n ≤ X 0 0 then ((f_Md_plain TR (h6R hR n) 0).bind fun r7 => (f_Md_token TR r7 0).bind fun r8 => lp_Md_text_53 TR fu r8 0) else some (-2, pI hR 0 2 0) := by
    unfold f_Md_text h6R
    simp only [nmd_q]
    rw [pI_t, if_neg (show ¬ 1 = 2 by decide), y0]
  rw [eC, eR]
  by_cases c0 : n < 0
  · rw [if_pos c0, if_pos c0]
    exact ⟨_, _, rfl, rfl, rfl, out⟩
  rw [if_neg c0, if_neg c0]
  by_cases c1 : n ≤ X 0 0
  case neg =>
    rw [if_neg c1, if_neg c1]
    exact ⟨_, _, rfl, rfl, rfl, out⟩
  rw [if_pos c1, if_pos c1]
  have n7 : n ≤ 700 := by have := x7.2; lia
  rcases rdt (hC := hC) (hR := hR) (n := n) (T := X 1) (by lia) n7 (fun j a b => ⟨(p.2.2.2.2.2.2.2.1 j a (by lia)).1, (p.2.2.2.2.2.2.2.1 j a (by lia)).2, x.2.2.2.1 j a (by lia), y.2.2.2.1 j a (by lia)⟩) x.2.2.2.2.2.2 y.2.2.2.2.2.2 with ⟨g, g', w1, w2, w3, w4, w5, w6, w7, w8⟩ | ⟨g, g', l, Q, L2, sz, fr, fs, a, j, w1, w2, w3, w4, w5, ⟨-, -, ok2, cp, rq, -, pl, -⟩, w7, fz⟩
  · rw [w1, w2, bnd_q]
    simp only [fst_q, snd_q]
    rw [if_pos trivial]
    refine ⟨_, _, rfl, rfl, rfl, P, L, A, B, xF X (g.1 2 1) (g.1 2 2), U, p.tx, x.tx w3 w5, ?_⟩
    rw [w7, w8]
    exact y.tx ok lk w4 w6
  · rw [w1, w3, bnd_q]
    simp only [fst_q, snd_q]
    obtain ⟨pl1, pl2, pl3, pl4, pl5, pl6⟩ := pl
    obtain ⟨r, b1, b2, b3, b4, b5, b6⟩ := keC ok2 pl1 cp pl2 pl4.1
    obtain ⟨t, c1, c2, c3⟩ := wbC (w := 45) (.inl rfl) ok2 b2
    have oz : OZ g' := fun s => by
      rw [w5.2 31 s (by unfold TXr; omega) (by omega)]
      exact y.1.2.2.2.2.2 s
    obtain ⟨u, d1, d2, d3, d4, d5, d6⟩ := keR ok2 pl1 rq pl3 pl4.2.2.2 oz
    rw [if_neg (show ¬ l = -1 by lia), b1, bnd_q, c1, bnd_q, d1, bnd_q, d5 21 (by omega), w7]
    obtain ⟨e0, e1, e2, e3, e4, e5, e6, e7⟩ := xT_0 (sz := sz)
    obtain ⟨z1, z2, z3, z4, z5, z6⟩ := fz
    have gt : ∀ c, ¬ (45 ≤ c ∧ c ≤ 51) → t.1 c = r.1 c := fun c hc => (c3 c (by unfold WR; omega)).1
    have gr : ∀ c, c < 26 → t.1 c = g.1 c := fun c hc => by rw [gt c (by omega), b6 c (by omega)]
    obtain ⟨v, ev⟩ : ∃ v, v = pI (pI (pI (pI t 0 6 0) 59 0 0) 65 0 0) 65 1 (-1) := ⟨_, rfl⟩
    have gv : ∀ c, ¬ c = 0 → ¬ c = 59 → ¬ c = 65 → v.1 c = t.1 c := fun c q1 q2 q3 => by rw [ev, pI_f q3, pI_f q3, pI_f q2, pI_f q1]
    have fv : Fr (fun c => c = 0 ∨ c = 59 ∨ c = 65) t v := fun c hc => ⟨gv c (fun q => hc (.inl q)) (fun q => hc (.inr (.inl q))) (fun q => hc (.inr (.inr q))), by rw [ev, pI_l, pI_l, pI_l, pI_l]⟩
    rw [← ev]
    refine ⟨_, _, rfl, rfl, rfl, Q, L2, wb Q, wb Q, xT sz, fun _ r j => (wb Q).1 r j, PRel.nw ok2 pl1, ⟨⟨?_, ?_, ?_⟩, fun q => absurd (e4.symm.trans q) (by decide), ?_, fun j a b => ?_, fun k a b => ?_, fun k a b => ?_, fun j a => ?_⟩, ⟨d2, fun q => absurd (e4.symm.trans q) (by decide), ?_, fun j a b => ?_, fun k a b => ?_, fun k a b => ?_, fun j a => ?_⟩⟩
    · exact CP.mv fv (fun c q => by rcases q with q | q | q <;> omega) (CP.mv c3 (fun c q => by unfold WR at q; omega) b2)
    · exact CLa.mv fv (fun c q => by rcases q with q | q | q <;> omega) (CLa.mv c3 (fun c q => by unfold WR at q; omega) b3)
    · exact CW.mv fv (fun c q => by rcases q with q | q | q <;> omega) c2
    · rw [e0, e1, e2, e3, e4, e5, e6, e7, gv 2 (by decide) (by decide) (by decide), gr 2 (by decide), gv 40 (by decide) (by decide) (by decide), gt 40 (by omega)]
      refine ⟨?_, z3, z4, b4, ?_, ?_, ?_, ?_⟩
      · rw [ev, pI_n (by decide), pI_n (by decide), pI_n (by decide), pI_t, if_neg (by decide), gr 0 (by decide)]
        exact z1
      · rw [ev, pI_n (by decide), pI_n (by decide), pI_n (by decide), pI_t, if_pos rfl]
      · rw [ev, pI_n (by decide), pI_n (by decide), pI_t, if_pos rfl]
      · rw [ev, pI_t, if_neg (by decide), pI_t, if_pos rfl]
      · rw [ev, pI_t, if_pos rfl]
    · rw [e0] at b
      exact absurd b (by lia)
    · rw [e5] at b
      exact absurd b (by lia)
    · rw [e6] at b
      exact absurd b (by lia)
    · rw [gv 23 (by decide) (by decide) (by decide), gr 23 (by decide), w4.2 23 j (by unfold TXc; omega) (by omega) (by omega)]
      exact x.2.2.2.2.2.2 j a
    · rw [e0, e1, e2, e3, e4, e5, e6, e7, d5 1 (by omega), d5 4 (by omega), d5 5 (by omega)]
      exact ⟨z2, z5, z6, d4, d3⟩
    · rw [e0] at b
      exact absurd b (by lia)
    · rw [e5] at b
      exact absurd b (by lia)
    · rw [e6] at b
      exact absurd b (by lia)
    · rw [d6, w5.2 2 j (by unfold TXr; omega) (by omega)]
      exact y.2.2.2.2.2.2 j a
