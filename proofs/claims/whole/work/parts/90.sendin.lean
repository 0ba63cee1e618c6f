/-! the best hour to send one -/
theorem fld_l {S : Type} {g : S → S} : ∀ (n : Nat) (i : Int32) (s : S), fld (fun _ => g) (n + 1) i s = g (fld (fun _ => g) n i s)
  | 0, _, _ => rfl
  | n + 1, i, s => fld_l n (i + 1) (g s)
theorem hrN_s {P : Pl} {L : Lw} {M : Mo} {A : Aw} {k : Int32} (k0 : 0 ≤ k) (k1 : k < 900) : hrN P L M (k + 1) A = hr P L M (hrN P L M k A) := by
  unfold hrN Fold
  rw [show k + 1 - 0 = k + 1 by lia, show k - 0 = k by lia, ix_s k0 (by lia)]
  exact fld_l (g := hr P L M) _ _ _
theorem hrN_0 {P : Pl} {L : Lw} {M : Mo} {A : Aw} : hrN P L M 0 A = A := Fold_ge (by decide) (by decide) (by decide)
/-- the goal of one who fell is not seen -/
def SG (h : Int32) : Nat → Int32 → Prop := fun r j => r = 4 ∧ j = h
theorem SG.o {h : Int32} : SO (SG h) := fun r j z => .inl z.1
theorem eq_go {P : Pl} {L : Lw} {M : Mo} {A : Aw} {h t N : Int32} (ok : POK P) (mo : MOK M) (wo : WOK P A) (on : ONK P 0 A) (h0 : 0 ≤ h) (h6 : h < 6) (b : bt (A.1 0 2) h = 0) (N0 : 0 ≤ N) (N9 : N ≤ 900) : EQ (SG h) (hrN P L M N A) (hrN P L M N (up A 4 h t)) := by
  unfold hrN
  refine (Fold2 (f := fun _ A => hr P L M A) (f' := fun _ A => hr P L M A) (fun _ s s' => EQ (SG h) s s' ∧ bt (s.1 0 2) h = 0 ∧ WOK P s ∧ ONK P 0 s) N0 N9 (fun i s s' i0 i1 z => ?_) 0 (by decide) N0 A (up A 4 h t) ⟨⟨fun r j z => ?_, up_2⟩, b, wo, on⟩).1
  · obtain ⟨z1, z2, z3, z4⟩ := z
    have y := hr_ok (L := L) ok mo z3 z4
    refine ⟨eq_hr ok SG.o z1 (fun i i0 i1 => ?_), hr_on ok mo z3 z4 h h0 h6 z2, y.1, y.2⟩
    by_cases c : i = h
    · rw [c]
      exact .inl z2
    · exact .inr ⟨fun z => c z.2, fun z => absurd z.1 (by decide)⟩
  · rw [up_1]
    by_cases c : r = 4
    · rw [if_pos c, if_neg (fun d => z ⟨c, d⟩)]
    · rw [if_neg c]
/-- how many fights an hour may bring -/
theorem me_3 {P : Pl} {L : Lw} {M : Mo} {i k : Int32} {A : Aw} : (me P L M i k A).1 0 3 = A.1 0 3 ∨ (me P L M i k A).1 0 3 = A.1 0 3 + 1 := by
  have n4 : ¬ (3 : Int32) = 4 := by decide
  have n6 : ¬ (3 : Int32) = 6 := by decide
  have n7 : ¬ (3 : Int32) = 7 := by decide
  have n8 : ¬ (3 : Int32) = 8 := by decide
  unfold me tk fg fp
  repeat' split
  all_goals simp only [hu_0, up_s, if_neg n4, if_neg n6, if_neg n7, if_neg n8, if_true, true_or, or_true]
theorem ar1 {a b c j : Int32} (m : a = b ∨ a = b + 1) (y : 0 ≤ b - c ∧ b - c ≤ j) (j0 : 0 ≤ j) (j6 : j < 6) : 0 ≤ a - c ∧ a - c ≤ j + 1 := by
  have e : b + 1 - c = b - c + 1 := by lia
  rcases m with rfl | rfl
  · generalize a - c = d at y ⊢
    lia
  · rw [e]
    clear e
    generalize b - c = d at y ⊢
    lia
theorem ar2 {a b c x y : Int32} (h : 0 ≤ a - b ∧ a - b ≤ x) (k : 0 ≤ b - c ∧ b - c ≤ y) (x0 : 0 ≤ x) (x1 : x ≤ 1000000) (y0 : 0 ≤ y) (y1 : y ≤ 1000000) : 0 ≤ a - c ∧ a - c ≤ y + x := by
  have e : a - c = (a - b) + (b - c) := by lia
  rw [e]
  clear e
  generalize a - b = d at h ⊢
  generalize b - c = f at k ⊢
  lia
theorem enc_3 {P : Pl} {L : Lw} {M : Mo} {A : Aw} (ok : POK P) : 0 ≤ (enc P L M A).1 0 3 - A.1 0 3 ∧ (enc P L M A).1 0 3 - A.1 0 3 ≤ 36 := by
  have o1 := ok.1
  have n0 : 0 ≤ P 0 4 := by lia
  have n6 : P 0 4 ≤ 6 := by lia
  clear o1 ok
  have key := Fold_inv (f := fun i A => Fold (me P L M i) (P 0 4) (i + 1) A) (N := P 0 4) (fun k s => 0 ≤ s.1 0 3 - A.1 0 3 ∧ s.1 0 3 - A.1 0 3 ≤ 6 * k) n0 (fun i s i0 i1 z => by
    have inn := Fold_inv (f := me P L M i) (N := P 0 4) (fun j u => 0 ≤ u.1 0 3 - s.1 0 3 ∧ u.1 0 3 - s.1 0 3 ≤ j) n0 (fun j u j0 j1 y => ar1 me_3 y j0 (by clear z y; lia)) _ (i + 1) s (by clear z; lia) (by clear z; lia) rfl (by
      clear z
      generalize s.1 0 3 = c
      have e : c - c = 0 := by lia
      rw [e]
      clear e
      lia)
    have e6 : 6 * (i + 1) = 6 * i + 6 := by lia
    rw [e6]
    clear e6
    have h6 : 0 ≤ (Fold (me P L M i) (P 0 4) (i + 1) s).1 0 3 - s.1 0 3 ∧ (Fold (me P L M i) (P 0 4) (i + 1) s).1 0 3 - s.1 0 3 ≤ 6 := ⟨inn.1, Int32.le_trans inn.2 n6⟩
    exact ar2 h6 z (by decide) (by decide) (by clear inn h6 z; lia) (by clear inn h6 z; lia)) _ 0 (up A 0 8 (-1)) (by decide) n0 rfl (by
    rw [up_s, if_neg (by decide)]
    generalize A.1 0 3 = c
    have e : c - c = 0 := by lia
    rw [e]
    decide)
  unfold enc
  exact ⟨key.1, Int32.le_trans key.2 (by clear key; lia)⟩
theorem hr_3 {P : Pl} {L : Lw} {M : Mo} {A : Aw} (ok : POK P) : 0 ≤ (hr P L M A).1 0 3 - A.1 0 3 ∧ (hr P L M A).1 0 3 - A.1 0 3 ≤ 36 := by
  rw [hr_0 (by decide) (by decide)]
  unfold hr4
  have e := enc_3 (P := P) (L := L) (M := M) (A := dka P L M (Fold (wk P L M) (P 0 4) 0 (Fold (lap1 P) (P 0 5) 0 A))) ok
  rw [dka_0 (by decide), Fold_eq (fun s : Aw => s.1 0 3) (fun i s => wk_0), Fold_eq (fun s : Aw => s.1 0 3) (fun i s => lap_0)] at e
  exact e
theorem hrN_3 {P : Pl} {L : Lw} {M : Mo} {A : Aw} {N : Int32} (ok : POK P) (N0 : 0 ≤ N) (N4 : N ≤ 40) : 0 ≤ (hrN P L M N A).1 0 3 - A.1 0 3 ∧ (hrN P L M N A).1 0 3 - A.1 0 3 ≤ 36 * N := by
  unfold hrN
  exact Fold_inv (f := fun _ A => hr P L M A) (N := N) (fun k s => 0 ≤ s.1 0 3 - A.1 0 3 ∧ s.1 0 3 - A.1 0 3 ≤ 36 * k) N0 (fun i s i0 i1 z => by
    have m := hr_3 (P := P) (L := L) (M := M) (A := s) ok
    have e : 36 * (i + 1) = 36 * i + 36 := by lia
    rw [e]
    exact ar2 m z (by decide) (by decide) (by clear m z e; lia) (by clear m z e; lia)) _ 0 A (by decide) N0 rfl (by
    generalize A.1 0 3 = c
    have e : c - c = 0 := by lia
    rw [e]
    decide)
theorem up4_ok {P : Pl} {A : Aw} {h t : Int32} (wo : WOK P A) (on : ONK P 0 A) (t0 : 0 ≤ t) (t1 : t < P 0 3) : WOK P (up A 4 h t) ∧ ONK P 0 (up A 4 h t) := by
  refine ⟨wo.g (.inr ⟨t0, t1⟩), fun i a b c => ?_⟩
  rw [up_n (by decide)] at c ⊢
  exact on i a b c
/-- one hour of sending, on both sides -/
theorem sn1 {hC h1 s s' : Hp} {P : Pl} {L : Lw} {A B : Aw} {X : Pl} {U : Ud} {h t i : Int32} (ok : POK P) (lk : LOK L) (wo : WOK P A) (on : ONK P 0 A) (x : CRel hC P L A B X) (y : RRel h1 P L A B X U) (h0 : 0 ≤ h) (h4 : h < P 0 4) (t0 : 0 ≤ t) (t1 : t < P 0 3) (i0 : 0 ≤ i) (i1 : i < 21) (c : CH s P L (mT P) 82 (hrN P L (mT P) i A)) (f : Fr SC hC s) (f' : KF h1 s') :
    ∃ u v z w w2 w4 D, f_Wo_become TC s 75 82 = some u ∧ f_Ho_pass TC (pI u 79 (ix h) t) 72 75 (40 - i) = some v ∧ f_Ho_pass TC v 72 82 1 = some z ∧ v.1 75 3 - v.1 45 3 = D ∧ CH z P L (mT P) 82 (hrN P L (mT P) (i + 1) A) ∧ Fr SC hC z ∧
      f_Md_layTried TR s' 0 = some w ∧ f_Md_goMany TR w 0 i = some w2 ∧ f_Md_goMany TR (pI w2 29 (ix (6 + h)) (if w2.1 31 (ix (6 + h)) = 0 then w2.1 29 (ix (6 + h)) else t)) 0 (40 - i) = some w4 ∧ w4.1 34 (ix 1) - w4.1 34 (ix 0) = D ∧ KF h1 w4 ∧ 0 ≤ D ∧ D ≤ 1440 := by
  have o1 := ok.1
  have W7 : WC 75 := .inr (.inr (.inl rfl))
  have W8 : WC 82 := .inr (.inr (.inr rfl))
  have wi := hrN_ok (L := L) (N := i) ok (mT_ok (P := P)) wo on i0
  have b1 := hrN_3 (P := P) (L := L) (M := mT P) (A := A) (N := i) ok i0 (by lia)
  obtain ⟨u, e1, c1, f1⟩ := beC (w := 75) (v := 82) W7 W8 (by decide) ok c.2.2.2
  have cu : CH u P L (mT P) 75 (hrN P L (mT P) i A) := ⟨c.1.mv f1 (fun c q => by unfold WR at q; omega), c.2.1.mv f1 (fun c q => by unfold WR at q; omega), by
    rw [(f1 72 (fun q => by unfold WR at q; omega)).1]
    exact c.2.2.1, c1⟩
  have cu2 : CH (pI u 79 (ix h) t) P L (mT P) 75 (up (hrN P L (mT P) i A) 4 h t) := cu.wr 4 (by decide) (by decide) W7 h0
  have wu := up4_ok (h := h) wi.1 wi.2 t0 t1
  obtain ⟨v, e2, c2, f2⟩ := paC (N := 40 - i) mT_ok W7 ok lk wu.1 cu2 wu.2 (by lia) (by lia)
  have b2 := hrN_3 (P := P) (L := L) (M := mT P) (A := up (hrN P L (mT P) i A) 4 h t) (N := 40 - i) ok (by lia) (by lia)
  rw [up_n (show ¬ 0 = 4 by decide)] at b2
  have fv : Fr (WS 75) s v := ((f1.mono (fun c q => by unfold WR at q; unfold WS; omega)).tr (Fr.pI (by unfold WS; omega))).tr f2
  have cv : CH v P L (mT P) 82 (hrN P L (mT P) i A) := ⟨c.1.mv fv (fun c q => by unfold WS at q; omega), c.2.1.mv fv (fun c q => by unfold WS at q; omega), by
    rw [(fv 72 (fun q => by unfold WS at q; omega)).1]
    exact c.2.2.1, c.2.2.2.mv fv (fun c q => by unfold WS at q; omega)⟩
  obtain ⟨z, e3, c3, f3⟩ := paC (N := 1) mT_ok W8 ok lk wi.1 cv wi.2 (by decide) (by decide)
  rw [hrN_1, ← hrN_s i0 (by lia)] at c3
  have fV : Fr SC hC v := f.tr (fv.mono fun c q => SC.of W7 (by decide) q)
  have fZ : Fr SC hC z := fV.tr (f3.mono fun c q => SC.of W8 (by decide) q)
  have v45 : v.1 45 3 = A.1 0 3 := (x.mv fV).1.h.g.2.2.1.2.2.1
  have v75 : v.1 75 3 = (hrN P L (mT P) (40 - i) (up (hrN P L (mT P) i A) 4 h t)).1 0 3 := c2.g.2.2.1.2.2.1
  have rk := (y.mv ok f').1
  obtain ⟨w, e4, r1, -, k1, -⟩ := ltR ok rk
  obtain ⟨w2, e5, r2, k2⟩ := gmR (b := 0) (N := i) mT_ok ok lk wo r1 on i0 (by lia)
  have k12 : KF h1 w2 := (f'.tr k1).tr k2.KF
  have w31 := r2.2.2.2.2.2.2.2.2.1 h h0 h4
  rw [i61] at w31
  have e34 : ∀ w4, KF h1 w4 → w4.1 34 (ix 0) = A.1 0 3 := fun w4 q => (y.mv ok q).1.g.2.2.2.2.2.2.2.2.2.2.2.2.2.2.2.2.2.1
  have main : ∃ w4, f_Md_goMany TR (pI w2 29 (ix (6 + h)) (if w2.1 31 (ix (6 + h)) = 0 then w2.1 29 (ix (6 + h)) else t)) 0 (40 - i) = some w4 ∧ w4.1 34 (ix 1) = (hrN P L (mT P) (40 - i) (up (hrN P L (mT P) i A) 4 h t)).1 0 3 ∧ KF h1 w4 := by
    rw [w31]
    by_cases q : bt ((hrN P L (mT P) i A).1 0 2) h = 0
    · rw [if_pos q, pI_self rfl]
      obtain ⟨w4, e6, r4, k4⟩ := gmR (b := 0) (N := 40 - i) mT_ok ok lk wi.1 r2 wi.2 (by lia) (by lia)
      have eq := eq_go (L := L) (M := mT P) (t := t) (N := 40 - i) ok mT_ok wi.1 wi.2 h0 (by lia) q (by lia) (by lia)
      refine ⟨w4, e6, ?_, k12.tr k4.KF⟩
      rw [eq.r SG.o 0 3 (by decide)]
      exact r4.2.2.2.2.2.2.2.2.2.2.1
    · rw [if_neg q]
      have et : gl t = t := by
        unfold gl
        rw [if_neg (by lia)]
      have rw29 := r2.2.2.2.2.w29 (y := t) (.inr rfl) ok h0 h4
      rw [i61, et] at rw29
      have r3 := r2.wI (c := 29) (s := ix (6 + h)) (y := t) ok (by
        have e6 : ix (6 * 1) = 6 := by decide
        unfold RS
        rw [e6, ix_6 h0 (by lia)]
        have := ix_lt (n := 6) h0 (by decide) (show h < 6 by lia)
        omega) rw29
      obtain ⟨w4, e6, r4, k4⟩ := gmR (b := 0) (N := 40 - i) mT_ok ok lk wu.1 r3 wu.2 (by lia) (by lia)
      refine ⟨w4, e6, r4.2.2.2.2.2.2.2.2.2.2.1, (k12.tr (KF.pI ?_ (by decide))).tr k4.KF⟩
      unfold RX
      rw [ix_6 h0 (by lia)]
      omega
  obtain ⟨w4, e6, e7, k4⟩ := main
  refine ⟨u, v, z, w, w2, w4, _, e1, e2, e3, rfl, c3, fZ, e4, e5, e6, ?_, k4, ?_, ?_⟩
  · rw [e7, e34 w4 k4, v45, v75]
  · rw [v45, v75]
    exact (ar2 b2 b1 (by clear b1 b2; lia) (by clear b1 b2; lia) (by clear b1 b2; lia) (by clear b1 b2; lia)).1
  · rw [v45, v75]
    exact Int32.le_trans (ar2 b2 b1 (by clear b1 b2; lia) (by clear b1 b2; lia) (by clear b1 b2; lia) (by clear b1 b2; lia)).2 (by clear b1 b2; lia)
theorem sn_key {hC h1 s : Hp} {P : Pl} {L : Lw} {A B : Aw} {X : Pl} {U : Ud} {h t w a3 : Int32} (ok : POK P) (lk : LOK L) (wo : WOK P A) (on : ONK P 0 A) (x : CRel hC P L A B X) (y : RRel h1 P L A B X U) (h0 : 0 ≤ h) (h4 : h < P 0 4) (t0 : 0 ≤ t) (t1 : t < P 0 3) (hw : w = 0 ↔ a3 = 0) (c : CH s P L (mT P) 82 A) (f : Fr SC hC s) : QQ hC h1 (lp_Fo_bestSending_29 TC fu s 74 h t w (-2) 2147483647 0) (lp_Md_sendIn_53 TR fu h1 0 h t a3 (-1) 0 0) := by
  have o1 := ok.1
  have h6 : h < 6 := by lia
  have j0 : 0 ≤ 6 + h := by lia
  have j12 : 6 + h < 12 := by lia
  refine lock (S := Hp × Int32 × Int32) (S' := Hp × Int32 × Int32) (N := 21) (lp := fun n i s => lp_Fo_bestSending_29 TC n s.1 74 h t w s.2.1 s.2.2 i) (lp' := fun n i s => lp_Md_sendIn_53 TR n s.1 0 h t a3 s.2.1 s.2.2 i) (QQ hC h1) (fun i s s' => CH s.1 P L (mT P) 82 (hrN P L (mT P) i A) ∧ Fr SC hC s.1 ∧ KF h1 s'.1 ∧ ((i = 0 ∧ s.2.1 = -2 ∧ s.2.2 = 2147483647 ∧ s'.2.1 = -1) ∨ (0 ≤ s.2.1 ∧ s'.2.1 = s.2.1 ∧ s'.2.2 = s.2.2))) (by decide) (by decide) ?_ ?_ 0 (by decide) (by decide) (_, _, _) (_, _, _) ⟨by rw [hrN_0]; exact c, f, KF.rf, .inl ⟨rfl, rfl, rfl, rfl⟩⟩
  · intro n m s s' ⟨I1, I2, I3, I4⟩
    have I5 := I4.resolve_left (fun z => absurd z.1 (by decide))
    simp only [lp_Fo_bestSending_29, lp_Md_sendIn_53]
    rw [if_pos (show (20 : Int32) < 21 by decide), if_pos (show (20 : Int32) < 21 by decide), I5.2.1, I5.2.2]
    by_cases q : w = 0
    · rw [if_pos q, if_pos (hw.mp q)]
      exact ⟨_, _, _, rfl, rfl, I2, I3⟩
    · rw [if_neg q, if_neg (fun z => q (hw.mpr z))]
      exact ⟨_, _, _, rfl, rfl, I2, I3⟩
  · intro n m i s s' i0 i1 ⟨I1, I2, I3, I4⟩
    obtain ⟨s, b, l⟩ := s
    obtain ⟨s', b', l'⟩ := s'
    simp only at I1 I2 I3 I4
    obtain ⟨u, v, z, w1, w2, w4, D, e1, e2, e3, d1, c3, fZ, e4, e5, e6, d2, k4, D0, D1⟩ := sn1 ok lk wo on x y h0 h4 t0 t1 i0 i1 I1 I2 I3
    simp only [lp_Fo_bestSending_29, lp_Md_sendIn_53]
    unfold jb_Fo_bestSending_114 jb_Md_sendIn_103 jb_Md_sendIn_143 jb_Md_sendIn_151
    simp (disch := first | assumption | decide | omega) only [lyC, lyR, nmd_q, bnd_q, e1, wtC, e2, d1, e3, e4, e5, rdR, wtR]
    rw [if_neg (show ¬ (20 : Int32) < i by lia), if_neg (show ¬ (20 : Int32) < i by lia)]
    have stp : (if w2.1 31 (ix (6 + h)) = 0 then (f_Md_goMany TR (pI w2 29 (ix (6 + h)) (w2.1 29 (ix (6 + h)))) 0 (40 - i)) else (f_Md_goMany TR (pI w2 29 (ix (6 + h)) t) 0 (40 - i))) = some w4 := by
      rw [← e6]
      split <;> rfl
    by_cases q0 : w2.1 31 (ix (6 + h)) = 0
    · rw [if_pos q0] at stp
      rw [if_pos q0, stp]
      simp (disch := first | assumption | decide | omega) only [bnd_q, rdR, d2]
      rcases I4 with ⟨j1, j2, j3, j4⟩ | ⟨j1, j2, j3⟩
      · rw [j2, j3, j4, if_neg (show ¬ (2147483647 : Int32) ≤ D by lia), if_pos (show (-1 : Int32) < 0 by decide)]
        exact .inr ⟨(z, i, D), (w4, i, D), rfl, rfl, c3, fZ, k4, .inr ⟨i0, rfl, rfl⟩⟩
      · rw [j2, j3, if_neg (show ¬ b < 0 by lia)]
        by_cases q : l ≤ D
        · rw [if_pos q, if_neg (show ¬ D < l by lia)]
          exact .inr ⟨(z, b, l), (w4, b, l), rfl, rfl, c3, fZ, k4, .inr ⟨j1, rfl, rfl⟩⟩
        · rw [if_neg q, if_pos (show D < l by lia)]
          exact .inr ⟨(z, i, D), (w4, i, D), rfl, rfl, c3, fZ, k4, .inr ⟨i0, rfl, rfl⟩⟩
    · rw [if_neg q0] at stp
      rw [if_neg q0, stp]
      simp (disch := first | assumption | decide | omega) only [bnd_q, rdR, d2]
      rcases I4 with ⟨j1, j2, j3, j4⟩ | ⟨j1, j2, j3⟩
      · rw [j2, j3, j4, if_neg (show ¬ (2147483647 : Int32) ≤ D by lia), if_pos (show (-1 : Int32) < 0 by decide)]
        exact .inr ⟨(z, i, D), (w4, i, D), rfl, rfl, c3, fZ, k4, .inr ⟨i0, rfl, rfl⟩⟩
      · rw [j2, j3, if_neg (show ¬ b < 0 by lia)]
        by_cases q : l ≤ D
        · rw [if_pos q, if_neg (show ¬ D < l by lia)]
          exact .inr ⟨(z, b, l), (w4, b, l), rfl, rfl, c3, fZ, k4, .inr ⟨j1, rfl, rfl⟩⟩
        · rw [if_neg q, if_pos (show D < l by lia)]
          exact .inr ⟨(z, i, D), (w4, i, D), rfl, rfl, c3, fZ, k4, .inr ⟨i0, rfl, rfl⟩⟩
theorem sp_sendIn : SP_sendIn Rl := by
  intro hC hR a1 a2 a3 hr
  obtain ⟨P, L, A, B, X, U, p, x, y⟩ := hr
  have ok := p.1
  have o1 := ok.1
  have lk := p.2.1
  have wo := p.2.2.1
  have g := x.1.h.g
  simp only [Nat.reduceAdd] at g
  have xh := x.1.h
  have y1 := y.th (v := 0) ok
  have k := y1.1.g
  have sx := x.2.2.1
  have sr := y1.2.2.1
  refine q2_of p x y1 ?_
  have on := p.2.2.2.1
  have e13 := k.1.2.1
  have e12 := k.1.1
  have w31 := y1.1.g.2.2.2.2.2.2.2.2.2.2.2.2.2.2.1
  unfold f_Tt_sendIn f_Md_sendIn jb_Tt_sendIn_63
  simp only [nmd_q, isIn_e]
  generalize pI hR 0 2 0 = h1 at y1 k sr e13 e12 w31 ⊢
  simp only [lyC, lyR]
  rw [hhC g.1.2.2.2.2.1, hhR e13, htC xh, htR e12, onC xh]
  have stop : QQ hC h1 (some (-1, hC)) (some (-1, h1)) := ⟨_, _, _, rfl, rfl, Fr.rf, KF.rf⟩
  by_cases q1 : 0 ≤ a1 ∧ a1 < P 0 4
  case neg =>
    rw [if_neg q1, if_pos (rfl : (0 : Int32) = 0), if_pos (rfl : (0 : Int32) = 0)]
    exact stop
  rw [if_pos q1, if_neg (show ¬ (1 : Int32) = 0 by decide), if_neg (show ¬ (1 : Int32) = 0 by decide)]
  by_cases q2 : 0 ≤ a2 ∧ a2 < P 0 3
  case neg =>
    rw [if_neg q2, if_pos (rfl : (0 : Int32) = 0), if_pos (rfl : (0 : Int32) = 0)]
    exact stop
  rw [if_pos q2, if_neg (show ¬ (1 : Int32) = 0 by decide), if_neg (show ¬ (1 : Int32) = 0 by decide)]
  by_cases q3 : 0 ≤ a3 ∧ a3 ≤ 1
  case neg =>
    rw [if_neg q3, if_pos (rfl : (0 : Int32) = 0)]
    by_cases c : a3 < 0
    · rw [if_pos c]
      exact stop
    · rw [if_neg c, if_neg (by lia)]
      exact stop
  rw [if_pos q3, if_neg (show ¬ (1 : Int32) = 0 by decide), if_neg (show ¬ a3 < 0 by lia), if_pos q3.2]
  have a12 : a1 < 12 := by lia
  obtain ⟨a0, a4⟩ := q1
  simp (disch := first | assumption | decide | omega) only [rdR, bnd_q, w31]
  by_cases q4 : bt (A.1 0 2) a1 = 0
  · rw [if_pos q4, if_pos q4]
    exact ⟨_, _, _, rfl, rfl, Fr.rf, KF.rf⟩
  rw [if_neg q4, if_neg q4]
  obtain ⟨f1, m1, m2, m3⟩ := aigC x.1.1
  have f1' : Fr SC hC (f_Ho_asItGoes TC hC 72) := f1.mono fun c z => by unfold SC; omega
  have x1 := x.mv f1'
  obtain ⟨s, e1, c1, f2⟩ := beC (w := 82) (v := 45) (.inr (.inr (.inr rfl))) (.inl rfl) (by decide) ok x1.1.2.2
  have f2' : Fr SC (f_Ho_asItGoes TC hC 72) s := f2.mono fun c q => by unfold WR at q; unfold SC; omega
  have x2 := x1.mv f2'
  have ch : CH s P L (mT P) 82 A := ⟨x2.1.1, x2.1.2.1, by
    rw [(f2 72 (fun q => by unfold WR at q; omega)).1]
    exact ⟨m1, m2, m3⟩, c1⟩
  have fin : ∀ w : Int32, (w = 0 ↔ a3 = 0) → QQ hC h1 ((f_Fo_bestSending TC hC 74 a1 a2 w).bind fun r1 => some (r1.1, r1.2)) (lp_Md_sendIn_53 TR fu h1 0 a1 a2 a3 (-1) 0 0) := by
    intro w hw
    obtain ⟨r, s1, s2, z1, z2, z3, z4⟩ := sn_key ok lk wo on x y1 a0 a4 q2.1 q2.2 hw ch (f1'.tr f2')
    unfold f_Fo_bestSending
    simp only [nmd_q, lyC]
    rw [e1, bnd_q, z1, z2, bnd_q]
    exact ⟨r, s1, s2, rfl, rfl, z3, z4⟩
  by_cases q5 : a3 = 1
  · rw [if_pos q5]
    exact fin 1 ⟨fun z => absurd z (by decide), fun z => absurd z (by lia)⟩
  · rw [if_neg q5]
    exact fin 0 ⟨fun _ => by lia, fun _ => rfl⟩
