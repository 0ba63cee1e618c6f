/-! horse: it returns or throws (written by wip/whole/horse.py) -/
def nIO : String := "java/lang/IndexOutOfBoundsException"
def nNS : String := "java/util/NoSuchElementException"
def isX : Cond → Bool
  | .castable _ _ => true
  | .declares _ => true
  | _ => false
def XW : List Cond := lw_tbl.filter isX
/-- what exceptions stand on -/
def XS (z : Nat) (U : State) (H : Heap) : Prop := (∀ w ∈ XW, va_Nw w U) ∧ vx_Zq Bundle.tN "UNASSIGNED_STACK" Bundle.steD (fun q => z ≤ q) U H ∧ vx_Zq Bundle.tN "SUPPRESSED_SENTINEL" Bundle.listD (fun q => z ≤ q) U H ∧ va_Nc nNS nIO U
theorem XS.kept {z : Nat} {U : State} {H H1 : Heap} (h : XS z U H) (hq : ∀ q : Nat, q < H.size → ¬ z ≤ q → H1[q]? = H[q]?) : XS z U H1 := ⟨h.1, h.2.1.kept hq, h.2.2.1.kept hq, h.2.2.2⟩
theorem XS.warm {z : Nat} {s U : State} {H : Heap} (hW : s.WarmedH U.vm) (h : XS z s H) : XS z U H := by
  refine ⟨fun w hw => ?_, h.2.1.moved hW.alike, h.2.2.1.moved hW.alike, h.2.2.2.moved hW.alike⟩
  have h1 := h.1 w hw
  have h2 := (List.mem_filter.mp hw).2
  cases w <;> first | exact va_Nw.warmC hW h1 | exact va_Nw.warmD hW h1 | (simp [isX] at h2)
theorem XS.same {z : Nat} {s U : State} {H : Heap} (hv : s.vm = U.vm) (h : XS z s H) : XS z U H := by
  have ha : s.vm.Alike U.vm := by rw [hv]; exact Vm.Alike.refl _
  refine ⟨fun w hw => ?_, h.2.1.moved ha, h.2.2.1.moved ha, h.2.2.2.moved ha⟩
  have h1 := h.1 w hw
  have h2 := (List.mem_filter.mp hw).2
  cases w <;> first | exact va_Nw.same rfl hv h1 | (simp [isX] at h2)
theorem XS.at {z : Nat} {s U : State} {H : Heap} {locs : List Loc} (h : XS z s s.heap) (hS : va_S (fun q => z ≤ q) s.heap H locs) (hW : s.WarmedH U.vm) : XS z U H := (h.kept (fun q h1 h2 => hS.2.1 q h1 h2)).warm hW
theorem XS.word {z : Nat} {s : State} {H : Heap} {args : Array Value} (h : XS z s H) : ∀ w ∈ XW, w.before args s = true := by
  intro w hw
  have h1 := h.1 w hw
  have h2 := (List.mem_filter.mp hw).2
  cases w <;> first | exact va_Nw.use rfl h1 | (simp [isX] at h2)
def xnames : List String := ["java/lang/RuntimeException", "java/lang/Exception"]
theorem xg1 : ∀ w ∈ (vx_at0 RC0 138 nIO xnames).filter goodWord, w ∈ lw_tbl := by decide +kernel
theorem xg2 : ∀ w ∈ (vx_at0 RC0 164 nNS xnames).filter goodWord, w ∈ lw_tbl := by decide +kernel
theorem xb1 : ∀ w ∈ (vx_at0 RC0 138 nIO xnames).filter (fun w => !goodWord w), w ∈ XW := by decide +kernel
theorem xb2 : ∀ w ∈ (vx_at0 RC0 164 nNS xnames).filter (fun w => !goodWord w), w ∈ XW := by decide +kernel
theorem xo1 : ∀ w ∈ Cond.classLink RC0 136 nIO :: Cond.initialized nIO :: vx_at0 RC0 138 nIO xnames, vx_ot w = true := by decide +kernel
theorem xo2 : ∀ w ∈ Cond.classLink RC0 162 nNS :: Cond.initialized nNS :: vx_at0 RC0 164 nNS xnames, vx_ot w = true := by decide +kernel
theorem xk1 : Cond.classLink RC0 136 nIO ∈ GW := gw_in 1422 (by decide +kernel) rfl
theorem xk2 : Cond.classLink RC0 162 nNS ∈ GW := gw_in 1484 (by decide +kernel) rfl
theorem xi1 : Cond.initialized nIO ∈ GW := gw_in 135 (by decide +kernel) rfl
theorem xi2 : Cond.initialized nNS ∈ GW := gw_in 136 (by decide +kernel) rfl
def QH (g : Gl) (tb : Tb) (ρ : Nat → Nat) (r : Int32 × Int32) (h : Hp) : Array Value → State → Outcome → State → Prop := fun _ st oc t => r.1 = 0 ∧ oc = .returned (some (.int r.2)) ∧ va_P g.2.1 classes (wsO g.2.2 tb ρ h) t.heap ∧ va_F (cst tb ρ) st t
def XH (g : Gl) (tb : Tb) (ρ : Nat → Nat) (r : Int32 × Int32) (h : Hp) : String → State → State → Prop := fun E st t => ((E = nIO ∧ r.1 = 1) ∨ (E = nNS ∧ r.1 = 2)) ∧ va_P g.2.1 classes (wsO g.2.2 tb ρ h) t.heap ∧ va_F (cst tb ρ) st t
def CXX (E : En) (g : Gl) (tb : Tb) (z : Nat) (r : Int32 × Int32) (h : Hp) : Prop := match E with
  | (p, e, R, s, m, args, below, meth, c, Q) => XS z s s.heap ∧ g.1.stackTraces = false ∧ R.cells = 1 ∧ R.slots = 6 ∧ meth.locks = false ∧ (∀ x ∈ c.exceptionTable.toList, False) ∧ meth.sig.returnType = some .int ∧ Q = vx_MQ below (QH g tb (rz z) r h) (XH g tb (rz z) r h) args s 1 6 (cst tb (rz z))
theorem v_hret {E : En} {g : Gl} {tb : Tb} {z nL pc : Nat} {cc : ByteArray} {own : String} {F Lo : Nat} {ls : List (Nat × Value)} {h : Hp} {x : Int32} {r : Int32 × Int32} (X : CX E g tb (rz z) cc nL own F Lo) (Z : CXX E g tb z r h) (hd : decode cc pc = .ok (.ireturn, 1)) (e1 : r = (0, x)) : V E g tb (rz z) nL pc ls [.int x] h := by
  subst e1
  obtain ⟨p, e, R, s, m, args, below, meth, c0, Q⟩ := E
  obtain ⟨hx, hb, hml, hown, hts, hK, ok, hi, hF, hL, hN⟩ := X
  obtain ⟨hXS, hst, hc, hsl, hlocks, htab, hr, hQ⟩ := Z
  intro H locs la hP hS hl
  subst hQ
  refine vx_ret ?_
  refine W.widen (k := 1) (n := 6) (by omega) (by omega) ?_
  exact W.iret hx hb hr (fun t ht _ => ⟨rfl, rfl, by rw [ht]; exact hP, hS.F ht⟩) hS.2.2 hd hlocks
theorem v_thr1 {E : En} {g : Gl} {tb : Tb} {z : Nat} {ls : List (Nat × Value)} {h : Hp} {r : Int32 × Int32} (X : CX E g tb (rz z) prog_1_method_8_code 3 RC0 6 81) (Z : CXX E g tb z r h) (e1 : r = (1, 0)) : V E g tb (rz z) 3 11 ls [] h := by
  subst e1
  obtain ⟨p, e, R, s, m, args, below, meth, c0, Q⟩ := E
  obtain ⟨hx, hb, hml, hown, hts, hK, ok, hi, hF, hL, hN⟩ := X
  obtain ⟨hXS, hst, hc, hsl, hlocks, htab, hr, hQ⟩ := Z
  intro H locs la hP hS hl
  subst hQ
  have hnw : ∀ q, cst tb (rz z) q → z ≤ q := fun q ⟨c, _, hc⟩ => by rw [← hc]; exact Nat.le_add_right z c
  have hat : ∀ w ∈ vx_at0 RC0 138 nIO xnames, w.before args s = true := vx_hat (fun w hw => hts w (List.mem_filter.mpr ⟨xg1 w hw, (List.mem_filter.mp hw).2⟩)) xb1 hXS.word
  refine vx_throw0 (pc := 11) (names := xnames) (A := cst tb (rz z)) hx hb hst hown (by decide +kernel) (by decide +kernel) (hts _ xk1) (hts _ xi1) hat xo1 (hXS.2.1.narrow hnw) (hXS.2.2.1.narrow hnw) hS (hl.1.trans hml.symm) (by decide +kernel) (by decide +kernel) (by decide +kernel) (by decide +kernel) (fun x hx => (htab x hx).elim) (by rw [hF]; decide) (by rw [hL]; decide) (by rw [hc]; decide) (by rw [hsl]; decide) hlocks (fun t ht h1 h2 => ⟨Or.inl ⟨rfl, rfl⟩, ?_, ?_⟩) hS.2.2 (by decide) (by decide)
  · exact hP.kept (fun i x hx => h2 x.1 (hP i x hx).lt)
  · exact ⟨Nat.le_trans hS.1 h1, fun q q1 q2 => (h2 q (Nat.lt_of_lt_of_le q1 hS.1)).trans (hS.2.1 q q1 q2)⟩
theorem v_thr2 {E : En} {g : Gl} {tb : Tb} {z : Nat} {ls : List (Nat × Value)} {h : Hp} {r : Int32 × Int32} (X : CX E g tb (rz z) prog_1_method_8_code 3 RC0 6 81) (Z : CXX E g tb z r h) (e1 : r = (2, 0)) : V E g tb (rz z) 3 155 ls [] h := by
  subst e1
  obtain ⟨p, e, R, s, m, args, below, meth, c0, Q⟩ := E
  obtain ⟨hx, hb, hml, hown, hts, hK, ok, hi, hF, hL, hN⟩ := X
  obtain ⟨hXS, hst, hc, hsl, hlocks, htab, hr, hQ⟩ := Z
  intro H locs la hP hS hl
  subst hQ
  have hnw : ∀ q, cst tb (rz z) q → z ≤ q := fun q ⟨c, _, hc⟩ => by rw [← hc]; exact Nat.le_add_right z c
  have hat : ∀ w ∈ vx_at0 RC0 164 nNS xnames, w.before args s = true := vx_hat (fun w hw => hts w (List.mem_filter.mpr ⟨xg2 w hw, (List.mem_filter.mp hw).2⟩)) xb2 hXS.word
  refine vx_throw0 (pc := 155) (names := xnames) (A := cst tb (rz z)) hx hb hst hown (by decide +kernel) (by decide +kernel) (hts _ xk2) (hts _ xi2) hat xo2 (hXS.2.1.narrow hnw) (hXS.2.2.1.narrow hnw) hS (hl.1.trans hml.symm) (by decide +kernel) (by decide +kernel) (by decide +kernel) (by decide +kernel) (fun x hx => (htab x hx).elim) (by rw [hF]; decide) (by rw [hL]; decide) (by rw [hc]; decide) (by rw [hsl]; decide) hlocks (fun t ht h1 h2 => ⟨Or.inr ⟨rfl, rfl⟩, ?_, ?_⟩) hS.2.2 (by decide) (by decide)
  · exact hP.kept (fun i x hx => h2 x.1 (hP i x hx).lt)
  · exact ⟨Nat.le_trans hS.1 h1, fun q q1 q2 => (h2 q (Nat.lt_of_lt_of_le q1 hS.1)).trans (hS.2.1 q q1 q2)⟩
def y_Tt_horse : MethodName := ⟨RC0, "horse", "(II)I"⟩
def f_Tt_horse (tb : Tb) (h : Hp) (l0 : Nat) (l1 l2 : Int32) : Option (Int32 × Int32) :=
  nmd (f_Pl_hasHorse tb h (lay tb l0 3) l1) fun r1 =>
  if r1 = (0 : Int32) then (
    some ((1 : Int32), (0 : Int32))
  ) else (
    if l2 = (0 : Int32) then (
      (rI tb h (lay tb (lay tb l0 3) 12) l1).bind fun x3 =>
      some ((0 : Int32), x3)
    ) else (
      if l2 = (1 : Int32) then (
        (rI tb h (lay tb (lay tb l0 4) 9) l1).bind fun x5 =>
        some ((0 : Int32), x5)
      ) else (
        if l2 = (2 : Int32) then (
          (rI tb h (lay tb (lay tb l0 4) 10) l1).bind fun x7 =>
          some ((0 : Int32), x7)
        ) else (
          if l2 = (3 : Int32) then (
            (rI tb h (lay tb (lay tb l0 3) 15) l1).bind fun x9 =>
            some ((0 : Int32), x9)
          ) else (
            if l2 = (4 : Int32) then (
              (rI tb h (lay tb (lay tb l0 4) 12) l1).bind fun x11 =>
              some ((0 : Int32), x11)
            ) else (
              if l2 = (5 : Int32) then (
                (rI tb h (lay tb (lay tb l0 4) 11) l1).bind fun x13 =>
                some ((0 : Int32), x13)
              ) else (
                if l2 = (6 : Int32) then (
                  nmd (f_Wo_isOn tb h (lay tb l0 4) l1) fun r15 =>
                  if r15 = (0 : Int32) then (
                    some ((0 : Int32), (0 : Int32))
                  ) else (
                    some ((0 : Int32), (1 : Int32))
                  )
                ) else (
                  if l2 = (7 : Int32) then (
                    (rI tb h (lay tb (lay tb l0 4) 13) l1).bind fun x18 =>
                    some ((0 : Int32), x18)
                  ) else (
                    some ((2 : Int32), (0 : Int32))
                  )
                )
              )
            )
          )
        )
      )
    )
  )
/-- horse: an answer, or one of the two exceptions -/
def MH (g : Gl) (tb : Tb) (z : Nat) (h : Hp) (l1 l2 : Int32) (r : Int32 × Int32) : Prop := vx_Met g.1 y_Tt_horse (Cond.code y_Tt_horse prog_1_method_8_code 3 (some .int) :: GW) { frames := 6, cells := 1, slots := 6, locals := 81 } (va_Pc [.ref (rz z 0), .int l1, .int l2] (fun U => va_P g.2.1 classes (wsO g.2.2 tb (rz z) h) U.heap ∧ va_K g.2.1 classes (tysO g.2.2) U ∧ NN U ∧ XS z U U.heap)) (QH g tb (rz z) r h) (XH g tb (rz z) r h) 1 6 (cst tb (rz z))
set_option maxRecDepth 4000 in
set_option maxHeartbeats 1000000 in
theorem vh_horse {E : En} {g : Gl} {tb : Tb} {z : Nat} (ok : TbOK tb) (hi : inj tb (rz z)) {h : Hp} {l0 : Nat} {l1 l2 : Int32} (kl0 : kd tb l0 = 0) {r : Int32 × Int32} (hf : f_Tt_horse tb h l0 l1 l2 = some r) (X : CX E g tb (rz z) prog_1_method_8_code 3 RC0 6 81) (Z : CXX E g tb z r h) : V E g tb (rz z) 3 0 [(0, .ref (rz z l0)), (1, .int l1), (2, .int l2)] [] h := by
  unfold f_Tt_horse at hf
  refine v_aload_n (pc := 0) (k := 0) X (by decide +kernel) 0 rfl ?_
  refine v_geta (pc := 1) X fl_0_31 kl0 fk_0_3 (by decide +kernel) ?_
  refine v_iload_n (pc := 4) (k := 1) X (by decide +kernel) 1 rfl ?_
  obtain ⟨r1, er1, hf⟩ := nmd_e hf
  refine v_callV (pc := 5) (As := [.int l1]) (rest := []) X (mt_Pl_hasHorse ok hi (ly_0_3 ok kl0) er1.symm) ml_0_132 mv_Pl_hasHorse (ly_0_3 ok kl0) cls_7 rfl ⟨Nat.le_of_ble_eq_true rfl, Nat.le_of_ble_eq_true rfl⟩ rfl rfl (Nat.le_of_ble_eq_true rfl) (by decide +kernel) ?_
  change V E g tb (rz z) 3 8 [(0, .ref (rz z l0)), (1, .int l1), (2, .int l2)] [.int r1] h
  refine v_if_ne (pc := 8) (off := 11) (tgt := 19) X (by decide +kernel) (by decide) (fun q19 => ?_) (fun q19 => ?_)
  · rw [if_neg q19] at hf
    refine v_iload_n (pc := 19) (k := 2) X (by decide +kernel) 2 rfl ?_
    by_cases q2 : l2 = (0 : Int32)
    · rw [if_pos q2] at hf
      refine v_tin (pc := 20) (off := 48) (tgt := 68) X (show decode prog_1_method_8_code 20 = .ok (.tableswitch 135 0 7 #[48, 58, 68, 78, 88, 98, 108, 125], 48) from by decide +kernel) q2 (by decide) (by decide) (by decide) (by decide) ?_
      refine v_aload_n (pc := 68) (k := 0) X (by decide +kernel) 0 rfl ?_
      refine v_geta (pc := 69) X fl_0_31 kl0 fk_0_3 (by decide +kernel) ?_
      refine v_geta (pc := 72) X fl_0_139 (ly_0_3 ok kl0) fk_7_12 (by decide +kernel) ?_
      refine v_iload_n (pc := 75) (k := 1) X (by decide +kernel) 1 rfl ?_
      obtain ⟨x3, ex3, hf⟩ := bnd_e hf
      refine v_iald (pc := 76) X (ly_7_12 ok (ly_0_3 ok kl0)) ex3 (by decide +kernel) ?_
      cases hf
      exact v_hret X Z (by decide +kernel) rfl
    · rw [if_neg q2] at hf
      by_cases q4 : l2 = (1 : Int32)
      · rw [if_pos q4] at hf
        refine v_tin (pc := 20) (off := 58) (tgt := 78) X (show decode prog_1_method_8_code 20 = .ok (.tableswitch 135 0 7 #[48, 58, 68, 78, 88, 98, 108, 125], 48) from by decide +kernel) q4 (by decide) (by decide) (by decide) (by decide) ?_
        refine v_aload_n (pc := 78) (k := 0) X (by decide +kernel) 0 rfl ?_
        refine v_geta (pc := 79) X fl_0_38 kl0 fk_0_4 (by decide +kernel) ?_
        refine v_geta (pc := 82) X fl_0_142 (ly_0_4 ok kl0) fk_11_9 (by decide +kernel) ?_
        refine v_iload_n (pc := 85) (k := 1) X (by decide +kernel) 1 rfl ?_
        obtain ⟨x5, ex5, hf⟩ := bnd_e hf
        refine v_iald (pc := 86) X (ly_11_9 ok (ly_0_4 ok kl0)) ex5 (by decide +kernel) ?_
        cases hf
        exact v_hret X Z (by decide +kernel) rfl
      · rw [if_neg q4] at hf
        by_cases q6 : l2 = (2 : Int32)
        · rw [if_pos q6] at hf
          refine v_tin (pc := 20) (off := 68) (tgt := 88) X (show decode prog_1_method_8_code 20 = .ok (.tableswitch 135 0 7 #[48, 58, 68, 78, 88, 98, 108, 125], 48) from by decide +kernel) q6 (by decide) (by decide) (by decide) (by decide) ?_
          refine v_aload_n (pc := 88) (k := 0) X (by decide +kernel) 0 rfl ?_
          refine v_geta (pc := 89) X fl_0_38 kl0 fk_0_4 (by decide +kernel) ?_
          refine v_geta (pc := 92) X fl_0_144 (ly_0_4 ok kl0) fk_11_10 (by decide +kernel) ?_
          refine v_iload_n (pc := 95) (k := 1) X (by decide +kernel) 1 rfl ?_
          obtain ⟨x7, ex7, hf⟩ := bnd_e hf
          refine v_iald (pc := 96) X (ly_11_10 ok (ly_0_4 ok kl0)) ex7 (by decide +kernel) ?_
          cases hf
          exact v_hret X Z (by decide +kernel) rfl
        · rw [if_neg q6] at hf
          by_cases q8 : l2 = (3 : Int32)
          · rw [if_pos q8] at hf
            refine v_tin (pc := 20) (off := 78) (tgt := 98) X (show decode prog_1_method_8_code 20 = .ok (.tableswitch 135 0 7 #[48, 58, 68, 78, 88, 98, 108, 125], 48) from by decide +kernel) q8 (by decide) (by decide) (by decide) (by decide) ?_
            refine v_aload_n (pc := 98) (k := 0) X (by decide +kernel) 0 rfl ?_
            refine v_geta (pc := 99) X fl_0_31 kl0 fk_0_3 (by decide +kernel) ?_
            refine v_geta (pc := 102) X fl_0_147 (ly_0_3 ok kl0) fk_7_15 (by decide +kernel) ?_
            refine v_iload_n (pc := 105) (k := 1) X (by decide +kernel) 1 rfl ?_
            obtain ⟨x9, ex9, hf⟩ := bnd_e hf
            refine v_iald (pc := 106) X (ly_7_15 ok (ly_0_3 ok kl0)) ex9 (by decide +kernel) ?_
            cases hf
            exact v_hret X Z (by decide +kernel) rfl
          · rw [if_neg q8] at hf
            by_cases q10 : l2 = (4 : Int32)
            · rw [if_pos q10] at hf
              refine v_tin (pc := 20) (off := 88) (tgt := 108) X (show decode prog_1_method_8_code 20 = .ok (.tableswitch 135 0 7 #[48, 58, 68, 78, 88, 98, 108, 125], 48) from by decide +kernel) q10 (by decide) (by decide) (by decide) (by decide) ?_
              refine v_aload_n (pc := 108) (k := 0) X (by decide +kernel) 0 rfl ?_
              refine v_geta (pc := 109) X fl_0_38 kl0 fk_0_4 (by decide +kernel) ?_
              refine v_geta (pc := 112) X fl_0_150 (ly_0_4 ok kl0) fk_11_12 (by decide +kernel) ?_
              refine v_iload_n (pc := 115) (k := 1) X (by decide +kernel) 1 rfl ?_
              obtain ⟨x11, ex11, hf⟩ := bnd_e hf
              refine v_iald (pc := 116) X (ly_11_12 ok (ly_0_4 ok kl0)) ex11 (by decide +kernel) ?_
              cases hf
              exact v_hret X Z (by decide +kernel) rfl
            · rw [if_neg q10] at hf
              by_cases q12 : l2 = (5 : Int32)
              · rw [if_pos q12] at hf
                refine v_tin (pc := 20) (off := 98) (tgt := 118) X (show decode prog_1_method_8_code 20 = .ok (.tableswitch 135 0 7 #[48, 58, 68, 78, 88, 98, 108, 125], 48) from by decide +kernel) q12 (by decide) (by decide) (by decide) (by decide) ?_
                refine v_aload_n (pc := 118) (k := 0) X (by decide +kernel) 0 rfl ?_
                refine v_geta (pc := 119) X fl_0_38 kl0 fk_0_4 (by decide +kernel) ?_
                refine v_geta (pc := 122) X fl_0_153 (ly_0_4 ok kl0) fk_11_11 (by decide +kernel) ?_
                refine v_iload_n (pc := 125) (k := 1) X (by decide +kernel) 1 rfl ?_
                obtain ⟨x13, ex13, hf⟩ := bnd_e hf
                refine v_iald (pc := 126) X (ly_11_11 ok (ly_0_4 ok kl0)) ex13 (by decide +kernel) ?_
                cases hf
                exact v_hret X Z (by decide +kernel) rfl
              · rw [if_neg q12] at hf
                by_cases q14 : l2 = (6 : Int32)
                · rw [if_pos q14] at hf
                  refine v_tin (pc := 20) (off := 108) (tgt := 128) X (show decode prog_1_method_8_code 20 = .ok (.tableswitch 135 0 7 #[48, 58, 68, 78, 88, 98, 108, 125], 48) from by decide +kernel) q14 (by decide) (by decide) (by decide) (by decide) ?_
                  refine v_aload_n (pc := 128) (k := 0) X (by decide +kernel) 0 rfl ?_
                  refine v_geta (pc := 129) X fl_0_38 kl0 fk_0_4 (by decide +kernel) ?_
                  refine v_iload_n (pc := 132) (k := 1) X (by decide +kernel) 1 rfl ?_
                  obtain ⟨r15, er15, hf⟩ := nmd_e hf
                  refine v_callV (pc := 133) (As := [.int l1]) (rest := []) X (mt_Wo_isOn ok hi (ly_0_4 ok kl0) er15.symm) ml_0_156 mv_Wo_isOn (ly_0_4 ok kl0) cls_11 rfl ⟨Nat.le_of_ble_eq_true rfl, Nat.le_of_ble_eq_true rfl⟩ rfl rfl (Nat.le_of_ble_eq_true rfl) (by decide +kernel) ?_
                  change V E g tb (rz z) 3 136 [(0, .ref (rz z l0)), (1, .int l1), (2, .int l2)] [.int r15] h
                  refine v_if_eq (pc := 136) (off := 7) (tgt := 143) X (by decide +kernel) (by decide) (fun q16 => ?_) (fun q16 => ?_)
                  · rw [if_pos q16] at hf
                    refine v_iconst (pc := 143) (n := 0) X (by decide +kernel) ic_0 ?_
                    cases hf
                    exact v_hret X Z (by decide +kernel) rfl
                  · rw [if_neg q16] at hf
                    refine v_iconst (pc := 139) (n := 1) X (by decide +kernel) ic_1 ?_
                    refine v_goto (pc := 140) (off := 4) (tgt := 144) X (by decide +kernel) (by decide) ?_
                    cases hf
                    exact v_hret X Z (by decide +kernel) rfl
                · rw [if_neg q14] at hf
                  by_cases q17 : l2 = (7 : Int32)
                  · rw [if_pos q17] at hf
                    refine v_tin (pc := 20) (off := 125) (tgt := 145) X (show decode prog_1_method_8_code 20 = .ok (.tableswitch 135 0 7 #[48, 58, 68, 78, 88, 98, 108, 125], 48) from by decide +kernel) q17 (by decide) (by decide) (by decide) (by decide) ?_
                    refine v_aload_n (pc := 145) (k := 0) X (by decide +kernel) 0 rfl ?_
                    refine v_geta (pc := 146) X fl_0_38 kl0 fk_0_4 (by decide +kernel) ?_
                    refine v_geta (pc := 149) X fl_0_159 (ly_0_4 ok kl0) fk_11_13 (by decide +kernel) ?_
                    refine v_iload_n (pc := 152) (k := 1) X (by decide +kernel) 1 rfl ?_
                    obtain ⟨x18, ex18, hf⟩ := bnd_e hf
                    refine v_iald (pc := 153) X (ly_11_13 ok (ly_0_4 ok kl0)) ex18 (by decide +kernel) ?_
                    cases hf
                    exact v_hret X Z (by decide +kernel) rfl
                  · rw [if_neg q17] at hf
                    refine v_tout (pc := 20) (tgt := 155) X (show decode prog_1_method_8_code 20 = .ok (.tableswitch 135 0 7 #[48, 58, 68, 78, 88, 98, 108, 125], 48) from by decide +kernel) (t_out (lo := 0) (hi := 7) [(0 : Int32), (1 : Int32), (2 : Int32), (3 : Int32), (4 : Int32), (5 : Int32), (6 : Int32), (7 : Int32)] (by decide) (List.forall_mem_cons.mpr ⟨q2, List.forall_mem_cons.mpr ⟨q4, List.forall_mem_cons.mpr ⟨q6, List.forall_mem_cons.mpr ⟨q8, List.forall_mem_cons.mpr ⟨q10, List.forall_mem_cons.mpr ⟨q12, List.forall_mem_cons.mpr ⟨q14, List.forall_mem_cons.mpr ⟨q17, fun _ h => absurd h List.not_mem_nil⟩⟩⟩⟩⟩⟩⟩⟩)) (by decide) ?_
                    cases hf
                    exact v_thr2 X Z rfl
  · rw [if_pos q19] at hf
    cases hf
    exact v_thr1 X Z rfl
theorem mh_horse {g : Gl} {tb : Tb} {z : Nat} (ok : TbOK tb) (hst : g.1.stackTraces = false) {h : Hp} {l1 l2 : Int32} (kl0 : kd tb 0 = 0) {r : Int32 × Int32} (hf : f_Tt_horse tb h 0 l1 l2 = some r) : MH g tb z h l1 l2 r := by
  refine vx_ofW (cc := prog_1_method_8_code) (maxL := 3) (ret := some .int) (by decide +kernel) rfl ?_
  intro p e s m args below meth c s₁ B hml htab hv
  obtain ⟨rfl, hP, hK, hN, hXS⟩ := hv
  have hts := atoms_spec (ws := Cond.code y_Tt_horse prog_1_method_8_code 3 (some .int) :: GW) B.pre
  have hown : s.vm.findClass RC0 = some m.cls := findClass_of_methodNamed B.named
  have hle := lv_entry [.ref (rz z 0), .int l1, .int l2] (n := 3) (Nat.le_of_ble_eq_true rfl)
  rw [lg_entry_eq]
  have hi := inj_rz tb z
  exact vh_horse (E := (p, e, ({ frames := 6, cells := 1, slots := 6, locals := 81 } : Room), s, m, _, below, meth, c, vx_MQ below (QH g tb (rz z) r h) (XH g tb (rz z) r h) _ s 1 6 (cst tb (rz z)))) ok hi kl0 hf ⟨B.exec, B.bytes, hml, hown, fun w hw => hts w (List.mem_cons_of_mem _ hw), hK, ok, hi, rfl, rfl, hN⟩ ⟨hXS, hst, rfl, rfl, B.notSynchronized, htab, B.returns, rfl⟩ s.heap [] _ hP va_S.rf hle
