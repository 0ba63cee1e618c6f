/-! the law's own horse; the judgement VL of the law's body (written by wip/whole/lawbase.py) -/
def RL : String := "TroughTreatyLaw"
def y_Lw_horse : MethodName := ⟨RL, "horse", "(LTroughTreaty;II[J)I"⟩
def hT : List (Nat × Nat × Nat × Nat) := [(0, 10, 13, 13), (0, 10, 17, 15)]
theorem lh_code : Cond.codeWith y_Lw_horse method_3_code 5 (some .int) hT ∈ GW := gw_in 1415 (by decide +kernel) rfl
theorem lh_ml : Cond.methodLink RL 39 y_Lw_horse ∈ GW := gw_in 1413 (by decide +kernel) rfl
theorem lh_st : Cond.static y_Lw_horse ∈ GW := gw_in 1414 (by decide +kernel) rfl
theorem lh_in : Cond.initialized RL ∈ GW := gw_in 111 (by decide +kernel) rfl
theorem lh_k1 : Cond.classLink RL 13 nIO ∈ GW := gw_in 1416 (by decide +kernel) rfl
theorem lh_k2 : Cond.classLink RL 15 nNS ∈ GW := gw_in 1417 (by decide +kernel) rfl
theorem lh_c1 : Cond.castable nIO nIO ∈ XW := List.mem_filter.mpr ⟨List.mem_of_getElem? (i := 1424) (by decide +kernel), rfl⟩
theorem lh_c2 : Cond.castable nNS nNS ∈ XW := List.mem_filter.mpr ⟨List.mem_of_getElem? (i := 1486) (by decide +kernel), rfl⟩
theorem lh_th : ML RL 7 y_Tt_horse prog_1_method_8_code 3 (some .int) 2 := ⟨gw_in 1418 (by decide +kernel) rfl, gw_in 112 (by decide +kernel) rfl, gw_in 1421 (by decide +kernel) rfl, ⟨by decide +kernel, by decide +kernel, by decide +kernel⟩⟩
theorem lh_tv : MV y_Tt_horse := ⟨gw_in 1419 (by decide +kernel) rfl, gw_in 1420 (by decide +kernel) rfl⟩
def OW (g : Gl) (z : Nat) (fo : Nat → Int64) : va_W := [(z + 139, .inl (g.2.2 3, 1, .inr (.inl fo)))]
def AH (z : Nat) : Nat → Prop := fun q => cst TC (rz z) q ∨ q = z + 139
theorem OW_D {g : Gl} {z : Nat} {fo : Nat → Int64} {A : Nat → Prop} (hA : A (z + 139)) : va_D A (OW g z fo) := by
  refine ⟨fun i j p q hp hq _ => ?_, fun k q hk => ?_⟩
  · have h1 : i < 1 := (List.getElem?_eq_some_iff.mp hp).1
    have h2 : j < 1 := (List.getElem?_eq_some_iff.mp hq).1
    omega
  · have h1 : k < 1 := (List.getElem?_eq_some_iff.mp hk).1
    rw [show k = 0 by omega] at hk
    cases hk
    exact hA
theorem OW_kept {g : Gl} {z : Nat} {fo : Nat → Int64} {H H1 : Heap} (h : va_P g.2.1 classes (OW g z fo) H) (hq : H1[z + 139]? = H[z + 139]?) : va_P g.2.1 classes (OW g z fo) H1 := by
  refine h.kept (fun k x hx => ?_)
  have h1 : k < 1 := (List.getElem?_eq_some_iff.mp hx).1
  rw [show k = 0 by omega] at hx
  cases hx
  exact hq
theorem cst_C {z q : Nat} (h : cst TC (rz z) q) : z ≤ q ∧ q < z + 93 := by
  obtain ⟨c, h1, h2⟩ := h
  have h1 : c < 93 := h1
  unfold rz at h2
  omega
theorem cst_R {z q : Nat} (h : cst TR (rz (z + 93)) q) : z + 93 ≤ q ∧ q < z + 139 := by
  obtain ⟨c, h1, h2⟩ := h
  have h1 : c < 46 := h1
  unfold rz at h2
  omega
theorem CO_len {g : Gl} {z : Nat} {hC : Hp} : (wsO g.2.2 TC (rz z) hC).length = 93 := by
  show ((List.range 93).map _).length = 93
  simp
theorem CO_93 {g : Gl} {z : Nat} {hC : Hp} {fo : Nat → Int64} : (wsO g.2.2 TC (rz z) hC ++ OW g z fo)[93]? = some (z + 139, .inl (g.2.2 3, 1, .inr (.inl fo))) := by
  rw [List.getElem?_append_right (by rw [CO_len]; decide), CO_len]
  rfl
theorem CO_D {g : Gl} {z : Nat} {hC : Hp} {fo : Nat → Int64} {A : Nat → Prop} (hA : ∀ q, AH z q → A q) : va_D A (wsO g.2.2 TC (rz z) hC ++ OW g z fo) := by
  have h1 := wsO_D (dA := g.2.2) (inj_rz TC z) hC
  refine va_D.app (h1.weaken (fun k q _ h => hA _ (Or.inl h))) (OW_D (hA _ (Or.inr rfl))) (fun i j x y hx hy e => ?_)
  have h2 := cst_C (h1.2 i x hx)
  have h3 : j < 1 := (List.getElem?_eq_some_iff.mp hy).1
  rw [show j = 0 by omega] at hy
  cases hy
  have e : x.1 = z + 139 := e
  omega
theorem CO_set {g : Gl} {z : Nat} {hC : Hp} {fo fo' : Nat → Int64} {H : Heap} (h : va_P g.2.1 classes ((wsO g.2.2 TC (rz z) hC ++ OW g z fo).set 93 (z + 139, .inl (g.2.2 3, 1, .inr (.inl fo')))) H) : va_P g.2.1 classes (wsO g.2.2 TC (rz z) hC) H ∧ va_P g.2.1 classes (OW g z fo') H := by
  refine ⟨fun k q hk => ?_, fun k q hk => ?_⟩
  · have hl : k < 93 := by
      have := (List.getElem?_eq_some_iff.mp hk).1
      rw [CO_len] at this
      exact this
    refine h k q ?_
    rw [List.getElem?_set_ne (by omega), List.getElem?_append_left (by rw [CO_len]; exact hl)]
    exact hk
  · have hl : k < 1 := (List.getElem?_eq_some_iff.mp hk).1
    rw [show k = 0 by omega] at hk
    cases hk
    refine h 93 _ ?_
    rw [List.getElem?_set_self (by rw [List.length_append, CO_len]; exact Nat.lt_succ_self 93)]
def foOf (r : Int32 × Int32) (fo : Nat → Int64) : Nat → Int64 := if r.1 = 0 then vp_updL fo 0 r.2.toInt64 else fo
def QLh (g : Gl) (z : Nat) (hC : Hp) (fo : Nat → Int64) (r : Int32 × Int32) : Array Value → State → Outcome → State → Prop := fun _ st oc t => oc = .returned (some (.int r.1)) ∧ va_P g.2.1 classes (wsO g.2.2 TC (rz z) hC) t.heap ∧ va_P g.2.1 classes (OW g z (foOf r fo)) t.heap ∧ va_F (AH z) st t
def PLh (g : Gl) (z : Nat) (hC : Hp) (fo : Nat → Int64) : State → Prop := fun U => va_P g.2.1 classes (wsO g.2.2 TC (rz z) hC) U.heap ∧ va_P g.2.1 classes (OW g z fo) U.heap ∧ va_K g.2.1 classes (tysO g.2.2) U ∧ NN U ∧ XS z U U.heap
set_option maxHeartbeats 4000000 in
set_option maxRecDepth 20000 in
theorem mlh {g : Gl} {z : Nat} (hst : g.1.stackTraces = false) {hC : Hp} {fo : Nat → Int64} {p0 p1 : Int32} {r : Int32 × Int32} (hf : f_Tt_horse TC hC 0 p0 p1 = some r) : Met g.1 y_Lw_horse (Cond.codeWith y_Lw_horse method_3_code 5 (some .int) hT :: GW) { frames := 7, cells := 1, slots := 6, locals := 103 } (va_Pc [.ref (rz z 0), .int p0, .int p1, .ref (z + 139)] (PLh g z hC fo)) (QLh g z hC fo r) 1 6 (AH z) := by
  refine va_MetW (cc := method_3_code) (maxL := 5) (ret := some .int) (hh := hT) (by decide +kernel) rfl ?_
  intro p e s m args below meth c s₁ B hml hv
  obtain ⟨rfl, hP, hO, hK, hN, hXS⟩ := hv
  have hts0 := atoms_spec (ws := Cond.codeWith y_Lw_horse method_3_code 5 (some .int) hT :: GW) B.pre
  have hts : ∀ w ∈ GW, w.before _ s = true := fun w hw => hts0 w (List.mem_cons_of_mem _ hw)
  have htab := vx_table (x := y_Lw_horse) B (hts0 _ List.mem_cons_self)
  have hx := B.exec
  have hb := B.bytes
  have hr := B.returns
  have hlocks := B.notSynchronized
  have hown : s.vm.findClass RL = some m.cls := findClass_of_methodNamed B.named
  have hl := lv_entry [.ref (rz z 0), .int p0, .int p1, .ref (z + 139)] (n := 5) (Nat.le_of_ble_eq_true rfl)
  rw [lg_entry_eq]
  generalize (lg_sl [.ref (rz z 0), .int p0, .int p1, .ref (z + 139)] ++ List.replicate (5 - (lg_sl [.ref (rz z 0), .int p0, .int p1, .ref (z + 139)]).length) Slot.unset).toArray = ls at hl ⊢
  have hl : lv_has ls 5 [(0, .ref (rz z 0)), (1, .int p0), (2, .int p1), (3, .ref (z + 139))] := hl
  refine lv_aload_n (k := 3) hx hb (by decide +kernel) rfl (lv_at hl 3 rfl) ?_
  refine lv_iconst (n := 0) (v := 0) hx hb (by decide +kernel) (by decide) ?_
  refine lv_aload_n (k := 0) hx hb (by decide +kernel) rfl (lv_at hl 0 rfl) ?_
  refine lv_iload_n (k := 1) hx hb (by decide +kernel) rfl (lv_at hl 1 rfl) ?_
  refine lv_iload_n (k := 2) hx hb (by decide +kernel) rfl (lv_at hl 2 rfl) ?_
  obtain ⟨hlk, hin, hco, hok⟩ := lh_th
  have hrun := vx_runV (l := g.1) (e := e) (p := p) (c := c) (H := s.heap) (locs := []) (cells := 0) (slots := 0) (g := F0 m 5 ls ([Value.int p0, .int p1].reverse ++ .ref (rz z 0) :: [.int 0, .ref (z + 139)])) (rest := [.int 0, .ref (z + 139)]) (As := [.int p0, .int p1]) (below := below) (meth := meth) (R := { frames := 7, cells := 1, slots := 6, locals := 103 }) ⟨hx, hb, hml, hown, hts⟩ (mh_horse (tb := TC) (z := z) okC_93_101 hst rfl hf) ⟨callB_of 2 hts (good_M hco) rfl rfl rfl (hts _ hin) (hts _ hlk) hok ⟨by decide, by decide⟩, hts _ lh_tv.1, hts _ lh_tv.2⟩ ⟨?_, ?_, ?_⟩ rfl rfl hl.1 rfl (lv_room (Nat.le_of_ble_eq_true rfl)) (show decode method_3_code 5 = .ok (.invokevirtual 7, 3) by decide +kernel) ⟨by decide, by decide⟩
  · intro T hT X
    rcases hrun T hT X with ⟨v, st₀, t, T', L, h0, X', hL, e1, e2, ⟨hr0, hv, hP2, hz2, hk2⟩, stp⟩ | ⟨q, st₀, t, T', L, E, ce, h0, X', hL, e1, e2, ⟨hE, hP2, hz2, hk2⟩, hce, hcv, hcl, stp⟩
    · cases hv
      rw [h0] at hz2 hk2
      have hS : va_S (AH z) s.heap T'.heap ([] ++ L) := ⟨by rw [e1]; exact hz2, fun q q1 q2 => by rw [e1]; exact hk2 q q1 (fun z => q2 (Or.inl z)), fun q hq => Or.inl (hL q hq)⟩
      have hO2 : va_P g.2.1 classes (OW g z fo) T'.heap := OW_kept hO (by
        have hlt : z + 139 < s.heap.size := (hO 0 _ rfl).lt
        rw [e1]
        exact hk2 _ hlt (fun q => by have := cst_C q; omega))
      have hPT : va_P g.2.1 classes (wsO g.2.2 TC (rz z) hC) T'.heap := by rw [e1]; exact hP2
      have K : W p g.1 e { frames := 7, cells := 1, slots := 6, locals := 103 } s m [Value.ref (rz z 0), .int p0, .int p1, .ref (z + 139)].toArray below meth c T'.heap ([] ++ L) (0 + 1) (0 + 6) (MQ below (QLh g z hC fo r) [Value.ref (rz z 0), .int p0, .int p1, .ref (z + 139)].toArray s 1 6 (AH z)) (F0 m 8 ls (.int r.2 :: [.int 0, .ref (z + 139)])) := by
        refine lv_i2l hx hb (by decide +kernel) rfl ?_
        refine va_last (ws := wsO g.2.2 TC (rz z) hC ++ OW g z fo) hx hb hK (hPT.app hO2) (CO_D (fun _ h => h)) hS 93 3 CO_93 rfl (i := 0) (by rw [vp_in_iff]; decide) (by decide +kernel) (fun H1 locs1 hP1 _ hS1 => ?_)
        refine lv_goto (tgt := 21) hx hb (off := 11) (by decide +kernel) (by decide) ?_
        refine lv_iconst (n := 0) (v := 0) hx hb (by decide +kernel) (by decide) ?_
        refine W.iret hx hb hr (fun t2 ht2 _ => ⟨by rw [hr0], ?_, ?_, hS1.F ht2⟩) hS1.2.2 (by decide +kernel) hlocks
        · rw [ht2]
          exact (CO_set hP1).1
        · rw [ht2]
          unfold foOf
          rw [if_pos hr0]
          exact (CO_set hP1).2
      obtain ⟨t2, a1, b1⟩ := K T' rfl X'
      exact ⟨t2, stp t2 a1, b1⟩
    · rw [h0] at hz2 hk2
      have hS : va_S (AH z) s.heap T'.heap ([] ++ L) := ⟨by rw [e1]; exact hz2, fun q q1 q2 => by rw [e1]; exact hk2 q q1 (fun z => q2 (Or.inl z)), fun q hq => Or.inl (hL q hq)⟩
      have hO2 : va_P g.2.1 classes (OW g z fo) T'.heap := OW_kept hO (by
        have hlt : z + 139 < s.heap.size := (hO 0 _ rfl).lt
        rw [e1]
        exact hk2 _ hlt (fun q => by have := cst_C q; omega))
      have hPT : va_P g.2.1 classes (wsO g.2.2 TC (rz z) hC) T'.heap := by rw [e1]; exact hP2
      have hce' : T'.heap[q]? = some ce := by rw [e1]; exact hce
      have K : vx_W p g.1 e { frames := 7, cells := 1, slots := 6, locals := 103 } s m [Value.ref (rz z 0), .int p0, .int p1, .ref (z + 139)].toArray below meth c T'.heap ([] ++ L) (0 + 1) (0 + 6) (MQ below (QLh g z hC fo r) [Value.ref (rz z 0), .int p0, .int p1, .ref (z + 139)].toArray s 1 6 (AH z)) (F0 m 5 ls [.int 0, .ref (z + 139)]) q := by
        rcases hE with ⟨rfl, hr1⟩ | ⟨rfl, hr2⟩
        · refine vx_catch (name := nIO) hown [] ⟨0, 10, 13, 13⟩ [⟨0, 10, 17, 15⟩] htab (fun _ h => by cases h) (by decide) (by decide) (hts _ lh_k1) (hXS.word _ lh_c1) hce' hcv hcl ?_
          refine lv_astore (lv' := [(4, .ref q), (0, .ref (rz z 0)), (1, .int p0), (2, .int p1), (3, .ref (z + 139))]) hx hb (i := 4) (by decide +kernel) hl (by decide) rfl (fun ls2 hl2 => ?_)
          refine lv_iconst (n := 1) (v := 1) hx hb (by decide +kernel) (by decide) ?_
          refine W.iret hx hb hr (fun t2 ht2 _ => ⟨by rw [hr1], by rw [ht2]; exact hPT, ?_, hS.F ht2⟩) hS.2.2 (by decide +kernel) hlocks
          rw [ht2]
          unfold foOf
          rw [if_neg (by rw [hr1]; decide)]
          exact hO2
        · refine vx_catch (name := nNS) hown [⟨0, 10, 13, 13⟩] ⟨0, 10, 17, 15⟩ [] htab (fun x hx2 => ?_) (by decide) (by decide) (hts _ lh_k2) (hXS.word _ lh_c2) hce' hcv hcl ?_
          · rw [List.mem_singleton.mp hx2]
            exact Or.inr ⟨by decide, nIO, hts _ lh_k1, hXS.2.2.2⟩
          refine lv_astore (lv' := [(4, .ref q), (0, .ref (rz z 0)), (1, .int p0), (2, .int p1), (3, .ref (z + 139))]) hx hb (i := 4) (by decide +kernel) hl (by decide) rfl (fun ls2 hl2 => ?_)
          refine lv_iconst (n := 2) (v := 2) hx hb (by decide +kernel) (by decide) ?_
          refine W.iret hx hb hr (fun t2 ht2 _ => ⟨by rw [hr2], by rw [ht2]; exact hPT, ?_, hS.F ht2⟩) hS.2.2 (by decide +kernel) hlocks
          rw [ht2]
          unfold foOf
          rw [if_neg (by rw [hr2]; decide)]
          exact hO2
      obtain ⟨t2, a1, b1⟩ := K T' rfl X'
      exact ⟨t2, stp.trans a1, b1⟩
  · intro x U gg mk q
    obtain ⟨q0, qP, qK, qN, qX⟩ := q
    exact ⟨q0, qP, va_K.moved (u := U) (U := U.calling gg mk x) (Vm.Alike.refl U.vm) qK, NN.same (s := U) (U := U.calling gg mk x) rfl qN, XS.same (s := U) (U := U.calling gg mk x) rfl qX⟩
  · exact recv_M okC_93_101 hK hP (ci := 0) rfl cls_0
  · exact fun U hU hW => ⟨rfl, by rw [hU]; exact hP, va_K.moved hW.alike hK, hN.warm hW, by rw [hU]; exact hXS.warm hW⟩
