/-! THE CLAIM OUT OF ONE WALK OF THE LAW'S BODY. Your part is whole_start (and what it stands on); all else here is the same for every law, but numbers. -/
def R_law : String := "TroughTreatyLaw"
def lw_P (b : Addr) (xs : List Int32) (args : Array Value) (s : State) : Prop := args = #[.ref b] ∧ s.IntsAt b xs ∧ xs.length ≤ 3072 ∧ (Jvm.Cond.and given_1 narrow_1).before args s = true
def lw_Q (_ : Array Value) (s : State) (o : Outcome) (t : State) : Prop := o = .returned (some (.int 1)) ∧ Framed s o t [] 1166 12582
def lw_Z (below : List Frame) (a : Array Value) (s : State) : State → Prop := fun t => ∃ o, t.status = .running ∧ Ended t below o ∧ lw_Q a s o t
/-- the law's own end, with 1 on the stack, nothing written that was there before, its room as the claim has it -/
theorem lw_ret {p : Program} {l : Launch} {e : Env} {s : State} {m : MethodId} {below : List Frame} {meth : Method} {c : Code} {b : Nat} (hx : p.tables.exec = Jvm.exec) (hb : c.code = code) (hr : meth.sig.returnType = ret) (hlocks : meth.locks = false) {pc : Nat} {H : Heap} {ls : Array Slot} (hdg : decode code pc = .ok (.ireturn, 1)) : W p l e room_1 s m #[Value.ref b] below meth c H [] 1166 12582 (lw_Z below #[Value.ref b] s) (F0 m pc ls [.int 1]) := by
  intro T hT X
  obtain ⟨fs, hret, hrun, hended, hW, hframe⟩ := X.leave (v := some (.int 1)) (hlocks := hlocks) (fun h => by rw [hr] at h; cases h)
  have hmeth' : T.vm.method? m = some meth := X.method'
  refine ⟨T.setFrames fs, ?_, .returned (some (.int 1)), hrun, hended, rfl, ⟨_, rfl⟩, hW, hframe⟩
  jvm_step X.here [X.here.top, hx, hb, hdg, hmeth', hr, ret, narrow_b1]
  (try refine ⟨rfl, ?_⟩); (try refine ⟨rfl, ?_⟩)
  first | (intro acts; rw [hret _ acts rfl rfl rfl]) | rw [hret _ _ rfl rfl rfl]
  exact Steps.refl _
/-- what holds at the law's entry: the machine, the code, the tables' words (any of lw_tbl by 'hts w (by decide +kernel)'), the script of L ints xs at the cell b, what the Statement gives of the start (any of its parts by flat_of_before) -/
def lw_At (p : Program) (s : State) (m : MethodId) (meth : Method) (c : Code) (b L : Nat) (xs : Nat → Int32) : Prop :=
  p.tables.exec = Jvm.exec ∧ c.code = code ∧ meth.sig.returnType = ret ∧ c.maxLocals = 7 ∧ s.vm.findClass R_law = some m.cls ∧ (∀ w ∈ lw_tbl, w.before #[Value.ref b] s = true) ∧ va_X b L xs s s.heap ∧ b < s.heap.size ∧ meth.locks = false ∧ (Jvm.Cond.and given_1 narrow_1).before #[Value.ref b] s = true
/-! the loop of the law and its start (written by wip/whole/start.py) -/
def h00 : Hp := (fun _ _ => 0, fun _ _ => 0)
def INI (Rel : Hp → Hp → Prop) : Prop := ∃ hC hR, kf_Tt_init_0 (zc h00 0) = some hC ∧ kf_Md_init_0 (zc h00 0) = some hR ∧ Rel hC hR
def CE (E : En) (b : Nat) : Prop := match E with
  | (p, e, R, s, m, args, below, meth, c, Q) => R = room_1 ∧ args = #[Value.ref b] ∧ Q = lw_Z below #[Value.ref b] s ∧ meth.sig.returnType = ret ∧ meth.locks = false
theorem l_end {E : En} {g : Gl} {z k w b L : Nat} {xs : Nat → Int32} {ls : List (Nat × Value)} {hC hR : Hp} {fo : Nat → Int64} (X : CLw E g z b L xs) (Y : CE E b) (hw : k ≤ 1166 ∧ w ≤ 12582) : VL E g z k w 1618 ls [.int 1] hC hR fo := by
  obtain ⟨p, e, R, s, m, args, below, meth, c0, Q⟩ := E
  obtain ⟨hx, hb, hml, hown, hts, hK, hN, hF, hL, hc, hsl, hXS, hst, hX, hbl, hz⟩ := X
  obtain ⟨rfl, rfl, rfl, hr, hlocks⟩ := Y
  intro H locs la hP hPR hO hS hl
  refine va_forget (fun q hq => by have := hS.2.2 q hq; rw [hz]; exact this) ?_
  refine W.widen hw.1 hw.2 ?_
  exact lw_ret hx hb hr hlocks (by decide +kernel)
theorem sixj {n L j : Nat} (h : 6 * n + 6 ≤ L) (hL : L ≤ 3072) (hj : j < 6) : vp_in (nI (6 * n) + nI j) L := by
  rw [nI_add]
  exact vp_in_nI (by omega) (by omega)
theorem d40 : decode code 40 = .ok (.tableswitch 1571 0 41 #[184, 257, 282, 307, 344, 412, 449, 487, 524, 561, 598, 623, 672, 697, 722, 771, 796, 833, 858, 883, 908, 945, 994, 1032, 1069, 1082, 1095, 1120, 1157, 1182, 1195, 1220, 1245, 1322, 1347, 1372, 1397, 1458, 1507, 1520, 1533, 1546], 184) := by decide +kernel
set_option maxRecDepth 8000 in
set_option maxHeartbeats 4000000 in
theorem l_round {E : En} {g : Gl} {z k w b L : Nat} {xs : Nat → Int32} {x4 : Int32} {hC hR : Hp} {fo : Nat → Int64} {Rel : Hp → Hp → Prop} (X : CLw E g z b L xs) (hw : k + 2 ≤ 1166 ∧ w + 16 ≤ 12582) (hsp : SPs Rel) (hr0 : Rel hC hR) {a0 : Int32} (i0 : vp_in (x4) L) (e0 : a0 = xs (x4).toNatClampNeg) {a1 : Int32} (i1 : vp_in (x4 + (1 : Int32)) L) (e1 : a1 = xs (x4 + (1 : Int32)).toNatClampNeg) {a2 : Int32} (i2 : vp_in (x4 + (2 : Int32)) L) (e2 : a2 = xs (x4 + (2 : Int32)).toNatClampNeg) {a3 : Int32} (i3 : vp_in (x4 + (3 : Int32)) L) (e3 : a3 = xs (x4 + (3 : Int32)).toNatClampNeg) {a4 : Int32} (i4 : vp_in (x4 + (4 : Int32)) L) (e4 : a4 = xs (x4 + (4 : Int32)).toNatClampNeg) {a5 : Int32} (i5 : vp_in (x4 + (5 : Int32)) L) (e5 : a5 = xs (x4 + (5 : Int32)).toNatClampNeg)
    (kk : ∀ (hC2 hR2 : Hp) (fo2 : Nat → Int64), Rel hC2 hR2 → VL E g z (k + 2) (w + 16) 1611 (LL z b x4) [] hC2 hR2 fo2) : VL E g z k w 33 (LL z b x4) [] hC hR fo := by
  refine l_aload_n (pc := 33) (i := 0) X (by decide +kernel) 4 rfl ?_
  refine l_iload (pc := 34) (i := 4) X (by decide +kernel) 0 rfl ?_
  refine l_sld (pc := 36) (a := a0) X i0 e0 (by decide +kernel) ?_
  refine l_bipush (pc := 37) (n0 := 63) (x := 63) X (by decide +kernel) (by decide) ?_
  refine l_iand (pc := 39) X (by decide +kernel) ?_
  generalize hv : a0 &&& 63 = v
  by_cases q0 : v = (0 : Int32)
  · refine l_tin (pc := 40) (off := 184) (tgt := 224) X d40 q0 (by decide) (by decide) (by decide) (by decide) ?_
    exact lc_feed X hw (hsp.2.1) hr0 i1 e1 i2 e2 i3 e3 i4 e4 i5 e5 kk
  by_cases q1 : v = (1 : Int32)
  · refine l_tin (pc := 40) (off := 257) (tgt := 297) X d40 q1 (by decide) (by decide) (by decide) (by decide) ?_
    exact lc_text X hw (hsp.2.2.1) hr0 i1 e1 kk
  by_cases q2 : v = (2 : Int32)
  · refine l_tin (pc := 40) (off := 282) (tgt := 322) X d40 q2 (by decide) (by decide) (by decide) (by decide) ?_
    exact lc_fault X hw (hsp.2.2.2.1) hr0 i1 e1 kk
  by_cases q3 : v = (3 : Int32)
  · refine l_tin (pc := 40) (off := 307) (tgt := 347) X d40 q3 (by decide) (by decide) (by decide) (by decide) ?_
    exact lc_named X hw (hsp.2.2.2.2.1) hr0 i1 e1 i2 e2 kk
  by_cases q4 : v = (4 : Int32)
  · refine l_tin (pc := 40) (off := 344) (tgt := 384) X d40 q4 (by decide) (by decide) (by decide) (by decide) ?_
    exact lc_horse X hw (hsp.1) hr0 i1 e1 i2 e2 kk
  by_cases q5 : v = (5 : Int32)
  · refine l_tin (pc := 40) (off := 412) (tgt := 452) X d40 q5 (by decide) (by decide) (by decide) (by decide) ?_
    exact lc_trough X hw (hsp.2.2.2.2.2.1) hr0 i1 e1 i2 e2 kk
  by_cases q6 : v = (6 : Int32)
  · refine l_tin (pc := 40) (off := 449) (tgt := 489) X d40 q6 (by decide) (by decide) (by decide) (by decide) ?_
    exact lc_law X hw (hsp.2.2.2.2.2.2.1) hr0 i1 e1 i2 e2 kk
  by_cases q7 : v = (7 : Int32)
  · refine l_tin (pc := 40) (off := 487) (tgt := 527) X d40 q7 (by decide) (by decide) (by decide) (by decide) ?_
    exact lc_send X hw (hsp.2.2.2.2.2.2.2.1) hr0 i1 e1 i2 e2 kk
  by_cases q8 : v = (8 : Int32)
  · refine l_tin (pc := 40) (off := 524) (tgt := 564) X d40 q8 (by decide) (by decide) (by decide) (by decide) ?_
    exact lc_fill X hw (hsp.2.2.2.2.2.2.2.2.1) hr0 i1 e1 i2 e2 kk
  by_cases q9 : v = (9 : Int32)
  · refine l_tin (pc := 40) (off := 561) (tgt := 601) X d40 q9 (by decide) (by decide) (by decide) (by decide) ?_
    exact lc_lead X hw (hsp.2.2.2.2.2.2.2.2.2.1) hr0 i1 e1 i2 e2 kk
  by_cases q10 : v = (10 : Int32)
  · refine l_tin (pc := 40) (off := 598) (tgt := 638) X d40 q10 (by decide) (by decide) (by decide) (by decide) ?_
    exact lc_go X hw (hsp.2.2.2.2.2.2.2.2.2.2.1) hr0 i1 e1 kk
  by_cases q11 : v = (11 : Int32)
  · refine l_tin (pc := 40) (off := 623) (tgt := 663) X d40 q11 (by decide) (by decide) (by decide) (by decide) ?_
    exact lc_ahead X hw (hsp.2.2.2.2.2.2.2.2.2.2.2.1) hr0 i1 e1 i2 e2 i3 e3 kk
  by_cases q12 : v = (12 : Int32)
  · refine l_tin (pc := 40) (off := 672) (tgt := 712) X d40 q12 (by decide) (by decide) (by decide) (by decide) ?_
    exact lc_falls X hw (hsp.2.2.2.2.2.2.2.2.2.2.2.2.1) hr0 i1 e1 kk
  by_cases q13 : v = (13 : Int32)
  · refine l_tin (pc := 40) (off := 697) (tgt := 737) X d40 q13 (by decide) (by decide) (by decide) (by decide) ?_
    exact lc_nextFight X hw (hsp.2.2.2.2.2.2.2.2.2.2.2.2.2.1) hr0 i1 e1 kk
  by_cases q14 : v = (14 : Int32)
  · refine l_tin (pc := 40) (off := 722) (tgt := 762) X d40 q14 (by decide) (by decide) (by decide) (by decide) ?_
    exact lc_sendIn X hw (hsp.2.2.2.2.2.2.2.2.2.2.2.2.2.2.1) hr0 i1 e1 i2 e2 i3 e3 kk
  by_cases q15 : v = (15 : Int32)
  · refine l_tin (pc := 40) (off := 771) (tgt := 811) X d40 q15 (by decide) (by decide) (by decide) (by decide) ?_
    exact lc_pump X hw (hsp.2.2.2.2.2.2.2.2.2.2.2.2.2.2.2.1) hr0 i1 e1 kk
  by_cases q16 : v = (16 : Int32)
  · refine l_tin (pc := 40) (off := 796) (tgt := 836) X d40 q16 (by decide) (by decide) (by decide) (by decide) ?_
    exact lc_stops X hw (hsp.2.2.2.2.2.2.2.2.2.2.2.2.2.2.2.2.1) hr0 i1 e1 i2 e2 kk
  by_cases q17 : v = (17 : Int32)
  · refine l_tin (pc := 40) (off := 833) (tgt := 873) X d40 q17 (by decide) (by decide) (by decide) (by decide) ?_
    exact lc_reach X hw (hsp.2.2.2.2.2.2.2.2.2.2.2.2.2.2.2.2.2.1) hr0 i1 e1 kk
  by_cases q18 : v = (18 : Int32)
  · refine l_tin (pc := 40) (off := 858) (tgt := 898) X d40 q18 (by decide) (by decide) (by decide) (by decide) ?_
    exact lc_cover X hw (hsp.2.2.2.2.2.2.2.2.2.2.2.2.2.2.2.2.2.2.1) hr0 i1 e1 kk
  by_cases q19 : v = (19 : Int32)
  · refine l_tin (pc := 40) (off := 883) (tgt := 923) X d40 q19 (by decide) (by decide) (by decide) (by decide) ?_
    exact lc_round X hw (hsp.2.2.2.2.2.2.2.2.2.2.2.2.2.2.2.2.2.2.2.1) hr0 i1 e1 kk
  by_cases q20 : v = (20 : Int32)
  · refine l_tin (pc := 40) (off := 908) (tgt := 948) X d40 q20 (by decide) (by decide) (by decide) (by decide) ?_
    exact lc_rests X hw (hsp.2.2.2.2.2.2.2.2.2.2.2.2.2.2.2.2.2.2.2.2.1) hr0 i1 e1 i2 e2 kk
  by_cases q21 : v = (21 : Int32)
  · refine l_tin (pc := 40) (off := 945) (tgt := 985) X d40 q21 (by decide) (by decide) (by decide) (by decide) ?_
    exact lc_rest X hw (hsp.2.2.2.2.2.2.2.2.2.2.2.2.2.2.2.2.2.2.2.2.2.1) hr0 i1 e1 i2 e2 i3 e3 kk
  by_cases q22 : v = (22 : Int32)
  · refine l_tin (pc := 40) (off := 994) (tgt := 1034) X d40 q22 (by decide) (by decide) (by decide) (by decide) ?_
    exact lc_staysDry X hw (hsp.2.2.2.2.2.2.2.2.2.2.2.2.2.2.2.2.2.2.2.2.2.2.1) hr0 i1 e1 i2 e2 kk
  by_cases q23 : v = (23 : Int32)
  · refine l_tin (pc := 40) (off := 1032) (tgt := 1072) X d40 q23 (by decide) (by decide) (by decide) (by decide) ?_
    exact lc_peace X hw (hsp.2.2.2.2.2.2.2.2.2.2.2.2.2.2.2.2.2.2.2.2.2.2.2.1) hr0 i1 e1 i2 e2 kk
  by_cases q24 : v = (24 : Int32)
  · refine l_tin (pc := 40) (off := 1069) (tgt := 1109) X d40 q24 (by decide) (by decide) (by decide) (by decide) ?_
    exact lc_thirstiest X hw (hsp.2.2.2.2.2.2.2.2.2.2.2.2.2.2.2.2.2.2.2.2.2.2.2.2.1) hr0 kk
  by_cases q25 : v = (25 : Int32)
  · refine l_tin (pc := 40) (off := 1082) (tgt := 1122) X d40 q25 (by decide) (by decide) (by decide) (by decide) ?_
    exact lc_driest X hw (hsp.2.2.2.2.2.2.2.2.2.2.2.2.2.2.2.2.2.2.2.2.2.2.2.2.2.1) hr0 kk
  by_cases q26 : v = (26 : Int32)
  · refine l_tin (pc := 40) (off := 1095) (tgt := 1135) X d40 q26 (by decide) (by decide) (by decide) (by decide) ?_
    exact lc_nearest X hw (hsp.2.2.2.2.2.2.2.2.2.2.2.2.2.2.2.2.2.2.2.2.2.2.2.2.2.2.1) hr0 i1 e1 kk
  by_cases q27 : v = (27 : Int32)
  · refine l_tin (pc := 40) (off := 1120) (tgt := 1160) X d40 q27 (by decide) (by decide) (by decide) (by decide) ?_
    exact lc_meet X hw (hsp.2.2.2.2.2.2.2.2.2.2.2.2.2.2.2.2.2.2.2.2.2.2.2.2.2.2.2.1) hr0 i1 e1 i2 e2 kk
  by_cases q28 : v = (28 : Int32)
  · refine l_tin (pc := 40) (off := 1157) (tgt := 1197) X d40 q28 (by decide) (by decide) (by decide) (by decide) ?_
    exact lc_gather X hw (hsp.2.2.2.2.2.2.2.2.2.2.2.2.2.2.2.2.2.2.2.2.2.2.2.2.2.2.2.2.1) hr0 i1 e1 kk
  by_cases q29 : v = (29 : Int32)
  · refine l_tin (pc := 40) (off := 1182) (tgt := 1222) X d40 q29 (by decide) (by decide) (by decide) (by decide) ?_
    exact lc_sides X hw (hsp.2.2.2.2.2.2.2.2.2.2.2.2.2.2.2.2.2.2.2.2.2.2.2.2.2.2.2.2.2.1) hr0 kk
  by_cases q30 : v = (30 : Int32)
  · refine l_tin (pc := 40) (off := 1195) (tgt := 1235) X d40 q30 (by decide) (by decide) (by decide) (by decide) ?_
    exact lc_enemies X hw (hsp.2.2.2.2.2.2.2.2.2.2.2.2.2.2.2.2.2.2.2.2.2.2.2.2.2.2.2.2.2.2.1) hr0 i1 e1 kk
  by_cases q31 : v = (31 : Int32)
  · refine l_tin (pc := 40) (off := 1220) (tgt := 1260) X d40 q31 (by decide) (by decide) (by decide) (by decide) ?_
    exact lc_runsDry X hw (hsp.2.2.2.2.2.2.2.2.2.2.2.2.2.2.2.2.2.2.2.2.2.2.2.2.2.2.2.2.2.2.2.1) hr0 i1 e1 kk
  by_cases q32 : v = (32 : Int32)
  · refine l_tin (pc := 40) (off := 1245) (tgt := 1285) X d40 q32 (by decide) (by decide) (by decide) (by decide) ?_
    exact lc_see X hw (hsp.2.2.2.2.2.2.2.2.2.2.2.2.2.2.2.2.2.2.2.2.2.2.2.2.2.2.2.2.2.2.2.2.1) hr0 i1 e1 i2 e2 i3 e3 i4 e4 kk
  by_cases q33 : v = (33 : Int32)
  · refine l_tin (pc := 40) (off := 1322) (tgt := 1362) X d40 q33 (by decide) (by decide) (by decide) (by decide) ?_
    exact lc_strike X hw (hsp.2.2.2.2.2.2.2.2.2.2.2.2.2.2.2.2.2.2.2.2.2.2.2.2.2.2.2.2.2.2.2.2.2.1) hr0 i1 e1 kk
  by_cases q34 : v = (34 : Int32)
  · refine l_tin (pc := 40) (off := 1347) (tgt := 1387) X d40 q34 (by decide) (by decide) (by decide) (by decide) ?_
    exact lc_known X hw (hsp.2.2.2.2.2.2.2.2.2.2.2.2.2.2.2.2.2.2.2.2.2.2.2.2.2.2.2.2.2.2.2.2.2.2.1) hr0 i1 e1 kk
  by_cases q35 : v = (35 : Int32)
  · refine l_tin (pc := 40) (off := 1372) (tgt := 1412) X d40 q35 (by decide) (by decide) (by decide) (by decide) ?_
    exact lc_thirsts X hw (hsp.2.2.2.2.2.2.2.2.2.2.2.2.2.2.2.2.2.2.2.2.2.2.2.2.2.2.2.2.2.2.2.2.2.2.2.1) hr0 i1 e1 kk
  by_cases q36 : v = (36 : Int32)
  · refine l_tin (pc := 40) (off := 1397) (tgt := 1437) X d40 q36 (by decide) (by decide) (by decide) (by decide) ?_
    exact lc_chance X hw (hsp.2.2.2.2.2.2.2.2.2.2.2.2.2.2.2.2.2.2.2.2.2.2.2.2.2.2.2.2.2.2.2.2.2.2.2.2.1) hr0 i1 e1 i2 e2 i3 e3 i4 e4 kk
  by_cases q37 : v = (37 : Int32)
  · refine l_tin (pc := 40) (off := 1458) (tgt := 1498) X d40 q37 (by decide) (by decide) (by decide) (by decide) ?_
    exact lc_tried X hw (hsp.2.2.2.2.2.2.2.2.2.2.2.2.2.2.2.2.2.2.2.2.2.2.2.2.2.2.2.2.2.2.2.2.2.2.2.2.2.1) hr0 i1 e1 i2 e2 i3 e3 kk
  by_cases q38 : v = (38 : Int32)
  · refine l_tin (pc := 40) (off := 1507) (tgt := 1547) X d40 q38 (by decide) (by decide) (by decide) (by decide) ?_
    exact lc_undo X hw (hsp.2.2.2.2.2.2.2.2.2.2.2.2.2.2.2.2.2.2.2.2.2.2.2.2.2.2.2.2.2.2.2.2.2.2.2.2.2.2.1) hr0 kk
  by_cases q39 : v = (39 : Int32)
  · refine l_tin (pc := 40) (off := 1520) (tgt := 1560) X d40 q39 (by decide) (by decide) (by decide) (by decide) ?_
    exact lc_keep X hw (hsp.2.2.2.2.2.2.2.2.2.2.2.2.2.2.2.2.2.2.2.2.2.2.2.2.2.2.2.2.2.2.2.2.2.2.2.2.2.2.2.1) hr0 kk
  by_cases q40 : v = (40 : Int32)
  · refine l_tin (pc := 40) (off := 1533) (tgt := 1573) X d40 q40 (by decide) (by decide) (by decide) (by decide) ?_
    exact lc_back X hw (hsp.2.2.2.2.2.2.2.2.2.2.2.2.2.2.2.2.2.2.2.2.2.2.2.2.2.2.2.2.2.2.2.2.2.2.2.2.2.2.2.2.1) hr0 kk
  by_cases q41 : v = (41 : Int32)
  · refine l_tin (pc := 40) (off := 1546) (tgt := 1586) X d40 q41 (by decide) (by decide) (by decide) (by decide) ?_
    exact lc_count X hw (hsp.2.2.2.2.2.2.2.2.2.2.2.2.2.2.2.2.2.2.2.2.2.2.2.2.2.2.2.2.2.2.2.2.2.2.2.2.2.2.2.2.2) hr0 i1 e1 kk
  refine l_tout (pc := 40) (tgt := 1611) X d40 (t_out (lo := 0) (hi := 41) [(0 : Int32), (1 : Int32), (2 : Int32), (3 : Int32), (4 : Int32), (5 : Int32), (6 : Int32), (7 : Int32), (8 : Int32), (9 : Int32), (10 : Int32), (11 : Int32), (12 : Int32), (13 : Int32), (14 : Int32), (15 : Int32), (16 : Int32), (17 : Int32), (18 : Int32), (19 : Int32), (20 : Int32), (21 : Int32), (22 : Int32), (23 : Int32), (24 : Int32), (25 : Int32), (26 : Int32), (27 : Int32), (28 : Int32), (29 : Int32), (30 : Int32), (31 : Int32), (32 : Int32), (33 : Int32), (34 : Int32), (35 : Int32), (36 : Int32), (37 : Int32), (38 : Int32), (39 : Int32), (40 : Int32), (41 : Int32)] (by decide) (List.forall_mem_cons.mpr ⟨q0, List.forall_mem_cons.mpr ⟨q1, List.forall_mem_cons.mpr ⟨q2, List.forall_mem_cons.mpr ⟨q3, List.forall_mem_cons.mpr ⟨q4, List.forall_mem_cons.mpr ⟨q5, List.forall_mem_cons.mpr ⟨q6, List.forall_mem_cons.mpr ⟨q7, List.forall_mem_cons.mpr ⟨q8, List.forall_mem_cons.mpr ⟨q9, List.forall_mem_cons.mpr ⟨q10, List.forall_mem_cons.mpr ⟨q11, List.forall_mem_cons.mpr ⟨q12, List.forall_mem_cons.mpr ⟨q13, List.forall_mem_cons.mpr ⟨q14, List.forall_mem_cons.mpr ⟨q15, List.forall_mem_cons.mpr ⟨q16, List.forall_mem_cons.mpr ⟨q17, List.forall_mem_cons.mpr ⟨q18, List.forall_mem_cons.mpr ⟨q19, List.forall_mem_cons.mpr ⟨q20, List.forall_mem_cons.mpr ⟨q21, List.forall_mem_cons.mpr ⟨q22, List.forall_mem_cons.mpr ⟨q23, List.forall_mem_cons.mpr ⟨q24, List.forall_mem_cons.mpr ⟨q25, List.forall_mem_cons.mpr ⟨q26, List.forall_mem_cons.mpr ⟨q27, List.forall_mem_cons.mpr ⟨q28, List.forall_mem_cons.mpr ⟨q29, List.forall_mem_cons.mpr ⟨q30, List.forall_mem_cons.mpr ⟨q31, List.forall_mem_cons.mpr ⟨q32, List.forall_mem_cons.mpr ⟨q33, List.forall_mem_cons.mpr ⟨q34, List.forall_mem_cons.mpr ⟨q35, List.forall_mem_cons.mpr ⟨q36, List.forall_mem_cons.mpr ⟨q37, List.forall_mem_cons.mpr ⟨q38, List.forall_mem_cons.mpr ⟨q39, List.forall_mem_cons.mpr ⟨q40, List.forall_mem_cons.mpr ⟨q41, fun _ h => absurd h List.not_mem_nil⟩⟩⟩⟩⟩⟩⟩⟩⟩⟩⟩⟩⟩⟩⟩⟩⟩⟩⟩⟩⟩⟩⟩⟩⟩⟩⟩⟩⟩⟩⟩⟩⟩⟩⟩⟩⟩⟩⟩⟩⟩⟩)) (by decide) ?_
  exact l_widen (by omega) (by omega) (kk _ _ _ hr0)
theorem l_loop {E : En} {g : Gl} {z b L : Nat} {xs : Nat → Int32} {Rel : Hp → Hp → Prop} (hL : L ≤ 3072) (X : CLw E g z b L xs) (Y : CE E b) (hsp : SPs Rel) : ∀ (f n : Nat) (hC hR : Hp) (fo : Nat → Int64), 513 - n ≤ f → 6 * n ≤ L + 6 → n ≤ 512 → Rel hC hR → VL E g z (140 + 2 * n) (4378 + 16 * n) 23 (LL z b (nI (6 * n))) [] hC hR fo := by
  intro f
  induction f with
  | zero => intro n hC hR fo h1 h2 h3 _; omega
  | succ f ih =>
    intro n hC hR fo h1 h2 h3 hr0
    have eL : Int32.ofNat L = nI L := rfl
    refine l_iload (pc := 23) (i := 4) X (by decide +kernel) 0 rfl ?_
    refine l_aload_n (pc := 25) (i := 0) X (by decide +kernel) 4 rfl ?_
    refine l_slen (pc := 26) X (by decide +kernel) ?_
    refine l_bipush (pc := 27) (n0 := 6) (x := nI 6) X (by decide +kernel) (by decide) ?_
    refine l_isub (pc := 29) X (by decide +kernel) ?_
    have hc : (Int32.ofNat L - nI 6 < nI (6 * n)) ↔ (L < 6 * n + 6) := by
      rw [Int32.lt_iff_toInt_lt, eL, pk_sub_toInt (by omega) (by omega), nI_toInt (by omega)]
      omega
    refine l_icmp_gt (pc := 30) (off := 1587) (tgt := 1617) X (by decide +kernel) (by decide) (fun q => ?_) (fun q => ?_)
    · refine l_iconst (pc := 1617) (n0 := 1) X (by decide +kernel) ic_1 ?_
      exact l_end X Y ⟨by omega, by omega⟩
    · have h6 : 6 * n + 6 ≤ L := by
        rcases Nat.lt_or_ge L (6 * n + 6) with t | t
        · exact absurd (hc.mpr t) q
        · exact t
      have i0 : vp_in (nI (6 * n)) L := vp_in_nI (by omega) (by omega)
      refine l_round X ⟨by omega, by omega⟩ hsp hr0 i0 rfl (sixj (j := 1) h6 hL (by omega)) rfl (sixj (j := 2) h6 hL (by omega)) rfl (sixj (j := 3) h6 hL (by omega)) rfl (sixj (j := 4) h6 hL (by omega)) rfl (sixj (j := 5) h6 hL (by omega)) rfl (fun hC2 hR2 fo2 hr2 => ?_)
      refine l_iinc (pc := 1611) (i := 4) (n0 := 6) (y := nI (6 * (n + 1))) (lv' := LL z b (nI (6 * (n + 1)))) X (by decide +kernel) 0 rfl ?_ (by decide) rfl ?_
      · show nI (6 * n) + nI 6 = nI (6 * (n + 1))
        rw [nI_add]
        congr 1
      · refine l_goto (pc := 1614) (off := -1591) (tgt := 23) X (by decide +kernel) (by decide) ?_
        exact ih (n + 1) hC2 hR2 fo2 (by omega) (by omega) (by omega) hr2
