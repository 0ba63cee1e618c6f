/-! from the entry of the law to its loop (written by wip/whole/start2.py) -/
theorem iq_0 : Cond.instantiable RC0 12 ∈ GW := gw_in 139 (by decide +kernel) rfl
theorem iq_1 : Cond.instantiable RC1 4 ∈ GW := gw_in 664 (by decide +kernel) rfl
theorem iq_2 : Cond.instantiable RC2 6 ∈ GW := gw_in 552 (by decide +kernel) rfl
theorem iq_3 : Cond.instantiable RC3 6 ∈ GW := gw_in 637 (by decide +kernel) rfl
theorem iq_4 : Cond.instantiable RC4 5 ∈ GW := gw_in 611 (by decide +kernel) rfl
theorem iq_5 : Cond.instantiable RC5 6 ∈ GW := gw_in 408 (by decide +kernel) rfl
theorem iq_6 : Cond.instantiable RC6 6 ∈ GW := gw_in 159 (by decide +kernel) rfl
theorem iq_7 : Cond.instantiable RC7 20 ∈ GW := gw_in 153 (by decide +kernel) rfl
theorem iq_8 : Cond.instantiable RC8 8 ∈ GW := gw_in 319 (by decide +kernel) rfl
theorem iq_9 : Cond.instantiable RC9 8 ∈ GW := gw_in 578 (by decide +kernel) rfl
theorem iq_10 : Cond.instantiable RC10 7 ∈ GW := gw_in 147 (by decide +kernel) rfl
theorem iq_11 : Cond.instantiable RC11 15 ∈ GW := gw_in 460 (by decide +kernel) rfl
theorem iq_12 : Cond.instantiable RC12 84 ∈ GW := gw_in 1500 (by decide +kernel) rfl
theorem SS.narrow {z z2 a v : Nat} {U : State} {H : Heap} (h : SS z a v U H) (hq : ∀ q, z2 ≤ q → z ≤ q) : SS z2 a v U H := by
  refine ⟨h.1.narrow hq, h.2.1.narrow hq, h.2.2.1, ?_⟩
  rcases h.2.2.2 with q | ⟨t, q⟩
  · exact Or.inl (q.narrow hq)
  · exact Or.inr ⟨t, q.narrow hq⟩
theorem known_all {s : State} {args : Array Value} (hts : ∀ w ∈ GW, w.before args s = true) : ∃ (dC : Nat → ClassId) (dI : Nat → Nat → Nat), ∀ (k : Nat) (q : vw_C), classes[k]? = some q → u_Kn s q.1 q.2.1 q.2.2 (dC k) (dI k) := by
  have h : ∀ k : Nat, ∃ x : ClassId × (Nat → Nat), ∀ q : vw_C, classes[k]? = some q → u_Kn s q.1 q.2.1 q.2.2 x.1 x.2 := by
    intro k
    by_cases k0 : k = 0
    · obtain ⟨cC, iS, h⟩ := u_known (C := RC0) (T := F_0) (N := 12) (n := 12) hts cls_0.2.2.2.1 (hts _ iq_0)
      exact ⟨(cC, iS), fun q hq => by rw [k0, cls_0.1] at hq; cases hq; exact h⟩
    by_cases k1 : k = 1
    · obtain ⟨cC, iS, h⟩ := u_known (C := RC1) (T := F_1) (N := 4) (n := 4) hts cls_1.2.2.2.1 (hts _ iq_1)
      exact ⟨(cC, iS), fun q hq => by rw [k1, cls_1.1] at hq; cases hq; exact h⟩
    by_cases k2 : k = 2
    · obtain ⟨cC, iS, h⟩ := u_known (C := RC2) (T := F_2) (N := 6) (n := 6) hts cls_2.2.2.2.1 (hts _ iq_2)
      exact ⟨(cC, iS), fun q hq => by rw [k2, cls_2.1] at hq; cases hq; exact h⟩
    by_cases k3 : k = 3
    · obtain ⟨cC, iS, h⟩ := u_known (C := RC3) (T := F_3) (N := 6) (n := 6) hts cls_3.2.2.2.1 (hts _ iq_3)
      exact ⟨(cC, iS), fun q hq => by rw [k3, cls_3.1] at hq; cases hq; exact h⟩
    by_cases k4 : k = 4
    · obtain ⟨cC, iS, h⟩ := u_known (C := RC4) (T := F_4) (N := 5) (n := 5) hts cls_4.2.2.2.1 (hts _ iq_4)
      exact ⟨(cC, iS), fun q hq => by rw [k4, cls_4.1] at hq; cases hq; exact h⟩
    by_cases k5 : k = 5
    · obtain ⟨cC, iS, h⟩ := u_known (C := RC5) (T := F_5) (N := 6) (n := 6) hts cls_5.2.2.2.1 (hts _ iq_5)
      exact ⟨(cC, iS), fun q hq => by rw [k5, cls_5.1] at hq; cases hq; exact h⟩
    by_cases k6 : k = 6
    · obtain ⟨cC, iS, h⟩ := u_known (C := RC6) (T := F_6) (N := 6) (n := 6) hts cls_6.2.2.2.1 (hts _ iq_6)
      exact ⟨(cC, iS), fun q hq => by rw [k6, cls_6.1] at hq; cases hq; exact h⟩
    by_cases k7 : k = 7
    · obtain ⟨cC, iS, h⟩ := u_known (C := RC7) (T := F_7) (N := 20) (n := 20) hts cls_7.2.2.2.1 (hts _ iq_7)
      exact ⟨(cC, iS), fun q hq => by rw [k7, cls_7.1] at hq; cases hq; exact h⟩
    by_cases k8 : k = 8
    · obtain ⟨cC, iS, h⟩ := u_known (C := RC8) (T := F_8) (N := 8) (n := 8) hts cls_8.2.2.2.1 (hts _ iq_8)
      exact ⟨(cC, iS), fun q hq => by rw [k8, cls_8.1] at hq; cases hq; exact h⟩
    by_cases k9 : k = 9
    · obtain ⟨cC, iS, h⟩ := u_known (C := RC9) (T := F_9) (N := 8) (n := 8) hts cls_9.2.2.2.1 (hts _ iq_9)
      exact ⟨(cC, iS), fun q hq => by rw [k9, cls_9.1] at hq; cases hq; exact h⟩
    by_cases k10 : k = 10
    · obtain ⟨cC, iS, h⟩ := u_known (C := RC10) (T := F_10) (N := 7) (n := 7) hts cls_10.2.2.2.1 (hts _ iq_10)
      exact ⟨(cC, iS), fun q hq => by rw [k10, cls_10.1] at hq; cases hq; exact h⟩
    by_cases k11 : k = 11
    · obtain ⟨cC, iS, h⟩ := u_known (C := RC11) (T := F_11) (N := 15) (n := 15) hts cls_11.2.2.2.1 (hts _ iq_11)
      exact ⟨(cC, iS), fun q hq => by rw [k11, cls_11.1] at hq; cases hq; exact h⟩
    by_cases k12 : k = 12
    · obtain ⟨cC, iS, h⟩ := u_known (C := RC12) (T := F_12) (N := 84) (n := 84) hts cls_12.2.2.2.1 (hts _ iq_12)
      exact ⟨(cC, iS), fun q hq => by rw [k12, cls_12.1] at hq; cases hq; exact h⟩
    exact ⟨(0, fun _ => 0), fun q hq => by
      have hk : k < 13 := (List.getElem?_eq_some_iff.mp hq).1
      omega⟩
  exact ⟨fun k => (Classical.choose (h k)).1, fun k => (Classical.choose (h k)).2, fun k q hq => Classical.choose_spec (h k) q hq⟩
theorem arr_one {s : State} {args : Array Value} {ty : FieldType} (hp : ∀ C, ty ≠ .object C) (h : (Cond.arrayClass ty).before args s = true) : ∃ cA : ClassId, ArrOfT s cA ty ∧ va_RA s cA ty := by
  obtain ⟨cA, kA, comp, h1, h2, h3⟩ := Cond.arrayClass_spec h
  refine ⟨cA, fun n z => ⟨fun k h => (by cases h), kA, h2, comp, h3⟩, ?_⟩
  cases ty <;> first | exact h1 | exact absurd rfl (hp _)
theorem st_ss {s : State} {b : Nat} (hts : ∀ w ∈ lw_tbl, w.before #[Value.ref b] s = true) (hgv : (Jvm.Cond.and given_1 narrow_1).before #[Value.ref b] s = true) : ∃ a v, SS s.heap.size a v s s.heap := by
  have hs := flat_of_before _ hgv
  have hA : ∀ a : Nat, a < s.heap.size → ¬ (fun q => s.heap.size ≤ q) a := fun a h => Nat.not_le.mpr h
  obtain ⟨adK, adV, h1, h2⟩ := vk_Sof (N := 1) (tm := fun _ => .string RC8 23) (len := [120]) (byt := [lang]) (A := fun q => s.heap.size ≤ q) (fun i hi => by rw [show i = 0 by omega]; decide) (fun i hi => hs _ (by decide +kernel)) (fun i hi => hs _ (by decide +kernel)) (fun i hi => hs _ (by decide +kernel)) (fun i hi => by rw [show i = 0 by omega]; exact hs _ (by decide +kernel)) (fun i hi j hj => by
      rw [show i = 0 by omega] at hj ⊢
      have hj : j < 120 := hj
      exact hs _ ((show ∀ j, j < 120 → Cond.eq (.elem (.field (.string RC8 23) "java/lang/String" "value" "[B") (.int (Int32.ofNat j))) (.int (lang.getD j 0)) ∈ flatC (Jvm.Cond.and given_1 narrow_1) by decide +kernel) j hj)) (fun i j hi hj h => by omega) hA
  have hK : vk_S 1 [120] [lang] (fun _ => adK 0) (fun _ => adV 0) (fun q => s.heap.size ≤ q) s s.heap := ⟨fun i hi => by
    have := h1.1 0 (by decide)
    rw [show i = 0 by omega]
    exact this, fun i j hi hj _ => by omega⟩
  refine ⟨adK 0, adV 0, hK, ?_, ?_, ?_⟩
  · exact va_Zof (hts _ (List.mem_of_getElem? (i := 337) (by decide +kernel))) (hts _ (List.mem_of_getElem? (i := 118) (by decide +kernel))) (va_eqt (hs _ (by decide +kernel))) hA
  · exact vk_R.of (hts _ (List.mem_of_getElem? (i := 327) (by decide +kernel))) (h2 0 (by decide))
  · exact va_Zqof (hts _ (List.mem_of_getElem? (i := 353) (by decide +kernel))) (hts _ (List.mem_of_getElem? (i := 120) (by decide +kernel))) (hs _ (by decide +kernel)) hA
theorem st_xs {s : State} {b : Nat} (hts : ∀ w ∈ lw_tbl, w.before #[Value.ref b] s = true) (hgv : (Jvm.Cond.and given_1 narrow_1).before #[Value.ref b] s = true) : XS s.heap.size s s.heap := by
  have hs := flat_of_before _ hgv
  have hA : ∀ a : Nat, a < s.heap.size → ¬ (fun q => s.heap.size ≤ q) a := fun a h => Nat.not_le.mpr h
  refine ⟨fun w hw => ?_, ?_, ?_, va_Nc.of (hs _ (by decide +kernel))⟩
  · have h1 := hts w (List.mem_filter.mp hw).1
    have h2 := (List.mem_filter.mp hw).2
    cases w <;> first | exact va_Nw.of rfl h1 | (simp [isX] at h2)
  · exact vx_Zqof (hts _ (List.mem_of_getElem? (i := 1449) (by decide +kernel))) (hts _ (List.mem_of_getElem? (i := 132) (by decide +kernel))) (hs _ (by decide +kernel)) hA
  · exact vx_Zqof (hts _ (List.mem_of_getElem? (i := 1451) (by decide +kernel))) (hts _ (List.mem_of_getElem? (i := 132) (by decide +kernel))) (hs _ (by decide +kernel)) hA
theorem w_new {p : Program} {g : Gl} {e : Env} {R : Room} {s : State} {m : MethodId} {args : Array Value} {below : List Frame} {meth : Method} {c : Code} {H : Heap} {locs : List Loc} {k w : Nat} {Q : State → Prop} {cc : ByteArray} {own : String} {pc : Nat} {la : Array Slot} {st : List Value} {d : Dt} {z n r : Nat} {h : Hp} {idx ci N : Nat} {C : String} {T : u_T}
    (hx : p.tables.exec = Jvm.exec) (hb : c.code = cc) (hown : s.vm.findClass own = some m.cls) (hts : ∀ w ∈ GW, w.before args s = true) (hK : va_K g.2.1 classes (tysO g.2.2) s) (hC : CLs ci C T N) (hcl : Cond.classLink own idx C ∈ GW) (hin : Cond.instantiable C N ∈ GW) (hit : Cond.initialized C ∈ GW) (hk : d.1[n]? = some ci) (hr : ∀ j, j < N → pr d r n j = none) (hft : ∀ j, j < N → okT (fty ci j) = true) (hR : k + 1 ≤ R.cells ∧ w + N ≤ R.slots) (hd : decode cc pc = .ok (.new idx, 3)) (hP : KW g d z n r h H)
    (kk : ∀ H1 : Heap, KW g d z (n + 1) r (zc h n) H1 → (∀ q, q < H.size → H1[q]? = H[q]?) → W p g.1 e R s m args below meth c H1 locs (k + 1) (w + N) Q (F0 m (pc + 3) la (.ref (rz z n) :: st))) : W p g.1 e R s m args below meth c H locs k w Q (F0 m pc la st) := by
  obtain ⟨a1, a2, a3, a4, a5, a6, a7⟩ := hC
  have hKn := hK.1 ci _ a1
  refine W.newcK hx hb hown (hts _ hcl) (hts _ hin) (hts _ hit) rfl hd hR.1 hR.2 hKn.2.1 hP.2 fun H1 kC hkC e1 z1 o1 => ?_
  refine kk H1 ⟨?_, by omega⟩ (fun q hq => o1 q (by rw [hP.2] at hq; exact hq))
  rw [wsK_push]
  refine (hP.1.kept (fun i x hx => o1 x.1 (by have := (hP.1 i x hx).lt; have := hP.2; omega))).app (fun i x hx => ?_)
  have hi : i < 1 := (List.getElem?_eq_some_iff.mp hx).1
  rw [show i = 0 by omega] at hx
  cases hx
  rw [ent_K (Nat.lt_succ_self n) hk a3]
  refine ⟨_, a1, (u_born (fty ci) hts a4 hKn hkC e1 a5).to (fun j hj => ?_)⟩
  have hj2 : j < nf ci := by rw [a2]; exact hj
  simp only [vp_V, List.getD_eq_getElem?_getD, List.getElem?_map, List.getElem?_range hj2, Option.map_some, Option.getD_some]
  have hr' : rfs (pt d (n + 1) r) n j = none := hr j hj
  have hq := hft j hj
  unfold fv
  rw [hr']
  generalize fty ci j = ft at hq ⊢
  cases ft <;> first | rfl | cases hq
theorem w_init {p : Program} {g : Gl} {e : Env} {R : Room} {s : State} {m : MethodId} {args : Array Value} {below : List Frame} {meth : Method} {c : Code} {H : Heap} {locs : List Loc} {k w : Nat} {Q : State → Prop} {cc : ByteArray} {nL : Nat} {own : String} {pc : Nat} {la : Array Slot} {rest : List Value} {d : Dt} {z a v n r n' r' : Nat} {h h' : Hp} {idx maxL F1 Lo1 b mc1 ms1 : Nat} {y : MethodName} {bytes : ByteArray} {A0 : Nat → Prop}
    (hx : p.tables.exec = Jvm.exec) (hb : c.code = cc) (hml : c.maxLocals = nL) (hown : s.vm.findClass own = some m.cls) (hts : ∀ w ∈ GW, w.before args s = true) (hK : va_K g.2.1 classes (tysO g.2.2) s) (hN : NN s) (hSS : ∀ U : State, s.WarmedH U.vm → SS z a v U H) (hM : MK g y bytes maxL F1 Lo1 mc1 ms1 d z a v n r [.ref (rz z b)] h n' r' h') (hm : ML own idx y bytes maxL none 0) (hv : Cond.instanceMethod y ∈ GW) (hy : y.name = "<init>") (hR : F1 + 1 ≤ R.frames ∧ 8 + (maxL + 11) + Lo1 ≤ R.locals) (hcs : k + mc1 ≤ R.cells ∧ w + ms1 ≤ R.slots) (hW : (rest.map fun v => v.category).sum ≤ 8) (hd : decode cc pc = .ok (.invokespecial idx, 3)) (hP : KW g d z n r h H) (hS : va_S A0 s.heap H locs) (hA : ∀ q, z ≤ q → A0 q) (hl : la.size = nL)
    (kk : ∀ (H1 : Heap) (locs1 : List Loc), KW g d z n' r' h' H1 → (∀ q, q < H.size → ¬ z ≤ q → H1[q]? = H[q]?) → va_S A0 s.heap H1 locs1 → W p g.1 e R s m args below meth c H1 locs1 (k + mc1) (w + ms1) Q (F0 m (pc + 3) la rest)) : W p g.1 e R s m args below meth c H locs k w Q (F0 m pc la (.ref (rz z b) :: rest)) := by
  obtain ⟨hlk, hin, hco, hok⟩ := hm
  have hrun := va_runI (e := e) (H := H) (locs := locs) (cells := k) (slots := w) (g := F0 m pc la (([] : List Value).reverse ++ .ref (rz z b) :: rest)) (rest := rest) (As := []) (below := below) (meth := meth) ⟨hx, hb, hml, hown, hts⟩ hM ⟨callB_of 0 hts (good_M hco) rfl rfl rfl (hts _ hin) (hts _ hlk) hok hR, hy, hts _ hv⟩ ⟨blind_K, fun U hU hW => ⟨rfl, by rw [hU]; exact hP, va_K.moved hW.alike hK, hN.warm hW, by rw [hU]; exact hSS U hW⟩⟩ rfl rfl hl rfl (lv_room hW) hd hcs
  intro T hT X
  obtain ⟨q0, st₀, t, T', L, h0, X', hL2, e1, e2, ⟨hv2, hP2, hz2, hk2⟩, stp⟩ := hrun T hT X
  cases hv2
  rw [h0] at hz2 hk2
  obtain ⟨t2, a1, b1⟩ := kk T'.heap (locs ++ L) (by rw [e1]; exact hP2) (fun q h1 h2 => by rw [e1]; exact hk2 q h1 h2) ⟨Nat.le_trans hS.1 (by rw [e1]; exact hz2), fun q h1 h2 => by rw [e1, hk2 q (Nat.lt_of_lt_of_le h1 hS.1) (fun q2 => h2 (hA _ q2))]; exact hS.2.1 q h1 h2, fun q hq => by
      rcases List.mem_append.mp hq with h | h
      · exact hS.2.2 q h
      · exact hA _ (hL2 q h)⟩ T' rfl X'
  exact ⟨t2, stp t2 a1, b1⟩
set_option maxRecDepth 50000 in
theorem md_in : Cond.code y_Md_init prog_14_method_1_code 1 none ∈ GW := by
  have h6 : Cond.code y_Md_init prog_14_method_1_code 1 none ∈ tables_1_6 := List.mem_of_getElem? (i := 192) rfl
  refine List.mem_filter.mpr ⟨?_, rfl⟩
  unfold lw_tbl tables_1
  exact List.mem_append_right _ (List.mem_append_right _ (List.mem_append_right _ (List.mem_append_right _ (List.mem_append_right _ (List.mem_append_right _ (List.mem_append_left _ h6))))))
theorem wm_x : ML RL 17 y_Tt_init prog_1_method_1_code 1 none 0 := ⟨gw_in 140 (by decide +kernel) rfl, gw_in 112 (by decide +kernel) rfl, gw_in 142 (by decide +kernel) rfl, ⟨by decide +kernel, by decide +kernel, by decide +kernel⟩⟩
theorem wv_x : Cond.instanceMethod y_Tt_init ∈ GW := gw_in 141 (by decide +kernel) rfl
theorem wi_x : Cond.initialized RC0 ∈ GW := gw_in 112 (by decide +kernel) rfl
theorem wm_m : ML RL 20 y_Md_init prog_14_method_1_code 1 none 0 := ⟨gw_in 1501 (by decide +kernel) rfl, gw_in 131 (by decide +kernel) rfl, md_in, ⟨by decide +kernel, by decide +kernel, by decide +kernel⟩⟩
theorem wv_m : Cond.instanceMethod y_Md_init ∈ GW := gw_in 1502 (by decide +kernel) rfl
theorem wi_m : Cond.initialized RC12 ∈ GW := gw_in 131 (by decide +kernel) rfl
theorem wc_x : Cond.classLink RL 8 RC0 ∈ GW := gw_in 138 (by decide +kernel) rfl
theorem wc_m : Cond.classLink RL 18 RC12 ∈ GW := gw_in 1499 (by decide +kernel) rfl
set_option maxHeartbeats 4000000 in
set_option maxRecDepth 20000 in
/-- the law from its entry, over the steps owed -/
theorem start_of {Rel : Hp → Hp → Prop} (hsp : SPs Rel) (hini : INI Rel) {p : Program} {e : Env} {s : State} {m : MethodId} {below : List Frame} {meth : Method} {c : Code} (l : Launch) (hflags : l.flags = flags0) {b L : Nat} {xs : Nat → Int32} (hL : L ≤ 3072) (C0 : lw_At p s m meth c b L xs) : W p l e room_1 s m #[Value.ref b] below meth c s.heap [] 0 0 (lw_Z below #[Value.ref b] s) (entryFrame m ([Value.ref b] : List Value).toArray 7) := by
  obtain ⟨hx, hb, hr, hml, hown, hts0, hX, hbl, hlocks, hgv⟩ := C0
  have hown : s.vm.findClass RL = some m.cls := hown
  have hts : ∀ w ∈ GW, w.before #[Value.ref b] s = true := fun w hw => hts0 w (List.mem_filter.mp hw).1
  have hN : NN s := fun w hw => by
    have h1 := hts0 w (List.mem_filter.mp hw).1
    have h2 := (List.mem_filter.mp hw).2
    cases w <;> first | exact va_Nw.of rfl h1 | (simp [isNest] at h2)
  obtain ⟨eC0, eI0, hKc⟩ := known_all hts
  obtain ⟨cI, hI⟩ := arr_one (ty := .int) (fun _ h => by cases h) (hts _ ac_int)
  obtain ⟨cB, hB⟩ := arr_one (ty := .byte) (fun _ h => by cases h) (hts _ ac_byte)
  obtain ⟨cZ, hZ⟩ := arr_one (ty := .boolean) (fun _ h => by cases h) (hts _ ac_boolean)
  obtain ⟨cJ, hJ⟩ := arr_one (ty := .long) (fun _ h => by cases h) (hts _ ac_long)
  obtain ⟨av, vv, hSS⟩ := st_ss hts0 hgv
  have hXS := st_xs hts0 hgv
  obtain ⟨hC, hR, eC, eR, hrel⟩ := hini
  obtain ⟨g, hg⟩ : ∃ g : Gl, g = (l, (eC0, eI0), fun i => if i = 0 then cI else if i = 1 then cB else if i = 2 then cZ else cJ) := ⟨_, rfl⟩
  have hK : va_K g.2.1 classes (tysO g.2.2) s := by
    rw [hg]
    refine ⟨hKc, fun k q hk => ?_⟩
    have h4 : k < 4 := (List.getElem?_eq_some_iff.mp hk).1
    rcases (show k = 0 ∨ k = 1 ∨ k = 2 ∨ k = 3 by omega) with rfl | rfl | rfl | rfl <;> cases hk
    · exact hI
    · exact hB
    · exact hZ
    · exact hJ
  have hgl : g.1 = l := by rw [hg]
  have hst : g.1.stackTraces = false := by rw [hgl]; unfold Launch.stackTraces; rw [hflags]; decide +kernel
  have hl := lv_entry [.ref b] (n := 7) (Nat.le_of_ble_eq_true rfl)
  rw [lg_entry_eq]
  generalize (lg_sl [.ref b] ++ List.replicate (7 - (lg_sl [.ref b]).length) Slot.unset).toArray = la at hl ⊢
  have hl : lv_has la 7 [(0, .ref b)] := hl
  obtain ⟨z, hz⟩ : ∃ z, z = s.heap.size := ⟨_, rfl⟩
  rw [← hz] at hSS hXS
  rw [← hgl]
  have hA0 : ∀ q, z ≤ q → (fun q => z ≤ q) q := fun _ h => h
  have hS0 : va_S (fun q => z ≤ q) s.heap s.heap [] := va_S.rf
  have hP0 : KW g dC z 0 0 h00 s.heap := ⟨fun i x hx => by simp [wsO, pt] at hx, by omega⟩
  refine w_new hx hb hown hts hK cls_0 wc_x iq_0 wi_x rfl (by decide +kernel) (by decide +kernel) ⟨by decide, by decide⟩ (by decide +kernel) hP0 (fun H1 hP1 o1 => ?_)
  have hS1 : va_S (fun q => z ≤ q) s.heap H1 [] := ⟨by rw [hP1.2]; omega, fun q q1 _ => o1 q q1, fun _ h => by cases h⟩
  refine lv_dup hx hb (by decide +kernel) rfl ?_
  refine w_init hx hb hml hown hts hK hN (fun U hW => hSS.at hS1 hW) (mk_Tt_init_0 eC) wm_x wv_x rfl ⟨by decide, by decide⟩ ⟨by decide, by decide⟩ (Nat.le_of_ble_eq_true rfl) (by decide +kernel) hP1 hS1 hA0 hl.1 (fun H2 locs2 hP2 o2 hS2 => ?_)
  refine lv_astore_n (k := 1) (lv' := [(1, .ref (rz z 0)), (0, .ref b)]) hx hb (by decide +kernel) rfl hl (by decide) rfl (fun la hl => ?_)
  have hP20 : KW g dR (z + 93) 0 0 h00 H2 := ⟨fun i x hx => by simp [wsO, pt] at hx, hP2.2⟩
  refine w_new hx hb hown hts hK cls_12 wc_m iq_12 wi_m rfl (by decide +kernel) (by decide +kernel) ⟨by decide, by decide⟩ (by decide +kernel) hP20 (fun H3 hP3 o3 => ?_)
  have hS3 : va_S (fun q => z ≤ q) s.heap H3 locs2 := ⟨by have := hS2.1; have := hP2.2; rw [hP3.2]; omega, fun q q1 q2 => (o3 q (Nat.lt_of_lt_of_le q1 hS2.1)).trans (hS2.2.1 q q1 q2), hS2.2.2⟩
  have hC3 : va_P g.2.1 classes (wsO g.2.2 TC (rz z) hC) H3 := hP2.1.kept (fun i x hx => o3 _ (hP2.1 i x hx).lt)
  refine lv_dup hx hb (by decide +kernel) rfl ?_
  refine w_init hx hb hml hown hts hK hN (fun U hW => (hSS.at hS3 hW).narrow (fun q h => Nat.le_trans (Nat.le_add_right z 93) h)) (mk_Md_init_0 eR) wm_m wv_m rfl ⟨by decide, by decide⟩ ⟨by decide, by decide⟩ (Nat.le_of_ble_eq_true rfl) (by decide +kernel) hP3 hS3 (fun q h => Nat.le_trans (Nat.le_add_right z 93) h) hl.1 (fun H4 locs4 hP4 o4 hS4 => ?_)
  have hC4 : va_P g.2.1 classes (wsO g.2.2 TC (rz z) hC) H4 := hC3.kept (fun i x hx => o4 _ (hC3 i x hx).lt (by have := cst_C ((wsO_D (dA := g.2.2) (inj_rz TC z) hC).2 i x hx); omega))
  refine lv_astore_n (k := 2) (lv' := [(2, .ref (rz (z + 93) 0)), (1, .ref (rz z 0)), (0, .ref b)]) hx hb (by decide +kernel) rfl hl (by decide) rfl (fun la hl => ?_)
  refine lv_iconst (n := 1) (v := 1) hx hb (by decide +kernel) (by decide) ?_
  refine va_newaK (atype := .long) (N := 1) hx hb (hts _ ac_long) rfl (show decode code 17 = .ok (.newarray .long, 2) by decide +kernel) rfl (by decide) (by decide) (by decide) (by decide) (by decide) rfl fun H5 cA e5 z5 o5 hAr hNm => ?_
  have hA5 : cA = g.2.2 3 := by
    have h0 := (hK.2 3 _ rfl).2
    have h1 : s.vm.findClass ("[" ++ (FieldType.long).toString) = some (g.2.2 3) := h0
    exact Option.some.inj (hNm.symm.trans h1)
  have hsz : H4.size = z + 139 := hP4.2
  have hC5 : va_P g.2.1 classes (wsO g.2.2 TC (rz z) hC) H5 := hC4.kept (fun i x hx => o5 _ (hC4 i x hx).lt)
  have hR5 : va_P g.2.1 classes (wsO g.2.2 TR (rz (z + 93)) hR) H5 := hP4.1.kept (fun i x hx => o5 _ (hP4.1 i x hx).lt)
  have hO5 : va_P g.2.1 classes (OW g z (fun _ => 0)) H5 := by
    intro i x hx
    have hi : i < 1 := (List.getElem?_eq_some_iff.mp hx).1
    rw [show i = 0 by omega] at hx
    cases hx
    show H5[z + 139]? = some (vp_cell _ _)
    rw [← hsz, e5, hA5]
    rfl
  have hS5 : va_S (fun q => z ≤ q) s.heap H5 locs4 := ⟨by have := hS4.1; rw [z5]; omega, fun q q1 q2 => (o5 q (Nat.lt_of_lt_of_le q1 hS4.1)).trans (hS4.2.1 q q1 q2), hS4.2.2⟩
  rw [hsz]
  refine lv_astore_n (k := 3) (lv' := [(3, .ref (z + 139)), (2, .ref (rz (z + 93) 0)), (1, .ref (rz z 0)), (0, .ref b)]) hx hb (show decode code 19 = .ok (.astore_n 3, 1) by decide +kernel) rfl hl (by decide) rfl (fun la hl => ?_)
  refine lv_iconst (n := 0) (v := 0) hx hb (show decode code 20 = .ok (.iconst 0, 1) by decide +kernel) (by decide) ?_
  refine lv_istore (i := 4) (lv' := [(4, .int 0), (3, .ref (z + 139)), (2, .ref (rz (z + 93) 0)), (1, .ref (rz z 0)), (0, .ref b)]) hx hb (show decode code 21 = .ok (.istore 4, 2) by decide +kernel) hl (by decide) rfl (fun la hl => ?_)
  have hfin := l_loop (E := (p, e, room_1, s, m, #[Value.ref b], below, meth, c, lw_Z below #[Value.ref b] s)) (g := g) (z := z) (b := b) (L := L) (xs := xs) (Rel := Rel) hL ⟨hx, hb, hml, hown, hts, hK, hN, rfl, rfl, rfl, rfl, hXS, hst, hX, hbl, hz.symm⟩ ⟨rfl, rfl, rfl, hr, hlocks⟩ hsp 600 0 hC hR (fun _ => 0) (by omega) (by omega) (by omega) hrel
  exact hfin H5 locs4 la hC5 hR5 hO5 hS5 hl
