/-! the String constant: length, charAt, packed (written by wip/whole/strs.py) -/
def VT (E : En) (g : Gl) (nL pc : Nat) (ls : List (Nat × Value)) (st : List Value) : Prop := match E with
  | (p, e, R, s, m, args, below, meth, c, Q) => ∀ la : Array Slot, lv_has la nL ls → W p g.1 e R s m args below meth c s.heap [] 0 0 Q (F0 m pc la st)
def CT (E : En) (z a v : Nat) (cc : ByteArray) (nL : Nat) (own : String) (F Lo : Nat) : Prop := match E with
  | (p, e, R, s, m, args, below, meth, c, Q) => p.tables.exec = Jvm.exec ∧ c.code = cc ∧ c.maxLocals = nL ∧ s.vm.findClass own = some m.cls ∧ (∀ w ∈ GW, w.before args s = true) ∧ R.frames = F ∧ R.locals = Lo ∧ SS z a v s s.heap
def QT (rv : Option Value) : Array Value → State → Outcome → State → Prop := fun _ st oc t => oc = .returned rv ∧ t.heap = st.heap
def CZ (E : En) (ret : Option FieldType) (rv : Option Value) : Prop := match E with
  | (p, e, R, s, m, args, below, meth, c, Q) => Q = MQ below (QT rv) args s 0 0 (fun _ => False) ∧ meth.locks = false ∧ meth.sig.returnType = ret
def MS (g : Gl) (y : MethodName) (cc : ByteArray) (nL : Nat) (ret : Option FieldType) (F Lo z a v : Nat) (as : List Value) (rv : Option Value) : Prop :=
  Met g.1 y (Cond.code y cc nL ret :: GW) { frames := F, cells := 0, slots := 0, locals := Lo } (va_Pc as (fun U => SS z a v U U.heap)) (QT rv) 0 0 (fun _ => False)
theorem ms_intro {g : Gl} {y : MethodName} {cc : ByteArray} {nL : Nat} {ret : Option FieldType} {F Lo z a v : Nat} {as : List Value} {rv : Option Value} (hy : plainName y.cls = true) (hl : (lg_sl as).length ≤ nL)
    (body : ∀ E : En, CT E z a v cc nL y.cls F Lo → CZ E ret rv → VT E g nL 0 (lv_args 0 as) []) : MS g y cc nL ret F Lo z a v as rv := by
  refine Met.ofW (cc := cc) (maxL := nL) (ret := ret) hy rfl ?_
  intro p e s m args below meth c s₁ B hml hv
  obtain ⟨rfl, hSS⟩ := hv
  have hts := atoms_spec (ws := Cond.code y cc nL ret :: GW) B.pre
  have hown : s.vm.findClass y.cls = some m.cls := findClass_of_methodNamed B.named
  have hle := lv_entry as (n := nL) hl
  have b := body (p, e, ({ frames := F, cells := 0, slots := 0, locals := Lo } : Room), s, m, as.toArray, below, meth, c, MQ below (QT rv) as.toArray s 0 0 (fun _ => False)) ⟨B.exec, B.bytes, hml, hown, fun w hw => hts w (List.mem_cons_of_mem _ hw), rfl, rfl, hSS⟩ ⟨rfl, B.notSynchronized, B.returns⟩ _ hle
  rw [lg_entry_eq]
  exact b
section TR
variable {E : En} {g : Gl} {z a v : Nat} {cc : ByteArray} {nL : Nat} {own : String} {F Lo pc : Nat} {ls : List (Nat × Value)} {st : List Value}
theorem tt_iadd {x y : Int32} (X : CT E z a v cc nL own F Lo) (hd : decode cc pc = .ok (.iadd, 1)) (kk : VT E g nL (pc + 1) ls (.int (x + y) :: st)) : VT E g nL (pc) ls (.int y :: .int x :: st) := by
  obtain ⟨p, e, R, s, m, args, below, meth, c0, Q⟩ := E
  obtain ⟨hx, hb, hml, hown, hts, hF, hL, hSS⟩ := X
  intro la hl
  exact lv_iadd hx hb hd (kk la hl)
theorem tt_isub {x y : Int32} (X : CT E z a v cc nL own F Lo) (hd : decode cc pc = .ok (.isub, 1)) (kk : VT E g nL (pc + 1) ls (.int (x - y) :: st)) : VT E g nL (pc) ls (.int y :: .int x :: st) := by
  obtain ⟨p, e, R, s, m, args, below, meth, c0, Q⟩ := E
  obtain ⟨hx, hb, hml, hown, hts, hF, hL, hSS⟩ := X
  intro la hl
  exact lv_isub hx hb hd (kk la hl)
theorem tt_imul {x y : Int32} (X : CT E z a v cc nL own F Lo) (hd : decode cc pc = .ok (.imul, 1)) (kk : VT E g nL (pc + 1) ls (.int (x * y) :: st)) : VT E g nL (pc) ls (.int y :: .int x :: st) := by
  obtain ⟨p, e, R, s, m, args, below, meth, c0, Q⟩ := E
  obtain ⟨hx, hb, hml, hown, hts, hF, hL, hSS⟩ := X
  intro la hl
  exact lv_imul hx hb hd (kk la hl)
theorem tt_iand {x y : Int32} (X : CT E z a v cc nL own F Lo) (hd : decode cc pc = .ok (.iand, 1)) (kk : VT E g nL (pc + 1) ls (.int (x &&& y) :: st)) : VT E g nL (pc) ls (.int y :: .int x :: st) := by
  obtain ⟨p, e, R, s, m, args, below, meth, c0, Q⟩ := E
  obtain ⟨hx, hb, hml, hown, hts, hF, hL, hSS⟩ := X
  intro la hl
  exact lv_iand hx hb hd (kk la hl)
theorem tt_ior {x y : Int32} (X : CT E z a v cc nL own F Lo) (hd : decode cc pc = .ok (.ior, 1)) (kk : VT E g nL (pc + 1) ls (.int (x ||| y) :: st)) : VT E g nL (pc) ls (.int y :: .int x :: st) := by
  obtain ⟨p, e, R, s, m, args, below, meth, c0, Q⟩ := E
  obtain ⟨hx, hb, hml, hown, hts, hF, hL, hSS⟩ := X
  intro la hl
  exact lv_ior hx hb hd (kk la hl)
theorem tt_ishl {x y : Int32} (X : CT E z a v cc nL own F Lo) (hd : decode cc pc = .ok (.ishl, 1)) (kk : VT E g nL (pc + 1) ls (.int (x <<< (y &&& 31)) :: st)) : VT E g nL (pc) ls (.int y :: .int x :: st) := by
  obtain ⟨p, e, R, s, m, args, below, meth, c0, Q⟩ := E
  obtain ⟨hx, hb, hml, hown, hts, hF, hL, hSS⟩ := X
  intro la hl
  exact lv_ishl hx hb hd (kk la hl)
theorem tt_ishr {x y : Int32} (X : CT E z a v cc nL own F Lo) (hd : decode cc pc = .ok (.ishr, 1)) (kk : VT E g nL (pc + 1) ls (.int (x >>> (y &&& 31)) :: st)) : VT E g nL (pc) ls (.int y :: .int x :: st) := by
  obtain ⟨p, e, R, s, m, args, below, meth, c0, Q⟩ := E
  obtain ⟨hx, hb, hml, hown, hts, hF, hL, hSS⟩ := X
  intro la hl
  exact lv_ishr hx hb hd (kk la hl)
theorem tt_i2c {x : Int32} (X : CT E z a v cc nL own F Lo) (hd : decode cc pc = .ok (.i2c, 1)) (kk : VT E g nL (pc + 1) ls (.int (x.toUInt32 % 65536).toInt32 :: st)) : VT E g nL (pc) ls (.int x :: st) := by
  obtain ⟨p, e, R, s, m, args, below, meth, c0, Q⟩ := E
  obtain ⟨hx, hb, hml, hown, hts, hF, hL, hSS⟩ := X
  intro la hl
  exact lv_i2c hx hb hd rfl (kk la hl)
theorem tt_iconst {n0 : Int} {x : Int32} (X : CT E z a v cc nL own F Lo) (hd : decode cc pc = .ok (.iconst n0, 1)) (hv : Int32.ofInt n0 = x) (kk : VT E g nL (pc + 1) ls (.int x :: st)) : VT E g nL (pc) ls (st) := by
  obtain ⟨p, e, R, s, m, args, below, meth, c0, Q⟩ := E
  obtain ⟨hx, hb, hml, hown, hts, hF, hL, hSS⟩ := X
  intro la hl
  exact lv_iconst hx hb hd hv (kk la hl)
theorem tt_bipush {n0 : Int} {x : Int32} (X : CT E z a v cc nL own F Lo) (hd : decode cc pc = .ok (.bipush n0, 2)) (hv : (Int8.ofInt n0).toInt32 = x) (kk : VT E g nL (pc + 2) ls (.int x :: st)) : VT E g nL (pc) ls (st) := by
  obtain ⟨p, e, R, s, m, args, below, meth, c0, Q⟩ := E
  obtain ⟨hx, hb, hml, hown, hts, hF, hL, hSS⟩ := X
  intro la hl
  exact lv_bipush hx hb hd hv (kk la hl)
theorem tt_sipush {n0 : Int} {x : Int32} (X : CT E z a v cc nL own F Lo) (hd : decode cc pc = .ok (.sipush n0, 3)) (hv : (Int16.ofInt n0).toInt32 = x) (kk : VT E g nL (pc + 3) ls (.int x :: st)) : VT E g nL (pc) ls (st) := by
  obtain ⟨p, e, R, s, m, args, below, meth, c0, Q⟩ := E
  obtain ⟨hx, hb, hml, hown, hts, hF, hL, hSS⟩ := X
  intro la hl
  exact lv_sipush hx hb hd hv (kk la hl)
theorem tt_pop {b : Value} (X : CT E z a v cc nL own F Lo) (hd : decode cc pc = .ok (.pop, 1)) (ha : b.category = 1) (kk : VT E g nL (pc + 1) ls (st)) : VT E g nL (pc) ls (b :: st) := by
  obtain ⟨p, e, R, s, m, args, below, meth, c0, Q⟩ := E
  obtain ⟨hx, hb, hml, hown, hts, hF, hL, hSS⟩ := X
  intro la hl
  exact lv_pop hx hb hd ha (kk la hl)
theorem tt_iload_n {i : Fin 4} {x : Int32} (X : CT E z a v cc nL own F Lo) (hd : decode cc pc = .ok (.iload_n i, 1)) (q : Nat) (hq : ls[q]? = some ((i : Nat), .int x)) (kk : VT E g nL (pc + 1) ls (.int x :: st)) : VT E g nL (pc) ls (st) := by
  obtain ⟨p, e, R, s, m, args, below, meth, c0, Q⟩ := E
  obtain ⟨hx, hb, hml, hown, hts, hF, hL, hSS⟩ := X
  intro la hl
  exact lv_iload_n hx hb hd rfl (lv_at hl q hq) (kk la hl)
theorem tt_aload_n {i : Fin 4} {x : Nat} (X : CT E z a v cc nL own F Lo) (hd : decode cc pc = .ok (.aload_n i, 1)) (q : Nat) (hq : ls[q]? = some ((i : Nat), .ref x)) (kk : VT E g nL (pc + 1) ls (.ref x :: st)) : VT E g nL (pc) ls (st) := by
  obtain ⟨p, e, R, s, m, args, below, meth, c0, Q⟩ := E
  obtain ⟨hx, hb, hml, hown, hts, hF, hL, hSS⟩ := X
  intro la hl
  exact lv_aload_n hx hb hd rfl (lv_at hl q hq) (kk la hl)
theorem tt_istore_n {i : Fin 4} {x : Int32} {lv' : List (Nat × Value)} (X : CT E z a v cc nL own F Lo) (hd : decode cc pc = .ok (.istore_n i, 1)) (hn : (i : Nat) < nL) (hl' : ((i : Nat), Value.int x) :: ls.filter (fun q => !(q.1 == (i : Nat)) && !(q.1 + 1 == (i : Nat) && q.2.category == 2)) = lv') (kk : VT E g nL (pc + 1) lv' (st)) : VT E g nL (pc) ls (Value.int x :: st) := by
  obtain ⟨p, e, R, s, m, args, below, meth, c0, Q⟩ := E
  obtain ⟨hx, hb, hml, hown, hts, hF, hL, hSS⟩ := X
  intro la hl
  exact lv_istore_n hx hb hd rfl hl hn hl' (fun la hl => kk la hl)
theorem tt_iinc {i : Nat} {n0 : Int} {x y : Int32} {lv' : List (Nat × Value)} (X : CT E z a v cc nL own F Lo) (hd : decode cc pc = .ok (.iinc i n0, 3)) (q : Nat) (hq : ls[q]? = some (i, .int x)) (hv : x + Int32.ofInt n0 = y) (hn : i < nL) (hl' : (i, Value.int y) :: ls.filter (fun q => !(q.1 == i) && !(q.1 + 1 == i && q.2.category == 2)) = lv') (kk : VT E g nL (pc + 3) lv' (st)) : VT E g nL (pc) ls (st) := by
  obtain ⟨p, e, R, s, m, args, below, meth, c0, Q⟩ := E
  obtain ⟨hx, hb, hml, hown, hts, hF, hL, hSS⟩ := X
  intro la hl
  exact lv_iinc hx hb hd hl hq hv hn hl' (fun la hl => kk la hl)
theorem tt_sub {lv' : List (Nat × Value)} (ks : List Nat) (hk : lv_pick ls ks = lv') (kk : VT E g nL (pc) lv' (st)) : VT E g nL (pc) ls (st) := by
  obtain ⟨p, e, R, s, m, args, below, meth, c0, Q⟩ := E
  intro la hl
  exact kk la (lv_sub hl ks hk)
theorem tt_goto {off : Int} {tgt : Nat} (X : CT E z a v cc nL own F Lo) (hd : decode cc pc = .ok (.goto off, 3)) (ht : (pc : Int) + off = (tgt : Int)) (kk : VT E g nL (tgt) ls (st)) : VT E g nL (pc) ls (st) := by
  obtain ⟨p, e, R, s, m, args, below, meth, c0, Q⟩ := E
  obtain ⟨hx, hb, hml, hown, hts, hF, hL, hSS⟩ := X
  intro la hl
  exact lv_goto hx hb hd ht (kk la hl)
theorem tt_icmp_ne {x y : Int32} {off : Int} {tgt : Nat} (X : CT E z a v cc nL own F Lo) (hd : decode cc pc = .ok (.if_icmp .ne off, 3)) (ht : (pc : Int) + off = (tgt : Int)) (kt : ¬ x = y → VT E g nL (tgt) ls (st)) (kf : x = y → VT E g nL (pc + 3) ls (st)) : VT E g nL (pc) ls (.int y :: .int x :: st) := by
  obtain ⟨p, e, R, s, m, args, below, meth, c0, Q⟩ := E
  obtain ⟨hx, hb, hml, hown, hts, hF, hL, hSS⟩ := X
  intro la hl
  exact lv_icmp_ne hx hb hd ht (fun q => kt q la hl) (fun q => kf q la hl)
theorem tt_icmp_lt {x y : Int32} {off : Int} {tgt : Nat} (X : CT E z a v cc nL own F Lo) (hd : decode cc pc = .ok (.if_icmp .lt off, 3)) (ht : (pc : Int) + off = (tgt : Int)) (kt : x < y → VT E g nL (tgt) ls (st)) (kf : ¬ x < y → VT E g nL (pc + 3) ls (st)) : VT E g nL (pc) ls (.int y :: .int x :: st) := by
  obtain ⟨p, e, R, s, m, args, below, meth, c0, Q⟩ := E
  obtain ⟨hx, hb, hml, hown, hts, hF, hL, hSS⟩ := X
  intro la hl
  exact lv_icmp_lt hx hb hd ht (fun q => kt q la hl) (fun q => kf q la hl)
theorem tt_icmp_ge {x y : Int32} {off : Int} {tgt : Nat} (X : CT E z a v cc nL own F Lo) (hd : decode cc pc = .ok (.if_icmp .ge off, 3)) (ht : (pc : Int) + off = (tgt : Int)) (kt : y ≤ x → VT E g nL (tgt) ls (st)) (kf : ¬ y ≤ x → VT E g nL (pc + 3) ls (st)) : VT E g nL (pc) ls (.int y :: .int x :: st) := by
  obtain ⟨p, e, R, s, m, args, below, meth, c0, Q⟩ := E
  obtain ⟨hx, hb, hml, hown, hts, hF, hL, hSS⟩ := X
  intro la hl
  exact lv_icmp_ge hx hb hd ht (fun q => kt q la hl) (fun q => kf q la hl)
theorem tt_if_eq {x : Int32} {off : Int} {tgt : Nat} (X : CT E z a v cc nL own F Lo) (hd : decode cc pc = .ok (.ifCond .eq off, 3)) (ht : (pc : Int) + off = (tgt : Int)) (kt : x = 0 → VT E g nL (tgt) ls (st)) (kf : ¬ x = 0 → VT E g nL (pc + 3) ls (st)) : VT E g nL (pc) ls (.int x :: st) := by
  obtain ⟨p, e, R, s, m, args, below, meth, c0, Q⟩ := E
  obtain ⟨hx, hb, hml, hown, hts, hF, hL, hSS⟩ := X
  intro la hl
  exact lv_if_eq hx hb hd ht (fun q => kt q la hl) (fun q => kf q la hl)
theorem tt_if_ne {x : Int32} {off : Int} {tgt : Nat} (X : CT E z a v cc nL own F Lo) (hd : decode cc pc = .ok (.ifCond .ne off, 3)) (ht : (pc : Int) + off = (tgt : Int)) (kt : ¬ x = 0 → VT E g nL (tgt) ls (st)) (kf : x = 0 → VT E g nL (pc + 3) ls (st)) : VT E g nL (pc) ls (.int x :: st) := by
  obtain ⟨p, e, R, s, m, args, below, meth, c0, Q⟩ := E
  obtain ⟨hx, hb, hml, hown, hts, hF, hL, hSS⟩ := X
  intro la hl
  exact lv_if_ne hx hb hd ht (fun q => kt q la hl) (fun q => kf q la hl)
theorem tt_if_lt {x : Int32} {off : Int} {tgt : Nat} (X : CT E z a v cc nL own F Lo) (hd : decode cc pc = .ok (.ifCond .lt off, 3)) (ht : (pc : Int) + off = (tgt : Int)) (kt : x < 0 → VT E g nL (tgt) ls (st)) (kf : ¬ x < 0 → VT E g nL (pc + 3) ls (st)) : VT E g nL (pc) ls (.int x :: st) := by
  obtain ⟨p, e, R, s, m, args, below, meth, c0, Q⟩ := E
  obtain ⟨hx, hb, hml, hown, hts, hF, hL, hSS⟩ := X
  intro la hl
  exact lv_if_lt hx hb hd ht (fun q => kt q la hl) (fun q => kf q la hl)
theorem tt_gets {C n0 d0 : String} {x : Value} {idx : Nat} (X : CT E z a v cc nL own F Lo) (hZ : ∀ s, SS z a v s s.heap → va_Z C n0 d0 x (fun q => z ≤ q) s s.heap) (hw : Cond.fieldLink own idx C n0 d0 ∈ GW) (hd : decode cc pc = .ok (.getstatic idx, 3)) (kk : VT E g nL (pc + 3) ls (x :: st)) : VT E g nL (pc) ls (st) := by
  obtain ⟨p, e, R, s, m, args, below, meth, c0, Q⟩ := E
  obtain ⟨hx, hb, hml, hown, hts, hF, hL, hSS⟩ := X
  intro la hl
  exact va_gets hx hb (hZ s hSS) va_S.rf hown (hts _ hw) (fun _ h => h) hd (kk la hl)
theorem tt_getq {C n0 d0 : String} {idx : Nat} (X : CT E z a v cc nL own F Lo) (hZ : ∀ s, SS z a v s s.heap → va_Zq C n0 d0 (fun q => z ≤ q) s s.heap) (hw : Cond.fieldLink own idx C n0 d0 ∈ GW) (hd : decode cc pc = .ok (.getstatic idx, 3)) (kk : ∀ b : Option Nat, VT E g nL (pc + 3) ls (va_rf b :: st)) : VT E g nL (pc) ls (st) := by
  obtain ⟨p, e, R, s, m, args, below, meth, c0, Q⟩ := E
  obtain ⟨hx, hb, hml, hown, hts, hF, hL, hSS⟩ := X
  intro la hl
  rcases hZ s hSS with h | ⟨t, h⟩
  · exact va_gets hx hb h va_S.rf hown (hts _ hw) (fun _ h => h) hd (kk none la hl)
  · exact va_gets hx hb h va_S.rf hown (hts _ hw) (fun _ h => h) hd (kk (some t) la hl)
theorem tt_getf {o n0 d0 : String} {x : Value} {q idx : Nat} (X : CT E z a v cc nL own F Lo) (hE : ∀ s, SS z a v s s.heap → va_OF o n0 d0 x q (fun q => z ≤ q) s s.heap) (hw : Cond.fieldLink own idx o n0 d0 ∈ GW) (hd : decode cc pc = .ok (.getfield idx, 3)) (kk : VT E g nL (pc + 3) ls (x :: st)) : VT E g nL (pc) ls (.ref q :: st) := by
  obtain ⟨p, e, R, s, m, args, below, meth, c0, Q⟩ := E
  obtain ⟨hx, hb, hml, hown, hts, hF, hL, hSS⟩ := X
  intro la hl
  exact vk_getf hx hb (hE s hSS) va_S.rf hown (hts _ hw) (fun _ h => h) hd (kk la hl)
theorem tt_ldc {idx : Nat} (X : CT E z a v cc nL own F Lo) (ho : own = RC8) (hi : idx = 23) (hd : decode cc pc = .ok (.ldc idx, 2)) (kk : VT E g nL (pc + 2) ls (.ref a :: st)) : VT E g nL (pc) ls (st) := by
  subst ho hi
  obtain ⟨p, e, R, s, m, args, below, meth, c0, Q⟩ := E
  obtain ⟨hx, hb, hml, hown, hts, hF, hL, hSS⟩ := X
  intro la hl
  exact va_ldcS hx hb hown hSS.2.2.1 hd (kk la hl)
theorem SS.arr {s : State} (h : SS z a v s s.heap) : va_T .byte v 120 (fun j => .int (lang.getD j 0)) (fun q => z ≤ q) s s.heap := (h.1.1 0 (by decide)).2.2.2
theorem tt_alen (X : CT E z a v cc nL own F Lo) (hd : decode cc pc = .ok (.arraylength, 1)) (kk : VT E g nL (pc + 1) ls (.int 120 :: st)) : VT E g nL (pc) ls (.ref v :: st) := by
  obtain ⟨p, e, R, s, m, args, below, meth, c0, Q⟩ := E
  obtain ⟨hx, hb, hml, hown, hts, hF, hL, hSS⟩ := X
  intro la hl
  obtain ⟨cell, h1, h2, h3, h4, h5, h6, h7⟩ := hSS.arr
  exact W.alen (n := 120) hx hb h1 h2 (by rw [h5]; rfl) rfl rfl hd (kk la hl)
theorem tt_bald {i : Int32} (X : CT E z a v cc nL own F Lo) (hin : vp_in i 120) (hd : decode cc pc = .ok (.baload, 1)) (kk : VT E g nL (pc + 1) ls (.int (lang.getD i.toNatClampNeg 0) :: st)) : VT E g nL (pc) ls (.int i :: .ref v :: st) := by
  obtain ⟨p, e, R, s, m, args, below, meth, c0, Q⟩ := E
  obtain ⟨hx, hb, hml, hown, hts, hF, hL, hSS⟩ := X
  intro la hl
  obtain ⟨cell, h1, h2, h3, h4, h5, h6, h7⟩ := hSS.arr
  have hlt : i.toNatClampNeg < 120 := Nat.not_le.mp fun q => hin (Or.inr q)
  exact W.bald (v := .int (lang.getD i.toNatClampNeg 0)) hx hb h1 h2 h3 (fun q => hin (q.imp id (fun q => by omega))) (h6 _ hlt) rfl rfl hd (kk la hl)
theorem tt_iret {x : Int32} (X : CT E z a v cc nL own F Lo) {rv : Option Value} (Y : CZ E (some .int) rv) (hd : decode cc pc = .ok (.ireturn, 1)) (e1 : some (.int x) = rv) : VT E g nL pc ls ([.int x]) := by
  subst e1
  obtain ⟨p, e, R, s, m, args, below, meth, c0, Q⟩ := E
  obtain ⟨hx, hb, hml, hown, hts, hF, hL, hSS⟩ := X
  obtain ⟨hQ, hlocks, hr⟩ := Y
  intro la hl
  subst hQ
  exact W.iret hx hb hr (fun t ht _ => ⟨rfl, ht⟩) (fun _ h => by cases h) hd hlocks
theorem tt_zret {x : Int32} {ty : FieldType} (hn : narrow ty (.int x) = .int x) (X : CT E z a v cc nL own F Lo) {rv : Option Value} (Y : CZ E (some ty) rv) (hd : decode cc pc = .ok (.ireturn, 1)) (e1 : some (.int x) = rv) : VT E g nL pc ls ([.int x]) := by
  subst e1
  obtain ⟨p, e, R, s, m, args, below, meth, c0, Q⟩ := E
  obtain ⟨hx, hb, hml, hown, hts, hF, hL, hSS⟩ := X
  obtain ⟨hQ, hlocks, hr⟩ := Y
  intro la hl
  subst hQ
  exact W.zret hx hb hr hn (fun t ht _ => ⟨rfl, ht⟩) (fun _ h => by cases h) hd hlocks
theorem tt_vret  (X : CT E z a v cc nL own F Lo) {rv : Option Value} (Y : CZ E none rv) (hd : decode cc pc = .ok (.return_, 1)) (e1 : none = rv) : VT E g nL pc ls ([]) := by
  subst e1
  obtain ⟨p, e, R, s, m, args, below, meth, c0, Q⟩ := E
  obtain ⟨hx, hb, hml, hown, hts, hF, hL, hSS⟩ := X
  obtain ⟨hQ, hlocks, hr⟩ := Y
  intro la hl
  subst hQ
  exact W.vret hx hb hr (fun t ht _ => ⟨rfl, ht⟩) (fun _ h => by cases h) hd hlocks
theorem va_callT {p : Program} {e : Env} {R : Room} {s : State} {m : MethodId} {args a0 : Array Value} {below : List Frame} {meth : Method} {c : Code} {H : Heap} {locs : List Loc} {k w : Nat} {Q : State → Prop} {la : Array Slot} {st0 rest : List Value} {rv : Option Value}
    (hr : va_Run p g.1 e R s m args below meth c H locs k w 0 0 (F0 m pc la st0) rest (QT rv a0) (fun _ => False))
    (kk : W p g.1 e R s m args below meth c H locs k w Q (F0 m (pc + 3) la (rv.toList ++ rest))) : W p g.1 e R s m args below meth c H locs k w Q (F0 m pc la st0) := by
  intro T hT X
  obtain ⟨v, st₀, t, T', L, h0, X', hL, e1, e2, ⟨hv, hh⟩, stp⟩ := hr T hT X
  cases hv
  have hL0 : L = [] := by
    cases L with
    | nil => rfl
    | cons q L => exact absurd (hL q List.mem_cons_self) id
  subst hL0
  rw [List.append_nil] at X'
  obtain ⟨t2, a1, b1⟩ := kk T' (by rw [e1, hh, h0]) X'
  exact ⟨t2, stp t2 a1, b1⟩
theorem blind_T {as : List Value} : FrameBlind (va_Pc as (fun U => SS z a v U U.heap)) := by
  intro x U gg mk q
  obtain ⟨q0, qS⟩ := q
  exact ⟨q0, SS.same (s := U) (U := U.calling gg mk x) rfl qS⟩
theorem tt_callS {idx maxL n F1 Lo1 : Nat} {y : MethodName} {bytes : ByteArray} {ret : Option FieldType} {As rest st0 : List Value} {rv : Option Value} (X : CT E z a v cc nL own F Lo) (hM : MS g y bytes maxL ret F1 Lo1 z a v As rv) (hm : ML own idx y bytes maxL ret n) (hv : Cond.static y ∈ GW) (hR : F1 + 1 ≤ F ∧ 8 + (maxL + 11) + Lo1 ≤ Lo) (hn : As.length = n) (hst : st0 = As.reverse ++ rest) (hW : (rest.map fun v => v.category).sum ≤ 8) (hd : decode cc pc = .ok (.invokestatic idx, 3))
    (kk : VT E g nL (pc + 3) ls (rv.toList ++ rest)) : VT E g nL pc ls st0 := by
  subst hst
  obtain ⟨hlk, hin, hco, hok⟩ := hm
  obtain ⟨p, e, R, s, m, args, below, meth, c0, Q⟩ := E
  obtain ⟨hx, hb, hml, hown, hts, hF, hL, hSS⟩ := X
  intro la hl
  have hrun := va_runS (e := e) (H := s.heap) (locs := []) (cells := 0) (slots := 0) (g := F0 m pc la (As.reverse ++ rest)) (rest := rest) (As := As) (below := below) (meth := meth) ⟨hx, hb, hml, hown, hts⟩ hM ⟨callB_of n hts (good_M hco) rfl rfl rfl (hts _ hin) (hts _ hlk) hok ⟨by rw [hF]; exact hR.1, by rw [hL]; exact hR.2⟩, hts _ hv⟩ ⟨blind_T, fun U hU hW => ⟨rfl, by show SS z a v U U.heap; rw [hU]; exact hSS.warm hW⟩⟩ rfl hn hl.1 rfl (lv_room hW) hd ⟨Nat.zero_le _, Nat.zero_le _⟩
  exact va_callT hrun (kk la hl)
theorem tt_callV {idx maxL n F1 Lo1 : Nat} {y : MethodName} {bytes : ByteArray} {ret : Option FieldType} {As rest st0 : List Value} {rv : Option Value} (X : CT E z a v cc nL own F Lo) (hM : MS g y bytes maxL ret F1 Lo1 z a v (.ref a :: As) rv) (hm : ML own idx y bytes maxL ret n) (hv : MV y) (hC : y.cls = "java/lang/String") (hR : F1 + 1 ≤ F ∧ 8 + (maxL + 11) + Lo1 ≤ Lo) (hn : As.length = n) (hst : st0 = As.reverse ++ .ref a :: rest) (hW : (rest.map fun v => v.category).sum ≤ 8) (hd : decode cc pc = .ok (.invokevirtual idx, 3))
    (kk : VT E g nL (pc + 3) ls (rv.toList ++ rest)) : VT E g nL pc ls st0 := by
  subst hst
  obtain ⟨hlk, hin, hco, hok⟩ := hm
  obtain ⟨p, e, R, s, m, args, below, meth, c0, Q⟩ := E
  obtain ⟨hx, hb, hml, hown, hts, hF, hL, hSS⟩ := X
  intro la hl
  have hrv : ∃ cell : Cell, s.heap[a]? = some cell ∧ cell.vm.isStatics = false ∧ s.vm.findClass y.cls = some cell.cls := by
    rw [hC]
    exact vk_recv (i := 0) hSS.1 (by decide) va_S.rf
  have hrun := va_runV (e := e) (H := s.heap) (locs := []) (cells := 0) (slots := 0) (g := F0 m pc la (As.reverse ++ .ref a :: rest)) (rest := rest) (As := As) (below := below) (meth := meth) ⟨hx, hb, hml, hown, hts⟩ hM ⟨callB_of n hts (good_M hco) rfl rfl rfl (hts _ hin) (hts _ hlk) hok ⟨by rw [hF]; exact hR.1, by rw [hL]; exact hR.2⟩, hts _ hv.1, hts _ hv.2⟩ ⟨blind_T, hrv, fun U hU hW => ⟨rfl, by show SS z a v U U.heap; rw [hU]; exact hSS.warm hW⟩⟩ rfl hn hl.1 rfl (lv_room hW) hd ⟨Nat.zero_le _, Nat.zero_le _⟩
  exact va_callT hrun (kk la hl)
end TR
def y_len : MethodName := ⟨"java/lang/String", "length", "()I"⟩
def y_cod : MethodName := ⟨"java/lang/String", "coder", "()B"⟩
def y_isL : MethodName := ⟨"java/lang/String", "isLatin1", "()Z"⟩
def y_chr : MethodName := ⟨"java/lang/String", "charAt", "(I)C"⟩
def y_lch : MethodName := ⟨"java/lang/StringLatin1", "charAt", "([BI)C"⟩
def y_sck : MethodName := ⟨"java/lang/String", "checkIndex", "(II)V"⟩
def y_pck : MethodName := ⟨"jdk/internal/util/Preconditions", "checkIndex", "(IILjava/util/function/BiFunction;)I"⟩
def y_pkd : MethodName := ⟨RC8, "packed", "(I)I"⟩
theorem sl_len : ML RC8 25 y_len prog_23_method_54_code 1 (some .int) 0 := ⟨gw_in 328 (by decide +kernel) rfl, gw_in 118 (by decide +kernel) rfl, gw_in 331 (by decide +kernel) rfl, ⟨by decide +kernel, by decide +kernel, by decide +kernel⟩⟩
theorem sl_chr : ML RC8 31 y_chr prog_23_method_56_code 2 (some .char) 1 := ⟨gw_in 338 (by decide +kernel) rfl, gw_in 118 (by decide +kernel) rfl, gw_in 341 (by decide +kernel) rfl, ⟨by decide +kernel, by decide +kernel, by decide +kernel⟩⟩
theorem sl_cod : ML "java/lang/String" 335 y_cod prog_23_method_152_code 1 (some .byte) 0 := ⟨gw_in 332 (by decide +kernel) rfl, gw_in 118 (by decide +kernel) rfl, gw_in 335 (by decide +kernel) rfl, ⟨by decide +kernel, by decide +kernel, by decide +kernel⟩⟩
theorem sl_isL : ML "java/lang/String" 492 y_isL prog_23_method_154_code 1 (some .boolean) 0 := ⟨gw_in 342 (by decide +kernel) rfl, gw_in 118 (by decide +kernel) rfl, gw_in 345 (by decide +kernel) rfl, ⟨by decide +kernel, by decide +kernel, by decide +kernel⟩⟩
theorem sl_lch : ML "java/lang/String" 495 y_lch prog_24_method_2_code 2 (some .char) 2 := ⟨gw_in 346 (by decide +kernel) rfl, gw_in 119 (by decide +kernel) rfl, gw_in 348 (by decide +kernel) rfl, ⟨by decide +kernel, by decide +kernel, by decide +kernel⟩⟩
theorem sl_sck : ML "java/lang/StringLatin1" 9 y_sck prog_23_method_155_code 2 none 2 := ⟨gw_in 349 (by decide +kernel) rfl, gw_in 118 (by decide +kernel) rfl, gw_in 351 (by decide +kernel) rfl, ⟨by decide +kernel, by decide +kernel, by decide +kernel⟩⟩
theorem sl_pck : ML "java/lang/String" 1059 y_pck prog_32_method_11_code 3 (some .int) 3 := ⟨gw_in 354 (by decide +kernel) rfl, gw_in 120 (by decide +kernel) rfl, gw_in 356 (by decide +kernel) rfl, ⟨by decide +kernel, by decide +kernel, by decide +kernel⟩⟩
theorem sl_pkd : ML RC8 19 y_pkd prog_9_method_2_code 4 (some .int) 1 := ⟨gw_in 324 (by decide +kernel) rfl, gw_in 117 (by decide +kernel) rfl, gw_in 326 (by decide +kernel) rfl, ⟨by decide +kernel, by decide +kernel, by decide +kernel⟩⟩
theorem sv_len : MV y_len := ⟨gw_in 329 (by decide +kernel) rfl, gw_in 330 (by decide +kernel) rfl⟩
theorem sv_cod : MV y_cod := ⟨gw_in 333 (by decide +kernel) rfl, gw_in 334 (by decide +kernel) rfl⟩
theorem sv_isL : MV y_isL := ⟨gw_in 343 (by decide +kernel) rfl, gw_in 344 (by decide +kernel) rfl⟩
theorem sv_chr : MV y_chr := ⟨gw_in 339 (by decide +kernel) rfl, gw_in 340 (by decide +kernel) rfl⟩
theorem sv_lch : Cond.static y_lch ∈ GW := gw_in 347 (by decide +kernel) rfl
theorem sv_sck : Cond.static y_sck ∈ GW := gw_in 350 (by decide +kernel) rfl
theorem sv_pck : Cond.static y_pck ∈ GW := gw_in 355 (by decide +kernel) rfl
theorem sv_pkd : Cond.static y_pkd ∈ GW := gw_in 325 (by decide +kernel) rfl
theorem sf_cs : Cond.fieldLink "java/lang/String" 38 "java/lang/String" "COMPACT_STRINGS" "Z" ∈ GW := gw_in 336 (by decide +kernel) rfl
theorem sf_co : Cond.fieldLink "java/lang/String" 15 "java/lang/String" "coder" "B" ∈ GW := gw_in 2248 (by decide +kernel) rfl
theorem sf_va : Cond.fieldLink "java/lang/String" 9 "java/lang/String" "value" "[B" ∈ GW := gw_in 2247 (by decide +kernel) rfl
theorem sf_fo : Cond.fieldLink "java/lang/String" 1053 "jdk/internal/util/Preconditions" "SIOOBE_FORMATTER" "Ljava/util/function/BiFunction;" ∈ GW := gw_in 352 (by decide +kernel) rfl
section SM
variable {g : Gl} {z a v : Nat}
theorem ms_cod : MS g y_cod prog_23_method_152_code 1 (some .byte) 0 0 z a v [.ref a] (some (.int 0)) := by
  refine ms_intro (by decide +kernel) (Nat.le_of_ble_eq_true rfl) (fun E X Y => ?_)
  change VT E g 1 0 [(0, .ref a)] []
  refine tt_gets (pc := 0) X (fun s h => h.2.1) sf_cs (by decide +kernel) ?_
  refine tt_if_eq (pc := 3) (off := 10) (tgt := 13) X (by decide +kernel) (by decide) (fun q => absurd q (by decide)) (fun _ => ?_)
  refine tt_aload_n (pc := 6) (i := 0) X (by decide +kernel) 0 rfl ?_
  refine tt_getf (pc := 7) X (fun s h => (h.1.1 0 (by decide)).2.1) sf_co (by decide +kernel) ?_
  refine tt_goto (pc := 10) (off := 4) (tgt := 14) X (by decide +kernel) (by decide) ?_
  exact tt_zret (by rfl) X Y (by decide +kernel) rfl
theorem ms_len : MS g y_len prog_23_method_54_code 1 (some .int) 1 20 z a v [.ref a] (some (.int 120)) := by
  refine ms_intro (by decide +kernel) (Nat.le_of_ble_eq_true rfl) (fun E X Y => ?_)
  change VT E g 1 0 [(0, .ref a)] []
  refine tt_aload_n (pc := 0) (i := 0) X (by decide +kernel) 0 rfl ?_
  refine tt_getf (pc := 1) X (fun s h => (h.1.1 0 (by decide)).2.2.1) sf_va (by decide +kernel) ?_
  refine tt_alen (pc := 4) X (by decide +kernel) ?_
  refine tt_aload_n (pc := 5) (i := 0) X (by decide +kernel) 0 rfl ?_
  refine tt_callV (pc := 6) (As := []) (rest := [.int 120]) X ms_cod sl_cod sv_cod rfl ⟨Nat.le_of_ble_eq_true rfl, Nat.le_of_ble_eq_true rfl⟩ rfl rfl (Nat.le_of_ble_eq_true rfl) (by decide +kernel) ?_
  change VT E g 1 9 [(0, .ref a)] [.int 0, .int 120]
  refine tt_ishr (pc := 9) X (by decide +kernel) ?_
  exact tt_iret X Y (by decide +kernel) (by decide)
theorem ms_isL : MS g y_isL prog_23_method_154_code 1 (some .boolean) 0 0 z a v [.ref a] (some (.int 1)) := by
  refine ms_intro (by decide +kernel) (Nat.le_of_ble_eq_true rfl) (fun E X Y => ?_)
  change VT E g 1 0 [(0, .ref a)] []
  refine tt_gets (pc := 0) X (fun s h => h.2.1) sf_cs (by decide +kernel) ?_
  refine tt_if_eq (pc := 3) (off := 14) (tgt := 17) X (by decide +kernel) (by decide) (fun q => absurd q (by decide)) (fun _ => ?_)
  refine tt_aload_n (pc := 6) (i := 0) X (by decide +kernel) 0 rfl ?_
  refine tt_getf (pc := 7) X (fun s h => (h.1.1 0 (by decide)).2.1) sf_co (by decide +kernel) ?_
  refine tt_if_ne (pc := 10) (off := 7) (tgt := 17) X (by decide +kernel) (by decide) (fun q => absurd rfl q) (fun _ => ?_)
  refine tt_iconst (pc := 13) (n0 := 1) X (by decide +kernel) ic_1 ?_
  refine tt_goto (pc := 14) (off := 4) (tgt := 18) X (by decide +kernel) (by decide) ?_
  exact tt_zret (by rfl) X Y (by decide +kernel) rfl
theorem ms_pck {i : Int32} {b : Option Nat} (h0 : ¬ i < 0) (h1 : i < 120) : MS g y_pck prog_32_method_11_code 3 (some .int) 0 0 z a v [.int i, .int 120, va_rf b] (some (.int i)) := by
  refine ms_intro (by decide +kernel) (by cases b <;> exact Nat.le_of_ble_eq_true rfl) (fun E X Y => ?_)
  have e : lv_args 0 [.int i, .int 120, va_rf b] = [(0, .int i), (1, .int 120), (2, va_rf b)] := rfl
  rw [e]
  refine tt_iload_n (pc := 0) (i := 0) X (by decide +kernel) 0 rfl ?_
  refine tt_if_lt (pc := 1) (off := 8) (tgt := 9) X (by decide +kernel) (by decide) (fun q => absurd q h0) (fun _ => ?_)
  refine tt_iload_n (pc := 4) (i := 0) X (by decide +kernel) 0 rfl ?_
  refine tt_iload_n (pc := 5) (i := 1) X (by decide +kernel) 1 rfl ?_
  refine tt_icmp_lt (pc := 6) (off := 10) (tgt := 16) X (by decide +kernel) (by decide) (fun _ => ?_) (fun q => absurd h1 q)
  refine tt_iload_n (pc := 16) (i := 0) X (by decide +kernel) 0 rfl ?_
  exact tt_iret X Y (by decide +kernel) rfl
theorem ms_sck {i : Int32} (h0 : ¬ i < 0) (h1 : i < 120) : MS g y_sck prog_23_method_155_code 2 none 1 22 z a v [.int i, .int 120] none := by
  refine ms_intro (by decide +kernel) (Nat.le_of_ble_eq_true rfl) (fun E X Y => ?_)
  change VT E g 2 0 [(0, .int i), (1, .int 120)] []
  refine tt_iload_n (pc := 0) (i := 0) X (by decide +kernel) 0 rfl ?_
  refine tt_iload_n (pc := 1) (i := 1) X (by decide +kernel) 1 rfl ?_
  refine tt_getq (pc := 2) X (fun s h => h.2.2.2) sf_fo (by decide +kernel) (fun b => ?_)
  refine tt_callS (pc := 5) (As := [.int i, .int 120, va_rf b]) (rest := []) X (ms_pck h0 h1) sl_pck sv_pck ⟨Nat.le_of_ble_eq_true rfl, Nat.le_of_ble_eq_true rfl⟩ rfl rfl (Nat.le_of_ble_eq_true rfl) (by decide +kernel) ?_
  change VT E g 2 8 [(0, .int i), (1, .int 120)] [.int i]
  refine tt_pop (pc := 8) X (by decide +kernel) rfl ?_
  exact tt_vret X Y (by decide +kernel) rfl
theorem lang_c : ∀ j, j < 120 → ((lang.getD j 0 &&& 255).toUInt32 % 65536).toInt32 = lang.getD j 0 ∧ narrow .char (.int (lang.getD j 0)) = .int (lang.getD j 0) := by decide +kernel
theorem ms_lch {i : Int32} (h0 : ¬ i < 0) (h1 : i < 120) (hin : vp_in i 120) : MS g y_lch prog_24_method_2_code 2 (some .char) 2 43 z a v [.ref v, .int i] (some (.int (lang.getD i.toNatClampNeg 0))) := by
  refine ms_intro (by decide +kernel) (Nat.le_of_ble_eq_true rfl) (fun E X Y => ?_)
  change VT E g 2 0 [(0, .ref v), (1, .int i)] []
  have hlt : i.toNatClampNeg < 120 := Nat.not_le.mp fun q => hin (Or.inr q)
  refine tt_iload_n (pc := 0) (i := 1) X (by decide +kernel) 1 rfl ?_
  refine tt_aload_n (pc := 1) (i := 0) X (by decide +kernel) 0 rfl ?_
  refine tt_alen (pc := 2) X (by decide +kernel) ?_
  refine tt_callS (pc := 3) (As := [.int i, .int 120]) (rest := []) X (ms_sck h0 h1) sl_sck sv_sck ⟨Nat.le_of_ble_eq_true rfl, Nat.le_of_ble_eq_true rfl⟩ rfl rfl (Nat.le_of_ble_eq_true rfl) (by decide +kernel) ?_
  change VT E g 2 6 [(0, .ref v), (1, .int i)] []
  refine tt_aload_n (pc := 6) (i := 0) X (by decide +kernel) 0 rfl ?_
  refine tt_iload_n (pc := 7) (i := 1) X (by decide +kernel) 1 rfl ?_
  refine tt_bald (pc := 8) X hin (by decide +kernel) ?_
  refine tt_sipush (pc := 9) (n0 := 255) (x := 255) X (by decide +kernel) (by decide) ?_
  refine tt_iand (pc := 12) X (by decide +kernel) ?_
  refine tt_i2c (pc := 13) X (by decide +kernel) ?_
  rw [(lang_c _ hlt).1]
  exact tt_zret (lang_c _ hlt).2 X Y (by decide +kernel) rfl
theorem ms_chr {i : Int32} (h0 : ¬ i < 0) (h1 : i < 120) (hin : vp_in i 120) : MS g y_chr prog_23_method_56_code 2 (some .char) 3 64 z a v [.ref a, .int i] (some (.int (lang.getD i.toNatClampNeg 0))) := by
  refine ms_intro (by decide +kernel) (Nat.le_of_ble_eq_true rfl) (fun E X Y => ?_)
  change VT E g 2 0 [(0, .ref a), (1, .int i)] []
  have hlt : i.toNatClampNeg < 120 := Nat.not_le.mp fun q => hin (Or.inr q)
  refine tt_aload_n (pc := 0) (i := 0) X (by decide +kernel) 0 rfl ?_
  refine tt_callV (pc := 1) (As := []) (rest := []) X ms_isL sl_isL sv_isL rfl ⟨Nat.le_of_ble_eq_true rfl, Nat.le_of_ble_eq_true rfl⟩ rfl rfl (Nat.le_of_ble_eq_true rfl) (by decide +kernel) ?_
  change VT E g 2 4 [(0, .ref a), (1, .int i)] [.int 1]
  refine tt_if_eq (pc := 4) (off := 12) (tgt := 16) X (by decide +kernel) (by decide) (fun q => absurd q (by decide)) (fun _ => ?_)
  refine tt_aload_n (pc := 7) (i := 0) X (by decide +kernel) 0 rfl ?_
  refine tt_getf (pc := 8) X (fun s h => (h.1.1 0 (by decide)).2.2.1) sf_va (by decide +kernel) ?_
  refine tt_iload_n (pc := 11) (i := 1) X (by decide +kernel) 1 rfl ?_
  refine tt_callS (pc := 12) (As := [.ref v, .int i]) (rest := []) X (ms_lch h0 h1 hin) sl_lch sv_lch ⟨Nat.le_of_ble_eq_true rfl, Nat.le_of_ble_eq_true rfl⟩ rfl rfl (Nat.le_of_ble_eq_true rfl) (by decide +kernel) ?_
  change VT E g 2 15 [(0, .ref a), (1, .int i)] [.int (lang.getD i.toNatClampNeg 0)]
  exact tt_zret (lang_c _ hlt).2 X Y (by decide +kernel) rfl
/-- packed, as a function -/
def pkl : Nat → Int32 → Int32 → Int32 → Option Int32
  | 0, _, _, _ => none
  | n + 1, x, b, i => if (x + 1) * 6 ≤ i then some b else if 120 ≤ i then some b else if ¬ i < 0 ∧ i < 120 then (if lang.getD i.toNatClampNeg 0 = 32 then pkl n x (b <<< (5 &&& 31) ||| 0) (i + 1) else pkl n x (b <<< (5 &&& 31) ||| (lang.getD i.toNatClampNeg 0 - 97 + 1)) (i + 1)) else none
theorem in120 {i : Int32} (h0 : ¬ i < 0) (h1 : i < 120) : vp_in i 120 := by
  rw [vp_in_iff]
  have e : (120 : Int32).toInt = 120 := by decide
  have e0 : (0 : Int32).toInt = 0 := by decide
  rw [Int32.lt_iff_toInt_lt] at h0 h1
  rw [e] at h1
  rw [e0] at h0
  omega
theorem vt_pkd {E : En} {y : Int32} (X : CT E z a v prog_9_method_2_code 4 RC8 4 85) (Y : CZ E (some .int) (some (.int y))) : ∀ (n : Nat) (x b i : Int32), pkl n x b i = some y → VT E g 4 7 [(0, .int x), (1, .int b), (2, .int i)] [] := by
  intro n
  induction n with
  | zero => intro x b i hf; cases hf
  | succ n ih =>
    intro x b i hf
    rw [pkl] at hf
    refine tt_iload_n (pc := 7) (i := 2) X (by decide +kernel) 2 rfl ?_
    refine tt_iload_n (pc := 8) (i := 0) X (by decide +kernel) 0 rfl ?_
    refine tt_iconst (pc := 9) (n0 := 1) X (by decide +kernel) ic_1 ?_
    refine tt_iadd (pc := 10) X (by decide +kernel) ?_
    refine tt_bipush (pc := 11) (n0 := 6) (x := 6) X (by decide +kernel) (by decide) ?_
    refine tt_imul (pc := 13) X (by decide +kernel) ?_
    refine tt_icmp_ge (pc := 14) (off := 46) (tgt := 60) X (by decide +kernel) (by decide) (fun q1 => ?_) (fun q1 => ?_)
    · rw [if_pos q1] at hf
      cases hf
      refine tt_iload_n (pc := 60) (i := 1) X (by decide +kernel) 1 rfl ?_
      exact tt_iret X Y (by decide +kernel) rfl
    · rw [if_neg q1] at hf
      refine tt_iload_n (pc := 17) (i := 2) X (by decide +kernel) 2 rfl ?_
      refine tt_ldc (pc := 18) (idx := 23) X rfl rfl (by decide +kernel) ?_
      refine tt_callV (pc := 20) (As := []) (rest := [.int i]) X ms_len sl_len sv_len rfl ⟨Nat.le_of_ble_eq_true rfl, Nat.le_of_ble_eq_true rfl⟩ rfl rfl (Nat.le_of_ble_eq_true rfl) (by decide +kernel) ?_
      change VT E g 4 23 [(0, .int x), (1, .int b), (2, .int i)] [.int 120, .int i]
      refine tt_icmp_ge (pc := 23) (off := 37) (tgt := 60) X (by decide +kernel) (by decide) (fun q2 => ?_) (fun q2 => ?_)
      · rw [if_pos q2] at hf
        cases hf
        refine tt_iload_n (pc := 60) (i := 1) X (by decide +kernel) 1 rfl ?_
        exact tt_iret X Y (by decide +kernel) rfl
      · rw [if_neg q2] at hf
        by_cases q3 : ¬ i < 0 ∧ i < 120
        · rw [if_pos q3] at hf
          refine tt_ldc (pc := 26) (idx := 23) X rfl rfl (by decide +kernel) ?_
          refine tt_iload_n (pc := 28) (i := 2) X (by decide +kernel) 2 rfl ?_
          refine tt_callV (pc := 29) (As := [.int i]) (rest := []) X (ms_chr q3.1 q3.2 (in120 q3.1 q3.2)) sl_chr sv_chr rfl ⟨Nat.le_of_ble_eq_true rfl, Nat.le_of_ble_eq_true rfl⟩ rfl rfl (Nat.le_of_ble_eq_true rfl) (by decide +kernel) ?_
          change VT E g 4 32 [(0, .int x), (1, .int b), (2, .int i)] [.int (lang.getD i.toNatClampNeg 0)]
          generalize hch : lang.getD i.toNatClampNeg 0 = ch at hf ⊢
          refine tt_istore_n (pc := 32) (i := 3) (lv' := [(3, .int ch), (0, .int x), (1, .int b), (2, .int i)]) X (by decide +kernel) (Nat.le_of_ble_eq_true rfl) rfl ?_
          refine tt_iload_n (pc := 33) (i := 1) X (by decide +kernel) 2 rfl ?_
          refine tt_iconst (pc := 34) (n0 := 5) (x := 5) X (by decide +kernel) (by decide) ?_
          refine tt_ishl (pc := 35) X (by decide +kernel) ?_
          refine tt_iload_n (pc := 36) (i := 3) X (by decide +kernel) 0 rfl ?_
          refine tt_bipush (pc := 37) (n0 := 32) (x := 32) X (by decide +kernel) (by decide) ?_
          refine tt_icmp_ne (pc := 39) (off := 7) (tgt := 46) X (by decide +kernel) (by decide) (fun q4 => ?_) (fun q4 => ?_)
          · rw [if_neg q4] at hf
            refine tt_iload_n (pc := 46) (i := 3) X (by decide +kernel) 0 rfl ?_
            refine tt_bipush (pc := 47) (n0 := 97) (x := 97) X (by decide +kernel) (by decide) ?_
            refine tt_isub (pc := 49) X (by decide +kernel) ?_
            refine tt_iconst (pc := 50) (n0 := 1) X (by decide +kernel) ic_1 ?_
            refine tt_iadd (pc := 51) X (by decide +kernel) ?_
            refine tt_ior (pc := 52) X (by decide +kernel) ?_
            refine tt_istore_n (pc := 53) (i := 1) (lv' := [(1, .int (b <<< (5 &&& 31) ||| (ch - 97 + 1))), (3, .int ch), (0, .int x), (2, .int i)]) X (by decide +kernel) (Nat.le_of_ble_eq_true rfl) rfl ?_
            refine tt_iinc (pc := 54) (i := 2) (n0 := 1) (y := i + 1) (lv' := [(2, .int (i + 1)), (1, .int (b <<< (5 &&& 31) ||| (ch - 97 + 1))), (3, .int ch), (0, .int x)]) X (by decide +kernel) 3 rfl (by rw [ic_1]) (Nat.le_of_ble_eq_true rfl) rfl ?_
            refine tt_goto (pc := 57) (off := -50) (tgt := 7) X (by decide +kernel) (by decide) ?_
            refine tt_sub [3, 1, 0] rfl ?_
            exact ih _ _ _ hf
          · rw [if_pos q4] at hf
            refine tt_iconst (pc := 42) (n0 := 0) X (by decide +kernel) ic_0 ?_
            refine tt_goto (pc := 43) (off := 9) (tgt := 52) X (by decide +kernel) (by decide) ?_
            refine tt_ior (pc := 52) X (by decide +kernel) ?_
            refine tt_istore_n (pc := 53) (i := 1) (lv' := [(1, .int (b <<< (5 &&& 31) ||| 0)), (3, .int ch), (0, .int x), (2, .int i)]) X (by decide +kernel) (Nat.le_of_ble_eq_true rfl) rfl ?_
            refine tt_iinc (pc := 54) (i := 2) (n0 := 1) (y := i + 1) (lv' := [(2, .int (i + 1)), (1, .int (b <<< (5 &&& 31) ||| 0)), (3, .int ch), (0, .int x)]) X (by decide +kernel) 3 rfl (by rw [ic_1]) (Nat.le_of_ble_eq_true rfl) rfl ?_
            refine tt_goto (pc := 57) (off := -50) (tgt := 7) X (by decide +kernel) (by decide) ?_
            refine tt_sub [3, 1, 0] rfl ?_
            exact ih _ _ _ hf
        · rw [if_neg q3] at hf
          cases hf
theorem ms_pkd {x y : Int32} (hf : pkl 10 x 0 (x * 6) = some y) : MS g y_pkd prog_9_method_2_code 4 (some .int) 4 85 z a v [.int x] (some (.int y)) := by
  refine ms_intro (by decide +kernel) (Nat.le_of_ble_eq_true rfl) (fun E X Y => ?_)
  change VT E g 4 0 [(0, .int x)] []
  refine tt_iconst (pc := 0) (n0 := 0) X (by decide +kernel) ic_0 ?_
  refine tt_istore_n (pc := 1) (i := 1) (lv' := [(1, .int 0), (0, .int x)]) X (by decide +kernel) (Nat.le_of_ble_eq_true rfl) rfl ?_
  refine tt_iload_n (pc := 2) (i := 0) X (by decide +kernel) 1 rfl ?_
  refine tt_bipush (pc := 3) (n0 := 6) (x := 6) X (by decide +kernel) (by decide) ?_
  refine tt_imul (pc := 5) X (by decide +kernel) ?_
  refine tt_istore_n (pc := 6) (i := 2) (lv' := [(2, .int (x * 6)), (1, .int 0), (0, .int x)]) X (by decide +kernel) (Nat.le_of_ble_eq_true rfl) rfl ?_
  refine tt_sub [2, 1, 0] rfl ?_
  exact vt_pkd X Y 10 x 0 (x * 6) hf
end SM
theorem k_packed {E : En} {g : Gl} {d : Dt} {z a v n r k w : Nat} {cc : ByteArray} {nL F Lo mc ms pc : Nat} {ls : List (Nat × Value)} {rest : List Value} {h : Hp} {x y : Int32} (X : CK E g z a v cc nL RC8 F Lo mc ms) (hf : pkl 10 x 0 (x * 6) = some y) (_hu : True) (hR : 4 + 1 ≤ F ∧ 8 + (4 + 11) + 85 ≤ Lo) (hcs : k ≤ mc ∧ w ≤ ms) (hW : (rest.map fun v => v.category).sum ≤ 8) (hd : decode cc pc = .ok (.invokestatic 19, 3))
    (kk : VK E g d z nL n r k w (pc + 3) ls (.int y :: rest) h) : VK E g d z nL n r k w pc ls (.int x :: rest) h := by
  obtain ⟨hlk, hin, hco, hok⟩ := sl_pkd
  obtain ⟨p, e, R, s, m, args, below, meth, c0, Q⟩ := E
  obtain ⟨hx, hb, hml, hown, hts, hK, hN, hF, hL, hc, hsl, hSS, hini⟩ := X
  intro hz H locs la hP hS hl
  have hrun := va_runS (e := e) (H := H) (locs := locs) (cells := k) (slots := w) (g := F0 m pc la ([Value.int x].reverse ++ rest)) (rest := rest) (As := [.int x]) (below := below) (meth := meth) ⟨hx, hb, hml, hown, hts⟩ (ms_pkd (g := g) (z := z) (a := a) (v := v) hf) ⟨callB_of 1 hts (good_M hco) rfl rfl rfl (hts _ hin) (hts _ hlk) hok ⟨by rw [hF]; exact hR.1, by rw [hL]; exact hR.2⟩, hts _ sv_pkd⟩ ⟨blind_T, fun U hU hW => ⟨rfl, by show SS z a v U U.heap; rw [hU]; exact hSS.at hS hW⟩⟩ rfl rfl hl.1 rfl (lv_room hW) hd ⟨by rw [hc]; exact hcs.1, by rw [hsl]; exact hcs.2⟩
  exact va_callT hrun (kk hz H locs la hP hS hl)
