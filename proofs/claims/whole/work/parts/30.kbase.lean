/-! constructors: cells made one behind another from the address z on (written by wip/whole/ctorbase.py) -/
/-- kinds, lengths, references in the order in which they are laid, how many must be laid for a cell to be whole -/
abbrev Dt : Type := List Nat × List Nat × List (Nat × Nat × Nat) × List Nat
def pk (d : Dt) (n r c : Nat) : Nat := if n ≤ c then 99 else match d.1[c]? with
  | none => 99
  | some k => if k < 20 then (if d.2.2.2.getD c 0 ≤ r then k else 30 + k) else k
def pr (d : Dt) (r c j : Nat) : Option Nat := ((d.2.2.1.take r).find? (fun q => q.1 == c && q.2.1 == j)).map (fun q => q.2.2)
def pt (d : Dt) (n r : Nat) : Tb := (n, pk d n r, fun c => d.2.1.getD c 0, pr d r)
def rz (z c : Nat) : Nat := z + c
theorem inj_rz (tb : Tb) (z : Nat) : inj tb (rz z) := by
  intro a b _ _ h
  unfold rz at h
  omega
def zc (h : Hp) (n : Nat) : Hp := (fun a b => if a = n then 0 else h.1 a b, fun a b => if a = n then 0 else h.2 a b)
def lang : List Int32 := [114, 111, 97, 100, 32, 32, 116, 114, 111, 117, 103, 104, 104, 111, 114, 115, 101, 32, 108, 97, 112, 32, 32, 32, 114, 97, 105, 110, 32, 32, 115, 101, 101, 100, 32, 32, 108, 97, 119, 32, 32, 32, 100, 114, 121, 32, 32, 32, 103, 117, 108, 112, 32, 32, 102, 105, 103, 104, 116, 32, 97, 110, 100, 32, 32, 32, 111, 114, 32, 32, 32, 32, 110, 111, 116, 32, 32, 32, 116, 104, 105, 114, 115, 116, 112, 97, 99, 101, 32, 32, 115, 105, 100, 101, 32, 32, 119, 97, 116, 101, 114, 32, 102, 97, 114, 32, 32, 32, 104, 117, 114, 116, 32, 32, 104, 111, 117, 114, 32, 32]
def langT : String := "road  troughhorse lap   rain  seed  law   dry   gulp  fight and   or    not   thirstpace  side  water far   hurt  hour  "
def SS (z a v : Nat) (U : State) (H : Heap) : Prop := vk_S 1 [120] [lang] (fun _ => a) (fun _ => v) (fun q => z ≤ q) U H ∧ va_Z "java/lang/String" "COMPACT_STRINGS" "Z" (.int 1) (fun q => z ≤ q) U H ∧ vk_R RC8 23 langT a U ∧ va_Zq "jdk/internal/util/Preconditions" "SIOOBE_FORMATTER" "Ljava/util/function/BiFunction;" (fun q => z ≤ q) U H

theorem SS.kept {z a v : Nat} {U : State} {H H1 : Heap} (h : SS z a v U H) (hq : ∀ q : Nat, q < H.size → ¬ z ≤ q → H1[q]? = H[q]?) : SS z a v U H1 := by
  refine ⟨h.1.kept hq, h.2.1.kept hq, h.2.2.1, ?_⟩
  rcases h.2.2.2 with q | ⟨t, q⟩
  · exact Or.inl (q.kept hq)
  · exact Or.inr ⟨t, q.kept hq⟩
theorem SS.warm {z a v : Nat} {s U : State} {H : Heap} (hW : s.WarmedH U.vm) (h : SS z a v s H) : SS z a v U H := by
  refine ⟨h.1.moved hW.alike, h.2.1.moved hW.alike, h.2.2.1.warm hW, ?_⟩
  rcases h.2.2.2 with q | ⟨t, q⟩
  · exact Or.inl (q.moved hW.alike)
  · exact Or.inr ⟨t, q.moved hW.alike⟩
theorem SS.same {z a v : Nat} {s U : State} {H : Heap} (hv : U.vm = s.vm) (h : SS z a v s H) : SS z a v U H := by
  have ha : s.vm.Alike U.vm := by rw [hv]; exact Vm.Alike.refl _
  refine ⟨h.1.moved ha, h.2.1.moved ha, h.2.2.1.same hv, ?_⟩
  rcases h.2.2.2 with q | ⟨t, q⟩
  · exact Or.inl (q.moved ha)
  · exact Or.inr ⟨t, q.moved ha⟩
/-- the world under construction, and what it stands on -/
def KW (g : Gl) (d : Dt) (z n r : Nat) (h : Hp) (H : Heap) : Prop := va_P g.2.1 classes (wsO g.2.2 (pt d n r) (rz z) h) H ∧ H.size = z + n
def VK (E : En) (g : Gl) (d : Dt) (z nL n r k w pc : Nat) (ls : List (Nat × Value)) (st : List Value) (h : Hp) : Prop := match E with
  | (p, e, R, s, m, args, below, meth, c, Q) => s.heap.size + k = z + n → ∀ (H : Heap) (locs : List Loc) (la : Array Slot), KW g d z n r h H → va_S (fun q => z ≤ q) s.heap H locs → lv_has la nL ls → W p g.1 e R s m args below meth c H locs k w Q (F0 m pc la st)
def CK (E : En) (g : Gl) (z a v : Nat) (cc : ByteArray) (nL : Nat) (own : String) (F Lo mc ms : Nat) : Prop := match E with
  | (p, e, R, s, m, args, below, meth, c, Q) => p.tables.exec = Jvm.exec ∧ c.code = cc ∧ c.maxLocals = nL ∧ s.vm.findClass own = some m.cls ∧ (∀ w ∈ GW, w.before args s = true) ∧ va_K g.2.1 classes (tysO g.2.2) s ∧ NN s ∧ R.frames = F ∧ R.locals = Lo ∧ R.cells = mc ∧ R.slots = ms ∧ SS z a v s s.heap ∧ meth.name = "<init>"
def QK (g : Gl) (d : Dt) (z n' r' : Nat) (h' : Hp) : Array Value → State → Outcome → State → Prop := fun _ st oc t => oc = .returned none ∧ KW g d z n' r' h' t.heap ∧ va_F (fun q => z ≤ q) st t
def CY (E : En) (g : Gl) (d : Dt) (z n' r' mc ms : Nat) (h' : Hp) : Prop := match E with
  | (p, e, R, s, m, args, below, meth, c, Q) => Q = MQ below (QK g d z n' r' h') args s mc ms (fun q => z ≤ q) ∧ meth.locks = false ∧ meth.sig.returnType = none
def MK (g : Gl) (y : MethodName) (cc : ByteArray) (nL F Lo mc ms : Nat) (d : Dt) (z a v n r : Nat) (as : List Value) (h : Hp) (n' r' : Nat) (h' : Hp) : Prop :=
  Met g.1 y (Cond.code y cc nL none :: GW) { frames := F, cells := mc, slots := ms, locals := Lo } (va_Pc as (fun U => KW g d z n r h U.heap ∧ va_K g.2.1 classes (tysO g.2.2) U ∧ NN U ∧ SS z a v U U.heap)) (QK g d z n' r' h') mc ms (fun q => z ≤ q)
theorem mk_intro {g : Gl} {y : MethodName} {cc : ByteArray} {nL F Lo mc ms : Nat} {d : Dt} {z a v n r : Nat} {as : List Value} {h : Hp} {n' r' : Nat} {h' : Hp} (hy : plainName y.cls = true) (hy2 : y.name = "<init>") (hl : (lg_sl as).length ≤ nL)
    (body : ∀ E : En, CK E g z a v cc nL y.cls F Lo mc ms → CY E g d z n' r' mc ms h' → VK E g d z nL n r 0 0 0 (lv_args 0 as) [] h) : MK g y cc nL F Lo mc ms d z a v n r as h n' r' h' := by
  refine Met.ofW (cc := cc) (maxL := nL) (ret := none) hy rfl ?_
  intro p e s m args below meth c s₁ B hml hv
  obtain ⟨rfl, hP, hK, hN, hSS⟩ := hv
  have hts := atoms_spec (ws := Cond.code y cc nL none :: GW) B.pre
  have hown : s.vm.findClass y.cls = some m.cls := findClass_of_methodNamed B.named
  have hle := lv_entry as (n := nL) hl
  have hin : meth.name = y.name := (name_of_methodNamed B.named B.method).1
  have b := body (p, e, ({ frames := F, cells := mc, slots := ms, locals := Lo } : Room), s, m, as.toArray, below, meth, c, MQ below (QK g d z n' r' h') as.toArray s mc ms (fun q => z ≤ q)) ⟨B.exec, B.bytes, hml, hown, fun w hw => hts w (List.mem_cons_of_mem _ hw), hK, hN, rfl, rfl, rfl, rfl, hSS, hin.trans hy2⟩ ⟨rfl, B.notSynchronized, B.returns⟩ (by rw [hP.2]; rfl) s.heap [] _ hP va_S.rf hle
  rw [lg_entry_eq]
  exact b
theorem W.sz {p : Program} {l : Launch} {e : Env} {R : Room} {s : State} {m : MethodId} {args : Array Value} {below : List Frame} {meth : Method} {c : Code} {H : Heap} {locs : List Loc} {cells slots : Nat} {Q : State → Prop} {g : JFrame} (kk : H.size ≤ s.heap.size + cells → W p l e R s m args below meth c H locs cells slots Q g) : W p l e R s m args below meth c H locs cells slots Q g := fun T hT X => kk (by rw [← hT]; exact X.heapSize) T hT X
theorem lbK {D : va_G} {dA : Nat → ClassId} {d : Dt} {z n r : Nat} {h : Hp} {H : Heap} (hP : va_P D classes (wsO dA (pt d n r) (rz z) h) H) (hn : 0 < n) : z + n ≤ H.size := by
  have h1 := (hP (n - 1) _ (wsO_at (show n - 1 < (pt d n r).1 by show n - 1 < n; omega))).lt
  have h2 : rz z (n - 1) < H.size := h1
  unfold rz at h2
  omega
section KR
variable {E : En} {g : Gl} {d : Dt} {z a v n r k w : Nat} {cc : ByteArray} {nL : Nat} {own : String} {F Lo mc ms pc : Nat} {ls : List (Nat × Value)} {st : List Value} {h : Hp}
theorem k_iconst {n0 : Int} {x : Int32} (X : CK E g z a v cc nL own F Lo mc ms) (hd : decode cc pc = .ok (.iconst n0, 1)) (hv : Int32.ofInt n0 = x) (kk : VK E g d z nL (n) (r) (k) (w) (pc + 1) ls (.int x :: st) (h)) : VK E g d z nL (n) (r) (k) (w) (pc) ls (st) (h) := by
  obtain ⟨p, e, R, s, m, args, below, meth, c0, Q⟩ := E
  obtain ⟨hx, hb, hml, hown, hts, hK, hN, hF, hL, hc, hsl, hSS, hini⟩ := X
  intro hz H locs la hP hS hl
  exact lv_iconst hx hb hd hv (kk hz H locs la hP hS hl)
theorem k_bipush {n0 : Int} {x : Int32} (X : CK E g z a v cc nL own F Lo mc ms) (hd : decode cc pc = .ok (.bipush n0, 2)) (hv : (Int8.ofInt n0).toInt32 = x) (kk : VK E g d z nL (n) (r) (k) (w) (pc + 2) ls (.int x :: st) (h)) : VK E g d z nL (n) (r) (k) (w) (pc) ls (st) (h) := by
  obtain ⟨p, e, R, s, m, args, below, meth, c0, Q⟩ := E
  obtain ⟨hx, hb, hml, hown, hts, hK, hN, hF, hL, hc, hsl, hSS, hini⟩ := X
  intro hz H locs la hP hS hl
  exact lv_bipush hx hb hd hv (kk hz H locs la hP hS hl)
theorem k_sipush {n0 : Int} {x : Int32} (X : CK E g z a v cc nL own F Lo mc ms) (hd : decode cc pc = .ok (.sipush n0, 3)) (hv : (Int16.ofInt n0).toInt32 = x) (kk : VK E g d z nL (n) (r) (k) (w) (pc + 3) ls (.int x :: st) (h)) : VK E g d z nL (n) (r) (k) (w) (pc) ls (st) (h) := by
  obtain ⟨p, e, R, s, m, args, below, meth, c0, Q⟩ := E
  obtain ⟨hx, hb, hml, hown, hts, hK, hN, hF, hL, hc, hsl, hSS, hini⟩ := X
  intro hz H locs la hP hS hl
  exact lv_sipush hx hb hd hv (kk hz H locs la hP hS hl)
theorem k_dup {b : Value} (X : CK E g z a v cc nL own F Lo mc ms) (hd : decode cc pc = .ok (.dup, 1)) (ha : b.category = 1) (kk : VK E g d z nL (n) (r) (k) (w) (pc + 1) ls (b :: b :: st) (h)) : VK E g d z nL (n) (r) (k) (w) (pc) ls (b :: st) (h) := by
  obtain ⟨p, e, R, s, m, args, below, meth, c0, Q⟩ := E
  obtain ⟨hx, hb, hml, hown, hts, hK, hN, hF, hL, hc, hsl, hSS, hini⟩ := X
  intro hz H locs la hP hS hl
  exact lv_dup hx hb hd ha (kk hz H locs la hP hS hl)
theorem k_iload_n {i : Fin 4} {x : Int32} (X : CK E g z a v cc nL own F Lo mc ms) (hd : decode cc pc = .ok (.iload_n i, 1)) (q : Nat) (hq : ls[q]? = some ((i : Nat), .int x)) (kk : VK E g d z nL (n) (r) (k) (w) (pc + 1) ls (.int x :: st) (h)) : VK E g d z nL (n) (r) (k) (w) (pc) ls (st) (h) := by
  obtain ⟨p, e, R, s, m, args, below, meth, c0, Q⟩ := E
  obtain ⟨hx, hb, hml, hown, hts, hK, hN, hF, hL, hc, hsl, hSS, hini⟩ := X
  intro hz H locs la hP hS hl
  exact lv_iload_n hx hb hd rfl (lv_at hl q hq) (kk hz H locs la hP hS hl)
theorem k_aload_n {i : Fin 4} {x : Nat} (X : CK E g z a v cc nL own F Lo mc ms) (hd : decode cc pc = .ok (.aload_n i, 1)) (q : Nat) (hq : ls[q]? = some ((i : Nat), .ref x)) (kk : VK E g d z nL (n) (r) (k) (w) (pc + 1) ls (.ref x :: st) (h)) : VK E g d z nL (n) (r) (k) (w) (pc) ls (st) (h) := by
  obtain ⟨p, e, R, s, m, args, below, meth, c0, Q⟩ := E
  obtain ⟨hx, hb, hml, hown, hts, hK, hN, hF, hL, hc, hsl, hSS, hini⟩ := X
  intro hz H locs la hP hS hl
  exact lv_aload_n hx hb hd rfl (lv_at hl q hq) (kk hz H locs la hP hS hl)
theorem k_istore_n {i : Fin 4} {x : Int32} {lv' : List (Nat × Value)} (X : CK E g z a v cc nL own F Lo mc ms) (hd : decode cc pc = .ok (.istore_n i, 1)) (hn : (i : Nat) < nL) (hl' : ((i : Nat), Value.int x) :: ls.filter (fun q => !(q.1 == (i : Nat)) && !(q.1 + 1 == (i : Nat) && q.2.category == 2)) = lv') (kk : VK E g d z nL (n) (r) (k) (w) (pc + 1) lv' (st) (h)) : VK E g d z nL (n) (r) (k) (w) (pc) ls (Value.int x :: st) (h) := by
  obtain ⟨p, e, R, s, m, args, below, meth, c0, Q⟩ := E
  obtain ⟨hx, hb, hml, hown, hts, hK, hN, hF, hL, hc, hsl, hSS, hini⟩ := X
  intro hz H locs la hP hS hl
  exact lv_istore_n hx hb hd rfl hl hn hl' (fun la hl => kk hz H locs la hP hS hl)
theorem k_iinc {i : Nat} {n0 : Int} {x y : Int32} {lv' : List (Nat × Value)} (X : CK E g z a v cc nL own F Lo mc ms) (hd : decode cc pc = .ok (.iinc i n0, 3)) (q : Nat) (hq : ls[q]? = some (i, .int x)) (hv : x + Int32.ofInt n0 = y) (hn : i < nL) (hl' : (i, Value.int y) :: ls.filter (fun q => !(q.1 == i) && !(q.1 + 1 == i && q.2.category == 2)) = lv') (kk : VK E g d z nL (n) (r) (k) (w) (pc + 3) lv' (st) (h)) : VK E g d z nL (n) (r) (k) (w) (pc) ls (st) (h) := by
  obtain ⟨p, e, R, s, m, args, below, meth, c0, Q⟩ := E
  obtain ⟨hx, hb, hml, hown, hts, hK, hN, hF, hL, hc, hsl, hSS, hini⟩ := X
  intro hz H locs la hP hS hl
  exact lv_iinc hx hb hd hl hq hv hn hl' (fun la hl => kk hz H locs la hP hS hl)
theorem k_goto {off : Int} {tgt : Nat} (X : CK E g z a v cc nL own F Lo mc ms) (hd : decode cc pc = .ok (.goto off, 3)) (ht : (pc : Int) + off = (tgt : Int)) (kk : VK E g d z nL (n) (r) (k) (w) (tgt) ls (st) (h)) : VK E g d z nL (n) (r) (k) (w) (pc) ls (st) (h) := by
  obtain ⟨p, e, R, s, m, args, below, meth, c0, Q⟩ := E
  obtain ⟨hx, hb, hml, hown, hts, hK, hN, hF, hL, hc, hsl, hSS, hini⟩ := X
  intro hz H locs la hP hS hl
  exact lv_goto hx hb hd ht (kk hz H locs la hP hS hl)
theorem k_icmp_ge {x y : Int32} {off : Int} {tgt : Nat} (X : CK E g z a v cc nL own F Lo mc ms) (hd : decode cc pc = .ok (.if_icmp .ge off, 3)) (ht : (pc : Int) + off = (tgt : Int)) (kt : y ≤ x → VK E g d z nL (n) (r) (k) (w) (tgt) ls (st) (h)) (kf : ¬ y ≤ x → VK E g d z nL (n) (r) (k) (w) (pc + 3) ls (st) (h)) : VK E g d z nL (n) (r) (k) (w) (pc) ls (.int y :: .int x :: st) (h) := by
  obtain ⟨p, e, R, s, m, args, below, meth, c0, Q⟩ := E
  obtain ⟨hx, hb, hml, hown, hts, hK, hN, hF, hL, hc, hsl, hSS, hini⟩ := X
  intro hz H locs la hP hS hl
  exact lv_icmp_ge hx hb hd ht (fun q => kt q hz H locs la hP hS hl) (fun q => kf q hz H locs la hP hS hl)
theorem k_sub {lv' : List (Nat × Value)} (ks : List Nat) (hk : lv_pick ls ks = lv') (kk : VK E g d z nL (n) (r) (k) (w) (pc) lv' (st) (h)) : VK E g d z nL (n) (r) (k) (w) (pc) ls (st) (h) := by
  obtain ⟨p, e, R, s, m, args, below, meth, c0, Q⟩ := E
  intro hz H locs la hP hS hl
  exact kk hz H locs la hP hS (lv_sub hl ks hk)
theorem k_obj {idx b : Nat} (X : CK E g z a v cc nL own F Lo mc ms) (hw : Cond.methodLink own idx Lib.objectInit ∈ GW) (hi : Cond.instanceMethod Lib.objectInit ∈ GW) (hco : Cond.code Lib.objectInit ⟨#[0xb1]⟩ 1 none ∈ GW) (hR : 1 ≤ F ∧ (st.map fun v => v.category).sum + 12 ≤ Lo) (hd : decode cc pc = .ok (.invokespecial idx, 3)) (kk : VK E g d z nL (n) (r) (k) (w) (pc + 3) ls (st) (h)) : VK E g d z nL (n) (r) (k) (w) (pc) ls (.ref b :: st) (h) := by
  obtain ⟨p, e, R, s, m, args, below, meth, c0, Q⟩ := E
  obtain ⟨hx, hb, hml, hown, hts, hK, hN, hF, hL, hc, hsl, hSS, hini⟩ := X
  intro hz H locs la hP hS hl
  refine W.objInit hx hb hown (hts _ hw) (hts _ hi) (hts _ hco) rfl (hl.1.trans hml.symm) rfl hd (by rw [hF]; exact hR.1) ?_ (kk hz H locs la hP hS hl)
  rw [hL]
  show 2 * 0 + _ + 12 ≤ Lo
  omega
theorem ent_cg {dA : Nat → ClassId} {tb tb' : Tb} {ρ : Nat → Nat} {u : Nat → Int32} {y : Nat → Int64} {c : Nat} (h1 : kd tb c = kd tb' c) (h2 : al tb c = al tb' c) (h3 : ∀ j, rfs tb c j = rfs tb' c j) : ent dA tb ρ u y c = ent dA tb' ρ u y c := by
  unfold ent
  rw [h1, h2]
  simp only [fv, h3]
theorem oc30 {i : Nat} (hi : i < 20) : oc (30 + i) = i := by
  unfold oc
  rw [if_pos (by omega)]
  omega
/-- an object's entry, whole or not -/
theorem ent_K {dA : Nat → ClassId} {u : Nat → Int32} {y : Nat → Int64} {c ci : Nat} (hc : c < n) (hk : d.1[c]? = some ci) (h20 : ci < 20) : ent dA (pt d n r) (rz z) u y c = .inr (ci, (List.range (nf ci)).map (fun j => fv (pt d n r) (rz z) u y c j (fty ci j))) := by
  have h1 : kd (pt d n r) c = ci ∨ kd (pt d n r) c = 30 + ci := by
    show pk d n r c = ci ∨ pk d n r c = 30 + ci
    unfold pk
    rw [if_neg (by omega), hk]
    dsimp only
    rw [if_pos h20]
    by_cases q : d.2.2.2.getD c 0 ≤ r
    · rw [if_pos q]; exact Or.inl rfl
    · rw [if_neg q]; exact Or.inr rfl
  rcases h1 with h1 | h1
  · exact ent_obj h1 h20
  · unfold ent
    rw [h1, if_neg (by omega), if_neg (by omega), if_neg (by omega), if_neg (by omega), oc30 h20]
theorem kd_arr {c K : Nat} (hc : c < n) (hk : d.1[c]? = some K) (hK : 20 ≤ K) : kd (pt d n r) c = K := by
  show pk d n r c = K
  unfold pk
  rw [if_neg (by omega), hk]
  dsimp only
  rw [if_neg (by omega)]
theorem wsK_push {dA : Nat → ClassId} : wsO dA (pt d (n + 1) r) (rz z) (zc h n) = wsO dA (pt d n r) (rz z) h ++ [(z + n, ent dA (pt d (n + 1) r) (rz z) (fun _ => 0) (fun _ => 0) n)] := by
  show (List.range (n + 1)).map _ = (List.range n).map _ ++ _
  rw [List.range_succ, List.map_append]
  congr 1
  · apply List.map_congr_left
    intro c hc
    have hc : c < n := List.mem_range.mp hc
    have e1 : (zc h n).1 c = h.1 c := by funext b; simp [zc, Nat.ne_of_lt hc]
    have e2 : (zc h n).2 c = h.2 c := by funext b; simp [zc, Nat.ne_of_lt hc]
    rw [e1, e2]
    congr 1
    refine ent_cg ?_ rfl (fun _ => rfl)
    show pk d (n + 1) r c = pk d n r c
    unfold pk
    rw [if_neg (by omega), if_neg (by omega)]
  · have e1 : (zc h n).1 n = fun _ => 0 := by funext b; simp [zc]
    have e2 : (zc h n).2 n = fun _ => 0 := by funext b; simp [zc]
    simp only [List.map_cons, List.map_nil, e1, e2, rz]
def okT : FieldType → Bool
  | .float => false
  | .double => false
  | _ => true
theorem k_new {idx ci N : Nat} {C : String} {T : u_T} {h1 : Hp} (X : CK E g z a v cc nL own F Lo mc ms) (hC : CLs ci C T N) (hcl : Cond.classLink own idx C ∈ GW) (hin : Cond.instantiable C N ∈ GW) (hit : Cond.initialized C ∈ GW) (hk : d.1[n]? = some ci) (hr : ∀ j, j < N → pr d r n j = none) (hft : ∀ j, j < N → okT (fty ci j) = true) (hR : k + 1 ≤ mc ∧ w + N ≤ ms) (hd : decode cc pc = .ok (.new idx, 3)) (he : h1 = zc h n) (kk : VK E g d z nL (n + 1) (r) (k + 1) (w + N) (pc + 3) ls (.ref (rz z n) :: st) (h1)) : VK E g d z nL (n) (r) (k) (w) (pc) ls (st) (h) := by
  subst he
  obtain ⟨a1, a2, a3, a4, a5, a6, a7⟩ := hC
  obtain ⟨p, e, R, s, m, args, below, meth, c0, Q⟩ := E
  obtain ⟨hx, hb, hml, hown, hts, hK, hN, hF, hL, hc, hsl, hSS, hini⟩ := X
  intro hz H locs la hP hS hl
  have hKn := hK.1 ci _ a1
  refine W.newcK hx hb hown (hts _ hcl) (hts _ hin) (hts _ hit) rfl hd (by rw [hc]; exact hR.1) (by rw [hsl]; exact hR.2) hKn.2.1 hP.2 fun H1 kC hkC e1 z1 o1 => ?_
  refine kk (by omega) H1 locs la ⟨?_, by omega⟩ ⟨by have := hS.1; have := hP.2; omega, fun q q1 q2 => (o1 q (by have := hS.1; have := hP.2; omega)).trans (hS.2.1 q q1 q2), hS.2.2⟩ hl
  rw [wsK_push]
  refine (hP.1.kept (fun i x hx => o1 x.1 (by have := (hP.1 i x hx).lt; have := hP.2; omega))).app (fun i x hx => ?_)
  have hi : i < 1 := (List.getElem?_eq_some_iff.mp hx).1
  rw [show i = 0 by omega] at hx
  cases hx
  rw [ent_K (Nat.lt_succ_self n) hk a3]
  refine ⟨_, a1, (u_born (fty ci) hts a4 hKn hkC e1 a5).to (fun j hj => ?_)⟩
  have hj2 : j < nf ci := by rw [a2]; exact hj
  simp only [vp_V, List.getD_eq_getElem?_getD, List.getElem?_map, List.getElem?_range hj2, Option.map_some, Option.getD_some]
  have hr' : rfs (pt d (n + 1) r) n j = none := hr j hj
  have hq := hft j hj
  unfold fv
  rw [hr']
  generalize fty ci j = ft at hq ⊢
  cases ft <;> first | rfl | cases hq
theorem k_newa_i {x : Int32} {N : Nat} {h1 : Hp} (X : CK E g z a v cc nL own F Lo mc ms) (har : Cond.arrayClass .int ∈ GW) (hk : d.1[n]? = some 20) (hal : d.2.1.getD n 0 = N) (hx0 : ¬ x < 0) (hNx : x.toNatClampNeg = N) (hb8 : N * 8 ≤ 536870912) (hR : k + 1 ≤ mc ∧ w + N ≤ ms) (hd : decode cc pc = .ok (.newarray .int, 2)) (he : h1 = zc h n) (kk : VK E g d z nL (n + 1) (r) (k + 1) (w + N) (pc + 2) ls (.ref (rz z n) :: st) (h1)) : VK E g d z nL (n) (r) (k) (w) (pc) ls (.int x :: st) (h) := by
  subst he
  obtain ⟨p, e, R, s, m, args, below, meth, c0, Q⟩ := E
  obtain ⟨hx, hb, hml, hown, hts, hK, hN, hF, hL, hc, hsl, hSS, hini⟩ := X
  intro hz H locs la hP hS hl
  refine va_newaK (atype := .int) hx hb (hts _ har) rfl hd rfl hx0 hNx (by show N * 4 ≤ _; omega) (by rw [hc]; exact hR.1) (by rw [hsl]; exact hR.2) hP.2 fun H1 cA e1 z1 o1 hAr hNm => ?_
  have hA0 : cA = g.2.2 0 := by
    have h0 := (hK.2 0 _ rfl).2
    have h1 : s.vm.findClass ("[" ++ (.int : FieldType).toString) = some (g.2.2 0) := h0
    exact Option.some.inj (hNm.symm.trans h1)
  refine kk (by omega) H1 locs la ⟨?_, by omega⟩ ⟨by have := hS.1; have := hP.2; omega, fun q q1 q2 => (o1 q (by have := hS.1; have := hP.2; omega)).trans (hS.2.1 q q1 q2), hS.2.2⟩ hl
  rw [wsK_push]
  refine (hP.1.kept (fun i x hx => o1 x.1 (by have := (hP.1 i x hx).lt; have := hP.2; omega))).app (fun i x hx => ?_)
  have hi : i < 1 := (List.getElem?_eq_some_iff.mp hx).1
  rw [show i = 0 by omega] at hx
  cases hx
  rw [ent_20 (kd_arr (Nat.lt_succ_self n) hk (by decide))]
  show H1[z + n]? = some (vp_cell _ _)
  rw [e1, hA0, show al (pt d (n + 1) r) n = N from hal]
  rfl
theorem k_newa_b {x : Int32} {N : Nat} {h1 : Hp} (X : CK E g z a v cc nL own F Lo mc ms) (har : Cond.arrayClass .byte ∈ GW) (hk : d.1[n]? = some 21) (hal : d.2.1.getD n 0 = N) (hx0 : ¬ x < 0) (hNx : x.toNatClampNeg = N) (hb8 : N * 8 ≤ 536870912) (hR : k + 1 ≤ mc ∧ w + N ≤ ms) (hd : decode cc pc = .ok (.newarray .byte, 2)) (he : h1 = zc h n) (kk : VK E g d z nL (n + 1) (r) (k + 1) (w + N) (pc + 2) ls (.ref (rz z n) :: st) (h1)) : VK E g d z nL (n) (r) (k) (w) (pc) ls (.int x :: st) (h) := by
  subst he
  obtain ⟨p, e, R, s, m, args, below, meth, c0, Q⟩ := E
  obtain ⟨hx, hb, hml, hown, hts, hK, hN, hF, hL, hc, hsl, hSS, hini⟩ := X
  intro hz H locs la hP hS hl
  refine va_newaK (atype := .byte) hx hb (hts _ har) rfl hd rfl hx0 hNx (by show N * 1 ≤ _; omega) (by rw [hc]; exact hR.1) (by rw [hsl]; exact hR.2) hP.2 fun H1 cA e1 z1 o1 hAr hNm => ?_
  have hA0 : cA = g.2.2 1 := by
    have h0 := (hK.2 1 _ rfl).2
    have h1 : s.vm.findClass ("[" ++ (.byte : FieldType).toString) = some (g.2.2 1) := h0
    exact Option.some.inj (hNm.symm.trans h1)
  refine kk (by omega) H1 locs la ⟨?_, by omega⟩ ⟨by have := hS.1; have := hP.2; omega, fun q q1 q2 => (o1 q (by have := hS.1; have := hP.2; omega)).trans (hS.2.1 q q1 q2), hS.2.2⟩ hl
  rw [wsK_push]
  refine (hP.1.kept (fun i x hx => o1 x.1 (by have := (hP.1 i x hx).lt; have := hP.2; omega))).app (fun i x hx => ?_)
  have hi : i < 1 := (List.getElem?_eq_some_iff.mp hx).1
  rw [show i = 0 by omega] at hx
  cases hx
  rw [ent_21 (kd_arr (Nat.lt_succ_self n) hk (by decide))]
  show H1[z + n]? = some (vp_cell _ _)
  rw [e1, hA0, show al (pt d (n + 1) r) n = N from hal]
  rfl
theorem k_newa_z {x : Int32} {N : Nat} {h1 : Hp} (X : CK E g z a v cc nL own F Lo mc ms) (har : Cond.arrayClass .boolean ∈ GW) (hk : d.1[n]? = some 22) (hal : d.2.1.getD n 0 = N) (hx0 : ¬ x < 0) (hNx : x.toNatClampNeg = N) (hb8 : N * 8 ≤ 536870912) (hR : k + 1 ≤ mc ∧ w + N ≤ ms) (hd : decode cc pc = .ok (.newarray .boolean, 2)) (he : h1 = zc h n) (kk : VK E g d z nL (n + 1) (r) (k + 1) (w + N) (pc + 2) ls (.ref (rz z n) :: st) (h1)) : VK E g d z nL (n) (r) (k) (w) (pc) ls (.int x :: st) (h) := by
  subst he
  obtain ⟨p, e, R, s, m, args, below, meth, c0, Q⟩ := E
  obtain ⟨hx, hb, hml, hown, hts, hK, hN, hF, hL, hc, hsl, hSS, hini⟩ := X
  intro hz H locs la hP hS hl
  refine va_newaK (atype := .boolean) hx hb (hts _ har) rfl hd rfl hx0 hNx (by show N * 1 ≤ _; omega) (by rw [hc]; exact hR.1) (by rw [hsl]; exact hR.2) hP.2 fun H1 cA e1 z1 o1 hAr hNm => ?_
  have hA0 : cA = g.2.2 2 := by
    have h0 := (hK.2 2 _ rfl).2
    have h1 : s.vm.findClass ("[" ++ (.boolean : FieldType).toString) = some (g.2.2 2) := h0
    exact Option.some.inj (hNm.symm.trans h1)
  refine kk (by omega) H1 locs la ⟨?_, by omega⟩ ⟨by have := hS.1; have := hP.2; omega, fun q q1 q2 => (o1 q (by have := hS.1; have := hP.2; omega)).trans (hS.2.1 q q1 q2), hS.2.2⟩ hl
  rw [wsK_push]
  refine (hP.1.kept (fun i x hx => o1 x.1 (by have := (hP.1 i x hx).lt; have := hP.2; omega))).app (fun i x hx => ?_)
  have hi : i < 1 := (List.getElem?_eq_some_iff.mp hx).1
  rw [show i = 0 by omega] at hx
  cases hx
  rw [ent_22 (kd_arr (Nat.lt_succ_self n) hk (by decide))]
  show H1[z + n]? = some (vp_cell _ _)
  rw [e1, hA0, show al (pt d (n + 1) r) n = N from hal]
  rfl
theorem k_newa_l {x : Int32} {N : Nat} {h1 : Hp} (X : CK E g z a v cc nL own F Lo mc ms) (har : Cond.arrayClass .long ∈ GW) (hk : d.1[n]? = some 23) (hal : d.2.1.getD n 0 = N) (hx0 : ¬ x < 0) (hNx : x.toNatClampNeg = N) (hb8 : N * 8 ≤ 536870912) (hR : k + 1 ≤ mc ∧ w + N ≤ ms) (hd : decode cc pc = .ok (.newarray .long, 2)) (he : h1 = zc h n) (kk : VK E g d z nL (n + 1) (r) (k + 1) (w + N) (pc + 2) ls (.ref (rz z n) :: st) (h1)) : VK E g d z nL (n) (r) (k) (w) (pc) ls (.int x :: st) (h) := by
  subst he
  obtain ⟨p, e, R, s, m, args, below, meth, c0, Q⟩ := E
  obtain ⟨hx, hb, hml, hown, hts, hK, hN, hF, hL, hc, hsl, hSS, hini⟩ := X
  intro hz H locs la hP hS hl
  refine va_newaK (atype := .long) hx hb (hts _ har) rfl hd rfl hx0 hNx (by show N * 8 ≤ _; omega) (by rw [hc]; exact hR.1) (by rw [hsl]; exact hR.2) hP.2 fun H1 cA e1 z1 o1 hAr hNm => ?_
  have hA0 : cA = g.2.2 3 := by
    have h0 := (hK.2 3 _ rfl).2
    have h1 : s.vm.findClass ("[" ++ (.long : FieldType).toString) = some (g.2.2 3) := h0
    exact Option.some.inj (hNm.symm.trans h1)
  refine kk (by omega) H1 locs la ⟨?_, by omega⟩ ⟨by have := hS.1; have := hP.2; omega, fun q q1 q2 => (o1 q (by have := hS.1; have := hP.2; omega)).trans (hS.2.1 q q1 q2), hS.2.2⟩ hl
  rw [wsK_push]
  refine (hP.1.kept (fun i x hx => o1 x.1 (by have := (hP.1 i x hx).lt; have := hP.2; omega))).app (fun i x hx => ?_)
  have hi : i < 1 := (List.getElem?_eq_some_iff.mp hx).1
  rw [show i = 0 by omega] at hx
  cases hx
  rw [ent_23 (kd_arr (Nat.lt_succ_self n) hk (by decide))]
  show H1[z + n]? = some (vp_cell _ _)
  rw [e1, hA0, show al (pt d (n + 1) r) n = N from hal]
  rfl
theorem pr_o {c j c2 j2 t : Nat} (hr : d.2.2.1[r]? = some (c, j, t)) (hne : ¬ (c = c2 ∧ j = j2)) : pr d (r + 1) c2 j2 = pr d r c2 j2 := by
  unfold pr
  have hb : (c == c2 && j == j2) = false := by
    rw [Bool.and_eq_false_iff]
    rcases Classical.em (c = c2) with q | q
    · rcases Classical.em (j = j2) with q2 | q2
      · exact absurd ⟨q, q2⟩ hne
      · exact Or.inr (by simpa using q2)
    · exact Or.inl (by simpa using q)
  rw [List.take_succ, hr, List.find?_append]
  simp [List.find?_cons, hb]
theorem pr_s {c j t : Nat} (hr : d.2.2.1[r]? = some (c, j, t)) (h0 : pr d r c j = none) : pr d (r + 1) c j = some t := by
  unfold pr at h0 ⊢
  rw [List.take_succ, hr, List.find?_append]
  have h1 : (d.2.2.1.take r).find? (fun q => q.1 == c && q.2.1 == j) = none := by
    cases hq : (d.2.2.1.take r).find? (fun q => q.1 == c && q.2.1 == j) with
    | none => rfl
    | some x => rw [hq] at h0; cases h0
  rw [h1]
  simp [List.find?_cons]
theorem at_K {dA : Nat → ClassId} {c ci : Nat} (hc : c < n) (hk : d.1[c]? = some ci) (h20 : ci < 20) : (wsO dA (pt d n r) (rz z) h)[c]? = some (rz z c, .inr (ci, (List.range (nf ci)).map (fun j => fv (pt d n r) (rz z) (h.1 c) (h.2 c) c j (fty ci j)))) := by
  rw [wsO_at (show c < (pt d n r).1 from hc), ent_K hc hk h20]
theorem k_geta {idx ci j c t : Nat} (X : CK E g z a v cc nL own F Lo mc ms) (hG : FL own idx ci j) (hc0 : c < n) (hk : d.1[c]? = some ci) (hR : isR (fty ci j) = true) (hp : pr d r c j = some t) (hd : decode cc pc = .ok (.getfield idx, 3)) (kk : VK E g d z nL (n) (r) (k) (w) (pc + 3) ls (.ref (rz z t) :: st) (h)) : VK E g d z nL (n) (r) (k) (w) (pc) ls (.ref (rz z c) :: st) (h) := by
  obtain ⟨C, T, N, ⟨a1, a2, a3, a4, a5, a6, a7⟩, hj, hlk⟩ := hG
  obtain ⟨p, e, R, s, m, args, below, meth, c0, Q⟩ := E
  obtain ⟨hx, hb, hml, hown, hts, hK, hN, hF, hL, hc, hsl, hSS, hini⟩ := X
  intro hz H locs la hP hS hl
  refine va_get hx hb hts a4 hown hK hP.1 c (at_K hc0 hk a3) a1 j hj (hts _ hlk) (fun z hz => by rw [a6 j hj] at hz; exact hz) (v := .ref (rz z t)) ?_ hd (kk hz H locs la hP hS hl)
  rw [fl_at _ _ _ a2 hj]
  simp [fv, hR, isR_L hR, show rfs (pt d n r) c j = some t from hp, va_rf]
theorem set_r {dA : Nat → ClassId} {c j t ci N : Nat} (hN : nf ci = N) (hj : j < N) (hc0 : c < n) (hk : d.1[c]? = some ci) (h20 : ci < 20) (hR : isR (fty ci j) = true) (hr : d.2.2.1[r]? = some (c, j, t)) (h0 : pr d r c j = none) :
    (wsO dA (pt d n r) (rz z) h).set c (rz z c, .inr (ci, ((List.range (nf ci)).map (fun j => fv (pt d n r) (rz z) (h.1 c) (h.2 c) c j (fty ci j))).set j (.ref (rz z t)))) = wsO dA (pt d n (r + 1)) (rz z) h := by
  apply List.ext_getElem?
  intro i
  by_cases hi : i < n
  · by_cases hic : i = c
    · subst hic
      rw [List.getElem?_set_self (by simpa [wsO] using (show i < (pt d n r).1 from hi)), at_K hi hk h20]
      congr 4
      apply List.ext_getElem?
      intro q
      by_cases hq : q < nf ci
      · by_cases hqj : q = j
        · subst hqj
          rw [List.getElem?_set_self (by simpa using hq)]
          simp [hq, fv, hR, isR_L hR, show rfs (pt d n (r + 1)) i q = some t from pr_s hr h0, va_rf]
        · rw [List.getElem?_set_ne (Ne.symm hqj)]
          have : rfs (pt d n (r + 1)) i q = rfs (pt d n r) i q := pr_o hr (fun z => hqj z.2.symm)
          simp [hq, fv, this]
      · rw [List.getElem?_eq_none (by simp; omega), List.getElem?_eq_none (by simp; omega)]
    · rw [List.getElem?_set_ne (Ne.symm hic), wsO_at (show i < (pt d n r).1 from hi), wsO_at (show i < (pt d n (r + 1)).1 from hi)]
      have e3 : ∀ q, rfs (pt d n r) i q = rfs (pt d n (r + 1)) i q := fun q => (pr_o hr (fun z => hic z.1.symm)).symm
      cases hd : d.1[i]? with
      | none =>
        have e : ∀ r, kd (pt d n r) i = 99 := fun r => by
          show pk d n r i = 99
          unfold pk
          rw [if_neg (by omega), hd]
        rw [ent_cg (tb := pt d n r) (tb' := pt d n (r + 1)) (by rw [e, e]) rfl e3]
      | some x =>
        by_cases hx : x < 20
        · rw [ent_K hi hd hx, ent_K hi hd hx]
          simp only [fv, e3]
        · rw [ent_cg (tb := pt d n r) (tb' := pt d n (r + 1)) (by rw [kd_arr hi hd (by omega), kd_arr hi hd (by omega)]) rfl e3]
  · rw [List.getElem?_eq_none (by simp [wsO, pt]; omega), List.getElem?_eq_none (by simp [wsO, pt]; omega)]
def FF (own : String) (idx ci j : Nat) : Prop := ∃ (C : String) (T : u_T) (N : Nat), CLs ci C T N ∧ j < N ∧ Cond.fieldLink own idx C (T j).2.1 (T j).2.2.1 ∈ GW ∧ (T j).2.2.2 = true ∧ C = own
theorem isR_nf {t : FieldType} {b : Nat} (hR : isR t = true) : narrow t (.ref b) = .ref b ∧ fits t (.ref b) = true := by
  cases t <;> first | exact ⟨rfl, rfl⟩ | (cases hR; done)
theorem k_puta {idx ci j c t : Nat} (X : CK E g z a v cc nL own F Lo mc ms) (hG : FF own idx ci j) (hc0 : c < n) (hk : d.1[c]? = some ci) (hR : isR (fty ci j) = true) (hr : d.2.2.1[r]? = some (c, j, t)) (h0 : pr d r c j = none) (hd : decode cc pc = .ok (.putfield idx, 3)) (kk : VK E g d z nL (n) (r + 1) (k) (w) (pc + 3) ls (st) (h)) : VK E g d z nL (n) (r) (k) (w) (pc) ls (.ref (rz z t) :: .ref (rz z c) :: st) (h) := by
  obtain ⟨C, T, N, ⟨a1, a2, a3, a4, a5, a6, a7⟩, hj, hlk, hfin, hCo⟩ := hG
  subst hCo
  obtain ⟨p, e, R, s, m, args, below, meth, c0, Q⟩ := E
  obtain ⟨hx, hb, hml, hown, hts, hK, hN, hF, hL, hc, hsl, hSS, hini⟩ := X
  intro hz H locs la hP hS hl
  refine va_putF (D := g.2.1) hx hb hts a4 (fty ci) a5 a7 hown hK hP.1 (A := fun q => z ≤ q) ⟨(wsO_D (dA := g.2.2) (inj_rz (pt d n r) z) h).1, fun i x hx => by obtain ⟨-, rfl⟩ := wsO_of hx; exact Nat.le_add_right z i⟩ hS c (at_K hc0 hk a3) a1 j hj (hts _ hlk) (fun z hz => by rw [a6 j hj] at hz; exact hz) hfin hini (a6 j hj) (ty := fty ci j) (v := .ref (rz z t)) (a5 j hj) (isR_nf hR).1 (isR_nf hR).2 (by simp [a2, hj]) hd (fun H1 locs1 hP1 _ hS1 => ?_)
  rw [set_r a2 hj hc0 hk a3 hR hr h0] at hP1
  exact W.sz fun hq => kk hz H1 locs1 la ⟨hP1, by have := lbK hP1 (show 0 < n by omega); omega⟩ hS1 hl
theorem k_puti {idx ci j c : Nat} {x : Int32} {h1 : Hp} (X : CK E g z a v cc nL own F Lo mc ms) (hG : FP own idx ci j) (hc0 : c < n) (hk : d.1[c]? = some ci) (ht : fty ci j = .int)  (hd : decode cc pc = .ok (.putfield idx, 3)) (he : h1 = pI h c j x) (kk : VK E g d z nL (n) (r) (k) (w) (pc + 3) ls (st) (h1)) : VK E g d z nL (n) (r) (k) (w) (pc) ls (.int x :: .ref (rz z c) :: st) (h) := by
  subst he
  obtain ⟨C, T, N, ⟨a1, a2, a3, a4, a5, a6, a7⟩, hj, hlk, hfin⟩ := hG
  obtain ⟨p, e, R, s, m, args, below, meth, c0, Q⟩ := E
  obtain ⟨hx, hb, hml, hown, hts, hK, hN, hF, hL, hc, hsl, hSS, hini⟩ := X
  intro hz H locs la hP hS hl
  refine va_put (D := g.2.1) hx hb hts a4 (fty ci) a5 a7 hown hK hP.1 (A := fun q => z ≤ q) ⟨(wsO_D (dA := g.2.2) (inj_rz (pt d n r) z) h).1, fun i x hx => by obtain ⟨-, rfl⟩ := wsO_of hx; exact Nat.le_add_right z i⟩ hS c (at_K hc0 hk a3) a1 j hj (hts _ hlk) (fun z hz => by rw [a6 j hj] at hz; exact hz) hfin (ty := .int) (v := .int x) (by rw [a5 j hj, ht]) rfl rfl (by simp [a2, hj]) hd (fun H1 locs1 hP1 _ hS1 => ?_)
  rw [wsO_set (h' := pI h c j x) (show c < (pt d n r).1 from hc0) ?_ ?_ ?_] at hP1
  · exact W.sz fun hq => kk hz H1 locs1 la ⟨hP1, by have := lbK hP1 (show 0 < n by omega); omega⟩ hS1 hl
  · rw [ent_K hc0 hk a3, pI_s, set_i _ _ a2 hj (by rw [ht]; rfl)]; rfl
  · intro a ha; exact pI_o ha
  · intro a ha; rfl
theorem k_putz {idx ci j c : Nat} {x : Int32} {h1 : Hp} (X : CK E g z a v cc nL own F Lo mc ms) (hG : FP own idx ci j) (hc0 : c < n) (hk : d.1[c]? = some ci) (ht : fty ci j = .boolean) (hb0 : bit x = true) (hd : decode cc pc = .ok (.putfield idx, 3)) (he : h1 = pI h c j x) (kk : VK E g d z nL (n) (r) (k) (w) (pc + 3) ls (st) (h1)) : VK E g d z nL (n) (r) (k) (w) (pc) ls (.int x :: .ref (rz z c) :: st) (h) := by
  subst he
  obtain ⟨C, T, N, ⟨a1, a2, a3, a4, a5, a6, a7⟩, hj, hlk, hfin⟩ := hG
  obtain ⟨p, e, R, s, m, args, below, meth, c0, Q⟩ := E
  obtain ⟨hx, hb, hml, hown, hts, hK, hN, hF, hL, hc, hsl, hSS, hini⟩ := X
  intro hz H locs la hP hS hl
  refine va_put (D := g.2.1) hx hb hts a4 (fty ci) a5 a7 hown hK hP.1 (A := fun q => z ≤ q) ⟨(wsO_D (dA := g.2.2) (inj_rz (pt d n r) z) h).1, fun i x hx => by obtain ⟨-, rfl⟩ := wsO_of hx; exact Nat.le_add_right z i⟩ hS c (at_K hc0 hk a3) a1 j hj (hts _ hlk) (fun z hz => by rw [a6 j hj] at hz; exact hz) hfin (ty := .boolean) (v := .int x) (by rw [a5 j hj, ht]) (by simp only [bit, Bool.or_eq_true, decide_eq_true_eq] at hb0; rcases hb0 with rfl | rfl <;> rfl) (by simp only [bit, Bool.or_eq_true, decide_eq_true_eq] at hb0; rcases hb0 with rfl | rfl <;> rfl) (by simp [a2, hj]) hd (fun H1 locs1 hP1 _ hS1 => ?_)
  rw [wsO_set (h' := pI h c j x) (show c < (pt d n r).1 from hc0) ?_ ?_ ?_] at hP1
  · exact W.sz fun hq => kk hz H1 locs1 la ⟨hP1, by have := lbK hP1 (show 0 < n by omega); omega⟩ hS1 hl
  · rw [ent_K hc0 hk a3, pI_s, set_i _ _ a2 hj (by rw [ht]; rfl)]; rfl
  · intro a ha; exact pI_o ha
  · intro a ha; rfl
theorem k_iast {c : Nat} {i x : Int32} {h1 : Hp} (X : CK E g z a v cc nL own F Lo mc ms) (hc0 : c < n) (hk : d.1[c]? = some 20) (hv : wI (pt d n r) h c i x = some h1) (hd : decode cc pc = .ok (.iastore, 1)) (kk : VK E g d z nL (n) (r) (k) (w) (pc + 1) ls (st) (h1)) : VK E g d z nL (n) (r) (k) (w) (pc) ls (.int x :: .int i :: .ref (rz z c) :: st) (h) := by
  obtain ⟨hin, rfl⟩ := wI_e hv
  obtain ⟨p, e, R, s, m, args, below, meth, c0, Q⟩ := E
  obtain ⟨hx, hb, hml, hown, hts, hK, hN, hF, hL, hc, hsl, hSS, hini⟩ := X
  intro hz H locs la hP hS hl
  refine va_iast hx hb hK hP.1 (A := fun q => z ≤ q) ⟨(wsO_D (dA := g.2.2) (inj_rz (pt d n r) z) h).1, fun i x hx => by obtain ⟨-, rfl⟩ := wsO_of hx; exact Nat.le_add_right z i⟩ hS c 0 (by rw [wsO_at (show c < (pt d n r).1 from hc0), ent_20 (kd_arr hc0 hk (by decide))]) rfl hin hd (fun H1 locs1 hP1 _ hS1 => ?_)
  rw [wsO_set (h' := pI h c i.toNatClampNeg x) (show c < (pt d n r).1 from hc0) ?_ ?_ ?_] at hP1
  · exact W.sz fun hq => kk hz H1 locs1 la ⟨hP1, by have := lbK hP1 (show 0 < n by omega); omega⟩ hS1 hl
  · rw [ent_20 (kd_arr hc0 hk (by decide)), pI_s]; rfl
  · intro a ha; exact pI_o ha
  · intro a ha; rfl
theorem k_vret {n' r' : Nat} {h' : Hp} (X : CK E g z a v cc nL own F Lo mc ms) (Y : CY E g d z n' r' mc ms h') (hd : decode cc pc = .ok (.return_, 1)) (e1 : n = n') (e2 : r = r') (e3 : h = h') (e4 : k = mc) (e5 : w = ms) : VK E g d z nL n r k w pc ls [] h := by
  subst e1 e2 e3 e4 e5
  obtain ⟨p, e, R, s, m, args, below, meth, c0, Q⟩ := E
  obtain ⟨hx, hb, hml, hown, hts, hK, hN, hF, hL, hc, hsl, hSS, hini⟩ := X
  obtain ⟨hQ, hlocks, hr⟩ := Y
  intro hz H locs la hP hS hl
  subst hQ
  exact W.vret hx hb hr (fun t ht _ => ⟨rfl, by rw [ht]; exact hP, hS.F ht⟩) hS.2.2 hd hlocks
theorem SS.at {s U : State} {H : Heap} {locs : List Loc} (h : SS z a v s s.heap) (hS : va_S (fun q => z ≤ q) s.heap H locs) (hW : s.WarmedH U.vm) : SS z a v U H := (h.kept (fun q h1 h2 => hS.2.1 q h1 h2)).warm hW
theorem k_callV {idx maxL nn F1 Lo1 ci b : Nat} {y : MethodName} {bytes : ByteArray} {As rest st0 : List Value} {h' : Hp} {C : String} {T : u_T} {N : Nat} (X : CK E g z a v cc nL own F Lo mc ms) (hM : MT g y bytes maxL none F1 Lo1 (pt d n r) (rz z) (.ref (rz z b) :: As) h none h') (hm : ML own idx y bytes maxL none nn) (hv : MV y) (hb0 : b < n) (hk : d.1[b]? = some ci) (hcl : CLs ci C T N) (hC : C = y.cls) (hR : F1 + 1 ≤ F ∧ 8 + (maxL + 11) + Lo1 ≤ Lo) (hcs : k ≤ mc ∧ w ≤ ms) (hn : As.length = nn) (hst : st0 = As.reverse ++ .ref (rz z b) :: rest) (hW : (rest.map fun v => v.category).sum ≤ 8) (hd : decode cc pc = .ok (.invokevirtual idx, 3))
    (kk : VK E g d z nL (n) (r) (k) (w) (pc + 3) ls (rest) (h')) : VK E g d z nL n r k w pc ls st0 h := by
  subst hst hC
  obtain ⟨hlk, hin, hco, hok⟩ := hm
  obtain ⟨p, e, R, s, m, args, below, meth, c0, Q⟩ := E
  obtain ⟨hx, hb, hml, hown, hts, hK, hN, hF, hL, hc, hsl, hSS, hini⟩ := X
  intro hz H locs la hP hS hl
  have hrv : ∃ cellB : Cell, H[rz z b]? = some cellB ∧ cellB.vm.isStatics = false ∧ s.vm.findClass y.cls = some cellB.cls := va_recv hK hP.1 hcl.1 (at_K hb0 hk hcl.2.2.1)
  have hrun := va_runV (e := e) (H := H) (locs := locs) (cells := k) (slots := w) (g := F0 m pc la (As.reverse ++ .ref (rz z b) :: rest)) (rest := rest) (As := As) (below := below) (meth := meth) ⟨hx, hb, hml, hown, hts⟩ hM ⟨callB_of nn hts (good_M hco) rfl rfl rfl (hts _ hin) (hts _ hlk) hok ⟨by rw [hF]; exact hR.1, by rw [hL]; exact hR.2⟩, hts _ hv.1, hts _ hv.2⟩ ⟨blind_M, hrv, pre_M hP.1 hK hN⟩ rfl hn hl.1 rfl (lv_room hW) hd ⟨by rw [hc]; exact hcs.1, by rw [hsl]; exact hcs.2⟩
  intro T hT X
  obtain ⟨q0, st₀, t, T', L, h0, X', hL2, e1, e2, ⟨hv2, hP2, hz2, hk2⟩, stp⟩ := hrun T hT X
  cases hv2
  rw [h0] at hz2 hk2
  have hsz : T'.heap.size = z + n := by
    have g1 : T'.heap.size ≤ s.heap.size + k := X'.heapSize
    have g2 : H.size ≤ T'.heap.size := by rw [e1]; exact hz2
    have g3 := hP.2
    omega
  obtain ⟨t2, a1, b1⟩ := kk hz T'.heap (locs ++ L) la ⟨by rw [e1]; exact hP2, hsz⟩ ⟨Nat.le_trans hS.1 (by rw [e1]; exact hz2), fun q h1 h2 => by rw [e1, hk2 q (Nat.lt_of_lt_of_le h1 hS.1) (fun ⟨c, _, hc⟩ => h2 (by show z ≤ q; rw [← hc]; exact Nat.le_add_right z c))]; exact hS.2.1 q h1 h2, fun q hq => by
      rcases List.mem_append.mp hq with h | h
      · exact hS.2.2 q h
      · obtain ⟨c, _, hc⟩ := hL2 q h
        show z ≤ q.base
        rw [← hc]
        exact Nat.le_add_right z c⟩ hl T' rfl X'
  exact ⟨t2, stp t2 a1, b1⟩
theorem blind_K {as : List Value} : FrameBlind (va_Pc as (fun U => KW g d z n r h U.heap ∧ va_K g.2.1 classes (tysO g.2.2) U ∧ NN U ∧ SS z a v U U.heap)) := by
  intro x U gg mk q
  obtain ⟨q0, qP, qK, qN, qS⟩ := q
  exact ⟨q0, qP, va_K.moved (u := U) (U := U.calling gg mk x) (Vm.Alike.refl U.vm) qK, NN.same (s := U) (U := U.calling gg mk x) rfl qN, SS.same (s := U) (U := U.calling gg mk x) rfl qS⟩
theorem k_callI {idx maxL nn F1 Lo1 b mc1 ms1 n' r' : Nat} {y : MethodName} {bytes : ByteArray} {As rest st0 : List Value} {h' : Hp} (X : CK E g z a v cc nL own F Lo mc ms) (hM : MK g y bytes maxL F1 Lo1 mc1 ms1 d z a v n r (.ref (rz z b) :: As) h n' r' h') (hm : ML own idx y bytes maxL none nn) (hv : Cond.instanceMethod y ∈ GW) (hy : y.name = "<init>") (hR : F1 + 1 ≤ F ∧ 8 + (maxL + 11) + Lo1 ≤ Lo) (hcs : k + mc1 ≤ mc ∧ w + ms1 ≤ ms) (hn : As.length = nn) (hst : st0 = As.reverse ++ .ref (rz z b) :: rest) (hW : (rest.map fun v => v.category).sum ≤ 8) (hd : decode cc pc = .ok (.invokespecial idx, 3)) (hnn : n + mc1 = n')
    (kk : VK E g d z nL (n') (r') (k + mc1) (w + ms1) (pc + 3) ls (rest) (h')) : VK E g d z nL n r k w pc ls st0 h := by
  subst hst
  obtain ⟨hlk, hin, hco, hok⟩ := hm
  obtain ⟨p, e, R, s, m, args, below, meth, c0, Q⟩ := E
  obtain ⟨hx, hb, hml, hown, hts, hK, hN, hF, hL, hc, hsl, hSS, hini⟩ := X
  intro hz H locs la hP hS hl
  have hrun := va_runI (e := e) (H := H) (locs := locs) (cells := k) (slots := w) (g := F0 m pc la (As.reverse ++ .ref (rz z b) :: rest)) (rest := rest) (As := As) (below := below) (meth := meth) ⟨hx, hb, hml, hown, hts⟩ hM ⟨callB_of nn hts (good_M hco) rfl rfl rfl (hts _ hin) (hts _ hlk) hok ⟨by rw [hF]; exact hR.1, by rw [hL]; exact hR.2⟩, hy, hts _ hv⟩ ⟨blind_K, fun U hU hW => ⟨rfl, by rw [hU]; exact hP, va_K.moved hW.alike hK, hN.warm hW, by rw [hU]; exact hSS.at hS hW⟩⟩ rfl hn hl.1 rfl (lv_room hW) hd ⟨by rw [hc]; exact hcs.1, by rw [hsl]; exact hcs.2⟩
  intro T hT X
  obtain ⟨q0, st₀, t, T', L, h0, X', hL2, e1, e2, ⟨hv2, hP2, hz2, hk2⟩, stp⟩ := hrun T hT X
  cases hv2
  rw [h0] at hz2 hk2
  obtain ⟨t2, a1, b1⟩ := kk (by omega) T'.heap (locs ++ L) la (by rw [e1]; exact hP2) ⟨Nat.le_trans hS.1 (by rw [e1]; exact hz2), fun q h1 h2 => by rw [e1, hk2 q (Nat.lt_of_lt_of_le h1 hS.1) h2]; exact hS.2.1 q h1 h2, fun q hq => by
      rcases List.mem_append.mp hq with h | h
      · exact hS.2.2 q h
      · exact hL2 q h⟩ hl T' rfl X'
  exact ⟨t2, stp t2 a1, b1⟩
theorem k_callIN {idx maxL nn F1 Lo1 b mc1 ms1 n' r' : Nat} {y : MethodName} {bytes : ByteArray} {As rest st0 : List Value} {h' : Hp} (X : CK E g z a v cc nL own F Lo mc ms) (hM : MK g y bytes maxL F1 Lo1 mc1 ms1 d z a v n r (.ref (rz z b) :: As) h n' r' h') (hm : MN own idx y bytes maxL none nn) (hv : Cond.instanceMethod y ∈ GW) (hy : y.name = "<init>") (hR : F1 + 1 ≤ F ∧ 8 + (maxL + 11) + Lo1 ≤ Lo) (hcs : k + mc1 ≤ mc ∧ w + ms1 ≤ ms) (hn : As.length = nn) (hst : st0 = As.reverse ++ .ref (rz z b) :: rest) (hW : (rest.map fun v => v.category).sum ≤ 8) (hd : decode cc pc = .ok (.invokespecial idx, 3)) (hnn : n + mc1 = n')
    (kk : VK E g d z nL (n') (r') (k + mc1) (w + ms1) (pc + 3) ls (rest) (h')) : VK E g d z nL n r k w pc ls st0 h := by
  subst hst
  obtain ⟨hlk, hin, hco, hok⟩ := hm
  obtain ⟨p, e, R, s, m, args, below, meth, c0, Q⟩ := E
  obtain ⟨hx, hb, hml, hown, hts, hK, hN, hF, hL, hc, hsl, hSS, hini⟩ := X
  intro hz H locs la hP hS hl
  have hrun := va_runIN (e := e) (H := H) (locs := locs) (cells := k) (slots := w) (g := F0 m pc la (As.reverse ++ .ref (rz z b) :: rest)) (rest := rest) (As := As) (below := below) (meth := meth) ⟨hx, hb, hml, hown, hts⟩ hM ⟨va_cnB nn hts (good_M hco) rfl rfl rfl (hN _ hlk) (hts _ hin) hok ⟨by rw [hF]; exact hR.1, by rw [hL]; exact hR.2⟩, hy, hts _ hv⟩ ⟨blind_K, fun U hU hW => ⟨rfl, by rw [hU]; exact hP, va_K.moved hW.alike hK, hN.warm hW, by rw [hU]; exact hSS.at hS hW⟩⟩ rfl hn hl.1 rfl (lv_room hW) hd ⟨by rw [hc]; exact hcs.1, by rw [hsl]; exact hcs.2⟩
  intro T hT X
  obtain ⟨q0, st₀, t, T', L, h0, X', hL2, e1, e2, ⟨hv2, hP2, hz2, hk2⟩, stp⟩ := hrun T hT X
  cases hv2
  rw [h0] at hz2 hk2
  obtain ⟨t2, a1, b1⟩ := kk (by omega) T'.heap (locs ++ L) la (by rw [e1]; exact hP2) ⟨Nat.le_trans hS.1 (by rw [e1]; exact hz2), fun q h1 h2 => by rw [e1, hk2 q (Nat.lt_of_lt_of_le h1 hS.1) h2]; exact hS.2.1 q h1 h2, fun q hq => by
      rcases List.mem_append.mp hq with h | h
      · exact hS.2.2 q h
      · exact hL2 q h⟩ hl T' rfl X'
  exact ⟨t2, stp t2 a1, b1⟩
end KR
