/-! the abstract heap, the tables of cells, the judgement V and its contract MT -/
abbrev Hp : Type := (Nat → Nat → Int32) × (Nat → Nat → Int64)
/-- cells, their kinds (below 20: the class; 20 int[], 21 byte[], 22 boolean[], 23 long[]; 99: none), lengths, references -/
abbrev Tb : Type := Nat × (Nat → Nat) × (Nat → Nat) × (Nat → Nat → Option Nat)
def kd (tb : Tb) (c : Nat) : Nat := tb.2.1 c
def al (tb : Tb) (c : Nat) : Nat := tb.2.2.1 c
def rfs (tb : Tb) (c j : Nat) : Option Nat := tb.2.2.2 c j
def lay (tb : Tb) (c j : Nat) : Nat := (rfs tb c j).getD 0
def pI (h : Hp) (c j : Nat) (x : Int32) : Hp := (fun a b => if a = c then (if b = j then x else h.1 a b) else h.1 a b, h.2)
def pL (h : Hp) (c j : Nat) (x : Int64) : Hp := (h.1, fun a b => if a = c then (if b = j then x else h.2 a b) else h.2 a b)
def inb (i : Int32) (n : Nat) : Bool := decide (0 ≤ i.toInt) && decide (i.toInt < (n : Int))
theorem inb_iff {i : Int32} {n : Nat} : inb i n = true ↔ vp_in i n := by
  rw [vp_in_iff]
  simp [inb]
def rI (tb : Tb) (h : Hp) (c : Nat) (i : Int32) : Option Int32 := if inb i (al tb c) = true then some (h.1 c i.toNatClampNeg) else none
def rL (tb : Tb) (h : Hp) (c : Nat) (i : Int32) : Option Int64 := if inb i (al tb c) = true then some (h.2 c i.toNatClampNeg) else none
def wI (tb : Tb) (h : Hp) (c : Nat) (i : Int32) (x : Int32) : Option Hp := if inb i (al tb c) = true then some (pI h c i.toNatClampNeg x) else none
def wB (tb : Tb) (h : Hp) (c : Nat) (i : Int32) (x : Int32) : Option Hp := if inb i (al tb c) = true then some (pI h c i.toNatClampNeg x.toInt8.toInt32) else none
def bit (x : Int32) : Bool := decide (x = 0) || decide (x = 1)
def wZ (tb : Tb) (h : Hp) (c : Nat) (i : Int32) (x : Int32) : Option Hp := if inb i (al tb c) = true ∧ bit x = true then some (pI h c i.toNatClampNeg x) else none
def wL (tb : Tb) (h : Hp) (c : Nat) (i : Int32) (x : Int64) : Option Hp := if inb i (al tb c) = true then some (pL h c i.toNatClampNeg x) else none
def pZ (h : Hp) (c j : Nat) (x : Int32) : Option Hp := if bit x = true then some (pI h c j x) else none
def cZ (x : Int32) : Option Int32 := if bit x = true then some x else none
def dI (x y : Int32) : Option Int32 := if y = 0 then none else some (x / y)
def mI (x y : Int32) : Option Int32 := if y = 0 then none else some (x - x / y * y)
def dL (x y : Int64) : Option Int64 := if y = 0 then none else some (x / y)
def mL (x y : Int64) : Option Int64 := if y = 0 then none else some (x - x / y * y)
def mxI (x y : Int32) : Int32 := if x < y then y else x
def mnI (x y : Int32) : Int32 := if y < x then y else x
def abI (x : Int32) : Int32 := if 0 ≤ x then x else 0 - x
def mxL (x y : Int64) : Int64 := if y < x then x else y
def mnL (x y : Int64) : Int64 := if y < x then y else x
def ushr (x y : Int32) : Int32 := (x.toUInt32 >>> (y.toUInt32 &&& Int32.toUInt32 31)).toInt32
def pR (h : Hp) (c : Nat) (f : Nat → Int32) : Hp := (fun a b => if a = c then f b else h.1 a b, h.2)
def cpI (tb : Tb) (h : Hp) (a : Nat) (sp : Int32) (b : Nat) (dp n : Int32) : Option Hp := if ¬ sp < 0 ∧ ¬ dp < 0 ∧ ¬ n < 0 ∧ sp.toNatClampNeg + n.toNatClampNeg ≤ al tb a ∧ dp.toNatClampNeg + n.toNatClampNeg ≤ al tb b then some (pR h b (va_cpy (h.1 a) (h.1 b) sp.toNatClampNeg dp.toNatClampNeg n.toNatClampNeg)) else none
/-- how often a loop may go round -/
def fu : Nat := 1000
/-- a name for a value -/
def nmd {α β : Type} (x : α) (f : α → β) : β := f x
theorem nmd_e {α β : Type} {x : α} {f : α → β} {r : β} (h : nmd x f = r) : ∃ y, y = x ∧ f y = r := ⟨x, rfl, h⟩
theorem bnd_e {α β : Type} {x : Option α} {f : α → Option β} {r : β} (h : x.bind f = some r) : ∃ y, x = some y ∧ f y = some r := by
  cases x with
  | none => cases h
  | some y => exact ⟨y, rfl, h⟩
def isI : FieldType → Bool
  | .int => true
  | .boolean => true
  | .byte => true
  | _ => false
def isL : FieldType → Bool
  | .long => true
  | _ => false
def isR : FieldType → Bool
  | .object _ => true
  | .array _ => true
  | _ => false
def fv (tb : Tb) (ρ : Nat → Nat) (u : Nat → Int32) (v : Nat → Int64) (c j : Nat) (t : FieldType) : Value := if isL t = true then .long (v j) else if isR t = true then va_rf ((rfs tb c j).map ρ) else .int (u j)
/-- the class of a kind: 30 and more: an object that isn't whole yet -/
def oc (k : Nat) : Nat := if 30 ≤ k then k - 30 else k
theorem oc_lt {k : Nat} (h : k < 20) : oc k = k := if_neg (by omega)
def ent (dA : Nat → ClassId) (tb : Tb) (ρ : Nat → Nat) (u : Nat → Int32) (v : Nat → Int64) (c : Nat) : va_E :=
  if kd tb c = 20 then .inl (dA 0, al tb c, .inl u) else if kd tb c = 21 then .inl (dA 1, al tb c, .inl u) else if kd tb c = 22 then .inl (dA 2, al tb c, .inl u) else if kd tb c = 23 then .inl (dA 3, al tb c, .inr (.inl v)) else
    .inr (oc (kd tb c), (List.range (nf (oc (kd tb c)))).map (fun j => fv tb ρ u v c j (fty (oc (kd tb c)) j)))
def wsO (dA : Nat → ClassId) (tb : Tb) (ρ : Nat → Nat) (h : Hp) : va_W := (List.range tb.1).map (fun c => (ρ c, ent dA tb ρ (h.1 c) (h.2 c) c))
def tysO (dA : Nat → ClassId) : List (ClassId × FieldType) := [(dA 0, .int), (dA 1, .byte), (dA 2, .boolean), (dA 3, .long)]
def cst (tb : Tb) (ρ : Nat → Nat) : Nat → Prop := fun q => ∃ c, c < tb.1 ∧ ρ c = q
theorem wsO_at {dA : Nat → ClassId} {tb : Tb} {ρ : Nat → Nat} {h : Hp} {c : Nat} (hc : c < tb.1) : (wsO dA tb ρ h)[c]? = some (ρ c, ent dA tb ρ (h.1 c) (h.2 c) c) := by
  simp [wsO, hc]
theorem wsO_of {dA : Nat → ClassId} {tb : Tb} {ρ : Nat → Nat} {h : Hp} {k : Nat} {q : Nat × va_E} (hk : (wsO dA tb ρ h)[k]? = some q) : k < tb.1 ∧ q = (ρ k, ent dA tb ρ (h.1 k) (h.2 k) k) := by
  have hl : k < (wsO dA tb ρ h).length := (List.getElem?_eq_some_iff.mp hk).1
  have hl2 : k < tb.1 := by simpa [wsO] using hl
  rw [wsO_at hl2] at hk
  exact ⟨hl2, (Option.some.inj hk).symm⟩
theorem wsO_set {dA : Nat → ClassId} {tb : Tb} {ρ : Nat → Nat} {h h' : Hp} {c : Nat} {x : va_E} (hc : c < tb.1) (he : ent dA tb ρ (h'.1 c) (h'.2 c) c = x) (h1 : ∀ a, a ≠ c → h'.1 a = h.1 a) (h2 : ∀ a, a ≠ c → h'.2 a = h.2 a) : (wsO dA tb ρ h).set c (ρ c, x) = wsO dA tb ρ h' := by
  apply List.ext_getElem?
  intro k
  by_cases hk : k < tb.1
  · by_cases hkc : k = c
    · subst hkc
      rw [wsO_at hk, he, List.getElem?_set_self (by simpa [wsO] using hk)]
    · rw [List.getElem?_set_ne (Ne.symm hkc), wsO_at hk, wsO_at hk, h1 k hkc, h2 k hkc]
  · rw [List.getElem?_eq_none (by simp [wsO]; omega), List.getElem?_eq_none (by simp [wsO]; omega)]
def inj (tb : Tb) (ρ : Nat → Nat) : Prop := ∀ a b, a < tb.1 → b < tb.1 → ρ a = ρ b → a = b
theorem wsO_D {dA : Nat → ClassId} {tb : Tb} {ρ : Nat → Nat} (hi : inj tb ρ) (h : Hp) : va_D (cst tb ρ) (wsO dA tb ρ h) := by
  refine ⟨fun i j p q hp hq e => ?_, fun k q hk => ?_⟩
  · obtain ⟨h1, rfl⟩ := wsO_of hp
    obtain ⟨h2, rfl⟩ := wsO_of hq
    exact hi i j h1 h2 e
  · obtain ⟨h1, rfl⟩ := wsO_of hk
    exact ⟨k, h1, rfl⟩
/-- which kind a field of references points to -/
def fkind (ci j : Nat) : Option Nat := match fty ci j with
  | .array .int => some 20
  | .array .byte => some 21
  | .array .boolean => some 22
  | .array .long => some 23
  | .object C => classes.findIdx? (fun q => q.1 == C)
  | _ => none
def TbOK (tb : Tb) : Prop := (∀ c, kd tb c < 99 → c < tb.1) ∧ ∀ c, kd tb c < 20 → ∀ j k, fkind (kd tb c) j = some k → ∃ c', rfs tb c j = some c' ∧ kd tb c' = k
theorem lay_ok {tb : Tb} (ok : TbOK tb) {c ci : Nat} (hc : kd tb c = ci) (h20 : ci < 20) (j : Nat) {k : Nat} (hf : fkind ci j = some k) : rfs tb c j = some (lay tb c j) ∧ kd tb (lay tb c j) = k := by
  obtain ⟨c', h1, h2⟩ := ok.2 c (by omega) j k (by rw [hc]; exact hf)
  have : lay tb c j = c' := by simp [lay, h1]
  rw [this]
  exact ⟨h1, h2⟩
def isNest : Cond → Bool
  | .methodLinkNest _ _ _ _ => true
  | _ => false
/-- the words on nest mates: they are carried apart -/
def NW : List Cond := lw_tbl.filter isNest
def NN (U : State) : Prop := ∀ w ∈ NW, va_Nw w U
theorem nw_in {w : Cond} (i : Nat) (h : lw_tbl[i]? = some w) (g : isNest w = true) : w ∈ NW := List.mem_filter.mpr ⟨List.mem_of_getElem? h, g⟩
theorem NN.warm {s U : State} (hW : s.WarmedH U.vm) (h : NN s) : NN U := by
  intro w hw
  have h1 := h w hw
  have h2 := (List.mem_filter.mp hw).2
  cases w <;> first | exact va_Nw.warmM hW h1 | (simp [isNest] at h2)
theorem NN.same {s U : State} (hv : s.vm = U.vm) (h : NN s) : NN U := by
  intro w hw
  have h1 := h w hw
  have h2 := (List.mem_filter.mp hw).2
  cases w <;> first | exact va_Nw.same rfl hv h1 | (simp [isNest] at h2)
abbrev Gl : Type := Launch × va_G × (Nat → ClassId)
abbrev En : Type := Program × Env × Room × State × MethodId × Array Value × List Frame × Method × Code × (State → Prop)
/-- from here on (pc, locals, stack, heap) the machine comes to what E wants -/
def V (E : En) (g : Gl) (tb : Tb) (ρ : Nat → Nat) (nL pc : Nat) (ls : List (Nat × Value)) (st : List Value) (h : Hp) : Prop := match E with
  | (p, e, R, s, m, args, below, meth, c, Q) => ∀ (H : Heap) (locs : List Loc) (la : Array Slot), va_P g.2.1 classes (wsO g.2.2 tb ρ h) H → va_S (cst tb ρ) s.heap H locs → lv_has la nL ls → W p g.1 e R s m args below meth c H locs 0 0 Q (F0 m pc la st)
def CX (E : En) (g : Gl) (tb : Tb) (ρ : Nat → Nat) (cc : ByteArray) (nL : Nat) (own : String) (F Lo : Nat) : Prop := match E with
  | (p, e, R, s, m, args, below, meth, c, Q) => p.tables.exec = Jvm.exec ∧ c.code = cc ∧ c.maxLocals = nL ∧ s.vm.findClass own = some m.cls ∧ (∀ w ∈ GW, w.before args s = true) ∧ va_K g.2.1 classes (tysO g.2.2) s ∧ TbOK tb ∧ inj tb ρ ∧ R.frames = F ∧ R.locals = Lo ∧ NN s
/-- a method's end: its answer, and the heap -/
def QM (g : Gl) (tb : Tb) (ρ : Nat → Nat) (rv : Option Value) (h' : Hp) : Array Value → State → Outcome → State → Prop := fun _ st oc t => oc = .returned rv ∧ va_P g.2.1 classes (wsO g.2.2 tb ρ h') t.heap ∧ va_F (cst tb ρ) st t
def CQ (E : En) (g : Gl) (tb : Tb) (ρ : Nat → Nat) (ret : Option FieldType) (rv : Option Value) (h' : Hp) : Prop := match E with
  | (p, e, R, s, m, args, below, meth, c, Q) => Q = MQ below (QM g tb ρ rv h') args s 0 0 (cst tb ρ) ∧ meth.locks = false ∧ meth.sig.returnType = ret
def MT (g : Gl) (y : MethodName) (cc : ByteArray) (nL : Nat) (ret : Option FieldType) (F Lo : Nat) (tb : Tb) (ρ : Nat → Nat) (as : List Value) (h : Hp) (rv : Option Value) (h' : Hp) : Prop :=
  Met g.1 y (Cond.code y cc nL ret :: GW) { frames := F, cells := 0, slots := 0, locals := Lo } (va_Pc as (fun U => va_P g.2.1 classes (wsO g.2.2 tb ρ h) U.heap ∧ va_K g.2.1 classes (tysO g.2.2) U ∧ NN U)) (QM g tb ρ rv h') 0 0 (cst tb ρ)
theorem mt_intro {g : Gl} {y : MethodName} {cc : ByteArray} {nL : Nat} {ret : Option FieldType} {F Lo : Nat} {tb : Tb} {ρ : Nat → Nat} {as : List Value} {h : Hp} {rv : Option Value} {h' : Hp}
    (hy : plainName y.cls = true) (ok : TbOK tb) (hi : inj tb ρ) (hl : (lg_sl as).length ≤ nL)
    (body : ∀ E : En, CX E g tb ρ cc nL y.cls F Lo → CQ E g tb ρ ret rv h' → V E g tb ρ nL 0 (lv_args 0 as) [] h) : MT g y cc nL ret F Lo tb ρ as h rv h' := by
  refine Met.ofW (cc := cc) (maxL := nL) (ret := ret) hy rfl ?_
  intro p e s m args below meth c s₁ B hml hv
  obtain ⟨rfl, hP, hK, hN⟩ := hv
  have hts := atoms_spec (ws := Cond.code y cc nL ret :: GW) B.pre
  have hown : s.vm.findClass y.cls = some m.cls := findClass_of_methodNamed B.named
  have hle := lv_entry as (n := nL) hl
  have b := body (p, e, ({ frames := F, cells := 0, slots := 0, locals := Lo } : Room), s, m, as.toArray, below, meth, c, MQ below (QM g tb ρ rv h') as.toArray s 0 0 (cst tb ρ)) ⟨B.exec, B.bytes, hml, hown, fun w hw => hts w (List.mem_cons_of_mem _ hw), hK, ok, hi, rfl, rfl, hN⟩ ⟨rfl, B.notSynchronized, B.returns⟩ s.heap [] _ hP va_S.rf hle
  rw [lg_entry_eq]
  exact b
