/-! the judgement VL of the law's body; the steps that are owed of the two heaps (written by wip/whole/law.py) -/
def VL (E : En) (g : Gl) (z k w pc : Nat) (ls : List (Nat × Value)) (st : List Value) (hC hR : Hp) (fo : Nat → Int64) : Prop := match E with
  | (p, e, R, s, m, args, below, meth, c, Q) => ∀ (H : Heap) (locs : List Loc) (la : Array Slot), va_P g.2.1 classes (wsO g.2.2 TC (rz z) hC) H → va_P g.2.1 classes (wsO g.2.2 TR (rz (z + 93)) hR) H → va_P g.2.1 classes (OW g z fo) H → va_S (fun q => z ≤ q) s.heap H locs → lv_has la 7 ls → W p g.1 e R s m args below meth c H locs k w Q (F0 m pc la st)
def CLw (E : En) (g : Gl) (z b L : Nat) (xs : Nat → Int32) : Prop := match E with
  | (p, e, R, s, m, args, below, meth, c, Q) => p.tables.exec = Jvm.exec ∧ c.code = code ∧ c.maxLocals = 7 ∧ s.vm.findClass RL = some m.cls ∧ (∀ w ∈ GW, w.before args s = true) ∧ va_K g.2.1 classes (tysO g.2.2) s ∧ NN s ∧ R.frames = 11 ∧ R.locals = 410 ∧ R.cells = 1166 ∧ R.slots = 12582 ∧ XS z s s.heap ∧ g.1.stackTraces = false ∧ va_X b L xs s s.heap ∧ b < s.heap.size ∧ s.heap.size = z
section LR
variable {E : En} {g : Gl} {z k w b L : Nat} {xs : Nat → Int32} {pc : Nat} {ls : List (Nat × Value)} {st : List Value} {hC hR : Hp} {fo : Nat → Int64}
theorem l_iadd {x y : Int32} (X : CLw E g z b L xs) (hd : decode code pc = .ok (.iadd, 1)) (kk : VL E g z (k) (w) (pc + 1) ls (.int (x + y) :: st) (hC) (hR) (fo)) : VL E g z (k) (w) (pc) ls (.int y :: .int x :: st) (hC) (hR) (fo) := by
  obtain ⟨p, e, R, s, m, args, below, meth, c0, Q⟩ := E
  obtain ⟨hx, hb, hml, hown, hts, hK, hN, hF, hL, hc, hsl, hXS, hst, hX, hbl, hz⟩ := X
  intro H locs la hP hPR hO hS hl
  exact lv_iadd hx hb hd (kk H locs la hP hPR hO hS hl)
theorem l_isub {x y : Int32} (X : CLw E g z b L xs) (hd : decode code pc = .ok (.isub, 1)) (kk : VL E g z (k) (w) (pc + 1) ls (.int (x - y) :: st) (hC) (hR) (fo)) : VL E g z (k) (w) (pc) ls (.int y :: .int x :: st) (hC) (hR) (fo) := by
  obtain ⟨p, e, R, s, m, args, below, meth, c0, Q⟩ := E
  obtain ⟨hx, hb, hml, hown, hts, hK, hN, hF, hL, hc, hsl, hXS, hst, hX, hbl, hz⟩ := X
  intro H locs la hP hPR hO hS hl
  exact lv_isub hx hb hd (kk H locs la hP hPR hO hS hl)
theorem l_iand {x y : Int32} (X : CLw E g z b L xs) (hd : decode code pc = .ok (.iand, 1)) (kk : VL E g z (k) (w) (pc + 1) ls (.int (x &&& y) :: st) (hC) (hR) (fo)) : VL E g z (k) (w) (pc) ls (.int y :: .int x :: st) (hC) (hR) (fo) := by
  obtain ⟨p, e, R, s, m, args, below, meth, c0, Q⟩ := E
  obtain ⟨hx, hb, hml, hown, hts, hK, hN, hF, hL, hc, hsl, hXS, hst, hX, hbl, hz⟩ := X
  intro H locs la hP hPR hO hS hl
  exact lv_iand hx hb hd (kk H locs la hP hPR hO hS hl)
theorem l_i2l {x : Int32} (X : CLw E g z b L xs) (hd : decode code pc = .ok (.i2l, 1)) (kk : VL E g z (k) (w) (pc + 1) ls (.long x.toInt64 :: st) (hC) (hR) (fo)) : VL E g z (k) (w) (pc) ls (.int x :: st) (hC) (hR) (fo) := by
  obtain ⟨p, e, R, s, m, args, below, meth, c0, Q⟩ := E
  obtain ⟨hx, hb, hml, hown, hts, hK, hN, hF, hL, hc, hsl, hXS, hst, hX, hbl, hz⟩ := X
  intro H locs la hP hPR hO hS hl
  exact lv_i2l hx hb hd rfl (kk H locs la hP hPR hO hS hl)
theorem l_lcmp {x y : Int64} (X : CLw E g z b L xs) (hd : decode code pc = .ok (.lcmp, 1)) (kk : VL E g z (k) (w) (pc + 1) ls (.int (lg_cmp x y) :: st) (hC) (hR) (fo)) : VL E g z (k) (w) (pc) ls (.long y :: .long x :: st) (hC) (hR) (fo) := by
  obtain ⟨p, e, R, s, m, args, below, meth, c0, Q⟩ := E
  obtain ⟨hx, hb, hml, hown, hts, hK, hN, hF, hL, hc, hsl, hXS, hst, hX, hbl, hz⟩ := X
  intro H locs la hP hPR hO hS hl
  exact W.lcmp hx hb hd (kk H locs la hP hPR hO hS hl)
theorem l_iconst {n0 : Int} {x : Int32} (X : CLw E g z b L xs) (hd : decode code pc = .ok (.iconst n0, 1)) (hv : Int32.ofInt n0 = x) (kk : VL E g z (k) (w) (pc + 1) ls (.int x :: st) (hC) (hR) (fo)) : VL E g z (k) (w) (pc) ls (st) (hC) (hR) (fo) := by
  obtain ⟨p, e, R, s, m, args, below, meth, c0, Q⟩ := E
  obtain ⟨hx, hb, hml, hown, hts, hK, hN, hF, hL, hc, hsl, hXS, hst, hX, hbl, hz⟩ := X
  intro H locs la hP hPR hO hS hl
  exact lv_iconst hx hb hd hv (kk H locs la hP hPR hO hS hl)
theorem l_bipush {n0 : Int} {x : Int32} (X : CLw E g z b L xs) (hd : decode code pc = .ok (.bipush n0, 2)) (hv : (Int8.ofInt n0).toInt32 = x) (kk : VL E g z (k) (w) (pc + 2) ls (.int x :: st) (hC) (hR) (fo)) : VL E g z (k) (w) (pc) ls (st) (hC) (hR) (fo) := by
  obtain ⟨p, e, R, s, m, args, below, meth, c0, Q⟩ := E
  obtain ⟨hx, hb, hml, hown, hts, hK, hN, hF, hL, hc, hsl, hXS, hst, hX, hbl, hz⟩ := X
  intro H locs la hP hPR hO hS hl
  exact lv_bipush hx hb hd hv (kk H locs la hP hPR hO hS hl)
theorem l_aload_n {i : Fin 4} {x : Nat} (X : CLw E g z b L xs) (hd : decode code pc = .ok (.aload_n i, 1)) (q : Nat) (hq : ls[q]? = some ((i : Nat), .ref x)) (kk : VL E g z (k) (w) (pc + 1) ls (.ref x :: st) (hC) (hR) (fo)) : VL E g z (k) (w) (pc) ls (st) (hC) (hR) (fo) := by
  obtain ⟨p, e, R, s, m, args, below, meth, c0, Q⟩ := E
  obtain ⟨hx, hb, hml, hown, hts, hK, hN, hF, hL, hc, hsl, hXS, hst, hX, hbl, hz⟩ := X
  intro H locs la hP hPR hO hS hl
  exact lv_aload_n hx hb hd rfl (lv_at hl q hq) (kk H locs la hP hPR hO hS hl)
theorem l_iload {i : Nat} {x : Int32} (X : CLw E g z b L xs) (hd : decode code pc = .ok (.iload i, 2)) (q : Nat) (hq : ls[q]? = some (i, .int x)) (kk : VL E g z (k) (w) (pc + 2) ls (.int x :: st) (hC) (hR) (fo)) : VL E g z (k) (w) (pc) ls (st) (hC) (hR) (fo) := by
  obtain ⟨p, e, R, s, m, args, below, meth, c0, Q⟩ := E
  obtain ⟨hx, hb, hml, hown, hts, hK, hN, hF, hL, hc, hsl, hXS, hst, hX, hbl, hz⟩ := X
  intro H locs la hP hPR hO hS hl
  exact lv_iload hx hb hd (lv_at hl q hq) (kk H locs la hP hPR hO hS hl)
theorem l_istore {i : Nat} {x : Int32} {lv' : List (Nat × Value)} (X : CLw E g z b L xs) (hd : decode code pc = .ok (.istore i, 2)) (hn : i < 7) (hl' : (i, Value.int x) :: ls.filter (fun q => !(q.1 == i) && !(q.1 + 1 == i && q.2.category == 2)) = lv') (kk : VL E g z (k) (w) (pc + 2) lv' (st) (hC) (hR) (fo)) : VL E g z (k) (w) (pc) ls (Value.int x :: st) (hC) (hR) (fo) := by
  obtain ⟨p, e, R, s, m, args, below, meth, c0, Q⟩ := E
  obtain ⟨hx, hb, hml, hown, hts, hK, hN, hF, hL, hc, hsl, hXS, hst, hX, hbl, hz⟩ := X
  intro H locs la hP hPR hO hS hl
  exact lv_istore hx hb hd hl hn hl' (fun la hl => kk H locs la hP hPR hO hS hl)
theorem l_iinc {i : Nat} {n0 : Int} {x y : Int32} {lv' : List (Nat × Value)} (X : CLw E g z b L xs) (hd : decode code pc = .ok (.iinc i n0, 3)) (q : Nat) (hq : ls[q]? = some (i, .int x)) (hv : x + Int32.ofInt n0 = y) (hn : i < 7) (hl' : (i, Value.int y) :: ls.filter (fun q => !(q.1 == i) && !(q.1 + 1 == i && q.2.category == 2)) = lv') (kk : VL E g z (k) (w) (pc + 3) lv' (st) (hC) (hR) (fo)) : VL E g z (k) (w) (pc) ls (st) (hC) (hR) (fo) := by
  obtain ⟨p, e, R, s, m, args, below, meth, c0, Q⟩ := E
  obtain ⟨hx, hb, hml, hown, hts, hK, hN, hF, hL, hc, hsl, hXS, hst, hX, hbl, hz⟩ := X
  intro H locs la hP hPR hO hS hl
  exact lv_iinc hx hb hd hl hq hv hn hl' (fun la hl => kk H locs la hP hPR hO hS hl)
theorem l_goto {off : Int} {tgt : Nat} (X : CLw E g z b L xs) (hd : decode code pc = .ok (.goto off, 3)) (ht : (pc : Int) + off = (tgt : Int)) (kk : VL E g z (k) (w) (tgt) ls (st) (hC) (hR) (fo)) : VL E g z (k) (w) (pc) ls (st) (hC) (hR) (fo) := by
  obtain ⟨p, e, R, s, m, args, below, meth, c0, Q⟩ := E
  obtain ⟨hx, hb, hml, hown, hts, hK, hN, hF, hL, hc, hsl, hXS, hst, hX, hbl, hz⟩ := X
  intro H locs la hP hPR hO hS hl
  exact lv_goto hx hb hd ht (kk H locs la hP hPR hO hS hl)
theorem l_icmp_eq {x y : Int32} {off : Int} {tgt : Nat} (X : CLw E g z b L xs) (hd : decode code pc = .ok (.if_icmp .eq off, 3)) (ht : (pc : Int) + off = (tgt : Int)) (kt : x = y → VL E g z (k) (w) (tgt) ls (st) (hC) (hR) (fo)) (kf : ¬ x = y → VL E g z (k) (w) (pc + 3) ls (st) (hC) (hR) (fo)) : VL E g z (k) (w) (pc) ls (.int y :: .int x :: st) (hC) (hR) (fo) := by
  obtain ⟨p, e, R, s, m, args, below, meth, c0, Q⟩ := E
  obtain ⟨hx, hb, hml, hown, hts, hK, hN, hF, hL, hc, hsl, hXS, hst, hX, hbl, hz⟩ := X
  intro H locs la hP hPR hO hS hl
  exact lv_icmp_eq hx hb hd ht (fun q => kt q H locs la hP hPR hO hS hl) (fun q => kf q H locs la hP hPR hO hS hl)
theorem l_icmp_gt {x y : Int32} {off : Int} {tgt : Nat} (X : CLw E g z b L xs) (hd : decode code pc = .ok (.if_icmp .gt off, 3)) (ht : (pc : Int) + off = (tgt : Int)) (kt : y < x → VL E g z (k) (w) (tgt) ls (st) (hC) (hR) (fo)) (kf : ¬ y < x → VL E g z (k) (w) (pc + 3) ls (st) (hC) (hR) (fo)) : VL E g z (k) (w) (pc) ls (.int y :: .int x :: st) (hC) (hR) (fo) := by
  obtain ⟨p, e, R, s, m, args, below, meth, c0, Q⟩ := E
  obtain ⟨hx, hb, hml, hown, hts, hK, hN, hF, hL, hc, hsl, hXS, hst, hX, hbl, hz⟩ := X
  intro H locs la hP hPR hO hS hl
  exact lv_icmp_gt hx hb hd ht (fun q => kt q H locs la hP hPR hO hS hl) (fun q => kf q H locs la hP hPR hO hS hl)
theorem l_if_eq {x : Int32} {off : Int} {tgt : Nat} (X : CLw E g z b L xs) (hd : decode code pc = .ok (.ifCond .eq off, 3)) (ht : (pc : Int) + off = (tgt : Int)) (kt : x = 0 → VL E g z (k) (w) (tgt) ls (st) (hC) (hR) (fo)) (kf : ¬ x = 0 → VL E g z (k) (w) (pc + 3) ls (st) (hC) (hR) (fo)) : VL E g z (k) (w) (pc) ls (.int x :: st) (hC) (hR) (fo) := by
  obtain ⟨p, e, R, s, m, args, below, meth, c0, Q⟩ := E
  obtain ⟨hx, hb, hml, hown, hts, hK, hN, hF, hL, hc, hsl, hXS, hst, hX, hbl, hz⟩ := X
  intro H locs la hP hPR hO hS hl
  exact lv_if_eq hx hb hd ht (fun q => kt q H locs la hP hPR hO hS hl) (fun q => kf q H locs la hP hPR hO hS hl)
theorem l_if_ne {x : Int32} {off : Int} {tgt : Nat} (X : CLw E g z b L xs) (hd : decode code pc = .ok (.ifCond .ne off, 3)) (ht : (pc : Int) + off = (tgt : Int)) (kt : ¬ x = 0 → VL E g z (k) (w) (tgt) ls (st) (hC) (hR) (fo)) (kf : x = 0 → VL E g z (k) (w) (pc + 3) ls (st) (hC) (hR) (fo)) : VL E g z (k) (w) (pc) ls (.int x :: st) (hC) (hR) (fo) := by
  obtain ⟨p, e, R, s, m, args, below, meth, c0, Q⟩ := E
  obtain ⟨hx, hb, hml, hown, hts, hK, hN, hF, hL, hc, hsl, hXS, hst, hX, hbl, hz⟩ := X
  intro H locs la hP hPR hO hS hl
  exact lv_if_ne hx hb hd ht (fun q => kt q H locs la hP hPR hO hS hl) (fun q => kf q H locs la hP hPR hO hS hl)
theorem l_sub {lv' : List (Nat × Value)} (ks : List Nat) (hk : lv_pick ls ks = lv') (kk : VL E g z (k) (w) (pc) lv' (st) (hC) (hR) (fo)) : VL E g z (k) (w) (pc) ls (st) (hC) (hR) (fo) := by
  obtain ⟨p, e, R, s, m, args, below, meth, c0, Q⟩ := E
  intro H locs la hP hPR hO hS hl
  exact kk H locs la hP hPR hO hS (lv_sub hl ks hk)
theorem l_widen {k2 w2 : Nat} (h1 : k ≤ k2) (h2 : w ≤ w2) (kk : VL E g z (k2) (w2) (pc) ls (st) (hC) (hR) (fo)) : VL E g z (k) (w) (pc) ls (st) (hC) (hR) (fo) := by
  obtain ⟨p, e, R, s, m, args, below, meth, c0, Q⟩ := E
  intro H locs la hP hPR hO hS hl
  exact W.widen h1 h2 (kk H locs la hP hPR hO hS hl)
theorem l_tin {dflt lo hi : Int} {offs : Array Int} {len : Nat} {x v : Int32} {off : Int} {tgt : Nat} (X : CLw E g z b L xs) (hd : decode code pc = .ok (.tableswitch dflt lo hi offs, len)) (hv : x = v) (h1 : ¬ v.toInt < lo) (h2 : ¬ hi < v.toInt) (ho : offs[(v.toInt - lo).toNat]? = some off) (ht : (pc : Int) + off = (tgt : Int)) (kk : VL E g z (k) (w) (tgt) ls (st) (hC) (hR) (fo)) : VL E g z (k) (w) (pc) ls (.int x :: st) (hC) (hR) (fo) := by
  subst hv
  obtain ⟨p, e, R, s, m, args, below, meth, c0, Q⟩ := E
  obtain ⟨hx, hb, hml, hown, hts, hK, hN, hF, hL, hc, hsl, hXS, hst, hX, hbl, hz⟩ := X
  intro H locs la hP hPR hO hS hl
  exact lv_tableIn hx hb hd h1 h2 ho ht (kk H locs la hP hPR hO hS hl)
theorem l_tout {dflt lo hi : Int} {offs : Array Int} {len : Nat} {x : Int32} {tgt : Nat} (X : CLw E g z b L xs) (hd : decode code pc = .ok (.tableswitch dflt lo hi offs, len)) (hv : x.toInt < lo ∨ hi < x.toInt) (ht : (pc : Int) + dflt = (tgt : Int)) (kk : VL E g z (k) (w) (tgt) ls (st) (hC) (hR) (fo)) : VL E g z (k) (w) (pc) ls (.int x :: st) (hC) (hR) (fo) := by
  obtain ⟨p, e, R, s, m, args, below, meth, c0, Q⟩ := E
  obtain ⟨hx, hb, hml, hown, hts, hK, hN, hF, hL, hc, hsl, hXS, hst, hX, hbl, hz⟩ := X
  intro H locs la hP hPR hO hS hl
  exact lv_tableOut hx hb hd hv ht (kk H locs la hP hPR hO hS hl)
theorem l_sld {i a : Int32} (X : CLw E g z b L xs) (hin : vp_in i L) (ha : a = xs i.toNatClampNeg) (hd : decode code pc = .ok (.iaload, 1)) (kk : VL E g z (k) (w) (pc + 1) ls (.int a :: st) (hC) (hR) (fo)) : VL E g z (k) (w) (pc) ls (.int i :: .ref b :: st) (hC) (hR) (fo) := by
  subst ha
  obtain ⟨p, e, R, s, m, args, below, meth, c0, Q⟩ := E
  obtain ⟨hx, hb, hml, hown, hts, hK, hN, hF, hL, hc, hsl, hXS, hst, hX, hbl, hz⟩ := X
  intro H locs la hP hPR hO hS hl
  exact va_sld hx hb hX hbl (A := fun q => z ≤ q) (by omega) hS hin hd (kk H locs la hP hPR hO hS hl)
theorem l_slen (X : CLw E g z b L xs) (hd : decode code pc = .ok (.arraylength, 1)) (kk : VL E g z (k) (w) (pc + 1) ls (.int (Int32.ofNat L) :: st) (hC) (hR) (fo)) : VL E g z (k) (w) (pc) ls (.ref b :: st) (hC) (hR) (fo) := by
  obtain ⟨p, e, R, s, m, args, below, meth, c0, Q⟩ := E
  obtain ⟨hx, hb, hml, hown, hts, hK, hN, hF, hL, hc, hsl, hXS, hst, hX, hbl, hz⟩ := X
  intro H locs la hP hPR hO hS hl
  exact va_slen hx hb hX hbl (A := fun q => z ≤ q) (by omega) hS hd (kk H locs la hP hPR hO hS hl)
theorem l_out {i : Int32} (X : CLw E g z b L xs) (hi : i = 0) (hd : decode code pc = .ok (.laload, 1)) (kk : VL E g z (k) (w) (pc + 1) ls (.long (fo 0) :: st) (hC) (hR) (fo)) : VL E g z (k) (w) (pc) ls (.int i :: .ref (z + 139) :: st) (hC) (hR) (fo) := by
  subst hi
  obtain ⟨p, e, R, s, m, args, below, meth, c0, Q⟩ := E
  obtain ⟨hx, hb, hml, hown, hts, hK, hN, hF, hL, hc, hsl, hXS, hst, hX, hbl, hz⟩ := X
  intro H locs la hP hPR hO hS hl
  exact va_lald (i := 0) hx hb hK hO 0 3 rfl rfl (by rw [vp_in_iff]; decide) hd (kk H locs la hP hPR hO hS hl)
theorem l_callC {idx maxL n F1 Lo1 : Nat} {y : MethodName} {bytes : ByteArray} {ret : Option FieldType} {As rest st0 : List Value} {rv : Option Value} {h' : Hp} (X : CLw E g z b L xs) (hM : MT g y bytes maxL ret F1 Lo1 TC (rz z) (.ref (rz z 0) :: As) hC rv h') (hm : ML RL idx y bytes maxL ret n) (hv : MV y) (hC0 : RC0 = y.cls) (hR0 : F1 + 1 ≤ 11 ∧ 8 + (maxL + 11) + Lo1 ≤ 410) (hcs : k ≤ 1166 ∧ w ≤ 12582) (hn : As.length = n) (hst0 : st0 = As.reverse ++ .ref (rz z 0) :: rest) (hW : (rest.map fun v => v.category).sum ≤ 8) (hd : decode code pc = .ok (.invokevirtual idx, 3))
    (kk : VL E g z (k) (w) (pc + 3) ls (rv.toList ++ rest) (h') (hR) (fo)) : VL E g z k w pc ls st0 hC hR fo := by
  subst hst0
  obtain ⟨hlk, hin, hco, hok⟩ := hm
  obtain ⟨p, e, R, s, m, args, below, meth, c0, Q⟩ := E
  obtain ⟨hx, hb, hml, hown, hts, hK, hN, hF, hL, hc, hsl, hXS, hst, hX, hbl, hz⟩ := X
  intro H locs la hP hPR hO hS hl
  have hrv := recv_M okC_93_101 hK hP (ci := 0) (c := 0) rfl cls_0
  rw [hC0] at hrv
  have hrun := va_runV (e := e) (H := H) (locs := locs) (cells := k) (slots := w) (g := F0 m pc la (As.reverse ++ .ref (rz z 0) :: rest)) (rest := rest) (As := As) (below := below) (meth := meth) ⟨hx, hb, hml, hown, hts⟩ hM ⟨callB_of n hts (good_M hco) rfl rfl rfl (hts _ hin) (hts _ hlk) hok ⟨by rw [hF]; exact hR0.1, by rw [hL]; exact hR0.2⟩, hts _ hv.1, hts _ hv.2⟩ ⟨blind_M, hrv, pre_M hP hK hN⟩ rfl hn hl.1 rfl (lv_room hW) hd ⟨by rw [hc]; exact hcs.1, by rw [hsl]; exact hcs.2⟩
  intro T hT X
  obtain ⟨q0, st₀, t, T', Lq, h0, X', hL2, e1, e2, ⟨hv2, hP2, hz2, hk2⟩, stp⟩ := hrun T hT X
  cases hv2
  rw [h0] at hz2 hk2
  have hS2 : va_S (fun q => z ≤ q) s.heap T'.heap (locs ++ Lq) := ⟨Nat.le_trans hS.1 (by rw [e1]; exact hz2), fun q h1 h2 => by rw [e1, hk2 q (Nat.lt_of_lt_of_le h1 hS.1) (fun q2 => h2 (by have := cst_C q2; show z ≤ q; omega))]; exact hS.2.1 q h1 h2, fun q hq => by
      rcases List.mem_append.mp hq with h | h
      · exact hS.2.2 q h
      · have := cst_C (hL2 q h)
        show z ≤ q.base
        omega⟩
  obtain ⟨t2, a1, b1⟩ := kk T'.heap (locs ++ Lq) la (by rw [e1]; exact hP2) (hPR.kept (fun i x hx => by rw [e1]; exact hk2 _ (hPR i x hx).lt (fun q => by have := cst_C q; have := cst_R ((wsO_D (dA := g.2.2) (inj_rz TR (z + 93)) hR).2 i x hx); omega))) (OW_kept hO (by rw [e1]; exact hk2 _ (hO 0 _ rfl).lt (fun q => by have := cst_C q; omega))) hS2 hl T' rfl X'
  exact ⟨t2, stp t2 a1, b1⟩
theorem l_callR {idx maxL n F1 Lo1 : Nat} {y : MethodName} {bytes : ByteArray} {ret : Option FieldType} {As rest st0 : List Value} {rv : Option Value} {h' : Hp} (X : CLw E g z b L xs) (hM : MT g y bytes maxL ret F1 Lo1 TR (rz (z + 93)) (.ref (rz (z + 93) 0) :: As) hR rv h') (hm : ML RL idx y bytes maxL ret n) (hv : MV y) (hC0 : RC12 = y.cls) (hR0 : F1 + 1 ≤ 11 ∧ 8 + (maxL + 11) + Lo1 ≤ 410) (hcs : k ≤ 1166 ∧ w ≤ 12582) (hn : As.length = n) (hst0 : st0 = As.reverse ++ .ref (rz (z + 93) 0) :: rest) (hW : (rest.map fun v => v.category).sum ≤ 8) (hd : decode code pc = .ok (.invokevirtual idx, 3))
    (kk : VL E g z (k) (w) (pc + 3) ls (rv.toList ++ rest) (hC) (h') (fo)) : VL E g z k w pc ls st0 hC hR fo := by
  subst hst0
  obtain ⟨hlk, hin, hco, hok⟩ := hm
  obtain ⟨p, e, R, s, m, args, below, meth, c0, Q⟩ := E
  obtain ⟨hx, hb, hml, hown, hts, hK, hN, hF, hL, hc, hsl, hXS, hst, hX, hbl, hz⟩ := X
  intro H locs la hP hPR hO hS hl
  have hrv := recv_M okR_46_45 hK hPR (ci := 12) (c := 0) rfl cls_12
  rw [hC0] at hrv
  have hrun := va_runV (e := e) (H := H) (locs := locs) (cells := k) (slots := w) (g := F0 m pc la (As.reverse ++ .ref (rz (z + 93) 0) :: rest)) (rest := rest) (As := As) (below := below) (meth := meth) ⟨hx, hb, hml, hown, hts⟩ hM ⟨callB_of n hts (good_M hco) rfl rfl rfl (hts _ hin) (hts _ hlk) hok ⟨by rw [hF]; exact hR0.1, by rw [hL]; exact hR0.2⟩, hts _ hv.1, hts _ hv.2⟩ ⟨blind_M, hrv, pre_M hPR hK hN⟩ rfl hn hl.1 rfl (lv_room hW) hd ⟨by rw [hc]; exact hcs.1, by rw [hsl]; exact hcs.2⟩
  intro T hT X
  obtain ⟨q0, st₀, t, T', Lq, h0, X', hL2, e1, e2, ⟨hv2, hP2, hz2, hk2⟩, stp⟩ := hrun T hT X
  cases hv2
  rw [h0] at hz2 hk2
  have hS2 : va_S (fun q => z ≤ q) s.heap T'.heap (locs ++ Lq) := ⟨Nat.le_trans hS.1 (by rw [e1]; exact hz2), fun q h1 h2 => by rw [e1, hk2 q (Nat.lt_of_lt_of_le h1 hS.1) (fun q2 => h2 (by have := cst_R q2; show z ≤ q; omega))]; exact hS.2.1 q h1 h2, fun q hq => by
      rcases List.mem_append.mp hq with h | h
      · exact hS.2.2 q h
      · have := cst_R (hL2 q h)
        show z ≤ q.base
        omega⟩
  obtain ⟨t2, a1, b1⟩ := kk T'.heap (locs ++ Lq) la (hP.kept (fun i x hx => by rw [e1]; exact hk2 _ (hP i x hx).lt (fun q => by have := cst_R q; have := cst_C ((wsO_D (dA := g.2.2) (inj_rz TC z) hC).2 i x hx); omega))) (by rw [e1]; exact hP2) (OW_kept hO (by rw [e1]; exact hk2 _ (hO 0 _ rfl).lt (fun q => by have := cst_R q; omega))) hS2 hl T' rfl X'
  exact ⟨t2, stp t2 a1, b1⟩
theorem l_horse {p0 p1 : Int32} {r : Int32 × Int32} {rest : List Value} (X : CLw E g z b L xs) (hf : f_Tt_horse TC hC 0 p0 p1 = some r) (hcs : k + 1 ≤ 1166 ∧ w + 6 ≤ 12582) (hW : (rest.map fun v => v.category).sum ≤ 8) (hd : decode code pc = .ok (.invokestatic 39, 3))
    (kk : VL E g z (k + 1) (w + 6) (pc + 3) ls (.int r.1 :: rest) (hC) (hR) (foOf r fo)) : VL E g z k w pc ls (.ref (z + 139) :: .int p1 :: .int p0 :: .ref (rz z 0) :: rest) hC hR fo := by
  obtain ⟨p, e, R, s, m, args, below, meth, c0, Q⟩ := E
  obtain ⟨hx, hb, hml, hown, hts, hK, hN, hF, hL, hc, hsl, hXS, hst, hX, hbl, hz⟩ := X
  intro H locs la hP hPR hO hS hl
  have hrun := vx_runSW (l := g.1) (e := e) (H := H) (locs := locs) (cells := k) (slots := w) (g := F0 m pc la ([Value.ref (rz z 0), .int p0, .int p1, .ref (z + 139)].reverse ++ rest)) (rest := rest) (As := [.ref (rz z 0), .int p0, .int p1, .ref (z + 139)]) (below := below) (meth := meth) ⟨hx, hb, hml, hown, hts⟩ (mlh (z := z) (fo := fo) hst hf) (vx_cwSW 4 hts (fun x hx => ?_) rfl rfl rfl ⟨by decide +kernel, by decide +kernel, by decide +kernel⟩ ⟨by rw [hF]; decide, by rw [hL]; decide⟩) ⟨?_, ?_⟩ rfl rfl hl.1 rfl (lv_room hW) hd ⟨by rw [hc]; exact hcs.1, by rw [hsl]; exact hcs.2⟩
  · intro T hT X
    obtain ⟨q0, st₀, t, T', Lq, h0, X', hL2, e1, e2, ⟨hv2, hP2, hO2, hz2, hk2⟩, stp⟩ := hrun T hT X
    cases hv2
    rw [h0] at hz2 hk2
    have hA : ∀ q, AH z q → z ≤ q ∧ (q < z + 93 ∨ q = z + 139) := by
      intro q h
      rcases h with h | h
      · have := cst_C h
        omega
      · omega
    have hS2 : va_S (fun q => z ≤ q) s.heap T'.heap (locs ++ Lq) := ⟨Nat.le_trans hS.1 (by rw [e1]; exact hz2), fun q h1 h2 => by rw [e1, hk2 q (Nat.lt_of_lt_of_le h1 hS.1) (fun q2 => h2 (hA q q2).1)]; exact hS.2.1 q h1 h2, fun q hq => by
        rcases List.mem_append.mp hq with h | h
        · exact hS.2.2 q h
        · exact (hA _ (hL2 q h)).1⟩
    obtain ⟨t2, a1, b1⟩ := kk T'.heap (locs ++ Lq) la (by rw [e1]; exact hP2) (hPR.kept (fun i x hx => by rw [e1]; exact hk2 _ (hPR i x hx).lt (fun q => by have := hA _ q; have := cst_R ((wsO_D (dA := g.2.2) (inj_rz TR (z + 93)) hR).2 i x hx); omega))) (by rw [e1]; exact hO2) hS2 hl T' rfl X'
    exact ⟨t2, stp t2 a1, b1⟩
  · unfold va_wsS at hx
    rcases List.mem_append.mp hx with h | h
    · rcases List.mem_cons.mp h with rfl | h
      · exact ⟨lh_ml, good_of_word (List.mem_filter.mp lh_ml).2⟩
      · rcases List.mem_cons.mp h with rfl | h
        · exact ⟨lh_st, good_of_word (List.mem_filter.mp lh_st).2⟩
        · rcases List.mem_cons.mp h with rfl | h
          · exact ⟨lh_in, good_of_word (List.mem_filter.mp lh_in).2⟩
          · cases h
    · exact good_M lh_code x h
  · intro x U gg mk q
    obtain ⟨q0, qP, qO, qK, qN, qX⟩ := q
    exact ⟨q0, qP, qO, va_K.moved (u := U) (U := U.calling gg mk x) (Vm.Alike.refl U.vm) qK, NN.same (s := U) (U := U.calling gg mk x) rfl qN, XS.same (s := U) (U := U.calling gg mk x) rfl qX⟩
  · exact fun U hU hW => ⟨rfl, by rw [hU]; exact hP, by rw [hU]; exact hO, va_K.moved hW.alike hK, hN.warm hW, by rw [hU]; exact hXS.at hS hW⟩
end LR
theorem lcmp_rf (x : Int64) : lg_cmp x x = 0 := by
  unfold lg_cmp
  rw [if_neg (by intro h; exact absurd h (Int64.lt_irrefl)), if_pos rfl]
def SP_feed (Rel : Hp → Hp → Prop) : Prop := ∀ (hC hR : Hp) (a1 : Int32) (a2 : Int32) (a3 : Int32) (a4 : Int32) (a5 : Int32), Rel hC hR → ∃ (r : Int32 × Hp) (r' : Int32 × Hp), f_Tt_feed TC hC 0 a1 a2 a3 a4 a5 = some r ∧ f_Md_feed TR hR 0 a1 a2 a3 a4 a5 = some r' ∧ r.1 = r'.1 ∧ Rel (r.2) (r'.2)
def SP_text (Rel : Hp → Hp → Prop) : Prop := ∀ (hC hR : Hp) (a1 : Int32), Rel hC hR → ∃ (r : Int32 × Hp) (r' : Int32 × Hp), f_Tt_text TC hC 0 a1 = some r ∧ f_Md_text TR hR 0 a1 = some r' ∧ r.1 = r'.1 ∧ Rel (r.2) (r'.2)
def SP_fault (Rel : Hp → Hp → Prop) : Prop := ∀ (hC hR : Hp) (a1 : Int32), Rel hC hR → ∃ (r : Int32) (r' : Int32 × Hp), f_Tt_fault TC hC 0 a1 = r ∧ f_Md_fault TR hR 0 a1 = r' ∧ r = r'.1 ∧ Rel hC (r'.2)
def SP_named (Rel : Hp → Hp → Prop) : Prop := ∀ (hC hR : Hp) (a1 : Int32) (a2 : Int32), Rel hC hR → ∃ (r : Int32) (r' : Int32 × Hp), f_Tt_named TC hC 0 a1 a2 = some r ∧ f_Md_named TR hR 0 a1 a2 = some r' ∧ r = r'.1 ∧ Rel hC (r'.2)
def SP_trough (Rel : Hp → Hp → Prop) : Prop := ∀ (hC hR : Hp) (a1 : Int32) (a2 : Int32), Rel hC hR → ∃ (r : Int32) (r' : Int32 × Hp), f_Tt_trough TC hC 0 a1 a2 = some r ∧ f_Md_trough TR hR 0 a1 a2 = some r' ∧ r = r'.1 ∧ Rel hC (r'.2)
def SP_law (Rel : Hp → Hp → Prop) : Prop := ∀ (hC hR : Hp) (a1 : Int32) (a2 : Int32), Rel hC hR → ∃ (r : Int64 × Hp) (r' : Int64 × Hp), f_Tt_law TC hC 0 a1 a2 = some r ∧ f_Md_law TR hR 0 a1 a2 = some r' ∧ r.1 = r'.1 ∧ Rel (r.2) (r'.2)
def SP_send (Rel : Hp → Hp → Prop) : Prop := ∀ (hC hR : Hp) (a1 : Int32) (a2 : Int32), Rel hC hR → ∃ (r : Int32 × Hp) (r' : Int32 × Hp), f_Tt_send TC hC 0 a1 a2 = some r ∧ f_Md_send TR hR 0 a1 a2 = some r' ∧ r.1 = r'.1 ∧ Rel (r.2) (r'.2)
def SP_fill (Rel : Hp → Hp → Prop) : Prop := ∀ (hC hR : Hp) (a1 : Int32) (a2 : Int32), Rel hC hR → ∃ (r : Int32 × Hp) (r' : Int32 × Hp), f_Tt_fill TC hC 0 a1 a2 = some r ∧ f_Md_fill TR hR 0 a1 a2 = some r' ∧ r.1 = r'.1 ∧ Rel (r.2) (r'.2)
def SP_lead (Rel : Hp → Hp → Prop) : Prop := ∀ (hC hR : Hp) (a1 : Int32) (a2 : Int32), Rel hC hR → ∃ (r : Int32 × Hp) (r' : Int32 × Hp), f_Tt_lead TC hC 0 a1 a2 = some r ∧ f_Md_lead TR hR 0 a1 a2 = some r' ∧ r.1 = r'.1 ∧ Rel (r.2) (r'.2)
def SP_go (Rel : Hp → Hp → Prop) : Prop := ∀ (hC hR : Hp) (a1 : Int32), Rel hC hR → ∃ (r : Int32 × Hp) (r' : Int32 × Hp), f_Tt_go TC hC 0 a1 = some r ∧ f_Md_go TR hR 0 a1 = some r' ∧ r.1 = r'.1 ∧ Rel (r.2) (r'.2)
def SP_ahead (Rel : Hp → Hp → Prop) : Prop := ∀ (hC hR : Hp) (a1 : Int32) (a2 : Int32) (a3 : Int32), Rel hC hR → ∃ (r : Int32 × Hp) (r' : Int32 × Hp), f_Tt_ahead TC hC 0 a1 a2 a3 = some r ∧ f_Md_ahead TR hR 0 a1 a2 a3 = some r' ∧ r.1 = r'.1 ∧ Rel (r.2) (r'.2)
def SP_falls (Rel : Hp → Hp → Prop) : Prop := ∀ (hC hR : Hp) (a1 : Int32), Rel hC hR → ∃ (r : Int32 × Hp) (r' : Int32 × Hp), f_Tt_falls TC hC 0 a1 = some r ∧ f_Md_falls TR hR 0 a1 = some r' ∧ r.1 = r'.1 ∧ Rel (r.2) (r'.2)
def SP_nextFight (Rel : Hp → Hp → Prop) : Prop := ∀ (hC hR : Hp) (a1 : Int32), Rel hC hR → ∃ (r : Int32 × Hp) (r' : Int32 × Hp), f_Tt_nextFight TC hC 0 a1 = some r ∧ f_Md_nextFight TR hR 0 a1 = some r' ∧ r.1 = r'.1 ∧ Rel (r.2) (r'.2)
def SP_sendIn (Rel : Hp → Hp → Prop) : Prop := ∀ (hC hR : Hp) (a1 : Int32) (a2 : Int32) (a3 : Int32), Rel hC hR → ∃ (r : Int32 × Hp) (r' : Int32 × Hp), f_Tt_sendIn TC hC 0 a1 a2 a3 = some r ∧ f_Md_sendIn TR hR 0 a1 a2 a3 = some r' ∧ r.1 = r'.1 ∧ Rel (r.2) (r'.2)
def SP_pump (Rel : Hp → Hp → Prop) : Prop := ∀ (hC hR : Hp) (a1 : Int32), Rel hC hR → ∃ (r : Int32 × Hp) (r' : Int32 × Hp), f_Tt_pump TC hC 0 a1 = some r ∧ f_Md_pump TR hR 0 a1 = some r' ∧ r.1 = r'.1 ∧ Rel (r.2) (r'.2)
def SP_stops (Rel : Hp → Hp → Prop) : Prop := ∀ (hC hR : Hp) (a1 : Int32) (a2 : Int32), Rel hC hR → ∃ (r : Int32 × Hp) (r' : Int32 × Hp), f_Tt_stops TC hC 0 a1 a2 = some r ∧ f_Md_stops TR hR 0 a1 a2 = some r' ∧ r.1 = r'.1 ∧ Rel (r.2) (r'.2)
def SP_reach (Rel : Hp → Hp → Prop) : Prop := ∀ (hC hR : Hp) (a1 : Int32), Rel hC hR → ∃ (r : Int32) (r' : Int32 × Hp), f_Tt_reach TC hC 0 a1 = some r ∧ f_Md_reach TR hR 0 a1 = some r' ∧ r = r'.1 ∧ Rel hC (r'.2)
def SP_cover (Rel : Hp → Hp → Prop) : Prop := ∀ (hC hR : Hp) (a1 : Int32), Rel hC hR → ∃ (r : Int32) (r' : Int32 × Hp), f_Tt_cover TC hC 0 a1 = some r ∧ f_Md_cover TR hR 0 a1 = some r' ∧ r = r'.1 ∧ Rel hC (r'.2)
def SP_round (Rel : Hp → Hp → Prop) : Prop := ∀ (hC hR : Hp) (a1 : Int32), Rel hC hR → ∃ (r : Int32) (r' : Int32 × Hp), f_Tt_round TC hC 0 a1 = some r ∧ f_Md_round TR hR 0 a1 = some r' ∧ r = r'.1 ∧ Rel hC (r'.2)
def SP_rests (Rel : Hp → Hp → Prop) : Prop := ∀ (hC hR : Hp) (a1 : Int32) (a2 : Int32), Rel hC hR → ∃ (r : Int32) (r' : Int32 × Hp), f_Tt_rests TC hC 0 a1 a2 = some r ∧ f_Md_rests TR hR 0 a1 a2 = some r' ∧ r = r'.1 ∧ Rel hC (r'.2)
def SP_rest (Rel : Hp → Hp → Prop) : Prop := ∀ (hC hR : Hp) (a1 : Int32) (a2 : Int32) (a3 : Int32), Rel hC hR → ∃ (r : Int32) (r' : Int32 × Hp), f_Tt_rest TC hC 0 a1 a2 a3 = some r ∧ f_Md_rest TR hR 0 a1 a2 a3 = some r' ∧ r = r'.1 ∧ Rel hC (r'.2)
def SP_staysDry (Rel : Hp → Hp → Prop) : Prop := ∀ (hC hR : Hp) (a1 : Int32) (a2 : Int32), Rel hC hR → ∃ (r : Int64) (r' : Int64 × Hp), f_Tt_staysDry TC hC 0 a1 a2 = some r ∧ f_Md_staysDry TR hR 0 a1 a2 = some r' ∧ r = r'.1 ∧ Rel hC (r'.2)
def SP_peace (Rel : Hp → Hp → Prop) : Prop := ∀ (hC hR : Hp) (a1 : Int32) (a2 : Int32), Rel hC hR → ∃ (r : Int32) (r' : Int32 × Hp), f_Tt_peace TC hC 0 a1 a2 = r ∧ f_Md_peace TR hR 0 a1 a2 = some r' ∧ r = r'.1 ∧ Rel hC (r'.2)
def SP_thirstiest (Rel : Hp → Hp → Prop) : Prop := ∀ (hC hR : Hp), Rel hC hR → ∃ (r : Int32) (r' : Int32 × Hp), f_Tt_thirstiest TC hC 0 = some r ∧ f_Md_thirstiest TR hR 0 = some r' ∧ r = r'.1 ∧ Rel hC (r'.2)
def SP_driest (Rel : Hp → Hp → Prop) : Prop := ∀ (hC hR : Hp), Rel hC hR → ∃ (r : Int32) (r' : Int32 × Hp), f_Tt_driest TC hC 0 = some r ∧ f_Md_driest TR hR 0 = some r' ∧ r = r'.1 ∧ Rel hC (r'.2)
def SP_nearest (Rel : Hp → Hp → Prop) : Prop := ∀ (hC hR : Hp) (a1 : Int32), Rel hC hR → ∃ (r : Int32) (r' : Int32 × Hp), f_Tt_nearest TC hC 0 a1 = some r ∧ f_Md_nearest TR hR 0 a1 = some r' ∧ r = r'.1 ∧ Rel hC (r'.2)
def SP_meet (Rel : Hp → Hp → Prop) : Prop := ∀ (hC hR : Hp) (a1 : Int32) (a2 : Int32), Rel hC hR → ∃ (r : Int32 × Hp) (r' : Int32 × Hp), f_Tt_meet TC hC 0 a1 a2 = some r ∧ f_Md_meet TR hR 0 a1 a2 = some r' ∧ r.1 = r'.1 ∧ Rel (r.2) (r'.2)
def SP_gather (Rel : Hp → Hp → Prop) : Prop := ∀ (hC hR : Hp) (a1 : Int32), Rel hC hR → ∃ (r : Int32) (r' : Int32 × Hp), f_Tt_gather TC hC 0 a1 = some r ∧ f_Md_gather TR hR 0 a1 = some r' ∧ r = r'.1 ∧ Rel hC (r'.2)
def SP_sides (Rel : Hp → Hp → Prop) : Prop := ∀ (hC hR : Hp), Rel hC hR → ∃ (r : Int32) (r' : Int32 × Hp), f_Tt_sides TC hC 0 = some r ∧ f_Md_sides TR hR 0 = some r' ∧ r = r'.1 ∧ Rel hC (r'.2)
def SP_enemies (Rel : Hp → Hp → Prop) : Prop := ∀ (hC hR : Hp) (a1 : Int32), Rel hC hR → ∃ (r : Int32) (r' : Int32 × Hp), f_Tt_enemies TC hC 0 a1 = some r ∧ f_Md_enemies TR hR 0 a1 = some r' ∧ r = r'.1 ∧ Rel hC (r'.2)
def SP_runsDry (Rel : Hp → Hp → Prop) : Prop := ∀ (hC hR : Hp) (a1 : Int32), Rel hC hR → ∃ (r : Int32 × Hp) (r' : Int32 × Hp), f_Tt_runsDry TC hC 0 a1 = some r ∧ f_Md_runsDry TR hR 0 a1 = some r' ∧ r.1 = r'.1 ∧ Rel (r.2) (r'.2)
def SP_see (Rel : Hp → Hp → Prop) : Prop := ∀ (hC hR : Hp) (a1 : Int32) (a2 : Int32) (a3 : Int32) (a4 : Int32), Rel hC hR → bit a4 = true → ∃ (r : Int32 × Hp) (r' : Int32 × Hp), f_Tt_see TC hC 0 a1 a2 a3 a4 = some r ∧ f_Md_see TR hR 0 a1 a2 a3 a4 = some r' ∧ r.1 = r'.1 ∧ Rel (r.2) (r'.2)
def SP_strike (Rel : Hp → Hp → Prop) : Prop := ∀ (hC hR : Hp) (a1 : Int32), Rel hC hR → ∃ (r : Int32 × Hp) (r' : Int32 × Hp), f_Tt_strike TC hC 0 a1 = some r ∧ f_Md_strike TR hR 0 a1 = some r' ∧ r.1 = r'.1 ∧ Rel (r.2) (r'.2)
def SP_known (Rel : Hp → Hp → Prop) : Prop := ∀ (hC hR : Hp) (a1 : Int32), Rel hC hR → ∃ (r : Int32 × Hp) (r' : Int32 × Hp), f_Tt_known TC hC 0 a1 = some r ∧ f_Md_known TR hR 0 a1 = r' ∧ r.1 = r'.1 ∧ Rel (r.2) (r'.2)
def SP_thirsts (Rel : Hp → Hp → Prop) : Prop := ∀ (hC hR : Hp) (a1 : Int32), Rel hC hR → ∃ (r : Int32 × Hp) (r' : Int32 × Hp), f_Tt_thirsts TC hC 0 a1 = some r ∧ f_Md_thirsts TR hR 0 a1 = some r' ∧ r.1 = r'.1 ∧ Rel (r.2) (r'.2)
def SP_chance (Rel : Hp → Hp → Prop) : Prop := ∀ (hC hR : Hp) (a1 : Int32) (a2 : Int32) (a3 : Int32) (a4 : Int32), Rel hC hR → ∃ (r : Int32 × Hp) (r' : Int32 × Hp), f_Tt_chance TC hC 0 a1 a2 a3 a4 = some r ∧ f_Md_chance TR hR 0 a1 a2 a3 a4 = some r' ∧ r.1 = r'.1 ∧ Rel (r.2) (r'.2)
def SP_tried (Rel : Hp → Hp → Prop) : Prop := ∀ (hC hR : Hp) (a1 : Int32) (a2 : Int32) (a3 : Int32), Rel hC hR → ∃ (r : Int32 × Hp) (r' : Int32 × Hp), f_Tt_tried TC hC 0 a1 a2 a3 = some r ∧ f_Md_tried TR hR 0 a1 a2 a3 = some r' ∧ r.1 = r'.1 ∧ Rel (r.2) (r'.2)
def SP_undo (Rel : Hp → Hp → Prop) : Prop := ∀ (hC hR : Hp), Rel hC hR → ∃ (r : Int32 × Hp) (r' : Int32 × Hp), f_Tt_undo TC hC 0 = some r ∧ f_Md_undo TR hR 0 = some r' ∧ r.1 = r'.1 ∧ Rel (r.2) (r'.2)
def SP_keep (Rel : Hp → Hp → Prop) : Prop := ∀ (hC hR : Hp), Rel hC hR → ∃ (r : Int32 × Hp) (r' : Int32 × Hp), f_Tt_keep TC hC 0 = some r ∧ f_Md_keep TR hR 0 = some r' ∧ r.1 = r'.1 ∧ Rel (r.2) (r'.2)
def SP_back (Rel : Hp → Hp → Prop) : Prop := ∀ (hC hR : Hp), Rel hC hR → ∃ (r : Int32 × Hp) (r' : Int32 × Hp), f_Tt_back TC hC 0 = some r ∧ f_Md_back TR hR 0 = some r' ∧ r.1 = r'.1 ∧ Rel (r.2) (r'.2)
def SP_count (Rel : Hp → Hp → Prop) : Prop := ∀ (hC hR : Hp) (a1 : Int32), Rel hC hR → ∃ (r : Int32) (r' : Int32 × Hp), f_Tt_count TC hC 0 a1 = some r ∧ f_Md_count TR hR 0 a1 = some r' ∧ r = r'.1 ∧ Rel hC (r'.2)
def SP_horse (Rel : Hp → Hp → Prop) : Prop := ∀ (hC hR : Hp) (a1 a2 : Int32), Rel hC hR → ∃ (r : Int32 × Int32) (r' : Int32 × Hp), f_Tt_horse TC hC 0 a1 a2 = some r ∧ f_Md_horse TR hR 0 a1 a2 = some r' ∧ f_Md_thrown TR r'.2 0 = r.1 ∧ (r.1 = 0 → r.2 = r'.1) ∧ Rel hC r'.2
def SPs (Rel : Hp → Hp → Prop) : Prop := SP_horse Rel ∧ SP_feed Rel ∧ SP_text Rel ∧ SP_fault Rel ∧ SP_named Rel ∧ SP_trough Rel ∧ SP_law Rel ∧ SP_send Rel ∧ SP_fill Rel ∧ SP_lead Rel ∧ SP_go Rel ∧ SP_ahead Rel ∧ SP_falls Rel ∧ SP_nextFight Rel ∧ SP_sendIn Rel ∧ SP_pump Rel ∧ SP_stops Rel ∧ SP_reach Rel ∧ SP_cover Rel ∧ SP_round Rel ∧ SP_rests Rel ∧ SP_rest Rel ∧ SP_staysDry Rel ∧ SP_peace Rel ∧ SP_thirstiest Rel ∧ SP_driest Rel ∧ SP_nearest Rel ∧ SP_meet Rel ∧ SP_gather Rel ∧ SP_sides Rel ∧ SP_enemies Rel ∧ SP_runsDry Rel ∧ SP_see Rel ∧ SP_strike Rel ∧ SP_known Rel ∧ SP_thirsts Rel ∧ SP_chance Rel ∧ SP_tried Rel ∧ SP_undo Rel ∧ SP_keep Rel ∧ SP_back Rel ∧ SP_count Rel
