/-! a row an instruction (written by wip/whole/rows.py) -/
section VR
variable {E : En} {g : Gl} {tb : Tb} {ρ : Nat → Nat} {cc : ByteArray} {nL : Nat} {own : String} {F Lo pc : Nat} {ls : List (Nat × Value)} {st : List Value} {h : Hp}
theorem v_iadd {x y : Int32} (X : CX E g tb ρ cc nL own F Lo) (hd : decode cc pc = .ok (.iadd, 1)) (kk : V E g tb ρ nL (pc + 1) ls (.int (x + y) :: st) h) : V E g tb ρ nL (pc) ls (.int y :: .int x :: st) h := by
  obtain ⟨p, e, R, s, m, args, below, meth, c0, Q⟩ := E
  obtain ⟨hx, hb, hml, hown, hts, hK, ok, hi, hF, hL, hN⟩ := X
  intro H locs la hP hS hl
  exact lv_iadd hx hb hd (kk H locs la hP hS hl)
theorem v_isub {x y : Int32} (X : CX E g tb ρ cc nL own F Lo) (hd : decode cc pc = .ok (.isub, 1)) (kk : V E g tb ρ nL (pc + 1) ls (.int (x - y) :: st) h) : V E g tb ρ nL (pc) ls (.int y :: .int x :: st) h := by
  obtain ⟨p, e, R, s, m, args, below, meth, c0, Q⟩ := E
  obtain ⟨hx, hb, hml, hown, hts, hK, ok, hi, hF, hL, hN⟩ := X
  intro H locs la hP hS hl
  exact lv_isub hx hb hd (kk H locs la hP hS hl)
theorem v_imul {x y : Int32} (X : CX E g tb ρ cc nL own F Lo) (hd : decode cc pc = .ok (.imul, 1)) (kk : V E g tb ρ nL (pc + 1) ls (.int (x * y) :: st) h) : V E g tb ρ nL (pc) ls (.int y :: .int x :: st) h := by
  obtain ⟨p, e, R, s, m, args, below, meth, c0, Q⟩ := E
  obtain ⟨hx, hb, hml, hown, hts, hK, ok, hi, hF, hL, hN⟩ := X
  intro H locs la hP hS hl
  exact lv_imul hx hb hd (kk H locs la hP hS hl)
theorem v_iand {x y : Int32} (X : CX E g tb ρ cc nL own F Lo) (hd : decode cc pc = .ok (.iand, 1)) (kk : V E g tb ρ nL (pc + 1) ls (.int (x &&& y) :: st) h) : V E g tb ρ nL (pc) ls (.int y :: .int x :: st) h := by
  obtain ⟨p, e, R, s, m, args, below, meth, c0, Q⟩ := E
  obtain ⟨hx, hb, hml, hown, hts, hK, ok, hi, hF, hL, hN⟩ := X
  intro H locs la hP hS hl
  exact lv_iand hx hb hd (kk H locs la hP hS hl)
theorem v_ior {x y : Int32} (X : CX E g tb ρ cc nL own F Lo) (hd : decode cc pc = .ok (.ior, 1)) (kk : V E g tb ρ nL (pc + 1) ls (.int (x ||| y) :: st) h) : V E g tb ρ nL (pc) ls (.int y :: .int x :: st) h := by
  obtain ⟨p, e, R, s, m, args, below, meth, c0, Q⟩ := E
  obtain ⟨hx, hb, hml, hown, hts, hK, ok, hi, hF, hL, hN⟩ := X
  intro H locs la hP hS hl
  exact lv_ior hx hb hd (kk H locs la hP hS hl)
theorem v_ixor {x y : Int32} (X : CX E g tb ρ cc nL own F Lo) (hd : decode cc pc = .ok (.ixor, 1)) (kk : V E g tb ρ nL (pc + 1) ls (.int (x ^^^ y) :: st) h) : V E g tb ρ nL (pc) ls (.int y :: .int x :: st) h := by
  obtain ⟨p, e, R, s, m, args, below, meth, c0, Q⟩ := E
  obtain ⟨hx, hb, hml, hown, hts, hK, ok, hi, hF, hL, hN⟩ := X
  intro H locs la hP hS hl
  exact lv_ixor hx hb hd (kk H locs la hP hS hl)
theorem v_ishl {x y : Int32} (X : CX E g tb ρ cc nL own F Lo) (hd : decode cc pc = .ok (.ishl, 1)) (kk : V E g tb ρ nL (pc + 1) ls (.int (x <<< (y &&& 31)) :: st) h) : V E g tb ρ nL (pc) ls (.int y :: .int x :: st) h := by
  obtain ⟨p, e, R, s, m, args, below, meth, c0, Q⟩ := E
  obtain ⟨hx, hb, hml, hown, hts, hK, ok, hi, hF, hL, hN⟩ := X
  intro H locs la hP hS hl
  exact lv_ishl hx hb hd (kk H locs la hP hS hl)
theorem v_ishr {x y : Int32} (X : CX E g tb ρ cc nL own F Lo) (hd : decode cc pc = .ok (.ishr, 1)) (kk : V E g tb ρ nL (pc + 1) ls (.int (x >>> (y &&& 31)) :: st) h) : V E g tb ρ nL (pc) ls (.int y :: .int x :: st) h := by
  obtain ⟨p, e, R, s, m, args, below, meth, c0, Q⟩ := E
  obtain ⟨hx, hb, hml, hown, hts, hK, ok, hi, hF, hL, hN⟩ := X
  intro H locs la hP hS hl
  exact lv_ishr hx hb hd (kk H locs la hP hS hl)
theorem v_ladd {x y : Int64} (X : CX E g tb ρ cc nL own F Lo) (hd : decode cc pc = .ok (.ladd, 1)) (kk : V E g tb ρ nL (pc + 1) ls (.long (x + y) :: st) h) : V E g tb ρ nL (pc) ls (.long y :: .long x :: st) h := by
  obtain ⟨p, e, R, s, m, args, below, meth, c0, Q⟩ := E
  obtain ⟨hx, hb, hml, hown, hts, hK, ok, hi, hF, hL, hN⟩ := X
  intro H locs la hP hS hl
  exact lv_ladd hx hb hd (kk H locs la hP hS hl)
theorem v_lsub {x y : Int64} (X : CX E g tb ρ cc nL own F Lo) (hd : decode cc pc = .ok (.lsub, 1)) (kk : V E g tb ρ nL (pc + 1) ls (.long (x - y) :: st) h) : V E g tb ρ nL (pc) ls (.long y :: .long x :: st) h := by
  obtain ⟨p, e, R, s, m, args, below, meth, c0, Q⟩ := E
  obtain ⟨hx, hb, hml, hown, hts, hK, ok, hi, hF, hL, hN⟩ := X
  intro H locs la hP hS hl
  exact lv_lsub hx hb hd (kk H locs la hP hS hl)
theorem v_lmul {x y : Int64} (X : CX E g tb ρ cc nL own F Lo) (hd : decode cc pc = .ok (.lmul, 1)) (kk : V E g tb ρ nL (pc + 1) ls (.long (x * y) :: st) h) : V E g tb ρ nL (pc) ls (.long y :: .long x :: st) h := by
  obtain ⟨p, e, R, s, m, args, below, meth, c0, Q⟩ := E
  obtain ⟨hx, hb, hml, hown, hts, hK, ok, hi, hF, hL, hN⟩ := X
  intro H locs la hP hS hl
  exact lv_lmul hx hb hd (kk H locs la hP hS hl)
theorem v_land {x y : Int64} (X : CX E g tb ρ cc nL own F Lo) (hd : decode cc pc = .ok (.land, 1)) (kk : V E g tb ρ nL (pc + 1) ls (.long (x &&& y) :: st) h) : V E g tb ρ nL (pc) ls (.long y :: .long x :: st) h := by
  obtain ⟨p, e, R, s, m, args, below, meth, c0, Q⟩ := E
  obtain ⟨hx, hb, hml, hown, hts, hK, ok, hi, hF, hL, hN⟩ := X
  intro H locs la hP hS hl
  exact lv_land hx hb hd (kk H locs la hP hS hl)
theorem v_ineg {x : Int32} (X : CX E g tb ρ cc nL own F Lo) (hd : decode cc pc = .ok (.ineg, 1)) (kk : V E g tb ρ nL (pc + 1) ls (.int (-x) :: st) h) : V E g tb ρ nL (pc) ls (.int x :: st) h := by
  obtain ⟨p, e, R, s, m, args, below, meth, c0, Q⟩ := E
  obtain ⟨hx, hb, hml, hown, hts, hK, ok, hi, hF, hL, hN⟩ := X
  intro H locs la hP hS hl
  exact lv_ineg hx hb hd (kk H locs la hP hS hl)
theorem v_lneg {x : Int64} (X : CX E g tb ρ cc nL own F Lo) (hd : decode cc pc = .ok (.lneg, 1)) (kk : V E g tb ρ nL (pc + 1) ls (.long (-x) :: st) h) : V E g tb ρ nL (pc) ls (.long x :: st) h := by
  obtain ⟨p, e, R, s, m, args, below, meth, c0, Q⟩ := E
  obtain ⟨hx, hb, hml, hown, hts, hK, ok, hi, hF, hL, hN⟩ := X
  intro H locs la hP hS hl
  exact lv_lneg hx hb hd (kk H locs la hP hS hl)
theorem v_i2l {x : Int32} (X : CX E g tb ρ cc nL own F Lo) (hd : decode cc pc = .ok (.i2l, 1)) (kk : V E g tb ρ nL (pc + 1) ls (.long x.toInt64 :: st) h) : V E g tb ρ nL (pc) ls (.int x :: st) h := by
  obtain ⟨p, e, R, s, m, args, below, meth, c0, Q⟩ := E
  obtain ⟨hx, hb, hml, hown, hts, hK, ok, hi, hF, hL, hN⟩ := X
  intro H locs la hP hS hl
  exact lv_i2l hx hb hd rfl (kk H locs la hP hS hl)
theorem v_l2i {x : Int64} (X : CX E g tb ρ cc nL own F Lo) (hd : decode cc pc = .ok (.l2i, 1)) (kk : V E g tb ρ nL (pc + 1) ls (.int x.toInt32 :: st) h) : V E g tb ρ nL (pc) ls (.long x :: st) h := by
  obtain ⟨p, e, R, s, m, args, below, meth, c0, Q⟩ := E
  obtain ⟨hx, hb, hml, hown, hts, hK, ok, hi, hF, hL, hN⟩ := X
  intro H locs la hP hS hl
  exact lv_l2i hx hb hd rfl (kk H locs la hP hS hl)
theorem v_i2b {x : Int32} (X : CX E g tb ρ cc nL own F Lo) (hd : decode cc pc = .ok (.i2b, 1)) (kk : V E g tb ρ nL (pc + 1) ls (.int x.toInt8.toInt32 :: st) h) : V E g tb ρ nL (pc) ls (.int x :: st) h := by
  obtain ⟨p, e, R, s, m, args, below, meth, c0, Q⟩ := E
  obtain ⟨hx, hb, hml, hown, hts, hK, ok, hi, hF, hL, hN⟩ := X
  intro H locs la hP hS hl
  exact lv_i2b hx hb hd rfl (kk H locs la hP hS hl)
theorem v_lcmp {x y : Int64} (X : CX E g tb ρ cc nL own F Lo) (hd : decode cc pc = .ok (.lcmp, 1)) (kk : V E g tb ρ nL (pc + 1) ls (.int (lg_cmp x y) :: st) h) : V E g tb ρ nL (pc) ls (.long y :: .long x :: st) h := by
  obtain ⟨p, e, R, s, m, args, below, meth, c0, Q⟩ := E
  obtain ⟨hx, hb, hml, hown, hts, hK, ok, hi, hF, hL, hN⟩ := X
  intro H locs la hP hS hl
  exact W.lcmp hx hb hd (kk H locs la hP hS hl)
theorem v_idiv {x y z : Int32} (X : CX E g tb ρ cc nL own F Lo) (hv : dI x y = some z) (hd : decode cc pc = .ok (.idiv, 1)) (kk : V E g tb ρ nL (pc + 1) ls (.int z :: st) h) : V E g tb ρ nL (pc) ls (.int y :: .int x :: st) h := by
  unfold dI at hv
  split at hv
  · cases hv
  · rename_i hne
    cases hv
    obtain ⟨p, e, R, s, m, args, below, meth, c0, Q⟩ := E
    obtain ⟨hx, hb, hml, hown, hts, hK, ok, hi, hF, hL, hN⟩ := X
    intro H locs la hP hS hl
    exact lv_idiv hx hb hd hne (kk H locs la hP hS hl)
theorem v_irem {x y z : Int32} (X : CX E g tb ρ cc nL own F Lo) (hv : mI x y = some z) (hd : decode cc pc = .ok (.irem, 1)) (kk : V E g tb ρ nL (pc + 1) ls (.int z :: st) h) : V E g tb ρ nL (pc) ls (.int y :: .int x :: st) h := by
  unfold mI at hv
  split at hv
  · cases hv
  · rename_i hne
    cases hv
    obtain ⟨p, e, R, s, m, args, below, meth, c0, Q⟩ := E
    obtain ⟨hx, hb, hml, hown, hts, hK, ok, hi, hF, hL, hN⟩ := X
    intro H locs la hP hS hl
    exact lv_irem hx hb hd hne (kk H locs la hP hS hl)
theorem v_ldiv {x y z : Int64} (X : CX E g tb ρ cc nL own F Lo) (hv : dL x y = some z) (hd : decode cc pc = .ok (.ldiv, 1)) (kk : V E g tb ρ nL (pc + 1) ls (.long z :: st) h) : V E g tb ρ nL (pc) ls (.long y :: .long x :: st) h := by
  unfold dL at hv
  split at hv
  · cases hv
  · rename_i hne
    cases hv
    obtain ⟨p, e, R, s, m, args, below, meth, c0, Q⟩ := E
    obtain ⟨hx, hb, hml, hown, hts, hK, ok, hi, hF, hL, hN⟩ := X
    intro H locs la hP hS hl
    exact lv_ldiv hx hb hd hne (kk H locs la hP hS hl)
theorem v_lrem {x y z : Int64} (X : CX E g tb ρ cc nL own F Lo) (hv : mL x y = some z) (hd : decode cc pc = .ok (.lrem, 1)) (kk : V E g tb ρ nL (pc + 1) ls (.long z :: st) h) : V E g tb ρ nL (pc) ls (.long y :: .long x :: st) h := by
  unfold mL at hv
  split at hv
  · cases hv
  · rename_i hne
    cases hv
    obtain ⟨p, e, R, s, m, args, below, meth, c0, Q⟩ := E
    obtain ⟨hx, hb, hml, hown, hts, hK, ok, hi, hF, hL, hN⟩ := X
    intro H locs la hP hS hl
    exact lv_lrem hx hb hd hne (kk H locs la hP hS hl)
theorem v_iconst {n : Int} {v : Int32} (X : CX E g tb ρ cc nL own F Lo) (hd : decode cc pc = .ok (.iconst n, 1)) (hv : Int32.ofInt n = v) (kk : V E g tb ρ nL (pc + 1) ls (.int v :: st) h) : V E g tb ρ nL (pc) ls (st) h := by
  obtain ⟨p, e, R, s, m, args, below, meth, c0, Q⟩ := E
  obtain ⟨hx, hb, hml, hown, hts, hK, ok, hi, hF, hL, hN⟩ := X
  intro H locs la hP hS hl
  exact lv_iconst hx hb hd hv (kk H locs la hP hS hl)
theorem v_bipush {n : Int} {v : Int32} (X : CX E g tb ρ cc nL own F Lo) (hd : decode cc pc = .ok (.bipush n, 2)) (hv : (Int8.ofInt n).toInt32 = v) (kk : V E g tb ρ nL (pc + 2) ls (.int v :: st) h) : V E g tb ρ nL (pc) ls (st) h := by
  obtain ⟨p, e, R, s, m, args, below, meth, c0, Q⟩ := E
  obtain ⟨hx, hb, hml, hown, hts, hK, ok, hi, hF, hL, hN⟩ := X
  intro H locs la hP hS hl
  exact lv_bipush hx hb hd hv (kk H locs la hP hS hl)
theorem v_sipush {n : Int} {v : Int32} (X : CX E g tb ρ cc nL own F Lo) (hd : decode cc pc = .ok (.sipush n, 3)) (hv : (Int16.ofInt n).toInt32 = v) (kk : V E g tb ρ nL (pc + 3) ls (.int v :: st) h) : V E g tb ρ nL (pc) ls (st) h := by
  obtain ⟨p, e, R, s, m, args, below, meth, c0, Q⟩ := E
  obtain ⟨hx, hb, hml, hown, hts, hK, ok, hi, hF, hL, hN⟩ := X
  intro H locs la hP hS hl
  exact lv_sipush hx hb hd hv (kk H locs la hP hS hl)
theorem v_lconst {n : Fin 2} {v : Int64} (X : CX E g tb ρ cc nL own F Lo) (hd : decode cc pc = .ok (.lconst n, 1)) (hv : Int64.ofNat (n : Nat) = v) (kk : V E g tb ρ nL (pc + 1) ls (.long v :: st) h) : V E g tb ρ nL (pc) ls (st) h := by
  obtain ⟨p, e, R, s, m, args, below, meth, c0, Q⟩ := E
  obtain ⟨hx, hb, hml, hown, hts, hK, ok, hi, hF, hL, hN⟩ := X
  intro H locs la hP hS hl
  exact lv_lconst hx hb hd hv (kk H locs la hP hS hl)
theorem v_ldc {idx : Nat} {v : Int32} (X : CX E g tb ρ cc nL own F Lo) (hd : decode cc pc = .ok (.ldc idx, 2)) (hw : Cond.constant own idx v ∈ GW) (kk : V E g tb ρ nL (pc + 2) ls (.int v :: st) h) : V E g tb ρ nL (pc) ls (st) h := by
  obtain ⟨p, e, R, s, m, args, below, meth, c0, Q⟩ := E
  obtain ⟨hx, hb, hml, hown, hts, hK, ok, hi, hF, hL, hN⟩ := X
  intro H locs la hP hS hl
  exact lv_ldc hx hb hown (hts _ hw) hd (kk H locs la hP hS hl)
theorem v_ldc2 {idx : Nat} {v : Int64} (X : CX E g tb ρ cc nL own F Lo) (hd : decode cc pc = .ok (.ldc2_w idx, 3)) (hw : Cond.constantLong own idx v ∈ GW) (kk : V E g tb ρ nL (pc + 3) ls (.long v :: st) h) : V E g tb ρ nL (pc) ls (st) h := by
  obtain ⟨p, e, R, s, m, args, below, meth, c0, Q⟩ := E
  obtain ⟨hx, hb, hml, hown, hts, hK, ok, hi, hF, hL, hN⟩ := X
  intro H locs la hP hS hl
  exact lv_ldc2 hx hb hown (hts _ hw) hd (kk H locs la hP hS hl)
theorem v_dup {a : Value} (X : CX E g tb ρ cc nL own F Lo) (hd : decode cc pc = .ok (.dup, 1)) (ha : a.category = 1) (kk : V E g tb ρ nL (pc + 1) ls (a :: a :: st) h) : V E g tb ρ nL (pc) ls (a :: st) h := by
  obtain ⟨p, e, R, s, m, args, below, meth, c0, Q⟩ := E
  obtain ⟨hx, hb, hml, hown, hts, hK, ok, hi, hF, hL, hN⟩ := X
  intro H locs la hP hS hl
  exact lv_dup hx hb hd ha (kk H locs la hP hS hl)
theorem v_pop {a : Value} (X : CX E g tb ρ cc nL own F Lo) (hd : decode cc pc = .ok (.pop, 1)) (ha : a.category = 1) (kk : V E g tb ρ nL (pc + 1) ls (st) h) : V E g tb ρ nL (pc) ls (a :: st) h := by
  obtain ⟨p, e, R, s, m, args, below, meth, c0, Q⟩ := E
  obtain ⟨hx, hb, hml, hown, hts, hK, ok, hi, hF, hL, hN⟩ := X
  intro H locs la hP hS hl
  exact lv_pop hx hb hd ha (kk H locs la hP hS hl)
theorem v_dup2 {a b : Value} (X : CX E g tb ρ cc nL own F Lo) (hd : decode cc pc = .ok (.dup2, 1)) (ha : a.category = 1) (hb2 : b.category = 1) (kk : V E g tb ρ nL (pc + 1) ls (a :: b :: a :: b :: st) h) : V E g tb ρ nL (pc) ls (a :: b :: st) h := by
  obtain ⟨p, e, R, s, m, args, below, meth, c0, Q⟩ := E
  obtain ⟨hx, hb, hml, hown, hts, hK, ok, hi, hF, hL, hN⟩ := X
  intro H locs la hP hS hl
  exact lv_dup2_11 hx hb hd ha hb2 (kk H locs la hP hS hl)
theorem v_iload_n {k : Fin 4} {x : Int32} (X : CX E g tb ρ cc nL own F Lo) (hd : decode cc pc = .ok (.iload_n k, 1)) (q : Nat) (hq : ls[q]? = some ((k : Nat), .int x)) (kk : V E g tb ρ nL (pc + 1) ls (.int x :: st) h) : V E g tb ρ nL (pc) ls (st) h := by
  obtain ⟨p, e, R, s, m, args, below, meth, c0, Q⟩ := E
  obtain ⟨hx, hb, hml, hown, hts, hK, ok, hi, hF, hL, hN⟩ := X
  intro H locs la hP hS hl
  exact lv_iload_n hx hb hd rfl (lv_at hl q hq) (kk H locs la hP hS hl)
theorem v_iload {k : Nat} {x : Int32} (X : CX E g tb ρ cc nL own F Lo) (hd : decode cc pc = .ok (.iload k, 2)) (q : Nat) (hq : ls[q]? = some (k, .int x)) (kk : V E g tb ρ nL (pc + 2) ls (.int x :: st) h) : V E g tb ρ nL (pc) ls (st) h := by
  obtain ⟨p, e, R, s, m, args, below, meth, c0, Q⟩ := E
  obtain ⟨hx, hb, hml, hown, hts, hK, ok, hi, hF, hL, hN⟩ := X
  intro H locs la hP hS hl
  exact lv_iload hx hb hd (lv_at hl q hq) (kk H locs la hP hS hl)
theorem v_lload_n {k : Fin 4} {x : Int64} (X : CX E g tb ρ cc nL own F Lo) (hd : decode cc pc = .ok (.lload_n k, 1)) (q : Nat) (hq : ls[q]? = some ((k : Nat), .long x)) (kk : V E g tb ρ nL (pc + 1) ls (.long x :: st) h) : V E g tb ρ nL (pc) ls (st) h := by
  obtain ⟨p, e, R, s, m, args, below, meth, c0, Q⟩ := E
  obtain ⟨hx, hb, hml, hown, hts, hK, ok, hi, hF, hL, hN⟩ := X
  intro H locs la hP hS hl
  exact lv_lload_n hx hb hd rfl (lv_at hl q hq) (kk H locs la hP hS hl)
theorem v_lload {k : Nat} {x : Int64} (X : CX E g tb ρ cc nL own F Lo) (hd : decode cc pc = .ok (.lload k, 2)) (q : Nat) (hq : ls[q]? = some (k, .long x)) (kk : V E g tb ρ nL (pc + 2) ls (.long x :: st) h) : V E g tb ρ nL (pc) ls (st) h := by
  obtain ⟨p, e, R, s, m, args, below, meth, c0, Q⟩ := E
  obtain ⟨hx, hb, hml, hown, hts, hK, ok, hi, hF, hL, hN⟩ := X
  intro H locs la hP hS hl
  exact lv_lload hx hb hd (lv_at hl q hq) (kk H locs la hP hS hl)
theorem v_aload_n {k : Fin 4} {x : Nat} (X : CX E g tb ρ cc nL own F Lo) (hd : decode cc pc = .ok (.aload_n k, 1)) (q : Nat) (hq : ls[q]? = some ((k : Nat), .ref x)) (kk : V E g tb ρ nL (pc + 1) ls (.ref x :: st) h) : V E g tb ρ nL (pc) ls (st) h := by
  obtain ⟨p, e, R, s, m, args, below, meth, c0, Q⟩ := E
  obtain ⟨hx, hb, hml, hown, hts, hK, ok, hi, hF, hL, hN⟩ := X
  intro H locs la hP hS hl
  exact lv_aload_n hx hb hd rfl (lv_at hl q hq) (kk H locs la hP hS hl)
theorem v_aload {k : Nat} {x : Nat} (X : CX E g tb ρ cc nL own F Lo) (hd : decode cc pc = .ok (.aload k, 2)) (q : Nat) (hq : ls[q]? = some (k, .ref x)) (kk : V E g tb ρ nL (pc + 2) ls (.ref x :: st) h) : V E g tb ρ nL (pc) ls (st) h := by
  obtain ⟨p, e, R, s, m, args, below, meth, c0, Q⟩ := E
  obtain ⟨hx, hb, hml, hown, hts, hK, ok, hi, hF, hL, hN⟩ := X
  intro H locs la hP hS hl
  exact lv_aload hx hb hd (lv_at hl q hq) (kk H locs la hP hS hl)
theorem v_istore_n {k : Fin 4} {x : Int32} {lv' : List (Nat × Value)} (X : CX E g tb ρ cc nL own F Lo) (hd : decode cc pc = .ok (.istore_n k, 1)) (hn : (k : Nat) < nL) (hl' : ((k : Nat), Value.int x) :: ls.filter (fun q => !(q.1 == (k : Nat)) && !(q.1 + 1 == (k : Nat) && q.2.category == 2)) = lv') (kk : V E g tb ρ nL (pc + 1) lv' (st) h) : V E g tb ρ nL (pc) ls (Value.int x :: st) h := by
  obtain ⟨p, e, R, s, m, args, below, meth, c0, Q⟩ := E
  obtain ⟨hx, hb, hml, hown, hts, hK, ok, hi, hF, hL, hN⟩ := X
  intro H locs la hP hS hl
  exact lv_istore_n hx hb hd rfl hl hn hl' (fun la hl => kk H locs la hP hS hl)
theorem v_istore {k : Nat} {x : Int32} {lv' : List (Nat × Value)} (X : CX E g tb ρ cc nL own F Lo) (hd : decode cc pc = .ok (.istore k, 2)) (hn : k < nL) (hl' : (k, Value.int x) :: ls.filter (fun q => !(q.1 == k) && !(q.1 + 1 == k && q.2.category == 2)) = lv') (kk : V E g tb ρ nL (pc + 2) lv' (st) h) : V E g tb ρ nL (pc) ls (Value.int x :: st) h := by
  obtain ⟨p, e, R, s, m, args, below, meth, c0, Q⟩ := E
  obtain ⟨hx, hb, hml, hown, hts, hK, ok, hi, hF, hL, hN⟩ := X
  intro H locs la hP hS hl
  exact lv_istore hx hb hd hl hn hl' (fun la hl => kk H locs la hP hS hl)
theorem v_lstore_n {k : Fin 4} {x : Int64} {lv' : List (Nat × Value)} (X : CX E g tb ρ cc nL own F Lo) (hd : decode cc pc = .ok (.lstore_n k, 1)) (hn : (k : Nat) + 1 < nL) (hl' : ((k : Nat), Value.long x) :: ls.filter (fun q => !(q.1 == (k : Nat)) && (!(q.1 == (k : Nat) + 1) && !(q.1 + 1 == (k : Nat) && q.2.category == 2))) = lv') (kk : V E g tb ρ nL (pc + 1) lv' (st) h) : V E g tb ρ nL (pc) ls (Value.long x :: st) h := by
  obtain ⟨p, e, R, s, m, args, below, meth, c0, Q⟩ := E
  obtain ⟨hx, hb, hml, hown, hts, hK, ok, hi, hF, hL, hN⟩ := X
  intro H locs la hP hS hl
  exact lv_lstore_n hx hb hd rfl hl hn hl' (fun la hl => kk H locs la hP hS hl)
theorem v_lstore {k : Nat} {x : Int64} {lv' : List (Nat × Value)} (X : CX E g tb ρ cc nL own F Lo) (hd : decode cc pc = .ok (.lstore k, 2)) (hn : k + 1 < nL) (hl' : (k, Value.long x) :: ls.filter (fun q => !(q.1 == k) && (!(q.1 == k + 1) && !(q.1 + 1 == k && q.2.category == 2))) = lv') (kk : V E g tb ρ nL (pc + 2) lv' (st) h) : V E g tb ρ nL (pc) ls (Value.long x :: st) h := by
  obtain ⟨p, e, R, s, m, args, below, meth, c0, Q⟩ := E
  obtain ⟨hx, hb, hml, hown, hts, hK, ok, hi, hF, hL, hN⟩ := X
  intro H locs la hP hS hl
  exact lv_lstore hx hb hd hl hn hl' (fun la hl => kk H locs la hP hS hl)
theorem v_astore_n {k : Fin 4} {x : Nat} {lv' : List (Nat × Value)} (X : CX E g tb ρ cc nL own F Lo) (hd : decode cc pc = .ok (.astore_n k, 1)) (hn : (k : Nat) < nL) (hl' : ((k : Nat), Value.ref x) :: ls.filter (fun q => !(q.1 == (k : Nat)) && !(q.1 + 1 == (k : Nat) && q.2.category == 2)) = lv') (kk : V E g tb ρ nL (pc + 1) lv' (st) h) : V E g tb ρ nL (pc) ls (Value.ref x :: st) h := by
  obtain ⟨p, e, R, s, m, args, below, meth, c0, Q⟩ := E
  obtain ⟨hx, hb, hml, hown, hts, hK, ok, hi, hF, hL, hN⟩ := X
  intro H locs la hP hS hl
  exact lv_astore_n hx hb hd rfl hl hn hl' (fun la hl => kk H locs la hP hS hl)
theorem v_astore {k : Nat} {x : Nat} {lv' : List (Nat × Value)} (X : CX E g tb ρ cc nL own F Lo) (hd : decode cc pc = .ok (.astore k, 2)) (hn : k < nL) (hl' : (k, Value.ref x) :: ls.filter (fun q => !(q.1 == k) && !(q.1 + 1 == k && q.2.category == 2)) = lv') (kk : V E g tb ρ nL (pc + 2) lv' (st) h) : V E g tb ρ nL (pc) ls (Value.ref x :: st) h := by
  obtain ⟨p, e, R, s, m, args, below, meth, c0, Q⟩ := E
  obtain ⟨hx, hb, hml, hown, hts, hK, ok, hi, hF, hL, hN⟩ := X
  intro H locs la hP hS hl
  exact lv_astore hx hb hd hl hn hl' (fun la hl => kk H locs la hP hS hl)
theorem v_iinc {k : Nat} {n : Int} {x v : Int32} {lv' : List (Nat × Value)} (X : CX E g tb ρ cc nL own F Lo) (hd : decode cc pc = .ok (.iinc k n, 3)) (q : Nat) (hq : ls[q]? = some (k, .int x)) (hv : x + Int32.ofInt n = v) (hn : k < nL) (hl' : (k, Value.int v) :: ls.filter (fun q => !(q.1 == k) && !(q.1 + 1 == k && q.2.category == 2)) = lv') (kk : V E g tb ρ nL (pc + 3) lv' (st) h) : V E g tb ρ nL (pc) ls (st) h := by
  obtain ⟨p, e, R, s, m, args, below, meth, c0, Q⟩ := E
  obtain ⟨hx, hb, hml, hown, hts, hK, ok, hi, hF, hL, hN⟩ := X
  intro H locs la hP hS hl
  exact lv_iinc hx hb hd hl hq hv hn hl' (fun la hl => kk H locs la hP hS hl)
theorem v_sub {lv' : List (Nat × Value)} (ks : List Nat) (hk : lv_pick ls ks = lv') (kk : V E g tb ρ nL (pc) lv' (st) h) : V E g tb ρ nL (pc) ls (st) h := by
  obtain ⟨p, e, R, s, m, args, below, meth, c0, Q⟩ := E
  intro H locs la hP hS hl
  exact kk H locs la hP hS (lv_sub hl ks hk)
theorem v_goto {off : Int} {tgt : Nat} (X : CX E g tb ρ cc nL own F Lo) (hd : decode cc pc = .ok (.goto off, 3)) (ht : (pc : Int) + off = (tgt : Int)) (kk : V E g tb ρ nL (tgt) ls (st) h) : V E g tb ρ nL (pc) ls (st) h := by
  obtain ⟨p, e, R, s, m, args, below, meth, c0, Q⟩ := E
  obtain ⟨hx, hb, hml, hown, hts, hK, ok, hi, hF, hL, hN⟩ := X
  intro H locs la hP hS hl
  exact lv_goto hx hb hd ht (kk H locs la hP hS hl)
theorem v_icmp_eq {x y : Int32} {off : Int} {tgt : Nat} (X : CX E g tb ρ cc nL own F Lo) (hd : decode cc pc = .ok (.if_icmp .eq off, 3)) (ht : (pc : Int) + off = (tgt : Int)) (kt : x = y → V E g tb ρ nL (tgt) ls (st) h) (kf : ¬ x = y → V E g tb ρ nL (pc + 3) ls (st) h) : V E g tb ρ nL (pc) ls (.int y :: .int x :: st) h := by
  obtain ⟨p, e, R, s, m, args, below, meth, c0, Q⟩ := E
  obtain ⟨hx, hb, hml, hown, hts, hK, ok, hi, hF, hL, hN⟩ := X
  intro H locs la hP hS hl
  exact lv_icmp_eq hx hb hd ht (fun q => kt q H locs la hP hS hl) (fun q => kf q H locs la hP hS hl)
theorem v_if_eq {x : Int32} {off : Int} {tgt : Nat} (X : CX E g tb ρ cc nL own F Lo) (hd : decode cc pc = .ok (.ifCond .eq off, 3)) (ht : (pc : Int) + off = (tgt : Int)) (kt : x = 0 → V E g tb ρ nL (tgt) ls (st) h) (kf : ¬ x = 0 → V E g tb ρ nL (pc + 3) ls (st) h) : V E g tb ρ nL (pc) ls (.int x :: st) h := by
  obtain ⟨p, e, R, s, m, args, below, meth, c0, Q⟩ := E
  obtain ⟨hx, hb, hml, hown, hts, hK, ok, hi, hF, hL, hN⟩ := X
  intro H locs la hP hS hl
  exact lv_if_eq hx hb hd ht (fun q => kt q H locs la hP hS hl) (fun q => kf q H locs la hP hS hl)
theorem v_icmp_ne {x y : Int32} {off : Int} {tgt : Nat} (X : CX E g tb ρ cc nL own F Lo) (hd : decode cc pc = .ok (.if_icmp .ne off, 3)) (ht : (pc : Int) + off = (tgt : Int)) (kt : ¬ x = y → V E g tb ρ nL (tgt) ls (st) h) (kf : x = y → V E g tb ρ nL (pc + 3) ls (st) h) : V E g tb ρ nL (pc) ls (.int y :: .int x :: st) h := by
  obtain ⟨p, e, R, s, m, args, below, meth, c0, Q⟩ := E
  obtain ⟨hx, hb, hml, hown, hts, hK, ok, hi, hF, hL, hN⟩ := X
  intro H locs la hP hS hl
  exact lv_icmp_ne hx hb hd ht (fun q => kt q H locs la hP hS hl) (fun q => kf q H locs la hP hS hl)
theorem v_if_ne {x : Int32} {off : Int} {tgt : Nat} (X : CX E g tb ρ cc nL own F Lo) (hd : decode cc pc = .ok (.ifCond .ne off, 3)) (ht : (pc : Int) + off = (tgt : Int)) (kt : ¬ x = 0 → V E g tb ρ nL (tgt) ls (st) h) (kf : x = 0 → V E g tb ρ nL (pc + 3) ls (st) h) : V E g tb ρ nL (pc) ls (.int x :: st) h := by
  obtain ⟨p, e, R, s, m, args, below, meth, c0, Q⟩ := E
  obtain ⟨hx, hb, hml, hown, hts, hK, ok, hi, hF, hL, hN⟩ := X
  intro H locs la hP hS hl
  exact lv_if_ne hx hb hd ht (fun q => kt q H locs la hP hS hl) (fun q => kf q H locs la hP hS hl)
theorem v_icmp_lt {x y : Int32} {off : Int} {tgt : Nat} (X : CX E g tb ρ cc nL own F Lo) (hd : decode cc pc = .ok (.if_icmp .lt off, 3)) (ht : (pc : Int) + off = (tgt : Int)) (kt : x < y → V E g tb ρ nL (tgt) ls (st) h) (kf : ¬ x < y → V E g tb ρ nL (pc + 3) ls (st) h) : V E g tb ρ nL (pc) ls (.int y :: .int x :: st) h := by
  obtain ⟨p, e, R, s, m, args, below, meth, c0, Q⟩ := E
  obtain ⟨hx, hb, hml, hown, hts, hK, ok, hi, hF, hL, hN⟩ := X
  intro H locs la hP hS hl
  exact lv_icmp_lt hx hb hd ht (fun q => kt q H locs la hP hS hl) (fun q => kf q H locs la hP hS hl)
theorem v_if_lt {x : Int32} {off : Int} {tgt : Nat} (X : CX E g tb ρ cc nL own F Lo) (hd : decode cc pc = .ok (.ifCond .lt off, 3)) (ht : (pc : Int) + off = (tgt : Int)) (kt : x < 0 → V E g tb ρ nL (tgt) ls (st) h) (kf : ¬ x < 0 → V E g tb ρ nL (pc + 3) ls (st) h) : V E g tb ρ nL (pc) ls (.int x :: st) h := by
  obtain ⟨p, e, R, s, m, args, below, meth, c0, Q⟩ := E
  obtain ⟨hx, hb, hml, hown, hts, hK, ok, hi, hF, hL, hN⟩ := X
  intro H locs la hP hS hl
  exact lv_if_lt hx hb hd ht (fun q => kt q H locs la hP hS hl) (fun q => kf q H locs la hP hS hl)
theorem v_icmp_ge {x y : Int32} {off : Int} {tgt : Nat} (X : CX E g tb ρ cc nL own F Lo) (hd : decode cc pc = .ok (.if_icmp .ge off, 3)) (ht : (pc : Int) + off = (tgt : Int)) (kt : y ≤ x → V E g tb ρ nL (tgt) ls (st) h) (kf : ¬ y ≤ x → V E g tb ρ nL (pc + 3) ls (st) h) : V E g tb ρ nL (pc) ls (.int y :: .int x :: st) h := by
  obtain ⟨p, e, R, s, m, args, below, meth, c0, Q⟩ := E
  obtain ⟨hx, hb, hml, hown, hts, hK, ok, hi, hF, hL, hN⟩ := X
  intro H locs la hP hS hl
  exact lv_icmp_ge hx hb hd ht (fun q => kt q H locs la hP hS hl) (fun q => kf q H locs la hP hS hl)
theorem v_if_ge {x : Int32} {off : Int} {tgt : Nat} (X : CX E g tb ρ cc nL own F Lo) (hd : decode cc pc = .ok (.ifCond .ge off, 3)) (ht : (pc : Int) + off = (tgt : Int)) (kt : 0 ≤ x → V E g tb ρ nL (tgt) ls (st) h) (kf : ¬ 0 ≤ x → V E g tb ρ nL (pc + 3) ls (st) h) : V E g tb ρ nL (pc) ls (.int x :: st) h := by
  obtain ⟨p, e, R, s, m, args, below, meth, c0, Q⟩ := E
  obtain ⟨hx, hb, hml, hown, hts, hK, ok, hi, hF, hL, hN⟩ := X
  intro H locs la hP hS hl
  exact lv_if_ge hx hb hd ht (fun q => kt q H locs la hP hS hl) (fun q => kf q H locs la hP hS hl)
theorem v_icmp_gt {x y : Int32} {off : Int} {tgt : Nat} (X : CX E g tb ρ cc nL own F Lo) (hd : decode cc pc = .ok (.if_icmp .gt off, 3)) (ht : (pc : Int) + off = (tgt : Int)) (kt : y < x → V E g tb ρ nL (tgt) ls (st) h) (kf : ¬ y < x → V E g tb ρ nL (pc + 3) ls (st) h) : V E g tb ρ nL (pc) ls (.int y :: .int x :: st) h := by
  obtain ⟨p, e, R, s, m, args, below, meth, c0, Q⟩ := E
  obtain ⟨hx, hb, hml, hown, hts, hK, ok, hi, hF, hL, hN⟩ := X
  intro H locs la hP hS hl
  exact lv_icmp_gt hx hb hd ht (fun q => kt q H locs la hP hS hl) (fun q => kf q H locs la hP hS hl)
theorem v_if_gt {x : Int32} {off : Int} {tgt : Nat} (X : CX E g tb ρ cc nL own F Lo) (hd : decode cc pc = .ok (.ifCond .gt off, 3)) (ht : (pc : Int) + off = (tgt : Int)) (kt : 0 < x → V E g tb ρ nL (tgt) ls (st) h) (kf : ¬ 0 < x → V E g tb ρ nL (pc + 3) ls (st) h) : V E g tb ρ nL (pc) ls (.int x :: st) h := by
  obtain ⟨p, e, R, s, m, args, below, meth, c0, Q⟩ := E
  obtain ⟨hx, hb, hml, hown, hts, hK, ok, hi, hF, hL, hN⟩ := X
  intro H locs la hP hS hl
  exact lv_if_gt hx hb hd ht (fun q => kt q H locs la hP hS hl) (fun q => kf q H locs la hP hS hl)
theorem v_icmp_le {x y : Int32} {off : Int} {tgt : Nat} (X : CX E g tb ρ cc nL own F Lo) (hd : decode cc pc = .ok (.if_icmp .le off, 3)) (ht : (pc : Int) + off = (tgt : Int)) (kt : x ≤ y → V E g tb ρ nL (tgt) ls (st) h) (kf : ¬ x ≤ y → V E g tb ρ nL (pc + 3) ls (st) h) : V E g tb ρ nL (pc) ls (.int y :: .int x :: st) h := by
  obtain ⟨p, e, R, s, m, args, below, meth, c0, Q⟩ := E
  obtain ⟨hx, hb, hml, hown, hts, hK, ok, hi, hF, hL, hN⟩ := X
  intro H locs la hP hS hl
  exact lv_icmp_le hx hb hd ht (fun q => kt q H locs la hP hS hl) (fun q => kf q H locs la hP hS hl)
theorem v_if_le {x : Int32} {off : Int} {tgt : Nat} (X : CX E g tb ρ cc nL own F Lo) (hd : decode cc pc = .ok (.ifCond .le off, 3)) (ht : (pc : Int) + off = (tgt : Int)) (kt : x ≤ 0 → V E g tb ρ nL (tgt) ls (st) h) (kf : ¬ x ≤ 0 → V E g tb ρ nL (pc + 3) ls (st) h) : V E g tb ρ nL (pc) ls (.int x :: st) h := by
  obtain ⟨p, e, R, s, m, args, below, meth, c0, Q⟩ := E
  obtain ⟨hx, hb, hml, hown, hts, hK, ok, hi, hF, hL, hN⟩ := X
  intro H locs la hP hS hl
  exact lv_if_le hx hb hd ht (fun q => kt q H locs la hP hS hl) (fun q => kf q H locs la hP hS hl)
theorem v_tin {dflt lo hi : Int} {offs : Array Int} {len : Nat} {x v : Int32} {off : Int} {tgt : Nat} (X : CX E g tb ρ cc nL own F Lo) (hd : decode cc pc = .ok (.tableswitch dflt lo hi offs, len)) (hv : x = v) (h1 : ¬ v.toInt < lo) (h2 : ¬ hi < v.toInt) (ho : offs[(v.toInt - lo).toNat]? = some off) (ht : (pc : Int) + off = (tgt : Int)) (kk : V E g tb ρ nL (tgt) ls (st) h) : V E g tb ρ nL (pc) ls (.int x :: st) h := by
  subst hv
  obtain ⟨p, e, R, s, m, args, below, meth, c0, Q⟩ := E
  obtain ⟨hx, hb, hml, hown, hts, hK, ok, hi, hF, hL, hN⟩ := X
  intro H locs la hP hS hl
  exact lv_tableIn hx hb hd h1 h2 ho ht (kk H locs la hP hS hl)
theorem v_tout {dflt lo hi : Int} {offs : Array Int} {len : Nat} {x : Int32} {tgt : Nat} (X : CX E g tb ρ cc nL own F Lo) (hd : decode cc pc = .ok (.tableswitch dflt lo hi offs, len)) (hv : x.toInt < lo ∨ hi < x.toInt) (ht : (pc : Int) + dflt = (tgt : Int)) (kk : V E g tb ρ nL (tgt) ls (st) h) : V E g tb ρ nL (pc) ls (.int x :: st) h := by
  obtain ⟨p, e, R, s, m, args, below, meth, c0, Q⟩ := E
  obtain ⟨hx, hb, hml, hown, hts, hK, ok, hi, hF, hL, hN⟩ := X
  intro H locs la hP hS hl
  exact lv_tableOut hx hb hd hv ht (kk H locs la hP hS hl)
theorem t_out {x : Int32} {lo hi : Int} (vs : List Int32) (hv : (List.range (hi - lo + 1).toNat).map (fun k : Nat => Int32.ofInt (lo + (k : Int))) = vs) (hn : ∀ v ∈ vs, ¬ x = v) : x.toInt < lo ∨ hi < x.toInt := by
  rcases Int.lt_or_le x.toInt lo with q | q
  · exact Or.inl q
  · rcases Int.lt_or_le hi x.toInt with q2 | q2
    · exact Or.inr q2
    · exfalso
      refine hn x ?_ rfl
      rw [← hv]
      refine List.mem_map.mpr ⟨(x.toInt - lo).toNat, List.mem_range.mpr (by omega), ?_⟩
      rw [show lo + (((x.toInt - lo).toNat : Nat) : Int) = x.toInt by omega, Int32.ofInt_toInt]
theorem at_obj {D : va_G} {dA : Nat → ClassId} {ci c : Nat} (ok : TbOK tb) (hk : kd tb c = ci) (h20 : ci < 20) : c < tb.1 ∧ (wsO dA tb ρ h)[c]? = some (ρ c, .inr (ci, (List.range (nf ci)).map (fun j => fv tb ρ (h.1 c) (h.2 c) c j (fty ci j)))) := by
  have hc : c < tb.1 := ok.1 c (by omega)
  refine ⟨hc, ?_⟩
  rw [wsO_at hc]
  unfold ent
  rw [hk, if_neg (by omega), if_neg (by omega), if_neg (by omega), if_neg (by omega), oc_lt h20]
theorem fl_at {ci j N : Nat} (u : Nat → Int32) (v : Nat → Int64) (c : Nat) (hN : nf ci = N) (hj : j < N) : ((List.range (nf ci)).map (fun j => fv tb ρ u v c j (fty ci j)))[j]? = some (fv tb ρ u v c j (fty ci j)) := by
  simp [hN, hj]
theorem isI_R {t : FieldType} (ht : isI t = true) : isL t = false ∧ isR t = false := by
  cases t <;> first | exact ⟨rfl, rfl⟩ | cases ht
theorem isR_L {t : FieldType} (ht : isR t = true) : isL t = false := by
  cases t <;> first | rfl | cases ht
theorem fk_R {ci j k : Nat} (hf : fkind ci j = some k) : isR (fty ci j) = true := by
  unfold fkind at hf
  split at hf <;> first | (cases hf; done) | (rename_i q; rw [q]; rfl)
theorem v_geti {idx ci j c : Nat} (X : CX E g tb ρ cc nL own F Lo) (hG : FL own idx ci j) (hk : kd tb c = ci) (ht : isI (fty ci j) = true) (hd : decode cc pc = .ok (.getfield idx, 3)) (kk : V E g tb ρ nL (pc + 3) ls (.int (h.1 c j) :: st) h) : V E g tb ρ nL (pc) ls (.ref (ρ c) :: st) h := by
  obtain ⟨C, T, N, ⟨a1, a2, a3, a4, a5, a6, a7⟩, hj, hlk⟩ := hG
  obtain ⟨p, e, R, s, m, args, below, meth, c0, Q⟩ := E
  obtain ⟨hx, hb, hml, hown, hts, hK, ok, hi, hF, hL, hN⟩ := X
  intro H locs la hP hS hl
  obtain ⟨q1, q2⟩ := at_obj (h := h) (ρ := ρ) (D := g.2.1) (dA := g.2.2) ok hk a3
  refine va_get hx hb hts a4 hown hK hP c q2 a1 j hj (hts _ hlk) (fun z hz => by rw [a6 j hj] at hz; exact hz) (v := .int (h.1 c j)) ?_ hd (kk H locs la hP hS hl)
  rw [fl_at _ _ _ a2 hj]
  simp [fv, isI_R ht]
theorem v_getl {idx ci j c : Nat} (X : CX E g tb ρ cc nL own F Lo) (hG : FL own idx ci j) (hk : kd tb c = ci) (ht : isL (fty ci j) = true) (hd : decode cc pc = .ok (.getfield idx, 3)) (kk : V E g tb ρ nL (pc + 3) ls (.long (h.2 c j) :: st) h) : V E g tb ρ nL (pc) ls (.ref (ρ c) :: st) h := by
  obtain ⟨C, T, N, ⟨a1, a2, a3, a4, a5, a6, a7⟩, hj, hlk⟩ := hG
  obtain ⟨p, e, R, s, m, args, below, meth, c0, Q⟩ := E
  obtain ⟨hx, hb, hml, hown, hts, hK, ok, hi, hF, hL, hN⟩ := X
  intro H locs la hP hS hl
  obtain ⟨q1, q2⟩ := at_obj (h := h) (ρ := ρ) (D := g.2.1) (dA := g.2.2) ok hk a3
  refine va_get hx hb hts a4 hown hK hP c q2 a1 j hj (hts _ hlk) (fun z hz => by rw [a6 j hj] at hz; exact hz) (v := .long (h.2 c j)) ?_ hd (kk H locs la hP hS hl)
  rw [fl_at _ _ _ a2 hj]
  simp [fv, ht]
theorem v_geta {idx ci j c : Nat} (X : CX E g tb ρ cc nL own F Lo) (hG : FL own idx ci j) (hk : kd tb c = ci) {k : Nat} (hf : fkind ci j = some k) (hd : decode cc pc = .ok (.getfield idx, 3)) (kk : V E g tb ρ nL (pc + 3) ls (.ref (ρ (lay tb c j)) :: st) h) : V E g tb ρ nL (pc) ls (.ref (ρ c) :: st) h := by
  obtain ⟨C, T, N, ⟨a1, a2, a3, a4, a5, a6, a7⟩, hj, hlk⟩ := hG
  obtain ⟨p, e, R, s, m, args, below, meth, c0, Q⟩ := E
  obtain ⟨hx, hb, hml, hown, hts, hK, ok, hi, hF, hL, hN⟩ := X
  intro H locs la hP hS hl
  obtain ⟨q1, q2⟩ := at_obj (h := h) (ρ := ρ) (D := g.2.1) (dA := g.2.2) ok hk a3
  refine va_get hx hb hts a4 hown hK hP c q2 a1 j hj (hts _ hlk) (fun z hz => by rw [a6 j hj] at hz; exact hz) (v := .ref (ρ (lay tb c j))) ?_ hd (kk H locs la hP hS hl)
  rw [fl_at _ _ _ a2 hj]
  simp [fv, fk_R hf, isR_L (fk_R hf), (lay_ok ok hk a3 j hf).1, va_rf]
theorem set_i {ci j c N : Nat} {x : Int32} (u : Nat → Int32) (v : Nat → Int64) (hN : nf ci = N) (hj : j < N) (ht : isI (fty ci j) = true) :
    (List.range (nf ci)).map (fun j' => fv tb ρ (fun b => if b = j then x else u b) v c j' (fty ci j')) = ((List.range (nf ci)).map (fun j' => fv tb ρ u v c j' (fty ci j'))).set j (.int x) := by
  apply List.ext_getElem?
  intro k
  by_cases hk : k < nf ci
  · by_cases hkj : k = j
    · subst hkj
      rw [List.getElem?_set_self (by simpa using hk)]
      simp [hk, fv, isI_R ht]
    · rw [List.getElem?_set_ne (Ne.symm hkj)]
      simp [hk, fv, hkj]
  · rw [List.getElem?_eq_none (by simp; omega), List.getElem?_eq_none (by simp; omega)]
theorem set_l {ci j c N : Nat} {x : Int64} (u : Nat → Int32) (v : Nat → Int64) (hN : nf ci = N) (hj : j < N) (ht : isL (fty ci j) = true) :
    (List.range (nf ci)).map (fun j' => fv tb ρ u (fun b => if b = j then x else v b) c j' (fty ci j')) = ((List.range (nf ci)).map (fun j' => fv tb ρ u v c j' (fty ci j'))).set j (.long x) := by
  apply List.ext_getElem?
  intro k
  by_cases hk : k < nf ci
  · by_cases hkj : k = j
    · subst hkj
      rw [List.getElem?_set_self (by simpa using hk)]
      simp [hk, fv, ht]
    · rw [List.getElem?_set_ne (Ne.symm hkj)]
      simp [hk, fv, hkj]
  · rw [List.getElem?_eq_none (by simp; omega), List.getElem?_eq_none (by simp; omega)]
theorem pI_o {c j a : Nat} {x : Int32} (ha : a ≠ c) : (pI h c j x).1 a = h.1 a := by
  funext b
  simp [pI, ha]
theorem pI_s {c j : Nat} {x : Int32} : (pI h c j x).1 c = fun b => if b = j then x else h.1 c b := by
  funext b
  simp [pI]
theorem pL_o {c j a : Nat} {x : Int64} (ha : a ≠ c) : (pL h c j x).2 a = h.2 a := by
  funext b
  simp [pL, ha]
theorem pL_s {c j : Nat} {x : Int64} : (pL h c j x).2 c = fun b => if b = j then x else h.2 c b := by
  funext b
  simp [pL]
theorem ent_obj {dA : Nat → ClassId} {ci c : Nat} {u : Nat → Int32} {v : Nat → Int64} (hk : kd tb c = ci) (h20 : ci < 20) : ent dA tb ρ u v c = .inr (ci, (List.range (nf ci)).map (fun j => fv tb ρ u v c j (fty ci j))) := by
  unfold ent
  rw [hk, if_neg (by omega), if_neg (by omega), if_neg (by omega), if_neg (by omega), oc_lt h20]
theorem v_puti {idx ci j c : Nat} {x : Int32} {h1 : Hp} (X : CX E g tb ρ cc nL own F Lo) (hG : FP own idx ci j) (hk : kd tb c = ci) (ht : fty ci j = .int)  (hd : decode cc pc = .ok (.putfield idx, 3)) (he : h1 = pI h c j x) (kk : V E g tb ρ nL (pc + 3) ls (st) (h1)) : V E g tb ρ nL (pc) ls (.int x :: .ref (ρ c) :: st) h := by
  subst he
  obtain ⟨C, T, N, ⟨a1, a2, a3, a4, a5, a6, a7⟩, hj, hlk, hfin⟩ := hG
  obtain ⟨p, e, R, s, m, args, below, meth, c0, Q⟩ := E
  obtain ⟨hx, hb, hml, hown, hts, hK, ok, hi, hF, hL, hN⟩ := X
  intro H locs la hP hS hl
  obtain ⟨q1, q2⟩ := at_obj (h := h) (ρ := ρ) (D := g.2.1) (dA := g.2.2) ok hk a3
  refine va_put hx hb hts a4 (fty ci) a5 a7 hown hK hP (wsO_D hi h) hS c q2 a1 j hj (hts _ hlk) (fun z hz => by rw [a6 j hj] at hz; exact hz) hfin (ty := .int) (v := .int x) (by rw [a5 j hj, ht]) rfl rfl (by simp [a2, hj]) hd (fun H1 locs1 hP1 _ hS1 => ?_)
  refine kk H1 locs1 la ?_ hS1 hl
  rw [wsO_set (h' := pI h c j x) q1 ?_ ?_ ?_] at hP1
  · exact hP1
  · rw [ent_obj hk a3, pI_s, set_i _ _ a2 hj (by rw [ht]; rfl)]; rfl
  · intro a ha; exact pI_o ha
  · intro a ha; rfl
theorem v_putz {idx ci j c : Nat} {x : Int32} {h1 : Hp} (X : CX E g tb ρ cc nL own F Lo) (hG : FP own idx ci j) (hk : kd tb c = ci) (ht : fty ci j = .boolean) (hz : bit x = true) (hd : decode cc pc = .ok (.putfield idx, 3)) (he : h1 = pI h c j x) (kk : V E g tb ρ nL (pc + 3) ls (st) (h1)) : V E g tb ρ nL (pc) ls (.int x :: .ref (ρ c) :: st) h := by
  subst he
  obtain ⟨C, T, N, ⟨a1, a2, a3, a4, a5, a6, a7⟩, hj, hlk, hfin⟩ := hG
  obtain ⟨p, e, R, s, m, args, below, meth, c0, Q⟩ := E
  obtain ⟨hx, hb, hml, hown, hts, hK, ok, hi, hF, hL, hN⟩ := X
  intro H locs la hP hS hl
  obtain ⟨q1, q2⟩ := at_obj (h := h) (ρ := ρ) (D := g.2.1) (dA := g.2.2) ok hk a3
  refine va_put hx hb hts a4 (fty ci) a5 a7 hown hK hP (wsO_D hi h) hS c q2 a1 j hj (hts _ hlk) (fun z hz => by rw [a6 j hj] at hz; exact hz) hfin (ty := .boolean) (v := .int x) (by rw [a5 j hj, ht]) (by simp only [bit, Bool.or_eq_true, decide_eq_true_eq] at hz; rcases hz with rfl | rfl <;> rfl) (by simp only [bit, Bool.or_eq_true, decide_eq_true_eq] at hz; rcases hz with rfl | rfl <;> rfl) (by simp [a2, hj]) hd (fun H1 locs1 hP1 _ hS1 => ?_)
  refine kk H1 locs1 la ?_ hS1 hl
  rw [wsO_set (h' := pI h c j x) q1 ?_ ?_ ?_] at hP1
  · exact hP1
  · rw [ent_obj hk a3, pI_s, set_i _ _ a2 hj (by rw [ht]; rfl)]; rfl
  · intro a ha; exact pI_o ha
  · intro a ha; rfl
theorem v_putl {idx ci j c : Nat} {x : Int64} {h1 : Hp} (X : CX E g tb ρ cc nL own F Lo) (hG : FP own idx ci j) (hk : kd tb c = ci) (ht : fty ci j = .long)  (hd : decode cc pc = .ok (.putfield idx, 3)) (he : h1 = pL h c j x) (kk : V E g tb ρ nL (pc + 3) ls (st) (h1)) : V E g tb ρ nL (pc) ls (.long x :: .ref (ρ c) :: st) h := by
  subst he
  obtain ⟨C, T, N, ⟨a1, a2, a3, a4, a5, a6, a7⟩, hj, hlk, hfin⟩ := hG
  obtain ⟨p, e, R, s, m, args, below, meth, c0, Q⟩ := E
  obtain ⟨hx, hb, hml, hown, hts, hK, ok, hi, hF, hL, hN⟩ := X
  intro H locs la hP hS hl
  obtain ⟨q1, q2⟩ := at_obj (h := h) (ρ := ρ) (D := g.2.1) (dA := g.2.2) ok hk a3
  refine va_put hx hb hts a4 (fty ci) a5 a7 hown hK hP (wsO_D hi h) hS c q2 a1 j hj (hts _ hlk) (fun z hz => by rw [a6 j hj] at hz; exact hz) hfin (ty := .long) (v := .long x) (by rw [a5 j hj, ht]) rfl rfl (by simp [a2, hj]) hd (fun H1 locs1 hP1 _ hS1 => ?_)
  refine kk H1 locs1 la ?_ hS1 hl
  rw [wsO_set (h' := pL h c j x) q1 ?_ ?_ ?_] at hP1
  · exact hP1
  · rw [ent_obj hk a3, pL_s, set_l _ _ a2 hj (by rw [ht]; rfl)]; rfl
  · intro a ha; rfl
  · intro a ha; exact pL_o ha
theorem at_arr {dA : Nat → ClassId} {c : Nat} (ok : TbOK tb) (hk : kd tb c < 99) : c < tb.1 := ok.1 c hk
theorem ent_20 {dA : Nat → ClassId} {c : Nat} {u : Nat → Int32} {v : Nat → Int64} (hk : kd tb c = 20) : ent dA tb ρ u v c = .inl (dA 0, al tb c, .inl u) := by simp [ent, hk]
theorem ent_21 {dA : Nat → ClassId} {c : Nat} {u : Nat → Int32} {v : Nat → Int64} (hk : kd tb c = 21) : ent dA tb ρ u v c = .inl (dA 1, al tb c, .inl u) := by simp [ent, hk]
theorem ent_22 {dA : Nat → ClassId} {c : Nat} {u : Nat → Int32} {v : Nat → Int64} (hk : kd tb c = 22) : ent dA tb ρ u v c = .inl (dA 2, al tb c, .inl u) := by simp [ent, hk]
theorem ent_23 {dA : Nat → ClassId} {c : Nat} {u : Nat → Int32} {v : Nat → Int64} (hk : kd tb c = 23) : ent dA tb ρ u v c = .inl (dA 3, al tb c, .inr (.inl v)) := by simp [ent, hk]
theorem rI_e {c : Nat} {i v : Int32} (hv : rI tb h c i = some v) : vp_in i (al tb c) ∧ v = h.1 c i.toNatClampNeg := by
  unfold rI at hv
  split at hv
  · rename_i q
    exact ⟨inb_iff.mp q, (Option.some.inj hv).symm⟩
  · cases hv
theorem rL_e {c : Nat} {i : Int32} {v : Int64} (hv : rL tb h c i = some v) : vp_in i (al tb c) ∧ v = h.2 c i.toNatClampNeg := by
  unfold rL at hv
  split at hv
  · rename_i q
    exact ⟨inb_iff.mp q, (Option.some.inj hv).symm⟩
  · cases hv
theorem wI_e {c : Nat} {i x : Int32} {h1 : Hp} (hv : wI tb h c i x = some h1) : vp_in i (al tb c) ∧ h1 = pI h c i.toNatClampNeg x := by
  unfold wI at hv
  split at hv
  · rename_i q
    exact ⟨inb_iff.mp q, (Option.some.inj hv).symm⟩
  · cases hv
theorem wB_e {c : Nat} {i x : Int32} {h1 : Hp} (hv : wB tb h c i x = some h1) : vp_in i (al tb c) ∧ h1 = pI h c i.toNatClampNeg x.toInt8.toInt32 := by
  unfold wB at hv
  split at hv
  · rename_i q
    exact ⟨inb_iff.mp q, (Option.some.inj hv).symm⟩
  · cases hv
theorem wZ_e {c : Nat} {i x : Int32} {h1 : Hp} (hv : wZ tb h c i x = some h1) : vp_in i (al tb c) ∧ bit x = true ∧ h1 = pI h c i.toNatClampNeg x := by
  unfold wZ at hv
  split at hv
  · rename_i q
    exact ⟨inb_iff.mp q.1, q.2, (Option.some.inj hv).symm⟩
  · cases hv
theorem wL_e {c : Nat} {i : Int32} {x : Int64} {h1 : Hp} (hv : wL tb h c i x = some h1) : vp_in i (al tb c) ∧ h1 = pL h c i.toNatClampNeg x := by
  unfold wL at hv
  split at hv
  · rename_i q
    exact ⟨inb_iff.mp q, (Option.some.inj hv).symm⟩
  · cases hv
theorem v_iald {c : Nat} {i : Int32} {v : Int32} (X : CX E g tb ρ cc nL own F Lo) (hk : kd tb c = 20) (hv : rI tb h c i = some v) (hd : decode cc pc = .ok (.iaload, 1)) (kk : V E g tb ρ nL (pc + 1) ls (.int v :: st) h) : V E g tb ρ nL (pc) ls (.int i :: .ref (ρ c) :: st) h := by
  obtain ⟨hin, rfl⟩ := rI_e hv
  obtain ⟨p, e, R, s, m, args, below, meth, c0, Q⟩ := E
  obtain ⟨hx, hb, hml, hown, hts, hK, ok, hi, hF, hL, hN⟩ := X
  intro H locs la hP hS hl
  have hc : c < tb.1 := ok.1 c (by omega)
  exact va_iald hx hb hK hP c 0 (by rw [wsO_at hc, ent_20 hk]) rfl hin hd (kk H locs la hP hS hl)
theorem v_bald {c : Nat} {i : Int32} {v : Int32} (X : CX E g tb ρ cc nL own F Lo) (hk : kd tb c = 21) (hv : rI tb h c i = some v) (hd : decode cc pc = .ok (.baload, 1)) (kk : V E g tb ρ nL (pc + 1) ls (.int v :: st) h) : V E g tb ρ nL (pc) ls (.int i :: .ref (ρ c) :: st) h := by
  obtain ⟨hin, rfl⟩ := rI_e hv
  obtain ⟨p, e, R, s, m, args, below, meth, c0, Q⟩ := E
  obtain ⟨hx, hb, hml, hown, hts, hK, ok, hi, hF, hL, hN⟩ := X
  intro H locs la hP hS hl
  have hc : c < tb.1 := ok.1 c (by omega)
  exact va_bald hx hb hK hP c 1 (by rw [wsO_at hc, ent_21 hk]) rfl hin hd (kk H locs la hP hS hl)
theorem v_zald {c : Nat} {i : Int32} {v : Int32} (X : CX E g tb ρ cc nL own F Lo) (hk : kd tb c = 22) (hv : rI tb h c i = some v) (hd : decode cc pc = .ok (.baload, 1)) (kk : V E g tb ρ nL (pc + 1) ls (.int v :: st) h) : V E g tb ρ nL (pc) ls (.int i :: .ref (ρ c) :: st) h := by
  obtain ⟨hin, rfl⟩ := rI_e hv
  obtain ⟨p, e, R, s, m, args, below, meth, c0, Q⟩ := E
  obtain ⟨hx, hb, hml, hown, hts, hK, ok, hi, hF, hL, hN⟩ := X
  intro H locs la hP hS hl
  have hc : c < tb.1 := ok.1 c (by omega)
  exact va_zald hx hb hK hP c 2 (by rw [wsO_at hc, ent_22 hk]) rfl hin hd (kk H locs la hP hS hl)
theorem v_lald {c : Nat} {i : Int32} {v : Int64} (X : CX E g tb ρ cc nL own F Lo) (hk : kd tb c = 23) (hv : rL tb h c i = some v) (hd : decode cc pc = .ok (.laload, 1)) (kk : V E g tb ρ nL (pc + 1) ls (.long v :: st) h) : V E g tb ρ nL (pc) ls (.int i :: .ref (ρ c) :: st) h := by
  obtain ⟨hin, rfl⟩ := rL_e hv
  obtain ⟨p, e, R, s, m, args, below, meth, c0, Q⟩ := E
  obtain ⟨hx, hb, hml, hown, hts, hK, ok, hi, hF, hL, hN⟩ := X
  intro H locs la hP hS hl
  have hc : c < tb.1 := ok.1 c (by omega)
  exact va_lald hx hb hK hP c 3 (by rw [wsO_at hc, ent_23 hk]) rfl hin hd (kk H locs la hP hS hl)
theorem v_iast {c : Nat} {i : Int32} {x : Int32} {h1 : Hp} (X : CX E g tb ρ cc nL own F Lo) (hk : kd tb c = 20) (hv : wI tb h c i x = some h1) (hd : decode cc pc = .ok (.iastore, 1)) (kk : V E g tb ρ nL (pc + 1) ls (st) (h1)) : V E g tb ρ nL (pc) ls (.int x :: .int i :: .ref (ρ c) :: st) h := by
  obtain ⟨hin, rfl⟩ := wI_e hv
  obtain ⟨p, e, R, s, m, args, below, meth, c0, Q⟩ := E
  obtain ⟨hx, hb, hml, hown, hts, hK, ok, hi, hF, hL, hN⟩ := X
  intro H locs la hP hS hl
  have hc : c < tb.1 := ok.1 c (by omega)
  refine va_iast hx hb hK hP (wsO_D hi h) hS c 0 (by rw [wsO_at hc, ent_20 hk]) rfl hin hd (fun H1 locs1 hP1 _ hS1 => ?_)
  refine kk H1 locs1 la ?_ hS1 hl
  rw [wsO_set (h' := pI h c i.toNatClampNeg (x)) hc ?_ ?_ ?_] at hP1
  · exact hP1
  · rw [ent_20 hk, pI_s]; rfl
  · intro a ha; exact pI_o ha
  · intro a ha; rfl
theorem v_bast {c : Nat} {i : Int32} {x : Int32} {h1 : Hp} (X : CX E g tb ρ cc nL own F Lo) (hk : kd tb c = 21) (hv : wB tb h c i x = some h1) (hd : decode cc pc = .ok (.bastore, 1)) (kk : V E g tb ρ nL (pc + 1) ls (st) (h1)) : V E g tb ρ nL (pc) ls (.int x :: .int i :: .ref (ρ c) :: st) h := by
  obtain ⟨hin, rfl⟩ := wB_e hv
  obtain ⟨p, e, R, s, m, args, below, meth, c0, Q⟩ := E
  obtain ⟨hx, hb, hml, hown, hts, hK, ok, hi, hF, hL, hN⟩ := X
  intro H locs la hP hS hl
  have hc : c < tb.1 := ok.1 c (by omega)
  refine va_bast hx hb hK hP (wsO_D hi h) hS c 1 (by rw [wsO_at hc, ent_21 hk]) rfl hin hd (fun H1 locs1 hP1 _ hS1 => ?_)
  refine kk H1 locs1 la ?_ hS1 hl
  rw [wsO_set (h' := pI h c i.toNatClampNeg (x.toInt8.toInt32)) hc ?_ ?_ ?_] at hP1
  · exact hP1
  · rw [ent_21 hk, pI_s]; simp only [vp_nar_byte]; rfl
  · intro a ha; exact pI_o ha
  · intro a ha; rfl
theorem v_zast {c : Nat} {i : Int32} {x : Int32} {h1 : Hp} (X : CX E g tb ρ cc nL own F Lo) (hk : kd tb c = 22) (hv : wZ tb h c i x = some h1) (hd : decode cc pc = .ok (.bastore, 1)) (kk : V E g tb ρ nL (pc + 1) ls (st) (h1)) : V E g tb ρ nL (pc) ls (.int x :: .int i :: .ref (ρ c) :: st) h := by
  obtain ⟨hin, hz, rfl⟩ := wZ_e hv
  obtain ⟨p, e, R, s, m, args, below, meth, c0, Q⟩ := E
  obtain ⟨hx, hb, hml, hown, hts, hK, ok, hi, hF, hL, hN⟩ := X
  intro H locs la hP hS hl
  have hc : c < tb.1 := ok.1 c (by omega)
  refine va_zast hx hb hK hP (wsO_D hi h) hS c 2 (by rw [wsO_at hc, ent_22 hk]) rfl hin hd (fun H1 locs1 hP1 _ hS1 => ?_)
  refine kk H1 locs1 la ?_ hS1 hl
  rw [wsO_set (h' := pI h c i.toNatClampNeg (x)) hc ?_ ?_ ?_] at hP1
  · exact hP1
  · rw [ent_22 hk, pI_s]; rw [show vp_nar .boolean x = x by simp only [bit, Bool.or_eq_true, decide_eq_true_eq] at hz; rcases hz with rfl | rfl <;> rfl]; rfl
  · intro a ha; exact pI_o ha
  · intro a ha; rfl
theorem v_last {c : Nat} {i : Int32} {x : Int64} {h1 : Hp} (X : CX E g tb ρ cc nL own F Lo) (hk : kd tb c = 23) (hv : wL tb h c i x = some h1) (hd : decode cc pc = .ok (.lastore, 1)) (kk : V E g tb ρ nL (pc + 1) ls (st) (h1)) : V E g tb ρ nL (pc) ls (.long x :: .int i :: .ref (ρ c) :: st) h := by
  obtain ⟨hin, rfl⟩ := wL_e hv
  obtain ⟨p, e, R, s, m, args, below, meth, c0, Q⟩ := E
  obtain ⟨hx, hb, hml, hown, hts, hK, ok, hi, hF, hL, hN⟩ := X
  intro H locs la hP hS hl
  have hc : c < tb.1 := ok.1 c (by omega)
  refine va_last hx hb hK hP (wsO_D hi h) hS c 3 (by rw [wsO_at hc, ent_23 hk]) rfl hin hd (fun H1 locs1 hP1 _ hS1 => ?_)
  refine kk H1 locs1 la ?_ hS1 hl
  rw [wsO_set (h' := pL h c i.toNatClampNeg (x)) hc ?_ ?_ ?_] at hP1
  · exact hP1
  · rw [ent_23 hk, pL_s]; rfl
  · intro a ha; rfl
  · intro a ha; exact pL_o ha
theorem v_alen {c : Nat} (X : CX E g tb ρ cc nL own F Lo) (hk : 20 ≤ kd tb c ∧ kd tb c ≤ 23) (hd : decode cc pc = .ok (.arraylength, 1)) (kk : V E g tb ρ nL (pc + 1) ls (.int (Int32.ofNat (al tb c)) :: st) h) : V E g tb ρ nL (pc) ls (.ref (ρ c) :: st) h := by
  obtain ⟨p, e, R, s, m, args, below, meth, c0, Q⟩ := E
  obtain ⟨hx, hb, hml, hown, hts, hK, ok, hi, hF, hL, hN⟩ := X
  intro H locs la hP hS hl
  have hc : c < tb.1 := ok.1 c (by omega)
  have h4 : kd tb c = 20 ∨ kd tb c = 21 ∨ kd tb c = 22 ∨ kd tb c = 23 := by omega
  rcases h4 with hk | hk | hk | hk
  · exact va_alen hx hb hK hP c 0 (by rw [wsO_at hc, ent_20 hk]) (ty := .int) rfl rfl hd (kk H locs la hP hS hl)
  · exact va_alen hx hb hK hP c 1 (by rw [wsO_at hc, ent_21 hk]) (ty := .byte) rfl rfl hd (kk H locs la hP hS hl)
  · exact va_alen hx hb hK hP c 2 (by rw [wsO_at hc, ent_22 hk]) (ty := .boolean) rfl rfl hd (kk H locs la hP hS hl)
  · exact va_alen hx hb hK hP c 3 (by rw [wsO_at hc, ent_23 hk]) (ty := .long) rfl rfl hd (kk H locs la hP hS hl)
theorem v_iret {v : Int32} (X : CX E g tb ρ cc nL own F Lo) {rv : Option Value} {h' : Hp} (Y : CQ E g tb ρ (some .int) rv h') (hd : decode cc pc = .ok (.ireturn, 1)) (e1 : some (.int v) = rv) (e2 : h = h') : V E g tb ρ nL pc ls ([.int v]) h := by
  subst e1 e2
  obtain ⟨p, e, R, s, m, args, below, meth, c0, Q⟩ := E
  obtain ⟨hx, hb, hml, hown, hts, hK, ok, hi, hF, hL, hN⟩ := X
  obtain ⟨hQ, hlocks, hr⟩ := Y
  intro H locs la hP hS hl
  subst hQ
  exact W.iret hx hb hr (fun t ht _ => ⟨rfl, by rw [ht]; exact hP, hS.F ht⟩) hS.2.2 hd hlocks
theorem v_zret {v : Int32} (hz : bit v = true) (X : CX E g tb ρ cc nL own F Lo) {rv : Option Value} {h' : Hp} (Y : CQ E g tb ρ (some .boolean) rv h') (hd : decode cc pc = .ok (.ireturn, 1)) (e1 : some (.int v) = rv) (e2 : h = h') : V E g tb ρ nL pc ls ([.int v]) h := by
  subst e1 e2
  obtain ⟨p, e, R, s, m, args, below, meth, c0, Q⟩ := E
  obtain ⟨hx, hb, hml, hown, hts, hK, ok, hi, hF, hL, hN⟩ := X
  obtain ⟨hQ, hlocks, hr⟩ := Y
  intro H locs la hP hS hl
  subst hQ
  exact W.zret hx hb hr (by simp only [bit, Bool.or_eq_true, decide_eq_true_eq] at hz; rcases hz with rfl | rfl <;> rfl) (fun t ht _ => ⟨rfl, by rw [ht]; exact hP, hS.F ht⟩) hS.2.2 hd hlocks
theorem v_lret {v : Int64} (X : CX E g tb ρ cc nL own F Lo) {rv : Option Value} {h' : Hp} (Y : CQ E g tb ρ (some .long) rv h') (hd : decode cc pc = .ok (.lreturn, 1)) (e1 : some (.long v) = rv) (e2 : h = h') : V E g tb ρ nL pc ls ([.long v]) h := by
  subst e1 e2
  obtain ⟨p, e, R, s, m, args, below, meth, c0, Q⟩ := E
  obtain ⟨hx, hb, hml, hown, hts, hK, ok, hi, hF, hL, hN⟩ := X
  obtain ⟨hQ, hlocks, hr⟩ := Y
  intro H locs la hP hS hl
  subst hQ
  exact W.lret hx hb hr (fun t ht _ => ⟨rfl, by rw [ht]; exact hP, hS.F ht⟩) hS.2.2 hd hlocks
theorem v_vret  (X : CX E g tb ρ cc nL own F Lo) {rv : Option Value} {h' : Hp} (Y : CQ E g tb ρ none rv h') (hd : decode cc pc = .ok (.return_, 1)) (e1 : none = rv) (e2 : h = h') : V E g tb ρ nL pc ls ([]) h := by
  subst e1 e2
  obtain ⟨p, e, R, s, m, args, below, meth, c0, Q⟩ := E
  obtain ⟨hx, hb, hml, hown, hts, hK, ok, hi, hF, hL, hN⟩ := X
  obtain ⟨hQ, hlocks, hr⟩ := Y
  intro H locs la hP hS hl
  subst hQ
  exact W.vret hx hb hr (fun t ht _ => ⟨rfl, by rw [ht]; exact hP, hS.F ht⟩) hS.2.2 hd hlocks
theorem v_aret {v : Nat} {C : String} (X : CX E g tb ρ cc nL own F Lo) {rv : Option Value} {h' : Hp} (Y : CQ E g tb ρ (some (.object C)) rv h') (hd : decode cc pc = .ok (.areturn, 1)) (e1 : some (.ref v) = rv) (e2 : h = h') : V E g tb ρ nL pc ls ([.ref v]) h := by
  subst e1 e2
  obtain ⟨p, e, R, s, m, args, below, meth, c0, Q⟩ := E
  obtain ⟨hx, hb, hml, hown, hts, hK, ok, hi, hF, hL, hN⟩ := X
  obtain ⟨hQ, hlocks, hr⟩ := Y
  intro H locs la hP hS hl
  subst hQ
  exact W.aret hx hb hr (Or.inl ⟨_, rfl⟩) (Or.inr ⟨_, rfl⟩) (fun t ht _ => ⟨rfl, by rw [ht]; exact hP, hS.F ht⟩) hS.2.2 hd hlocks
theorem va_callM {p : Program} {e : Env} {R : Room} {s : State} {m : MethodId} {args a : Array Value} {below : List Frame} {meth : Method} {c : Code} {H : Heap} {locs : List Loc} {Q : State → Prop} {la : Array Slot} {st0 rest : List Value} {rv : Option Value} {h' : Hp}
    (hr : va_Run p g.1 e R s m args below meth c H locs 0 0 0 0 (F0 m pc la st0) rest (QM g tb ρ rv h' a) (cst tb ρ)) (hS : va_S (cst tb ρ) s.heap H locs)
    (kk : ∀ (H1 : Heap) (locs1 : List Loc), va_P g.2.1 classes (wsO g.2.2 tb ρ h') H1 → va_S (cst tb ρ) s.heap H1 locs1 → W p g.1 e R s m args below meth c H1 locs1 0 0 Q (F0 m (pc + 3) la (rv.toList ++ rest))) : W p g.1 e R s m args below meth c H locs 0 0 Q (F0 m pc la st0) := by
  intro T hT X
  obtain ⟨v, st₀, t, T', L, h0, X', hL, e1, e2, ⟨hv, hP, hz, hk⟩, st⟩ := hr T hT X
  cases hv
  rw [h0] at hz hk
  obtain ⟨t2, a1, b1⟩ := kk T'.heap (locs ++ L) (by rw [e1]; exact hP)
    ⟨Nat.le_trans hS.1 (by rw [e1]; exact hz), fun q h1 h2 => by rw [e1, hk q (Nat.lt_of_lt_of_le h1 hS.1) h2]; exact hS.2.1 q h1 h2, fun q hq => by
      rcases List.mem_append.mp hq with h | h
      · exact hS.2.2 q h
      · exact hL q h⟩ T' rfl X'
  exact ⟨t2, st t2 a1, b1⟩
theorem blind_M {as : List Value} : FrameBlind (va_Pc as (fun U => va_P g.2.1 classes (wsO g.2.2 tb ρ h) U.heap ∧ va_K g.2.1 classes (tysO g.2.2) U ∧ NN U)) := by
  intro a U gg mk q
  obtain ⟨q0, qP, qK, qN⟩ := q
  exact ⟨q0, qP, va_K.moved (u := U) (U := U.calling gg mk a) (Vm.Alike.refl U.vm) qK, NN.same (s := U) (U := U.calling gg mk a) rfl qN⟩
theorem pre_M {as : List Value} {s : State} {H : Heap} (hP : va_P g.2.1 classes (wsO g.2.2 tb ρ h) H) (hK : va_K g.2.1 classes (tysO g.2.2) s) (hN : NN s) : ∀ U : State, U.heap = H → s.WarmedH U.vm → va_Pc as (fun U => va_P g.2.1 classes (wsO g.2.2 tb ρ h) U.heap ∧ va_K g.2.1 classes (tysO g.2.2) U ∧ NN U) as.toArray U :=
  fun U hU hW => ⟨rfl, by rw [hU]; exact hP, va_K.moved hW.alike hK, hN.warm hW⟩
def okY (y : MethodName) (n : Nat) : Prop := y.cls ≠ "java/lang/invoke/MethodHandle" ∧ y.cls ≠ "java/lang/invoke/VarHandle" ∧ (parseMethodDescriptor y.desc).map (fun d => d.parameters.length) = some n
def ML (own : String) (idx : Nat) (y : MethodName) (bytes : ByteArray) (maxL : Nat) (ret : Option FieldType) (n : Nat) : Prop := Cond.methodLink own idx y ∈ GW ∧ Cond.initialized y.cls ∈ GW ∧ Cond.code y bytes maxL ret ∈ GW ∧ okY y n
def MN (own : String) (idx : Nat) (y : MethodName) (bytes : ByteArray) (maxL : Nat) (ret : Option FieldType) (n : Nat) : Prop := Cond.methodLinkNest own idx y "TroughTreaty" ∈ NW ∧ Cond.initialized y.cls ∈ GW ∧ Cond.code y bytes maxL ret ∈ GW ∧ okY y n
def MV (y : MethodName) : Prop := Cond.instanceMethod y ∈ GW ∧ Cond.selects y.cls y y ∈ GW
theorem good_M {w : Cond} (hw : w ∈ GW) : GoodIn GW (w :: GW) := fun x hx => by
  rcases List.mem_cons.mp hx with rfl | hx
  · exact ⟨hw, good_of_word (List.mem_filter.mp hw).2⟩
  · exact ⟨hx, good_of_word (List.mem_filter.mp hx).2⟩
theorem recv_M {D : va_G} {dA : Nat → ClassId} {s : State} {H : Heap} {ci c : Nat} {C : String} {T : u_T} {N : Nat} (ok : TbOK tb) (hK : va_K D classes (tysO dA) s) (hP : va_P D classes (wsO dA tb ρ h) H) (hk : kd tb c = ci) (hc : CLs ci C T N) : ∃ cellB : Cell, H[ρ c]? = some cellB ∧ cellB.vm.isStatics = false ∧ s.vm.findClass C = some cellB.cls := by
  obtain ⟨a1, a2, a3, -⟩ := hc
  obtain ⟨q1, q2⟩ := at_obj (h := h) (ρ := ρ) (D := D) (dA := dA) ok hk a3
  exact va_recv hK hP a1 q2
theorem v_callV {idx maxL n F1 Lo1 ci b : Nat} {y : MethodName} {bytes : ByteArray} {ret : Option FieldType} {As rest st0 : List Value} {rv : Option Value} {h' : Hp} {C : String} {T : u_T} {N : Nat} (X : CX E g tb ρ cc nL own F Lo) (hM : MT g y bytes maxL ret F1 Lo1 tb ρ (.ref (ρ b) :: As) h rv h') (hm : ML own idx y bytes maxL ret n) (hv : MV y) (hk : kd tb b = ci) (hc : CLs ci C T N) (hC : C = y.cls) (hR : F1 + 1 ≤ F ∧ 8 + (maxL + 11) + Lo1 ≤ Lo) (hn : As.length = n) (hst : st0 = As.reverse ++ .ref (ρ b) :: rest) (hW : (rest.map fun v => v.category).sum ≤ 8) (hd : decode cc pc = .ok (.invokevirtual idx, 3))
    (kk : V E g tb ρ nL (pc + 3) ls (rv.toList ++ rest) h') : V E g tb ρ nL pc ls st0 h := by
  subst hst hC
  obtain ⟨hlk, hin, hco, hok⟩ := hm
  obtain ⟨p, e, R, s, m, args, below, meth, c0, Q⟩ := E
  obtain ⟨hx, hb, hml, hown, hts, hK, ok, hi, hF, hL, hN⟩ := X
  intro H locs la hP hS hl
  have hrun := va_runV (e := e) (H := H) (locs := locs) (cells := 0) (slots := 0) (g := F0 m pc la (As.reverse ++ .ref (ρ b) :: rest)) (rest := rest) (As := As) (below := below) (meth := meth) ⟨hx, hb, hml, hown, hts⟩ hM ⟨callB_of n hts (good_M hco) rfl rfl rfl (hts _ hin) (hts _ hlk) hok ⟨by rw [hF]; exact hR.1, by rw [hL]; exact hR.2⟩, hts _ hv.1, hts _ hv.2⟩ ⟨blind_M, recv_M ok hK hP hk hc, pre_M hP hK hN⟩ rfl hn hl.1 rfl (lv_room hW) hd ⟨Nat.zero_le _, Nat.zero_le _⟩
  exact va_callM hrun hS (fun H1 locs1 hP1 hS1 => kk H1 locs1 la hP1 hS1 hl)
theorem v_callVN {idx maxL n F1 Lo1 ci b : Nat} {y : MethodName} {bytes : ByteArray} {ret : Option FieldType} {As rest st0 : List Value} {rv : Option Value} {h' : Hp} {C : String} {T : u_T} {N : Nat} (X : CX E g tb ρ cc nL own F Lo) (hM : MT g y bytes maxL ret F1 Lo1 tb ρ (.ref (ρ b) :: As) h rv h') (hm : MN own idx y bytes maxL ret n) (hv : MV y) (hk : kd tb b = ci) (hc : CLs ci C T N) (hC : C = y.cls) (hR : F1 + 1 ≤ F ∧ 8 + (maxL + 11) + Lo1 ≤ Lo) (hn : As.length = n) (hst : st0 = As.reverse ++ .ref (ρ b) :: rest) (hW : (rest.map fun v => v.category).sum ≤ 8) (hd : decode cc pc = .ok (.invokevirtual idx, 3))
    (kk : V E g tb ρ nL (pc + 3) ls (rv.toList ++ rest) h') : V E g tb ρ nL pc ls st0 h := by
  subst hst hC
  obtain ⟨hlk, hin, hco, hok⟩ := hm
  obtain ⟨p, e, R, s, m, args, below, meth, c0, Q⟩ := E
  obtain ⟨hx, hb, hml, hown, hts, hK, ok, hi, hF, hL, hN⟩ := X
  intro H locs la hP hS hl
  have hrun := va_runVN (e := e) (H := H) (locs := locs) (cells := 0) (slots := 0) (g := F0 m pc la (As.reverse ++ .ref (ρ b) :: rest)) (rest := rest) (As := As) (below := below) (meth := meth) ⟨hx, hb, hml, hown, hts⟩ hM ⟨va_cnB n hts (good_M hco) rfl rfl rfl (hN _ hlk) (hts _ hin) hok ⟨by rw [hF]; exact hR.1, by rw [hL]; exact hR.2⟩, hts _ hv.1, hts _ hv.2⟩ ⟨blind_M, recv_M ok hK hP hk hc, pre_M hP hK hN⟩ rfl hn hl.1 rfl (lv_room hW) hd ⟨Nat.zero_le _, Nat.zero_le _⟩
  exact va_callM hrun hS (fun H1 locs1 hP1 hS1 => kk H1 locs1 la hP1 hS1 hl)
theorem v_callS {idx maxL n F1 Lo1 : Nat} {y : MethodName} {bytes : ByteArray} {ret : Option FieldType} {As rest st0 : List Value} {rv : Option Value} {h' : Hp} (X : CX E g tb ρ cc nL own F Lo) (hM : MT g y bytes maxL ret F1 Lo1 tb ρ As h rv h') (hm : ML own idx y bytes maxL ret n) (hv : Cond.static y ∈ GW) (hR : F1 + 1 ≤ F ∧ 8 + (maxL + 11) + Lo1 ≤ Lo) (hn : As.length = n) (hst : st0 = As.reverse ++ rest) (hW : (rest.map fun v => v.category).sum ≤ 8) (hd : decode cc pc = .ok (.invokestatic idx, 3))
    (kk : V E g tb ρ nL (pc + 3) ls (rv.toList ++ rest) h') : V E g tb ρ nL pc ls st0 h := by
  subst hst
  obtain ⟨hlk, hin, hco, hok⟩ := hm
  obtain ⟨p, e, R, s, m, args, below, meth, c0, Q⟩ := E
  obtain ⟨hx, hb, hml, hown, hts, hK, ok, hi, hF, hL, hN⟩ := X
  intro H locs la hP hS hl
  have hrun := va_runS (e := e) (H := H) (locs := locs) (cells := 0) (slots := 0) (g := F0 m pc la (As.reverse ++ rest)) (rest := rest) (As := As) (below := below) (meth := meth) ⟨hx, hb, hml, hown, hts⟩ hM ⟨callB_of n hts (good_M hco) rfl rfl rfl (hts _ hin) (hts _ hlk) hok ⟨by rw [hF]; exact hR.1, by rw [hL]; exact hR.2⟩, hts _ hv⟩ ⟨blind_M, pre_M hP hK hN⟩ rfl hn hl.1 rfl (lv_room hW) hd ⟨Nat.zero_le _, Nat.zero_le _⟩
  exact va_callM hrun hS (fun H1 locs1 hP1 hS1 => kk H1 locs1 la hP1 hS1 hl)
theorem v_callSN {idx maxL n F1 Lo1 : Nat} {y : MethodName} {bytes : ByteArray} {ret : Option FieldType} {As rest st0 : List Value} {rv : Option Value} {h' : Hp} (X : CX E g tb ρ cc nL own F Lo) (hM : MT g y bytes maxL ret F1 Lo1 tb ρ As h rv h') (hm : MN own idx y bytes maxL ret n) (hv : Cond.static y ∈ GW) (hR : F1 + 1 ≤ F ∧ 8 + (maxL + 11) + Lo1 ≤ Lo) (hn : As.length = n) (hst : st0 = As.reverse ++ rest) (hW : (rest.map fun v => v.category).sum ≤ 8) (hd : decode cc pc = .ok (.invokestatic idx, 3))
    (kk : V E g tb ρ nL (pc + 3) ls (rv.toList ++ rest) h') : V E g tb ρ nL pc ls st0 h := by
  subst hst
  obtain ⟨hlk, hin, hco, hok⟩ := hm
  obtain ⟨p, e, R, s, m, args, below, meth, c0, Q⟩ := E
  obtain ⟨hx, hb, hml, hown, hts, hK, ok, hi, hF, hL, hN⟩ := X
  intro H locs la hP hS hl
  have hrun := va_runSN (e := e) (H := H) (locs := locs) (cells := 0) (slots := 0) (g := F0 m pc la (As.reverse ++ rest)) (rest := rest) (As := As) (below := below) (meth := meth) ⟨hx, hb, hml, hown, hts⟩ hM ⟨va_cnB n hts (good_M hco) rfl rfl rfl (hN _ hlk) (hts _ hin) hok ⟨by rw [hF]; exact hR.1, by rw [hL]; exact hR.2⟩, hts _ hv, trivial⟩ ⟨blind_M, pre_M hP hK hN⟩ rfl hn hl.1 rfl (lv_room hW) hd ⟨Nat.zero_le _, Nat.zero_le _⟩
  exact va_callM hrun hS (fun H1 locs1 hP1 hS1 => kk H1 locs1 la hP1 hS1 hl)
theorem v_nmi {x y : Int32} (e : x = y) (kk : V E g tb ρ nL (pc) ls (.int x :: st) h) : V E g tb ρ nL (pc) ls (.int y :: st) h := by
  subst e
  exact kk
theorem v_nml {x y : Int64} (e : x = y) (kk : V E g tb ρ nL (pc) ls (.long x :: st) h) : V E g tb ρ nL (pc) ls (.long y :: st) h := by
  subst e
  exact kk
theorem v_iushr {x y : Int32} (X : CX E g tb ρ cc nL own F Lo) (hd : decode cc pc = .ok (.iushr, 1)) (kk : V E g tb ρ nL (pc + 1) ls (.int (ushr x y) :: st) h) : V E g tb ρ nL (pc) ls (.int y :: .int x :: st) h := by
  obtain ⟨p, e, R, s, m, args, below, meth, c0, Q⟩ := E
  obtain ⟨hx, hb, hml, hown, hts, hK, ok, hi, hF, hL, hN⟩ := X
  intro H locs la hP hS hl
  exact lv_iushr hx hb hd rfl (kk H locs la hP hS hl)
theorem v_ldcw {idx : Nat} {v : Int32} (X : CX E g tb ρ cc nL own F Lo) (hd : decode cc pc = .ok (.ldc_w idx, 3)) (hw : Cond.constant own idx v ∈ GW) (kk : V E g tb ρ nL (pc + 3) ls (.int v :: st) h) : V E g tb ρ nL (pc) ls (st) h := by
  obtain ⟨p, e, R, s, m, args, below, meth, c0, Q⟩ := E
  obtain ⟨hx, hb, hml, hown, hts, hK, ok, hi, hF, hL, hN⟩ := X
  intro H locs la hP hS hl
  exact lv_ldcw hx hb hown (hts _ hw) hd (kk H locs la hP hS hl)
theorem v_mmax {idx : Nat} {x y : Int32} (X : CX E g tb ρ cc nL own F Lo) (hw : Cond.methodLink own idx Lib.Math.max.name ∈ GW) (hs : Cond.static Lib.Math.max.name ∈ GW) (hc : Cond.code Lib.Math.max.name Lib.Math.max.code 2 (some .int) ∈ GW) (hm : Cond.initialized "java/lang/Math" ∈ GW) (hR : 1 ≤ F ∧ (st.map fun v => v.category).sum + 13 ≤ Lo) (hd : decode cc pc = .ok (.invokestatic idx, 3)) (kk : V E g tb ρ nL (pc + 3) ls (.int (mxI x y) :: st) h) : V E g tb ρ nL (pc) ls (.int y :: .int x :: st) h := by
  obtain ⟨p, e, R, s, m, args, below, meth, c0, Q⟩ := E
  obtain ⟨hx, hb, hml, hown, hts, hK, ok, hi, hF, hL, hN⟩ := X
  intro H locs la hP hS hl
  exact va_mmax hx hb (hml.trans hl.1.symm) hown (hts _ hw) (hts _ hs) (hts _ hm) (hts _ hc) (by rw [hF]; exact hR.1) (by rw [hL]; exact hR.2) (Nat.zero_le _) (Nat.zero_le _) hd (kk H locs la hP hS hl)
theorem v_mmin {idx : Nat} {x y : Int32} (X : CX E g tb ρ cc nL own F Lo) (hw : Cond.methodLink own idx Lib.Math.min.name ∈ GW) (hs : Cond.static Lib.Math.min.name ∈ GW) (hc : Cond.code Lib.Math.min.name Lib.Math.min.code 2 (some .int) ∈ GW) (hm : Cond.initialized "java/lang/Math" ∈ GW) (hR : 1 ≤ F ∧ (st.map fun v => v.category).sum + 13 ≤ Lo) (hd : decode cc pc = .ok (.invokestatic idx, 3)) (kk : V E g tb ρ nL (pc + 3) ls (.int (mnI x y) :: st) h) : V E g tb ρ nL (pc) ls (.int y :: .int x :: st) h := by
  obtain ⟨p, e, R, s, m, args, below, meth, c0, Q⟩ := E
  obtain ⟨hx, hb, hml, hown, hts, hK, ok, hi, hF, hL, hN⟩ := X
  intro H locs la hP hS hl
  exact va_mmin hx hb (hml.trans hl.1.symm) hown (hts _ hw) (hts _ hs) (hts _ hm) (hts _ hc) (by rw [hF]; exact hR.1) (by rw [hL]; exact hR.2) (Nat.zero_le _) (Nat.zero_le _) hd (kk H locs la hP hS hl)
theorem v_mabs {idx : Nat} {x : Int32} (X : CX E g tb ρ cc nL own F Lo) (hw : Cond.methodLink own idx Lib.Math.abs.name ∈ GW) (hs : Cond.static Lib.Math.abs.name ∈ GW) (hc : Cond.code Lib.Math.abs.name Lib.Math.abs.code 1 (some .int) ∈ GW) (hm : Cond.initialized "java/lang/Math" ∈ GW) (hR : 1 ≤ F ∧ (st.map fun v => v.category).sum + 13 ≤ Lo) (hd : decode cc pc = .ok (.invokestatic idx, 3)) (kk : V E g tb ρ nL (pc + 3) ls (.int (abI x) :: st) h) : V E g tb ρ nL (pc) ls (.int x :: st) h := by
  obtain ⟨p, e, R, s, m, args, below, meth, c0, Q⟩ := E
  obtain ⟨hx, hb, hml, hown, hts, hK, ok, hi, hF, hL, hN⟩ := X
  intro H locs la hP hS hl
  exact va_mabs hx hb (hml.trans hl.1.symm) hown (hts _ hw) (hts _ hs) (hts _ hm) (hts _ hc) (by rw [hF]; exact hR.1) (by rw [hL]; exact hR.2) (Nat.zero_le _) (Nat.zero_le _) hd (kk H locs la hP hS hl)
theorem v_mmax_long {idx : Nat} {x y : Int64} (X : CX E g tb ρ cc nL own F Lo) (hw : Cond.methodLink own idx Lib.MathLoose.max_long.x ∈ GW) (hs : Cond.static Lib.MathLoose.max_long.x ∈ GW) (hc : Cond.code Lib.MathLoose.max_long.x Lib.MathLoose.max_long.code 4 (some .long) ∈ GW) (hm : Cond.initialized "java/lang/Math" ∈ GW) (hR : 1 ≤ F ∧ (st.map fun v => v.category).sum + 15 ≤ Lo) (hd : decode cc pc = .ok (.invokestatic idx, 3)) (kk : V E g tb ρ nL (pc + 3) ls (.long (mxL x y) :: st) h) : V E g tb ρ nL (pc) ls (.long y :: .long x :: st) h := by
  obtain ⟨p, e, R, s, m, args, below, meth, c0, Q⟩ := E
  obtain ⟨hx, hb, hml, hown, hts, hK, ok, hi, hF, hL, hN⟩ := X
  intro H locs la hP hS hl
  exact va_mmax_long hx hb (hml.trans hl.1.symm) hown (hts _ hw) (hts _ hs) (hts _ hm) (hts _ hc) (by rw [hF]; exact hR.1) (by rw [hL]; exact hR.2) (Nat.zero_le _) (Nat.zero_le _) hd (kk H locs la hP hS hl)
theorem v_mmin_long {idx : Nat} {x y : Int64} (X : CX E g tb ρ cc nL own F Lo) (hw : Cond.methodLink own idx Lib.MathLoose.min_long.x ∈ GW) (hs : Cond.static Lib.MathLoose.min_long.x ∈ GW) (hc : Cond.code Lib.MathLoose.min_long.x Lib.MathLoose.min_long.code 4 (some .long) ∈ GW) (hm : Cond.initialized "java/lang/Math" ∈ GW) (hR : 1 ≤ F ∧ (st.map fun v => v.category).sum + 15 ≤ Lo) (hd : decode cc pc = .ok (.invokestatic idx, 3)) (kk : V E g tb ρ nL (pc + 3) ls (.long (mnL x y) :: st) h) : V E g tb ρ nL (pc) ls (.long y :: .long x :: st) h := by
  obtain ⟨p, e, R, s, m, args, below, meth, c0, Q⟩ := E
  obtain ⟨hx, hb, hml, hown, hts, hK, ok, hi, hF, hL, hN⟩ := X
  intro H locs la hP hS hl
  exact va_mmin_long hx hb (hml.trans hl.1.symm) hown (hts _ hw) (hts _ hs) (hts _ hm) (hts _ hc) (by rw [hF]; exact hR.1) (by rw [hL]; exact hR.2) (Nat.zero_le _) (Nat.zero_le _) hd (kk H locs la hP hS hl)
theorem cp_e {a b : Nat} {sp dp n : Int32} {h1 : Hp} (hv : cpI tb h a sp b dp n = some h1) : (¬ sp < 0 ∧ ¬ dp < 0 ∧ ¬ n < 0 ∧ sp.toNatClampNeg + n.toNatClampNeg ≤ al tb a ∧ dp.toNatClampNeg + n.toNatClampNeg ≤ al tb b) ∧ h1 = pR h b (va_cpy (h.1 a) (h.1 b) sp.toNatClampNeg dp.toNatClampNeg n.toNatClampNeg) := by
  unfold cpI at hv
  split at hv
  · rename_i q
    exact ⟨q, (Option.some.inj hv).symm⟩
  · cases hv
theorem v_copy {idx a b : Nat} {sp dp n : Int32} {h1 : Hp} (X : CX E g tb ρ cc nL own F Lo) (ka : kd tb a = 20) (kb : kd tb b = 20) (hv : cpI tb h a sp b dp n = some h1) (hw : Cond.methodLink own idx arraycopyName ∈ GW) (hnat : Cond.native arraycopyName ∈ GW) (hs : Cond.static arraycopyName ∈ GW) (hm : Cond.initialized "java/lang/System" ∈ GW) (hR : 1 ≤ F ∧ (st.map fun v => v.category).sum + 18 ≤ Lo) (hd : decode cc pc = .ok (.invokestatic idx, 3)) (kk : V E g tb ρ nL (pc + 3) ls (st) (h1)) : V E g tb ρ nL (pc) ls (.int n :: .int dp :: .ref (ρ b) :: .int sp :: .ref (ρ a) :: st) h := by
  obtain ⟨⟨q1, q2, q3, q4, q5⟩, rfl⟩ := cp_e hv
  obtain ⟨p, e, R, s, m, args, below, meth, c0, Q⟩ := E
  obtain ⟨hx, hb, hml, hown, hts, hK, ok, hi, hF, hL, hN⟩ := X
  intro H locs la hP hS hl
  have ha : a < tb.1 := ok.1 a (by omega)
  have hb2 : b < tb.1 := ok.1 b (by omega)
  refine va_copyi hx hb (hml.trans hl.1.symm) hown (hts _ hw) (hts _ hnat) (hts _ hs) (hts _ hm) hK hP (wsO_D hi h) hS a b 0 0 (by rw [wsO_at ha, ent_20 ka]) (by rw [wsO_at hb2, ent_20 kb]) (ty := .int) rfl rfl rfl q1 q2 q3 q4 q5 (fun _ _ => rfl) (by rw [hF]; exact hR.1) (by rw [hL]; exact hR.2) hd (fun H1 locs1 hP1 _ hS1 => ?_)
  refine kk H1 locs1 la ?_ hS1 hl
  rw [wsO_set (h' := pR h b (va_cpy (h.1 a) (h.1 b) sp.toNatClampNeg dp.toNatClampNeg n.toNatClampNeg)) hb2 ?_ ?_ ?_] at hP1
  · exact hP1
  · rw [ent_20 kb]; simp [pR]
  · intro z hz; funext w; simp [pR, hz]
  · intro z hz; rfl
end VR
