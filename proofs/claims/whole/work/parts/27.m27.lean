def lp_Md_take_2 (tb : Tb) : Nat → Hp → Nat → Nat → Int32 → Int32 → Option (Hp)
  | 0, _, _, _, _, _ => none
  | n + 1, h, l0, l1, l2, l3 =>
    if (6 : Int32) ≤ l3 then (
      some h
    ) else (
      (rI tb h l1 (l2 + l3)).bind fun x1 =>
      (wI tb h (lay tb l0 54) l3 x1).bind fun h2 =>
      (rI tb h2 l1 ((l2 + (6 : Int32)) + l3)).bind fun x3 =>
      (wI tb h2 (lay tb l0 56) l3 x3).bind fun h4 =>
      (rI tb h4 l1 ((l2 + (12 : Int32)) + l3)).bind fun x5 =>
      (wI tb h4 (lay tb l0 60) l3 x5).bind fun h6 =>
      nmd (l3 + (1 : Int32)) fun x7 =>
      lp_Md_take_2 tb n h6 l0 l1 l2 x7
    )
def f_Md_take (tb : Tb) (h : Hp) (l0 : Nat) (l1 : Nat) (l2 : Int32) : Option (Hp) :=
  lp_Md_take_2 tb fu h l0 l1 l2 (0 : Int32)
set_option maxRecDepth 4000 in
set_option maxHeartbeats 1000000 in
theorem vlp_Md_take_2 {E : En} {g : Gl} {tb : Tb} {ρ : Nat → Nat} (ok : TbOK tb) (hi : inj tb ρ) {r : Hp} (X : CX E g tb ρ prog_14_method_114_code 4 RC12 0 0) (Y : CQ E g tb ρ none (none) r) : ∀ (n : Nat) (h : Hp) (l0 : Nat) (l1 : Nat) (l2 : Int32) (l3 : Int32) (kl0 : kd tb l0 = 12) (kl1 : kd tb l1 = 20), lp_Md_take_2 tb n h l0 l1 l2 l3 = some r → V E g tb ρ 4 2 [(0, .ref (ρ l0)), (1, .ref (ρ l1)), (2, .int l2), (3, .int l3)] [] h := by
  intro n
  induction n with
  | zero =>
    intro h l0 l1 l2 l3 kl0 kl1 hf
    rw [lp_Md_take_2] at hf
    cases hf
  | succ n ih =>
    intro h l0 l1 l2 l3 kl0 kl1 hf
    rw [lp_Md_take_2] at hf
    refine v_iload_n (pc := 2) (k := 3) X (by decide +kernel) 3 rfl ?_
    refine v_bipush (pc := 3) (n := 6) X (by decide +kernel) bi_6 ?_
    refine v_icmp_ge (pc := 5) (off := 48) (tgt := 53) X (by decide +kernel) (by decide) (fun q8 => ?_) (fun q8 => ?_)
    · rw [if_pos q8] at hf
      cases hf
      exact v_vret X Y (by decide +kernel) rfl rfl
    · rw [if_neg q8] at hf
      refine v_aload_n (pc := 8) (k := 0) X (by decide +kernel) 0 rfl ?_
      refine v_geta (pc := 9) X fl_12_94 kl0 fk_12_54 (by decide +kernel) ?_
      refine v_iload_n (pc := 12) (k := 3) X (by decide +kernel) 3 rfl ?_
      refine v_aload_n (pc := 13) (k := 1) X (by decide +kernel) 1 rfl ?_
      refine v_iload_n (pc := 14) (k := 2) X (by decide +kernel) 2 rfl ?_
      refine v_iload_n (pc := 15) (k := 3) X (by decide +kernel) 3 rfl ?_
      refine v_iadd (pc := 16) X (by decide +kernel) ?_
      obtain ⟨x1, ex1, hf⟩ := bnd_e hf
      refine v_iald (pc := 17) X kl1 ex1 (by decide +kernel) ?_
      obtain ⟨h2, eh2, hf⟩ := bnd_e hf
      refine v_iast (pc := 18) X (ly_12_54 ok kl0) eh2 (by decide +kernel) ?_
      refine v_aload_n (pc := 19) (k := 0) X (by decide +kernel) 0 rfl ?_
      refine v_geta (pc := 20) X fl_12_100 kl0 fk_12_56 (by decide +kernel) ?_
      refine v_iload_n (pc := 23) (k := 3) X (by decide +kernel) 3 rfl ?_
      refine v_aload_n (pc := 24) (k := 1) X (by decide +kernel) 1 rfl ?_
      refine v_iload_n (pc := 25) (k := 2) X (by decide +kernel) 2 rfl ?_
      refine v_bipush (pc := 26) (n := 6) X (by decide +kernel) bi_6 ?_
      refine v_iadd (pc := 28) X (by decide +kernel) ?_
      refine v_iload_n (pc := 29) (k := 3) X (by decide +kernel) 3 rfl ?_
      refine v_iadd (pc := 30) X (by decide +kernel) ?_
      obtain ⟨x3, ex3, hf⟩ := bnd_e hf
      refine v_iald (pc := 31) X kl1 ex3 (by decide +kernel) ?_
      obtain ⟨h4, eh4, hf⟩ := bnd_e hf
      refine v_iast (pc := 32) X (ly_12_56 ok kl0) eh4 (by decide +kernel) ?_
      refine v_aload_n (pc := 33) (k := 0) X (by decide +kernel) 0 rfl ?_
      refine v_geta (pc := 34) X fl_12_112 kl0 fk_12_60 (by decide +kernel) ?_
      refine v_iload_n (pc := 37) (k := 3) X (by decide +kernel) 3 rfl ?_
      refine v_aload_n (pc := 38) (k := 1) X (by decide +kernel) 1 rfl ?_
      refine v_iload_n (pc := 39) (k := 2) X (by decide +kernel) 2 rfl ?_
      refine v_bipush (pc := 40) (n := 12) X (by decide +kernel) bi_12 ?_
      refine v_iadd (pc := 42) X (by decide +kernel) ?_
      refine v_iload_n (pc := 43) (k := 3) X (by decide +kernel) 3 rfl ?_
      refine v_iadd (pc := 44) X (by decide +kernel) ?_
      obtain ⟨x5, ex5, hf⟩ := bnd_e hf
      refine v_iald (pc := 45) X kl1 ex5 (by decide +kernel) ?_
      obtain ⟨h6, eh6, hf⟩ := bnd_e hf
      refine v_iast (pc := 46) X (ly_12_60 ok kl0) eh6 (by decide +kernel) ?_
      obtain ⟨x7, ex7, hf⟩ := nmd_e hf
      refine v_iinc (pc := 47) (k := 3) (n := 1) (v := x7) (lv' := [(3, .int x7), (0, .ref (ρ l0)), (1, .ref (ρ l1)), (2, .int l2)]) X (by decide +kernel) 3 rfl (by rw [ic_1, ex7]) (Nat.le_of_ble_eq_true rfl) rfl ?_
      refine v_goto (pc := 50) (off := -48) (tgt := 2) X (by decide +kernel) (by decide) ?_
      refine v_sub [1, 2, 3, 0] rfl ?_
      exact ih h6 l0 l1 l2 x7 kl0 kl1 hf
set_option maxRecDepth 4000 in
set_option maxHeartbeats 1000000 in
theorem mt_Md_take {g : Gl} {tb : Tb} {ρ : Nat → Nat} (ok : TbOK tb) (hi : inj tb ρ) {h : Hp} {l0 : Nat} {l1 : Nat} {l2 : Int32} (kl0 : kd tb l0 = 12) (kl1 : kd tb l1 = 20) {r : Hp} (hf : f_Md_take tb h l0 l1 l2 = some r) : MT g y_Md_take prog_14_method_114_code 4 none 0 0 tb ρ [.ref (ρ l0), .ref (ρ l1), .int l2] h (none) r := by
  refine mt_intro (by decide +kernel) ok hi (Nat.le_of_ble_eq_true rfl) (fun E X Y => ?_)
  change V E g tb ρ 4 0 [(0, .ref (ρ l0)), (1, .ref (ρ l1)), (2, .int l2)] [] h
  unfold f_Md_take at hf
  refine v_iconst (pc := 0) (n := 0) X (by decide +kernel) ic_0 ?_
  refine v_istore_n (pc := 1) (k := 3) (lv' := [(3, .int (0 : Int32)), (0, .ref (ρ l0)), (1, .ref (ρ l1)), (2, .int l2)]) X (by decide +kernel) (Nat.le_of_ble_eq_true rfl) rfl ?_
  refine v_sub [1, 2, 3, 0] rfl ?_
  exact vlp_Md_take_2 ok hi X Y fu h l0 l1 l2 (0 : Int32) kl0 kl1 hf
def f_Md_undo (tb : Tb) (h : Hp) (l0 : Nat) : Option (Int32 × Hp) :=
  nmd (pI h l0 2 (0 : Int32)) fun h1 =>
  if (h1.1 l0 78) = (0 : Int32) then (
    some ((-1 : Int32), h1)
  ) else (
    nmd (pI h1 l0 78 ((h1.1 l0 78) - (1 : Int32))) fun h2 =>
    (f_Md_take tb h2 l0 (lay tb l0 79) ((18 : Int32) * (h2.1 l0 78))).bind fun r3 =>
    some (r3.1 l0 78, r3)
  )
set_option maxRecDepth 4000 in
set_option maxHeartbeats 1000000 in
theorem mt_Md_undo {g : Gl} {tb : Tb} {ρ : Nat → Nat} (ok : TbOK tb) (hi : inj tb ρ) {h : Hp} {l0 : Nat} (kl0 : kd tb l0 = 12) {r : Int32 × Hp} (hf : f_Md_undo tb h l0 = some r) : MT g y_Md_undo prog_14_method_116_code 1 (some .int) 1 23 tb ρ [.ref (ρ l0)] h (some (.int r.1)) r.2 := by
  refine mt_intro (by decide +kernel) ok hi (Nat.le_of_ble_eq_true rfl) (fun E X Y => ?_)
  change V E g tb ρ 1 0 [(0, .ref (ρ l0))] [] h
  unfold f_Md_undo at hf
  refine v_aload_n (pc := 0) (k := 0) X (by decide +kernel) 0 rfl ?_
  refine v_iconst (pc := 1) (n := 0) X (by decide +kernel) ic_0 ?_
  obtain ⟨h1, eh1, hf⟩ := nmd_e hf
  refine v_puti (pc := 2) X fp_12_160 kl0 rfl (by decide +kernel) eh1 ?_
  refine v_aload_n (pc := 5) (k := 0) X (by decide +kernel) 0 rfl ?_
  refine v_geti (pc := 6) X fl_12_380 kl0 rfl (by decide +kernel) ?_
  refine v_if_ne (pc := 9) (off := 5) (tgt := 14) X (by decide +kernel) (by decide) (fun q4 => ?_) (fun q4 => ?_)
  · rw [if_neg q4] at hf
    refine v_aload_n (pc := 14) (k := 0) X (by decide +kernel) 0 rfl ?_
    refine v_dup (pc := 15) X (by decide +kernel) rfl ?_
    refine v_geti (pc := 16) X fl_12_380 kl0 rfl (by decide +kernel) ?_
    refine v_iconst (pc := 19) (n := 1) X (by decide +kernel) ic_1 ?_
    refine v_isub (pc := 20) X (by decide +kernel) ?_
    obtain ⟨h2, eh2, hf⟩ := nmd_e hf
    refine v_puti (pc := 21) X fp_12_380 kl0 rfl (by decide +kernel) eh2 ?_
    refine v_aload_n (pc := 24) (k := 0) X (by decide +kernel) 0 rfl ?_
    refine v_aload_n (pc := 25) (k := 0) X (by decide +kernel) 0 rfl ?_
    refine v_geta (pc := 26) X fl_12_145 kl0 fk_12_79 (by decide +kernel) ?_
    refine v_bipush (pc := 29) (n := 18) X (by decide +kernel) bi_18 ?_
    refine v_aload_n (pc := 31) (k := 0) X (by decide +kernel) 0 rfl ?_
    refine v_geti (pc := 32) X fl_12_380 kl0 rfl (by decide +kernel) ?_
    refine v_imul (pc := 35) X (by decide +kernel) ?_
    obtain ⟨r3, er3, hf⟩ := bnd_e hf
    refine v_callV (pc := 36) (As := [.ref (ρ (lay tb l0 79)), .int ((18 : Int32) * (h2.1 l0 78))]) (rest := []) X (mt_Md_take ok hi kl0 (ly_12_79 ok kl0) er3) ml_12_523 mv_Md_take kl0 cls_12 rfl ⟨Nat.le_of_ble_eq_true rfl, Nat.le_of_ble_eq_true rfl⟩ rfl rfl (Nat.le_of_ble_eq_true rfl) (by decide +kernel) ?_
    change V E g tb ρ 1 39 [(0, .ref (ρ l0))] [] r3
    refine v_aload_n (pc := 39) (k := 0) X (by decide +kernel) 0 rfl ?_
    refine v_geti (pc := 40) X fl_12_380 kl0 rfl (by decide +kernel) ?_
    cases hf
    exact v_iret X Y (by decide +kernel) rfl rfl
  · rw [if_pos q4] at hf
    refine v_iconst (pc := 12) (n := -1) X (by decide +kernel) ic_m1 ?_
    cases hf
    exact v_iret X Y (by decide +kernel) rfl rfl
def jb_Md_keep_76 (tb : Tb) (c21 : Hp → Nat → Int32 → Option (Int32 × Hp)) (h : Hp) (l0 : Nat) (l1 : Int32) (s0 : Nat) (s1 : Int32) (s2 : Int32) : Option (Int32 × Hp) :=
  (wI tb h s0 s1 s2).bind fun h1 =>
  (rI tb h1 (lay tb l0 59) l1).bind fun x2 =>
  (wI tb h1 (lay tb l0 82) ((18 : Int32) + l1) x2).bind fun h3 =>
  nmd (l1 + (1 : Int32)) fun x4 =>
  c21 h3 l0 x4
def lp_Md_keep_21 (tb : Tb) : Nat → Hp → Nat → Int32 → Option (Int32 × Hp)
  | 0, _, _, _ => none
  | n + 1, h, l0, l1 =>
    if (6 : Int32) ≤ l1 then (
      (rI tb h (lay tb l0 61) (0 : Int32)).bind fun x1 =>
      (wI tb h (lay tb l0 82) (24 : Int32) x1).bind fun h2 =>
      (rI tb h2 (lay tb l0 62) (0 : Int32)).bind fun x3 =>
      (wI tb h2 (lay tb l0 82) (25 : Int32) x3).bind fun h4 =>
      (rI tb h4 (lay tb l0 63) (0 : Int32)).bind fun x5 =>
      (wI tb h4 (lay tb l0 82) (26 : Int32) x5).bind fun h6 =>
      (rI tb h6 (lay tb l0 64) (0 : Int32)).bind fun x7 =>
      (wI tb h6 (lay tb l0 82) (27 : Int32) x7).bind fun h8 =>
      (rI tb h8 (lay tb l0 65) (0 : Int32)).bind fun x9 =>
      (wI tb h8 (lay tb l0 82) (28 : Int32) x9).bind fun h10 =>
      (rI tb h10 (lay tb l0 66) (0 : Int32)).bind fun x11 =>
      (wI tb h10 (lay tb l0 82) (29 : Int32) x11).bind fun h12 =>
      nmd (pL h12 l0 83 (h12.2 l0 67)) fun h13 =>
      (rI tb h13 (lay tb l0 64) (0 : Int32)).bind fun x14 =>
      some (x14, h13)
    ) else (
      (rI tb h (lay tb l0 55) l1).bind fun x15 =>
      (wI tb h (lay tb l0 82) l1 x15).bind fun h16 =>
      (rI tb h16 (lay tb l0 57) l1).bind fun x17 =>
      (wI tb h16 (lay tb l0 82) ((6 : Int32) + l1) x17).bind fun h18 =>
      (rI tb h18 (lay tb l0 58) l1).bind fun x19 =>
      if x19 = (0 : Int32) then (
        jb_Md_keep_76 tb (lp_Md_keep_21 tb n) h18 l0 l1 (lay tb l0 82) ((12 : Int32) + l1) (0 : Int32)
      ) else (
        jb_Md_keep_76 tb (lp_Md_keep_21 tb n) h18 l0 l1 (lay tb l0 82) ((12 : Int32) + l1) (1 : Int32)
      )
    )
def f_Md_keep (tb : Tb) (h : Hp) (l0 : Nat) : Option (Int32 × Hp) :=
  nmd (pI h l0 2 (0 : Int32)) fun h1 =>
  nmd (pI h1 l0 80 (1 : Int32)) fun h2 =>
  (f_Md_put tb h2 l0 (lay tb l0 81) (0 : Int32)).bind fun r3 =>
  lp_Md_keep_21 tb fu r3 l0 (0 : Int32)
set_option maxRecDepth 4000 in
set_option maxHeartbeats 1000000 in
theorem vjb_Md_keep_76 {E : En} {g : Gl} {tb : Tb} {ρ : Nat → Nat} (ok : TbOK tb) (hi : inj tb ρ) {r : Int32 × Hp} (X : CX E g tb ρ prog_14_method_117_code 2 RC12 1 23) (Y : CQ E g tb ρ (some .int) (some (.int r.1)) r.2) {c21 : Hp → Nat → Int32 → Option (Int32 × Hp)} (H21 : ∀ (h : Hp) (l0 : Nat) (l1 : Int32) (kl0 : kd tb l0 = 12), c21 h l0 l1 = some r → V E g tb ρ 2 21 [(0, .ref (ρ l0)), (1, .int l1)] [] h) (h : Hp) (l0 : Nat) (l1 : Int32) (s0 : Nat) (s1 : Int32) (s2 : Int32) (kl0 : kd tb l0 = 12) (ks0 : kd tb s0 = 20) (hf : jb_Md_keep_76 tb c21 h l0 l1 s0 s1 s2 = some r) : V E g tb ρ 2 76 [(0, .ref (ρ l0)), (1, .int l1)] [.int s2, .int s1, .ref (ρ s0)] h := by
  unfold jb_Md_keep_76 at hf
  obtain ⟨h1, eh1, hf⟩ := bnd_e hf
  refine v_iast (pc := 76) X ks0 eh1 (by decide +kernel) ?_
  refine v_aload_n (pc := 77) (k := 0) X (by decide +kernel) 0 rfl ?_
  refine v_geta (pc := 78) X fl_12_151 kl0 fk_12_82 (by decide +kernel) ?_
  refine v_bipush (pc := 81) (n := 18) X (by decide +kernel) bi_18 ?_
  refine v_iload_n (pc := 83) (k := 1) X (by decide +kernel) 1 rfl ?_
  refine v_iadd (pc := 84) X (by decide +kernel) ?_
  refine v_aload_n (pc := 85) (k := 0) X (by decide +kernel) 0 rfl ?_
  refine v_geta (pc := 86) X fl_12_109 kl0 fk_12_59 (by decide +kernel) ?_
  refine v_iload_n (pc := 89) (k := 1) X (by decide +kernel) 1 rfl ?_
  obtain ⟨x2, ex2, hf⟩ := bnd_e hf
  refine v_iald (pc := 90) X (ly_12_59 ok kl0) ex2 (by decide +kernel) ?_
  obtain ⟨h3, eh3, hf⟩ := bnd_e hf
  refine v_iast (pc := 91) X (ly_12_82 ok kl0) eh3 (by decide +kernel) ?_
  obtain ⟨x4, ex4, hf⟩ := nmd_e hf
  refine v_iinc (pc := 92) (k := 1) (n := 1) (v := x4) (lv' := [(1, .int x4), (0, .ref (ρ l0))]) X (by decide +kernel) 1 rfl (by rw [ic_1, ex4]) (Nat.le_of_ble_eq_true rfl) rfl ?_
  refine v_goto (pc := 95) (off := -74) (tgt := 21) X (by decide +kernel) (by decide) ?_
  refine v_sub [1, 0] rfl ?_
  exact H21 h3 l0 x4 kl0 hf
set_option maxRecDepth 4000 in
set_option maxHeartbeats 1000000 in
theorem vlp_Md_keep_21 {E : En} {g : Gl} {tb : Tb} {ρ : Nat → Nat} (ok : TbOK tb) (hi : inj tb ρ) {r : Int32 × Hp} (X : CX E g tb ρ prog_14_method_117_code 2 RC12 1 23) (Y : CQ E g tb ρ (some .int) (some (.int r.1)) r.2) : ∀ (n : Nat) (h : Hp) (l0 : Nat) (l1 : Int32) (kl0 : kd tb l0 = 12), lp_Md_keep_21 tb n h l0 l1 = some r → V E g tb ρ 2 21 [(0, .ref (ρ l0)), (1, .int l1)] [] h := by
  intro n
  induction n with
  | zero =>
    intro h l0 l1 kl0 hf
    rw [lp_Md_keep_21] at hf
    cases hf
  | succ n ih =>
    intro h l0 l1 kl0 hf
    rw [lp_Md_keep_21] at hf
    refine v_iload_n (pc := 21) (k := 1) X (by decide +kernel) 1 rfl ?_
    refine v_bipush (pc := 22) (n := 6) X (by decide +kernel) bi_6 ?_
    refine v_icmp_ge (pc := 24) (off := 74) (tgt := 98) X (by decide +kernel) (by decide) (fun q21 => ?_) (fun q21 => ?_)
    · rw [if_pos q21] at hf
      refine v_aload_n (pc := 98) (k := 0) X (by decide +kernel) 0 rfl ?_
      refine v_geta (pc := 99) X fl_12_151 kl0 fk_12_82 (by decide +kernel) ?_
      refine v_bipush (pc := 102) (n := 24) X (by decide +kernel) bi_24 ?_
      refine v_aload_n (pc := 104) (k := 0) X (by decide +kernel) 0 rfl ?_
      refine v_geta (pc := 105) X fl_12_115 kl0 fk_12_61 (by decide +kernel) ?_
      refine v_iconst (pc := 108) (n := 0) X (by decide +kernel) ic_0 ?_
      obtain ⟨x1, ex1, hf⟩ := bnd_e hf
      refine v_iald (pc := 109) X (ly_12_61 ok kl0) ex1 (by decide +kernel) ?_
      obtain ⟨h2, eh2, hf⟩ := bnd_e hf
      refine v_iast (pc := 110) X (ly_12_82 ok kl0) eh2 (by decide +kernel) ?_
      refine v_aload_n (pc := 111) (k := 0) X (by decide +kernel) 0 rfl ?_
      refine v_geta (pc := 112) X fl_12_151 kl0 fk_12_82 (by decide +kernel) ?_
      refine v_bipush (pc := 115) (n := 25) X (by decide +kernel) bi_25 ?_
      refine v_aload_n (pc := 117) (k := 0) X (by decide +kernel) 0 rfl ?_
      refine v_geta (pc := 118) X fl_12_118 kl0 fk_12_62 (by decide +kernel) ?_
      refine v_iconst (pc := 121) (n := 0) X (by decide +kernel) ic_0 ?_
      obtain ⟨x3, ex3, hf⟩ := bnd_e hf
      refine v_iald (pc := 122) X (ly_12_62 ok kl0) ex3 (by decide +kernel) ?_
      obtain ⟨h4, eh4, hf⟩ := bnd_e hf
      refine v_iast (pc := 123) X (ly_12_82 ok kl0) eh4 (by decide +kernel) ?_
      refine v_aload_n (pc := 124) (k := 0) X (by decide +kernel) 0 rfl ?_
      refine v_geta (pc := 125) X fl_12_151 kl0 fk_12_82 (by decide +kernel) ?_
      refine v_bipush (pc := 128) (n := 26) X (by decide +kernel) bi_26 ?_
      refine v_aload_n (pc := 130) (k := 0) X (by decide +kernel) 0 rfl ?_
      refine v_geta (pc := 131) X fl_12_121 kl0 fk_12_63 (by decide +kernel) ?_
      refine v_iconst (pc := 134) (n := 0) X (by decide +kernel) ic_0 ?_
      obtain ⟨x5, ex5, hf⟩ := bnd_e hf
      refine v_iald (pc := 135) X (ly_12_63 ok kl0) ex5 (by decide +kernel) ?_
      obtain ⟨h6, eh6, hf⟩ := bnd_e hf
      refine v_iast (pc := 136) X (ly_12_82 ok kl0) eh6 (by decide +kernel) ?_
      refine v_aload_n (pc := 137) (k := 0) X (by decide +kernel) 0 rfl ?_
      refine v_geta (pc := 138) X fl_12_151 kl0 fk_12_82 (by decide +kernel) ?_
      refine v_bipush (pc := 141) (n := 27) X (by decide +kernel) bi_27 ?_
      refine v_aload_n (pc := 143) (k := 0) X (by decide +kernel) 0 rfl ?_
      refine v_geta (pc := 144) X fl_12_124 kl0 fk_12_64 (by decide +kernel) ?_
      refine v_iconst (pc := 147) (n := 0) X (by decide +kernel) ic_0 ?_
      obtain ⟨x7, ex7, hf⟩ := bnd_e hf
      refine v_iald (pc := 148) X (ly_12_64 ok kl0) ex7 (by decide +kernel) ?_
      obtain ⟨h8, eh8, hf⟩ := bnd_e hf
      refine v_iast (pc := 149) X (ly_12_82 ok kl0) eh8 (by decide +kernel) ?_
      refine v_aload_n (pc := 150) (k := 0) X (by decide +kernel) 0 rfl ?_
      refine v_geta (pc := 151) X fl_12_151 kl0 fk_12_82 (by decide +kernel) ?_
      refine v_bipush (pc := 154) (n := 28) X (by decide +kernel) bi_28 ?_
      refine v_aload_n (pc := 156) (k := 0) X (by decide +kernel) 0 rfl ?_
      refine v_geta (pc := 157) X fl_12_127 kl0 fk_12_65 (by decide +kernel) ?_
      refine v_iconst (pc := 160) (n := 0) X (by decide +kernel) ic_0 ?_
      obtain ⟨x9, ex9, hf⟩ := bnd_e hf
      refine v_iald (pc := 161) X (ly_12_65 ok kl0) ex9 (by decide +kernel) ?_
      obtain ⟨h10, eh10, hf⟩ := bnd_e hf
      refine v_iast (pc := 162) X (ly_12_82 ok kl0) eh10 (by decide +kernel) ?_
      refine v_aload_n (pc := 163) (k := 0) X (by decide +kernel) 0 rfl ?_
      refine v_geta (pc := 164) X fl_12_151 kl0 fk_12_82 (by decide +kernel) ?_
      refine v_bipush (pc := 167) (n := 29) X (by decide +kernel) bi_29 ?_
      refine v_aload_n (pc := 169) (k := 0) X (by decide +kernel) 0 rfl ?_
      refine v_geta (pc := 170) X fl_12_130 kl0 fk_12_66 (by decide +kernel) ?_
      refine v_iconst (pc := 173) (n := 0) X (by decide +kernel) ic_0 ?_
      obtain ⟨x11, ex11, hf⟩ := bnd_e hf
      refine v_iald (pc := 174) X (ly_12_66 ok kl0) ex11 (by decide +kernel) ?_
      obtain ⟨h12, eh12, hf⟩ := bnd_e hf
      refine v_iast (pc := 175) X (ly_12_82 ok kl0) eh12 (by decide +kernel) ?_
      refine v_aload_n (pc := 176) (k := 0) X (by decide +kernel) 0 rfl ?_
      refine v_aload_n (pc := 177) (k := 0) X (by decide +kernel) 0 rfl ?_
      refine v_getl (pc := 178) X fl_12_370 kl0 rfl (by decide +kernel) ?_
      obtain ⟨h13, eh13, hf⟩ := nmd_e hf
      refine v_putl (pc := 181) X fp_12_526 kl0 rfl (by decide +kernel) eh13 ?_
      refine v_aload_n (pc := 184) (k := 0) X (by decide +kernel) 0 rfl ?_
      refine v_geta (pc := 185) X fl_12_124 kl0 fk_12_64 (by decide +kernel) ?_
      refine v_iconst (pc := 188) (n := 0) X (by decide +kernel) ic_0 ?_
      obtain ⟨x14, ex14, hf⟩ := bnd_e hf
      refine v_iald (pc := 189) X (ly_12_64 ok kl0) ex14 (by decide +kernel) ?_
      cases hf
      exact v_iret X Y (by decide +kernel) rfl rfl
    · rw [if_neg q21] at hf
      refine v_aload_n (pc := 27) (k := 0) X (by decide +kernel) 0 rfl ?_
      refine v_geta (pc := 28) X fl_12_151 kl0 fk_12_82 (by decide +kernel) ?_
      refine v_iload_n (pc := 31) (k := 1) X (by decide +kernel) 1 rfl ?_
      refine v_aload_n (pc := 32) (k := 0) X (by decide +kernel) 0 rfl ?_
      refine v_geta (pc := 33) X fl_12_97 kl0 fk_12_55 (by decide +kernel) ?_
      refine v_iload_n (pc := 36) (k := 1) X (by decide +kernel) 1 rfl ?_
      obtain ⟨x15, ex15, hf⟩ := bnd_e hf
      refine v_iald (pc := 37) X (ly_12_55 ok kl0) ex15 (by decide +kernel) ?_
      obtain ⟨h16, eh16, hf⟩ := bnd_e hf
      refine v_iast (pc := 38) X (ly_12_82 ok kl0) eh16 (by decide +kernel) ?_
      refine v_aload_n (pc := 39) (k := 0) X (by decide +kernel) 0 rfl ?_
      refine v_geta (pc := 40) X fl_12_151 kl0 fk_12_82 (by decide +kernel) ?_
      refine v_bipush (pc := 43) (n := 6) X (by decide +kernel) bi_6 ?_
      refine v_iload_n (pc := 45) (k := 1) X (by decide +kernel) 1 rfl ?_
      refine v_iadd (pc := 46) X (by decide +kernel) ?_
      refine v_aload_n (pc := 47) (k := 0) X (by decide +kernel) 0 rfl ?_
      refine v_geta (pc := 48) X fl_12_103 kl0 fk_12_57 (by decide +kernel) ?_
      refine v_iload_n (pc := 51) (k := 1) X (by decide +kernel) 1 rfl ?_
      obtain ⟨x17, ex17, hf⟩ := bnd_e hf
      refine v_iald (pc := 52) X (ly_12_57 ok kl0) ex17 (by decide +kernel) ?_
      obtain ⟨h18, eh18, hf⟩ := bnd_e hf
      refine v_iast (pc := 53) X (ly_12_82 ok kl0) eh18 (by decide +kernel) ?_
      refine v_aload_n (pc := 54) (k := 0) X (by decide +kernel) 0 rfl ?_
      refine v_geta (pc := 55) X fl_12_151 kl0 fk_12_82 (by decide +kernel) ?_
      refine v_bipush (pc := 58) (n := 12) X (by decide +kernel) bi_12 ?_
      refine v_iload_n (pc := 60) (k := 1) X (by decide +kernel) 1 rfl ?_
      refine v_iadd (pc := 61) X (by decide +kernel) ?_
      refine v_aload_n (pc := 62) (k := 0) X (by decide +kernel) 0 rfl ?_
      refine v_geta (pc := 63) X fl_12_106 kl0 fk_12_58 (by decide +kernel) ?_
      refine v_iload_n (pc := 66) (k := 1) X (by decide +kernel) 1 rfl ?_
      obtain ⟨x19, ex19, hf⟩ := bnd_e hf
      refine v_zald (pc := 67) X (ly_12_58 ok kl0) ex19 (by decide +kernel) ?_
      refine v_if_eq (pc := 68) (off := 7) (tgt := 75) X (by decide +kernel) (by decide) (fun q20 => ?_) (fun q20 => ?_)
      · rw [if_pos q20] at hf
        refine v_iconst (pc := 75) (n := 0) X (by decide +kernel) ic_0 ?_
        exact vjb_Md_keep_76 ok hi X Y ih h18 l0 l1 (lay tb l0 82) ((12 : Int32) + l1) (0 : Int32) kl0 (ly_12_82 ok kl0) hf
      · rw [if_neg q20] at hf
        refine v_iconst (pc := 71) (n := 1) X (by decide +kernel) ic_1 ?_
        refine v_goto (pc := 72) (off := 4) (tgt := 76) X (by decide +kernel) (by decide) ?_
        exact vjb_Md_keep_76 ok hi X Y ih h18 l0 l1 (lay tb l0 82) ((12 : Int32) + l1) (1 : Int32) kl0 (ly_12_82 ok kl0) hf
set_option maxRecDepth 4000 in
set_option maxHeartbeats 1000000 in
theorem mt_Md_keep {g : Gl} {tb : Tb} {ρ : Nat → Nat} (ok : TbOK tb) (hi : inj tb ρ) {h : Hp} {l0 : Nat} (kl0 : kd tb l0 = 12) {r : Int32 × Hp} (hf : f_Md_keep tb h l0 = some r) : MT g y_Md_keep prog_14_method_117_code 2 (some .int) 1 23 tb ρ [.ref (ρ l0)] h (some (.int r.1)) r.2 := by
  refine mt_intro (by decide +kernel) ok hi (Nat.le_of_ble_eq_true rfl) (fun E X Y => ?_)
  change V E g tb ρ 2 0 [(0, .ref (ρ l0))] [] h
  unfold f_Md_keep at hf
  refine v_aload_n (pc := 0) (k := 0) X (by decide +kernel) 0 rfl ?_
  refine v_iconst (pc := 1) (n := 0) X (by decide +kernel) ic_0 ?_
  obtain ⟨h1, eh1, hf⟩ := nmd_e hf
  refine v_puti (pc := 2) X fp_12_160 kl0 rfl (by decide +kernel) eh1 ?_
  refine v_aload_n (pc := 5) (k := 0) X (by decide +kernel) 0 rfl ?_
  refine v_iconst (pc := 6) (n := 1) X (by decide +kernel) ic_1 ?_
  obtain ⟨h2, eh2, hf⟩ := nmd_e hf
  refine v_putz (pc := 7) X fp_12_383 kl0 rfl rfl (by decide +kernel) eh2 ?_
  refine v_aload_n (pc := 10) (k := 0) X (by decide +kernel) 0 rfl ?_
  refine v_aload_n (pc := 11) (k := 0) X (by decide +kernel) 0 rfl ?_
  refine v_geta (pc := 12) X fl_12_148 kl0 fk_12_81 (by decide +kernel) ?_
  refine v_iconst (pc := 15) (n := 0) X (by decide +kernel) ic_0 ?_
  obtain ⟨r3, er3, hf⟩ := bnd_e hf
  refine v_callV (pc := 16) (As := [.ref (ρ (lay tb l0 81)), .int (0 : Int32)]) (rest := []) X (mt_Md_put ok hi kl0 (ly_12_81 ok kl0) er3) ml_12_520 mv_Md_put kl0 cls_12 rfl ⟨Nat.le_of_ble_eq_true rfl, Nat.le_of_ble_eq_true rfl⟩ rfl rfl (Nat.le_of_ble_eq_true rfl) (by decide +kernel) ?_
  change V E g tb ρ 2 19 [(0, .ref (ρ l0))] [] r3
  refine v_iconst (pc := 19) (n := 0) X (by decide +kernel) ic_0 ?_
  refine v_istore_n (pc := 20) (k := 1) (lv' := [(1, .int (0 : Int32)), (0, .ref (ρ l0))]) X (by decide +kernel) (Nat.le_of_ble_eq_true rfl) rfl ?_
  refine v_sub [1, 0] rfl ?_
  exact vlp_Md_keep_21 ok hi X Y fu r3 l0 (0 : Int32) kl0 hf
def jb_Md_back_81 (tb : Tb) (c25 : Hp → Nat → Int32 → Option (Int32 × Hp)) (h : Hp) (l0 : Nat) (l1 : Int32) (s0 : Nat) (s1 : Int32) (s2 : Int32) : Option (Int32 × Hp) :=
  (wZ tb h s0 s1 s2).bind fun h1 =>
  (rI tb h1 (lay tb l0 82) ((18 : Int32) + l1)).bind fun x2 =>
  (wI tb h1 (lay tb l0 59) l1 x2).bind fun h3 =>
  nmd (l1 + (1 : Int32)) fun x4 =>
  c25 h3 l0 x4
def lp_Md_back_25 (tb : Tb) : Nat → Hp → Nat → Int32 → Option (Int32 × Hp)
  | 0, _, _, _ => none
  | n + 1, h, l0, l1 =>
    if (6 : Int32) ≤ l1 then (
      (rI tb h (lay tb l0 82) (24 : Int32)).bind fun x1 =>
      (wI tb h (lay tb l0 61) (0 : Int32) x1).bind fun h2 =>
      (rI tb h2 (lay tb l0 82) (25 : Int32)).bind fun x3 =>
      (wI tb h2 (lay tb l0 62) (0 : Int32) x3).bind fun h4 =>
      (rI tb h4 (lay tb l0 82) (26 : Int32)).bind fun x5 =>
      (wI tb h4 (lay tb l0 63) (0 : Int32) x5).bind fun h6 =>
      (rI tb h6 (lay tb l0 82) (27 : Int32)).bind fun x7 =>
      (wI tb h6 (lay tb l0 64) (0 : Int32) x7).bind fun h8 =>
      (rI tb h8 (lay tb l0 82) (28 : Int32)).bind fun x9 =>
      (wI tb h8 (lay tb l0 65) (0 : Int32) x9).bind fun h10 =>
      (rI tb h10 (lay tb l0 82) (29 : Int32)).bind fun x11 =>
      (wI tb h10 (lay tb l0 66) (0 : Int32) x11).bind fun h12 =>
      nmd (pL h12 l0 67 (h12.2 l0 83)) fun h13 =>
      nmd (pI h13 l0 78 (0 : Int32)) fun h14 =>
      (rI tb h14 (lay tb l0 64) (0 : Int32)).bind fun x15 =>
      some (x15, h14)
    ) else (
      (rI tb h (lay tb l0 82) l1).bind fun x16 =>
      (wI tb h (lay tb l0 55) l1 x16).bind fun h17 =>
      (rI tb h17 (lay tb l0 82) ((6 : Int32) + l1)).bind fun x18 =>
      (wI tb h17 (lay tb l0 57) l1 x18).bind fun h19 =>
      (rI tb h19 (lay tb l0 82) ((12 : Int32) + l1)).bind fun x20 =>
      if x20 = (1 : Int32) then (
        jb_Md_back_81 tb (lp_Md_back_25 tb n) h19 l0 l1 (lay tb l0 58) l1 (1 : Int32)
      ) else (
        jb_Md_back_81 tb (lp_Md_back_25 tb n) h19 l0 l1 (lay tb l0 58) l1 (0 : Int32)
      )
    )
def f_Md_back (tb : Tb) (h : Hp) (l0 : Nat) : Option (Int32 × Hp) :=
  nmd (pI h l0 2 (0 : Int32)) fun h1 =>
  if (h1.1 l0 80) = (0 : Int32) then (
    some ((-1 : Int32), h1)
  ) else (
    (f_Md_take tb h1 l0 (lay tb l0 81) (0 : Int32)).bind fun r2 =>
    lp_Md_back_25 tb fu r2 l0 (0 : Int32)
  )
set_option maxRecDepth 4000 in
set_option maxHeartbeats 1000000 in
theorem vjb_Md_back_81 {E : En} {g : Gl} {tb : Tb} {ρ : Nat → Nat} (ok : TbOK tb) (hi : inj tb ρ) {r : Int32 × Hp} (X : CX E g tb ρ prog_14_method_118_code 2 RC12 1 23) (Y : CQ E g tb ρ (some .int) (some (.int r.1)) r.2) {c25 : Hp → Nat → Int32 → Option (Int32 × Hp)} (H25 : ∀ (h : Hp) (l0 : Nat) (l1 : Int32) (kl0 : kd tb l0 = 12), c25 h l0 l1 = some r → V E g tb ρ 2 25 [(0, .ref (ρ l0)), (1, .int l1)] [] h) (h : Hp) (l0 : Nat) (l1 : Int32) (s0 : Nat) (s1 : Int32) (s2 : Int32) (kl0 : kd tb l0 = 12) (ks0 : kd tb s0 = 22) (hf : jb_Md_back_81 tb c25 h l0 l1 s0 s1 s2 = some r) : V E g tb ρ 2 81 [(0, .ref (ρ l0)), (1, .int l1)] [.int s2, .int s1, .ref (ρ s0)] h := by
  unfold jb_Md_back_81 at hf
  obtain ⟨h1, eh1, hf⟩ := bnd_e hf
  refine v_zast (pc := 81) X ks0 eh1 (by decide +kernel) ?_
  refine v_aload_n (pc := 82) (k := 0) X (by decide +kernel) 0 rfl ?_
  refine v_geta (pc := 83) X fl_12_109 kl0 fk_12_59 (by decide +kernel) ?_
  refine v_iload_n (pc := 86) (k := 1) X (by decide +kernel) 1 rfl ?_
  refine v_aload_n (pc := 87) (k := 0) X (by decide +kernel) 0 rfl ?_
  refine v_geta (pc := 88) X fl_12_151 kl0 fk_12_82 (by decide +kernel) ?_
  refine v_bipush (pc := 91) (n := 18) X (by decide +kernel) bi_18 ?_
  refine v_iload_n (pc := 93) (k := 1) X (by decide +kernel) 1 rfl ?_
  refine v_iadd (pc := 94) X (by decide +kernel) ?_
  obtain ⟨x2, ex2, hf⟩ := bnd_e hf
  refine v_iald (pc := 95) X (ly_12_82 ok kl0) ex2 (by decide +kernel) ?_
  obtain ⟨h3, eh3, hf⟩ := bnd_e hf
  refine v_iast (pc := 96) X (ly_12_59 ok kl0) eh3 (by decide +kernel) ?_
  obtain ⟨x4, ex4, hf⟩ := nmd_e hf
  refine v_iinc (pc := 97) (k := 1) (n := 1) (v := x4) (lv' := [(1, .int x4), (0, .ref (ρ l0))]) X (by decide +kernel) 1 rfl (by rw [ic_1, ex4]) (Nat.le_of_ble_eq_true rfl) rfl ?_
  refine v_goto (pc := 100) (off := -75) (tgt := 25) X (by decide +kernel) (by decide) ?_
  refine v_sub [1, 0] rfl ?_
  exact H25 h3 l0 x4 kl0 hf
set_option maxRecDepth 4000 in
set_option maxHeartbeats 1000000 in
theorem vlp_Md_back_25 {E : En} {g : Gl} {tb : Tb} {ρ : Nat → Nat} (ok : TbOK tb) (hi : inj tb ρ) {r : Int32 × Hp} (X : CX E g tb ρ prog_14_method_118_code 2 RC12 1 23) (Y : CQ E g tb ρ (some .int) (some (.int r.1)) r.2) : ∀ (n : Nat) (h : Hp) (l0 : Nat) (l1 : Int32) (kl0 : kd tb l0 = 12), lp_Md_back_25 tb n h l0 l1 = some r → V E g tb ρ 2 25 [(0, .ref (ρ l0)), (1, .int l1)] [] h := by
  intro n
  induction n with
  | zero =>
    intro h l0 l1 kl0 hf
    rw [lp_Md_back_25] at hf
    cases hf
  | succ n ih =>
    intro h l0 l1 kl0 hf
    rw [lp_Md_back_25] at hf
    refine v_iload_n (pc := 25) (k := 1) X (by decide +kernel) 1 rfl ?_
    refine v_bipush (pc := 26) (n := 6) X (by decide +kernel) bi_6 ?_
    refine v_icmp_ge (pc := 28) (off := 75) (tgt := 103) X (by decide +kernel) (by decide) (fun q22 => ?_) (fun q22 => ?_)
    · rw [if_pos q22] at hf
      refine v_aload_n (pc := 103) (k := 0) X (by decide +kernel) 0 rfl ?_
      refine v_geta (pc := 104) X fl_12_115 kl0 fk_12_61 (by decide +kernel) ?_
      refine v_iconst (pc := 107) (n := 0) X (by decide +kernel) ic_0 ?_
      refine v_aload_n (pc := 108) (k := 0) X (by decide +kernel) 0 rfl ?_
      refine v_geta (pc := 109) X fl_12_151 kl0 fk_12_82 (by decide +kernel) ?_
      refine v_bipush (pc := 112) (n := 24) X (by decide +kernel) bi_24 ?_
      obtain ⟨x1, ex1, hf⟩ := bnd_e hf
      refine v_iald (pc := 114) X (ly_12_82 ok kl0) ex1 (by decide +kernel) ?_
      obtain ⟨h2, eh2, hf⟩ := bnd_e hf
      refine v_iast (pc := 115) X (ly_12_61 ok kl0) eh2 (by decide +kernel) ?_
      refine v_aload_n (pc := 116) (k := 0) X (by decide +kernel) 0 rfl ?_
      refine v_geta (pc := 117) X fl_12_118 kl0 fk_12_62 (by decide +kernel) ?_
      refine v_iconst (pc := 120) (n := 0) X (by decide +kernel) ic_0 ?_
      refine v_aload_n (pc := 121) (k := 0) X (by decide +kernel) 0 rfl ?_
      refine v_geta (pc := 122) X fl_12_151 kl0 fk_12_82 (by decide +kernel) ?_
      refine v_bipush (pc := 125) (n := 25) X (by decide +kernel) bi_25 ?_
      obtain ⟨x3, ex3, hf⟩ := bnd_e hf
      refine v_iald (pc := 127) X (ly_12_82 ok kl0) ex3 (by decide +kernel) ?_
      obtain ⟨h4, eh4, hf⟩ := bnd_e hf
      refine v_iast (pc := 128) X (ly_12_62 ok kl0) eh4 (by decide +kernel) ?_
      refine v_aload_n (pc := 129) (k := 0) X (by decide +kernel) 0 rfl ?_
      refine v_geta (pc := 130) X fl_12_121 kl0 fk_12_63 (by decide +kernel) ?_
      refine v_iconst (pc := 133) (n := 0) X (by decide +kernel) ic_0 ?_
      refine v_aload_n (pc := 134) (k := 0) X (by decide +kernel) 0 rfl ?_
      refine v_geta (pc := 135) X fl_12_151 kl0 fk_12_82 (by decide +kernel) ?_
      refine v_bipush (pc := 138) (n := 26) X (by decide +kernel) bi_26 ?_
      obtain ⟨x5, ex5, hf⟩ := bnd_e hf
      refine v_iald (pc := 140) X (ly_12_82 ok kl0) ex5 (by decide +kernel) ?_
      obtain ⟨h6, eh6, hf⟩ := bnd_e hf
      refine v_iast (pc := 141) X (ly_12_63 ok kl0) eh6 (by decide +kernel) ?_
      refine v_aload_n (pc := 142) (k := 0) X (by decide +kernel) 0 rfl ?_
      refine v_geta (pc := 143) X fl_12_124 kl0 fk_12_64 (by decide +kernel) ?_
      refine v_iconst (pc := 146) (n := 0) X (by decide +kernel) ic_0 ?_
      refine v_aload_n (pc := 147) (k := 0) X (by decide +kernel) 0 rfl ?_
      refine v_geta (pc := 148) X fl_12_151 kl0 fk_12_82 (by decide +kernel) ?_
      refine v_bipush (pc := 151) (n := 27) X (by decide +kernel) bi_27 ?_
      obtain ⟨x7, ex7, hf⟩ := bnd_e hf
      refine v_iald (pc := 153) X (ly_12_82 ok kl0) ex7 (by decide +kernel) ?_
      obtain ⟨h8, eh8, hf⟩ := bnd_e hf
      refine v_iast (pc := 154) X (ly_12_64 ok kl0) eh8 (by decide +kernel) ?_
      refine v_aload_n (pc := 155) (k := 0) X (by decide +kernel) 0 rfl ?_
      refine v_geta (pc := 156) X fl_12_127 kl0 fk_12_65 (by decide +kernel) ?_
      refine v_iconst (pc := 159) (n := 0) X (by decide +kernel) ic_0 ?_
      refine v_aload_n (pc := 160) (k := 0) X (by decide +kernel) 0 rfl ?_
      refine v_geta (pc := 161) X fl_12_151 kl0 fk_12_82 (by decide +kernel) ?_
      refine v_bipush (pc := 164) (n := 28) X (by decide +kernel) bi_28 ?_
      obtain ⟨x9, ex9, hf⟩ := bnd_e hf
      refine v_iald (pc := 166) X (ly_12_82 ok kl0) ex9 (by decide +kernel) ?_
      obtain ⟨h10, eh10, hf⟩ := bnd_e hf
      refine v_iast (pc := 167) X (ly_12_65 ok kl0) eh10 (by decide +kernel) ?_
      refine v_aload_n (pc := 168) (k := 0) X (by decide +kernel) 0 rfl ?_
      refine v_geta (pc := 169) X fl_12_130 kl0 fk_12_66 (by decide +kernel) ?_
      refine v_iconst (pc := 172) (n := 0) X (by decide +kernel) ic_0 ?_
      refine v_aload_n (pc := 173) (k := 0) X (by decide +kernel) 0 rfl ?_
      refine v_geta (pc := 174) X fl_12_151 kl0 fk_12_82 (by decide +kernel) ?_
      refine v_bipush (pc := 177) (n := 29) X (by decide +kernel) bi_29 ?_
      obtain ⟨x11, ex11, hf⟩ := bnd_e hf
      refine v_iald (pc := 179) X (ly_12_82 ok kl0) ex11 (by decide +kernel) ?_
      obtain ⟨h12, eh12, hf⟩ := bnd_e hf
      refine v_iast (pc := 180) X (ly_12_66 ok kl0) eh12 (by decide +kernel) ?_
      refine v_aload_n (pc := 181) (k := 0) X (by decide +kernel) 0 rfl ?_
      refine v_aload_n (pc := 182) (k := 0) X (by decide +kernel) 0 rfl ?_
      refine v_getl (pc := 183) X fl_12_526 kl0 rfl (by decide +kernel) ?_
      obtain ⟨h13, eh13, hf⟩ := nmd_e hf
      refine v_putl (pc := 186) X fp_12_370 kl0 rfl (by decide +kernel) eh13 ?_
      refine v_aload_n (pc := 189) (k := 0) X (by decide +kernel) 0 rfl ?_
      refine v_iconst (pc := 190) (n := 0) X (by decide +kernel) ic_0 ?_
      obtain ⟨h14, eh14, hf⟩ := nmd_e hf
      refine v_puti (pc := 191) X fp_12_380 kl0 rfl (by decide +kernel) eh14 ?_
      refine v_aload_n (pc := 194) (k := 0) X (by decide +kernel) 0 rfl ?_
      refine v_geta (pc := 195) X fl_12_124 kl0 fk_12_64 (by decide +kernel) ?_
      refine v_iconst (pc := 198) (n := 0) X (by decide +kernel) ic_0 ?_
      obtain ⟨x15, ex15, hf⟩ := bnd_e hf
      refine v_iald (pc := 199) X (ly_12_64 ok kl0) ex15 (by decide +kernel) ?_
      cases hf
      exact v_iret X Y (by decide +kernel) rfl rfl
    · rw [if_neg q22] at hf
      refine v_aload_n (pc := 31) (k := 0) X (by decide +kernel) 0 rfl ?_
      refine v_geta (pc := 32) X fl_12_97 kl0 fk_12_55 (by decide +kernel) ?_
      refine v_iload_n (pc := 35) (k := 1) X (by decide +kernel) 1 rfl ?_
      refine v_aload_n (pc := 36) (k := 0) X (by decide +kernel) 0 rfl ?_
      refine v_geta (pc := 37) X fl_12_151 kl0 fk_12_82 (by decide +kernel) ?_
      refine v_iload_n (pc := 40) (k := 1) X (by decide +kernel) 1 rfl ?_
      obtain ⟨x16, ex16, hf⟩ := bnd_e hf
      refine v_iald (pc := 41) X (ly_12_82 ok kl0) ex16 (by decide +kernel) ?_
      obtain ⟨h17, eh17, hf⟩ := bnd_e hf
      refine v_iast (pc := 42) X (ly_12_55 ok kl0) eh17 (by decide +kernel) ?_
      refine v_aload_n (pc := 43) (k := 0) X (by decide +kernel) 0 rfl ?_
      refine v_geta (pc := 44) X fl_12_103 kl0 fk_12_57 (by decide +kernel) ?_
      refine v_iload_n (pc := 47) (k := 1) X (by decide +kernel) 1 rfl ?_
      refine v_aload_n (pc := 48) (k := 0) X (by decide +kernel) 0 rfl ?_
      refine v_geta (pc := 49) X fl_12_151 kl0 fk_12_82 (by decide +kernel) ?_
      refine v_bipush (pc := 52) (n := 6) X (by decide +kernel) bi_6 ?_
      refine v_iload_n (pc := 54) (k := 1) X (by decide +kernel) 1 rfl ?_
      refine v_iadd (pc := 55) X (by decide +kernel) ?_
      obtain ⟨x18, ex18, hf⟩ := bnd_e hf
      refine v_iald (pc := 56) X (ly_12_82 ok kl0) ex18 (by decide +kernel) ?_
      obtain ⟨h19, eh19, hf⟩ := bnd_e hf
      refine v_iast (pc := 57) X (ly_12_57 ok kl0) eh19 (by decide +kernel) ?_
      refine v_aload_n (pc := 58) (k := 0) X (by decide +kernel) 0 rfl ?_
      refine v_geta (pc := 59) X fl_12_106 kl0 fk_12_58 (by decide +kernel) ?_
      refine v_iload_n (pc := 62) (k := 1) X (by decide +kernel) 1 rfl ?_
      refine v_aload_n (pc := 63) (k := 0) X (by decide +kernel) 0 rfl ?_
      refine v_geta (pc := 64) X fl_12_151 kl0 fk_12_82 (by decide +kernel) ?_
      refine v_bipush (pc := 67) (n := 12) X (by decide +kernel) bi_12 ?_
      refine v_iload_n (pc := 69) (k := 1) X (by decide +kernel) 1 rfl ?_
      refine v_iadd (pc := 70) X (by decide +kernel) ?_
      obtain ⟨x20, ex20, hf⟩ := bnd_e hf
      refine v_iald (pc := 71) X (ly_12_82 ok kl0) ex20 (by decide +kernel) ?_
      refine v_iconst (pc := 72) (n := 1) X (by decide +kernel) ic_1 ?_
      refine v_icmp_ne (pc := 73) (off := 7) (tgt := 80) X (by decide +kernel) (by decide) (fun q21 => ?_) (fun q21 => ?_)
      · rw [if_neg q21] at hf
        refine v_iconst (pc := 80) (n := 0) X (by decide +kernel) ic_0 ?_
        exact vjb_Md_back_81 ok hi X Y ih h19 l0 l1 (lay tb l0 58) l1 (0 : Int32) kl0 (ly_12_58 ok kl0) hf
      · rw [if_pos q21] at hf
        refine v_iconst (pc := 76) (n := 1) X (by decide +kernel) ic_1 ?_
        refine v_goto (pc := 77) (off := 4) (tgt := 81) X (by decide +kernel) (by decide) ?_
        exact vjb_Md_back_81 ok hi X Y ih h19 l0 l1 (lay tb l0 58) l1 (1 : Int32) kl0 (ly_12_58 ok kl0) hf
set_option maxRecDepth 4000 in
set_option maxHeartbeats 1000000 in
theorem mt_Md_back {g : Gl} {tb : Tb} {ρ : Nat → Nat} (ok : TbOK tb) (hi : inj tb ρ) {h : Hp} {l0 : Nat} (kl0 : kd tb l0 = 12) {r : Int32 × Hp} (hf : f_Md_back tb h l0 = some r) : MT g y_Md_back prog_14_method_118_code 2 (some .int) 1 23 tb ρ [.ref (ρ l0)] h (some (.int r.1)) r.2 := by
  refine mt_intro (by decide +kernel) ok hi (Nat.le_of_ble_eq_true rfl) (fun E X Y => ?_)
  change V E g tb ρ 2 0 [(0, .ref (ρ l0))] [] h
  unfold f_Md_back at hf
  refine v_aload_n (pc := 0) (k := 0) X (by decide +kernel) 0 rfl ?_
  refine v_iconst (pc := 1) (n := 0) X (by decide +kernel) ic_0 ?_
  obtain ⟨h1, eh1, hf⟩ := nmd_e hf
  refine v_puti (pc := 2) X fp_12_160 kl0 rfl (by decide +kernel) eh1 ?_
  refine v_aload_n (pc := 5) (k := 0) X (by decide +kernel) 0 rfl ?_
  refine v_geti (pc := 6) X fl_12_383 kl0 rfl (by decide +kernel) ?_
  refine v_if_ne (pc := 9) (off := 5) (tgt := 14) X (by decide +kernel) (by decide) (fun q3 => ?_) (fun q3 => ?_)
  · rw [if_neg q3] at hf
    refine v_aload_n (pc := 14) (k := 0) X (by decide +kernel) 0 rfl ?_
    refine v_aload_n (pc := 15) (k := 0) X (by decide +kernel) 0 rfl ?_
    refine v_geta (pc := 16) X fl_12_148 kl0 fk_12_81 (by decide +kernel) ?_
    refine v_iconst (pc := 19) (n := 0) X (by decide +kernel) ic_0 ?_
    obtain ⟨r2, er2, hf⟩ := bnd_e hf
    refine v_callV (pc := 20) (As := [.ref (ρ (lay tb l0 81)), .int (0 : Int32)]) (rest := []) X (mt_Md_take ok hi kl0 (ly_12_81 ok kl0) er2) ml_12_523 mv_Md_take kl0 cls_12 rfl ⟨Nat.le_of_ble_eq_true rfl, Nat.le_of_ble_eq_true rfl⟩ rfl rfl (Nat.le_of_ble_eq_true rfl) (by decide +kernel) ?_
    change V E g tb ρ 2 23 [(0, .ref (ρ l0))] [] r2
    refine v_iconst (pc := 23) (n := 0) X (by decide +kernel) ic_0 ?_
    refine v_istore_n (pc := 24) (k := 1) (lv' := [(1, .int (0 : Int32)), (0, .ref (ρ l0))]) X (by decide +kernel) (Nat.le_of_ble_eq_true rfl) rfl ?_
    refine v_sub [1, 0] rfl ?_
    exact vlp_Md_back_25 ok hi X Y fu r2 l0 (0 : Int32) kl0 hf
  · rw [if_pos q3] at hf
    refine v_iconst (pc := 12) (n := -1) X (by decide +kernel) ic_m1 ?_
    cases hf
    exact v_iret X Y (by decide +kernel) rfl rfl
def lp_Md_count_134 (tb : Tb) : Nat → Hp → Nat → Int32 → Int32 → Option (Int32 × Hp)
  | 0, _, _, _, _ => none
  | n + 1, h, l0, l2, l3 =>
    if (h.1 l0 12) ≤ l3 then (
      some (l2, h)
    ) else (
      (rI tb h (lay tb l0 60) l3).bind fun x1 =>
      nmd (l2 + x1) fun x2 =>
      nmd (l3 + (1 : Int32)) fun x3 =>
      lp_Md_count_134 tb n h l0 x2 x3
    )
def f_Md_count (tb : Tb) (h : Hp) (l0 : Nat) (l1 : Int32) : Option (Int32 × Hp) :=
  nmd (pI h l0 2 (0 : Int32)) fun h1 =>
  if l1 = (0 : Int32) then (
    some (h1.1 l0 12, h1)
  ) else (
    if l1 = (1 : Int32) then (
      some (h1.1 l0 13, h1)
    ) else (
      if l1 = (2 : Int32) then (
        some (h1.1 l0 14, h1)
      ) else (
        if l1 = (3 : Int32) then (
          some (h1.1 l0 15, h1)
        ) else (
          if l1 = (4 : Int32) then (
            some (h1.1 l0 16, h1)
          ) else (
            if l1 = (5 : Int32) then (
              (rI tb h1 (lay tb l0 64) (0 : Int32)).bind fun x8 =>
              some (x8, h1)
            ) else (
              if l1 = (6 : Int32) then (
                (rI tb h1 (lay tb l0 61) (0 : Int32)).bind fun x10 =>
                some (x10, h1)
              ) else (
                if l1 = (7 : Int32) then (
                  (rI tb h1 (lay tb l0 62) (0 : Int32)).bind fun x12 =>
                  some (x12, h1)
                ) else (
                  if l1 = (8 : Int32) then (
                    (f_Md_onMany tb h1 l0 (0 : Int32)).bind fun r14 =>
                    some (r14, h1)
                  ) else (
                    if l1 = (9 : Int32) then (
                      lp_Md_count_134 tb fu h1 l0 (0 : Int32) (0 : Int32)
                    ) else (
                      if l1 = (10 : Int32) then (
                        (rI tb h1 (lay tb l0 63) (0 : Int32)).bind fun x17 =>
                        some (x17, h1)
                      ) else (
                        if l1 = (11 : Int32) then (
                          some (h1.1 l0 74, h1)
                        ) else (
                          if l1 = (12 : Int32) then (
                            nmd (f_Md_knownBy tb h1 l0) fun r20 =>
                            some (r20, h1)
                          ) else (
                            if l1 = (13 : Int32) then (
                              some (h1.1 l0 78, h1)
                            ) else (
                              some ((-1 : Int32), h1)
                            )
                          )
                        )
                      )
                    )
                  )
                )
              )
            )
          )
        )
      )
    )
  )
set_option maxRecDepth 4000 in
set_option maxHeartbeats 1000000 in
theorem vlp_Md_count_134 {E : En} {g : Gl} {tb : Tb} {ρ : Nat → Nat} (ok : TbOK tb) (hi : inj tb ρ) {r : Int32 × Hp} (X : CX E g tb ρ prog_14_method_119_code 4 RC12 1 23) (Y : CQ E g tb ρ (some .int) (some (.int r.1)) r.2) : ∀ (n : Nat) (h : Hp) (l0 : Nat) (l2 : Int32) (l3 : Int32) (kl0 : kd tb l0 = 12), lp_Md_count_134 tb n h l0 l2 l3 = some r → V E g tb ρ 4 134 [(0, .ref (ρ l0)), (2, .int l2), (3, .int l3)] [] h := by
  intro n
  induction n with
  | zero =>
    intro h l0 l2 l3 kl0 hf
    rw [lp_Md_count_134] at hf
    cases hf
  | succ n ih =>
    intro h l0 l2 l3 kl0 hf
    rw [lp_Md_count_134] at hf
    refine v_iload_n (pc := 134) (k := 3) X (by decide +kernel) 2 rfl ?_
    refine v_aload_n (pc := 135) (k := 0) X (by decide +kernel) 0 rfl ?_
    refine v_geti (pc := 136) X fl_12_243 kl0 rfl (by decide +kernel) ?_
    refine v_icmp_ge (pc := 139) (off := 18) (tgt := 157) X (by decide +kernel) (by decide) (fun q4 => ?_) (fun q4 => ?_)
    · rw [if_pos q4] at hf
      refine v_iload_n (pc := 157) (k := 2) X (by decide +kernel) 1 rfl ?_
      cases hf
      exact v_iret X Y (by decide +kernel) rfl rfl
    · rw [if_neg q4] at hf
      refine v_iload_n (pc := 142) (k := 2) X (by decide +kernel) 1 rfl ?_
      refine v_aload_n (pc := 143) (k := 0) X (by decide +kernel) 0 rfl ?_
      refine v_geta (pc := 144) X fl_12_112 kl0 fk_12_60 (by decide +kernel) ?_
      refine v_iload_n (pc := 147) (k := 3) X (by decide +kernel) 2 rfl ?_
      obtain ⟨x1, ex1, hf⟩ := bnd_e hf
      refine v_iald (pc := 148) X (ly_12_60 ok kl0) ex1 (by decide +kernel) ?_
      refine v_iadd (pc := 149) X (by decide +kernel) ?_
      obtain ⟨x2, ex2, hf⟩ := nmd_e hf
      refine v_nmi ex2 ?_
      refine v_istore_n (pc := 150) (k := 2) (lv' := [(2, .int x2), (0, .ref (ρ l0)), (3, .int l3)]) X (by decide +kernel) (Nat.le_of_ble_eq_true rfl) rfl ?_
      obtain ⟨x3, ex3, hf⟩ := nmd_e hf
      refine v_iinc (pc := 151) (k := 3) (n := 1) (v := x3) (lv' := [(3, .int x3), (2, .int x2), (0, .ref (ρ l0))]) X (by decide +kernel) 2 rfl (by rw [ic_1, ex3]) (Nat.le_of_ble_eq_true rfl) rfl ?_
      refine v_goto (pc := 154) (off := -20) (tgt := 134) X (by decide +kernel) (by decide) ?_
      refine v_sub [2, 1, 0] rfl ?_
      exact ih h l0 x2 x3 kl0 hf
set_option maxRecDepth 4000 in
set_option maxHeartbeats 1000000 in
theorem mt_Md_count {g : Gl} {tb : Tb} {ρ : Nat → Nat} (ok : TbOK tb) (hi : inj tb ρ) {h : Hp} {l0 : Nat} {l1 : Int32} (kl0 : kd tb l0 = 12) {r : Int32 × Hp} (hf : f_Md_count tb h l0 l1 = some r) : MT g y_Md_count prog_14_method_119_code 4 (some .int) 1 23 tb ρ [.ref (ρ l0), .int l1] h (some (.int r.1)) r.2 := by
  refine mt_intro (by decide +kernel) ok hi (Nat.le_of_ble_eq_true rfl) (fun E X Y => ?_)
  change V E g tb ρ 4 0 [(0, .ref (ρ l0)), (1, .int l1)] [] h
  unfold f_Md_count at hf
  refine v_aload_n (pc := 0) (k := 0) X (by decide +kernel) 0 rfl ?_
  refine v_iconst (pc := 1) (n := 0) X (by decide +kernel) ic_0 ?_
  obtain ⟨h1, eh1, hf⟩ := nmd_e hf
  refine v_puti (pc := 2) X fp_12_160 kl0 rfl (by decide +kernel) eh1 ?_
  refine v_iconst (pc := 5) (n := 0) X (by decide +kernel) ic_0 ?_
  refine v_istore_n (pc := 6) (k := 2) (lv' := [(2, .int (0 : Int32)), (0, .ref (ρ l0)), (1, .int l1)]) X (by decide +kernel) (Nat.le_of_ble_eq_true rfl) rfl ?_
  refine v_iload_n (pc := 7) (k := 1) X (by decide +kernel) 2 rfl ?_
  by_cases q2 : l1 = (0 : Int32)
  · rw [if_pos q2] at hf
    refine v_tin (pc := 8) (off := 72) (tgt := 80) X (show decode prog_14_method_119_code 8 = .ok (.tableswitch 173 0 13 #[72, 77, 82, 87, 92, 97, 104, 111, 118, 124, 151, 158, 163, 168], 72) from by decide +kernel) q2 (by decide) (by decide) (by decide) (by decide) ?_
    refine v_aload_n (pc := 80) (k := 0) X (by decide +kernel) 1 rfl ?_
    refine v_geti (pc := 81) X fl_12_243 kl0 rfl (by decide +kernel) ?_
    cases hf
    exact v_iret X Y (by decide +kernel) rfl rfl
  · rw [if_neg q2] at hf
    by_cases q3 : l1 = (1 : Int32)
    · rw [if_pos q3] at hf
      refine v_tin (pc := 8) (off := 77) (tgt := 85) X (show decode prog_14_method_119_code 8 = .ok (.tableswitch 173 0 13 #[72, 77, 82, 87, 92, 97, 104, 111, 118, 124, 151, 158, 163, 168], 72) from by decide +kernel) q3 (by decide) (by decide) (by decide) (by decide) ?_
      refine v_aload_n (pc := 85) (k := 0) X (by decide +kernel) 1 rfl ?_
      refine v_geti (pc := 86) X fl_12_246 kl0 rfl (by decide +kernel) ?_
      cases hf
      exact v_iret X Y (by decide +kernel) rfl rfl
    · rw [if_neg q3] at hf
      by_cases q4 : l1 = (2 : Int32)
      · rw [if_pos q4] at hf
        refine v_tin (pc := 8) (off := 82) (tgt := 90) X (show decode prog_14_method_119_code 8 = .ok (.tableswitch 173 0 13 #[72, 77, 82, 87, 92, 97, 104, 111, 118, 124, 151, 158, 163, 168], 72) from by decide +kernel) q4 (by decide) (by decide) (by decide) (by decide) ?_
        refine v_aload_n (pc := 90) (k := 0) X (by decide +kernel) 1 rfl ?_
        refine v_geti (pc := 91) X fl_12_249 kl0 rfl (by decide +kernel) ?_
        cases hf
        exact v_iret X Y (by decide +kernel) rfl rfl
      · rw [if_neg q4] at hf
        by_cases q5 : l1 = (3 : Int32)
        · rw [if_pos q5] at hf
          refine v_tin (pc := 8) (off := 87) (tgt := 95) X (show decode prog_14_method_119_code 8 = .ok (.tableswitch 173 0 13 #[72, 77, 82, 87, 92, 97, 104, 111, 118, 124, 151, 158, 163, 168], 72) from by decide +kernel) q5 (by decide) (by decide) (by decide) (by decide) ?_
          refine v_aload_n (pc := 95) (k := 0) X (by decide +kernel) 1 rfl ?_
          refine v_geti (pc := 96) X fl_12_252 kl0 rfl (by decide +kernel) ?_
          cases hf
          exact v_iret X Y (by decide +kernel) rfl rfl
        · rw [if_neg q5] at hf
          by_cases q6 : l1 = (4 : Int32)
          · rw [if_pos q6] at hf
            refine v_tin (pc := 8) (off := 92) (tgt := 100) X (show decode prog_14_method_119_code 8 = .ok (.tableswitch 173 0 13 #[72, 77, 82, 87, 92, 97, 104, 111, 118, 124, 151, 158, 163, 168], 72) from by decide +kernel) q6 (by decide) (by decide) (by decide) (by decide) ?_
            refine v_aload_n (pc := 100) (k := 0) X (by decide +kernel) 1 rfl ?_
            refine v_geti (pc := 101) X fl_12_255 kl0 rfl (by decide +kernel) ?_
            cases hf
            exact v_iret X Y (by decide +kernel) rfl rfl
          · rw [if_neg q6] at hf
            by_cases q7 : l1 = (5 : Int32)
            · rw [if_pos q7] at hf
              refine v_tin (pc := 8) (off := 97) (tgt := 105) X (show decode prog_14_method_119_code 8 = .ok (.tableswitch 173 0 13 #[72, 77, 82, 87, 92, 97, 104, 111, 118, 124, 151, 158, 163, 168], 72) from by decide +kernel) q7 (by decide) (by decide) (by decide) (by decide) ?_
              refine v_aload_n (pc := 105) (k := 0) X (by decide +kernel) 1 rfl ?_
              refine v_geta (pc := 106) X fl_12_124 kl0 fk_12_64 (by decide +kernel) ?_
              refine v_iconst (pc := 109) (n := 0) X (by decide +kernel) ic_0 ?_
              obtain ⟨x8, ex8, hf⟩ := bnd_e hf
              refine v_iald (pc := 110) X (ly_12_64 ok kl0) ex8 (by decide +kernel) ?_
              cases hf
              exact v_iret X Y (by decide +kernel) rfl rfl
            · rw [if_neg q7] at hf
              by_cases q9 : l1 = (6 : Int32)
              · rw [if_pos q9] at hf
                refine v_tin (pc := 8) (off := 104) (tgt := 112) X (show decode prog_14_method_119_code 8 = .ok (.tableswitch 173 0 13 #[72, 77, 82, 87, 92, 97, 104, 111, 118, 124, 151, 158, 163, 168], 72) from by decide +kernel) q9 (by decide) (by decide) (by decide) (by decide) ?_
                refine v_aload_n (pc := 112) (k := 0) X (by decide +kernel) 1 rfl ?_
                refine v_geta (pc := 113) X fl_12_115 kl0 fk_12_61 (by decide +kernel) ?_
                refine v_iconst (pc := 116) (n := 0) X (by decide +kernel) ic_0 ?_
                obtain ⟨x10, ex10, hf⟩ := bnd_e hf
                refine v_iald (pc := 117) X (ly_12_61 ok kl0) ex10 (by decide +kernel) ?_
                cases hf
                exact v_iret X Y (by decide +kernel) rfl rfl
              · rw [if_neg q9] at hf
                by_cases q11 : l1 = (7 : Int32)
                · rw [if_pos q11] at hf
                  refine v_tin (pc := 8) (off := 111) (tgt := 119) X (show decode prog_14_method_119_code 8 = .ok (.tableswitch 173 0 13 #[72, 77, 82, 87, 92, 97, 104, 111, 118, 124, 151, 158, 163, 168], 72) from by decide +kernel) q11 (by decide) (by decide) (by decide) (by decide) ?_
                  refine v_aload_n (pc := 119) (k := 0) X (by decide +kernel) 1 rfl ?_
                  refine v_geta (pc := 120) X fl_12_118 kl0 fk_12_62 (by decide +kernel) ?_
                  refine v_iconst (pc := 123) (n := 0) X (by decide +kernel) ic_0 ?_
                  obtain ⟨x12, ex12, hf⟩ := bnd_e hf
                  refine v_iald (pc := 124) X (ly_12_62 ok kl0) ex12 (by decide +kernel) ?_
                  cases hf
                  exact v_iret X Y (by decide +kernel) rfl rfl
                · rw [if_neg q11] at hf
                  by_cases q13 : l1 = (8 : Int32)
                  · rw [if_pos q13] at hf
                    refine v_tin (pc := 8) (off := 118) (tgt := 126) X (show decode prog_14_method_119_code 8 = .ok (.tableswitch 173 0 13 #[72, 77, 82, 87, 92, 97, 104, 111, 118, 124, 151, 158, 163, 168], 72) from by decide +kernel) q13 (by decide) (by decide) (by decide) (by decide) ?_
                    refine v_aload_n (pc := 126) (k := 0) X (by decide +kernel) 1 rfl ?_
                    refine v_iconst (pc := 127) (n := 0) X (by decide +kernel) ic_0 ?_
                    obtain ⟨r14, er14, hf⟩ := bnd_e hf
                    refine v_callV (pc := 128) (As := [.int (0 : Int32)]) (rest := []) X (mt_Md_onMany ok hi kl0 er14) ml_12_479 mv_Md_onMany kl0 cls_12 rfl ⟨Nat.le_of_ble_eq_true rfl, Nat.le_of_ble_eq_true rfl⟩ rfl rfl (Nat.le_of_ble_eq_true rfl) (by decide +kernel) ?_
                    change V E g tb ρ 4 131 [(2, .int (0 : Int32)), (0, .ref (ρ l0)), (1, .int l1)] [.int r14] h1
                    cases hf
                    exact v_iret X Y (by decide +kernel) rfl rfl
                  · rw [if_neg q13] at hf
                    by_cases q15 : l1 = (9 : Int32)
                    · rw [if_pos q15] at hf
                      refine v_tin (pc := 8) (off := 124) (tgt := 132) X (show decode prog_14_method_119_code 8 = .ok (.tableswitch 173 0 13 #[72, 77, 82, 87, 92, 97, 104, 111, 118, 124, 151, 158, 163, 168], 72) from by decide +kernel) q15 (by decide) (by decide) (by decide) (by decide) ?_
                      refine v_iconst (pc := 132) (n := 0) X (by decide +kernel) ic_0 ?_
                      refine v_istore_n (pc := 133) (k := 3) (lv' := [(3, .int (0 : Int32)), (2, .int (0 : Int32)), (0, .ref (ρ l0)), (1, .int l1)]) X (by decide +kernel) (Nat.le_of_ble_eq_true rfl) rfl ?_
                      refine v_sub [2, 1, 0] rfl ?_
                      exact vlp_Md_count_134 ok hi X Y fu h1 l0 (0 : Int32) (0 : Int32) kl0 hf
                    · rw [if_neg q15] at hf
                      by_cases q16 : l1 = (10 : Int32)
                      · rw [if_pos q16] at hf
                        refine v_tin (pc := 8) (off := 151) (tgt := 159) X (show decode prog_14_method_119_code 8 = .ok (.tableswitch 173 0 13 #[72, 77, 82, 87, 92, 97, 104, 111, 118, 124, 151, 158, 163, 168], 72) from by decide +kernel) q16 (by decide) (by decide) (by decide) (by decide) ?_
                        refine v_aload_n (pc := 159) (k := 0) X (by decide +kernel) 1 rfl ?_
                        refine v_geta (pc := 160) X fl_12_121 kl0 fk_12_63 (by decide +kernel) ?_
                        refine v_iconst (pc := 163) (n := 0) X (by decide +kernel) ic_0 ?_
                        obtain ⟨x17, ex17, hf⟩ := bnd_e hf
                        refine v_iald (pc := 164) X (ly_12_63 ok kl0) ex17 (by decide +kernel) ?_
                        cases hf
                        exact v_iret X Y (by decide +kernel) rfl rfl
                      · rw [if_neg q16] at hf
                        by_cases q18 : l1 = (11 : Int32)
                        · rw [if_pos q18] at hf
                          refine v_tin (pc := 8) (off := 158) (tgt := 166) X (show decode prog_14_method_119_code 8 = .ok (.tableswitch 173 0 13 #[72, 77, 82, 87, 92, 97, 104, 111, 118, 124, 151, 158, 163, 168], 72) from by decide +kernel) q18 (by decide) (by decide) (by decide) (by decide) ?_
                          refine v_aload_n (pc := 166) (k := 0) X (by decide +kernel) 1 rfl ?_
                          refine v_geti (pc := 167) X fl_12_377 kl0 rfl (by decide +kernel) ?_
                          cases hf
                          exact v_iret X Y (by decide +kernel) rfl rfl
                        · rw [if_neg q18] at hf
                          by_cases q19 : l1 = (12 : Int32)
                          · rw [if_pos q19] at hf
                            refine v_tin (pc := 8) (off := 163) (tgt := 171) X (show decode prog_14_method_119_code 8 = .ok (.tableswitch 173 0 13 #[72, 77, 82, 87, 92, 97, 104, 111, 118, 124, 151, 158, 163, 168], 72) from by decide +kernel) q19 (by decide) (by decide) (by decide) (by decide) ?_
                            refine v_aload_n (pc := 171) (k := 0) X (by decide +kernel) 1 rfl ?_
                            obtain ⟨r20, er20, hf⟩ := nmd_e hf
                            refine v_callV (pc := 172) (As := []) (rest := []) X (mt_Md_knownBy ok hi kl0 er20.symm) ml_12_511 mv_Md_knownBy kl0 cls_12 rfl ⟨Nat.le_of_ble_eq_true rfl, Nat.le_of_ble_eq_true rfl⟩ rfl rfl (Nat.le_of_ble_eq_true rfl) (by decide +kernel) ?_
                            change V E g tb ρ 4 175 [(2, .int (0 : Int32)), (0, .ref (ρ l0)), (1, .int l1)] [.int r20] h1
                            cases hf
                            exact v_iret X Y (by decide +kernel) rfl rfl
                          · rw [if_neg q19] at hf
                            by_cases q21 : l1 = (13 : Int32)
                            · rw [if_pos q21] at hf
                              refine v_tin (pc := 8) (off := 168) (tgt := 176) X (show decode prog_14_method_119_code 8 = .ok (.tableswitch 173 0 13 #[72, 77, 82, 87, 92, 97, 104, 111, 118, 124, 151, 158, 163, 168], 72) from by decide +kernel) q21 (by decide) (by decide) (by decide) (by decide) ?_
                              refine v_aload_n (pc := 176) (k := 0) X (by decide +kernel) 1 rfl ?_
                              refine v_geti (pc := 177) X fl_12_380 kl0 rfl (by decide +kernel) ?_
                              cases hf
                              exact v_iret X Y (by decide +kernel) rfl rfl
                            · rw [if_neg q21] at hf
                              refine v_tout (pc := 8) (tgt := 181) X (show decode prog_14_method_119_code 8 = .ok (.tableswitch 173 0 13 #[72, 77, 82, 87, 92, 97, 104, 111, 118, 124, 151, 158, 163, 168], 72) from by decide +kernel) (t_out (lo := 0) (hi := 13) [(0 : Int32), (1 : Int32), (2 : Int32), (3 : Int32), (4 : Int32), (5 : Int32), (6 : Int32), (7 : Int32), (8 : Int32), (9 : Int32), (10 : Int32), (11 : Int32), (12 : Int32), (13 : Int32)] (by decide) (List.forall_mem_cons.mpr ⟨q2, List.forall_mem_cons.mpr ⟨q3, List.forall_mem_cons.mpr ⟨q4, List.forall_mem_cons.mpr ⟨q5, List.forall_mem_cons.mpr ⟨q6, List.forall_mem_cons.mpr ⟨q7, List.forall_mem_cons.mpr ⟨q9, List.forall_mem_cons.mpr ⟨q11, List.forall_mem_cons.mpr ⟨q13, List.forall_mem_cons.mpr ⟨q15, List.forall_mem_cons.mpr ⟨q16, List.forall_mem_cons.mpr ⟨q18, List.forall_mem_cons.mpr ⟨q19, List.forall_mem_cons.mpr ⟨q21, fun _ h => absurd h List.not_mem_nil⟩⟩⟩⟩⟩⟩⟩⟩⟩⟩⟩⟩⟩⟩)) (by decide) ?_
                              refine v_iconst (pc := 181) (n := -1) X (by decide +kernel) ic_m1 ?_
                              cases hf
                              exact v_iret X Y (by decide +kernel) rfl rfl
