def lp_Ar_fill_5 (tb : Tb) : Nat → Hp → Nat → Int32 → Int32 → Int32 → Option (Hp)
  | 0, _, _, _, _, _ => none
  | n + 1, h, l0, l1, l2, l3 =>
    if l3 ≤ l2 then (
      some h
    ) else (
      (wI tb h l0 l2 l1).bind fun h1 =>
      nmd (l2 + (1 : Int32)) fun x2 =>
      lp_Ar_fill_5 tb n h1 l0 l1 x2 l3
    )
def f_Ar_fill (tb : Tb) (h : Hp) (l0 : Nat) (l1 : Int32) : Option (Hp) :=
  nmd (Int32.ofNat (al tb l0)) fun x1 =>
  lp_Ar_fill_5 tb fu h l0 l1 (0 : Int32) x1
set_option maxRecDepth 4000 in
set_option maxHeartbeats 1000000 in
theorem vlp_Ar_fill_5 {E : En} {g : Gl} {tb : Tb} {ρ : Nat → Nat} (ok : TbOK tb) (hi : inj tb ρ) {r : Hp} (X : CX E g tb ρ prog_30_method_103_code 4 "java/util/Arrays" 0 0) (Y : CQ E g tb ρ none (none) r) : ∀ (n : Nat) (h : Hp) (l0 : Nat) (l1 : Int32) (l2 : Int32) (l3 : Int32) (kl0 : kd tb l0 = 20), lp_Ar_fill_5 tb n h l0 l1 l2 l3 = some r → V E g tb ρ 4 5 [(0, .ref (ρ l0)), (1, .int l1), (2, .int l2), (3, .int l3)] [] h := by
  intro n
  induction n with
  | zero =>
    intro h l0 l1 l2 l3 kl0 hf
    rw [lp_Ar_fill_5] at hf
    cases hf
  | succ n ih =>
    intro h l0 l1 l2 l3 kl0 hf
    rw [lp_Ar_fill_5] at hf
    refine v_iload_n (pc := 5) (k := 2) X (by decide +kernel) 2 rfl ?_
    refine v_iload_n (pc := 6) (k := 3) X (by decide +kernel) 3 rfl ?_
    refine v_icmp_ge (pc := 7) (off := 13) (tgt := 20) X (by decide +kernel) (by decide) (fun q3 => ?_) (fun q3 => ?_)
    · rw [if_pos q3] at hf
      cases hf
      exact v_vret X Y (by decide +kernel) rfl rfl
    · rw [if_neg q3] at hf
      refine v_aload_n (pc := 10) (k := 0) X (by decide +kernel) 0 rfl ?_
      refine v_iload_n (pc := 11) (k := 2) X (by decide +kernel) 2 rfl ?_
      refine v_iload_n (pc := 12) (k := 1) X (by decide +kernel) 1 rfl ?_
      obtain ⟨h1, eh1, hf⟩ := bnd_e hf
      refine v_iast (pc := 13) X kl0 eh1 (by decide +kernel) ?_
      obtain ⟨x2, ex2, hf⟩ := nmd_e hf
      refine v_iinc (pc := 14) (k := 2) (n := 1) (v := x2) (lv' := [(2, .int x2), (0, .ref (ρ l0)), (1, .int l1), (3, .int l3)]) X (by decide +kernel) 2 rfl (by rw [ic_1, ex2]) (Nat.le_of_ble_eq_true rfl) rfl ?_
      refine v_goto (pc := 17) (off := -12) (tgt := 5) X (by decide +kernel) (by decide) ?_
      refine v_sub [1, 2, 0, 3] rfl ?_
      exact ih h1 l0 l1 x2 l3 kl0 hf
set_option maxRecDepth 4000 in
set_option maxHeartbeats 1000000 in
theorem mt_Ar_fill {g : Gl} {tb : Tb} {ρ : Nat → Nat} (ok : TbOK tb) (hi : inj tb ρ) {h : Hp} {l0 : Nat} {l1 : Int32} (kl0 : kd tb l0 = 20) {r : Hp} (hf : f_Ar_fill tb h l0 l1 = some r) : MT g y_Ar_fill prog_30_method_103_code 4 none 0 0 tb ρ [.ref (ρ l0), .int l1] h (none) r := by
  refine mt_intro (by decide +kernel) ok hi (Nat.le_of_ble_eq_true rfl) (fun E X Y => ?_)
  change V E g tb ρ 4 0 [(0, .ref (ρ l0)), (1, .int l1)] [] h
  unfold f_Ar_fill at hf
  refine v_iconst (pc := 0) (n := 0) X (by decide +kernel) ic_0 ?_
  refine v_istore_n (pc := 1) (k := 2) (lv' := [(2, .int (0 : Int32)), (0, .ref (ρ l0)), (1, .int l1)]) X (by decide +kernel) (Nat.le_of_ble_eq_true rfl) rfl ?_
  refine v_aload_n (pc := 2) (k := 0) X (by decide +kernel) 1 rfl ?_
  refine v_alen (pc := 3) X (by rw [kl0]; decide) (by decide +kernel) ?_
  obtain ⟨x1, ex1, hf⟩ := nmd_e hf
  refine v_nmi ex1 ?_
  refine v_istore_n (pc := 4) (k := 3) (lv' := [(3, .int x1), (2, .int (0 : Int32)), (0, .ref (ρ l0)), (1, .int l1)]) X (by decide +kernel) (Nat.le_of_ble_eq_true rfl) rfl ?_
  refine v_sub [2, 3, 1, 0] rfl ?_
  exact vlp_Ar_fill_5 ok hi X Y fu h l0 l1 (0 : Int32) x1 kl0 hf
def f_Tt_copy (tb : Tb) (h : Hp) (l0 : Nat) (l1 : Nat) : Option (Hp) :=
  (cpI tb h l0 (0 : Int32) l1 (0 : Int32) (mnI (Int32.ofNat (al tb l0)) (Int32.ofNat (al tb l1)))).bind fun h1 =>
  some h1
set_option maxRecDepth 4000 in
set_option maxHeartbeats 1000000 in
theorem mt_Tt_copy {g : Gl} {tb : Tb} {ρ : Nat → Nat} (ok : TbOK tb) (hi : inj tb ρ) {h : Hp} {l0 : Nat} {l1 : Nat} (kl0 : kd tb l0 = 20) (kl1 : kd tb l1 = 20) {r : Hp} (hf : f_Tt_copy tb h l0 l1 = some r) : MT g y_Tt_copy prog_1_method_50_code 2 none 1 18 tb ρ [.ref (ρ l0), .ref (ρ l1)] h (none) r := by
  refine mt_intro (by decide +kernel) ok hi (Nat.le_of_ble_eq_true rfl) (fun E X Y => ?_)
  change V E g tb ρ 2 0 [(0, .ref (ρ l0)), (1, .ref (ρ l1))] [] h
  unfold f_Tt_copy at hf
  refine v_aload_n (pc := 0) (k := 0) X (by decide +kernel) 0 rfl ?_
  refine v_iconst (pc := 1) (n := 0) X (by decide +kernel) ic_0 ?_
  refine v_aload_n (pc := 2) (k := 1) X (by decide +kernel) 1 rfl ?_
  refine v_iconst (pc := 3) (n := 0) X (by decide +kernel) ic_0 ?_
  refine v_aload_n (pc := 4) (k := 0) X (by decide +kernel) 0 rfl ?_
  refine v_alen (pc := 5) X (by rw [kl0]; decide) (by decide +kernel) ?_
  refine v_aload_n (pc := 6) (k := 1) X (by decide +kernel) 1 rfl ?_
  refine v_alen (pc := 7) X (by rw [kl1]; decide) (by decide +kernel) ?_
  refine v_mmin (pc := 8) X mm_0_201 ms_mmin mc_mmin mi_math ⟨Nat.le_of_ble_eq_true rfl, Nat.le_of_ble_eq_true rfl⟩ (by decide +kernel) ?_
  obtain ⟨h1, eh1, hf⟩ := bnd_e hf
  refine v_copy (pc := 11) X kl0 kl1 eh1 ma_0_363 mn_copy ms_copy mi_sys ⟨Nat.le_of_ble_eq_true rfl, Nat.le_of_ble_eq_true rfl⟩ (by decide +kernel) ?_
  cases hf
  exact v_vret X Y (by decide +kernel) rfl rfl
def f_Wo_begin (tb : Tb) (h : Hp) (l0 : Nat) (l1 : Nat) : Option (Hp) :=
  nmd (pI h l0 0 (0 : Int32)) fun h1 =>
  nmd (pL h1 l0 1 ((h1.1 l1 2).toInt64)) fun h2 =>
  nmd (pI h2 l0 2 (((1 : Int32) <<< ((h2.1 l1 4) &&& 31)) - (1 : Int32))) fun h3 =>
  nmd (pI h3 l0 3 (0 : Int32)) fun h4 =>
  nmd (pI h4 l0 4 (0 : Int32)) fun h5 =>
  nmd (pI h5 l0 5 (0 : Int32)) fun h6 =>
  nmd (pI h6 l0 6 (0 : Int32)) fun h7 =>
  nmd (pI h7 l0 7 (0 : Int32)) fun h8 =>
  nmd (pI h8 l0 8 (-1 : Int32)) fun h9 =>
  (f_Tt_copy tb h9 (lay tb l1 13) (lay tb l0 9)).bind fun r10 =>
  (f_Tt_copy tb r10 (lay tb l1 14) (lay tb l0 10)).bind fun r11 =>
  (f_Ar_fill tb r11 (lay tb l0 11) (0 : Int32)).bind fun r12 =>
  (f_Ar_fill tb r12 (lay tb l0 12) (-2 : Int32)).bind fun r13 =>
  (f_Ar_fill tb r13 (lay tb l0 13) (0 : Int32)).bind fun r14 =>
  (f_Tt_copy tb r14 (lay tb l1 8) (lay tb l0 14)).bind fun r15 =>
  some r15
set_option maxRecDepth 4000 in
set_option maxHeartbeats 1000000 in
theorem mt_Wo_begin {g : Gl} {tb : Tb} {ρ : Nat → Nat} (ok : TbOK tb) (hi : inj tb ρ) {h : Hp} {l0 : Nat} {l1 : Nat} (kl0 : kd tb l0 = 11) (kl1 : kd tb l1 = 7) {r : Hp} (hf : f_Wo_begin tb h l0 l1 = some r) : MT g y_Wo_begin prog_12_method_2_code 2 none 2 39 tb ρ [.ref (ρ l0), .ref (ρ l1)] h (none) r := by
  refine mt_intro (by decide +kernel) ok hi (Nat.le_of_ble_eq_true rfl) (fun E X Y => ?_)
  change V E g tb ρ 2 0 [(0, .ref (ρ l0)), (1, .ref (ρ l1))] [] h
  unfold f_Wo_begin at hf
  refine v_aload_n (pc := 0) (k := 0) X (by decide +kernel) 0 rfl ?_
  refine v_iconst (pc := 1) (n := 0) X (by decide +kernel) ic_0 ?_
  obtain ⟨h1, eh1, hf⟩ := nmd_e hf
  refine v_puti (pc := 2) X fp_11_30 kl0 rfl (by decide +kernel) eh1 ?_
  refine v_aload_n (pc := 5) (k := 0) X (by decide +kernel) 0 rfl ?_
  refine v_aload_n (pc := 6) (k := 1) X (by decide +kernel) 1 rfl ?_
  refine v_geti (pc := 7) X fl_11_34 kl1 rfl (by decide +kernel) ?_
  refine v_i2l (pc := 10) X (by decide +kernel) ?_
  obtain ⟨h2, eh2, hf⟩ := nmd_e hf
  refine v_putl (pc := 11) X fp_11_39 kl0 rfl (by decide +kernel) eh2 ?_
  refine v_aload_n (pc := 14) (k := 0) X (by decide +kernel) 0 rfl ?_
  refine v_iconst (pc := 15) (n := 1) X (by decide +kernel) ic_1 ?_
  refine v_aload_n (pc := 16) (k := 1) X (by decide +kernel) 1 rfl ?_
  refine v_geti (pc := 17) X fl_11_43 kl1 rfl (by decide +kernel) ?_
  refine v_ishl (pc := 20) X (by decide +kernel) ?_
  refine v_iconst (pc := 21) (n := 1) X (by decide +kernel) ic_1 ?_
  refine v_isub (pc := 22) X (by decide +kernel) ?_
  obtain ⟨h3, eh3, hf⟩ := nmd_e hf
  refine v_puti (pc := 23) X fp_11_46 kl0 rfl (by decide +kernel) eh3 ?_
  refine v_aload_n (pc := 26) (k := 0) X (by decide +kernel) 0 rfl ?_
  refine v_iconst (pc := 27) (n := 0) X (by decide +kernel) ic_0 ?_
  obtain ⟨h4, eh4, hf⟩ := nmd_e hf
  refine v_puti (pc := 28) X fp_11_49 kl0 rfl (by decide +kernel) eh4 ?_
  refine v_aload_n (pc := 31) (k := 0) X (by decide +kernel) 0 rfl ?_
  refine v_iconst (pc := 32) (n := 0) X (by decide +kernel) ic_0 ?_
  obtain ⟨h5, eh5, hf⟩ := nmd_e hf
  refine v_puti (pc := 33) X fp_11_52 kl0 rfl (by decide +kernel) eh5 ?_
  refine v_aload_n (pc := 36) (k := 0) X (by decide +kernel) 0 rfl ?_
  refine v_iconst (pc := 37) (n := 0) X (by decide +kernel) ic_0 ?_
  obtain ⟨h6, eh6, hf⟩ := nmd_e hf
  refine v_puti (pc := 38) X fp_11_55 kl0 rfl (by decide +kernel) eh6 ?_
  refine v_aload_n (pc := 41) (k := 0) X (by decide +kernel) 0 rfl ?_
  refine v_iconst (pc := 42) (n := 0) X (by decide +kernel) ic_0 ?_
  obtain ⟨h7, eh7, hf⟩ := nmd_e hf
  refine v_puti (pc := 43) X fp_11_58 kl0 rfl (by decide +kernel) eh7 ?_
  refine v_aload_n (pc := 46) (k := 0) X (by decide +kernel) 0 rfl ?_
  refine v_iconst (pc := 47) (n := 0) X (by decide +kernel) ic_0 ?_
  obtain ⟨h8, eh8, hf⟩ := nmd_e hf
  refine v_puti (pc := 48) X fp_11_61 kl0 rfl (by decide +kernel) eh8 ?_
  refine v_aload_n (pc := 51) (k := 0) X (by decide +kernel) 0 rfl ?_
  refine v_iconst (pc := 52) (n := -1) X (by decide +kernel) ic_m1 ?_
  obtain ⟨h9, eh9, hf⟩ := nmd_e hf
  refine v_puti (pc := 53) X fp_11_64 kl0 rfl (by decide +kernel) eh9 ?_
  refine v_aload_n (pc := 56) (k := 1) X (by decide +kernel) 1 rfl ?_
  refine v_geta (pc := 57) X fl_11_67 kl1 fk_7_13 (by decide +kernel) ?_
  refine v_aload_n (pc := 60) (k := 0) X (by decide +kernel) 0 rfl ?_
  refine v_geta (pc := 61) X fl_11_9 kl0 fk_11_9 (by decide +kernel) ?_
  obtain ⟨r10, er10, hf⟩ := bnd_e hf
  refine v_callSN (pc := 64) (As := [.ref (ρ (lay tb l1 13)), .ref (ρ (lay tb l0 9))]) (rest := []) X (mt_Tt_copy ok hi (ly_7_13 ok kl1) (ly_11_9 ok kl0) er10) ml_11_70 ms_Tt_copy ⟨Nat.le_of_ble_eq_true rfl, Nat.le_of_ble_eq_true rfl⟩ rfl rfl (Nat.le_of_ble_eq_true rfl) (by decide +kernel) ?_
  change V E g tb ρ 2 67 [(0, .ref (ρ l0)), (1, .ref (ρ l1))] [] r10
  refine v_aload_n (pc := 67) (k := 1) X (by decide +kernel) 1 rfl ?_
  refine v_geta (pc := 68) X fl_11_74 kl1 fk_7_14 (by decide +kernel) ?_
  refine v_aload_n (pc := 71) (k := 0) X (by decide +kernel) 0 rfl ?_
  refine v_geta (pc := 72) X fl_11_15 kl0 fk_11_10 (by decide +kernel) ?_
  obtain ⟨r11, er11, hf⟩ := bnd_e hf
  refine v_callSN (pc := 75) (As := [.ref (ρ (lay tb l1 14)), .ref (ρ (lay tb l0 10))]) (rest := []) X (mt_Tt_copy ok hi (ly_7_14 ok kl1) (ly_11_10 ok kl0) er11) ml_11_70 ms_Tt_copy ⟨Nat.le_of_ble_eq_true rfl, Nat.le_of_ble_eq_true rfl⟩ rfl rfl (Nat.le_of_ble_eq_true rfl) (by decide +kernel) ?_
  change V E g tb ρ 2 78 [(0, .ref (ρ l0)), (1, .ref (ρ l1))] [] r11
  refine v_aload_n (pc := 78) (k := 0) X (by decide +kernel) 0 rfl ?_
  refine v_geta (pc := 79) X fl_11_18 kl0 fk_11_11 (by decide +kernel) ?_
  refine v_iconst (pc := 82) (n := 0) X (by decide +kernel) ic_0 ?_
  obtain ⟨r12, er12, hf⟩ := bnd_e hf
  refine v_callS (pc := 83) (As := [.ref (ρ (lay tb l0 11)), .int (0 : Int32)]) (rest := []) X (mt_Ar_fill ok hi (ly_11_11 ok kl0) er12) ml_11_77 ms_Ar_fill ⟨Nat.le_of_ble_eq_true rfl, Nat.le_of_ble_eq_true rfl⟩ rfl rfl (Nat.le_of_ble_eq_true rfl) (by decide +kernel) ?_
  change V E g tb ρ 2 86 [(0, .ref (ρ l0)), (1, .ref (ρ l1))] [] r12
  refine v_aload_n (pc := 86) (k := 0) X (by decide +kernel) 0 rfl ?_
  refine v_geta (pc := 87) X fl_11_21 kl0 fk_11_12 (by decide +kernel) ?_
  refine v_bipush (pc := 90) (n := -2) X (by decide +kernel) bi_m2 ?_
  obtain ⟨r13, er13, hf⟩ := bnd_e hf
  refine v_callS (pc := 92) (As := [.ref (ρ (lay tb l0 12)), .int (-2 : Int32)]) (rest := []) X (mt_Ar_fill ok hi (ly_11_12 ok kl0) er13) ml_11_77 ms_Ar_fill ⟨Nat.le_of_ble_eq_true rfl, Nat.le_of_ble_eq_true rfl⟩ rfl rfl (Nat.le_of_ble_eq_true rfl) (by decide +kernel) ?_
  change V E g tb ρ 2 95 [(0, .ref (ρ l0)), (1, .ref (ρ l1))] [] r13
  refine v_aload_n (pc := 95) (k := 0) X (by decide +kernel) 0 rfl ?_
  refine v_geta (pc := 96) X fl_11_24 kl0 fk_11_13 (by decide +kernel) ?_
  refine v_iconst (pc := 99) (n := 0) X (by decide +kernel) ic_0 ?_
  obtain ⟨r14, er14, hf⟩ := bnd_e hf
  refine v_callS (pc := 100) (As := [.ref (ρ (lay tb l0 13)), .int (0 : Int32)]) (rest := []) X (mt_Ar_fill ok hi (ly_11_13 ok kl0) er14) ml_11_77 ms_Ar_fill ⟨Nat.le_of_ble_eq_true rfl, Nat.le_of_ble_eq_true rfl⟩ rfl rfl (Nat.le_of_ble_eq_true rfl) (by decide +kernel) ?_
  change V E g tb ρ 2 103 [(0, .ref (ρ l0)), (1, .ref (ρ l1))] [] r14
  refine v_aload_n (pc := 103) (k := 1) X (by decide +kernel) 1 rfl ?_
  refine v_geta (pc := 104) X fl_11_83 kl1 fk_7_8 (by decide +kernel) ?_
  refine v_aload_n (pc := 107) (k := 0) X (by decide +kernel) 0 rfl ?_
  refine v_geta (pc := 108) X fl_11_27 kl0 fk_11_14 (by decide +kernel) ?_
  obtain ⟨r15, er15, hf⟩ := bnd_e hf
  refine v_callSN (pc := 111) (As := [.ref (ρ (lay tb l1 8)), .ref (ρ (lay tb l0 14))]) (rest := []) X (mt_Tt_copy ok hi (ly_7_8 ok kl1) (ly_11_14 ok kl0) er15) ml_11_70 ms_Tt_copy ⟨Nat.le_of_ble_eq_true rfl, Nat.le_of_ble_eq_true rfl⟩ rfl rfl (Nat.le_of_ble_eq_true rfl) (by decide +kernel) ?_
  change V E g tb ρ 2 114 [(0, .ref (ρ l0)), (1, .ref (ρ l1))] [] r15
  cases hf
  exact v_vret X Y (by decide +kernel) rfl rfl
def f_Wo_isOn (tb : Tb) (h : Hp) (l0 : Nat) (l1 : Int32) : Int32 :=
  if ((h.1 l0 2) &&& ((1 : Int32) <<< (l1 &&& 31))) = (0 : Int32) then (
    (0 : Int32)
  ) else (
    (1 : Int32)
  )
set_option maxRecDepth 4000 in
set_option maxHeartbeats 1000000 in
theorem mt_Wo_isOn {g : Gl} {tb : Tb} {ρ : Nat → Nat} (ok : TbOK tb) (hi : inj tb ρ) {h : Hp} {l0 : Nat} {l1 : Int32} (kl0 : kd tb l0 = 11) {r : Int32} (hf : f_Wo_isOn tb h l0 l1 = r) : MT g y_Wo_isOn prog_12_method_4_code 2 (some .boolean) 0 0 tb ρ [.ref (ρ l0), .int l1] h (some (.int r)) h := by
  refine mt_intro (by decide +kernel) ok hi (Nat.le_of_ble_eq_true rfl) (fun E X Y => ?_)
  change V E g tb ρ 2 0 [(0, .ref (ρ l0)), (1, .int l1)] [] h
  unfold f_Wo_isOn at hf
  refine v_aload_n (pc := 0) (k := 0) X (by decide +kernel) 0 rfl ?_
  refine v_geti (pc := 1) X fl_11_46 kl0 rfl (by decide +kernel) ?_
  refine v_iconst (pc := 4) (n := 1) X (by decide +kernel) ic_1 ?_
  refine v_iload_n (pc := 5) (k := 1) X (by decide +kernel) 1 rfl ?_
  refine v_ishl (pc := 6) X (by decide +kernel) ?_
  refine v_iand (pc := 7) X (by decide +kernel) ?_
  refine v_if_eq (pc := 8) (off := 7) (tgt := 15) X (by decide +kernel) (by decide) (fun q1 => ?_) (fun q1 => ?_)
  · rw [if_pos q1] at hf
    refine v_iconst (pc := 15) (n := 0) X (by decide +kernel) ic_0 ?_
    cases hf
    exact v_zret (hz := rfl) X Y (by decide +kernel) rfl rfl
  · rw [if_neg q1] at hf
    refine v_iconst (pc := 11) (n := 1) X (by decide +kernel) ic_1 ?_
    refine v_goto (pc := 12) (off := 4) (tgt := 16) X (by decide +kernel) (by decide) ?_
    cases hf
    exact v_zret (hz := rfl) X Y (by decide +kernel) rfl rfl
def f_Pl_hasHorse (tb : Tb) (h : Hp) (l0 : Nat) (l1 : Int32) : Int32 :=
  if l1 < (0 : Int32) then (
    (0 : Int32)
  ) else (
    if (h.1 l0 4) ≤ l1 then (
      (0 : Int32)
    ) else (
      (1 : Int32)
    )
  )
set_option maxRecDepth 4000 in
set_option maxHeartbeats 1000000 in
theorem mt_Pl_hasHorse {g : Gl} {tb : Tb} {ρ : Nat → Nat} (ok : TbOK tb) (hi : inj tb ρ) {h : Hp} {l0 : Nat} {l1 : Int32} (kl0 : kd tb l0 = 7) {r : Int32} (hf : f_Pl_hasHorse tb h l0 l1 = r) : MT g y_Pl_hasHorse prog_8_method_4_code 2 (some .boolean) 0 0 tb ρ [.ref (ρ l0), .int l1] h (some (.int r)) h := by
  refine mt_intro (by decide +kernel) ok hi (Nat.le_of_ble_eq_true rfl) (fun E X Y => ?_)
  change V E g tb ρ 2 0 [(0, .ref (ρ l0)), (1, .int l1)] [] h
  unfold f_Pl_hasHorse at hf
  refine v_iload_n (pc := 0) (k := 1) X (by decide +kernel) 1 rfl ?_
  refine v_if_lt (pc := 1) (off := 15) (tgt := 16) X (by decide +kernel) (by decide) (fun q2 => ?_) (fun q2 => ?_)
  · rw [if_pos q2] at hf
    refine v_iconst (pc := 16) (n := 0) X (by decide +kernel) ic_0 ?_
    cases hf
    exact v_zret (hz := rfl) X Y (by decide +kernel) rfl rfl
  · rw [if_neg q2] at hf
    refine v_iload_n (pc := 4) (k := 1) X (by decide +kernel) 1 rfl ?_
    refine v_aload_n (pc := 5) (k := 0) X (by decide +kernel) 0 rfl ?_
    refine v_geti (pc := 6) X fl_7_74 kl0 rfl (by decide +kernel) ?_
    refine v_icmp_ge (pc := 9) (off := 7) (tgt := 16) X (by decide +kernel) (by decide) (fun q1 => ?_) (fun q1 => ?_)
    · rw [if_pos q1] at hf
      refine v_iconst (pc := 16) (n := 0) X (by decide +kernel) ic_0 ?_
      cases hf
      exact v_zret (hz := rfl) X Y (by decide +kernel) rfl rfl
    · rw [if_neg q1] at hf
      refine v_iconst (pc := 12) (n := 1) X (by decide +kernel) ic_1 ?_
      refine v_goto (pc := 13) (off := 4) (tgt := 17) X (by decide +kernel) (by decide) ?_
      cases hf
      exact v_zret (hz := rfl) X Y (by decide +kernel) rfl rfl
def lp_Tt_greatestShared_7 (tb : Tb) : Nat → Hp → Int32 → Int32 → Int32 → Option (Int32)
  | 0, _, _, _, _ => none
  | n + 1, h, l2, l3, l4 =>
    if (64 : Int32) ≤ l4 then (
      some l2
    ) else (
      if l3 = (0 : Int32) then (
        some l2
      ) else (
        (mI l2 l3).bind fun x1 =>
        nmd (l4 + (1 : Int32)) fun x2 =>
        lp_Tt_greatestShared_7 tb n h l3 x1 x2
      )
    )
def f_Tt_greatestShared (tb : Tb) (h : Hp) (l0 : Int32) (l1 : Int32) : Option (Int32) :=
  lp_Tt_greatestShared_7 tb fu h l0 l1 (0 : Int32)
set_option maxRecDepth 4000 in
set_option maxHeartbeats 1000000 in
theorem vlp_Tt_greatestShared_7 {E : En} {g : Gl} {tb : Tb} {ρ : Nat → Nat} (ok : TbOK tb) (hi : inj tb ρ) {r : Int32} (X : CX E g tb ρ prog_1_method_29_code 6 RC0 0 0) {h : Hp} (Y : CQ E g tb ρ (some .int) (some (.int r)) h) : ∀ (n : Nat) (l2 : Int32) (l3 : Int32) (l4 : Int32), lp_Tt_greatestShared_7 tb n h l2 l3 l4 = some r → V E g tb ρ 6 7 [(2, .int l2), (3, .int l3), (4, .int l4)] [] h := by
  intro n
  induction n with
  | zero =>
    intro l2 l3 l4 hf
    rw [lp_Tt_greatestShared_7] at hf
    cases hf
  | succ n ih =>
    intro l2 l3 l4 hf
    rw [lp_Tt_greatestShared_7] at hf
    refine v_iload (pc := 7) (k := 4) X (by decide +kernel) 2 rfl ?_
    refine v_bipush (pc := 9) (n := 64) X (by decide +kernel) bi_64 ?_
    refine v_icmp_ge (pc := 11) (off := 23) (tgt := 34) X (by decide +kernel) (by decide) (fun q4 => ?_) (fun q4 => ?_)
    · rw [if_pos q4] at hf
      refine v_iload_n (pc := 34) (k := 2) X (by decide +kernel) 0 rfl ?_
      cases hf
      exact v_iret X Y (by decide +kernel) rfl rfl
    · rw [if_neg q4] at hf
      refine v_iload_n (pc := 14) (k := 3) X (by decide +kernel) 1 rfl ?_
      refine v_if_eq (pc := 15) (off := 19) (tgt := 34) X (by decide +kernel) (by decide) (fun q3 => ?_) (fun q3 => ?_)
      · rw [if_pos q3] at hf
        refine v_iload_n (pc := 34) (k := 2) X (by decide +kernel) 0 rfl ?_
        cases hf
        exact v_iret X Y (by decide +kernel) rfl rfl
      · rw [if_neg q3] at hf
        refine v_iload_n (pc := 18) (k := 2) X (by decide +kernel) 0 rfl ?_
        refine v_iload_n (pc := 19) (k := 3) X (by decide +kernel) 1 rfl ?_
        obtain ⟨x1, ex1, hf⟩ := bnd_e hf
        refine v_irem (pc := 20) X ex1 (by decide +kernel) ?_
        refine v_istore (pc := 21) (k := 5) (lv' := [(5, .int x1), (2, .int l2), (3, .int l3), (4, .int l4)]) X (by decide +kernel) (Nat.le_of_ble_eq_true rfl) rfl ?_
        refine v_iload_n (pc := 23) (k := 3) X (by decide +kernel) 2 rfl ?_
        refine v_istore_n (pc := 24) (k := 2) (lv' := [(2, .int l3), (5, .int x1), (3, .int l3), (4, .int l4)]) X (by decide +kernel) (Nat.le_of_ble_eq_true rfl) rfl ?_
        refine v_iload (pc := 25) (k := 5) X (by decide +kernel) 1 rfl ?_
        refine v_istore_n (pc := 27) (k := 3) (lv' := [(3, .int x1), (2, .int l3), (5, .int x1), (4, .int l4)]) X (by decide +kernel) (Nat.le_of_ble_eq_true rfl) rfl ?_
        obtain ⟨x2, ex2, hf⟩ := nmd_e hf
        refine v_iinc (pc := 28) (k := 4) (n := 1) (v := x2) (lv' := [(4, .int x2), (3, .int x1), (2, .int l3), (5, .int x1)]) X (by decide +kernel) 3 rfl (by rw [ic_1, ex2]) (Nat.le_of_ble_eq_true rfl) rfl ?_
        refine v_goto (pc := 31) (off := -24) (tgt := 7) X (by decide +kernel) (by decide) ?_
        refine v_sub [2, 1, 0] rfl ?_
        exact ih l3 x1 x2 hf
set_option maxRecDepth 4000 in
set_option maxHeartbeats 1000000 in
theorem mt_Tt_greatestShared {g : Gl} {tb : Tb} {ρ : Nat → Nat} (ok : TbOK tb) (hi : inj tb ρ) {h : Hp} {l0 : Int32} {l1 : Int32}  {r : Int32} (hf : f_Tt_greatestShared tb h l0 l1 = some r) : MT g y_Tt_greatestShared prog_1_method_29_code 6 (some .int) 0 0 tb ρ [.int l0, .int l1] h (some (.int r)) h := by
  refine mt_intro (by decide +kernel) ok hi (Nat.le_of_ble_eq_true rfl) (fun E X Y => ?_)
  change V E g tb ρ 6 0 [(0, .int l0), (1, .int l1)] [] h
  unfold f_Tt_greatestShared at hf
  refine v_iload_n (pc := 0) (k := 0) X (by decide +kernel) 0 rfl ?_
  refine v_istore_n (pc := 1) (k := 2) (lv' := [(2, .int l0), (0, .int l0), (1, .int l1)]) X (by decide +kernel) (Nat.le_of_ble_eq_true rfl) rfl ?_
  refine v_iload_n (pc := 2) (k := 1) X (by decide +kernel) 2 rfl ?_
  refine v_istore_n (pc := 3) (k := 3) (lv' := [(3, .int l1), (2, .int l0), (0, .int l0), (1, .int l1)]) X (by decide +kernel) (Nat.le_of_ble_eq_true rfl) rfl ?_
  refine v_iconst (pc := 4) (n := 0) X (by decide +kernel) ic_0 ?_
  refine v_istore (pc := 5) (k := 4) (lv' := [(4, .int (0 : Int32)), (3, .int l1), (2, .int l0), (0, .int l0), (1, .int l1)]) X (by decide +kernel) (Nat.le_of_ble_eq_true rfl) rfl ?_
  refine v_sub [2, 1, 0] rfl ?_
  exact vlp_Tt_greatestShared_7 ok hi X Y fu l0 l1 (0 : Int32) hf
def f_Md_isIn (tb : Tb) (h : Hp) (l0 : Int32) (l1 : Int32) (l2 : Int32) : Int32 :=
  if l0 < l1 then (
    (0 : Int32)
  ) else (
    if l2 < l0 then (
      (0 : Int32)
    ) else (
      (1 : Int32)
    )
  )
set_option maxRecDepth 4000 in
set_option maxHeartbeats 1000000 in
theorem mt_Md_isIn {g : Gl} {tb : Tb} {ρ : Nat → Nat} (ok : TbOK tb) (hi : inj tb ρ) {h : Hp} {l0 : Int32} {l1 : Int32} {l2 : Int32}  {r : Int32} (hf : f_Md_isIn tb h l0 l1 l2 = r) : MT g y_Md_isIn prog_14_method_4_code 3 (some .boolean) 0 0 tb ρ [.int l0, .int l1, .int l2] h (some (.int r)) h := by
  refine mt_intro (by decide +kernel) ok hi (Nat.le_of_ble_eq_true rfl) (fun E X Y => ?_)
  change V E g tb ρ 3 0 [(0, .int l0), (1, .int l1), (2, .int l2)] [] h
  unfold f_Md_isIn at hf
  refine v_iload_n (pc := 0) (k := 0) X (by decide +kernel) 0 rfl ?_
  refine v_iload_n (pc := 1) (k := 1) X (by decide +kernel) 1 rfl ?_
  refine v_icmp_lt (pc := 2) (off := 12) (tgt := 14) X (by decide +kernel) (by decide) (fun q2 => ?_) (fun q2 => ?_)
  · rw [if_pos q2] at hf
    refine v_iconst (pc := 14) (n := 0) X (by decide +kernel) ic_0 ?_
    cases hf
    exact v_zret (hz := rfl) X Y (by decide +kernel) rfl rfl
  · rw [if_neg q2] at hf
    refine v_iload_n (pc := 5) (k := 0) X (by decide +kernel) 0 rfl ?_
    refine v_iload_n (pc := 6) (k := 2) X (by decide +kernel) 2 rfl ?_
    refine v_icmp_gt (pc := 7) (off := 7) (tgt := 14) X (by decide +kernel) (by decide) (fun q1 => ?_) (fun q1 => ?_)
    · rw [if_pos q1] at hf
      refine v_iconst (pc := 14) (n := 0) X (by decide +kernel) ic_0 ?_
      cases hf
      exact v_zret (hz := rfl) X Y (by decide +kernel) rfl rfl
    · rw [if_neg q1] at hf
      refine v_iconst (pc := 10) (n := 1) X (by decide +kernel) ic_1 ?_
      refine v_goto (pc := 11) (off := 4) (tgt := 15) X (by decide +kernel) (by decide) ?_
      cases hf
      exact v_zret (hz := rfl) X Y (by decide +kernel) rfl rfl
def lp_Md_find_3 (tb : Tb) : Nat → Hp → Nat → Int32 → Int32 → Int32 → Int32 → Option (Int32)
  | 0, _, _, _, _, _, _ => none
  | n + 1, h, l0, l1, l2, l3, l4 =>
    if l2 ≤ l4 then (
      some (-1 : Int32)
    ) else (
      (rI tb h l0 (l1 + l4)).bind fun x1 =>
      if x1 = l3 then (
        some l4
      ) else (
        nmd (l4 + (1 : Int32)) fun x2 =>
        lp_Md_find_3 tb n h l0 l1 l2 l3 x2
      )
    )
def f_Md_find (tb : Tb) (h : Hp) (l0 : Nat) (l1 : Int32) (l2 : Int32) (l3 : Int32) : Option (Int32) :=
  lp_Md_find_3 tb fu h l0 l1 l2 l3 (0 : Int32)
set_option maxRecDepth 4000 in
set_option maxHeartbeats 1000000 in
theorem vlp_Md_find_3 {E : En} {g : Gl} {tb : Tb} {ρ : Nat → Nat} (ok : TbOK tb) (hi : inj tb ρ) {r : Int32} (X : CX E g tb ρ prog_14_method_20_code 5 RC12 0 0) {h : Hp} (Y : CQ E g tb ρ (some .int) (some (.int r)) h) : ∀ (n : Nat) (l0 : Nat) (l1 : Int32) (l2 : Int32) (l3 : Int32) (l4 : Int32) (kl0 : kd tb l0 = 20), lp_Md_find_3 tb n h l0 l1 l2 l3 l4 = some r → V E g tb ρ 5 3 [(0, .ref (ρ l0)), (1, .int l1), (2, .int l2), (3, .int l3), (4, .int l4)] [] h := by
  intro n
  induction n with
  | zero =>
    intro l0 l1 l2 l3 l4 kl0 hf
    rw [lp_Md_find_3] at hf
    cases hf
  | succ n ih =>
    intro l0 l1 l2 l3 l4 kl0 hf
    rw [lp_Md_find_3] at hf
    refine v_iload (pc := 3) (k := 4) X (by decide +kernel) 4 rfl ?_
    refine v_iload_n (pc := 5) (k := 2) X (by decide +kernel) 2 rfl ?_
    refine v_icmp_ge (pc := 6) (off := 22) (tgt := 28) X (by decide +kernel) (by decide) (fun q4 => ?_) (fun q4 => ?_)
    · rw [if_pos q4] at hf
      refine v_iconst (pc := 28) (n := -1) X (by decide +kernel) ic_m1 ?_
      cases hf
      exact v_iret X Y (by decide +kernel) rfl rfl
    · rw [if_neg q4] at hf
      refine v_aload_n (pc := 9) (k := 0) X (by decide +kernel) 0 rfl ?_
      refine v_iload_n (pc := 10) (k := 1) X (by decide +kernel) 1 rfl ?_
      refine v_iload (pc := 11) (k := 4) X (by decide +kernel) 4 rfl ?_
      refine v_iadd (pc := 13) X (by decide +kernel) ?_
      obtain ⟨x1, ex1, hf⟩ := bnd_e hf
      refine v_iald (pc := 14) X kl0 ex1 (by decide +kernel) ?_
      refine v_iload_n (pc := 15) (k := 3) X (by decide +kernel) 3 rfl ?_
      refine v_icmp_ne (pc := 16) (off := 6) (tgt := 22) X (by decide +kernel) (by decide) (fun q3 => ?_) (fun q3 => ?_)
      · rw [if_neg q3] at hf
        obtain ⟨x2, ex2, hf⟩ := nmd_e hf
        refine v_iinc (pc := 22) (k := 4) (n := 1) (v := x2) (lv' := [(4, .int x2), (0, .ref (ρ l0)), (1, .int l1), (2, .int l2), (3, .int l3)]) X (by decide +kernel) 4 rfl (by rw [ic_1, ex2]) (Nat.le_of_ble_eq_true rfl) rfl ?_
        refine v_goto (pc := 25) (off := -22) (tgt := 3) X (by decide +kernel) (by decide) ?_
        refine v_sub [1, 2, 3, 4, 0] rfl ?_
        exact ih l0 l1 l2 l3 x2 kl0 hf
      · rw [if_pos q3] at hf
        refine v_iload (pc := 19) (k := 4) X (by decide +kernel) 4 rfl ?_
        cases hf
        exact v_iret X Y (by decide +kernel) rfl rfl
set_option maxRecDepth 4000 in
set_option maxHeartbeats 1000000 in
theorem mt_Md_find {g : Gl} {tb : Tb} {ρ : Nat → Nat} (ok : TbOK tb) (hi : inj tb ρ) {h : Hp} {l0 : Nat} {l1 : Int32} {l2 : Int32} {l3 : Int32} (kl0 : kd tb l0 = 20) {r : Int32} (hf : f_Md_find tb h l0 l1 l2 l3 = some r) : MT g y_Md_find prog_14_method_20_code 5 (some .int) 0 0 tb ρ [.ref (ρ l0), .int l1, .int l2, .int l3] h (some (.int r)) h := by
  refine mt_intro (by decide +kernel) ok hi (Nat.le_of_ble_eq_true rfl) (fun E X Y => ?_)
  change V E g tb ρ 5 0 [(0, .ref (ρ l0)), (1, .int l1), (2, .int l2), (3, .int l3)] [] h
  unfold f_Md_find at hf
  refine v_iconst (pc := 0) (n := 0) X (by decide +kernel) ic_0 ?_
  refine v_istore (pc := 1) (k := 4) (lv' := [(4, .int (0 : Int32)), (0, .ref (ρ l0)), (1, .int l1), (2, .int l2), (3, .int l3)]) X (by decide +kernel) (Nat.le_of_ble_eq_true rfl) rfl ?_
  refine v_sub [1, 2, 3, 4, 0] rfl ?_
  exact vlp_Md_find_3 ok hi X Y fu l0 l1 l2 l3 (0 : Int32) kl0 hf
def f_Md_sizeOf (tb : Tb) (h : Hp) (l0 : Int32) : Int32 :=
  if (0 : Int32) ≤ l0 then (
    l0
  ) else (
    -l0
  )
set_option maxRecDepth 4000 in
set_option maxHeartbeats 1000000 in
theorem mt_Md_sizeOf {g : Gl} {tb : Tb} {ρ : Nat → Nat} (ok : TbOK tb) (hi : inj tb ρ) {h : Hp} {l0 : Int32}  {r : Int32} (hf : f_Md_sizeOf tb h l0 = r) : MT g y_Md_sizeOf prog_14_method_52_code 1 (some .int) 0 0 tb ρ [.int l0] h (some (.int r)) h := by
  refine mt_intro (by decide +kernel) ok hi (Nat.le_of_ble_eq_true rfl) (fun E X Y => ?_)
  change V E g tb ρ 1 0 [(0, .int l0)] [] h
  unfold f_Md_sizeOf at hf
  refine v_iload_n (pc := 0) (k := 0) X (by decide +kernel) 0 rfl ?_
  refine v_if_ge (pc := 1) (off := 8) (tgt := 9) X (by decide +kernel) (by decide) (fun q1 => ?_) (fun q1 => ?_)
  · rw [if_pos q1] at hf
    refine v_iload_n (pc := 9) (k := 0) X (by decide +kernel) 0 rfl ?_
    cases hf
    exact v_iret X Y (by decide +kernel) rfl rfl
  · rw [if_neg q1] at hf
    refine v_iload_n (pc := 4) (k := 0) X (by decide +kernel) 0 rfl ?_
    refine v_ineg (pc := 5) X (by decide +kernel) ?_
    refine v_goto (pc := 6) (off := 4) (tgt := 10) X (by decide +kernel) (by decide) ?_
    cases hf
    exact v_iret X Y (by decide +kernel) rfl rfl
def f_Md_farOf (tb : Tb) (h : Hp) (l0 : Nat) (l1 : Int32) (l2 : Int32) : Option (Int32) :=
  (rI tb h (lay tb l0 56) (((6 : Int32) * l1) + l2)).bind fun x1 =>
  if (0 : Int32) ≤ x1 then (
    (rI tb h (lay tb l0 56) (((6 : Int32) * l1) + l2)).bind fun x2 =>
    (rI tb h (lay tb l0 26) x2).bind fun x3 =>
    (rI tb h (lay tb l0 54) (((6 : Int32) * l1) + l2)).bind fun x4 =>
    nmd (f_Md_sizeOf tb h (x3 - x4)) fun r5 =>
    some r5
  ) else (
    some (0 : Int32)
  )
set_option maxRecDepth 4000 in
set_option maxHeartbeats 1000000 in
theorem mt_Md_farOf {g : Gl} {tb : Tb} {ρ : Nat → Nat} (ok : TbOK tb) (hi : inj tb ρ) {h : Hp} {l0 : Nat} {l1 : Int32} {l2 : Int32} (kl0 : kd tb l0 = 12) {r : Int32} (hf : f_Md_farOf tb h l0 l1 l2 = some r) : MT g y_Md_farOf prog_14_method_55_code 3 (some .int) 1 20 tb ρ [.ref (ρ l0), .int l1, .int l2] h (some (.int r)) h := by
  refine mt_intro (by decide +kernel) ok hi (Nat.le_of_ble_eq_true rfl) (fun E X Y => ?_)
  change V E g tb ρ 3 0 [(0, .ref (ρ l0)), (1, .int l1), (2, .int l2)] [] h
  unfold f_Md_farOf at hf
  refine v_aload_n (pc := 0) (k := 0) X (by decide +kernel) 0 rfl ?_
  refine v_geta (pc := 1) X fl_12_100 kl0 fk_12_56 (by decide +kernel) ?_
  refine v_bipush (pc := 4) (n := 6) X (by decide +kernel) bi_6 ?_
  refine v_iload_n (pc := 6) (k := 1) X (by decide +kernel) 1 rfl ?_
  refine v_imul (pc := 7) X (by decide +kernel) ?_
  refine v_iload_n (pc := 8) (k := 2) X (by decide +kernel) 2 rfl ?_
  refine v_iadd (pc := 9) X (by decide +kernel) ?_
  obtain ⟨x1, ex1, hf⟩ := bnd_e hf
  refine v_iald (pc := 10) X (ly_12_56 ok kl0) ex1 (by decide +kernel) ?_
  refine v_if_ge (pc := 11) (off := 7) (tgt := 18) X (by decide +kernel) (by decide) (fun q6 => ?_) (fun q6 => ?_)
  · rw [if_pos q6] at hf
    refine v_aload_n (pc := 18) (k := 0) X (by decide +kernel) 0 rfl ?_
    refine v_geta (pc := 19) X fl_12_30 kl0 fk_12_26 (by decide +kernel) ?_
    refine v_aload_n (pc := 22) (k := 0) X (by decide +kernel) 0 rfl ?_
    refine v_geta (pc := 23) X fl_12_100 kl0 fk_12_56 (by decide +kernel) ?_
    refine v_bipush (pc := 26) (n := 6) X (by decide +kernel) bi_6 ?_
    refine v_iload_n (pc := 28) (k := 1) X (by decide +kernel) 1 rfl ?_
    refine v_imul (pc := 29) X (by decide +kernel) ?_
    refine v_iload_n (pc := 30) (k := 2) X (by decide +kernel) 2 rfl ?_
    refine v_iadd (pc := 31) X (by decide +kernel) ?_
    obtain ⟨x2, ex2, hf⟩ := bnd_e hf
    refine v_iald (pc := 32) X (ly_12_56 ok kl0) ex2 (by decide +kernel) ?_
    obtain ⟨x3, ex3, hf⟩ := bnd_e hf
    refine v_iald (pc := 33) X (ly_12_26 ok kl0) ex3 (by decide +kernel) ?_
    refine v_aload_n (pc := 34) (k := 0) X (by decide +kernel) 0 rfl ?_
    refine v_geta (pc := 35) X fl_12_94 kl0 fk_12_54 (by decide +kernel) ?_
    refine v_bipush (pc := 38) (n := 6) X (by decide +kernel) bi_6 ?_
    refine v_iload_n (pc := 40) (k := 1) X (by decide +kernel) 1 rfl ?_
    refine v_imul (pc := 41) X (by decide +kernel) ?_
    refine v_iload_n (pc := 42) (k := 2) X (by decide +kernel) 2 rfl ?_
    refine v_iadd (pc := 43) X (by decide +kernel) ?_
    obtain ⟨x4, ex4, hf⟩ := bnd_e hf
    refine v_iald (pc := 44) X (ly_12_54 ok kl0) ex4 (by decide +kernel) ?_
    refine v_isub (pc := 45) X (by decide +kernel) ?_
    obtain ⟨r5, er5, hf⟩ := nmd_e hf
    refine v_callS (pc := 46) (As := [.int (x3 - x4)]) (rest := []) X (mt_Md_sizeOf ok hi er5.symm) ml_12_398 ms_Md_sizeOf ⟨Nat.le_of_ble_eq_true rfl, Nat.le_of_ble_eq_true rfl⟩ rfl rfl (Nat.le_of_ble_eq_true rfl) (by decide +kernel) ?_
    change V E g tb ρ 3 49 [(0, .ref (ρ l0)), (1, .int l1), (2, .int l2)] [.int r5] h
    cases hf
    exact v_iret X Y (by decide +kernel) rfl rfl
  · rw [if_neg q6] at hf
    refine v_iconst (pc := 14) (n := 0) X (by decide +kernel) ic_0 ?_
    refine v_goto (pc := 15) (off := 34) (tgt := 49) X (by decide +kernel) (by decide) ?_
    cases hf
    exact v_iret X Y (by decide +kernel) rfl rfl
