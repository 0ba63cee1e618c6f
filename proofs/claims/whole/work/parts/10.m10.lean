def lp_Tt_putFour_3 (tb : Tb) : Nat → Hp → Nat → Int32 → Int32 → Option (Hp)
  | 0, _, _, _, _ => none
  | n + 1, h, l0, l1, l2 =>
    if l2 < (0 : Int32) then (
      some h
    ) else (
      if (700 : Int32) ≤ (h.1 l0 1) then (
        some h
      ) else (
        (wB tb h (lay tb l0 0) (h.1 l0 1) ((l1 >>> (l2 &&& 31)).toInt8.toInt32)).bind fun h1 =>
        nmd (pI h1 l0 1 ((h1.1 l0 1) + (1 : Int32))) fun h2 =>
        nmd (l2 + (-8 : Int32)) fun x3 =>
        lp_Tt_putFour_3 tb n h2 l0 l1 x3
      )
    )
def f_Tt_putFour (tb : Tb) (h : Hp) (l0 : Nat) (l1 : Int32) : Option (Hp) :=
  lp_Tt_putFour_3 tb fu h l0 l1 (24 : Int32)
set_option maxRecDepth 4000 in
set_option maxHeartbeats 1000000 in
theorem vlp_Tt_putFour_3 {E : En} {g : Gl} {tb : Tb} {ρ : Nat → Nat} (ok : TbOK tb) (hi : inj tb ρ) {r : Hp} (X : CX E g tb ρ prog_1_method_3_code 3 RC0 0 0) (Y : CQ E g tb ρ none (none) r) : ∀ (n : Nat) (h : Hp) (l0 : Nat) (l1 : Int32) (l2 : Int32) (kl0 : kd tb l0 = 0), lp_Tt_putFour_3 tb n h l0 l1 l2 = some r → V E g tb ρ 3 3 [(0, .ref (ρ l0)), (1, .int l1), (2, .int l2)] [] h := by
  intro n
  induction n with
  | zero =>
    intro h l0 l1 l2 kl0 hf
    rw [lp_Tt_putFour_3] at hf
    cases hf
  | succ n ih =>
    intro h l0 l1 l2 kl0 hf
    rw [lp_Tt_putFour_3] at hf
    refine v_iload_n (pc := 3) (k := 2) X (by decide +kernel) 2 rfl ?_
    refine v_if_lt (pc := 4) (off := 42) (tgt := 46) X (by decide +kernel) (by decide) (fun q5 => ?_) (fun q5 => ?_)
    · rw [if_pos q5] at hf
      cases hf
      exact v_vret X Y (by decide +kernel) rfl rfl
    · rw [if_neg q5] at hf
      refine v_aload_n (pc := 7) (k := 0) X (by decide +kernel) 0 rfl ?_
      refine v_geti (pc := 8) X fl_0_15 kl0 rfl (by decide +kernel) ?_
      refine v_sipush (pc := 11) (n := 700) X (by decide +kernel) si_700 ?_
      refine v_icmp_ge (pc := 14) (off := 32) (tgt := 46) X (by decide +kernel) (by decide) (fun q4 => ?_) (fun q4 => ?_)
      · rw [if_pos q4] at hf
        cases hf
        exact v_vret X Y (by decide +kernel) rfl rfl
      · rw [if_neg q4] at hf
        refine v_aload_n (pc := 17) (k := 0) X (by decide +kernel) 0 rfl ?_
        refine v_geta (pc := 18) X fl_0_11 kl0 fk_0_0 (by decide +kernel) ?_
        refine v_aload_n (pc := 21) (k := 0) X (by decide +kernel) 0 rfl ?_
        refine v_geti (pc := 22) X fl_0_15 kl0 rfl (by decide +kernel) ?_
        refine v_iload_n (pc := 25) (k := 1) X (by decide +kernel) 1 rfl ?_
        refine v_iload_n (pc := 26) (k := 2) X (by decide +kernel) 2 rfl ?_
        refine v_ishr (pc := 27) X (by decide +kernel) ?_
        refine v_i2b (pc := 28) X (by decide +kernel) ?_
        obtain ⟨h1, eh1, hf⟩ := bnd_e hf
        refine v_bast (pc := 29) X (ly_0_0 ok kl0) eh1 (by decide +kernel) ?_
        refine v_aload_n (pc := 30) (k := 0) X (by decide +kernel) 0 rfl ?_
        refine v_dup (pc := 31) X (by decide +kernel) rfl ?_
        refine v_geti (pc := 32) X fl_0_15 kl0 rfl (by decide +kernel) ?_
        refine v_iconst (pc := 35) (n := 1) X (by decide +kernel) ic_1 ?_
        refine v_iadd (pc := 36) X (by decide +kernel) ?_
        obtain ⟨h2, eh2, hf⟩ := nmd_e hf
        refine v_puti (pc := 37) X fp_0_15 kl0 rfl (by decide +kernel) eh2 ?_
        obtain ⟨x3, ex3, hf⟩ := nmd_e hf
        refine v_iinc (pc := 40) (k := 2) (n := -8) (v := x3) (lv' := [(2, .int x3), (0, .ref (ρ l0)), (1, .int l1)]) X (by decide +kernel) 2 rfl (by rw [ic_m8, ex3]) (Nat.le_of_ble_eq_true rfl) rfl ?_
        refine v_goto (pc := 43) (off := -40) (tgt := 3) X (by decide +kernel) (by decide) ?_
        refine v_sub [1, 2, 0] rfl ?_
        exact ih h2 l0 l1 x3 kl0 hf
set_option maxRecDepth 4000 in
set_option maxHeartbeats 1000000 in
theorem mt_Tt_putFour {g : Gl} {tb : Tb} {ρ : Nat → Nat} (ok : TbOK tb) (hi : inj tb ρ) {h : Hp} {l0 : Nat} {l1 : Int32} (kl0 : kd tb l0 = 0) {r : Hp} (hf : f_Tt_putFour tb h l0 l1 = some r) : MT g y_Tt_putFour prog_1_method_3_code 3 none 0 0 tb ρ [.ref (ρ l0), .int l1] h (none) r := by
  refine mt_intro (by decide +kernel) ok hi (Nat.le_of_ble_eq_true rfl) (fun E X Y => ?_)
  change V E g tb ρ 3 0 [(0, .ref (ρ l0)), (1, .int l1)] [] h
  unfold f_Tt_putFour at hf
  refine v_bipush (pc := 0) (n := 24) X (by decide +kernel) bi_24 ?_
  refine v_istore_n (pc := 2) (k := 2) (lv' := [(2, .int (24 : Int32)), (0, .ref (ρ l0)), (1, .int l1)]) X (by decide +kernel) (Nat.le_of_ble_eq_true rfl) rfl ?_
  refine v_sub [1, 2, 0] rfl ?_
  exact vlp_Tt_putFour_3 ok hi X Y fu h l0 l1 (24 : Int32) kl0 hf
def f_Tt_feed (tb : Tb) (h : Hp) (l0 : Nat) (l1 : Int32) (l2 : Int32) (l3 : Int32) (l4 : Int32) (l5 : Int32) : Option (Int32 × Hp) :=
  if ((h.1 l0 1) + (20 : Int32)) ≤ (700 : Int32) then (
    (f_Tt_putFour tb h l0 l1).bind fun r1 =>
    (f_Tt_putFour tb r1 l0 l2).bind fun r2 =>
    (f_Tt_putFour tb r2 l0 l3).bind fun r3 =>
    (f_Tt_putFour tb r3 l0 l4).bind fun r4 =>
    (f_Tt_putFour tb r4 l0 l5).bind fun r5 =>
    some (r5.1 l0 1, r5)
  ) else (
    some ((-1 : Int32), h)
  )
set_option maxRecDepth 4000 in
set_option maxHeartbeats 1000000 in
theorem mt_Tt_feed {g : Gl} {tb : Tb} {ρ : Nat → Nat} (ok : TbOK tb) (hi : inj tb ρ) {h : Hp} {l0 : Nat} {l1 : Int32} {l2 : Int32} {l3 : Int32} {l4 : Int32} {l5 : Int32} (kl0 : kd tb l0 = 0) {r : Int32 × Hp} (hf : f_Tt_feed tb h l0 l1 l2 l3 l4 l5 = some r) : MT g y_Tt_feed prog_1_method_2_code 6 (some .int) 1 22 tb ρ [.ref (ρ l0), .int l1, .int l2, .int l3, .int l4, .int l5] h (some (.int r.1)) r.2 := by
  refine mt_intro (by decide +kernel) ok hi (Nat.le_of_ble_eq_true rfl) (fun E X Y => ?_)
  change V E g tb ρ 6 0 [(0, .ref (ρ l0)), (1, .int l1), (2, .int l2), (3, .int l3), (4, .int l4), (5, .int l5)] [] h
  unfold f_Tt_feed at hf
  refine v_aload_n (pc := 0) (k := 0) X (by decide +kernel) 0 rfl ?_
  refine v_geti (pc := 1) X fl_0_15 kl0 rfl (by decide +kernel) ?_
  refine v_bipush (pc := 4) (n := 20) X (by decide +kernel) bi_20 ?_
  refine v_iadd (pc := 6) X (by decide +kernel) ?_
  refine v_sipush (pc := 7) (n := 700) X (by decide +kernel) si_700 ?_
  refine v_icmp_le (pc := 10) (off := 5) (tgt := 15) X (by decide +kernel) (by decide) (fun q6 => ?_) (fun q6 => ?_)
  · rw [if_pos q6] at hf
    refine v_aload_n (pc := 15) (k := 0) X (by decide +kernel) 0 rfl ?_
    refine v_iload_n (pc := 16) (k := 1) X (by decide +kernel) 1 rfl ?_
    obtain ⟨r1, er1, hf⟩ := bnd_e hf
    refine v_callV (pc := 17) (As := [.int l1]) (rest := []) X (mt_Tt_putFour ok hi kl0 er1) ml_0_93 mv_Tt_putFour kl0 cls_0 rfl ⟨Nat.le_of_ble_eq_true rfl, Nat.le_of_ble_eq_true rfl⟩ rfl rfl (Nat.le_of_ble_eq_true rfl) (by decide +kernel) ?_
    change V E g tb ρ 6 20 [(0, .ref (ρ l0)), (1, .int l1), (2, .int l2), (3, .int l3), (4, .int l4), (5, .int l5)] [] r1
    refine v_aload_n (pc := 20) (k := 0) X (by decide +kernel) 0 rfl ?_
    refine v_iload_n (pc := 21) (k := 2) X (by decide +kernel) 2 rfl ?_
    obtain ⟨r2, er2, hf⟩ := bnd_e hf
    refine v_callV (pc := 22) (As := [.int l2]) (rest := []) X (mt_Tt_putFour ok hi kl0 er2) ml_0_93 mv_Tt_putFour kl0 cls_0 rfl ⟨Nat.le_of_ble_eq_true rfl, Nat.le_of_ble_eq_true rfl⟩ rfl rfl (Nat.le_of_ble_eq_true rfl) (by decide +kernel) ?_
    change V E g tb ρ 6 25 [(0, .ref (ρ l0)), (1, .int l1), (2, .int l2), (3, .int l3), (4, .int l4), (5, .int l5)] [] r2
    refine v_aload_n (pc := 25) (k := 0) X (by decide +kernel) 0 rfl ?_
    refine v_iload_n (pc := 26) (k := 3) X (by decide +kernel) 3 rfl ?_
    obtain ⟨r3, er3, hf⟩ := bnd_e hf
    refine v_callV (pc := 27) (As := [.int l3]) (rest := []) X (mt_Tt_putFour ok hi kl0 er3) ml_0_93 mv_Tt_putFour kl0 cls_0 rfl ⟨Nat.le_of_ble_eq_true rfl, Nat.le_of_ble_eq_true rfl⟩ rfl rfl (Nat.le_of_ble_eq_true rfl) (by decide +kernel) ?_
    change V E g tb ρ 6 30 [(0, .ref (ρ l0)), (1, .int l1), (2, .int l2), (3, .int l3), (4, .int l4), (5, .int l5)] [] r3
    refine v_aload_n (pc := 30) (k := 0) X (by decide +kernel) 0 rfl ?_
    refine v_iload (pc := 31) (k := 4) X (by decide +kernel) 4 rfl ?_
    obtain ⟨r4, er4, hf⟩ := bnd_e hf
    refine v_callV (pc := 33) (As := [.int l4]) (rest := []) X (mt_Tt_putFour ok hi kl0 er4) ml_0_93 mv_Tt_putFour kl0 cls_0 rfl ⟨Nat.le_of_ble_eq_true rfl, Nat.le_of_ble_eq_true rfl⟩ rfl rfl (Nat.le_of_ble_eq_true rfl) (by decide +kernel) ?_
    change V E g tb ρ 6 36 [(0, .ref (ρ l0)), (1, .int l1), (2, .int l2), (3, .int l3), (4, .int l4), (5, .int l5)] [] r4
    refine v_aload_n (pc := 36) (k := 0) X (by decide +kernel) 0 rfl ?_
    refine v_iload (pc := 37) (k := 5) X (by decide +kernel) 5 rfl ?_
    obtain ⟨r5, er5, hf⟩ := bnd_e hf
    refine v_callV (pc := 39) (As := [.int l5]) (rest := []) X (mt_Tt_putFour ok hi kl0 er5) ml_0_93 mv_Tt_putFour kl0 cls_0 rfl ⟨Nat.le_of_ble_eq_true rfl, Nat.le_of_ble_eq_true rfl⟩ rfl rfl (Nat.le_of_ble_eq_true rfl) (by decide +kernel) ?_
    change V E g tb ρ 6 42 [(0, .ref (ρ l0)), (1, .int l1), (2, .int l2), (3, .int l3), (4, .int l4), (5, .int l5)] [] r5
    refine v_aload_n (pc := 42) (k := 0) X (by decide +kernel) 0 rfl ?_
    refine v_geti (pc := 43) X fl_0_15 kl0 rfl (by decide +kernel) ?_
    cases hf
    exact v_iret X Y (by decide +kernel) rfl rfl
  · rw [if_neg q6] at hf
    refine v_iconst (pc := 13) (n := -1) X (by decide +kernel) ic_m1 ?_
    cases hf
    exact v_iret X Y (by decide +kernel) rfl rfl
def lp_Ar_fill_5 (tb : Tb) : Nat → Hp → Nat → Int32 → Int32 → Int32 → Option (Hp)
  | 0, _, _, _, _, _ => none
  | n + 1, h, l0, l1, l2, l3 =>
    if l3 ≤ l2 then (
      some h
    ) else (
      (wI tb h l0 l2 l1).bind fun h1 =>
      nmd (l2 + (1 : Int32)) fun x2 =>
      lp_Ar_fill_5 tb n h1 l0 l1 x2 l3
    )
def f_Ar_fill (tb : Tb) (h : Hp) (l0 : Nat) (l1 : Int32) : Option (Hp) :=
  nmd (Int32.ofNat (al tb l0)) fun x1 =>
  lp_Ar_fill_5 tb fu h l0 l1 (0 : Int32) x1
set_option maxRecDepth 4000 in
set_option maxHeartbeats 1000000 in
theorem vlp_Ar_fill_5 {E : En} {g : Gl} {tb : Tb} {ρ : Nat → Nat} (ok : TbOK tb) (hi : inj tb ρ) {r : Hp} (X : CX E g tb ρ prog_30_method_103_code 4 "java/util/Arrays" 0 0) (Y : CQ E g tb ρ none (none) r) : ∀ (n : Nat) (h : Hp) (l0 : Nat) (l1 : Int32) (l2 : Int32) (l3 : Int32) (kl0 : kd tb l0 = 20), lp_Ar_fill_5 tb n h l0 l1 l2 l3 = some r → V E g tb ρ 4 5 [(0, .ref (ρ l0)), (1, .int l1), (2, .int l2), (3, .int l3)] [] h := by
  intro n
  induction n with
  | zero =>
    intro h l0 l1 l2 l3 kl0 hf
    rw [lp_Ar_fill_5] at hf
    cases hf
  | succ n ih =>
    intro h l0 l1 l2 l3 kl0 hf
    rw [lp_Ar_fill_5] at hf
    refine v_iload_n (pc := 5) (k := 2) X (by decide +kernel) 2 rfl ?_
    refine v_iload_n (pc := 6) (k := 3) X (by decide +kernel) 3 rfl ?_
    refine v_icmp_ge (pc := 7) (off := 13) (tgt := 20) X (by decide +kernel) (by decide) (fun q3 => ?_) (fun q3 => ?_)
    · rw [if_pos q3] at hf
      cases hf
      exact v_vret X Y (by decide +kernel) rfl rfl
    · rw [if_neg q3] at hf
      refine v_aload_n (pc := 10) (k := 0) X (by decide +kernel) 0 rfl ?_
      refine v_iload_n (pc := 11) (k := 2) X (by decide +kernel) 2 rfl ?_
      refine v_iload_n (pc := 12) (k := 1) X (by decide +kernel) 1 rfl ?_
      obtain ⟨h1, eh1, hf⟩ := bnd_e hf
      refine v_iast (pc := 13) X kl0 eh1 (by decide +kernel) ?_
      obtain ⟨x2, ex2, hf⟩ := nmd_e hf
      refine v_iinc (pc := 14) (k := 2) (n := 1) (v := x2) (lv' := [(2, .int x2), (0, .ref (ρ l0)), (1, .int l1), (3, .int l3)]) X (by decide +kernel) 2 rfl (by rw [ic_1, ex2]) (Nat.le_of_ble_eq_true rfl) rfl ?_
      refine v_goto (pc := 17) (off := -12) (tgt := 5) X (by decide +kernel) (by decide) ?_
      refine v_sub [1, 2, 0, 3] rfl ?_
      exact ih h1 l0 l1 x2 l3 kl0 hf
set_option maxRecDepth 4000 in
set_option maxHeartbeats 1000000 in
theorem mt_Ar_fill {g : Gl} {tb : Tb} {ρ : Nat → Nat} (ok : TbOK tb) (hi : inj tb ρ) {h : Hp} {l0 : Nat} {l1 : Int32} (kl0 : kd tb l0 = 20) {r : Hp} (hf : f_Ar_fill tb h l0 l1 = some r) : MT g y_Ar_fill prog_30_method_103_code 4 none 0 0 tb ρ [.ref (ρ l0), .int l1] h (none) r := by
  refine mt_intro (by decide +kernel) ok hi (Nat.le_of_ble_eq_true rfl) (fun E X Y => ?_)
  change V E g tb ρ 4 0 [(0, .ref (ρ l0)), (1, .int l1)] [] h
  unfold f_Ar_fill at hf
  refine v_iconst (pc := 0) (n := 0) X (by decide +kernel) ic_0 ?_
  refine v_istore_n (pc := 1) (k := 2) (lv' := [(2, .int (0 : Int32)), (0, .ref (ρ l0)), (1, .int l1)]) X (by decide +kernel) (Nat.le_of_ble_eq_true rfl) rfl ?_
  refine v_aload_n (pc := 2) (k := 0) X (by decide +kernel) 1 rfl ?_
  refine v_alen (pc := 3) X (by rw [kl0]; decide) (by decide +kernel) ?_
  obtain ⟨x1, ex1, hf⟩ := nmd_e hf
  refine v_nmi ex1 ?_
  refine v_istore_n (pc := 4) (k := 3) (lv' := [(3, .int x1), (2, .int (0 : Int32)), (0, .ref (ρ l0)), (1, .int l1)]) X (by decide +kernel) (Nat.le_of_ble_eq_true rfl) rfl ?_
  refine v_sub [2, 3, 1, 0] rfl ?_
  exact vlp_Ar_fill_5 ok hi X Y fu h l0 l1 (0 : Int32) x1 kl0 hf
def f_La_clear (tb : Tb) (h : Hp) (l0 : Nat) : Option (Hp) :=
  nmd (pI h l0 0 (0 : Int32)) fun h1 =>
  nmd (pI h1 l0 1 (0 : Int32)) fun h2 =>
  (f_Ar_fill tb h2 (lay tb l0 3) (0 : Int32)).bind fun r3 =>
  (f_Ar_fill tb r3 (lay tb l0 4) (0 : Int32)).bind fun r4 =>
  some r4
set_option maxRecDepth 4000 in
set_option maxHeartbeats 1000000 in
theorem mt_La_clear {g : Gl} {tb : Tb} {ρ : Nat → Nat} (ok : TbOK tb) (hi : inj tb ρ) {h : Hp} {l0 : Nat} (kl0 : kd tb l0 = 6) {r : Hp} (hf : f_La_clear tb h l0 = some r) : MT g y_La_clear prog_7_method_2_code 1 none 1 23 tb ρ [.ref (ρ l0)] h (none) r := by
  refine mt_intro (by decide +kernel) ok hi (Nat.le_of_ble_eq_true rfl) (fun E X Y => ?_)
  change V E g tb ρ 1 0 [(0, .ref (ρ l0))] [] h
  unfold f_La_clear at hf
  refine v_aload_n (pc := 0) (k := 0) X (by decide +kernel) 0 rfl ?_
  refine v_iconst (pc := 1) (n := 0) X (by decide +kernel) ic_0 ?_
  obtain ⟨h1, eh1, hf⟩ := nmd_e hf
  refine v_puti (pc := 2) X fp_6_25 kl0 rfl (by decide +kernel) eh1 ?_
  refine v_aload_n (pc := 5) (k := 0) X (by decide +kernel) 0 rfl ?_
  refine v_iconst (pc := 6) (n := 0) X (by decide +kernel) ic_0 ?_
  obtain ⟨h2, eh2, hf⟩ := nmd_e hf
  refine v_puti (pc := 7) X fp_6_29 kl0 rfl (by decide +kernel) eh2 ?_
  refine v_aload_n (pc := 10) (k := 0) X (by decide +kernel) 0 rfl ?_
  refine v_geta (pc := 11) X fl_6_15 kl0 fk_6_3 (by decide +kernel) ?_
  refine v_iconst (pc := 14) (n := 0) X (by decide +kernel) ic_0 ?_
  obtain ⟨r3, er3, hf⟩ := bnd_e hf
  refine v_callS (pc := 15) (As := [.ref (ρ (lay tb l0 3)), .int (0 : Int32)]) (rest := []) X (mt_Ar_fill ok hi (ly_6_3 ok kl0) er3) ml_6_32 ms_Ar_fill ⟨Nat.le_of_ble_eq_true rfl, Nat.le_of_ble_eq_true rfl⟩ rfl rfl (Nat.le_of_ble_eq_true rfl) (by decide +kernel) ?_
  change V E g tb ρ 1 18 [(0, .ref (ρ l0))] [] r3
  refine v_aload_n (pc := 18) (k := 0) X (by decide +kernel) 0 rfl ?_
  refine v_geta (pc := 19) X fl_6_18 kl0 fk_6_4 (by decide +kernel) ?_
  refine v_iconst (pc := 22) (n := 0) X (by decide +kernel) ic_0 ?_
  obtain ⟨r4, er4, hf⟩ := bnd_e hf
  refine v_callS (pc := 23) (As := [.ref (ρ (lay tb l0 4)), .int (0 : Int32)]) (rest := []) X (mt_Ar_fill ok hi (ly_6_4 ok kl0) er4) ml_6_32 ms_Ar_fill ⟨Nat.le_of_ble_eq_true rfl, Nat.le_of_ble_eq_true rfl⟩ rfl rfl (Nat.le_of_ble_eq_true rfl) (by decide +kernel) ?_
  change V E g tb ρ 1 26 [(0, .ref (ρ l0))] [] r4
  cases hf
  exact v_vret X Y (by decide +kernel) rfl rfl
def f_Pl_clear (tb : Tb) (h : Hp) (l0 : Nat) : Option (Hp) :=
  nmd (pI h l0 0 (20 : Int32)) fun h1 =>
  nmd (pI h1 l0 1 (0 : Int32)) fun h2 =>
  nmd (pI h2 l0 2 (0 : Int32)) fun h3 =>
  nmd (pI h3 l0 3 (0 : Int32)) fun h4 =>
  nmd (pI h4 l0 4 (0 : Int32)) fun h5 =>
  nmd (pI h5 l0 5 (0 : Int32)) fun h6 =>
  (f_Ar_fill tb h6 (lay tb l0 10) (-1 : Int32)).bind fun r7 =>
  (f_La_clear tb r7 (lay tb l0 19)).bind fun r8 =>
  some r8
set_option maxRecDepth 4000 in
set_option maxHeartbeats 1000000 in
theorem mt_Pl_clear {g : Gl} {tb : Tb} {ρ : Nat → Nat} (ok : TbOK tb) (hi : inj tb ρ) {h : Hp} {l0 : Nat} (kl0 : kd tb l0 = 7) {r : Hp} (hf : f_Pl_clear tb h l0 = some r) : MT g y_Pl_clear prog_8_method_2_code 1 none 2 43 tb ρ [.ref (ρ l0)] h (none) r := by
  refine mt_intro (by decide +kernel) ok hi (Nat.le_of_ble_eq_true rfl) (fun E X Y => ?_)
  change V E g tb ρ 1 0 [(0, .ref (ρ l0))] [] h
  unfold f_Pl_clear at hf
  refine v_aload_n (pc := 0) (k := 0) X (by decide +kernel) 0 rfl ?_
  refine v_bipush (pc := 1) (n := 20) X (by decide +kernel) bi_20 ?_
  obtain ⟨h1, eh1, hf⟩ := nmd_e hf
  refine v_puti (pc := 3) X fp_7_61 kl0 rfl (by decide +kernel) eh1 ?_
  refine v_aload_n (pc := 6) (k := 0) X (by decide +kernel) 0 rfl ?_
  refine v_iconst (pc := 7) (n := 0) X (by decide +kernel) ic_0 ?_
  obtain ⟨h2, eh2, hf⟩ := nmd_e hf
  refine v_puti (pc := 8) X fp_7_65 kl0 rfl (by decide +kernel) eh2 ?_
  refine v_aload_n (pc := 11) (k := 0) X (by decide +kernel) 0 rfl ?_
  refine v_iconst (pc := 12) (n := 0) X (by decide +kernel) ic_0 ?_
  obtain ⟨h3, eh3, hf⟩ := nmd_e hf
  refine v_puti (pc := 13) X fp_7_68 kl0 rfl (by decide +kernel) eh3 ?_
  refine v_aload_n (pc := 16) (k := 0) X (by decide +kernel) 0 rfl ?_
  refine v_iconst (pc := 17) (n := 0) X (by decide +kernel) ic_0 ?_
  obtain ⟨h4, eh4, hf⟩ := nmd_e hf
  refine v_puti (pc := 18) X fp_7_71 kl0 rfl (by decide +kernel) eh4 ?_
  refine v_aload_n (pc := 21) (k := 0) X (by decide +kernel) 0 rfl ?_
  refine v_iconst (pc := 22) (n := 0) X (by decide +kernel) ic_0 ?_
  obtain ⟨h5, eh5, hf⟩ := nmd_e hf
  refine v_puti (pc := 23) X fp_7_74 kl0 rfl (by decide +kernel) eh5 ?_
  refine v_aload_n (pc := 26) (k := 0) X (by decide +kernel) 0 rfl ?_
  refine v_iconst (pc := 27) (n := 0) X (by decide +kernel) ic_0 ?_
  obtain ⟨h6, eh6, hf⟩ := nmd_e hf
  refine v_puti (pc := 28) X fp_7_77 kl0 rfl (by decide +kernel) eh6 ?_
  refine v_aload_n (pc := 31) (k := 0) X (by decide +kernel) 0 rfl ?_
  refine v_geta (pc := 32) X fl_7_24 kl0 fk_7_10 (by decide +kernel) ?_
  refine v_iconst (pc := 35) (n := -1) X (by decide +kernel) ic_m1 ?_
  obtain ⟨r7, er7, hf⟩ := bnd_e hf
  refine v_callS (pc := 36) (As := [.ref (ρ (lay tb l0 10)), .int (-1 : Int32)]) (rest := []) X (mt_Ar_fill ok hi (ly_7_10 ok kl0) er7) ml_7_80 ms_Ar_fill ⟨Nat.le_of_ble_eq_true rfl, Nat.le_of_ble_eq_true rfl⟩ rfl rfl (Nat.le_of_ble_eq_true rfl) (by decide +kernel) ?_
  change V E g tb ρ 1 39 [(0, .ref (ρ l0))] [] r7
  refine v_aload_n (pc := 39) (k := 0) X (by decide +kernel) 0 rfl ?_
  refine v_geta (pc := 40) X fl_7_54 kl0 fk_7_19 (by decide +kernel) ?_
  obtain ⟨r8, er8, hf⟩ := bnd_e hf
  refine v_callV (pc := 43) (As := []) (rest := []) X (mt_La_clear ok hi (ly_7_19 ok kl0) er8) ml_7_86 mv_La_clear (ly_7_19 ok kl0) cls_6 rfl ⟨Nat.le_of_ble_eq_true rfl, Nat.le_of_ble_eq_true rfl⟩ rfl rfl (Nat.le_of_ble_eq_true rfl) (by decide +kernel) ?_
  change V E g tb ρ 1 46 [(0, .ref (ρ l0))] [] r8
  cases hf
  exact v_vret X Y (by decide +kernel) rfl rfl
def f_Sc_isLetter (tb : Tb) (h : Hp) (l0 : Int32) : Int32 :=
  if l0 < (97 : Int32) then (
    (0 : Int32)
  ) else (
    if (122 : Int32) < l0 then (
      (0 : Int32)
    ) else (
      (1 : Int32)
    )
  )
set_option maxRecDepth 4000 in
set_option maxHeartbeats 1000000 in
theorem mt_Sc_isLetter {g : Gl} {tb : Tb} {ρ : Nat → Nat} (ok : TbOK tb) (hi : inj tb ρ) {h : Hp} {l0 : Int32}  {r : Int32} (hf : f_Sc_isLetter tb h l0 = r) : MT g y_Sc_isLetter prog_9_method_5_code 1 (some .boolean) 0 0 tb ρ [.int l0] h (some (.int r)) h := by
  refine mt_intro (by decide +kernel) ok hi (Nat.le_of_ble_eq_true rfl) (fun E X Y => ?_)
  change V E g tb ρ 1 0 [(0, .int l0)] [] h
  unfold f_Sc_isLetter at hf
  refine v_iload_n (pc := 0) (k := 0) X (by decide +kernel) 0 rfl ?_
  refine v_bipush (pc := 1) (n := 97) X (by decide +kernel) bi_97 ?_
  refine v_icmp_lt (pc := 3) (off := 13) (tgt := 16) X (by decide +kernel) (by decide) (fun q2 => ?_) (fun q2 => ?_)
  · rw [if_pos q2] at hf
    refine v_iconst (pc := 16) (n := 0) X (by decide +kernel) ic_0 ?_
    cases hf
    exact v_zret (hz := rfl) X Y (by decide +kernel) rfl rfl
  · rw [if_neg q2] at hf
    refine v_iload_n (pc := 6) (k := 0) X (by decide +kernel) 0 rfl ?_
    refine v_bipush (pc := 7) (n := 122) X (by decide +kernel) bi_122 ?_
    refine v_icmp_gt (pc := 9) (off := 7) (tgt := 16) X (by decide +kernel) (by decide) (fun q1 => ?_) (fun q1 => ?_)
    · rw [if_pos q1] at hf
      refine v_iconst (pc := 16) (n := 0) X (by decide +kernel) ic_0 ?_
      cases hf
      exact v_zret (hz := rfl) X Y (by decide +kernel) rfl rfl
    · rw [if_neg q1] at hf
      refine v_iconst (pc := 12) (n := 1) X (by decide +kernel) ic_1 ?_
      refine v_goto (pc := 13) (off := 4) (tgt := 17) X (by decide +kernel) (by decide) ?_
      cases hf
      exact v_zret (hz := rfl) X Y (by decide +kernel) rfl rfl
def lp_Tt_find_2 (tb : Tb) : Nat → Hp → Nat → Int32 → Int32 → Int32 → Option (Int32)
  | 0, _, _, _, _, _ => none
  | n + 1, h, l0, l1, l2, l3 =>
    if l1 ≤ l3 then (
      some (-1 : Int32)
    ) else (
      if (Int32.ofNat (al tb l0)) ≤ l3 then (
        some (-1 : Int32)
      ) else (
        (rI tb h l0 l3).bind fun x1 =>
        if x1 = l2 then (
          some l3
        ) else (
          nmd (l3 + (1 : Int32)) fun x2 =>
          lp_Tt_find_2 tb n h l0 l1 l2 x2
        )
      )
    )
def f_Tt_find (tb : Tb) (h : Hp) (l0 : Nat) (l1 : Int32) (l2 : Int32) : Option (Int32) :=
  lp_Tt_find_2 tb fu h l0 l1 l2 (0 : Int32)
set_option maxRecDepth 4000 in
set_option maxHeartbeats 1000000 in
theorem vlp_Tt_find_2 {E : En} {g : Gl} {tb : Tb} {ρ : Nat → Nat} (ok : TbOK tb) (hi : inj tb ρ) {r : Int32} (X : CX E g tb ρ prog_1_method_7_code 4 RC0 0 0) {h : Hp} (Y : CQ E g tb ρ (some .int) (some (.int r)) h) : ∀ (n : Nat) (l0 : Nat) (l1 : Int32) (l2 : Int32) (l3 : Int32) (kl0 : kd tb l0 = 20), lp_Tt_find_2 tb n h l0 l1 l2 l3 = some r → V E g tb ρ 4 2 [(0, .ref (ρ l0)), (1, .int l1), (2, .int l2), (3, .int l3)] [] h := by
  intro n
  induction n with
  | zero =>
    intro l0 l1 l2 l3 kl0 hf
    rw [lp_Tt_find_2] at hf
    cases hf
  | succ n ih =>
    intro l0 l1 l2 l3 kl0 hf
    rw [lp_Tt_find_2] at hf
    refine v_iload_n (pc := 2) (k := 3) X (by decide +kernel) 3 rfl ?_
    refine v_iload_n (pc := 3) (k := 1) X (by decide +kernel) 1 rfl ?_
    refine v_icmp_ge (pc := 4) (off := 24) (tgt := 28) X (by decide +kernel) (by decide) (fun q5 => ?_) (fun q5 => ?_)
    · rw [if_pos q5] at hf
      refine v_iconst (pc := 28) (n := -1) X (by decide +kernel) ic_m1 ?_
      cases hf
      exact v_iret X Y (by decide +kernel) rfl rfl
    · rw [if_neg q5] at hf
      refine v_iload_n (pc := 7) (k := 3) X (by decide +kernel) 3 rfl ?_
      refine v_aload_n (pc := 8) (k := 0) X (by decide +kernel) 0 rfl ?_
      refine v_alen (pc := 9) X (by rw [kl0]; decide) (by decide +kernel) ?_
      refine v_icmp_ge (pc := 10) (off := 18) (tgt := 28) X (by decide +kernel) (by decide) (fun q4 => ?_) (fun q4 => ?_)
      · rw [if_pos q4] at hf
        refine v_iconst (pc := 28) (n := -1) X (by decide +kernel) ic_m1 ?_
        cases hf
        exact v_iret X Y (by decide +kernel) rfl rfl
      · rw [if_neg q4] at hf
        refine v_aload_n (pc := 13) (k := 0) X (by decide +kernel) 0 rfl ?_
        refine v_iload_n (pc := 14) (k := 3) X (by decide +kernel) 3 rfl ?_
        obtain ⟨x1, ex1, hf⟩ := bnd_e hf
        refine v_iald (pc := 15) X kl0 ex1 (by decide +kernel) ?_
        refine v_iload_n (pc := 16) (k := 2) X (by decide +kernel) 2 rfl ?_
        refine v_icmp_ne (pc := 17) (off := 5) (tgt := 22) X (by decide +kernel) (by decide) (fun q3 => ?_) (fun q3 => ?_)
        · rw [if_neg q3] at hf
          obtain ⟨x2, ex2, hf⟩ := nmd_e hf
          refine v_iinc (pc := 22) (k := 3) (n := 1) (v := x2) (lv' := [(3, .int x2), (0, .ref (ρ l0)), (1, .int l1), (2, .int l2)]) X (by decide +kernel) 3 rfl (by rw [ic_1, ex2]) (Nat.le_of_ble_eq_true rfl) rfl ?_
          refine v_goto (pc := 25) (off := -23) (tgt := 2) X (by decide +kernel) (by decide) ?_
          refine v_sub [1, 2, 3, 0] rfl ?_
          exact ih l0 l1 l2 x2 kl0 hf
        · rw [if_pos q3] at hf
          refine v_iload_n (pc := 20) (k := 3) X (by decide +kernel) 3 rfl ?_
          cases hf
          exact v_iret X Y (by decide +kernel) rfl rfl
set_option maxRecDepth 4000 in
set_option maxHeartbeats 1000000 in
theorem mt_Tt_find {g : Gl} {tb : Tb} {ρ : Nat → Nat} (ok : TbOK tb) (hi : inj tb ρ) {h : Hp} {l0 : Nat} {l1 : Int32} {l2 : Int32} (kl0 : kd tb l0 = 20) {r : Int32} (hf : f_Tt_find tb h l0 l1 l2 = some r) : MT g y_Tt_find prog_1_method_7_code 4 (some .int) 0 0 tb ρ [.ref (ρ l0), .int l1, .int l2] h (some (.int r)) h := by
  refine mt_intro (by decide +kernel) ok hi (Nat.le_of_ble_eq_true rfl) (fun E X Y => ?_)
  change V E g tb ρ 4 0 [(0, .ref (ρ l0)), (1, .int l1), (2, .int l2)] [] h
  unfold f_Tt_find at hf
  refine v_iconst (pc := 0) (n := 0) X (by decide +kernel) ic_0 ?_
  refine v_istore_n (pc := 1) (k := 3) (lv' := [(3, .int (0 : Int32)), (0, .ref (ρ l0)), (1, .int l1), (2, .int l2)]) X (by decide +kernel) (Nat.le_of_ble_eq_true rfl) rfl ?_
  refine v_sub [1, 2, 3, 0] rfl ?_
  exact vlp_Tt_find_2 ok hi X Y fu l0 l1 l2 (0 : Int32) kl0 hf
def jb_Sc_readWord_136 (tb : Tb) (h : Hp) (s0 : Nat) (s1 : Int32) : Option (Hp) :=
  nmd (pI h s0 0 s1) fun h1 =>
  some h1
def jb_Sc_readWord_74 (tb : Tb) (h : Hp) (l0 : Nat) (l1 : Int32) : Option (Hp) :=
  nmd ((h.1 l0 7) - (h.1 l0 1)) fun x1 =>
  if x1 ≤ (6 : Int32) then (
    nmd (pI h l0 3 (l1 <<< (((5 : Int32) * ((6 : Int32) - x1)) &&& 31))) fun h2 =>
    (f_Tt_find tb h2 (lay tb l0 5) (20 : Int32) (h2.1 l0 3)).bind fun r3 =>
    if r3 = (-1 : Int32) then (
      jb_Sc_readWord_136 tb h2 l0 (3 : Int32)
    ) else (
      jb_Sc_readWord_136 tb h2 l0 ((10 : Int32) + r3)
    )
  ) else (
    nmd (pI h l0 0 (1 : Int32)) fun h5 =>
    some h5
  )
def jb_Sc_readWord_61 (tb : Tb) (c2 : Hp → Nat → Int32 → Option (Hp)) (h : Hp) (l0 : Nat) (l1 : Int32) : Option (Hp) :=
  nmd (pI h l0 7 ((h.1 l0 7) + (1 : Int32))) fun h1 =>
  c2 h1 l0 l1
def lp_Sc_readWord_2 (tb : Tb) : Nat → Hp → Nat → Int32 → Option (Hp)
  | 0, _, _, _ => none
  | n + 1, h, l0, l1 =>
    if (h.1 l0 6) ≤ (h.1 l0 7) then (
      jb_Sc_readWord_74 tb h l0 l1
    ) else (
      (rI tb h (lay tb l0 4) (h.1 l0 7)).bind fun x1 =>
      nmd (f_Sc_isLetter tb h x1) fun r2 =>
      if r2 = (0 : Int32) then (
        jb_Sc_readWord_74 tb h l0 l1
      ) else (
        if (6 : Int32) ≤ ((h.1 l0 7) - (h.1 l0 1)) then (
          jb_Sc_readWord_61 tb (lp_Sc_readWord_2 tb n) h l0 l1
        ) else (
          (rI tb h (lay tb l0 4) (h.1 l0 7)).bind fun x3 =>
          nmd ((l1 <<< ((5 : Int32) &&& 31)) ||| ((x3 - (97 : Int32)) + (1 : Int32))) fun x4 =>
          jb_Sc_readWord_61 tb (lp_Sc_readWord_2 tb n) h l0 x4
        )
      )
    )
def f_Sc_readWord (tb : Tb) (h : Hp) (l0 : Nat) : Option (Hp) :=
  lp_Sc_readWord_2 tb fu h l0 (0 : Int32)
set_option maxRecDepth 4000 in
set_option maxHeartbeats 1000000 in
theorem vjb_Sc_readWord_136 {E : En} {g : Gl} {tb : Tb} {ρ : Nat → Nat} (ok : TbOK tb) (hi : inj tb ρ) {r : Hp} (X : CX E g tb ρ prog_9_method_7_code 4 RC8 1 23) (Y : CQ E g tb ρ none (none) r) (h : Hp) (s0 : Nat) (s1 : Int32) (ks0 : kd tb s0 = 8) (hf : jb_Sc_readWord_136 tb h s0 s1 = some r) : V E g tb ρ 4 136 [] [.int s1, .ref (ρ s0)] h := by
  unfold jb_Sc_readWord_136 at hf
  obtain ⟨h1, eh1, hf⟩ := nmd_e hf
  refine v_puti (pc := 136) X fp_8_54 ks0 rfl (by decide +kernel) eh1 ?_
  cases hf
  exact v_vret X Y (by decide +kernel) rfl rfl
set_option maxRecDepth 4000 in
set_option maxHeartbeats 1000000 in
theorem vjb_Sc_readWord_74 {E : En} {g : Gl} {tb : Tb} {ρ : Nat → Nat} (ok : TbOK tb) (hi : inj tb ρ) {r : Hp} (X : CX E g tb ρ prog_9_method_7_code 4 RC8 1 23) (Y : CQ E g tb ρ none (none) r) (h : Hp) (l0 : Nat) (l1 : Int32) (kl0 : kd tb l0 = 8) (hf : jb_Sc_readWord_74 tb h l0 l1 = some r) : V E g tb ρ 4 74 [(0, .ref (ρ l0)), (1, .int l1)] [] h := by
  unfold jb_Sc_readWord_74 at hf
  refine v_aload_n (pc := 74) (k := 0) X (by decide +kernel) 0 rfl ?_
  refine v_geti (pc := 75) X fl_8_45 kl0 rfl (by decide +kernel) ?_
  refine v_aload_n (pc := 78) (k := 0) X (by decide +kernel) 0 rfl ?_
  refine v_geti (pc := 79) X fl_8_51 kl0 rfl (by decide +kernel) ?_
  refine v_isub (pc := 82) X (by decide +kernel) ?_
  obtain ⟨x1, ex1, hf⟩ := nmd_e hf
  refine v_nmi ex1 ?_
  refine v_istore_n (pc := 83) (k := 2) (lv' := [(2, .int x1), (0, .ref (ρ l0)), (1, .int l1)]) X (by decide +kernel) (Nat.le_of_ble_eq_true rfl) rfl ?_
  refine v_iload_n (pc := 84) (k := 2) X (by decide +kernel) 0 rfl ?_
  refine v_bipush (pc := 85) (n := 6) X (by decide +kernel) bi_6 ?_
  refine v_icmp_le (pc := 87) (off := 9) (tgt := 96) X (by decide +kernel) (by decide) (fun q6 => ?_) (fun q6 => ?_)
  · rw [if_pos q6] at hf
    refine v_aload_n (pc := 96) (k := 0) X (by decide +kernel) 1 rfl ?_
    refine v_iload_n (pc := 97) (k := 1) X (by decide +kernel) 2 rfl ?_
    refine v_iconst (pc := 98) (n := 5) X (by decide +kernel) ic_5 ?_
    refine v_bipush (pc := 99) (n := 6) X (by decide +kernel) bi_6 ?_
    refine v_iload_n (pc := 101) (k := 2) X (by decide +kernel) 0 rfl ?_
    refine v_isub (pc := 102) X (by decide +kernel) ?_
    refine v_imul (pc := 103) X (by decide +kernel) ?_
    refine v_ishl (pc := 104) X (by decide +kernel) ?_
    obtain ⟨h2, eh2, hf⟩ := nmd_e hf
    refine v_puti (pc := 105) X fp_8_74 kl0 rfl (by decide +kernel) eh2 ?_
    refine v_aload_n (pc := 108) (k := 0) X (by decide +kernel) 1 rfl ?_
    refine v_geta (pc := 109) X fl_8_9 kl0 fk_8_5 (by decide +kernel) ?_
    refine v_bipush (pc := 112) (n := 20) X (by decide +kernel) bi_20 ?_
    refine v_aload_n (pc := 114) (k := 0) X (by decide +kernel) 1 rfl ?_
    refine v_geti (pc := 115) X fl_8_74 kl0 rfl (by decide +kernel) ?_
    obtain ⟨r3, er3, hf⟩ := bnd_e hf
    refine v_callSN (pc := 118) (As := [.ref (ρ (lay tb l0 5)), .int (20 : Int32), .int (h2.1 l0 3)]) (rest := []) X (mt_Tt_find ok hi (ly_8_5 ok kl0) er3) ml_8_77 ms_Tt_find ⟨Nat.le_of_ble_eq_true rfl, Nat.le_of_ble_eq_true rfl⟩ rfl rfl (Nat.le_of_ble_eq_true rfl) (by decide +kernel) ?_
    change V E g tb ρ 4 121 [(2, .int x1), (0, .ref (ρ l0)), (1, .int l1)] [.int r3] h2
    refine v_istore_n (pc := 121) (k := 3) (lv' := [(3, .int r3), (2, .int x1), (0, .ref (ρ l0)), (1, .int l1)]) X (by decide +kernel) (Nat.le_of_ble_eq_true rfl) rfl ?_
    refine v_aload_n (pc := 122) (k := 0) X (by decide +kernel) 2 rfl ?_
    refine v_iload_n (pc := 123) (k := 3) X (by decide +kernel) 0 rfl ?_
    refine v_iconst (pc := 124) (n := -1) X (by decide +kernel) ic_m1 ?_
    refine v_icmp_ne (pc := 125) (off := 7) (tgt := 132) X (by decide +kernel) (by decide) (fun q4 => ?_) (fun q4 => ?_)
    · rw [if_neg q4] at hf
      refine v_bipush (pc := 132) (n := 10) X (by decide +kernel) bi_10 ?_
      refine v_iload_n (pc := 134) (k := 3) X (by decide +kernel) 0 rfl ?_
      refine v_iadd (pc := 135) X (by decide +kernel) ?_
      refine v_sub [] rfl ?_
      exact vjb_Sc_readWord_136 ok hi X Y h2 l0 ((10 : Int32) + r3) kl0 hf
    · rw [if_pos q4] at hf
      refine v_iconst (pc := 128) (n := 3) X (by decide +kernel) ic_3 ?_
      refine v_goto (pc := 129) (off := 7) (tgt := 136) X (by decide +kernel) (by decide) ?_
      refine v_sub [] rfl ?_
      exact vjb_Sc_readWord_136 ok hi X Y h2 l0 (3 : Int32) kl0 hf
  · rw [if_neg q6] at hf
    refine v_aload_n (pc := 90) (k := 0) X (by decide +kernel) 1 rfl ?_
    refine v_iconst (pc := 91) (n := 1) X (by decide +kernel) ic_1 ?_
    obtain ⟨h5, eh5, hf⟩ := nmd_e hf
    refine v_puti (pc := 92) X fp_8_54 kl0 rfl (by decide +kernel) eh5 ?_
    cases hf
    exact v_vret X Y (by decide +kernel) rfl rfl
set_option maxRecDepth 4000 in
set_option maxHeartbeats 1000000 in
theorem vjb_Sc_readWord_61 {E : En} {g : Gl} {tb : Tb} {ρ : Nat → Nat} (ok : TbOK tb) (hi : inj tb ρ) {r : Hp} (X : CX E g tb ρ prog_9_method_7_code 4 RC8 1 23) (Y : CQ E g tb ρ none (none) r) {c2 : Hp → Nat → Int32 → Option (Hp)} (H2 : ∀ (h : Hp) (l0 : Nat) (l1 : Int32) (kl0 : kd tb l0 = 8), c2 h l0 l1 = some r → V E g tb ρ 4 2 [(0, .ref (ρ l0)), (1, .int l1)] [] h) (h : Hp) (l0 : Nat) (l1 : Int32) (kl0 : kd tb l0 = 8) (hf : jb_Sc_readWord_61 tb c2 h l0 l1 = some r) : V E g tb ρ 4 61 [(0, .ref (ρ l0)), (1, .int l1)] [] h := by
  unfold jb_Sc_readWord_61 at hf
  refine v_aload_n (pc := 61) (k := 0) X (by decide +kernel) 0 rfl ?_
  refine v_dup (pc := 62) X (by decide +kernel) rfl ?_
  refine v_geti (pc := 63) X fl_8_45 kl0 rfl (by decide +kernel) ?_
  refine v_iconst (pc := 66) (n := 1) X (by decide +kernel) ic_1 ?_
  refine v_iadd (pc := 67) X (by decide +kernel) ?_
  obtain ⟨h1, eh1, hf⟩ := nmd_e hf
  refine v_puti (pc := 68) X fp_8_45 kl0 rfl (by decide +kernel) eh1 ?_
  refine v_goto (pc := 71) (off := -69) (tgt := 2) X (by decide +kernel) (by decide) ?_
  exact H2 h1 l0 l1 kl0 hf
set_option maxRecDepth 4000 in
set_option maxHeartbeats 1000000 in
theorem vlp_Sc_readWord_2 {E : En} {g : Gl} {tb : Tb} {ρ : Nat → Nat} (ok : TbOK tb) (hi : inj tb ρ) {r : Hp} (X : CX E g tb ρ prog_9_method_7_code 4 RC8 1 23) (Y : CQ E g tb ρ none (none) r) : ∀ (n : Nat) (h : Hp) (l0 : Nat) (l1 : Int32) (kl0 : kd tb l0 = 8), lp_Sc_readWord_2 tb n h l0 l1 = some r → V E g tb ρ 4 2 [(0, .ref (ρ l0)), (1, .int l1)] [] h := by
  intro n
  induction n with
  | zero =>
    intro h l0 l1 kl0 hf
    rw [lp_Sc_readWord_2] at hf
    cases hf
  | succ n ih =>
    intro h l0 l1 kl0 hf
    rw [lp_Sc_readWord_2] at hf
    refine v_aload_n (pc := 2) (k := 0) X (by decide +kernel) 0 rfl ?_
    refine v_geti (pc := 3) X fl_8_45 kl0 rfl (by decide +kernel) ?_
    refine v_aload_n (pc := 6) (k := 0) X (by decide +kernel) 0 rfl ?_
    refine v_geti (pc := 7) X fl_8_41 kl0 rfl (by decide +kernel) ?_
    refine v_icmp_ge (pc := 10) (off := 64) (tgt := 74) X (by decide +kernel) (by decide) (fun q7 => ?_) (fun q7 => ?_)
    · rw [if_pos q7] at hf
      exact vjb_Sc_readWord_74 ok hi X Y h l0 l1 kl0 hf
    · rw [if_neg q7] at hf
      refine v_aload_n (pc := 13) (k := 0) X (by decide +kernel) 0 rfl ?_
      refine v_geta (pc := 14) X fl_8_15 kl0 fk_8_4 (by decide +kernel) ?_
      refine v_aload_n (pc := 17) (k := 0) X (by decide +kernel) 0 rfl ?_
      refine v_geti (pc := 18) X fl_8_45 kl0 rfl (by decide +kernel) ?_
      obtain ⟨x1, ex1, hf⟩ := bnd_e hf
      refine v_bald (pc := 21) X (ly_8_4 ok kl0) ex1 (by decide +kernel) ?_
      obtain ⟨r2, er2, hf⟩ := nmd_e hf
      refine v_callS (pc := 22) (As := [.int x1]) (rest := []) X (mt_Sc_isLetter ok hi er2.symm) ml_8_57 ms_Sc_isLetter ⟨Nat.le_of_ble_eq_true rfl, Nat.le_of_ble_eq_true rfl⟩ rfl rfl (Nat.le_of_ble_eq_true rfl) (by decide +kernel) ?_
      change V E g tb ρ 4 25 [(0, .ref (ρ l0)), (1, .int l1)] [.int r2] h
      refine v_if_eq (pc := 25) (off := 49) (tgt := 74) X (by decide +kernel) (by decide) (fun q6 => ?_) (fun q6 => ?_)
      · rw [if_pos q6] at hf
        exact vjb_Sc_readWord_74 ok hi X Y h l0 l1 kl0 hf
      · rw [if_neg q6] at hf
        refine v_aload_n (pc := 28) (k := 0) X (by decide +kernel) 0 rfl ?_
        refine v_geti (pc := 29) X fl_8_45 kl0 rfl (by decide +kernel) ?_
        refine v_aload_n (pc := 32) (k := 0) X (by decide +kernel) 0 rfl ?_
        refine v_geti (pc := 33) X fl_8_51 kl0 rfl (by decide +kernel) ?_
        refine v_isub (pc := 36) X (by decide +kernel) ?_
        refine v_bipush (pc := 37) (n := 6) X (by decide +kernel) bi_6 ?_
        refine v_icmp_ge (pc := 39) (off := 22) (tgt := 61) X (by decide +kernel) (by decide) (fun q5 => ?_) (fun q5 => ?_)
        · rw [if_pos q5] at hf
          exact vjb_Sc_readWord_61 ok hi X Y ih h l0 l1 kl0 hf
        · rw [if_neg q5] at hf
          refine v_iload_n (pc := 42) (k := 1) X (by decide +kernel) 1 rfl ?_
          refine v_iconst (pc := 43) (n := 5) X (by decide +kernel) ic_5 ?_
          refine v_ishl (pc := 44) X (by decide +kernel) ?_
          refine v_aload_n (pc := 45) (k := 0) X (by decide +kernel) 0 rfl ?_
          refine v_geta (pc := 46) X fl_8_15 kl0 fk_8_4 (by decide +kernel) ?_
          refine v_aload_n (pc := 49) (k := 0) X (by decide +kernel) 0 rfl ?_
          refine v_geti (pc := 50) X fl_8_45 kl0 rfl (by decide +kernel) ?_
          obtain ⟨x3, ex3, hf⟩ := bnd_e hf
          refine v_bald (pc := 53) X (ly_8_4 ok kl0) ex3 (by decide +kernel) ?_
          refine v_bipush (pc := 54) (n := 97) X (by decide +kernel) bi_97 ?_
          refine v_isub (pc := 56) X (by decide +kernel) ?_
          refine v_iconst (pc := 57) (n := 1) X (by decide +kernel) ic_1 ?_
          refine v_iadd (pc := 58) X (by decide +kernel) ?_
          refine v_ior (pc := 59) X (by decide +kernel) ?_
          obtain ⟨x4, ex4, hf⟩ := nmd_e hf
          refine v_nmi ex4 ?_
          refine v_istore_n (pc := 60) (k := 1) (lv' := [(1, .int x4), (0, .ref (ρ l0))]) X (by decide +kernel) (Nat.le_of_ble_eq_true rfl) rfl ?_
          refine v_sub [1, 0] rfl ?_
          exact vjb_Sc_readWord_61 ok hi X Y ih h l0 x4 kl0 hf
set_option maxRecDepth 4000 in
set_option maxHeartbeats 1000000 in
theorem mt_Sc_readWord {g : Gl} {tb : Tb} {ρ : Nat → Nat} (ok : TbOK tb) (hi : inj tb ρ) {h : Hp} {l0 : Nat} (kl0 : kd tb l0 = 8) {r : Hp} (hf : f_Sc_readWord tb h l0 = some r) : MT g y_Sc_readWord prog_9_method_7_code 4 none 1 23 tb ρ [.ref (ρ l0)] h (none) r := by
  refine mt_intro (by decide +kernel) ok hi (Nat.le_of_ble_eq_true rfl) (fun E X Y => ?_)
  change V E g tb ρ 4 0 [(0, .ref (ρ l0))] [] h
  unfold f_Sc_readWord at hf
  refine v_iconst (pc := 0) (n := 0) X (by decide +kernel) ic_0 ?_
  refine v_istore_n (pc := 1) (k := 1) (lv' := [(1, .int (0 : Int32)), (0, .ref (ρ l0))]) X (by decide +kernel) (Nat.le_of_ble_eq_true rfl) rfl ?_
  refine v_sub [1, 0] rfl ?_
  exact vlp_Sc_readWord_2 ok hi X Y fu h l0 (0 : Int32) kl0 hf
def f_Sc_isDigit (tb : Tb) (h : Hp) (l0 : Int32) : Int32 :=
  if l0 < (48 : Int32) then (
    (0 : Int32)
  ) else (
    if (57 : Int32) < l0 then (
      (0 : Int32)
    ) else (
      (1 : Int32)
    )
  )
set_option maxRecDepth 4000 in
set_option maxHeartbeats 1000000 in
theorem mt_Sc_isDigit {g : Gl} {tb : Tb} {ρ : Nat → Nat} (ok : TbOK tb) (hi : inj tb ρ) {h : Hp} {l0 : Int32}  {r : Int32} (hf : f_Sc_isDigit tb h l0 = r) : MT g y_Sc_isDigit prog_9_method_6_code 1 (some .boolean) 0 0 tb ρ [.int l0] h (some (.int r)) h := by
  refine mt_intro (by decide +kernel) ok hi (Nat.le_of_ble_eq_true rfl) (fun E X Y => ?_)
  change V E g tb ρ 1 0 [(0, .int l0)] [] h
  unfold f_Sc_isDigit at hf
  refine v_iload_n (pc := 0) (k := 0) X (by decide +kernel) 0 rfl ?_
  refine v_bipush (pc := 1) (n := 48) X (by decide +kernel) bi_48 ?_
  refine v_icmp_lt (pc := 3) (off := 13) (tgt := 16) X (by decide +kernel) (by decide) (fun q2 => ?_) (fun q2 => ?_)
  · rw [if_pos q2] at hf
    refine v_iconst (pc := 16) (n := 0) X (by decide +kernel) ic_0 ?_
    cases hf
    exact v_zret (hz := rfl) X Y (by decide +kernel) rfl rfl
  · rw [if_neg q2] at hf
    refine v_iload_n (pc := 6) (k := 0) X (by decide +kernel) 0 rfl ?_
    refine v_bipush (pc := 7) (n := 57) X (by decide +kernel) bi_57 ?_
    refine v_icmp_gt (pc := 9) (off := 7) (tgt := 16) X (by decide +kernel) (by decide) (fun q1 => ?_) (fun q1 => ?_)
    · rw [if_pos q1] at hf
      refine v_iconst (pc := 16) (n := 0) X (by decide +kernel) ic_0 ?_
      cases hf
      exact v_zret (hz := rfl) X Y (by decide +kernel) rfl rfl
    · rw [if_neg q1] at hf
      refine v_iconst (pc := 12) (n := 1) X (by decide +kernel) ic_1 ?_
      refine v_goto (pc := 13) (off := 4) (tgt := 17) X (by decide +kernel) (by decide) ?_
      cases hf
      exact v_zret (hz := rfl) X Y (by decide +kernel) rfl rfl
def lp_Sc_readNumber_10 (tb : Tb) : Nat → Hp → Nat → Option (Hp)
  | 0, _, _ => none
  | n + 1, h, l0 =>
    if (h.1 l0 6) ≤ (h.1 l0 7) then (
      some h
    ) else (
      (rI tb h (lay tb l0 4) (h.1 l0 7)).bind fun x1 =>
      nmd (f_Sc_isDigit tb h x1) fun r2 =>
      if r2 = (0 : Int32) then (
        some h
      ) else (
        (rI tb h (lay tb l0 4) (h.1 l0 7)).bind fun x3 =>
        nmd (pI h l0 2 (mnI (1000000 : Int32) ((((h.1 l0 2) * (10 : Int32)) + x3) - (48 : Int32)))) fun h4 =>
        nmd (pI h4 l0 7 ((h4.1 l0 7) + (1 : Int32))) fun h5 =>
        lp_Sc_readNumber_10 tb n h5 l0
      )
    )
def f_Sc_readNumber (tb : Tb) (h : Hp) (l0 : Nat) : Option (Hp) :=
  nmd (pI h l0 0 (2 : Int32)) fun h1 =>
  nmd (pI h1 l0 2 (0 : Int32)) fun h2 =>
  lp_Sc_readNumber_10 tb fu h2 l0
set_option maxRecDepth 4000 in
set_option maxHeartbeats 1000000 in
theorem vlp_Sc_readNumber_10 {E : En} {g : Gl} {tb : Tb} {ρ : Nat → Nat} (ok : TbOK tb) (hi : inj tb ρ) {r : Hp} (X : CX E g tb ρ prog_9_method_8_code 1 RC8 1 20) (Y : CQ E g tb ρ none (none) r) : ∀ (n : Nat) (h : Hp) (l0 : Nat) (kl0 : kd tb l0 = 8), lp_Sc_readNumber_10 tb n h l0 = some r → V E g tb ρ 1 10 [(0, .ref (ρ l0))] [] h := by
  intro n
  induction n with
  | zero =>
    intro h l0 kl0 hf
    rw [lp_Sc_readNumber_10] at hf
    cases hf
  | succ n ih =>
    intro h l0 kl0 hf
    rw [lp_Sc_readNumber_10] at hf
    refine v_aload_n (pc := 10) (k := 0) X (by decide +kernel) 0 rfl ?_
    refine v_geti (pc := 11) X fl_8_45 kl0 rfl (by decide +kernel) ?_
    refine v_aload_n (pc := 14) (k := 0) X (by decide +kernel) 0 rfl ?_
    refine v_geti (pc := 15) X fl_8_41 kl0 rfl (by decide +kernel) ?_
    refine v_icmp_ge (pc := 18) (off := 60) (tgt := 78) X (by decide +kernel) (by decide) (fun q7 => ?_) (fun q7 => ?_)
    · rw [if_pos q7] at hf
      cases hf
      exact v_vret X Y (by decide +kernel) rfl rfl
    · rw [if_neg q7] at hf
      refine v_aload_n (pc := 21) (k := 0) X (by decide +kernel) 0 rfl ?_
      refine v_geta (pc := 22) X fl_8_15 kl0 fk_8_4 (by decide +kernel) ?_
      refine v_aload_n (pc := 25) (k := 0) X (by decide +kernel) 0 rfl ?_
      refine v_geti (pc := 26) X fl_8_45 kl0 rfl (by decide +kernel) ?_
      obtain ⟨x1, ex1, hf⟩ := bnd_e hf
      refine v_bald (pc := 29) X (ly_8_4 ok kl0) ex1 (by decide +kernel) ?_
      obtain ⟨r2, er2, hf⟩ := nmd_e hf
      refine v_callS (pc := 30) (As := [.int x1]) (rest := []) X (mt_Sc_isDigit ok hi er2.symm) ml_8_64 ms_Sc_isDigit ⟨Nat.le_of_ble_eq_true rfl, Nat.le_of_ble_eq_true rfl⟩ rfl rfl (Nat.le_of_ble_eq_true rfl) (by decide +kernel) ?_
      change V E g tb ρ 1 33 [(0, .ref (ρ l0))] [.int r2] h
      refine v_if_eq (pc := 33) (off := 45) (tgt := 78) X (by decide +kernel) (by decide) (fun q6 => ?_) (fun q6 => ?_)
      · rw [if_pos q6] at hf
        cases hf
        exact v_vret X Y (by decide +kernel) rfl rfl
      · rw [if_neg q6] at hf
        refine v_aload_n (pc := 36) (k := 0) X (by decide +kernel) 0 rfl ?_
        refine v_ldc (pc := 37) X (by decide +kernel) kc_8_84 ?_
        refine v_aload_n (pc := 39) (k := 0) X (by decide +kernel) 0 rfl ?_
        refine v_geti (pc := 40) X fl_8_81 kl0 rfl (by decide +kernel) ?_
        refine v_bipush (pc := 43) (n := 10) X (by decide +kernel) bi_10 ?_
        refine v_imul (pc := 45) X (by decide +kernel) ?_
        refine v_aload_n (pc := 46) (k := 0) X (by decide +kernel) 0 rfl ?_
        refine v_geta (pc := 47) X fl_8_15 kl0 fk_8_4 (by decide +kernel) ?_
        refine v_aload_n (pc := 50) (k := 0) X (by decide +kernel) 0 rfl ?_
        refine v_geti (pc := 51) X fl_8_45 kl0 rfl (by decide +kernel) ?_
        obtain ⟨x3, ex3, hf⟩ := bnd_e hf
        refine v_bald (pc := 54) X (ly_8_4 ok kl0) ex3 (by decide +kernel) ?_
        refine v_iadd (pc := 55) X (by decide +kernel) ?_
        refine v_bipush (pc := 56) (n := 48) X (by decide +kernel) bi_48 ?_
        refine v_isub (pc := 58) X (by decide +kernel) ?_
        refine v_mmin (pc := 59) X mm_8_35 ms_mmin mc_mmin mi_math ⟨Nat.le_of_ble_eq_true rfl, Nat.le_of_ble_eq_true rfl⟩ (by decide +kernel) ?_
        obtain ⟨h4, eh4, hf⟩ := nmd_e hf
        refine v_puti (pc := 62) X fp_8_81 kl0 rfl (by decide +kernel) eh4 ?_
        refine v_aload_n (pc := 65) (k := 0) X (by decide +kernel) 0 rfl ?_
        refine v_dup (pc := 66) X (by decide +kernel) rfl ?_
        refine v_geti (pc := 67) X fl_8_45 kl0 rfl (by decide +kernel) ?_
        refine v_iconst (pc := 70) (n := 1) X (by decide +kernel) ic_1 ?_
        refine v_iadd (pc := 71) X (by decide +kernel) ?_
        obtain ⟨h5, eh5, hf⟩ := nmd_e hf
        refine v_puti (pc := 72) X fp_8_45 kl0 rfl (by decide +kernel) eh5 ?_
        refine v_goto (pc := 75) (off := -65) (tgt := 10) X (by decide +kernel) (by decide) ?_
        exact ih h5 l0 kl0 hf
set_option maxRecDepth 4000 in
set_option maxHeartbeats 1000000 in
theorem mt_Sc_readNumber {g : Gl} {tb : Tb} {ρ : Nat → Nat} (ok : TbOK tb) (hi : inj tb ρ) {h : Hp} {l0 : Nat} (kl0 : kd tb l0 = 8) {r : Hp} (hf : f_Sc_readNumber tb h l0 = some r) : MT g y_Sc_readNumber prog_9_method_8_code 1 none 1 20 tb ρ [.ref (ρ l0)] h (none) r := by
  refine mt_intro (by decide +kernel) ok hi (Nat.le_of_ble_eq_true rfl) (fun E X Y => ?_)
  change V E g tb ρ 1 0 [(0, .ref (ρ l0))] [] h
  unfold f_Sc_readNumber at hf
  refine v_aload_n (pc := 0) (k := 0) X (by decide +kernel) 0 rfl ?_
  refine v_iconst (pc := 1) (n := 2) X (by decide +kernel) ic_2 ?_
  obtain ⟨h1, eh1, hf⟩ := nmd_e hf
  refine v_puti (pc := 2) X fp_8_54 kl0 rfl (by decide +kernel) eh1 ?_
  refine v_aload_n (pc := 5) (k := 0) X (by decide +kernel) 0 rfl ?_
  refine v_iconst (pc := 6) (n := 0) X (by decide +kernel) ic_0 ?_
  obtain ⟨h2, eh2, hf⟩ := nmd_e hf
  refine v_puti (pc := 7) X fp_8_81 kl0 rfl (by decide +kernel) eh2 ?_
  exact vlp_Sc_readNumber_10 ok hi X Y fu h2 l0 kl0 hf
def jb_Sc_readSign_299 (tb : Tb) (h : Hp) (l0 : Nat) : Option (Hp) :=
  nmd (pI h l0 7 ((h.1 l0 7) + (1 : Int32))) fun h1 =>
  some h1
def jb_Sc_readSign_272 (tb : Tb) (h : Hp) (l0 : Nat) : Option (Hp) :=
  if (h.1 l0 0) = (34 : Int32) then (
    jb_Sc_readSign_299 tb h l0
  ) else (
    if (h.1 l0 0) = (36 : Int32) then (
      jb_Sc_readSign_299 tb h l0
    ) else (
      if (h.1 l0 0) = (37 : Int32) then (
        jb_Sc_readSign_299 tb h l0
      ) else (
        some h
      )
    )
  )
def jb_Sc_readSign_261 (tb : Tb) (h : Hp) (l0 : Nat) (s0 : Nat) (s1 : Int32) : Option (Hp) :=
  nmd (pI h s0 0 s1) fun h1 =>
  jb_Sc_readSign_272 tb h1 l0
def jb_Sc_readSign_241 (tb : Tb) (h : Hp) (l0 : Nat) (s0 : Nat) (s1 : Int32) : Option (Hp) :=
  nmd (pI h s0 0 s1) fun h1 =>
  jb_Sc_readSign_272 tb h1 l0
def jb_Sc_readSign_34 (tb : Tb) (h : Hp) (l0 : Nat) (l1 : Int32) (s0 : Int32) : Option (Hp) :=
  if l1 = (40 : Int32) then (
    nmd (pI h l0 0 (31 : Int32)) fun h2 =>
    jb_Sc_readSign_272 tb h2 l0
  ) else (
    if l1 = (41 : Int32) then (
      nmd (pI h l0 0 (32 : Int32)) fun h4 =>
      jb_Sc_readSign_272 tb h4 l0
    ) else (
      if l1 = (42 : Int32) then (
        nmd (pI h l0 0 (41 : Int32)) fun h6 =>
        jb_Sc_readSign_272 tb h6 l0
      ) else (
        if l1 = (43 : Int32) then (
          nmd (pI h l0 0 (39 : Int32)) fun h8 =>
          jb_Sc_readSign_272 tb h8 l0
        ) else (
          if l1 = (44 : Int32) then (
            nmd (pI h l0 0 (1 : Int32)) fun h10 =>
            jb_Sc_readSign_272 tb h10 l0
          ) else (
            if l1 = (45 : Int32) then (
              nmd (pI h l0 0 (40 : Int32)) fun h12 =>
              jb_Sc_readSign_272 tb h12 l0
            ) else (
              if l1 = (46 : Int32) then (
                nmd (pI h l0 0 (1 : Int32)) fun h14 =>
                jb_Sc_readSign_272 tb h14 l0
              ) else (
                if l1 = (47 : Int32) then (
                  nmd (pI h l0 0 (42 : Int32)) fun h16 =>
                  jb_Sc_readSign_272 tb h16 l0
                ) else (
                  if l1 = (48 : Int32) then (
                    nmd (pI h l0 0 (1 : Int32)) fun h18 =>
                    jb_Sc_readSign_272 tb h18 l0
                  ) else (
                    if l1 = (49 : Int32) then (
                      nmd (pI h l0 0 (1 : Int32)) fun h20 =>
                      jb_Sc_readSign_272 tb h20 l0
                    ) else (
                      if l1 = (50 : Int32) then (
                        nmd (pI h l0 0 (1 : Int32)) fun h22 =>
                        jb_Sc_readSign_272 tb h22 l0
                      ) else (
                        if l1 = (51 : Int32) then (
                          nmd (pI h l0 0 (1 : Int32)) fun h24 =>
                          jb_Sc_readSign_272 tb h24 l0
                        ) else (
                          if l1 = (52 : Int32) then (
                            nmd (pI h l0 0 (1 : Int32)) fun h26 =>
                            jb_Sc_readSign_272 tb h26 l0
                          ) else (
                            if l1 = (53 : Int32) then (
                              nmd (pI h l0 0 (1 : Int32)) fun h28 =>
                              jb_Sc_readSign_272 tb h28 l0
                            ) else (
                              if l1 = (54 : Int32) then (
                                nmd (pI h l0 0 (1 : Int32)) fun h30 =>
                                jb_Sc_readSign_272 tb h30 l0
                              ) else (
                                if l1 = (55 : Int32) then (
                                  nmd (pI h l0 0 (1 : Int32)) fun h32 =>
                                  jb_Sc_readSign_272 tb h32 l0
                                ) else (
                                  if l1 = (56 : Int32) then (
                                    nmd (pI h l0 0 (1 : Int32)) fun h34 =>
                                    jb_Sc_readSign_272 tb h34 l0
                                  ) else (
                                    if l1 = (57 : Int32) then (
                                      nmd (pI h l0 0 (1 : Int32)) fun h36 =>
                                      jb_Sc_readSign_272 tb h36 l0
                                    ) else (
                                      if l1 = (58 : Int32) then (
                                        nmd (pI h l0 0 (1 : Int32)) fun h38 =>
                                        jb_Sc_readSign_272 tb h38 l0
                                      ) else (
                                        if l1 = (59 : Int32) then (
                                          nmd (pI h l0 0 (30 : Int32)) fun h40 =>
                                          jb_Sc_readSign_272 tb h40 l0
                                        ) else (
                                          if l1 = (60 : Int32) then (
                                            if s0 = (61 : Int32) then (
                                              jb_Sc_readSign_241 tb h l0 l0 (34 : Int32)
                                            ) else (
                                              if s0 = (62 : Int32) then (
                                                jb_Sc_readSign_241 tb h l0 l0 (36 : Int32)
                                              ) else (
                                                jb_Sc_readSign_241 tb h l0 l0 (33 : Int32)
                                              )
                                            )
                                          ) else (
                                            if l1 = (61 : Int32) then (
                                              nmd (pI h l0 0 (35 : Int32)) fun h45 =>
                                              jb_Sc_readSign_272 tb h45 l0
                                            ) else (
                                              if l1 = (62 : Int32) then (
                                                if s0 = (61 : Int32) then (
                                                  jb_Sc_readSign_261 tb h l0 l0 (37 : Int32)
                                                ) else (
                                                  jb_Sc_readSign_261 tb h l0 l0 (38 : Int32)
                                                )
                                              ) else (
                                                nmd (pI h l0 0 (1 : Int32)) fun h48 =>
                                                jb_Sc_readSign_272 tb h48 l0
                                              )
                                            )
                                          )
                                        )
                                      )
                                    )
                                  )
                                )
                              )
                            )
                          )
                        )
                      )
                    )
                  )
                )
              )
            )
          )
        )
      )
    )
  )
def f_Sc_readSign (tb : Tb) (h : Hp) (l0 : Nat) (l1 : Int32) : Option (Hp) :=
  nmd (pI h l0 7 ((h.1 l0 7) + (1 : Int32))) fun h1 =>
  if (h1.1 l0 6) ≤ (h1.1 l0 7) then (
    jb_Sc_readSign_34 tb h1 l0 l1 (0 : Int32)
  ) else (
    (rI tb h1 (lay tb l0 4) (h1.1 l0 7)).bind fun x2 =>
    jb_Sc_readSign_34 tb h1 l0 l1 x2
  )
set_option maxRecDepth 4000 in
set_option maxHeartbeats 1000000 in
theorem vjb_Sc_readSign_299 {E : En} {g : Gl} {tb : Tb} {ρ : Nat → Nat} (ok : TbOK tb) (hi : inj tb ρ) {r : Hp} (X : CX E g tb ρ prog_9_method_9_code 3 RC8 0 0) (Y : CQ E g tb ρ none (none) r) (h : Hp) (l0 : Nat) (kl0 : kd tb l0 = 8) (hf : jb_Sc_readSign_299 tb h l0 = some r) : V E g tb ρ 3 299 [(0, .ref (ρ l0))] [] h := by
  unfold jb_Sc_readSign_299 at hf
  refine v_aload_n (pc := 299) (k := 0) X (by decide +kernel) 0 rfl ?_
  refine v_dup (pc := 300) X (by decide +kernel) rfl ?_
  refine v_geti (pc := 301) X fl_8_45 kl0 rfl (by decide +kernel) ?_
  refine v_iconst (pc := 304) (n := 1) X (by decide +kernel) ic_1 ?_
  refine v_iadd (pc := 305) X (by decide +kernel) ?_
  obtain ⟨h1, eh1, hf⟩ := nmd_e hf
  refine v_puti (pc := 306) X fp_8_45 kl0 rfl (by decide +kernel) eh1 ?_
  cases hf
  exact v_vret X Y (by decide +kernel) rfl rfl
set_option maxRecDepth 4000 in
set_option maxHeartbeats 1000000 in
theorem vjb_Sc_readSign_272 {E : En} {g : Gl} {tb : Tb} {ρ : Nat → Nat} (ok : TbOK tb) (hi : inj tb ρ) {r : Hp} (X : CX E g tb ρ prog_9_method_9_code 3 RC8 0 0) (Y : CQ E g tb ρ none (none) r) (h : Hp) (l0 : Nat) (kl0 : kd tb l0 = 8) (hf : jb_Sc_readSign_272 tb h l0 = some r) : V E g tb ρ 3 272 [(0, .ref (ρ l0))] [] h := by
  unfold jb_Sc_readSign_272 at hf
  refine v_aload_n (pc := 272) (k := 0) X (by decide +kernel) 0 rfl ?_
  refine v_geti (pc := 273) X fl_8_54 kl0 rfl (by decide +kernel) ?_
  refine v_bipush (pc := 276) (n := 34) X (by decide +kernel) bi_34 ?_
  refine v_icmp_eq (pc := 278) (off := 21) (tgt := 299) X (by decide +kernel) (by decide) (fun q3 => ?_) (fun q3 => ?_)
  · rw [if_pos q3] at hf
    exact vjb_Sc_readSign_299 ok hi X Y h l0 kl0 hf
  · rw [if_neg q3] at hf
    refine v_aload_n (pc := 281) (k := 0) X (by decide +kernel) 0 rfl ?_
    refine v_geti (pc := 282) X fl_8_54 kl0 rfl (by decide +kernel) ?_
    refine v_bipush (pc := 285) (n := 36) X (by decide +kernel) bi_36 ?_
    refine v_icmp_eq (pc := 287) (off := 12) (tgt := 299) X (by decide +kernel) (by decide) (fun q2 => ?_) (fun q2 => ?_)
    · rw [if_pos q2] at hf
      exact vjb_Sc_readSign_299 ok hi X Y h l0 kl0 hf
    · rw [if_neg q2] at hf
      refine v_aload_n (pc := 290) (k := 0) X (by decide +kernel) 0 rfl ?_
      refine v_geti (pc := 291) X fl_8_54 kl0 rfl (by decide +kernel) ?_
      refine v_bipush (pc := 294) (n := 37) X (by decide +kernel) bi_37 ?_
      refine v_icmp_ne (pc := 296) (off := 13) (tgt := 309) X (by decide +kernel) (by decide) (fun q1 => ?_) (fun q1 => ?_)
      · rw [if_neg q1] at hf
        cases hf
        exact v_vret X Y (by decide +kernel) rfl rfl
      · rw [if_pos q1] at hf
        exact vjb_Sc_readSign_299 ok hi X Y h l0 kl0 hf
set_option maxRecDepth 4000 in
set_option maxHeartbeats 1000000 in
theorem vjb_Sc_readSign_261 {E : En} {g : Gl} {tb : Tb} {ρ : Nat → Nat} (ok : TbOK tb) (hi : inj tb ρ) {r : Hp} (X : CX E g tb ρ prog_9_method_9_code 3 RC8 0 0) (Y : CQ E g tb ρ none (none) r) (h : Hp) (l0 : Nat) (s0 : Nat) (s1 : Int32) (kl0 : kd tb l0 = 8) (ks0 : kd tb s0 = 8) (hf : jb_Sc_readSign_261 tb h l0 s0 s1 = some r) : V E g tb ρ 3 261 [(0, .ref (ρ l0))] [.int s1, .ref (ρ s0)] h := by
  unfold jb_Sc_readSign_261 at hf
  obtain ⟨h1, eh1, hf⟩ := nmd_e hf
  refine v_puti (pc := 261) X fp_8_54 ks0 rfl (by decide +kernel) eh1 ?_
  refine v_goto (pc := 264) (off := 8) (tgt := 272) X (by decide +kernel) (by decide) ?_
  exact vjb_Sc_readSign_272 ok hi X Y h1 l0 kl0 hf
set_option maxRecDepth 4000 in
set_option maxHeartbeats 1000000 in
theorem vjb_Sc_readSign_241 {E : En} {g : Gl} {tb : Tb} {ρ : Nat → Nat} (ok : TbOK tb) (hi : inj tb ρ) {r : Hp} (X : CX E g tb ρ prog_9_method_9_code 3 RC8 0 0) (Y : CQ E g tb ρ none (none) r) (h : Hp) (l0 : Nat) (s0 : Nat) (s1 : Int32) (kl0 : kd tb l0 = 8) (ks0 : kd tb s0 = 8) (hf : jb_Sc_readSign_241 tb h l0 s0 s1 = some r) : V E g tb ρ 3 241 [(0, .ref (ρ l0))] [.int s1, .ref (ρ s0)] h := by
  unfold jb_Sc_readSign_241 at hf
  obtain ⟨h1, eh1, hf⟩ := nmd_e hf
  refine v_puti (pc := 241) X fp_8_54 ks0 rfl (by decide +kernel) eh1 ?_
  refine v_goto (pc := 244) (off := 28) (tgt := 272) X (by decide +kernel) (by decide) ?_
  exact vjb_Sc_readSign_272 ok hi X Y h1 l0 kl0 hf
set_option maxRecDepth 4000 in
set_option maxHeartbeats 1000000 in
theorem vjb_Sc_readSign_34 {E : En} {g : Gl} {tb : Tb} {ρ : Nat → Nat} (ok : TbOK tb) (hi : inj tb ρ) {r : Hp} (X : CX E g tb ρ prog_9_method_9_code 3 RC8 0 0) (Y : CQ E g tb ρ none (none) r) (h : Hp) (l0 : Nat) (l1 : Int32) (s0 : Int32) (kl0 : kd tb l0 = 8) (hf : jb_Sc_readSign_34 tb h l0 l1 s0 = some r) : V E g tb ρ 3 34 [(0, .ref (ρ l0)), (1, .int l1)] [.int s0] h := by
  unfold jb_Sc_readSign_34 at hf
  refine v_istore_n (pc := 34) (k := 2) (lv' := [(2, .int s0), (0, .ref (ρ l0)), (1, .int l1)]) X (by decide +kernel) (Nat.le_of_ble_eq_true rfl) rfl ?_
  refine v_iload_n (pc := 35) (k := 1) X (by decide +kernel) 2 rfl ?_
  by_cases q1 : l1 = (40 : Int32)
  · rw [if_pos q1] at hf
    refine v_tin (pc := 36) (off := 117) (tgt := 153) X (show decode prog_9_method_9_code 36 = .ok (.tableswitch 231 40 62 #[117, 126, 162, 144, 231, 153, 231, 171, 231, 231, 231, 231, 231, 231, 231, 231, 231, 231, 231, 108, 180, 135, 211], 108) from by decide +kernel) q1 (by decide) (by decide) (by decide) (by decide) ?_
    refine v_aload_n (pc := 153) (k := 0) X (by decide +kernel) 1 rfl ?_
    refine v_bipush (pc := 154) (n := 31) X (by decide +kernel) bi_31 ?_
    obtain ⟨h2, eh2, hf⟩ := nmd_e hf
    refine v_puti (pc := 156) X fp_8_54 kl0 rfl (by decide +kernel) eh2 ?_
    refine v_goto (pc := 159) (off := 113) (tgt := 272) X (by decide +kernel) (by decide) ?_
    refine v_sub [1] rfl ?_
    exact vjb_Sc_readSign_272 ok hi X Y h2 l0 kl0 hf
  · rw [if_neg q1] at hf
    by_cases q3 : l1 = (41 : Int32)
    · rw [if_pos q3] at hf
      refine v_tin (pc := 36) (off := 126) (tgt := 162) X (show decode prog_9_method_9_code 36 = .ok (.tableswitch 231 40 62 #[117, 126, 162, 144, 231, 153, 231, 171, 231, 231, 231, 231, 231, 231, 231, 231, 231, 231, 231, 108, 180, 135, 211], 108) from by decide +kernel) q3 (by decide) (by decide) (by decide) (by decide) ?_
      refine v_aload_n (pc := 162) (k := 0) X (by decide +kernel) 1 rfl ?_
      refine v_bipush (pc := 163) (n := 32) X (by decide +kernel) bi_32 ?_
      obtain ⟨h4, eh4, hf⟩ := nmd_e hf
      refine v_puti (pc := 165) X fp_8_54 kl0 rfl (by decide +kernel) eh4 ?_
      refine v_goto (pc := 168) (off := 104) (tgt := 272) X (by decide +kernel) (by decide) ?_
      refine v_sub [1] rfl ?_
      exact vjb_Sc_readSign_272 ok hi X Y h4 l0 kl0 hf
    · rw [if_neg q3] at hf
      by_cases q5 : l1 = (42 : Int32)
      · rw [if_pos q5] at hf
        refine v_tin (pc := 36) (off := 162) (tgt := 198) X (show decode prog_9_method_9_code 36 = .ok (.tableswitch 231 40 62 #[117, 126, 162, 144, 231, 153, 231, 171, 231, 231, 231, 231, 231, 231, 231, 231, 231, 231, 231, 108, 180, 135, 211], 108) from by decide +kernel) q5 (by decide) (by decide) (by decide) (by decide) ?_
        refine v_aload_n (pc := 198) (k := 0) X (by decide +kernel) 1 rfl ?_
        refine v_bipush (pc := 199) (n := 41) X (by decide +kernel) bi_41 ?_
        obtain ⟨h6, eh6, hf⟩ := nmd_e hf
        refine v_puti (pc := 201) X fp_8_54 kl0 rfl (by decide +kernel) eh6 ?_
        refine v_goto (pc := 204) (off := 68) (tgt := 272) X (by decide +kernel) (by decide) ?_
        refine v_sub [1] rfl ?_
        exact vjb_Sc_readSign_272 ok hi X Y h6 l0 kl0 hf
      · rw [if_neg q5] at hf
        by_cases q7 : l1 = (43 : Int32)
        · rw [if_pos q7] at hf
          refine v_tin (pc := 36) (off := 144) (tgt := 180) X (show decode prog_9_method_9_code 36 = .ok (.tableswitch 231 40 62 #[117, 126, 162, 144, 231, 153, 231, 171, 231, 231, 231, 231, 231, 231, 231, 231, 231, 231, 231, 108, 180, 135, 211], 108) from by decide +kernel) q7 (by decide) (by decide) (by decide) (by decide) ?_
          refine v_aload_n (pc := 180) (k := 0) X (by decide +kernel) 1 rfl ?_
          refine v_bipush (pc := 181) (n := 39) X (by decide +kernel) bi_39 ?_
          obtain ⟨h8, eh8, hf⟩ := nmd_e hf
          refine v_puti (pc := 183) X fp_8_54 kl0 rfl (by decide +kernel) eh8 ?_
          refine v_goto (pc := 186) (off := 86) (tgt := 272) X (by decide +kernel) (by decide) ?_
          refine v_sub [1] rfl ?_
          exact vjb_Sc_readSign_272 ok hi X Y h8 l0 kl0 hf
        · rw [if_neg q7] at hf
          by_cases q9 : l1 = (44 : Int32)
          · rw [if_pos q9] at hf
            refine v_tin (pc := 36) (off := 231) (tgt := 267) X (show decode prog_9_method_9_code 36 = .ok (.tableswitch 231 40 62 #[117, 126, 162, 144, 231, 153, 231, 171, 231, 231, 231, 231, 231, 231, 231, 231, 231, 231, 231, 108, 180, 135, 211], 108) from by decide +kernel) q9 (by decide) (by decide) (by decide) (by decide) ?_
            refine v_aload_n (pc := 267) (k := 0) X (by decide +kernel) 1 rfl ?_
            refine v_iconst (pc := 268) (n := 1) X (by decide +kernel) ic_1 ?_
            obtain ⟨h10, eh10, hf⟩ := nmd_e hf
            refine v_puti (pc := 269) X fp_8_54 kl0 rfl (by decide +kernel) eh10 ?_
            refine v_sub [1] rfl ?_
            exact vjb_Sc_readSign_272 ok hi X Y h10 l0 kl0 hf
          · rw [if_neg q9] at hf
            by_cases q11 : l1 = (45 : Int32)
            · rw [if_pos q11] at hf
              refine v_tin (pc := 36) (off := 153) (tgt := 189) X (show decode prog_9_method_9_code 36 = .ok (.tableswitch 231 40 62 #[117, 126, 162, 144, 231, 153, 231, 171, 231, 231, 231, 231, 231, 231, 231, 231, 231, 231, 231, 108, 180, 135, 211], 108) from by decide +kernel) q11 (by decide) (by decide) (by decide) (by decide) ?_
              refine v_aload_n (pc := 189) (k := 0) X (by decide +kernel) 1 rfl ?_
              refine v_bipush (pc := 190) (n := 40) X (by decide +kernel) bi_40 ?_
              obtain ⟨h12, eh12, hf⟩ := nmd_e hf
              refine v_puti (pc := 192) X fp_8_54 kl0 rfl (by decide +kernel) eh12 ?_
              refine v_goto (pc := 195) (off := 77) (tgt := 272) X (by decide +kernel) (by decide) ?_
              refine v_sub [1] rfl ?_
              exact vjb_Sc_readSign_272 ok hi X Y h12 l0 kl0 hf
            · rw [if_neg q11] at hf
              by_cases q13 : l1 = (46 : Int32)
              · rw [if_pos q13] at hf
                refine v_tin (pc := 36) (off := 231) (tgt := 267) X (show decode prog_9_method_9_code 36 = .ok (.tableswitch 231 40 62 #[117, 126, 162, 144, 231, 153, 231, 171, 231, 231, 231, 231, 231, 231, 231, 231, 231, 231, 231, 108, 180, 135, 211], 108) from by decide +kernel) q13 (by decide) (by decide) (by decide) (by decide) ?_
                refine v_aload_n (pc := 267) (k := 0) X (by decide +kernel) 1 rfl ?_
                refine v_iconst (pc := 268) (n := 1) X (by decide +kernel) ic_1 ?_
                obtain ⟨h14, eh14, hf⟩ := nmd_e hf
                refine v_puti (pc := 269) X fp_8_54 kl0 rfl (by decide +kernel) eh14 ?_
                refine v_sub [1] rfl ?_
                exact vjb_Sc_readSign_272 ok hi X Y h14 l0 kl0 hf
              · rw [if_neg q13] at hf
                by_cases q15 : l1 = (47 : Int32)
                · rw [if_pos q15] at hf
                  refine v_tin (pc := 36) (off := 171) (tgt := 207) X (show decode prog_9_method_9_code 36 = .ok (.tableswitch 231 40 62 #[117, 126, 162, 144, 231, 153, 231, 171, 231, 231, 231, 231, 231, 231, 231, 231, 231, 231, 231, 108, 180, 135, 211], 108) from by decide +kernel) q15 (by decide) (by decide) (by decide) (by decide) ?_
                  refine v_aload_n (pc := 207) (k := 0) X (by decide +kernel) 1 rfl ?_
                  refine v_bipush (pc := 208) (n := 42) X (by decide +kernel) bi_42 ?_
                  obtain ⟨h16, eh16, hf⟩ := nmd_e hf
                  refine v_puti (pc := 210) X fp_8_54 kl0 rfl (by decide +kernel) eh16 ?_
                  refine v_goto (pc := 213) (off := 59) (tgt := 272) X (by decide +kernel) (by decide) ?_
                  refine v_sub [1] rfl ?_
                  exact vjb_Sc_readSign_272 ok hi X Y h16 l0 kl0 hf
                · rw [if_neg q15] at hf
                  by_cases q17 : l1 = (48 : Int32)
                  · rw [if_pos q17] at hf
                    refine v_tin (pc := 36) (off := 231) (tgt := 267) X (show decode prog_9_method_9_code 36 = .ok (.tableswitch 231 40 62 #[117, 126, 162, 144, 231, 153, 231, 171, 231, 231, 231, 231, 231, 231, 231, 231, 231, 231, 231, 108, 180, 135, 211], 108) from by decide +kernel) q17 (by decide) (by decide) (by decide) (by decide) ?_
                    refine v_aload_n (pc := 267) (k := 0) X (by decide +kernel) 1 rfl ?_
                    refine v_iconst (pc := 268) (n := 1) X (by decide +kernel) ic_1 ?_
                    obtain ⟨h18, eh18, hf⟩ := nmd_e hf
                    refine v_puti (pc := 269) X fp_8_54 kl0 rfl (by decide +kernel) eh18 ?_
                    refine v_sub [1] rfl ?_
                    exact vjb_Sc_readSign_272 ok hi X Y h18 l0 kl0 hf
                  · rw [if_neg q17] at hf
                    by_cases q19 : l1 = (49 : Int32)
                    · rw [if_pos q19] at hf
                      refine v_tin (pc := 36) (off := 231) (tgt := 267) X (show decode prog_9_method_9_code 36 = .ok (.tableswitch 231 40 62 #[117, 126, 162, 144, 231, 153, 231, 171, 231, 231, 231, 231, 231, 231, 231, 231, 231, 231, 231, 108, 180, 135, 211], 108) from by decide +kernel) q19 (by decide) (by decide) (by decide) (by decide) ?_
                      refine v_aload_n (pc := 267) (k := 0) X (by decide +kernel) 1 rfl ?_
                      refine v_iconst (pc := 268) (n := 1) X (by decide +kernel) ic_1 ?_
                      obtain ⟨h20, eh20, hf⟩ := nmd_e hf
                      refine v_puti (pc := 269) X fp_8_54 kl0 rfl (by decide +kernel) eh20 ?_
                      refine v_sub [1] rfl ?_
                      exact vjb_Sc_readSign_272 ok hi X Y h20 l0 kl0 hf
                    · rw [if_neg q19] at hf
                      by_cases q21 : l1 = (50 : Int32)
                      · rw [if_pos q21] at hf
                        refine v_tin (pc := 36) (off := 231) (tgt := 267) X (show decode prog_9_method_9_code 36 = .ok (.tableswitch 231 40 62 #[117, 126, 162, 144, 231, 153, 231, 171, 231, 231, 231, 231, 231, 231, 231, 231, 231, 231, 231, 108, 180, 135, 211], 108) from by decide +kernel) q21 (by decide) (by decide) (by decide) (by decide) ?_
                        refine v_aload_n (pc := 267) (k := 0) X (by decide +kernel) 1 rfl ?_
                        refine v_iconst (pc := 268) (n := 1) X (by decide +kernel) ic_1 ?_
                        obtain ⟨h22, eh22, hf⟩ := nmd_e hf
                        refine v_puti (pc := 269) X fp_8_54 kl0 rfl (by decide +kernel) eh22 ?_
                        refine v_sub [1] rfl ?_
                        exact vjb_Sc_readSign_272 ok hi X Y h22 l0 kl0 hf
                      · rw [if_neg q21] at hf
                        by_cases q23 : l1 = (51 : Int32)
                        · rw [if_pos q23] at hf
                          refine v_tin (pc := 36) (off := 231) (tgt := 267) X (show decode prog_9_method_9_code 36 = .ok (.tableswitch 231 40 62 #[117, 126, 162, 144, 231, 153, 231, 171, 231, 231, 231, 231, 231, 231, 231, 231, 231, 231, 231, 108, 180, 135, 211], 108) from by decide +kernel) q23 (by decide) (by decide) (by decide) (by decide) ?_
                          refine v_aload_n (pc := 267) (k := 0) X (by decide +kernel) 1 rfl ?_
                          refine v_iconst (pc := 268) (n := 1) X (by decide +kernel) ic_1 ?_
                          obtain ⟨h24, eh24, hf⟩ := nmd_e hf
                          refine v_puti (pc := 269) X fp_8_54 kl0 rfl (by decide +kernel) eh24 ?_
                          refine v_sub [1] rfl ?_
                          exact vjb_Sc_readSign_272 ok hi X Y h24 l0 kl0 hf
                        · rw [if_neg q23] at hf
                          by_cases q25 : l1 = (52 : Int32)
                          · rw [if_pos q25] at hf
                            refine v_tin (pc := 36) (off := 231) (tgt := 267) X (show decode prog_9_method_9_code 36 = .ok (.tableswitch 231 40 62 #[117, 126, 162, 144, 231, 153, 231, 171, 231, 231, 231, 231, 231, 231, 231, 231, 231, 231, 231, 108, 180, 135, 211], 108) from by decide +kernel) q25 (by decide) (by decide) (by decide) (by decide) ?_
                            refine v_aload_n (pc := 267) (k := 0) X (by decide +kernel) 1 rfl ?_
                            refine v_iconst (pc := 268) (n := 1) X (by decide +kernel) ic_1 ?_
                            obtain ⟨h26, eh26, hf⟩ := nmd_e hf
                            refine v_puti (pc := 269) X fp_8_54 kl0 rfl (by decide +kernel) eh26 ?_
                            refine v_sub [1] rfl ?_
                            exact vjb_Sc_readSign_272 ok hi X Y h26 l0 kl0 hf
                          · rw [if_neg q25] at hf
                            by_cases q27 : l1 = (53 : Int32)
                            · rw [if_pos q27] at hf
                              refine v_tin (pc := 36) (off := 231) (tgt := 267) X (show decode prog_9_method_9_code 36 = .ok (.tableswitch 231 40 62 #[117, 126, 162, 144, 231, 153, 231, 171, 231, 231, 231, 231, 231, 231, 231, 231, 231, 231, 231, 108, 180, 135, 211], 108) from by decide +kernel) q27 (by decide) (by decide) (by decide) (by decide) ?_
                              refine v_aload_n (pc := 267) (k := 0) X (by decide +kernel) 1 rfl ?_
                              refine v_iconst (pc := 268) (n := 1) X (by decide +kernel) ic_1 ?_
                              obtain ⟨h28, eh28, hf⟩ := nmd_e hf
                              refine v_puti (pc := 269) X fp_8_54 kl0 rfl (by decide +kernel) eh28 ?_
                              refine v_sub [1] rfl ?_
                              exact vjb_Sc_readSign_272 ok hi X Y h28 l0 kl0 hf
                            · rw [if_neg q27] at hf
                              by_cases q29 : l1 = (54 : Int32)
                              · rw [if_pos q29] at hf
                                refine v_tin (pc := 36) (off := 231) (tgt := 267) X (show decode prog_9_method_9_code 36 = .ok (.tableswitch 231 40 62 #[117, 126, 162, 144, 231, 153, 231, 171, 231, 231, 231, 231, 231, 231, 231, 231, 231, 231, 231, 108, 180, 135, 211], 108) from by decide +kernel) q29 (by decide) (by decide) (by decide) (by decide) ?_
                                refine v_aload_n (pc := 267) (k := 0) X (by decide +kernel) 1 rfl ?_
                                refine v_iconst (pc := 268) (n := 1) X (by decide +kernel) ic_1 ?_
                                obtain ⟨h30, eh30, hf⟩ := nmd_e hf
                                refine v_puti (pc := 269) X fp_8_54 kl0 rfl (by decide +kernel) eh30 ?_
                                refine v_sub [1] rfl ?_
                                exact vjb_Sc_readSign_272 ok hi X Y h30 l0 kl0 hf
                              · rw [if_neg q29] at hf
                                by_cases q31 : l1 = (55 : Int32)
                                · rw [if_pos q31] at hf
                                  refine v_tin (pc := 36) (off := 231) (tgt := 267) X (show decode prog_9_method_9_code 36 = .ok (.tableswitch 231 40 62 #[117, 126, 162, 144, 231, 153, 231, 171, 231, 231, 231, 231, 231, 231, 231, 231, 231, 231, 231, 108, 180, 135, 211], 108) from by decide +kernel) q31 (by decide) (by decide) (by decide) (by decide) ?_
                                  refine v_aload_n (pc := 267) (k := 0) X (by decide +kernel) 1 rfl ?_
                                  refine v_iconst (pc := 268) (n := 1) X (by decide +kernel) ic_1 ?_
                                  obtain ⟨h32, eh32, hf⟩ := nmd_e hf
                                  refine v_puti (pc := 269) X fp_8_54 kl0 rfl (by decide +kernel) eh32 ?_
                                  refine v_sub [1] rfl ?_
                                  exact vjb_Sc_readSign_272 ok hi X Y h32 l0 kl0 hf
                                · rw [if_neg q31] at hf
                                  by_cases q33 : l1 = (56 : Int32)
                                  · rw [if_pos q33] at hf
                                    refine v_tin (pc := 36) (off := 231) (tgt := 267) X (show decode prog_9_method_9_code 36 = .ok (.tableswitch 231 40 62 #[117, 126, 162, 144, 231, 153, 231, 171, 231, 231, 231, 231, 231, 231, 231, 231, 231, 231, 231, 108, 180, 135, 211], 108) from by decide +kernel) q33 (by decide) (by decide) (by decide) (by decide) ?_
                                    refine v_aload_n (pc := 267) (k := 0) X (by decide +kernel) 1 rfl ?_
                                    refine v_iconst (pc := 268) (n := 1) X (by decide +kernel) ic_1 ?_
                                    obtain ⟨h34, eh34, hf⟩ := nmd_e hf
                                    refine v_puti (pc := 269) X fp_8_54 kl0 rfl (by decide +kernel) eh34 ?_
                                    refine v_sub [1] rfl ?_
                                    exact vjb_Sc_readSign_272 ok hi X Y h34 l0 kl0 hf
                                  · rw [if_neg q33] at hf
                                    by_cases q35 : l1 = (57 : Int32)
                                    · rw [if_pos q35] at hf
                                      refine v_tin (pc := 36) (off := 231) (tgt := 267) X (show decode prog_9_method_9_code 36 = .ok (.tableswitch 231 40 62 #[117, 126, 162, 144, 231, 153, 231, 171, 231, 231, 231, 231, 231, 231, 231, 231, 231, 231, 231, 108, 180, 135, 211], 108) from by decide +kernel) q35 (by decide) (by decide) (by decide) (by decide) ?_
                                      refine v_aload_n (pc := 267) (k := 0) X (by decide +kernel) 1 rfl ?_
                                      refine v_iconst (pc := 268) (n := 1) X (by decide +kernel) ic_1 ?_
                                      obtain ⟨h36, eh36, hf⟩ := nmd_e hf
                                      refine v_puti (pc := 269) X fp_8_54 kl0 rfl (by decide +kernel) eh36 ?_
                                      refine v_sub [1] rfl ?_
                                      exact vjb_Sc_readSign_272 ok hi X Y h36 l0 kl0 hf
                                    · rw [if_neg q35] at hf
                                      by_cases q37 : l1 = (58 : Int32)
                                      · rw [if_pos q37] at hf
                                        refine v_tin (pc := 36) (off := 231) (tgt := 267) X (show decode prog_9_method_9_code 36 = .ok (.tableswitch 231 40 62 #[117, 126, 162, 144, 231, 153, 231, 171, 231, 231, 231, 231, 231, 231, 231, 231, 231, 231, 231, 108, 180, 135, 211], 108) from by decide +kernel) q37 (by decide) (by decide) (by decide) (by decide) ?_
                                        refine v_aload_n (pc := 267) (k := 0) X (by decide +kernel) 1 rfl ?_
                                        refine v_iconst (pc := 268) (n := 1) X (by decide +kernel) ic_1 ?_
                                        obtain ⟨h38, eh38, hf⟩ := nmd_e hf
                                        refine v_puti (pc := 269) X fp_8_54 kl0 rfl (by decide +kernel) eh38 ?_
                                        refine v_sub [1] rfl ?_
                                        exact vjb_Sc_readSign_272 ok hi X Y h38 l0 kl0 hf
                                      · rw [if_neg q37] at hf
                                        by_cases q39 : l1 = (59 : Int32)
                                        · rw [if_pos q39] at hf
                                          refine v_tin (pc := 36) (off := 108) (tgt := 144) X (show decode prog_9_method_9_code 36 = .ok (.tableswitch 231 40 62 #[117, 126, 162, 144, 231, 153, 231, 171, 231, 231, 231, 231, 231, 231, 231, 231, 231, 231, 231, 108, 180, 135, 211], 108) from by decide +kernel) q39 (by decide) (by decide) (by decide) (by decide) ?_
                                          refine v_aload_n (pc := 144) (k := 0) X (by decide +kernel) 1 rfl ?_
                                          refine v_bipush (pc := 145) (n := 30) X (by decide +kernel) bi_30 ?_
                                          obtain ⟨h40, eh40, hf⟩ := nmd_e hf
                                          refine v_puti (pc := 147) X fp_8_54 kl0 rfl (by decide +kernel) eh40 ?_
                                          refine v_goto (pc := 150) (off := 122) (tgt := 272) X (by decide +kernel) (by decide) ?_
                                          refine v_sub [1] rfl ?_
                                          exact vjb_Sc_readSign_272 ok hi X Y h40 l0 kl0 hf
                                        · rw [if_neg q39] at hf
                                          by_cases q41 : l1 = (60 : Int32)
                                          · rw [if_pos q41] at hf
                                            refine v_tin (pc := 36) (off := 180) (tgt := 216) X (show decode prog_9_method_9_code 36 = .ok (.tableswitch 231 40 62 #[117, 126, 162, 144, 231, 153, 231, 171, 231, 231, 231, 231, 231, 231, 231, 231, 231, 231, 231, 108, 180, 135, 211], 108) from by decide +kernel) q41 (by decide) (by decide) (by decide) (by decide) ?_
                                            refine v_aload_n (pc := 216) (k := 0) X (by decide +kernel) 1 rfl ?_
                                            refine v_iload_n (pc := 217) (k := 2) X (by decide +kernel) 0 rfl ?_
                                            refine v_bipush (pc := 218) (n := 61) X (by decide +kernel) bi_61 ?_
                                            refine v_icmp_ne (pc := 220) (off := 8) (tgt := 228) X (by decide +kernel) (by decide) (fun q43 => ?_) (fun q43 => ?_)
                                            · rw [if_neg q43] at hf
                                              refine v_iload_n (pc := 228) (k := 2) X (by decide +kernel) 0 rfl ?_
                                              refine v_bipush (pc := 229) (n := 62) X (by decide +kernel) bi_62 ?_
                                              refine v_icmp_ne (pc := 231) (off := 8) (tgt := 239) X (by decide +kernel) (by decide) (fun q42 => ?_) (fun q42 => ?_)
                                              · rw [if_neg q42] at hf
                                                refine v_bipush (pc := 239) (n := 33) X (by decide +kernel) bi_33 ?_
                                                refine v_sub [1] rfl ?_
                                                exact vjb_Sc_readSign_241 ok hi X Y h l0 l0 (33 : Int32) kl0 kl0 hf
                                              · rw [if_pos q42] at hf
                                                refine v_bipush (pc := 234) (n := 36) X (by decide +kernel) bi_36 ?_
                                                refine v_goto (pc := 236) (off := 5) (tgt := 241) X (by decide +kernel) (by decide) ?_
                                                refine v_sub [1] rfl ?_
                                                exact vjb_Sc_readSign_241 ok hi X Y h l0 l0 (36 : Int32) kl0 kl0 hf
                                            · rw [if_pos q43] at hf
                                              refine v_bipush (pc := 223) (n := 34) X (by decide +kernel) bi_34 ?_
                                              refine v_goto (pc := 225) (off := 16) (tgt := 241) X (by decide +kernel) (by decide) ?_
                                              refine v_sub [1] rfl ?_
                                              exact vjb_Sc_readSign_241 ok hi X Y h l0 l0 (34 : Int32) kl0 kl0 hf
                                          · rw [if_neg q41] at hf
                                            by_cases q44 : l1 = (61 : Int32)
                                            · rw [if_pos q44] at hf
                                              refine v_tin (pc := 36) (off := 135) (tgt := 171) X (show decode prog_9_method_9_code 36 = .ok (.tableswitch 231 40 62 #[117, 126, 162, 144, 231, 153, 231, 171, 231, 231, 231, 231, 231, 231, 231, 231, 231, 231, 231, 108, 180, 135, 211], 108) from by decide +kernel) q44 (by decide) (by decide) (by decide) (by decide) ?_
                                              refine v_aload_n (pc := 171) (k := 0) X (by decide +kernel) 1 rfl ?_
                                              refine v_bipush (pc := 172) (n := 35) X (by decide +kernel) bi_35 ?_
                                              obtain ⟨h45, eh45, hf⟩ := nmd_e hf
                                              refine v_puti (pc := 174) X fp_8_54 kl0 rfl (by decide +kernel) eh45 ?_
                                              refine v_goto (pc := 177) (off := 95) (tgt := 272) X (by decide +kernel) (by decide) ?_
                                              refine v_sub [1] rfl ?_
                                              exact vjb_Sc_readSign_272 ok hi X Y h45 l0 kl0 hf
                                            · rw [if_neg q44] at hf
                                              by_cases q46 : l1 = (62 : Int32)
                                              · rw [if_pos q46] at hf
                                                refine v_tin (pc := 36) (off := 211) (tgt := 247) X (show decode prog_9_method_9_code 36 = .ok (.tableswitch 231 40 62 #[117, 126, 162, 144, 231, 153, 231, 171, 231, 231, 231, 231, 231, 231, 231, 231, 231, 231, 231, 108, 180, 135, 211], 108) from by decide +kernel) q46 (by decide) (by decide) (by decide) (by decide) ?_
                                                refine v_aload_n (pc := 247) (k := 0) X (by decide +kernel) 1 rfl ?_
                                                refine v_iload_n (pc := 248) (k := 2) X (by decide +kernel) 0 rfl ?_
                                                refine v_bipush (pc := 249) (n := 61) X (by decide +kernel) bi_61 ?_
                                                refine v_icmp_ne (pc := 251) (off := 8) (tgt := 259) X (by decide +kernel) (by decide) (fun q47 => ?_) (fun q47 => ?_)
                                                · rw [if_neg q47] at hf
                                                  refine v_bipush (pc := 259) (n := 38) X (by decide +kernel) bi_38 ?_
                                                  refine v_sub [1] rfl ?_
                                                  exact vjb_Sc_readSign_261 ok hi X Y h l0 l0 (38 : Int32) kl0 kl0 hf
                                                · rw [if_pos q47] at hf
                                                  refine v_bipush (pc := 254) (n := 37) X (by decide +kernel) bi_37 ?_
                                                  refine v_goto (pc := 256) (off := 5) (tgt := 261) X (by decide +kernel) (by decide) ?_
                                                  refine v_sub [1] rfl ?_
                                                  exact vjb_Sc_readSign_261 ok hi X Y h l0 l0 (37 : Int32) kl0 kl0 hf
                                              · rw [if_neg q46] at hf
                                                refine v_tout (pc := 36) (tgt := 267) X (show decode prog_9_method_9_code 36 = .ok (.tableswitch 231 40 62 #[117, 126, 162, 144, 231, 153, 231, 171, 231, 231, 231, 231, 231, 231, 231, 231, 231, 231, 231, 108, 180, 135, 211], 108) from by decide +kernel) (t_out (lo := 40) (hi := 62) [(40 : Int32), (41 : Int32), (42 : Int32), (43 : Int32), (44 : Int32), (45 : Int32), (46 : Int32), (47 : Int32), (48 : Int32), (49 : Int32), (50 : Int32), (51 : Int32), (52 : Int32), (53 : Int32), (54 : Int32), (55 : Int32), (56 : Int32), (57 : Int32), (58 : Int32), (59 : Int32), (60 : Int32), (61 : Int32), (62 : Int32)] (by decide) (List.forall_mem_cons.mpr ⟨q1, List.forall_mem_cons.mpr ⟨q3, List.forall_mem_cons.mpr ⟨q5, List.forall_mem_cons.mpr ⟨q7, List.forall_mem_cons.mpr ⟨q9, List.forall_mem_cons.mpr ⟨q11, List.forall_mem_cons.mpr ⟨q13, List.forall_mem_cons.mpr ⟨q15, List.forall_mem_cons.mpr ⟨q17, List.forall_mem_cons.mpr ⟨q19, List.forall_mem_cons.mpr ⟨q21, List.forall_mem_cons.mpr ⟨q23, List.forall_mem_cons.mpr ⟨q25, List.forall_mem_cons.mpr ⟨q27, List.forall_mem_cons.mpr ⟨q29, List.forall_mem_cons.mpr ⟨q31, List.forall_mem_cons.mpr ⟨q33, List.forall_mem_cons.mpr ⟨q35, List.forall_mem_cons.mpr ⟨q37, List.forall_mem_cons.mpr ⟨q39, List.forall_mem_cons.mpr ⟨q41, List.forall_mem_cons.mpr ⟨q44, List.forall_mem_cons.mpr ⟨q46, fun _ h => absurd h List.not_mem_nil⟩⟩⟩⟩⟩⟩⟩⟩⟩⟩⟩⟩⟩⟩⟩⟩⟩⟩⟩⟩⟩⟩⟩)) (by decide) ?_
                                                refine v_aload_n (pc := 267) (k := 0) X (by decide +kernel) 1 rfl ?_
                                                refine v_iconst (pc := 268) (n := 1) X (by decide +kernel) ic_1 ?_
                                                obtain ⟨h48, eh48, hf⟩ := nmd_e hf
                                                refine v_puti (pc := 269) X fp_8_54 kl0 rfl (by decide +kernel) eh48 ?_
                                                refine v_sub [1] rfl ?_
                                                exact vjb_Sc_readSign_272 ok hi X Y h48 l0 kl0 hf
set_option maxRecDepth 4000 in
set_option maxHeartbeats 1000000 in
theorem mt_Sc_readSign {g : Gl} {tb : Tb} {ρ : Nat → Nat} (ok : TbOK tb) (hi : inj tb ρ) {h : Hp} {l0 : Nat} {l1 : Int32} (kl0 : kd tb l0 = 8) {r : Hp} (hf : f_Sc_readSign tb h l0 l1 = some r) : MT g y_Sc_readSign prog_9_method_9_code 3 none 0 0 tb ρ [.ref (ρ l0), .int l1] h (none) r := by
  refine mt_intro (by decide +kernel) ok hi (Nat.le_of_ble_eq_true rfl) (fun E X Y => ?_)
  change V E g tb ρ 3 0 [(0, .ref (ρ l0)), (1, .int l1)] [] h
  unfold f_Sc_readSign at hf
  refine v_aload_n (pc := 0) (k := 0) X (by decide +kernel) 0 rfl ?_
  refine v_dup (pc := 1) X (by decide +kernel) rfl ?_
  refine v_geti (pc := 2) X fl_8_45 kl0 rfl (by decide +kernel) ?_
  refine v_iconst (pc := 5) (n := 1) X (by decide +kernel) ic_1 ?_
  refine v_iadd (pc := 6) X (by decide +kernel) ?_
  obtain ⟨h1, eh1, hf⟩ := nmd_e hf
  refine v_puti (pc := 7) X fp_8_45 kl0 rfl (by decide +kernel) eh1 ?_
  refine v_aload_n (pc := 10) (k := 0) X (by decide +kernel) 0 rfl ?_
  refine v_geti (pc := 11) X fl_8_45 kl0 rfl (by decide +kernel) ?_
  refine v_aload_n (pc := 14) (k := 0) X (by decide +kernel) 0 rfl ?_
  refine v_geti (pc := 15) X fl_8_41 kl0 rfl (by decide +kernel) ?_
  refine v_icmp_ge (pc := 18) (off := 15) (tgt := 33) X (by decide +kernel) (by decide) (fun q3 => ?_) (fun q3 => ?_)
  · rw [if_pos q3] at hf
    refine v_iconst (pc := 33) (n := 0) X (by decide +kernel) ic_0 ?_
    exact vjb_Sc_readSign_34 ok hi X Y h1 l0 l1 (0 : Int32) kl0 hf
  · rw [if_neg q3] at hf
    refine v_aload_n (pc := 21) (k := 0) X (by decide +kernel) 0 rfl ?_
    refine v_geta (pc := 22) X fl_8_15 kl0 fk_8_4 (by decide +kernel) ?_
    refine v_aload_n (pc := 25) (k := 0) X (by decide +kernel) 0 rfl ?_
    refine v_geti (pc := 26) X fl_8_45 kl0 rfl (by decide +kernel) ?_
    obtain ⟨x2, ex2, hf⟩ := bnd_e hf
    refine v_bald (pc := 29) X (ly_8_4 ok kl0) ex2 (by decide +kernel) ?_
    refine v_goto (pc := 30) (off := 4) (tgt := 34) X (by decide +kernel) (by decide) ?_
    exact vjb_Sc_readSign_34 ok hi X Y h1 l0 l1 x2 kl0 hf
def jb_Sc_step_52 (tb : Tb) (h : Hp) (l0 : Nat) : Option (Hp) :=
  nmd (pI h l0 1 (h.1 l0 7)) fun h1 =>
  if (h1.1 l0 7) < (h1.1 l0 6) then (
    (rI tb h1 (lay tb l0 4) (h1.1 l0 7)).bind fun x2 =>
    nmd (f_Sc_isLetter tb h1 x2) fun r3 =>
    if r3 = (0 : Int32) then (
      (rI tb h1 (lay tb l0 4) (h1.1 l0 7)).bind fun x4 =>
      nmd (f_Sc_isDigit tb h1 x4) fun r5 =>
      if r5 = (0 : Int32) then (
        (rI tb h1 (lay tb l0 4) (h1.1 l0 7)).bind fun x6 =>
        (f_Sc_readSign tb h1 l0 x6).bind fun r7 =>
        some r7
      ) else (
        (f_Sc_readNumber tb h1 l0).bind fun r8 =>
        some r8
      )
    ) else (
      (f_Sc_readWord tb h1 l0).bind fun r10 =>
      some r10
    )
  ) else (
    nmd (pI h1 l0 0 (0 : Int32)) fun h12 =>
    some h12
  )
def jb_Sc_step_39 (tb : Tb) (c0 : Hp → Nat → Option (Hp)) (h : Hp) (l0 : Nat) : Option (Hp) :=
  nmd (pI h l0 7 ((h.1 l0 7) + (1 : Int32))) fun h1 =>
  c0 h1 l0
def lp_Sc_step_0 (tb : Tb) : Nat → Hp → Nat → Option (Hp)
  | 0, _, _ => none
  | n + 1, h, l0 =>
    if (h.1 l0 6) ≤ (h.1 l0 7) then (
      jb_Sc_step_52 tb h l0
    ) else (
      (rI tb h (lay tb l0 4) (h.1 l0 7)).bind fun x1 =>
      if x1 = (10 : Int32) then (
        jb_Sc_step_39 tb (lp_Sc_step_0 tb n) h l0
      ) else (
        (rI tb h (lay tb l0 4) (h.1 l0 7)).bind fun x2 =>
        if x2 = (32 : Int32) then (
          jb_Sc_step_39 tb (lp_Sc_step_0 tb n) h l0
        ) else (
          jb_Sc_step_52 tb h l0
        )
      )
    )
def f_Sc_step (tb : Tb) (h : Hp) (l0 : Nat) : Option (Hp) :=
  lp_Sc_step_0 tb fu h l0
set_option maxRecDepth 4000 in
set_option maxHeartbeats 1000000 in
theorem vjb_Sc_step_52 {E : En} {g : Gl} {tb : Tb} {ρ : Nat → Nat} (ok : TbOK tb) (hi : inj tb ρ) {r : Hp} (X : CX E g tb ρ prog_9_method_4_code 1 RC8 2 46) (Y : CQ E g tb ρ none (none) r) (h : Hp) (l0 : Nat) (kl0 : kd tb l0 = 8) (hf : jb_Sc_step_52 tb h l0 = some r) : V E g tb ρ 1 52 [(0, .ref (ρ l0))] [] h := by
  unfold jb_Sc_step_52 at hf
  refine v_aload_n (pc := 52) (k := 0) X (by decide +kernel) 0 rfl ?_
  refine v_aload_n (pc := 53) (k := 0) X (by decide +kernel) 0 rfl ?_
  refine v_geti (pc := 54) X fl_8_45 kl0 rfl (by decide +kernel) ?_
  obtain ⟨h1, eh1, hf⟩ := nmd_e hf
  refine v_puti (pc := 57) X fp_8_51 kl0 rfl (by decide +kernel) eh1 ?_
  refine v_aload_n (pc := 60) (k := 0) X (by decide +kernel) 0 rfl ?_
  refine v_geti (pc := 61) X fl_8_45 kl0 rfl (by decide +kernel) ?_
  refine v_aload_n (pc := 64) (k := 0) X (by decide +kernel) 0 rfl ?_
  refine v_geti (pc := 65) X fl_8_41 kl0 rfl (by decide +kernel) ?_
  refine v_icmp_lt (pc := 68) (off := 11) (tgt := 79) X (by decide +kernel) (by decide) (fun q13 => ?_) (fun q13 => ?_)
  · rw [if_pos q13] at hf
    refine v_aload_n (pc := 79) (k := 0) X (by decide +kernel) 0 rfl ?_
    refine v_geta (pc := 80) X fl_8_15 kl0 fk_8_4 (by decide +kernel) ?_
    refine v_aload_n (pc := 83) (k := 0) X (by decide +kernel) 0 rfl ?_
    refine v_geti (pc := 84) X fl_8_45 kl0 rfl (by decide +kernel) ?_
    obtain ⟨x2, ex2, hf⟩ := bnd_e hf
    refine v_bald (pc := 87) X (ly_8_4 ok kl0) ex2 (by decide +kernel) ?_
    obtain ⟨r3, er3, hf⟩ := nmd_e hf
    refine v_callS (pc := 88) (As := [.int x2]) (rest := []) X (mt_Sc_isLetter ok hi er3.symm) ml_8_57 ms_Sc_isLetter ⟨Nat.le_of_ble_eq_true rfl, Nat.le_of_ble_eq_true rfl⟩ rfl rfl (Nat.le_of_ble_eq_true rfl) (by decide +kernel) ?_
    change V E g tb ρ 1 91 [(0, .ref (ρ l0))] [.int r3] h1
    refine v_if_eq (pc := 91) (off := 10) (tgt := 101) X (by decide +kernel) (by decide) (fun q11 => ?_) (fun q11 => ?_)
    · rw [if_pos q11] at hf
      refine v_aload_n (pc := 101) (k := 0) X (by decide +kernel) 0 rfl ?_
      refine v_geta (pc := 102) X fl_8_15 kl0 fk_8_4 (by decide +kernel) ?_
      refine v_aload_n (pc := 105) (k := 0) X (by decide +kernel) 0 rfl ?_
      refine v_geti (pc := 106) X fl_8_45 kl0 rfl (by decide +kernel) ?_
      obtain ⟨x4, ex4, hf⟩ := bnd_e hf
      refine v_bald (pc := 109) X (ly_8_4 ok kl0) ex4 (by decide +kernel) ?_
      obtain ⟨r5, er5, hf⟩ := nmd_e hf
      refine v_callS (pc := 110) (As := [.int x4]) (rest := []) X (mt_Sc_isDigit ok hi er5.symm) ml_8_64 ms_Sc_isDigit ⟨Nat.le_of_ble_eq_true rfl, Nat.le_of_ble_eq_true rfl⟩ rfl rfl (Nat.le_of_ble_eq_true rfl) (by decide +kernel) ?_
      change V E g tb ρ 1 113 [(0, .ref (ρ l0))] [.int r5] h1
      refine v_if_eq (pc := 113) (off := 10) (tgt := 123) X (by decide +kernel) (by decide) (fun q9 => ?_) (fun q9 => ?_)
      · rw [if_pos q9] at hf
        refine v_aload_n (pc := 123) (k := 0) X (by decide +kernel) 0 rfl ?_
        refine v_aload_n (pc := 124) (k := 0) X (by decide +kernel) 0 rfl ?_
        refine v_geta (pc := 125) X fl_8_15 kl0 fk_8_4 (by decide +kernel) ?_
        refine v_aload_n (pc := 128) (k := 0) X (by decide +kernel) 0 rfl ?_
        refine v_geti (pc := 129) X fl_8_45 kl0 rfl (by decide +kernel) ?_
        obtain ⟨x6, ex6, hf⟩ := bnd_e hf
        refine v_bald (pc := 132) X (ly_8_4 ok kl0) ex6 (by decide +kernel) ?_
        obtain ⟨r7, er7, hf⟩ := bnd_e hf
        refine v_callV (pc := 133) (As := [.int x6]) (rest := []) X (mt_Sc_readSign ok hi kl0 er7) ml_8_70 mv_Sc_readSign kl0 cls_8 rfl ⟨Nat.le_of_ble_eq_true rfl, Nat.le_of_ble_eq_true rfl⟩ rfl rfl (Nat.le_of_ble_eq_true rfl) (by decide +kernel) ?_
        change V E g tb ρ 1 136 [(0, .ref (ρ l0))] [] r7
        cases hf
        exact v_vret X Y (by decide +kernel) rfl rfl
      · rw [if_neg q9] at hf
        refine v_aload_n (pc := 116) (k := 0) X (by decide +kernel) 0 rfl ?_
        obtain ⟨r8, er8, hf⟩ := bnd_e hf
        refine v_callV (pc := 117) (As := []) (rest := []) X (mt_Sc_readNumber ok hi kl0 er8) ml_8_67 mv_Sc_readNumber kl0 cls_8 rfl ⟨Nat.le_of_ble_eq_true rfl, Nat.le_of_ble_eq_true rfl⟩ rfl rfl (Nat.le_of_ble_eq_true rfl) (by decide +kernel) ?_
        change V E g tb ρ 1 120 [(0, .ref (ρ l0))] [] r8
        refine v_goto (pc := 120) (off := 16) (tgt := 136) X (by decide +kernel) (by decide) ?_
        cases hf
        exact v_vret X Y (by decide +kernel) rfl rfl
    · rw [if_neg q11] at hf
      refine v_aload_n (pc := 94) (k := 0) X (by decide +kernel) 0 rfl ?_
      obtain ⟨r10, er10, hf⟩ := bnd_e hf
      refine v_callV (pc := 95) (As := []) (rest := []) X (mt_Sc_readWord ok hi kl0 er10) ml_8_61 mv_Sc_readWord kl0 cls_8 rfl ⟨Nat.le_of_ble_eq_true rfl, Nat.le_of_ble_eq_true rfl⟩ rfl rfl (Nat.le_of_ble_eq_true rfl) (by decide +kernel) ?_
      change V E g tb ρ 1 98 [(0, .ref (ρ l0))] [] r10
      refine v_goto (pc := 98) (off := 38) (tgt := 136) X (by decide +kernel) (by decide) ?_
      cases hf
      exact v_vret X Y (by decide +kernel) rfl rfl
  · rw [if_neg q13] at hf
    refine v_aload_n (pc := 71) (k := 0) X (by decide +kernel) 0 rfl ?_
    refine v_iconst (pc := 72) (n := 0) X (by decide +kernel) ic_0 ?_
    obtain ⟨h12, eh12, hf⟩ := nmd_e hf
    refine v_puti (pc := 73) X fp_8_54 kl0 rfl (by decide +kernel) eh12 ?_
    refine v_goto (pc := 76) (off := 60) (tgt := 136) X (by decide +kernel) (by decide) ?_
    cases hf
    exact v_vret X Y (by decide +kernel) rfl rfl
set_option maxRecDepth 4000 in
set_option maxHeartbeats 1000000 in
theorem vjb_Sc_step_39 {E : En} {g : Gl} {tb : Tb} {ρ : Nat → Nat} (ok : TbOK tb) (hi : inj tb ρ) {r : Hp} (X : CX E g tb ρ prog_9_method_4_code 1 RC8 2 46) (Y : CQ E g tb ρ none (none) r) {c0 : Hp → Nat → Option (Hp)} (H0 : ∀ (h : Hp) (l0 : Nat) (kl0 : kd tb l0 = 8), c0 h l0 = some r → V E g tb ρ 1 0 [(0, .ref (ρ l0))] [] h) (h : Hp) (l0 : Nat) (kl0 : kd tb l0 = 8) (hf : jb_Sc_step_39 tb c0 h l0 = some r) : V E g tb ρ 1 39 [(0, .ref (ρ l0))] [] h := by
  unfold jb_Sc_step_39 at hf
  refine v_aload_n (pc := 39) (k := 0) X (by decide +kernel) 0 rfl ?_
  refine v_dup (pc := 40) X (by decide +kernel) rfl ?_
  refine v_geti (pc := 41) X fl_8_45 kl0 rfl (by decide +kernel) ?_
  refine v_iconst (pc := 44) (n := 1) X (by decide +kernel) ic_1 ?_
  refine v_iadd (pc := 45) X (by decide +kernel) ?_
  obtain ⟨h1, eh1, hf⟩ := nmd_e hf
  refine v_puti (pc := 46) X fp_8_45 kl0 rfl (by decide +kernel) eh1 ?_
  refine v_goto (pc := 49) (off := -49) (tgt := 0) X (by decide +kernel) (by decide) ?_
  exact H0 h1 l0 kl0 hf
set_option maxRecDepth 4000 in
set_option maxHeartbeats 1000000 in
theorem vlp_Sc_step_0 {E : En} {g : Gl} {tb : Tb} {ρ : Nat → Nat} (ok : TbOK tb) (hi : inj tb ρ) {r : Hp} (X : CX E g tb ρ prog_9_method_4_code 1 RC8 2 46) (Y : CQ E g tb ρ none (none) r) : ∀ (n : Nat) (h : Hp) (l0 : Nat) (kl0 : kd tb l0 = 8), lp_Sc_step_0 tb n h l0 = some r → V E g tb ρ 1 0 [(0, .ref (ρ l0))] [] h := by
  intro n
  induction n with
  | zero =>
    intro h l0 kl0 hf
    rw [lp_Sc_step_0] at hf
    cases hf
  | succ n ih =>
    intro h l0 kl0 hf
    rw [lp_Sc_step_0] at hf
    refine v_aload_n (pc := 0) (k := 0) X (by decide +kernel) 0 rfl ?_
    refine v_geti (pc := 1) X fl_8_45 kl0 rfl (by decide +kernel) ?_
    refine v_aload_n (pc := 4) (k := 0) X (by decide +kernel) 0 rfl ?_
    refine v_geti (pc := 5) X fl_8_41 kl0 rfl (by decide +kernel) ?_
    refine v_icmp_ge (pc := 8) (off := 44) (tgt := 52) X (by decide +kernel) (by decide) (fun q5 => ?_) (fun q5 => ?_)
    · rw [if_pos q5] at hf
      exact vjb_Sc_step_52 ok hi X Y h l0 kl0 hf
    · rw [if_neg q5] at hf
      refine v_aload_n (pc := 11) (k := 0) X (by decide +kernel) 0 rfl ?_
      refine v_geta (pc := 12) X fl_8_15 kl0 fk_8_4 (by decide +kernel) ?_
      refine v_aload_n (pc := 15) (k := 0) X (by decide +kernel) 0 rfl ?_
      refine v_geti (pc := 16) X fl_8_45 kl0 rfl (by decide +kernel) ?_
      obtain ⟨x1, ex1, hf⟩ := bnd_e hf
      refine v_bald (pc := 19) X (ly_8_4 ok kl0) ex1 (by decide +kernel) ?_
      refine v_bipush (pc := 20) (n := 10) X (by decide +kernel) bi_10 ?_
      refine v_icmp_eq (pc := 22) (off := 17) (tgt := 39) X (by decide +kernel) (by decide) (fun q4 => ?_) (fun q4 => ?_)
      · rw [if_pos q4] at hf
        exact vjb_Sc_step_39 ok hi X Y ih h l0 kl0 hf
      · rw [if_neg q4] at hf
        refine v_aload_n (pc := 25) (k := 0) X (by decide +kernel) 0 rfl ?_
        refine v_geta (pc := 26) X fl_8_15 kl0 fk_8_4 (by decide +kernel) ?_
        refine v_aload_n (pc := 29) (k := 0) X (by decide +kernel) 0 rfl ?_
        refine v_geti (pc := 30) X fl_8_45 kl0 rfl (by decide +kernel) ?_
        obtain ⟨x2, ex2, hf⟩ := bnd_e hf
        refine v_bald (pc := 33) X (ly_8_4 ok kl0) ex2 (by decide +kernel) ?_
        refine v_bipush (pc := 34) (n := 32) X (by decide +kernel) bi_32 ?_
        refine v_icmp_ne (pc := 36) (off := 16) (tgt := 52) X (by decide +kernel) (by decide) (fun q3 => ?_) (fun q3 => ?_)
        · rw [if_neg q3] at hf
          exact vjb_Sc_step_52 ok hi X Y h l0 kl0 hf
        · rw [if_pos q3] at hf
          exact vjb_Sc_step_39 ok hi X Y ih h l0 kl0 hf
set_option maxRecDepth 4000 in
set_option maxHeartbeats 1000000 in
theorem mt_Sc_step {g : Gl} {tb : Tb} {ρ : Nat → Nat} (ok : TbOK tb) (hi : inj tb ρ) {h : Hp} {l0 : Nat} (kl0 : kd tb l0 = 8) {r : Hp} (hf : f_Sc_step tb h l0 = some r) : MT g y_Sc_step prog_9_method_4_code 1 none 2 46 tb ρ [.ref (ρ l0)] h (none) r := by
  refine mt_intro (by decide +kernel) ok hi (Nat.le_of_ble_eq_true rfl) (fun E X Y => ?_)
  change V E g tb ρ 1 0 [(0, .ref (ρ l0))] [] h
  unfold f_Sc_step at hf
  exact vlp_Sc_step_0 ok hi X Y fu h l0 kl0 hf
def f_Sc_begin (tb : Tb) (h : Hp) (l0 : Nat) (l1 : Int32) : Option (Hp) :=
  nmd (pI h l0 6 (mnI l1 (Int32.ofNat (al tb (lay tb l0 4))))) fun h1 =>
  nmd (pI h1 l0 7 (0 : Int32)) fun h2 =>
  (f_Sc_step tb h2 l0).bind fun r3 =>
  some r3
set_option maxRecDepth 4000 in
set_option maxHeartbeats 1000000 in
theorem mt_Sc_begin {g : Gl} {tb : Tb} {ρ : Nat → Nat} (ok : TbOK tb) (hi : inj tb ρ) {h : Hp} {l0 : Nat} {l1 : Int32} (kl0 : kd tb l0 = 8) {r : Hp} (hf : f_Sc_begin tb h l0 l1 = some r) : MT g y_Sc_begin prog_9_method_3_code 2 none 3 66 tb ρ [.ref (ρ l0), .int l1] h (none) r := by
  refine mt_intro (by decide +kernel) ok hi (Nat.le_of_ble_eq_true rfl) (fun E X Y => ?_)
  change V E g tb ρ 2 0 [(0, .ref (ρ l0)), (1, .int l1)] [] h
  unfold f_Sc_begin at hf
  refine v_aload_n (pc := 0) (k := 0) X (by decide +kernel) 0 rfl ?_
  refine v_iload_n (pc := 1) (k := 1) X (by decide +kernel) 1 rfl ?_
  refine v_aload_n (pc := 2) (k := 0) X (by decide +kernel) 0 rfl ?_
  refine v_geta (pc := 3) X fl_8_15 kl0 fk_8_4 (by decide +kernel) ?_
  refine v_alen (pc := 6) X (by rw [(ly_8_4 ok kl0)]; decide) (by decide +kernel) ?_
  refine v_mmin (pc := 7) X mm_8_35 ms_mmin mc_mmin mi_math ⟨Nat.le_of_ble_eq_true rfl, Nat.le_of_ble_eq_true rfl⟩ (by decide +kernel) ?_
  obtain ⟨h1, eh1, hf⟩ := nmd_e hf
  refine v_puti (pc := 10) X fp_8_41 kl0 rfl (by decide +kernel) eh1 ?_
  refine v_aload_n (pc := 13) (k := 0) X (by decide +kernel) 0 rfl ?_
  refine v_iconst (pc := 14) (n := 0) X (by decide +kernel) ic_0 ?_
  obtain ⟨h2, eh2, hf⟩ := nmd_e hf
  refine v_puti (pc := 15) X fp_8_45 kl0 rfl (by decide +kernel) eh2 ?_
  refine v_aload_n (pc := 18) (k := 0) X (by decide +kernel) 0 rfl ?_
  obtain ⟨r3, er3, hf⟩ := bnd_e hf
  refine v_callV (pc := 19) (As := []) (rest := []) X (mt_Sc_step ok hi kl0 er3) ml_8_48 mv_Sc_step kl0 cls_8 rfl ⟨Nat.le_of_ble_eq_true rfl, Nat.le_of_ble_eq_true rfl⟩ rfl rfl (Nat.le_of_ble_eq_true rfl) (by decide +kernel) ?_
  change V E g tb ρ 2 22 [(0, .ref (ρ l0)), (1, .int l1)] [] r3
  cases hf
  exact v_vret X Y (by decide +kernel) rfl rfl
def f_Tr_fail (tb : Tb) (h : Hp) (l0 : Nat) (l1 : Int32) : Int32 × Hp :=
  nmd (pI h l0 1 l1) fun h1 =>
  ((0 : Int32), h1)
set_option maxRecDepth 4000 in
set_option maxHeartbeats 1000000 in
theorem mt_Tr_fail {g : Gl} {tb : Tb} {ρ : Nat → Nat} (ok : TbOK tb) (hi : inj tb ρ) {h : Hp} {l0 : Nat} {l1 : Int32} (kl0 : kd tb l0 = 10) {r : Int32 × Hp} (hf : f_Tr_fail tb h l0 l1 = r) : MT g y_Tr_fail prog_11_method_3_code 2 (some .boolean) 0 0 tb ρ [.ref (ρ l0), .int l1] h (some (.int r.1)) r.2 := by
  refine mt_intro (by decide +kernel) ok hi (Nat.le_of_ble_eq_true rfl) (fun E X Y => ?_)
  change V E g tb ρ 2 0 [(0, .ref (ρ l0)), (1, .int l1)] [] h
  unfold f_Tr_fail at hf
  refine v_aload_n (pc := 0) (k := 0) X (by decide +kernel) 0 rfl ?_
  refine v_iload_n (pc := 1) (k := 1) X (by decide +kernel) 1 rfl ?_
  obtain ⟨h1, eh1, hf⟩ := nmd_e hf
  refine v_puti (pc := 2) X fp_10_18 kl0 rfl (by decide +kernel) eh1 ?_
  refine v_iconst (pc := 5) (n := 0) X (by decide +kernel) ic_0 ?_
  cases hf
  exact v_zret (hz := rfl) X Y (by decide +kernel) rfl rfl
def jb_Tr_isNumber_39 (tb : Tb) (h : Hp) (l0 : Nat) : Option (Int32 × Hp) :=
  nmd (f_Tr_fail tb h l0 (2 : Int32)) fun r1 =>
  if r1.1 = (0 : Int32) then (
    some ((0 : Int32), r1.2)
  ) else (
    some ((1 : Int32), r1.2)
  )
def f_Tr_isNumber (tb : Tb) (h : Hp) (l0 : Nat) (l1 : Int32) (l2 : Int32) : Option (Int32 × Hp) :=
  if (h.1 (lay tb l0 3) 0) = (2 : Int32) then (
    if (h.1 (lay tb l0 3) 2) < l1 then (
      jb_Tr_isNumber_39 tb h l0
    ) else (
      if (h.1 (lay tb l0 3) 2) ≤ l2 then (
        some ((1 : Int32), h)
      ) else (
        jb_Tr_isNumber_39 tb h l0
      )
    )
  ) else (
    nmd (f_Tr_fail tb h l0 (1 : Int32)) fun r3 =>
    (cZ r3.1).bind fun x4 =>
    some (x4, r3.2)
  )
set_option maxRecDepth 4000 in
set_option maxHeartbeats 1000000 in
theorem vjb_Tr_isNumber_39 {E : En} {g : Gl} {tb : Tb} {ρ : Nat → Nat} (ok : TbOK tb) (hi : inj tb ρ) {r : Int32 × Hp} (X : CX E g tb ρ prog_11_method_5_code 3 RC10 1 21) (Y : CQ E g tb ρ (some .boolean) (some (.int r.1)) r.2) (h : Hp) (l0 : Nat) (kl0 : kd tb l0 = 10) (hf : jb_Tr_isNumber_39 tb h l0 = some r) : V E g tb ρ 3 39 [(0, .ref (ρ l0))] [] h := by
  unfold jb_Tr_isNumber_39 at hf
  refine v_aload_n (pc := 39) (k := 0) X (by decide +kernel) 0 rfl ?_
  refine v_iconst (pc := 40) (n := 2) X (by decide +kernel) ic_2 ?_
  obtain ⟨r1, er1, hf⟩ := nmd_e hf
  refine v_callV (pc := 41) (As := [.int (2 : Int32)]) (rest := []) X (mt_Tr_fail ok hi kl0 er1.symm) ml_10_73 mv_Tr_fail kl0 cls_10 rfl ⟨Nat.le_of_ble_eq_true rfl, Nat.le_of_ble_eq_true rfl⟩ rfl rfl (Nat.le_of_ble_eq_true rfl) (by decide +kernel) ?_
  change V E g tb ρ 3 44 [(0, .ref (ρ l0))] [.int r1.1] r1.2
  refine v_if_eq (pc := 44) (off := 7) (tgt := 51) X (by decide +kernel) (by decide) (fun q2 => ?_) (fun q2 => ?_)
  · rw [if_pos q2] at hf
    refine v_iconst (pc := 51) (n := 0) X (by decide +kernel) ic_0 ?_
    cases hf
    exact v_zret (hz := rfl) X Y (by decide +kernel) rfl rfl
  · rw [if_neg q2] at hf
    refine v_iconst (pc := 47) (n := 1) X (by decide +kernel) ic_1 ?_
    refine v_goto (pc := 48) (off := 4) (tgt := 52) X (by decide +kernel) (by decide) ?_
    cases hf
    exact v_zret (hz := rfl) X Y (by decide +kernel) rfl rfl
set_option maxRecDepth 4000 in
set_option maxHeartbeats 1000000 in
theorem mt_Tr_isNumber {g : Gl} {tb : Tb} {ρ : Nat → Nat} (ok : TbOK tb) (hi : inj tb ρ) {h : Hp} {l0 : Nat} {l1 : Int32} {l2 : Int32} (kl0 : kd tb l0 = 10) {r : Int32 × Hp} (hf : f_Tr_isNumber tb h l0 l1 l2 = some r) : MT g y_Tr_isNumber prog_11_method_5_code 3 (some .boolean) 1 21 tb ρ [.ref (ρ l0), .int l1, .int l2] h (some (.int r.1)) r.2 := by
  refine mt_intro (by decide +kernel) ok hi (Nat.le_of_ble_eq_true rfl) (fun E X Y => ?_)
  change V E g tb ρ 3 0 [(0, .ref (ρ l0)), (1, .int l1), (2, .int l2)] [] h
  unfold f_Tr_isNumber at hf
  refine v_aload_n (pc := 0) (k := 0) X (by decide +kernel) 0 rfl ?_
  refine v_geta (pc := 1) X fl_10_30 kl0 fk_10_3 (by decide +kernel) ?_
  refine v_geti (pc := 4) X fl_10_61 (ly_10_3 ok kl0) rfl (by decide +kernel) ?_
  refine v_iconst (pc := 7) (n := 2) X (by decide +kernel) ic_2 ?_
  refine v_icmp_eq (pc := 8) (off := 9) (tgt := 17) X (by decide +kernel) (by decide) (fun q5 => ?_) (fun q5 => ?_)
  · rw [if_pos q5] at hf
    refine v_aload_n (pc := 17) (k := 0) X (by decide +kernel) 0 rfl ?_
    refine v_geta (pc := 18) X fl_10_30 kl0 fk_10_3 (by decide +kernel) ?_
    refine v_geti (pc := 21) X fl_10_98 (ly_10_3 ok kl0) rfl (by decide +kernel) ?_
    refine v_iload_n (pc := 24) (k := 1) X (by decide +kernel) 1 rfl ?_
    refine v_icmp_lt (pc := 25) (off := 14) (tgt := 39) X (by decide +kernel) (by decide) (fun q2 => ?_) (fun q2 => ?_)
    · rw [if_pos q2] at hf
      refine v_sub [0] rfl ?_
      exact vjb_Tr_isNumber_39 ok hi X Y h l0 kl0 hf
    · rw [if_neg q2] at hf
      refine v_aload_n (pc := 28) (k := 0) X (by decide +kernel) 0 rfl ?_
      refine v_geta (pc := 29) X fl_10_30 kl0 fk_10_3 (by decide +kernel) ?_
      refine v_geti (pc := 32) X fl_10_98 (ly_10_3 ok kl0) rfl (by decide +kernel) ?_
      refine v_iload_n (pc := 35) (k := 2) X (by decide +kernel) 2 rfl ?_
      refine v_icmp_le (pc := 36) (off := 11) (tgt := 47) X (by decide +kernel) (by decide) (fun q1 => ?_) (fun q1 => ?_)
      · rw [if_pos q1] at hf
        refine v_iconst (pc := 47) (n := 1) X (by decide +kernel) ic_1 ?_
        refine v_goto (pc := 48) (off := 4) (tgt := 52) X (by decide +kernel) (by decide) ?_
        cases hf
        exact v_zret (hz := rfl) X Y (by decide +kernel) rfl rfl
      · rw [if_neg q1] at hf
        refine v_sub [0] rfl ?_
        exact vjb_Tr_isNumber_39 ok hi X Y h l0 kl0 hf
  · rw [if_neg q5] at hf
    refine v_aload_n (pc := 11) (k := 0) X (by decide +kernel) 0 rfl ?_
    refine v_iconst (pc := 12) (n := 1) X (by decide +kernel) ic_1 ?_
    obtain ⟨r3, er3, hf⟩ := nmd_e hf
    refine v_callV (pc := 13) (As := [.int (1 : Int32)]) (rest := []) X (mt_Tr_fail ok hi kl0 er3.symm) ml_10_73 mv_Tr_fail kl0 cls_10 rfl ⟨Nat.le_of_ble_eq_true rfl, Nat.le_of_ble_eq_true rfl⟩ rfl rfl (Nat.le_of_ble_eq_true rfl) (by decide +kernel) ?_
    change V E g tb ρ 3 16 [(0, .ref (ρ l0)), (1, .int l1), (2, .int l2)] [.int r3.1] r3.2
    obtain ⟨x4, ex4, hf⟩ := bnd_e hf
    obtain ⟨bx4, rfl⟩ := cZ_e ex4
    cases hf
    exact v_zret (hz := bx4) X Y (by decide +kernel) rfl rfl
def f_Tr_takeNumber (tb : Tb) (h : Hp) (l0 : Nat) (l1 : Int32) (l2 : Int32) : Option (Int32 × Hp) :=
  (f_Tr_isNumber tb h l0 l1 l2).bind fun r1 =>
  if r1.1 = (0 : Int32) then (
    some ((-1 : Int32), r1.2)
  ) else (
    nmd (r1.2.1 (lay tb l0 3) 2) fun x2 =>
    (f_Sc_step tb r1.2 (lay tb l0 3)).bind fun r3 =>
    some (x2, r3)
  )
set_option maxRecDepth 4000 in
set_option maxHeartbeats 1000000 in
theorem mt_Tr_takeNumber {g : Gl} {tb : Tb} {ρ : Nat → Nat} (ok : TbOK tb) (hi : inj tb ρ) {h : Hp} {l0 : Nat} {l1 : Int32} {l2 : Int32} (kl0 : kd tb l0 = 10) {r : Int32 × Hp} (hf : f_Tr_takeNumber tb h l0 l1 l2 = some r) : MT g y_Tr_takeNumber prog_11_method_6_code 4 (some .int) 3 66 tb ρ [.ref (ρ l0), .int l1, .int l2] h (some (.int r.1)) r.2 := by
  refine mt_intro (by decide +kernel) ok hi (Nat.le_of_ble_eq_true rfl) (fun E X Y => ?_)
  change V E g tb ρ 4 0 [(0, .ref (ρ l0)), (1, .int l1), (2, .int l2)] [] h
  unfold f_Tr_takeNumber at hf
  refine v_aload_n (pc := 0) (k := 0) X (by decide +kernel) 0 rfl ?_
  refine v_iload_n (pc := 1) (k := 1) X (by decide +kernel) 1 rfl ?_
  refine v_iload_n (pc := 2) (k := 2) X (by decide +kernel) 2 rfl ?_
  obtain ⟨r1, er1, hf⟩ := bnd_e hf
  refine v_callV (pc := 3) (As := [.int l1, .int l2]) (rest := []) X (mt_Tr_isNumber ok hi kl0 er1) ml_10_101 mv_Tr_isNumber kl0 cls_10 rfl ⟨Nat.le_of_ble_eq_true rfl, Nat.le_of_ble_eq_true rfl⟩ rfl rfl (Nat.le_of_ble_eq_true rfl) (by decide +kernel) ?_
  change V E g tb ρ 4 6 [(0, .ref (ρ l0)), (1, .int l1), (2, .int l2)] [.int r1.1] r1.2
  refine v_if_ne (pc := 6) (off := 5) (tgt := 11) X (by decide +kernel) (by decide) (fun q4 => ?_) (fun q4 => ?_)
  · rw [if_neg q4] at hf
    refine v_aload_n (pc := 11) (k := 0) X (by decide +kernel) 0 rfl ?_
    refine v_geta (pc := 12) X fl_10_30 kl0 fk_10_3 (by decide +kernel) ?_
    refine v_geti (pc := 15) X fl_10_98 (ly_10_3 ok kl0) rfl (by decide +kernel) ?_
    obtain ⟨x2, ex2, hf⟩ := nmd_e hf
    refine v_nmi ex2 ?_
    refine v_istore_n (pc := 18) (k := 3) (lv' := [(3, .int x2), (0, .ref (ρ l0)), (1, .int l1), (2, .int l2)]) X (by decide +kernel) (Nat.le_of_ble_eq_true rfl) rfl ?_
    refine v_aload_n (pc := 19) (k := 0) X (by decide +kernel) 1 rfl ?_
    refine v_geta (pc := 20) X fl_10_30 kl0 fk_10_3 (by decide +kernel) ?_
    obtain ⟨r3, er3, hf⟩ := bnd_e hf
    refine v_callV (pc := 23) (As := []) (rest := []) X (mt_Sc_step ok hi (ly_10_3 ok kl0) er3) ml_10_95 mv_Sc_step (ly_10_3 ok kl0) cls_8 rfl ⟨Nat.le_of_ble_eq_true rfl, Nat.le_of_ble_eq_true rfl⟩ rfl rfl (Nat.le_of_ble_eq_true rfl) (by decide +kernel) ?_
    change V E g tb ρ 4 26 [(3, .int x2), (0, .ref (ρ l0)), (1, .int l1), (2, .int l2)] [] r3
    refine v_iload_n (pc := 26) (k := 3) X (by decide +kernel) 0 rfl ?_
    cases hf
    exact v_iret X Y (by decide +kernel) rfl rfl
  · rw [if_pos q4] at hf
    refine v_iconst (pc := 9) (n := -1) X (by decide +kernel) ic_m1 ?_
    cases hf
    exact v_iret X Y (by decide +kernel) rfl rfl
def f_Tr_readRoad (tb : Tb) (h : Hp) (l0 : Nat) : Option (Int32 × Hp) :=
  (f_Sc_step tb h (lay tb l0 3)).bind fun r1 =>
  (f_Tr_takeNumber tb r1 l0 (2 : Int32) (60 : Int32)).bind fun r2 =>
  if r2.1 = (-1 : Int32) then (
    some ((0 : Int32), r2.2)
  ) else (
    nmd (pI r2.2 (lay tb l0 0) 0 r2.1) fun h3 =>
    some ((1 : Int32), h3)
  )
set_option maxRecDepth 4000 in
set_option maxHeartbeats 1000000 in
theorem mt_Tr_readRoad {g : Gl} {tb : Tb} {ρ : Nat → Nat} (ok : TbOK tb) (hi : inj tb ρ) {h : Hp} {l0 : Nat} (kl0 : kd tb l0 = 10) {r : Int32 × Hp} (hf : f_Tr_readRoad tb h l0 = some r) : MT g y_Tr_readRoad prog_11_method_9_code 2 (some .boolean) 4 89 tb ρ [.ref (ρ l0)] h (some (.int r.1)) r.2 := by
  refine mt_intro (by decide +kernel) ok hi (Nat.le_of_ble_eq_true rfl) (fun E X Y => ?_)
  change V E g tb ρ 2 0 [(0, .ref (ρ l0))] [] h
  unfold f_Tr_readRoad at hf
  refine v_aload_n (pc := 0) (k := 0) X (by decide +kernel) 0 rfl ?_
  refine v_geta (pc := 1) X fl_10_30 kl0 fk_10_3 (by decide +kernel) ?_
  obtain ⟨r1, er1, hf⟩ := bnd_e hf
  refine v_callV (pc := 4) (As := []) (rest := []) X (mt_Sc_step ok hi (ly_10_3 ok kl0) er1) ml_10_95 mv_Sc_step (ly_10_3 ok kl0) cls_8 rfl ⟨Nat.le_of_ble_eq_true rfl, Nat.le_of_ble_eq_true rfl⟩ rfl rfl (Nat.le_of_ble_eq_true rfl) (by decide +kernel) ?_
  change V E g tb ρ 2 7 [(0, .ref (ρ l0))] [] r1
  refine v_aload_n (pc := 7) (k := 0) X (by decide +kernel) 0 rfl ?_
  refine v_iconst (pc := 8) (n := 2) X (by decide +kernel) ic_2 ?_
  refine v_bipush (pc := 9) (n := 60) X (by decide +kernel) bi_60 ?_
  obtain ⟨r2, er2, hf⟩ := bnd_e hf
  refine v_callV (pc := 11) (As := [.int (2 : Int32), .int (60 : Int32)]) (rest := []) X (mt_Tr_takeNumber ok hi kl0 er2) ml_10_112 mv_Tr_takeNumber kl0 cls_10 rfl ⟨Nat.le_of_ble_eq_true rfl, Nat.le_of_ble_eq_true rfl⟩ rfl rfl (Nat.le_of_ble_eq_true rfl) (by decide +kernel) ?_
  change V E g tb ρ 2 14 [(0, .ref (ρ l0))] [.int r2.1] r2.2
  refine v_istore_n (pc := 14) (k := 1) (lv' := [(1, .int r2.1), (0, .ref (ρ l0))]) X (by decide +kernel) (Nat.le_of_ble_eq_true rfl) rfl ?_
  refine v_iload_n (pc := 15) (k := 1) X (by decide +kernel) 0 rfl ?_
  refine v_iconst (pc := 16) (n := -1) X (by decide +kernel) ic_m1 ?_
  refine v_icmp_ne (pc := 17) (off := 5) (tgt := 22) X (by decide +kernel) (by decide) (fun q4 => ?_) (fun q4 => ?_)
  · rw [if_neg q4] at hf
    refine v_aload_n (pc := 22) (k := 0) X (by decide +kernel) 1 rfl ?_
    refine v_geta (pc := 23) X fl_10_12 kl0 fk_10_0 (by decide +kernel) ?_
    refine v_iload_n (pc := 26) (k := 1) X (by decide +kernel) 0 rfl ?_
    obtain ⟨h3, eh3, hf⟩ := nmd_e hf
    refine v_puti (pc := 27) X fp_10_116 (ly_10_0 ok kl0) rfl (by decide +kernel) eh3 ?_
    refine v_iconst (pc := 30) (n := 1) X (by decide +kernel) ic_1 ?_
    cases hf
    exact v_zret (hz := rfl) X Y (by decide +kernel) rfl rfl
  · rw [if_pos q4] at hf
    refine v_iconst (pc := 20) (n := 0) X (by decide +kernel) ic_0 ?_
    cases hf
    exact v_zret (hz := rfl) X Y (by decide +kernel) rfl rfl
def f_Tr_isNewName (tb : Tb) (h : Hp) (l0 : Nat) (l1 : Nat) (l2 : Int32) : Option (Int32 × Hp) :=
  if (h.1 (lay tb l0 3) 0) = (3 : Int32) then (
    (f_Tt_find tb h l1 l2 (h.1 (lay tb l0 3) 3)).bind fun r1 =>
    if r1 = (-1 : Int32) then (
      some ((1 : Int32), h)
    ) else (
      nmd (f_Tr_fail tb h l0 (3 : Int32)) fun r2 =>
      if r2.1 = (0 : Int32) then (
        some ((0 : Int32), r2.2)
      ) else (
        some ((1 : Int32), r2.2)
      )
    )
  ) else (
    nmd (f_Tr_fail tb h l0 (1 : Int32)) fun r5 =>
    (cZ r5.1).bind fun x6 =>
    some (x6, r5.2)
  )
set_option maxRecDepth 4000 in
set_option maxHeartbeats 1000000 in
theorem mt_Tr_isNewName {g : Gl} {tb : Tb} {ρ : Nat → Nat} (ok : TbOK tb) (hi : inj tb ρ) {h : Hp} {l0 : Nat} {l1 : Nat} {l2 : Int32} (kl0 : kd tb l0 = 10) (kl1 : kd tb l1 = 20) {r : Int32 × Hp} (hf : f_Tr_isNewName tb h l0 l1 l2 = some r) : MT g y_Tr_isNewName prog_11_method_7_code 3 (some .boolean) 1 23 tb ρ [.ref (ρ l0), .ref (ρ l1), .int l2] h (some (.int r.1)) r.2 := by
  refine mt_intro (by decide +kernel) ok hi (Nat.le_of_ble_eq_true rfl) (fun E X Y => ?_)
  change V E g tb ρ 3 0 [(0, .ref (ρ l0)), (1, .ref (ρ l1)), (2, .int l2)] [] h
  unfold f_Tr_isNewName at hf
  refine v_aload_n (pc := 0) (k := 0) X (by decide +kernel) 0 rfl ?_
  refine v_geta (pc := 1) X fl_10_30 kl0 fk_10_3 (by decide +kernel) ?_
  refine v_geti (pc := 4) X fl_10_61 (ly_10_3 ok kl0) rfl (by decide +kernel) ?_
  refine v_iconst (pc := 7) (n := 3) X (by decide +kernel) ic_3 ?_
  refine v_icmp_eq (pc := 8) (off := 9) (tgt := 17) X (by decide +kernel) (by decide) (fun q7 => ?_) (fun q7 => ?_)
  · rw [if_pos q7] at hf
    refine v_aload_n (pc := 17) (k := 1) X (by decide +kernel) 1 rfl ?_
    refine v_iload_n (pc := 18) (k := 2) X (by decide +kernel) 2 rfl ?_
    refine v_aload_n (pc := 19) (k := 0) X (by decide +kernel) 0 rfl ?_
    refine v_geta (pc := 20) X fl_10_30 kl0 fk_10_3 (by decide +kernel) ?_
    refine v_geti (pc := 23) X fl_10_105 (ly_10_3 ok kl0) rfl (by decide +kernel) ?_
    obtain ⟨r1, er1, hf⟩ := bnd_e hf
    refine v_callSN (pc := 26) (As := [.ref (ρ l1), .int l2, .int (h.1 (lay tb l0 3) 3)]) (rest := []) X (mt_Tt_find ok hi kl1 er1) ml_10_108 ms_Tt_find ⟨Nat.le_of_ble_eq_true rfl, Nat.le_of_ble_eq_true rfl⟩ rfl rfl (Nat.le_of_ble_eq_true rfl) (by decide +kernel) ?_
    change V E g tb ρ 3 29 [(0, .ref (ρ l0)), (1, .ref (ρ l1)), (2, .int l2)] [.int r1] h
    refine v_iconst (pc := 29) (n := -1) X (by decide +kernel) ic_m1 ?_
    refine v_icmp_eq (pc := 30) (off := 11) (tgt := 41) X (by decide +kernel) (by decide) (fun q4 => ?_) (fun q4 => ?_)
    · rw [if_pos q4] at hf
      refine v_iconst (pc := 41) (n := 1) X (by decide +kernel) ic_1 ?_
      refine v_goto (pc := 42) (off := 4) (tgt := 46) X (by decide +kernel) (by decide) ?_
      cases hf
      exact v_zret (hz := rfl) X Y (by decide +kernel) rfl rfl
    · rw [if_neg q4] at hf
      refine v_aload_n (pc := 33) (k := 0) X (by decide +kernel) 0 rfl ?_
      refine v_iconst (pc := 34) (n := 3) X (by decide +kernel) ic_3 ?_
      obtain ⟨r2, er2, hf⟩ := nmd_e hf
      refine v_callV (pc := 35) (As := [.int (3 : Int32)]) (rest := []) X (mt_Tr_fail ok hi kl0 er2.symm) ml_10_73 mv_Tr_fail kl0 cls_10 rfl ⟨Nat.le_of_ble_eq_true rfl, Nat.le_of_ble_eq_true rfl⟩ rfl rfl (Nat.le_of_ble_eq_true rfl) (by decide +kernel) ?_
      change V E g tb ρ 3 38 [(0, .ref (ρ l0)), (1, .ref (ρ l1)), (2, .int l2)] [.int r2.1] r2.2
      refine v_if_eq (pc := 38) (off := 7) (tgt := 45) X (by decide +kernel) (by decide) (fun q3 => ?_) (fun q3 => ?_)
      · rw [if_pos q3] at hf
        refine v_iconst (pc := 45) (n := 0) X (by decide +kernel) ic_0 ?_
        cases hf
        exact v_zret (hz := rfl) X Y (by decide +kernel) rfl rfl
      · rw [if_neg q3] at hf
        refine v_iconst (pc := 41) (n := 1) X (by decide +kernel) ic_1 ?_
        refine v_goto (pc := 42) (off := 4) (tgt := 46) X (by decide +kernel) (by decide) ?_
        cases hf
        exact v_zret (hz := rfl) X Y (by decide +kernel) rfl rfl
  · rw [if_neg q7] at hf
    refine v_aload_n (pc := 11) (k := 0) X (by decide +kernel) 0 rfl ?_
    refine v_iconst (pc := 12) (n := 1) X (by decide +kernel) ic_1 ?_
    obtain ⟨r5, er5, hf⟩ := nmd_e hf
    refine v_callV (pc := 13) (As := [.int (1 : Int32)]) (rest := []) X (mt_Tr_fail ok hi kl0 er5.symm) ml_10_73 mv_Tr_fail kl0 cls_10 rfl ⟨Nat.le_of_ble_eq_true rfl, Nat.le_of_ble_eq_true rfl⟩ rfl rfl (Nat.le_of_ble_eq_true rfl) (by decide +kernel) ?_
    change V E g tb ρ 3 16 [(0, .ref (ρ l0)), (1, .ref (ρ l1)), (2, .int l2)] [.int r5.1] r5.2
    obtain ⟨x6, ex6, hf⟩ := bnd_e hf
    obtain ⟨bx6, rfl⟩ := cZ_e ex6
    cases hf
    exact v_zret (hz := bx6) X Y (by decide +kernel) rfl rfl
def f_Pl_troughThere (tb : Tb) (h : Hp) (l0 : Nat) (l1 : Int32) : Option (Int32) :=
  if l1 < (0 : Int32) then (
    some (-1 : Int32)
  ) else (
    if (Int32.ofNat (al tb (lay tb l0 10))) ≤ l1 then (
      some (-1 : Int32)
    ) else (
      (rI tb h (lay tb l0 10) l1).bind fun x1 =>
      some x1
    )
  )
set_option maxRecDepth 4000 in
set_option maxHeartbeats 1000000 in
theorem mt_Pl_troughThere {g : Gl} {tb : Tb} {ρ : Nat → Nat} (ok : TbOK tb) (hi : inj tb ρ) {h : Hp} {l0 : Nat} {l1 : Int32} (kl0 : kd tb l0 = 7) {r : Int32} (hf : f_Pl_troughThere tb h l0 l1 = some r) : MT g y_Pl_troughThere prog_8_method_6_code 2 (some .int) 0 0 tb ρ [.ref (ρ l0), .int l1] h (some (.int r)) h := by
  refine mt_intro (by decide +kernel) ok hi (Nat.le_of_ble_eq_true rfl) (fun E X Y => ?_)
  change V E g tb ρ 2 0 [(0, .ref (ρ l0)), (1, .int l1)] [] h
  unfold f_Pl_troughThere at hf
  refine v_iload_n (pc := 0) (k := 1) X (by decide +kernel) 1 rfl ?_
  refine v_if_lt (pc := 1) (off := 21) (tgt := 22) X (by decide +kernel) (by decide) (fun q3 => ?_) (fun q3 => ?_)
  · rw [if_pos q3] at hf
    refine v_iconst (pc := 22) (n := -1) X (by decide +kernel) ic_m1 ?_
    cases hf
    exact v_iret X Y (by decide +kernel) rfl rfl
  · rw [if_neg q3] at hf
    refine v_iload_n (pc := 4) (k := 1) X (by decide +kernel) 1 rfl ?_
    refine v_aload_n (pc := 5) (k := 0) X (by decide +kernel) 0 rfl ?_
    refine v_geta (pc := 6) X fl_7_24 kl0 fk_7_10 (by decide +kernel) ?_
    refine v_alen (pc := 9) X (by rw [(ly_7_10 ok kl0)]; decide) (by decide +kernel) ?_
    refine v_icmp_ge (pc := 10) (off := 12) (tgt := 22) X (by decide +kernel) (by decide) (fun q2 => ?_) (fun q2 => ?_)
    · rw [if_pos q2] at hf
      refine v_iconst (pc := 22) (n := -1) X (by decide +kernel) ic_m1 ?_
      cases hf
      exact v_iret X Y (by decide +kernel) rfl rfl
    · rw [if_neg q2] at hf
      refine v_aload_n (pc := 13) (k := 0) X (by decide +kernel) 0 rfl ?_
      refine v_geta (pc := 14) X fl_7_24 kl0 fk_7_10 (by decide +kernel) ?_
      refine v_iload_n (pc := 17) (k := 1) X (by decide +kernel) 1 rfl ?_
      obtain ⟨x1, ex1, hf⟩ := bnd_e hf
      refine v_iald (pc := 18) X (ly_7_10 ok kl0) ex1 (by decide +kernel) ?_
      refine v_goto (pc := 19) (off := 4) (tgt := 23) X (by decide +kernel) (by decide) ?_
      cases hf
      exact v_iret X Y (by decide +kernel) rfl rfl
def jb_Tr_readTrough_154 (tb : Tb) (h : Hp) (l0 : Nat) (l1 : Int32) (l2 : Int32) (l3 : Int32) (s0 : Int32) : Option (Int32 × Hp) :=
  if s0 = (-1 : Int32) then (
    some ((0 : Int32), h)
  ) else (
    if l2 < (Int32.ofNat (al tb (lay tb (lay tb l0 0) 10))) then (
      (wI tb h (lay tb (lay tb l0 0) 7) l1 l2).bind fun h1 =>
      (wI tb h1 (lay tb (lay tb l0 0) 8) l1 l3).bind fun h2 =>
      (wI tb h2 (lay tb (lay tb l0 0) 9) l1 s0).bind fun h3 =>
      (wI tb h3 (lay tb (lay tb l0 0) 10) l2 l1).bind fun h4 =>
      nmd (pI h4 (lay tb l0 0) 3 ((h4.1 (lay tb l0 0) 3) + (1 : Int32))) fun h5 =>
      some ((1 : Int32), h5)
    ) else (
      some ((0 : Int32), h)
    )
  )
def jb_Tr_readTrough_137 (tb : Tb) (h : Hp) (l0 : Nat) (l1 : Int32) (l2 : Int32) (s0 : Int32) : Option (Int32 × Hp) :=
  if s0 = (-1 : Int32) then (
    jb_Tr_readTrough_154 tb h l0 l1 l2 s0 (-1 : Int32)
  ) else (
    (f_Tr_takeNumber tb h l0 (0 : Int32) (9 : Int32)).bind fun r1 =>
    jb_Tr_readTrough_154 tb r1.2 l0 l1 l2 s0 r1.1
  )
def f_Tr_readTrough (tb : Tb) (h : Hp) (l0 : Nat) : Option (Int32 × Hp) :=
  nmd (h.1 (lay tb l0 0) 3) fun x1 =>
  if x1 < (6 : Int32) then (
    (f_Sc_step tb h (lay tb l0 3)).bind fun r2 =>
    (f_Tr_isNewName tb r2 l0 (lay tb (lay tb l0 0) 6) x1).bind fun r3 =>
    if r3.1 = (0 : Int32) then (
      some ((0 : Int32), r3.2)
    ) else (
      (wI tb r3.2 (lay tb (lay tb l0 0) 6) x1 (r3.2.1 (lay tb l0 3) 3)).bind fun h4 =>
      (f_Sc_step tb h4 (lay tb l0 3)).bind fun r5 =>
      (f_Tr_isNumber tb r5 l0 (0 : Int32) (r5.1 (lay tb l0 0) 0)).bind fun r6 =>
      if r6.1 = (0 : Int32) then (
        some ((0 : Int32), r6.2)
      ) else (
        (f_Pl_troughThere tb r6.2 (lay tb l0 0) (r6.2.1 (lay tb l0 3) 2)).bind fun r7 =>
        if r7 = (-1 : Int32) then (
          (f_Tr_takeNumber tb r6.2 l0 (0 : Int32) (r6.2.1 (lay tb l0 0) 0)).bind fun r8 =>
          if r8.1 = (-1 : Int32) then (
            jb_Tr_readTrough_137 tb r8.2 l0 x1 r8.1 (-1 : Int32)
          ) else (
            (f_Tr_takeNumber tb r8.2 l0 (0 : Int32) (99 : Int32)).bind fun r9 =>
            jb_Tr_readTrough_137 tb r9.2 l0 x1 r8.1 r9.1
          )
        ) else (
          nmd (f_Tr_fail tb r6.2 l0 (3 : Int32)) fun r11 =>
          (cZ r11.1).bind fun x12 =>
          some (x12, r11.2)
        )
      )
    )
  ) else (
    nmd (f_Tr_fail tb h l0 (2 : Int32)) fun r16 =>
    (cZ r16.1).bind fun x17 =>
    some (x17, r16.2)
  )
set_option maxRecDepth 4000 in
set_option maxHeartbeats 1000000 in
theorem vjb_Tr_readTrough_154 {E : En} {g : Gl} {tb : Tb} {ρ : Nat → Nat} (ok : TbOK tb) (hi : inj tb ρ) {r : Int32 × Hp} (X : CX E g tb ρ prog_11_method_10_code 5 RC10 4 89) (Y : CQ E g tb ρ (some .boolean) (some (.int r.1)) r.2) (h : Hp) (l0 : Nat) (l1 : Int32) (l2 : Int32) (l3 : Int32) (s0 : Int32) (kl0 : kd tb l0 = 10) (hf : jb_Tr_readTrough_154 tb h l0 l1 l2 l3 s0 = some r) : V E g tb ρ 5 154 [(0, .ref (ρ l0)), (1, .int l1), (2, .int l2), (3, .int l3)] [.int s0] h := by
  unfold jb_Tr_readTrough_154 at hf
  refine v_istore (pc := 154) (k := 4) (lv' := [(4, .int s0), (0, .ref (ρ l0)), (1, .int l1), (2, .int l2), (3, .int l3)]) X (by decide +kernel) (Nat.le_of_ble_eq_true rfl) rfl ?_
  refine v_iload (pc := 156) (k := 4) X (by decide +kernel) 0 rfl ?_
  refine v_iconst (pc := 158) (n := -1) X (by decide +kernel) ic_m1 ?_
  refine v_icmp_eq (pc := 159) (off := 15) (tgt := 174) X (by decide +kernel) (by decide) (fun q7 => ?_) (fun q7 => ?_)
  · rw [if_pos q7] at hf
    refine v_iconst (pc := 174) (n := 0) X (by decide +kernel) ic_0 ?_
    cases hf
    exact v_zret (hz := rfl) X Y (by decide +kernel) rfl rfl
  · rw [if_neg q7] at hf
    refine v_iload_n (pc := 162) (k := 2) X (by decide +kernel) 3 rfl ?_
    refine v_aload_n (pc := 163) (k := 0) X (by decide +kernel) 1 rfl ?_
    refine v_geta (pc := 164) X fl_10_12 kl0 fk_10_0 (by decide +kernel) ?_
    refine v_geta (pc := 167) X fl_10_134 (ly_10_0 ok kl0) fk_7_10 (by decide +kernel) ?_
    refine v_alen (pc := 170) X (by rw [(ly_7_10 ok (ly_10_0 ok kl0))]; decide) (by decide +kernel) ?_
    refine v_icmp_lt (pc := 171) (off := 5) (tgt := 176) X (by decide +kernel) (by decide) (fun q6 => ?_) (fun q6 => ?_)
    · rw [if_pos q6] at hf
      refine v_aload_n (pc := 176) (k := 0) X (by decide +kernel) 1 rfl ?_
      refine v_geta (pc := 177) X fl_10_12 kl0 fk_10_0 (by decide +kernel) ?_
      refine v_geta (pc := 180) X fl_10_137 (ly_10_0 ok kl0) fk_7_7 (by decide +kernel) ?_
      refine v_iload_n (pc := 183) (k := 1) X (by decide +kernel) 2 rfl ?_
      refine v_iload_n (pc := 184) (k := 2) X (by decide +kernel) 3 rfl ?_
      obtain ⟨h1, eh1, hf⟩ := bnd_e hf
      refine v_iast (pc := 185) X (ly_7_7 ok (ly_10_0 ok kl0)) eh1 (by decide +kernel) ?_
      refine v_aload_n (pc := 186) (k := 0) X (by decide +kernel) 1 rfl ?_
      refine v_geta (pc := 187) X fl_10_12 kl0 fk_10_0 (by decide +kernel) ?_
      refine v_geta (pc := 190) X fl_10_140 (ly_10_0 ok kl0) fk_7_8 (by decide +kernel) ?_
      refine v_iload_n (pc := 193) (k := 1) X (by decide +kernel) 2 rfl ?_
      refine v_iload_n (pc := 194) (k := 3) X (by decide +kernel) 4 rfl ?_
      obtain ⟨h2, eh2, hf⟩ := bnd_e hf
      refine v_iast (pc := 195) X (ly_7_8 ok (ly_10_0 ok kl0)) eh2 (by decide +kernel) ?_
      refine v_aload_n (pc := 196) (k := 0) X (by decide +kernel) 1 rfl ?_
      refine v_geta (pc := 197) X fl_10_12 kl0 fk_10_0 (by decide +kernel) ?_
      refine v_geta (pc := 200) X fl_10_143 (ly_10_0 ok kl0) fk_7_9 (by decide +kernel) ?_
      refine v_iload_n (pc := 203) (k := 1) X (by decide +kernel) 2 rfl ?_
      refine v_iload (pc := 204) (k := 4) X (by decide +kernel) 0 rfl ?_
      obtain ⟨h3, eh3, hf⟩ := bnd_e hf
      refine v_iast (pc := 206) X (ly_7_9 ok (ly_10_0 ok kl0)) eh3 (by decide +kernel) ?_
      refine v_aload_n (pc := 207) (k := 0) X (by decide +kernel) 1 rfl ?_
      refine v_geta (pc := 208) X fl_10_12 kl0 fk_10_0 (by decide +kernel) ?_
      refine v_geta (pc := 211) X fl_10_134 (ly_10_0 ok kl0) fk_7_10 (by decide +kernel) ?_
      refine v_iload_n (pc := 214) (k := 2) X (by decide +kernel) 3 rfl ?_
      refine v_iload_n (pc := 215) (k := 1) X (by decide +kernel) 2 rfl ?_
      obtain ⟨h4, eh4, hf⟩ := bnd_e hf
      refine v_iast (pc := 216) X (ly_7_10 ok (ly_10_0 ok kl0)) eh4 (by decide +kernel) ?_
      refine v_aload_n (pc := 217) (k := 0) X (by decide +kernel) 1 rfl ?_
      refine v_geta (pc := 218) X fl_10_12 kl0 fk_10_0 (by decide +kernel) ?_
      refine v_dup (pc := 221) X (by decide +kernel) rfl ?_
      refine v_geti (pc := 222) X fl_10_119 (ly_10_0 ok kl0) rfl (by decide +kernel) ?_
      refine v_iconst (pc := 225) (n := 1) X (by decide +kernel) ic_1 ?_
      refine v_iadd (pc := 226) X (by decide +kernel) ?_
      obtain ⟨h5, eh5, hf⟩ := nmd_e hf
      refine v_puti (pc := 227) X fp_10_119 (ly_10_0 ok kl0) rfl (by decide +kernel) eh5 ?_
      refine v_iconst (pc := 230) (n := 1) X (by decide +kernel) ic_1 ?_
      cases hf
      exact v_zret (hz := rfl) X Y (by decide +kernel) rfl rfl
    · rw [if_neg q6] at hf
      refine v_iconst (pc := 174) (n := 0) X (by decide +kernel) ic_0 ?_
      cases hf
      exact v_zret (hz := rfl) X Y (by decide +kernel) rfl rfl
set_option maxRecDepth 4000 in
set_option maxHeartbeats 1000000 in
theorem vjb_Tr_readTrough_137 {E : En} {g : Gl} {tb : Tb} {ρ : Nat → Nat} (ok : TbOK tb) (hi : inj tb ρ) {r : Int32 × Hp} (X : CX E g tb ρ prog_11_method_10_code 5 RC10 4 89) (Y : CQ E g tb ρ (some .boolean) (some (.int r.1)) r.2) (h : Hp) (l0 : Nat) (l1 : Int32) (l2 : Int32) (s0 : Int32) (kl0 : kd tb l0 = 10) (hf : jb_Tr_readTrough_137 tb h l0 l1 l2 s0 = some r) : V E g tb ρ 5 137 [(0, .ref (ρ l0)), (1, .int l1), (2, .int l2)] [.int s0] h := by
  unfold jb_Tr_readTrough_137 at hf
  refine v_istore_n (pc := 137) (k := 3) (lv' := [(3, .int s0), (0, .ref (ρ l0)), (1, .int l1), (2, .int l2)]) X (by decide +kernel) (Nat.le_of_ble_eq_true rfl) rfl ?_
  refine v_iload_n (pc := 138) (k := 3) X (by decide +kernel) 0 rfl ?_
  refine v_iconst (pc := 139) (n := -1) X (by decide +kernel) ic_m1 ?_
  refine v_icmp_ne (pc := 140) (off := 7) (tgt := 147) X (by decide +kernel) (by decide) (fun q2 => ?_) (fun q2 => ?_)
  · rw [if_neg q2] at hf
    refine v_aload_n (pc := 147) (k := 0) X (by decide +kernel) 1 rfl ?_
    refine v_iconst (pc := 148) (n := 0) X (by decide +kernel) ic_0 ?_
    refine v_bipush (pc := 149) (n := 9) X (by decide +kernel) bi_9 ?_
    obtain ⟨r1, er1, hf⟩ := bnd_e hf
    refine v_callV (pc := 151) (As := [.int (0 : Int32), .int (9 : Int32)]) (rest := []) X (mt_Tr_takeNumber ok hi kl0 er1) ml_10_112 mv_Tr_takeNumber kl0 cls_10 rfl ⟨Nat.le_of_ble_eq_true rfl, Nat.le_of_ble_eq_true rfl⟩ rfl rfl (Nat.le_of_ble_eq_true rfl) (by decide +kernel) ?_
    change V E g tb ρ 5 154 [(3, .int s0), (0, .ref (ρ l0)), (1, .int l1), (2, .int l2)] [.int r1.1] r1.2
    refine v_sub [1, 2, 3, 0] rfl ?_
    exact vjb_Tr_readTrough_154 ok hi X Y r1.2 l0 l1 l2 s0 r1.1 kl0 hf
  · rw [if_pos q2] at hf
    refine v_iconst (pc := 143) (n := -1) X (by decide +kernel) ic_m1 ?_
    refine v_goto (pc := 144) (off := 10) (tgt := 154) X (by decide +kernel) (by decide) ?_
    refine v_sub [1, 2, 3, 0] rfl ?_
    exact vjb_Tr_readTrough_154 ok hi X Y h l0 l1 l2 s0 (-1 : Int32) kl0 hf
set_option maxRecDepth 4000 in
set_option maxHeartbeats 1000000 in
theorem mt_Tr_readTrough {g : Gl} {tb : Tb} {ρ : Nat → Nat} (ok : TbOK tb) (hi : inj tb ρ) {h : Hp} {l0 : Nat} (kl0 : kd tb l0 = 10) {r : Int32 × Hp} (hf : f_Tr_readTrough tb h l0 = some r) : MT g y_Tr_readTrough prog_11_method_10_code 5 (some .boolean) 4 89 tb ρ [.ref (ρ l0)] h (some (.int r.1)) r.2 := by
  refine mt_intro (by decide +kernel) ok hi (Nat.le_of_ble_eq_true rfl) (fun E X Y => ?_)
  change V E g tb ρ 5 0 [(0, .ref (ρ l0))] [] h
  unfold f_Tr_readTrough at hf
  refine v_aload_n (pc := 0) (k := 0) X (by decide +kernel) 0 rfl ?_
  refine v_geta (pc := 1) X fl_10_12 kl0 fk_10_0 (by decide +kernel) ?_
  refine v_geti (pc := 4) X fl_10_119 (ly_10_0 ok kl0) rfl (by decide +kernel) ?_
  obtain ⟨x1, ex1, hf⟩ := nmd_e hf
  refine v_nmi ex1 ?_
  refine v_istore_n (pc := 7) (k := 1) (lv' := [(1, .int x1), (0, .ref (ρ l0))]) X (by decide +kernel) (Nat.le_of_ble_eq_true rfl) rfl ?_
  refine v_iload_n (pc := 8) (k := 1) X (by decide +kernel) 0 rfl ?_
  refine v_bipush (pc := 9) (n := 6) X (by decide +kernel) bi_6 ?_
  refine v_icmp_lt (pc := 11) (off := 9) (tgt := 20) X (by decide +kernel) (by decide) (fun q18 => ?_) (fun q18 => ?_)
  · rw [if_pos q18] at hf
    refine v_aload_n (pc := 20) (k := 0) X (by decide +kernel) 1 rfl ?_
    refine v_geta (pc := 21) X fl_10_30 kl0 fk_10_3 (by decide +kernel) ?_
    obtain ⟨r2, er2, hf⟩ := bnd_e hf
    refine v_callV (pc := 24) (As := []) (rest := []) X (mt_Sc_step ok hi (ly_10_3 ok kl0) er2) ml_10_95 mv_Sc_step (ly_10_3 ok kl0) cls_8 rfl ⟨Nat.le_of_ble_eq_true rfl, Nat.le_of_ble_eq_true rfl⟩ rfl rfl (Nat.le_of_ble_eq_true rfl) (by decide +kernel) ?_
    change V E g tb ρ 5 27 [(1, .int x1), (0, .ref (ρ l0))] [] r2
    refine v_aload_n (pc := 27) (k := 0) X (by decide +kernel) 1 rfl ?_
    refine v_aload_n (pc := 28) (k := 0) X (by decide +kernel) 1 rfl ?_
    refine v_geta (pc := 29) X fl_10_12 kl0 fk_10_0 (by decide +kernel) ?_
    refine v_geta (pc := 32) X fl_10_122 (ly_10_0 ok kl0) fk_7_6 (by decide +kernel) ?_
    refine v_iload_n (pc := 35) (k := 1) X (by decide +kernel) 0 rfl ?_
    obtain ⟨r3, er3, hf⟩ := bnd_e hf
    refine v_callV (pc := 36) (As := [.ref (ρ (lay tb (lay tb l0 0) 6)), .int x1]) (rest := []) X (mt_Tr_isNewName ok hi kl0 (ly_7_6 ok (ly_10_0 ok kl0)) er3) ml_10_126 mv_Tr_isNewName kl0 cls_10 rfl ⟨Nat.le_of_ble_eq_true rfl, Nat.le_of_ble_eq_true rfl⟩ rfl rfl (Nat.le_of_ble_eq_true rfl) (by decide +kernel) ?_
    change V E g tb ρ 5 39 [(1, .int x1), (0, .ref (ρ l0))] [.int r3.1] r3.2
    refine v_if_ne (pc := 39) (off := 5) (tgt := 44) X (by decide +kernel) (by decide) (fun q15 => ?_) (fun q15 => ?_)
    · rw [if_neg q15] at hf
      refine v_aload_n (pc := 44) (k := 0) X (by decide +kernel) 1 rfl ?_
      refine v_geta (pc := 45) X fl_10_12 kl0 fk_10_0 (by decide +kernel) ?_
      refine v_geta (pc := 48) X fl_10_122 (ly_10_0 ok kl0) fk_7_6 (by decide +kernel) ?_
      refine v_iload_n (pc := 51) (k := 1) X (by decide +kernel) 0 rfl ?_
      refine v_aload_n (pc := 52) (k := 0) X (by decide +kernel) 1 rfl ?_
      refine v_geta (pc := 53) X fl_10_30 kl0 fk_10_3 (by decide +kernel) ?_
      refine v_geti (pc := 56) X fl_10_105 (ly_10_3 ok kl0) rfl (by decide +kernel) ?_
      obtain ⟨h4, eh4, hf⟩ := bnd_e hf
      refine v_iast (pc := 59) X (ly_7_6 ok (ly_10_0 ok kl0)) eh4 (by decide +kernel) ?_
      refine v_aload_n (pc := 60) (k := 0) X (by decide +kernel) 1 rfl ?_
      refine v_geta (pc := 61) X fl_10_30 kl0 fk_10_3 (by decide +kernel) ?_
      obtain ⟨r5, er5, hf⟩ := bnd_e hf
      refine v_callV (pc := 64) (As := []) (rest := []) X (mt_Sc_step ok hi (ly_10_3 ok kl0) er5) ml_10_95 mv_Sc_step (ly_10_3 ok kl0) cls_8 rfl ⟨Nat.le_of_ble_eq_true rfl, Nat.le_of_ble_eq_true rfl⟩ rfl rfl (Nat.le_of_ble_eq_true rfl) (by decide +kernel) ?_
      change V E g tb ρ 5 67 [(1, .int x1), (0, .ref (ρ l0))] [] r5
      refine v_aload_n (pc := 67) (k := 0) X (by decide +kernel) 1 rfl ?_
      refine v_iconst (pc := 68) (n := 0) X (by decide +kernel) ic_0 ?_
      refine v_aload_n (pc := 69) (k := 0) X (by decide +kernel) 1 rfl ?_
      refine v_geta (pc := 70) X fl_10_12 kl0 fk_10_0 (by decide +kernel) ?_
      refine v_geti (pc := 73) X fl_10_116 (ly_10_0 ok kl0) rfl (by decide +kernel) ?_
      obtain ⟨r6, er6, hf⟩ := bnd_e hf
      refine v_callV (pc := 76) (As := [.int (0 : Int32), .int (r5.1 (lay tb l0 0) 0)]) (rest := []) X (mt_Tr_isNumber ok hi kl0 er6) ml_10_101 mv_Tr_isNumber kl0 cls_10 rfl ⟨Nat.le_of_ble_eq_true rfl, Nat.le_of_ble_eq_true rfl⟩ rfl rfl (Nat.le_of_ble_eq_true rfl) (by decide +kernel) ?_
      change V E g tb ρ 5 79 [(1, .int x1), (0, .ref (ρ l0))] [.int r6.1] r6.2
      refine v_if_ne (pc := 79) (off := 5) (tgt := 84) X (by decide +kernel) (by decide) (fun q14 => ?_) (fun q14 => ?_)
      · rw [if_neg q14] at hf
        refine v_aload_n (pc := 84) (k := 0) X (by decide +kernel) 1 rfl ?_
        refine v_geta (pc := 85) X fl_10_12 kl0 fk_10_0 (by decide +kernel) ?_
        refine v_aload_n (pc := 88) (k := 0) X (by decide +kernel) 1 rfl ?_
        refine v_geta (pc := 89) X fl_10_30 kl0 fk_10_3 (by decide +kernel) ?_
        refine v_geti (pc := 92) X fl_10_98 (ly_10_3 ok kl0) rfl (by decide +kernel) ?_
        obtain ⟨r7, er7, hf⟩ := bnd_e hf
        refine v_callV (pc := 95) (As := [.int (r6.2.1 (lay tb l0 3) 2)]) (rest := []) X (mt_Pl_troughThere ok hi (ly_10_0 ok kl0) er7) ml_10_130 mv_Pl_troughThere (ly_10_0 ok kl0) cls_7 rfl ⟨Nat.le_of_ble_eq_true rfl, Nat.le_of_ble_eq_true rfl⟩ rfl rfl (Nat.le_of_ble_eq_true rfl) (by decide +kernel) ?_
        change V E g tb ρ 5 98 [(1, .int x1), (0, .ref (ρ l0))] [.int r7] r6.2
        refine v_iconst (pc := 98) (n := -1) X (by decide +kernel) ic_m1 ?_
        refine v_icmp_eq (pc := 99) (off := 9) (tgt := 108) X (by decide +kernel) (by decide) (fun q13 => ?_) (fun q13 => ?_)
        · rw [if_pos q13] at hf
          refine v_aload_n (pc := 108) (k := 0) X (by decide +kernel) 1 rfl ?_
          refine v_iconst (pc := 109) (n := 0) X (by decide +kernel) ic_0 ?_
          refine v_aload_n (pc := 110) (k := 0) X (by decide +kernel) 1 rfl ?_
          refine v_geta (pc := 111) X fl_10_12 kl0 fk_10_0 (by decide +kernel) ?_
          refine v_geti (pc := 114) X fl_10_116 (ly_10_0 ok kl0) rfl (by decide +kernel) ?_
          obtain ⟨r8, er8, hf⟩ := bnd_e hf
          refine v_callV (pc := 117) (As := [.int (0 : Int32), .int (r6.2.1 (lay tb l0 0) 0)]) (rest := []) X (mt_Tr_takeNumber ok hi kl0 er8) ml_10_112 mv_Tr_takeNumber kl0 cls_10 rfl ⟨Nat.le_of_ble_eq_true rfl, Nat.le_of_ble_eq_true rfl⟩ rfl rfl (Nat.le_of_ble_eq_true rfl) (by decide +kernel) ?_
          change V E g tb ρ 5 120 [(1, .int x1), (0, .ref (ρ l0))] [.int r8.1] r8.2
          refine v_istore_n (pc := 120) (k := 2) (lv' := [(2, .int r8.1), (1, .int x1), (0, .ref (ρ l0))]) X (by decide +kernel) (Nat.le_of_ble_eq_true rfl) rfl ?_
          refine v_iload_n (pc := 121) (k := 2) X (by decide +kernel) 0 rfl ?_
          refine v_iconst (pc := 122) (n := -1) X (by decide +kernel) ic_m1 ?_
          refine v_icmp_ne (pc := 123) (off := 7) (tgt := 130) X (by decide +kernel) (by decide) (fun q10 => ?_) (fun q10 => ?_)
          · rw [if_neg q10] at hf
            refine v_aload_n (pc := 130) (k := 0) X (by decide +kernel) 2 rfl ?_
            refine v_iconst (pc := 131) (n := 0) X (by decide +kernel) ic_0 ?_
            refine v_bipush (pc := 132) (n := 99) X (by decide +kernel) bi_99 ?_
            obtain ⟨r9, er9, hf⟩ := bnd_e hf
            refine v_callV (pc := 134) (As := [.int (0 : Int32), .int (99 : Int32)]) (rest := []) X (mt_Tr_takeNumber ok hi kl0 er9) ml_10_112 mv_Tr_takeNumber kl0 cls_10 rfl ⟨Nat.le_of_ble_eq_true rfl, Nat.le_of_ble_eq_true rfl⟩ rfl rfl (Nat.le_of_ble_eq_true rfl) (by decide +kernel) ?_
            change V E g tb ρ 5 137 [(2, .int r8.1), (1, .int x1), (0, .ref (ρ l0))] [.int r9.1] r9.2
            refine v_sub [2, 1, 0] rfl ?_
            exact vjb_Tr_readTrough_137 ok hi X Y r9.2 l0 x1 r8.1 r9.1 kl0 hf
          · rw [if_pos q10] at hf
            refine v_iconst (pc := 126) (n := -1) X (by decide +kernel) ic_m1 ?_
            refine v_goto (pc := 127) (off := 10) (tgt := 137) X (by decide +kernel) (by decide) ?_
            refine v_sub [2, 1, 0] rfl ?_
            exact vjb_Tr_readTrough_137 ok hi X Y r8.2 l0 x1 r8.1 (-1 : Int32) kl0 hf
        · rw [if_neg q13] at hf
          refine v_aload_n (pc := 102) (k := 0) X (by decide +kernel) 1 rfl ?_
          refine v_iconst (pc := 103) (n := 3) X (by decide +kernel) ic_3 ?_
          obtain ⟨r11, er11, hf⟩ := nmd_e hf
          refine v_callV (pc := 104) (As := [.int (3 : Int32)]) (rest := []) X (mt_Tr_fail ok hi kl0 er11.symm) ml_10_73 mv_Tr_fail kl0 cls_10 rfl ⟨Nat.le_of_ble_eq_true rfl, Nat.le_of_ble_eq_true rfl⟩ rfl rfl (Nat.le_of_ble_eq_true rfl) (by decide +kernel) ?_
          change V E g tb ρ 5 107 [(1, .int x1), (0, .ref (ρ l0))] [.int r11.1] r11.2
          obtain ⟨x12, ex12, hf⟩ := bnd_e hf
          obtain ⟨bx12, rfl⟩ := cZ_e ex12
          cases hf
          exact v_zret (hz := bx12) X Y (by decide +kernel) rfl rfl
      · rw [if_pos q14] at hf
        refine v_iconst (pc := 82) (n := 0) X (by decide +kernel) ic_0 ?_
        cases hf
        exact v_zret (hz := rfl) X Y (by decide +kernel) rfl rfl
    · rw [if_pos q15] at hf
      refine v_iconst (pc := 42) (n := 0) X (by decide +kernel) ic_0 ?_
      cases hf
      exact v_zret (hz := rfl) X Y (by decide +kernel) rfl rfl
  · rw [if_neg q18] at hf
    refine v_aload_n (pc := 14) (k := 0) X (by decide +kernel) 1 rfl ?_
    refine v_iconst (pc := 15) (n := 2) X (by decide +kernel) ic_2 ?_
    obtain ⟨r16, er16, hf⟩ := nmd_e hf
    refine v_callV (pc := 16) (As := [.int (2 : Int32)]) (rest := []) X (mt_Tr_fail ok hi kl0 er16.symm) ml_10_73 mv_Tr_fail kl0 cls_10 rfl ⟨Nat.le_of_ble_eq_true rfl, Nat.le_of_ble_eq_true rfl⟩ rfl rfl (Nat.le_of_ble_eq_true rfl) (by decide +kernel) ?_
    change V E g tb ρ 5 19 [(1, .int x1), (0, .ref (ρ l0))] [.int r16.1] r16.2
    obtain ⟨x17, ex17, hf⟩ := bnd_e hf
    obtain ⟨bx17, rfl⟩ := cZ_e ex17
    cases hf
    exact v_zret (hz := bx17) X Y (by decide +kernel) rfl rfl
