def f_Md_isTrough (tb : Tb) (h : Hp) (l0 : Nat) (l1 : Int32) : Int32 :=
  if l1 < (0 : Int32) then (
    (0 : Int32)
  ) else (
    if (h.1 l0 12) ≤ l1 then (
      (0 : Int32)
    ) else (
      (1 : Int32)
    )
  )
set_option maxRecDepth 4000 in
set_option maxHeartbeats 1000000 in
theorem mt_Md_isTrough {g : Gl} {tb : Tb} {ρ : Nat → Nat} (ok : TbOK tb) (hi : inj tb ρ) {h : Hp} {l0 : Nat} {l1 : Int32} (kl0 : kd tb l0 = 12) {r : Int32} (hf : f_Md_isTrough tb h l0 l1 = r) : MT g y_Md_isTrough prog_14_method_50_code 2 (some .boolean) 0 0 tb ρ [.ref (ρ l0), .int l1] h (some (.int r)) h := by
  refine mt_intro (by decide +kernel) ok hi (Nat.le_of_ble_eq_true rfl) (fun E X Y => ?_)
  change V E g tb ρ 2 0 [(0, .ref (ρ l0)), (1, .int l1)] [] h
  unfold f_Md_isTrough at hf
  refine v_iload_n (pc := 0) (k := 1) X (by decide +kernel) 1 rfl ?_
  refine v_if_lt (pc := 1) (off := 15) (tgt := 16) X (by decide +kernel) (by decide) (fun q2 => ?_) (fun q2 => ?_)
  · rw [if_pos q2] at hf
    refine v_iconst (pc := 16) (n := 0) X (by decide +kernel) ic_0 ?_
    cases hf
    exact v_zret (hz := rfl) X Y (by decide +kernel) rfl rfl
  · rw [if_neg q2] at hf
    refine v_iload_n (pc := 4) (k := 1) X (by decide +kernel) 1 rfl ?_
    refine v_aload_n (pc := 5) (k := 0) X (by decide +kernel) 0 rfl ?_
    refine v_geti (pc := 6) X fl_12_243 kl0 rfl (by decide +kernel) ?_
    refine v_icmp_ge (pc := 9) (off := 7) (tgt := 16) X (by decide +kernel) (by decide) (fun q1 => ?_) (fun q1 => ?_)
    · rw [if_pos q1] at hf
      refine v_iconst (pc := 16) (n := 0) X (by decide +kernel) ic_0 ?_
      cases hf
      exact v_zret (hz := rfl) X Y (by decide +kernel) rfl rfl
    · rw [if_neg q1] at hf
      refine v_iconst (pc := 12) (n := 1) X (by decide +kernel) ic_1 ?_
      refine v_goto (pc := 13) (off := 4) (tgt := 17) X (by decide +kernel) (by decide) ?_
      cases hf
      exact v_zret (hz := rfl) X Y (by decide +kernel) rfl rfl
def f_Md_isHorse (tb : Tb) (h : Hp) (l0 : Nat) (l1 : Int32) : Int32 :=
  if l1 < (0 : Int32) then (
    (0 : Int32)
  ) else (
    if (h.1 l0 13) ≤ l1 then (
      (0 : Int32)
    ) else (
      (1 : Int32)
    )
  )
set_option maxRecDepth 4000 in
set_option maxHeartbeats 1000000 in
theorem mt_Md_isHorse {g : Gl} {tb : Tb} {ρ : Nat → Nat} (ok : TbOK tb) (hi : inj tb ρ) {h : Hp} {l0 : Nat} {l1 : Int32} (kl0 : kd tb l0 = 12) {r : Int32} (hf : f_Md_isHorse tb h l0 l1 = r) : MT g y_Md_isHorse prog_14_method_51_code 2 (some .boolean) 0 0 tb ρ [.ref (ρ l0), .int l1] h (some (.int r)) h := by
  refine mt_intro (by decide +kernel) ok hi (Nat.le_of_ble_eq_true rfl) (fun E X Y => ?_)
  change V E g tb ρ 2 0 [(0, .ref (ρ l0)), (1, .int l1)] [] h
  unfold f_Md_isHorse at hf
  refine v_iload_n (pc := 0) (k := 1) X (by decide +kernel) 1 rfl ?_
  refine v_if_lt (pc := 1) (off := 15) (tgt := 16) X (by decide +kernel) (by decide) (fun q2 => ?_) (fun q2 => ?_)
  · rw [if_pos q2] at hf
    refine v_iconst (pc := 16) (n := 0) X (by decide +kernel) ic_0 ?_
    cases hf
    exact v_zret (hz := rfl) X Y (by decide +kernel) rfl rfl
  · rw [if_neg q2] at hf
    refine v_iload_n (pc := 4) (k := 1) X (by decide +kernel) 1 rfl ?_
    refine v_aload_n (pc := 5) (k := 0) X (by decide +kernel) 0 rfl ?_
    refine v_geti (pc := 6) X fl_12_246 kl0 rfl (by decide +kernel) ?_
    refine v_icmp_ge (pc := 9) (off := 7) (tgt := 16) X (by decide +kernel) (by decide) (fun q1 => ?_) (fun q1 => ?_)
    · rw [if_pos q1] at hf
      refine v_iconst (pc := 16) (n := 0) X (by decide +kernel) ic_0 ?_
      cases hf
      exact v_zret (hz := rfl) X Y (by decide +kernel) rfl rfl
    · rw [if_neg q1] at hf
      refine v_iconst (pc := 12) (n := 1) X (by decide +kernel) ic_1 ?_
      refine v_goto (pc := 13) (off := 4) (tgt := 17) X (by decide +kernel) (by decide) ?_
      cases hf
      exact v_zret (hz := rfl) X Y (by decide +kernel) rfl rfl
def f_Md_sizeOf (tb : Tb) (h : Hp) (l0 : Int32) : Int32 :=
  if (0 : Int32) ≤ l0 then (
    l0
  ) else (
    -l0
  )
set_option maxRecDepth 4000 in
set_option maxHeartbeats 1000000 in
theorem mt_Md_sizeOf {g : Gl} {tb : Tb} {ρ : Nat → Nat} (ok : TbOK tb) (hi : inj tb ρ) {h : Hp} {l0 : Int32}  {r : Int32} (hf : f_Md_sizeOf tb h l0 = r) : MT g y_Md_sizeOf prog_14_method_52_code 1 (some .int) 0 0 tb ρ [.int l0] h (some (.int r)) h := by
  refine mt_intro (by decide +kernel) ok hi (Nat.le_of_ble_eq_true rfl) (fun E X Y => ?_)
  change V E g tb ρ 1 0 [(0, .int l0)] [] h
  unfold f_Md_sizeOf at hf
  refine v_iload_n (pc := 0) (k := 0) X (by decide +kernel) 0 rfl ?_
  refine v_if_ge (pc := 1) (off := 8) (tgt := 9) X (by decide +kernel) (by decide) (fun q1 => ?_) (fun q1 => ?_)
  · rw [if_pos q1] at hf
    refine v_iload_n (pc := 9) (k := 0) X (by decide +kernel) 0 rfl ?_
    cases hf
    exact v_iret X Y (by decide +kernel) rfl rfl
  · rw [if_neg q1] at hf
    refine v_iload_n (pc := 4) (k := 0) X (by decide +kernel) 0 rfl ?_
    refine v_ineg (pc := 5) X (by decide +kernel) ?_
    refine v_goto (pc := 6) (off := 4) (tgt := 10) X (by decide +kernel) (by decide) ?_
    cases hf
    exact v_iret X Y (by decide +kernel) rfl rfl
def f_Md_paceOf (tb : Tb) (h : Hp) (l0 : Nat) (l1 : Int32) : Option (Int32) :=
  if (h.1 l0 72) = (0 : Int32) then (
    (rI tb h (lay tb l0 33) l1).bind fun x1 =>
    some x1
  ) else (
    (rI tb h (lay tb l0 33) l1).bind fun x2 =>
    some ((2 : Int32) * x2)
  )
set_option maxRecDepth 4000 in
set_option maxHeartbeats 1000000 in
theorem mt_Md_paceOf {g : Gl} {tb : Tb} {ρ : Nat → Nat} (ok : TbOK tb) (hi : inj tb ρ) {h : Hp} {l0 : Nat} {l1 : Int32} (kl0 : kd tb l0 = 12) {r : Int32} (hf : f_Md_paceOf tb h l0 l1 = some r) : MT g y_Md_paceOf prog_14_method_53_code 2 (some .int) 0 0 tb ρ [.ref (ρ l0), .int l1] h (some (.int r)) h := by
  refine mt_intro (by decide +kernel) ok hi (Nat.le_of_ble_eq_true rfl) (fun E X Y => ?_)
  change V E g tb ρ 2 0 [(0, .ref (ρ l0)), (1, .int l1)] [] h
  unfold f_Md_paceOf at hf
  refine v_aload_n (pc := 0) (k := 0) X (by decide +kernel) 0 rfl ?_
  refine v_geti (pc := 1) X fl_12_395 kl0 rfl (by decide +kernel) ?_
  refine v_if_eq (pc := 4) (off := 14) (tgt := 18) X (by decide +kernel) (by decide) (fun q3 => ?_) (fun q3 => ?_)
  · rw [if_pos q3] at hf
    refine v_aload_n (pc := 18) (k := 0) X (by decide +kernel) 0 rfl ?_
    refine v_geta (pc := 19) X fl_12_51 kl0 fk_12_33 (by decide +kernel) ?_
    refine v_iload_n (pc := 22) (k := 1) X (by decide +kernel) 1 rfl ?_
    obtain ⟨x1, ex1, hf⟩ := bnd_e hf
    refine v_iald (pc := 23) X (ly_12_33 ok kl0) ex1 (by decide +kernel) ?_
    cases hf
    exact v_iret X Y (by decide +kernel) rfl rfl
  · rw [if_neg q3] at hf
    refine v_iconst (pc := 7) (n := 2) X (by decide +kernel) ic_2 ?_
    refine v_aload_n (pc := 8) (k := 0) X (by decide +kernel) 0 rfl ?_
    refine v_geta (pc := 9) X fl_12_51 kl0 fk_12_33 (by decide +kernel) ?_
    refine v_iload_n (pc := 12) (k := 1) X (by decide +kernel) 1 rfl ?_
    obtain ⟨x2, ex2, hf⟩ := bnd_e hf
    refine v_iald (pc := 13) X (ly_12_33 ok kl0) ex2 (by decide +kernel) ?_
    refine v_imul (pc := 14) X (by decide +kernel) ?_
    refine v_goto (pc := 15) (off := 9) (tgt := 24) X (by decide +kernel) (by decide) ?_
    cases hf
    exact v_iret X Y (by decide +kernel) rfl rfl
def f_Md_troughAt (tb : Tb) (h : Hp) (l0 : Nat) (l1 : Int32) : Option (Int32) :=
  (f_Md_find tb h (lay tb l0 26) (0 : Int32) (h.1 l0 12) l1).bind fun r1 =>
  some r1
set_option maxRecDepth 4000 in
set_option maxHeartbeats 1000000 in
theorem mt_Md_troughAt {g : Gl} {tb : Tb} {ρ : Nat → Nat} (ok : TbOK tb) (hi : inj tb ρ) {h : Hp} {l0 : Nat} {l1 : Int32} (kl0 : kd tb l0 = 12) {r : Int32} (hf : f_Md_troughAt tb h l0 l1 = some r) : MT g y_Md_troughAt prog_14_method_54_code 2 (some .int) 1 24 tb ρ [.ref (ρ l0), .int l1] h (some (.int r)) h := by
  refine mt_intro (by decide +kernel) ok hi (Nat.le_of_ble_eq_true rfl) (fun E X Y => ?_)
  change V E g tb ρ 2 0 [(0, .ref (ρ l0)), (1, .int l1)] [] h
  unfold f_Md_troughAt at hf
  refine v_aload_n (pc := 0) (k := 0) X (by decide +kernel) 0 rfl ?_
  refine v_geta (pc := 1) X fl_12_30 kl0 fk_12_26 (by decide +kernel) ?_
  refine v_iconst (pc := 4) (n := 0) X (by decide +kernel) ic_0 ?_
  refine v_aload_n (pc := 5) (k := 0) X (by decide +kernel) 0 rfl ?_
  refine v_geti (pc := 6) X fl_12_243 kl0 rfl (by decide +kernel) ?_
  refine v_iload_n (pc := 9) (k := 1) X (by decide +kernel) 1 rfl ?_
  obtain ⟨r1, er1, hf⟩ := bnd_e hf
  refine v_callS (pc := 10) (As := [.ref (ρ (lay tb l0 26)), .int (0 : Int32), .int (h.1 l0 12), .int l1]) (rest := []) X (mt_Md_find ok hi (ly_12_26 ok kl0) er1) ml_12_265 ms_Md_find ⟨Nat.le_of_ble_eq_true rfl, Nat.le_of_ble_eq_true rfl⟩ rfl rfl (Nat.le_of_ble_eq_true rfl) (by decide +kernel) ?_
  change V E g tb ρ 2 13 [(0, .ref (ρ l0)), (1, .int l1)] [.int r1] h
  cases hf
  exact v_iret X Y (by decide +kernel) rfl rfl
def f_Md_farOf (tb : Tb) (h : Hp) (l0 : Nat) (l1 : Int32) (l2 : Int32) : Option (Int32) :=
  (rI tb h (lay tb l0 56) (((6 : Int32) * l1) + l2)).bind fun x1 =>
  if (0 : Int32) ≤ x1 then (
    (rI tb h (lay tb l0 56) (((6 : Int32) * l1) + l2)).bind fun x2 =>
    (rI tb h (lay tb l0 26) x2).bind fun x3 =>
    (rI tb h (lay tb l0 54) (((6 : Int32) * l1) + l2)).bind fun x4 =>
    nmd (f_Md_sizeOf tb h (x3 - x4)) fun r5 =>
    some r5
  ) else (
    some (0 : Int32)
  )
set_option maxRecDepth 4000 in
set_option maxHeartbeats 1000000 in
theorem mt_Md_farOf {g : Gl} {tb : Tb} {ρ : Nat → Nat} (ok : TbOK tb) (hi : inj tb ρ) {h : Hp} {l0 : Nat} {l1 : Int32} {l2 : Int32} (kl0 : kd tb l0 = 12) {r : Int32} (hf : f_Md_farOf tb h l0 l1 l2 = some r) : MT g y_Md_farOf prog_14_method_55_code 3 (some .int) 1 20 tb ρ [.ref (ρ l0), .int l1, .int l2] h (some (.int r)) h := by
  refine mt_intro (by decide +kernel) ok hi (Nat.le_of_ble_eq_true rfl) (fun E X Y => ?_)
  change V E g tb ρ 3 0 [(0, .ref (ρ l0)), (1, .int l1), (2, .int l2)] [] h
  unfold f_Md_farOf at hf
  refine v_aload_n (pc := 0) (k := 0) X (by decide +kernel) 0 rfl ?_
  refine v_geta (pc := 1) X fl_12_100 kl0 fk_12_56 (by decide +kernel) ?_
  refine v_bipush (pc := 4) (n := 6) X (by decide +kernel) bi_6 ?_
  refine v_iload_n (pc := 6) (k := 1) X (by decide +kernel) 1 rfl ?_
  refine v_imul (pc := 7) X (by decide +kernel) ?_
  refine v_iload_n (pc := 8) (k := 2) X (by decide +kernel) 2 rfl ?_
  refine v_iadd (pc := 9) X (by decide +kernel) ?_
  obtain ⟨x1, ex1, hf⟩ := bnd_e hf
  refine v_iald (pc := 10) X (ly_12_56 ok kl0) ex1 (by decide +kernel) ?_
  refine v_if_ge (pc := 11) (off := 7) (tgt := 18) X (by decide +kernel) (by decide) (fun q6 => ?_) (fun q6 => ?_)
  · rw [if_pos q6] at hf
    refine v_aload_n (pc := 18) (k := 0) X (by decide +kernel) 0 rfl ?_
    refine v_geta (pc := 19) X fl_12_30 kl0 fk_12_26 (by decide +kernel) ?_
    refine v_aload_n (pc := 22) (k := 0) X (by decide +kernel) 0 rfl ?_
    refine v_geta (pc := 23) X fl_12_100 kl0 fk_12_56 (by decide +kernel) ?_
    refine v_bipush (pc := 26) (n := 6) X (by decide +kernel) bi_6 ?_
    refine v_iload_n (pc := 28) (k := 1) X (by decide +kernel) 1 rfl ?_
    refine v_imul (pc := 29) X (by decide +kernel) ?_
    refine v_iload_n (pc := 30) (k := 2) X (by decide +kernel) 2 rfl ?_
    refine v_iadd (pc := 31) X (by decide +kernel) ?_
    obtain ⟨x2, ex2, hf⟩ := bnd_e hf
    refine v_iald (pc := 32) X (ly_12_56 ok kl0) ex2 (by decide +kernel) ?_
    obtain ⟨x3, ex3, hf⟩ := bnd_e hf
    refine v_iald (pc := 33) X (ly_12_26 ok kl0) ex3 (by decide +kernel) ?_
    refine v_aload_n (pc := 34) (k := 0) X (by decide +kernel) 0 rfl ?_
    refine v_geta (pc := 35) X fl_12_94 kl0 fk_12_54 (by decide +kernel) ?_
    refine v_bipush (pc := 38) (n := 6) X (by decide +kernel) bi_6 ?_
    refine v_iload_n (pc := 40) (k := 1) X (by decide +kernel) 1 rfl ?_
    refine v_imul (pc := 41) X (by decide +kernel) ?_
    refine v_iload_n (pc := 42) (k := 2) X (by decide +kernel) 2 rfl ?_
    refine v_iadd (pc := 43) X (by decide +kernel) ?_
    obtain ⟨x4, ex4, hf⟩ := bnd_e hf
    refine v_iald (pc := 44) X (ly_12_54 ok kl0) ex4 (by decide +kernel) ?_
    refine v_isub (pc := 45) X (by decide +kernel) ?_
    obtain ⟨r5, er5, hf⟩ := nmd_e hf
    refine v_callS (pc := 46) (As := [.int (x3 - x4)]) (rest := []) X (mt_Md_sizeOf ok hi er5.symm) ml_12_398 ms_Md_sizeOf ⟨Nat.le_of_ble_eq_true rfl, Nat.le_of_ble_eq_true rfl⟩ rfl rfl (Nat.le_of_ble_eq_true rfl) (by decide +kernel) ?_
    change V E g tb ρ 3 49 [(0, .ref (ρ l0)), (1, .int l1), (2, .int l2)] [.int r5] h
    cases hf
    exact v_iret X Y (by decide +kernel) rfl rfl
  · rw [if_neg q6] at hf
    refine v_iconst (pc := 14) (n := 0) X (by decide +kernel) ic_0 ?_
    refine v_goto (pc := 15) (off := 34) (tgt := 49) X (by decide +kernel) (by decide) ?_
    cases hf
    exact v_iret X Y (by decide +kernel) rfl rfl
def jb_Md_layNames_84 (tb : Tb) (h : Hp) (l0 : Nat) (l1 : Int32) (l2 : Int32) (l3 : Int32) (s0 : Nat) (s1 : Int32) (s2 : Int64) : Option (Hp) :=
  (wL tb h s0 s1 s2).bind fun h1 =>
  (f_Md_farOf tb h1 l0 l1 l2).bind fun r2 =>
  (wL tb h1 (lay tb l0 51) (4 : Int32) (r2.toInt64)).bind fun h3 =>
  (rI tb h3 (lay tb l0 57) l3).bind fun x4 =>
  (wL tb h3 (lay tb l0 51) (5 : Int32) (x4.toInt64)).bind fun h5 =>
  (rI tb h5 (lay tb l0 64) l1).bind fun x6 =>
  (wL tb h5 (lay tb l0 51) (6 : Int32) (x6.toInt64)).bind fun h7 =>
  some h7
def f_Md_layNames (tb : Tb) (h : Hp) (l0 : Nat) (l1 : Int32) (l2 : Int32) : Option (Hp) :=
  nmd (((6 : Int32) * l1) + l2) fun x1 =>
  (rI tb h (lay tb l0 54) x1).bind fun x2 =>
  (f_Md_troughAt tb h l0 x2).bind fun r3 =>
  (rI tb h (lay tb l0 55) x1).bind fun x4 =>
  (wL tb h (lay tb l0 51) (0 : Int32) (x4.toInt64)).bind fun h5 =>
  (f_Md_paceOf tb h5 l0 l2).bind fun r6 =>
  (wL tb h5 (lay tb l0 51) (1 : Int32) (r6.toInt64)).bind fun h7 =>
  (rI tb h7 (lay tb l0 30) l2).bind fun x8 =>
  (wL tb h7 (lay tb l0 51) (2 : Int32) (x8.toInt64)).bind fun h9 =>
  if (0 : Int32) ≤ r3 then (
    (rI tb h9 (lay tb l0 60) (((6 : Int32) * l1) + r3)).bind fun x10 =>
    jb_Md_layNames_84 tb h9 l0 l1 l2 x1 (lay tb l0 51) (3 : Int32) (x10.toInt64)
  ) else (
    jb_Md_layNames_84 tb h9 l0 l1 l2 x1 (lay tb l0 51) (3 : Int32) (0 : Int64)
  )
set_option maxRecDepth 4000 in
set_option maxHeartbeats 1000000 in
theorem vjb_Md_layNames_84 {E : En} {g : Gl} {tb : Tb} {ρ : Nat → Nat} (ok : TbOK tb) (hi : inj tb ρ) {r : Hp} (X : CX E g tb ρ prog_14_method_56_code 5 RC12 2 45) (Y : CQ E g tb ρ none (none) r) (h : Hp) (l0 : Nat) (l1 : Int32) (l2 : Int32) (l3 : Int32) (s0 : Nat) (s1 : Int32) (s2 : Int64) (kl0 : kd tb l0 = 12) (ks0 : kd tb s0 = 23) (hf : jb_Md_layNames_84 tb h l0 l1 l2 l3 s0 s1 s2 = some r) : V E g tb ρ 5 84 [(0, .ref (ρ l0)), (1, .int l1), (2, .int l2), (3, .int l3)] [.long s2, .int s1, .ref (ρ s0)] h := by
  unfold jb_Md_layNames_84 at hf
  obtain ⟨h1, eh1, hf⟩ := bnd_e hf
  refine v_last (pc := 84) X ks0 eh1 (by decide +kernel) ?_
  refine v_aload_n (pc := 85) (k := 0) X (by decide +kernel) 0 rfl ?_
  refine v_geta (pc := 86) X fl_12_87 kl0 fk_12_51 (by decide +kernel) ?_
  refine v_iconst (pc := 89) (n := 4) X (by decide +kernel) ic_4 ?_
  refine v_aload_n (pc := 90) (k := 0) X (by decide +kernel) 0 rfl ?_
  refine v_iload_n (pc := 91) (k := 1) X (by decide +kernel) 1 rfl ?_
  refine v_iload_n (pc := 92) (k := 2) X (by decide +kernel) 2 rfl ?_
  obtain ⟨r2, er2, hf⟩ := bnd_e hf
  refine v_callV (pc := 93) (As := [.int l1, .int l2]) (rest := [.int (4 : Int32), .ref (ρ (lay tb l0 51))]) X (mt_Md_farOf ok hi kl0 er2) ml_12_407 mv_Md_farOf kl0 cls_12 rfl ⟨Nat.le_of_ble_eq_true rfl, Nat.le_of_ble_eq_true rfl⟩ rfl rfl (Nat.le_of_ble_eq_true rfl) (by decide +kernel) ?_
  change V E g tb ρ 5 96 [(0, .ref (ρ l0)), (1, .int l1), (2, .int l2), (3, .int l3)] [.int r2, .int (4 : Int32), .ref (ρ (lay tb l0 51))] h1
  refine v_i2l (pc := 96) X (by decide +kernel) ?_
  obtain ⟨h3, eh3, hf⟩ := bnd_e hf
  refine v_last (pc := 97) X (ly_12_51 ok kl0) eh3 (by decide +kernel) ?_
  refine v_aload_n (pc := 98) (k := 0) X (by decide +kernel) 0 rfl ?_
  refine v_geta (pc := 99) X fl_12_87 kl0 fk_12_51 (by decide +kernel) ?_
  refine v_iconst (pc := 102) (n := 5) X (by decide +kernel) ic_5 ?_
  refine v_aload_n (pc := 103) (k := 0) X (by decide +kernel) 0 rfl ?_
  refine v_geta (pc := 104) X fl_12_103 kl0 fk_12_57 (by decide +kernel) ?_
  refine v_iload_n (pc := 107) (k := 3) X (by decide +kernel) 3 rfl ?_
  obtain ⟨x4, ex4, hf⟩ := bnd_e hf
  refine v_iald (pc := 108) X (ly_12_57 ok kl0) ex4 (by decide +kernel) ?_
  refine v_i2l (pc := 109) X (by decide +kernel) ?_
  obtain ⟨h5, eh5, hf⟩ := bnd_e hf
  refine v_last (pc := 110) X (ly_12_51 ok kl0) eh5 (by decide +kernel) ?_
  refine v_aload_n (pc := 111) (k := 0) X (by decide +kernel) 0 rfl ?_
  refine v_geta (pc := 112) X fl_12_87 kl0 fk_12_51 (by decide +kernel) ?_
  refine v_bipush (pc := 115) (n := 6) X (by decide +kernel) bi_6 ?_
  refine v_aload_n (pc := 117) (k := 0) X (by decide +kernel) 0 rfl ?_
  refine v_geta (pc := 118) X fl_12_124 kl0 fk_12_64 (by decide +kernel) ?_
  refine v_iload_n (pc := 121) (k := 1) X (by decide +kernel) 1 rfl ?_
  obtain ⟨x6, ex6, hf⟩ := bnd_e hf
  refine v_iald (pc := 122) X (ly_12_64 ok kl0) ex6 (by decide +kernel) ?_
  refine v_i2l (pc := 123) X (by decide +kernel) ?_
  obtain ⟨h7, eh7, hf⟩ := bnd_e hf
  refine v_last (pc := 124) X (ly_12_51 ok kl0) eh7 (by decide +kernel) ?_
  cases hf
  exact v_vret X Y (by decide +kernel) rfl rfl
set_option maxRecDepth 4000 in
set_option maxHeartbeats 1000000 in
theorem mt_Md_layNames {g : Gl} {tb : Tb} {ρ : Nat → Nat} (ok : TbOK tb) (hi : inj tb ρ) {h : Hp} {l0 : Nat} {l1 : Int32} {l2 : Int32} (kl0 : kd tb l0 = 12) {r : Hp} (hf : f_Md_layNames tb h l0 l1 l2 = some r) : MT g y_Md_layNames prog_14_method_56_code 5 none 2 45 tb ρ [.ref (ρ l0), .int l1, .int l2] h (none) r := by
  refine mt_intro (by decide +kernel) ok hi (Nat.le_of_ble_eq_true rfl) (fun E X Y => ?_)
  change V E g tb ρ 5 0 [(0, .ref (ρ l0)), (1, .int l1), (2, .int l2)] [] h
  unfold f_Md_layNames at hf
  refine v_bipush (pc := 0) (n := 6) X (by decide +kernel) bi_6 ?_
  refine v_iload_n (pc := 2) (k := 1) X (by decide +kernel) 1 rfl ?_
  refine v_imul (pc := 3) X (by decide +kernel) ?_
  refine v_iload_n (pc := 4) (k := 2) X (by decide +kernel) 2 rfl ?_
  refine v_iadd (pc := 5) X (by decide +kernel) ?_
  obtain ⟨x1, ex1, hf⟩ := nmd_e hf
  refine v_nmi ex1 ?_
  refine v_istore_n (pc := 6) (k := 3) (lv' := [(3, .int x1), (0, .ref (ρ l0)), (1, .int l1), (2, .int l2)]) X (by decide +kernel) (Nat.le_of_ble_eq_true rfl) rfl ?_
  refine v_aload_n (pc := 7) (k := 0) X (by decide +kernel) 1 rfl ?_
  refine v_aload_n (pc := 8) (k := 0) X (by decide +kernel) 1 rfl ?_
  refine v_geta (pc := 9) X fl_12_94 kl0 fk_12_54 (by decide +kernel) ?_
  refine v_iload_n (pc := 12) (k := 3) X (by decide +kernel) 0 rfl ?_
  obtain ⟨x2, ex2, hf⟩ := bnd_e hf
  refine v_iald (pc := 13) X (ly_12_54 ok kl0) ex2 (by decide +kernel) ?_
  obtain ⟨r3, er3, hf⟩ := bnd_e hf
  refine v_callV (pc := 14) (As := [.int x2]) (rest := []) X (mt_Md_troughAt ok hi kl0 er3) ml_12_401 mv_Md_troughAt kl0 cls_12 rfl ⟨Nat.le_of_ble_eq_true rfl, Nat.le_of_ble_eq_true rfl⟩ rfl rfl (Nat.le_of_ble_eq_true rfl) (by decide +kernel) ?_
  change V E g tb ρ 5 17 [(3, .int x1), (0, .ref (ρ l0)), (1, .int l1), (2, .int l2)] [.int r3] h
  refine v_istore (pc := 17) (k := 4) (lv' := [(4, .int r3), (3, .int x1), (0, .ref (ρ l0)), (1, .int l1), (2, .int l2)]) X (by decide +kernel) (Nat.le_of_ble_eq_true rfl) rfl ?_
  refine v_aload_n (pc := 19) (k := 0) X (by decide +kernel) 2 rfl ?_
  refine v_geta (pc := 20) X fl_12_87 kl0 fk_12_51 (by decide +kernel) ?_
  refine v_iconst (pc := 23) (n := 0) X (by decide +kernel) ic_0 ?_
  refine v_aload_n (pc := 24) (k := 0) X (by decide +kernel) 2 rfl ?_
  refine v_geta (pc := 25) X fl_12_97 kl0 fk_12_55 (by decide +kernel) ?_
  refine v_iload_n (pc := 28) (k := 3) X (by decide +kernel) 1 rfl ?_
  obtain ⟨x4, ex4, hf⟩ := bnd_e hf
  refine v_iald (pc := 29) X (ly_12_55 ok kl0) ex4 (by decide +kernel) ?_
  refine v_i2l (pc := 30) X (by decide +kernel) ?_
  obtain ⟨h5, eh5, hf⟩ := bnd_e hf
  refine v_last (pc := 31) X (ly_12_51 ok kl0) eh5 (by decide +kernel) ?_
  refine v_aload_n (pc := 32) (k := 0) X (by decide +kernel) 2 rfl ?_
  refine v_geta (pc := 33) X fl_12_87 kl0 fk_12_51 (by decide +kernel) ?_
  refine v_iconst (pc := 36) (n := 1) X (by decide +kernel) ic_1 ?_
  refine v_aload_n (pc := 37) (k := 0) X (by decide +kernel) 2 rfl ?_
  refine v_iload_n (pc := 38) (k := 2) X (by decide +kernel) 4 rfl ?_
  obtain ⟨r6, er6, hf⟩ := bnd_e hf
  refine v_callV (pc := 39) (As := [.int l2]) (rest := [.int (1 : Int32), .ref (ρ (lay tb l0 51))]) X (mt_Md_paceOf ok hi kl0 er6) ml_12_404 mv_Md_paceOf kl0 cls_12 rfl ⟨Nat.le_of_ble_eq_true rfl, Nat.le_of_ble_eq_true rfl⟩ rfl rfl (Nat.le_of_ble_eq_true rfl) (by decide +kernel) ?_
  change V E g tb ρ 5 42 [(4, .int r3), (3, .int x1), (0, .ref (ρ l0)), (1, .int l1), (2, .int l2)] [.int r6, .int (1 : Int32), .ref (ρ (lay tb l0 51))] h5
  refine v_i2l (pc := 42) X (by decide +kernel) ?_
  obtain ⟨h7, eh7, hf⟩ := bnd_e hf
  refine v_last (pc := 43) X (ly_12_51 ok kl0) eh7 (by decide +kernel) ?_
  refine v_aload_n (pc := 44) (k := 0) X (by decide +kernel) 2 rfl ?_
  refine v_geta (pc := 45) X fl_12_87 kl0 fk_12_51 (by decide +kernel) ?_
  refine v_iconst (pc := 48) (n := 2) X (by decide +kernel) ic_2 ?_
  refine v_aload_n (pc := 49) (k := 0) X (by decide +kernel) 2 rfl ?_
  refine v_geta (pc := 50) X fl_12_42 kl0 fk_12_30 (by decide +kernel) ?_
  refine v_iload_n (pc := 53) (k := 2) X (by decide +kernel) 4 rfl ?_
  obtain ⟨x8, ex8, hf⟩ := bnd_e hf
  refine v_iald (pc := 54) X (ly_12_30 ok kl0) ex8 (by decide +kernel) ?_
  refine v_i2l (pc := 55) X (by decide +kernel) ?_
  obtain ⟨h9, eh9, hf⟩ := bnd_e hf
  refine v_last (pc := 56) X (ly_12_51 ok kl0) eh9 (by decide +kernel) ?_
  refine v_aload_n (pc := 57) (k := 0) X (by decide +kernel) 2 rfl ?_
  refine v_geta (pc := 58) X fl_12_87 kl0 fk_12_51 (by decide +kernel) ?_
  refine v_iconst (pc := 61) (n := 3) X (by decide +kernel) ic_3 ?_
  refine v_iload (pc := 62) (k := 4) X (by decide +kernel) 0 rfl ?_
  refine v_if_ge (pc := 64) (off := 7) (tgt := 71) X (by decide +kernel) (by decide) (fun q11 => ?_) (fun q11 => ?_)
  · rw [if_pos q11] at hf
    refine v_aload_n (pc := 71) (k := 0) X (by decide +kernel) 2 rfl ?_
    refine v_geta (pc := 72) X fl_12_112 kl0 fk_12_60 (by decide +kernel) ?_
    refine v_bipush (pc := 75) (n := 6) X (by decide +kernel) bi_6 ?_
    refine v_iload_n (pc := 77) (k := 1) X (by decide +kernel) 3 rfl ?_
    refine v_imul (pc := 78) X (by decide +kernel) ?_
    refine v_iload (pc := 79) (k := 4) X (by decide +kernel) 0 rfl ?_
    refine v_iadd (pc := 81) X (by decide +kernel) ?_
    obtain ⟨x10, ex10, hf⟩ := bnd_e hf
    refine v_iald (pc := 82) X (ly_12_60 ok kl0) ex10 (by decide +kernel) ?_
    refine v_i2l (pc := 83) X (by decide +kernel) ?_
    refine v_sub [2, 3, 4, 1] rfl ?_
    exact vjb_Md_layNames_84 ok hi X Y h9 l0 l1 l2 x1 (lay tb l0 51) (3 : Int32) (x10.toInt64) kl0 (ly_12_51 ok kl0) hf
  · rw [if_neg q11] at hf
    refine v_lconst (pc := 67) (n := 0) X (by decide +kernel) lc_0 ?_
    refine v_goto (pc := 68) (off := 16) (tgt := 84) X (by decide +kernel) (by decide) ?_
    refine v_sub [2, 3, 4, 1] rfl ?_
    exact vjb_Md_layNames_84 ok hi X Y h9 l0 l1 l2 x1 (lay tb l0 51) (3 : Int32) (0 : Int64) kl0 (ly_12_51 ok kl0) hf
def lp_Md_lawOf_12 (tb : Tb) : Nat → Hp → Nat → Int32 → Int32 → Option (Int64 × Hp)
  | 0, _, _, _, _ => none
  | n + 1, h, l0, l1, l2 =>
    (rI tb h (lay tb l0 39) l1).bind fun x1 =>
    if x1 ≤ l2 then (
      if (h.1 l0 53) = (0 : Int32) then (
        (rI tb h (lay tb l0 39) l1).bind fun x2 =>
        (rL tb h (lay tb l0 52) (x2 - (1 : Int32))).bind fun x3 =>
        some (x3, h)
      ) else (
        some ((0 : Int64), h)
      )
    ) else (
      (f_Md_valueOf tb h l0 l2).bind fun r5 =>
      (wL tb r5.2 (lay tb l0 52) l2 r5.1).bind fun h6 =>
      nmd (l2 + (1 : Int32)) fun x7 =>
      lp_Md_lawOf_12 tb n h6 l0 l1 x7
    )
def f_Md_lawOf (tb : Tb) (h : Hp) (l0 : Nat) (l1 : Int32) : Option (Int64 × Hp) :=
  nmd (pI h l0 53 (0 : Int32)) fun h1 =>
  (rI tb h1 (lay tb l0 38) l1).bind fun x2 =>
  lp_Md_lawOf_12 tb fu h1 l0 l1 x2
set_option maxRecDepth 4000 in
set_option maxHeartbeats 1000000 in
theorem vlp_Md_lawOf_12 {E : En} {g : Gl} {tb : Tb} {ρ : Nat → Nat} (ok : TbOK tb) (hi : inj tb ρ) {r : Int64 × Hp} (X : CX E g tb ρ prog_14_method_57_code 3 RC12 2 50) (Y : CQ E g tb ρ (some .long) (some (.long r.1)) r.2) : ∀ (n : Nat) (h : Hp) (l0 : Nat) (l1 : Int32) (l2 : Int32) (kl0 : kd tb l0 = 12), lp_Md_lawOf_12 tb n h l0 l1 l2 = some r → V E g tb ρ 3 12 [(0, .ref (ρ l0)), (1, .int l1), (2, .int l2)] [] h := by
  intro n
  induction n with
  | zero =>
    intro h l0 l1 l2 kl0 hf
    rw [lp_Md_lawOf_12] at hf
    cases hf
  | succ n ih =>
    intro h l0 l1 l2 kl0 hf
    rw [lp_Md_lawOf_12] at hf
    refine v_iload_n (pc := 12) (k := 2) X (by decide +kernel) 2 rfl ?_
    refine v_aload_n (pc := 13) (k := 0) X (by decide +kernel) 0 rfl ?_
    refine v_geta (pc := 14) X fl_12_69 kl0 fk_12_39 (by decide +kernel) ?_
    refine v_iload_n (pc := 17) (k := 1) X (by decide +kernel) 1 rfl ?_
    obtain ⟨x1, ex1, hf⟩ := bnd_e hf
    refine v_iald (pc := 18) X (ly_12_39 ok kl0) ex1 (by decide +kernel) ?_
    refine v_icmp_ge (pc := 19) (off := 20) (tgt := 39) X (by decide +kernel) (by decide) (fun q8 => ?_) (fun q8 => ?_)
    · rw [if_pos q8] at hf
      refine v_aload_n (pc := 39) (k := 0) X (by decide +kernel) 0 rfl ?_
      refine v_geti (pc := 40) X fl_12_348 kl0 rfl (by decide +kernel) ?_
      refine v_if_eq (pc := 43) (off := 7) (tgt := 50) X (by decide +kernel) (by decide) (fun q4 => ?_) (fun q4 => ?_)
      · rw [if_pos q4] at hf
        refine v_aload_n (pc := 50) (k := 0) X (by decide +kernel) 0 rfl ?_
        refine v_geta (pc := 51) X fl_12_91 kl0 fk_12_52 (by decide +kernel) ?_
        refine v_aload_n (pc := 54) (k := 0) X (by decide +kernel) 0 rfl ?_
        refine v_geta (pc := 55) X fl_12_69 kl0 fk_12_39 (by decide +kernel) ?_
        refine v_iload_n (pc := 58) (k := 1) X (by decide +kernel) 1 rfl ?_
        obtain ⟨x2, ex2, hf⟩ := bnd_e hf
        refine v_iald (pc := 59) X (ly_12_39 ok kl0) ex2 (by decide +kernel) ?_
        refine v_iconst (pc := 60) (n := 1) X (by decide +kernel) ic_1 ?_
        refine v_isub (pc := 61) X (by decide +kernel) ?_
        obtain ⟨x3, ex3, hf⟩ := bnd_e hf
        refine v_lald (pc := 62) X (ly_12_52 ok kl0) ex3 (by decide +kernel) ?_
        cases hf
        exact v_lret X Y (by decide +kernel) rfl rfl
      · rw [if_neg q4] at hf
        refine v_lconst (pc := 46) (n := 0) X (by decide +kernel) lc_0 ?_
        refine v_goto (pc := 47) (off := 16) (tgt := 63) X (by decide +kernel) (by decide) ?_
        cases hf
        exact v_lret X Y (by decide +kernel) rfl rfl
    · rw [if_neg q8] at hf
      refine v_aload_n (pc := 22) (k := 0) X (by decide +kernel) 0 rfl ?_
      refine v_geta (pc := 23) X fl_12_91 kl0 fk_12_52 (by decide +kernel) ?_
      refine v_iload_n (pc := 26) (k := 2) X (by decide +kernel) 2 rfl ?_
      refine v_aload_n (pc := 27) (k := 0) X (by decide +kernel) 0 rfl ?_
      refine v_iload_n (pc := 28) (k := 2) X (by decide +kernel) 2 rfl ?_
      obtain ⟨r5, er5, hf⟩ := bnd_e hf
      refine v_callV (pc := 29) (As := [.int l2]) (rest := [.int l2, .ref (ρ (lay tb l0 52))]) X (mt_Md_valueOf ok hi kl0 er5) ml_12_410 mv_Md_valueOf kl0 cls_12 rfl ⟨Nat.le_of_ble_eq_true rfl, Nat.le_of_ble_eq_true rfl⟩ rfl rfl (Nat.le_of_ble_eq_true rfl) (by decide +kernel) ?_
      change V E g tb ρ 3 32 [(0, .ref (ρ l0)), (1, .int l1), (2, .int l2)] [.long r5.1, .int l2, .ref (ρ (lay tb l0 52))] r5.2
      obtain ⟨h6, eh6, hf⟩ := bnd_e hf
      refine v_last (pc := 32) X (ly_12_52 ok kl0) eh6 (by decide +kernel) ?_
      obtain ⟨x7, ex7, hf⟩ := nmd_e hf
      refine v_iinc (pc := 33) (k := 2) (n := 1) (v := x7) (lv' := [(2, .int x7), (0, .ref (ρ l0)), (1, .int l1)]) X (by decide +kernel) 2 rfl (by rw [ic_1, ex7]) (Nat.le_of_ble_eq_true rfl) rfl ?_
      refine v_goto (pc := 36) (off := -24) (tgt := 12) X (by decide +kernel) (by decide) ?_
      refine v_sub [1, 2, 0] rfl ?_
      exact ih h6 l0 l1 x7 kl0 hf
set_option maxRecDepth 4000 in
set_option maxHeartbeats 1000000 in
theorem mt_Md_lawOf {g : Gl} {tb : Tb} {ρ : Nat → Nat} (ok : TbOK tb) (hi : inj tb ρ) {h : Hp} {l0 : Nat} {l1 : Int32} (kl0 : kd tb l0 = 12) {r : Int64 × Hp} (hf : f_Md_lawOf tb h l0 l1 = some r) : MT g y_Md_lawOf prog_14_method_57_code 3 (some .long) 2 50 tb ρ [.ref (ρ l0), .int l1] h (some (.long r.1)) r.2 := by
  refine mt_intro (by decide +kernel) ok hi (Nat.le_of_ble_eq_true rfl) (fun E X Y => ?_)
  change V E g tb ρ 3 0 [(0, .ref (ρ l0)), (1, .int l1)] [] h
  unfold f_Md_lawOf at hf
  refine v_aload_n (pc := 0) (k := 0) X (by decide +kernel) 0 rfl ?_
  refine v_iconst (pc := 1) (n := 0) X (by decide +kernel) ic_0 ?_
  obtain ⟨h1, eh1, hf⟩ := nmd_e hf
  refine v_putz (pc := 2) X fp_12_348 kl0 rfl rfl (by decide +kernel) eh1 ?_
  refine v_aload_n (pc := 5) (k := 0) X (by decide +kernel) 0 rfl ?_
  refine v_geta (pc := 6) X fl_12_66 kl0 fk_12_38 (by decide +kernel) ?_
  refine v_iload_n (pc := 9) (k := 1) X (by decide +kernel) 1 rfl ?_
  obtain ⟨x2, ex2, hf⟩ := bnd_e hf
  refine v_iald (pc := 10) X (ly_12_38 ok kl0) ex2 (by decide +kernel) ?_
  refine v_istore_n (pc := 11) (k := 2) (lv' := [(2, .int x2), (0, .ref (ρ l0)), (1, .int l1)]) X (by decide +kernel) (Nat.le_of_ble_eq_true rfl) rfl ?_
  refine v_sub [1, 2, 0] rfl ?_
  exact vlp_Md_lawOf_12 ok hi X Y fu h1 l0 l1 x2 kl0 hf
def f_Md_boundLaw (tb : Tb) (h : Hp) (l0 : Nat) (l1 : Int32) (l2 : Int32) (l3 : Int32) (l4 : Int32) : Option (Int32 × Hp) :=
  (rI tb h (lay tb l0 37) l2).bind fun x1 =>
  if x1 = (0 : Int32) then (
    some (l4, h)
  ) else (
    (f_Md_layNames tb h l0 l1 l3).bind fun r2 =>
    (f_Md_lawOf tb r2 l0 l2).bind fun r3 =>
    if (r3.2.1 l0 53) = (0 : Int32) then (
      if (0 : Int32) ≤ (lg_cmp r3.1 (0 : Int64)) then (
        if (lg_cmp r3.1 (99 : Int64)) ≤ (0 : Int32) then (
          some (r3.1.toInt32, r3.2)
        ) else (
          some ((99 : Int32), r3.2)
        )
      ) else (
        some ((0 : Int32), r3.2)
      )
    ) else (
      some (l4, r3.2)
    )
  )
set_option maxRecDepth 4000 in
set_option maxHeartbeats 1000000 in
theorem mt_Md_boundLaw {g : Gl} {tb : Tb} {ρ : Nat → Nat} (ok : TbOK tb) (hi : inj tb ρ) {h : Hp} {l0 : Nat} {l1 : Int32} {l2 : Int32} {l3 : Int32} {l4 : Int32} (kl0 : kd tb l0 = 12) {r : Int32 × Hp} (hf : f_Md_boundLaw tb h l0 l1 l2 l3 l4 = some r) : MT g y_Md_boundLaw prog_14_method_58_code 7 (some .int) 3 72 tb ρ [.ref (ρ l0), .int l1, .int l2, .int l3, .int l4] h (some (.int r.1)) r.2 := by
  refine mt_intro (by decide +kernel) ok hi (Nat.le_of_ble_eq_true rfl) (fun E X Y => ?_)
  change V E g tb ρ 7 0 [(0, .ref (ρ l0)), (1, .int l1), (2, .int l2), (3, .int l3), (4, .int l4)] [] h
  unfold f_Md_boundLaw at hf
  refine v_aload_n (pc := 0) (k := 0) X (by decide +kernel) 0 rfl ?_
  refine v_geta (pc := 1) X fl_12_63 kl0 fk_12_37 (by decide +kernel) ?_
  refine v_iload_n (pc := 4) (k := 2) X (by decide +kernel) 2 rfl ?_
  obtain ⟨x1, ex1, hf⟩ := bnd_e hf
  refine v_zald (pc := 5) X (ly_12_37 ok kl0) ex1 (by decide +kernel) ?_
  refine v_if_ne (pc := 6) (off := 6) (tgt := 12) X (by decide +kernel) (by decide) (fun q7 => ?_) (fun q7 => ?_)
  · rw [if_neg q7] at hf
    refine v_aload_n (pc := 12) (k := 0) X (by decide +kernel) 0 rfl ?_
    refine v_iload_n (pc := 13) (k := 1) X (by decide +kernel) 1 rfl ?_
    refine v_iload_n (pc := 14) (k := 3) X (by decide +kernel) 3 rfl ?_
    obtain ⟨r2, er2, hf⟩ := bnd_e hf
    refine v_callV (pc := 15) (As := [.int l1, .int l3]) (rest := []) X (mt_Md_layNames ok hi kl0 er2) ml_12_414 mv_Md_layNames kl0 cls_12 rfl ⟨Nat.le_of_ble_eq_true rfl, Nat.le_of_ble_eq_true rfl⟩ rfl rfl (Nat.le_of_ble_eq_true rfl) (by decide +kernel) ?_
    change V E g tb ρ 7 18 [(0, .ref (ρ l0)), (1, .int l1), (2, .int l2), (3, .int l3), (4, .int l4)] [] r2
    refine v_aload_n (pc := 18) (k := 0) X (by decide +kernel) 0 rfl ?_
    refine v_iload_n (pc := 19) (k := 2) X (by decide +kernel) 2 rfl ?_
    obtain ⟨r3, er3, hf⟩ := bnd_e hf
    refine v_callV (pc := 20) (As := [.int l2]) (rest := []) X (mt_Md_lawOf ok hi kl0 er3) ml_12_418 mv_Md_lawOf kl0 cls_12 rfl ⟨Nat.le_of_ble_eq_true rfl, Nat.le_of_ble_eq_true rfl⟩ rfl rfl (Nat.le_of_ble_eq_true rfl) (by decide +kernel) ?_
    change V E g tb ρ 7 23 [(0, .ref (ρ l0)), (1, .int l1), (2, .int l2), (3, .int l3), (4, .int l4)] [.long r3.1] r3.2
    refine v_lstore (pc := 23) (k := 5) (lv' := [(5, .long r3.1), (0, .ref (ρ l0)), (1, .int l1), (2, .int l2), (3, .int l3), (4, .int l4)]) X (by decide +kernel) (Nat.le_of_ble_eq_true rfl) rfl ?_
    refine v_aload_n (pc := 25) (k := 0) X (by decide +kernel) 1 rfl ?_
    refine v_geti (pc := 26) X fl_12_348 kl0 rfl (by decide +kernel) ?_
    refine v_if_eq (pc := 29) (off := 6) (tgt := 35) X (by decide +kernel) (by decide) (fun q6 => ?_) (fun q6 => ?_)
    · rw [if_pos q6] at hf
      refine v_lload (pc := 35) (k := 5) X (by decide +kernel) 0 rfl ?_
      refine v_lconst (pc := 37) (n := 0) X (by decide +kernel) lc_0 ?_
      refine v_lcmp (pc := 38) X (by decide +kernel) ?_
      refine v_if_ge (pc := 39) (off := 7) (tgt := 46) X (by decide +kernel) (by decide) (fun q5 => ?_) (fun q5 => ?_)
      · rw [if_pos q5] at hf
        refine v_lload (pc := 46) (k := 5) X (by decide +kernel) 0 rfl ?_
        refine v_ldc2 (pc := 48) X (by decide +kernel) kl_12_421 ?_
        refine v_lcmp (pc := 51) X (by decide +kernel) ?_
        refine v_if_le (pc := 52) (off := 8) (tgt := 60) X (by decide +kernel) (by decide) (fun q4 => ?_) (fun q4 => ?_)
        · rw [if_pos q4] at hf
          refine v_lload (pc := 60) (k := 5) X (by decide +kernel) 0 rfl ?_
          refine v_l2i (pc := 62) X (by decide +kernel) ?_
          cases hf
          exact v_iret X Y (by decide +kernel) rfl rfl
        · rw [if_neg q4] at hf
          refine v_bipush (pc := 55) (n := 99) X (by decide +kernel) bi_99 ?_
          refine v_goto (pc := 57) (off := 6) (tgt := 63) X (by decide +kernel) (by decide) ?_
          cases hf
          exact v_iret X Y (by decide +kernel) rfl rfl
      · rw [if_neg q5] at hf
        refine v_iconst (pc := 42) (n := 0) X (by decide +kernel) ic_0 ?_
        refine v_goto (pc := 43) (off := 20) (tgt := 63) X (by decide +kernel) (by decide) ?_
        cases hf
        exact v_iret X Y (by decide +kernel) rfl rfl
    · rw [if_neg q6] at hf
      refine v_iload (pc := 32) (k := 4) X (by decide +kernel) 5 rfl ?_
      cases hf
      exact v_iret X Y (by decide +kernel) rfl rfl
  · rw [if_pos q7] at hf
    refine v_iload (pc := 9) (k := 4) X (by decide +kernel) 4 rfl ?_
    cases hf
    exact v_iret X Y (by decide +kernel) rfl rfl
def f_Md_number1 (tb : Tb) (h : Hp) (l0 : Nat) (l1 : Int32) : Option (Int32 × Hp) :=
  nmd (pL h l0 67 ((((h.2 l0 67) * (1103515245 : Int64)) + (12345 : Int64)) &&& (2147483647 : Int64))) fun h1 =>
  (mL ((h1.2 l0 67) / (65536 : Int64)) (l1.toInt64)).bind fun x2 =>
  some (x2.toInt32, h1)
set_option maxRecDepth 4000 in
set_option maxHeartbeats 1000000 in
theorem mt_Md_number1 {g : Gl} {tb : Tb} {ρ : Nat → Nat} (ok : TbOK tb) (hi : inj tb ρ) {h : Hp} {l0 : Nat} {l1 : Int32} (kl0 : kd tb l0 = 12) {r : Int32 × Hp} (hf : f_Md_number1 tb h l0 l1 = some r) : MT g y_Md_number1 prog_14_method_59_code 2 (some .int) 0 0 tb ρ [.ref (ρ l0), .int l1] h (some (.int r.1)) r.2 := by
  refine mt_intro (by decide +kernel) ok hi (Nat.le_of_ble_eq_true rfl) (fun E X Y => ?_)
  change V E g tb ρ 2 0 [(0, .ref (ρ l0)), (1, .int l1)] [] h
  unfold f_Md_number1 at hf
  refine v_aload_n (pc := 0) (k := 0) X (by decide +kernel) 0 rfl ?_
  refine v_aload_n (pc := 1) (k := 0) X (by decide +kernel) 0 rfl ?_
  refine v_getl (pc := 2) X fl_12_370 kl0 rfl (by decide +kernel) ?_
  refine v_ldc2 (pc := 5) X (by decide +kernel) kl_12_423 ?_
  refine v_lmul (pc := 8) X (by decide +kernel) ?_
  refine v_ldc2 (pc := 9) X (by decide +kernel) kl_12_425 ?_
  refine v_ladd (pc := 12) X (by decide +kernel) ?_
  refine v_ldc2 (pc := 13) X (by decide +kernel) kl_12_427 ?_
  refine v_land (pc := 16) X (by decide +kernel) ?_
  obtain ⟨h1, eh1, hf⟩ := nmd_e hf
  refine v_putl (pc := 17) X fp_12_370 kl0 rfl (by decide +kernel) eh1 ?_
  refine v_aload_n (pc := 20) (k := 0) X (by decide +kernel) 0 rfl ?_
  refine v_getl (pc := 21) X fl_12_370 kl0 rfl (by decide +kernel) ?_
  refine v_ldc2 (pc := 24) X (by decide +kernel) kl_12_429 ?_
  refine v_ldiv (pc := 27) X (if_neg (by decide)) (by decide +kernel) ?_
  refine v_iload_n (pc := 28) (k := 1) X (by decide +kernel) 1 rfl ?_
  refine v_i2l (pc := 29) X (by decide +kernel) ?_
  obtain ⟨x2, ex2, hf⟩ := bnd_e hf
  refine v_lrem (pc := 30) X ex2 (by decide +kernel) ?_
  refine v_l2i (pc := 31) X (by decide +kernel) ?_
  cases hf
  exact v_iret X Y (by decide +kernel) rfl rfl
def f_Md_isRain (tb : Tb) (h : Hp) (l0 : Nat) : Option (Int32 × Hp) :=
  if (h.1 l0 70) = (0 : Int32) then (
    (rI tb h (lay tb l0 24) (0 : Int32)).bind fun x1 =>
    if x1 = (0 : Int32) then (
      some ((0 : Int32), h)
    ) else (
      (rI tb h (lay tb l0 24) (0 : Int32)).bind fun x2 =>
      if x2 = (100 : Int32) then (
        some ((1 : Int32), h)
      ) else (
        if (h.1 l0 69) = (0 : Int32) then (
          (rI tb h (lay tb l0 24) (0 : Int32)).bind fun x3 =>
          if x3 < (50 : Int32) then (
            some ((0 : Int32), h)
          ) else (
            some ((1 : Int32), h)
          )
        ) else (
          (f_Md_number1 tb h l0 (100 : Int32)).bind fun r5 =>
          (rI tb r5.2 (lay tb l0 24) (0 : Int32)).bind fun x6 =>
          if x6 ≤ r5.1 then (
            some ((0 : Int32), r5.2)
          ) else (
            some ((1 : Int32), r5.2)
          )
        )
      )
    )
  ) else (
    some ((0 : Int32), h)
  )
set_option maxRecDepth 4000 in
set_option maxHeartbeats 1000000 in
theorem mt_Md_isRain {g : Gl} {tb : Tb} {ρ : Nat → Nat} (ok : TbOK tb) (hi : inj tb ρ) {h : Hp} {l0 : Nat} (kl0 : kd tb l0 = 12) {r : Int32 × Hp} (hf : f_Md_isRain tb h l0 = some r) : MT g y_Md_isRain prog_14_method_60_code 1 (some .boolean) 1 21 tb ρ [.ref (ρ l0)] h (some (.int r.1)) r.2 := by
  refine mt_intro (by decide +kernel) ok hi (Nat.le_of_ble_eq_true rfl) (fun E X Y => ?_)
  change V E g tb ρ 1 0 [(0, .ref (ρ l0))] [] h
  unfold f_Md_isRain at hf
  refine v_aload_n (pc := 0) (k := 0) X (by decide +kernel) 0 rfl ?_
  refine v_geti (pc := 1) X fl_12_389 kl0 rfl (by decide +kernel) ?_
  refine v_if_ne (pc := 4) (off := 12) (tgt := 16) X (by decide +kernel) (by decide) (fun q11 => ?_) (fun q11 => ?_)
  · rw [if_neg q11] at hf
    refine v_iconst (pc := 16) (n := 0) X (by decide +kernel) ic_0 ?_
    cases hf
    exact v_zret (hz := rfl) X Y (by decide +kernel) rfl rfl
  · rw [if_pos q11] at hf
    refine v_aload_n (pc := 7) (k := 0) X (by decide +kernel) 0 rfl ?_
    refine v_geta (pc := 8) X fl_12_24 kl0 fk_12_24 (by decide +kernel) ?_
    refine v_iconst (pc := 11) (n := 0) X (by decide +kernel) ic_0 ?_
    obtain ⟨x1, ex1, hf⟩ := bnd_e hf
    refine v_iald (pc := 12) X (ly_12_24 ok kl0) ex1 (by decide +kernel) ?_
    refine v_if_ne (pc := 13) (off := 5) (tgt := 18) X (by decide +kernel) (by decide) (fun q10 => ?_) (fun q10 => ?_)
    · rw [if_neg q10] at hf
      refine v_aload_n (pc := 18) (k := 0) X (by decide +kernel) 0 rfl ?_
      refine v_geta (pc := 19) X fl_12_24 kl0 fk_12_24 (by decide +kernel) ?_
      refine v_iconst (pc := 22) (n := 0) X (by decide +kernel) ic_0 ?_
      obtain ⟨x2, ex2, hf⟩ := bnd_e hf
      refine v_iald (pc := 23) X (ly_12_24 ok kl0) ex2 (by decide +kernel) ?_
      refine v_bipush (pc := 24) (n := 100) X (by decide +kernel) bi_100 ?_
      refine v_icmp_ne (pc := 26) (off := 5) (tgt := 31) X (by decide +kernel) (by decide) (fun q9 => ?_) (fun q9 => ?_)
      · rw [if_neg q9] at hf
        refine v_aload_n (pc := 31) (k := 0) X (by decide +kernel) 0 rfl ?_
        refine v_geti (pc := 32) X fl_12_386 kl0 rfl (by decide +kernel) ?_
        refine v_if_eq (pc := 35) (off := 26) (tgt := 61) X (by decide +kernel) (by decide) (fun q8 => ?_) (fun q8 => ?_)
        · rw [if_pos q8] at hf
          refine v_aload_n (pc := 61) (k := 0) X (by decide +kernel) 0 rfl ?_
          refine v_geta (pc := 62) X fl_12_24 kl0 fk_12_24 (by decide +kernel) ?_
          refine v_iconst (pc := 65) (n := 0) X (by decide +kernel) ic_0 ?_
          obtain ⟨x3, ex3, hf⟩ := bnd_e hf
          refine v_iald (pc := 66) X (ly_12_24 ok kl0) ex3 (by decide +kernel) ?_
          refine v_bipush (pc := 67) (n := 50) X (by decide +kernel) bi_50 ?_
          refine v_icmp_lt (pc := 69) (off := 7) (tgt := 76) X (by decide +kernel) (by decide) (fun q4 => ?_) (fun q4 => ?_)
          · rw [if_pos q4] at hf
            refine v_iconst (pc := 76) (n := 0) X (by decide +kernel) ic_0 ?_
            cases hf
            exact v_zret (hz := rfl) X Y (by decide +kernel) rfl rfl
          · rw [if_neg q4] at hf
            refine v_iconst (pc := 72) (n := 1) X (by decide +kernel) ic_1 ?_
            refine v_goto (pc := 73) (off := 4) (tgt := 77) X (by decide +kernel) (by decide) ?_
            cases hf
            exact v_zret (hz := rfl) X Y (by decide +kernel) rfl rfl
        · rw [if_neg q8] at hf
          refine v_aload_n (pc := 38) (k := 0) X (by decide +kernel) 0 rfl ?_
          refine v_bipush (pc := 39) (n := 100) X (by decide +kernel) bi_100 ?_
          obtain ⟨r5, er5, hf⟩ := bnd_e hf
          refine v_callV (pc := 41) (As := [.int (100 : Int32)]) (rest := []) X (mt_Md_number1 ok hi kl0 er5) ml_12_431 mv_Md_number1 kl0 cls_12 rfl ⟨Nat.le_of_ble_eq_true rfl, Nat.le_of_ble_eq_true rfl⟩ rfl rfl (Nat.le_of_ble_eq_true rfl) (by decide +kernel) ?_
          change V E g tb ρ 1 44 [(0, .ref (ρ l0))] [.int r5.1] r5.2
          refine v_aload_n (pc := 44) (k := 0) X (by decide +kernel) 0 rfl ?_
          refine v_geta (pc := 45) X fl_12_24 kl0 fk_12_24 (by decide +kernel) ?_
          refine v_iconst (pc := 48) (n := 0) X (by decide +kernel) ic_0 ?_
          obtain ⟨x6, ex6, hf⟩ := bnd_e hf
          refine v_iald (pc := 49) X (ly_12_24 ok kl0) ex6 (by decide +kernel) ?_
          refine v_icmp_ge (pc := 50) (off := 7) (tgt := 57) X (by decide +kernel) (by decide) (fun q7 => ?_) (fun q7 => ?_)
          · rw [if_pos q7] at hf
            refine v_iconst (pc := 57) (n := 0) X (by decide +kernel) ic_0 ?_
            refine v_goto (pc := 58) (off := 19) (tgt := 77) X (by decide +kernel) (by decide) ?_
            cases hf
            exact v_zret (hz := rfl) X Y (by decide +kernel) rfl rfl
          · rw [if_neg q7] at hf
            refine v_iconst (pc := 53) (n := 1) X (by decide +kernel) ic_1 ?_
            refine v_goto (pc := 54) (off := 23) (tgt := 77) X (by decide +kernel) (by decide) ?_
            cases hf
            exact v_zret (hz := rfl) X Y (by decide +kernel) rfl rfl
      · rw [if_pos q9] at hf
        refine v_iconst (pc := 29) (n := 1) X (by decide +kernel) ic_1 ?_
        cases hf
        exact v_zret (hz := rfl) X Y (by decide +kernel) rfl rfl
    · rw [if_pos q10] at hf
      refine v_iconst (pc := 16) (n := 0) X (by decide +kernel) ic_0 ?_
      cases hf
      exact v_zret (hz := rfl) X Y (by decide +kernel) rfl rfl
def jb_Md_walks_79 (tb : Tb) (h : Hp) (l0 : Nat) (l1 : Int32) (l2 : Int32) (l3 : Int32) : Option (Hp) :=
  (rI tb h (lay tb l0 55) l3).bind fun x1 =>
  (f_Md_boundLaw tb h l0 l1 (0 : Int32) l2 (1 : Int32)).bind fun r2 =>
  (wI tb r2.2 (lay tb l0 55) l3 (x1 + r2.1)).bind fun h3 =>
  some h3
def jb_Md_walks_77 (tb : Tb) (h : Hp) (l0 : Nat) (l1 : Int32) (l2 : Int32) (l3 : Int32) (s0 : Nat) (s1 : Int32) (s2 : Int32) (s3 : Int32) : Option (Hp) :=
  (wI tb h s0 s1 (s2 + s3)).bind fun h1 =>
  jb_Md_walks_79 tb h1 l0 l1 l2 l3
def jb_Md_walks_40 (tb : Tb) (h : Hp) (l0 : Nat) (l1 : Int32) (l2 : Int32) (l3 : Int32) (s0 : Int32) : Option (Hp) :=
  (rI tb h (lay tb l0 54) l3).bind fun x1 =>
  (rI tb h (lay tb l0 56) l3).bind fun x2 =>
  (rI tb h (lay tb l0 26) x2).bind fun x3 =>
  (rI tb h (lay tb l0 54) l3).bind fun x4 =>
  if x3 ≤ x4 then (
    jb_Md_walks_77 tb h l0 l1 l2 l3 (lay tb l0 54) l3 x1 (-s0)
  ) else (
    jb_Md_walks_77 tb h l0 l1 l2 l3 (lay tb l0 54) l3 x1 s0
  )
def f_Md_walks (tb : Tb) (h : Hp) (l0 : Nat) (l1 : Int32) (l2 : Int32) : Option (Hp) :=
  nmd (((6 : Int32) * l1) + l2) fun x1 =>
  (f_Md_farOf tb h l0 l1 l2).bind fun r2 =>
  if r2 ≤ (0 : Int32) then (
    jb_Md_walks_79 tb h l0 l1 l2 x1
  ) else (
    (f_Md_paceOf tb h l0 l2).bind fun r3 =>
    if r3 ≤ r2 then (
      (f_Md_paceOf tb h l0 l2).bind fun r4 =>
      jb_Md_walks_40 tb h l0 l1 l2 x1 r4
    ) else (
      jb_Md_walks_40 tb h l0 l1 l2 x1 r2
    )
  )
set_option maxRecDepth 4000 in
set_option maxHeartbeats 1000000 in
theorem vjb_Md_walks_79 {E : En} {g : Gl} {tb : Tb} {ρ : Nat → Nat} (ok : TbOK tb) (hi : inj tb ρ) {r : Hp} (X : CX E g tb ρ prog_14_method_61_code 6 RC12 4 98) (Y : CQ E g tb ρ none (none) r) (h : Hp) (l0 : Nat) (l1 : Int32) (l2 : Int32) (l3 : Int32) (kl0 : kd tb l0 = 12) (hf : jb_Md_walks_79 tb h l0 l1 l2 l3 = some r) : V E g tb ρ 6 79 [(0, .ref (ρ l0)), (1, .int l1), (2, .int l2), (3, .int l3)] [] h := by
  unfold jb_Md_walks_79 at hf
  refine v_aload_n (pc := 79) (k := 0) X (by decide +kernel) 0 rfl ?_
  refine v_geta (pc := 80) X fl_12_97 kl0 fk_12_55 (by decide +kernel) ?_
  refine v_iload_n (pc := 83) (k := 3) X (by decide +kernel) 3 rfl ?_
  refine v_dup2 (pc := 84) X (by decide +kernel) rfl rfl ?_
  obtain ⟨x1, ex1, hf⟩ := bnd_e hf
  refine v_iald (pc := 85) X (ly_12_55 ok kl0) ex1 (by decide +kernel) ?_
  refine v_aload_n (pc := 86) (k := 0) X (by decide +kernel) 0 rfl ?_
  refine v_iload_n (pc := 87) (k := 1) X (by decide +kernel) 1 rfl ?_
  refine v_iconst (pc := 88) (n := 0) X (by decide +kernel) ic_0 ?_
  refine v_iload_n (pc := 89) (k := 2) X (by decide +kernel) 2 rfl ?_
  refine v_iconst (pc := 90) (n := 1) X (by decide +kernel) ic_1 ?_
  obtain ⟨r2, er2, hf⟩ := bnd_e hf
  refine v_callV (pc := 91) (As := [.int l1, .int (0 : Int32), .int l2, .int (1 : Int32)]) (rest := [.int x1, .int l3, .ref (ρ (lay tb l0 55))]) X (mt_Md_boundLaw ok hi kl0 er2) ml_12_434 mv_Md_boundLaw kl0 cls_12 rfl ⟨Nat.le_of_ble_eq_true rfl, Nat.le_of_ble_eq_true rfl⟩ rfl rfl (Nat.le_of_ble_eq_true rfl) (by decide +kernel) ?_
  change V E g tb ρ 6 94 [(0, .ref (ρ l0)), (1, .int l1), (2, .int l2), (3, .int l3)] [.int r2.1, .int x1, .int l3, .ref (ρ (lay tb l0 55))] r2.2
  refine v_iadd (pc := 94) X (by decide +kernel) ?_
  obtain ⟨h3, eh3, hf⟩ := bnd_e hf
  refine v_iast (pc := 95) X (ly_12_55 ok kl0) eh3 (by decide +kernel) ?_
  cases hf
  exact v_vret X Y (by decide +kernel) rfl rfl
set_option maxRecDepth 4000 in
set_option maxHeartbeats 1000000 in
theorem vjb_Md_walks_77 {E : En} {g : Gl} {tb : Tb} {ρ : Nat → Nat} (ok : TbOK tb) (hi : inj tb ρ) {r : Hp} (X : CX E g tb ρ prog_14_method_61_code 6 RC12 4 98) (Y : CQ E g tb ρ none (none) r) (h : Hp) (l0 : Nat) (l1 : Int32) (l2 : Int32) (l3 : Int32) (s0 : Nat) (s1 : Int32) (s2 : Int32) (s3 : Int32) (kl0 : kd tb l0 = 12) (ks0 : kd tb s0 = 20) (hf : jb_Md_walks_77 tb h l0 l1 l2 l3 s0 s1 s2 s3 = some r) : V E g tb ρ 6 77 [(0, .ref (ρ l0)), (1, .int l1), (2, .int l2), (3, .int l3)] [.int s3, .int s2, .int s1, .ref (ρ s0)] h := by
  unfold jb_Md_walks_77 at hf
  refine v_iadd (pc := 77) X (by decide +kernel) ?_
  obtain ⟨h1, eh1, hf⟩ := bnd_e hf
  refine v_iast (pc := 78) X ks0 eh1 (by decide +kernel) ?_
  exact vjb_Md_walks_79 ok hi X Y h1 l0 l1 l2 l3 kl0 hf
set_option maxRecDepth 4000 in
set_option maxHeartbeats 1000000 in
theorem vjb_Md_walks_40 {E : En} {g : Gl} {tb : Tb} {ρ : Nat → Nat} (ok : TbOK tb) (hi : inj tb ρ) {r : Hp} (X : CX E g tb ρ prog_14_method_61_code 6 RC12 4 98) (Y : CQ E g tb ρ none (none) r) (h : Hp) (l0 : Nat) (l1 : Int32) (l2 : Int32) (l3 : Int32) (s0 : Int32) (kl0 : kd tb l0 = 12) (hf : jb_Md_walks_40 tb h l0 l1 l2 l3 s0 = some r) : V E g tb ρ 6 40 [(0, .ref (ρ l0)), (1, .int l1), (2, .int l2), (3, .int l3)] [.int s0] h := by
  unfold jb_Md_walks_40 at hf
  refine v_istore (pc := 40) (k := 5) (lv' := [(5, .int s0), (0, .ref (ρ l0)), (1, .int l1), (2, .int l2), (3, .int l3)]) X (by decide +kernel) (Nat.le_of_ble_eq_true rfl) rfl ?_
  refine v_aload_n (pc := 42) (k := 0) X (by decide +kernel) 1 rfl ?_
  refine v_geta (pc := 43) X fl_12_94 kl0 fk_12_54 (by decide +kernel) ?_
  refine v_iload_n (pc := 46) (k := 3) X (by decide +kernel) 4 rfl ?_
  refine v_dup2 (pc := 47) X (by decide +kernel) rfl rfl ?_
  obtain ⟨x1, ex1, hf⟩ := bnd_e hf
  refine v_iald (pc := 48) X (ly_12_54 ok kl0) ex1 (by decide +kernel) ?_
  refine v_aload_n (pc := 49) (k := 0) X (by decide +kernel) 1 rfl ?_
  refine v_geta (pc := 50) X fl_12_30 kl0 fk_12_26 (by decide +kernel) ?_
  refine v_aload_n (pc := 53) (k := 0) X (by decide +kernel) 1 rfl ?_
  refine v_geta (pc := 54) X fl_12_100 kl0 fk_12_56 (by decide +kernel) ?_
  refine v_iload_n (pc := 57) (k := 3) X (by decide +kernel) 4 rfl ?_
  obtain ⟨x2, ex2, hf⟩ := bnd_e hf
  refine v_iald (pc := 58) X (ly_12_56 ok kl0) ex2 (by decide +kernel) ?_
  obtain ⟨x3, ex3, hf⟩ := bnd_e hf
  refine v_iald (pc := 59) X (ly_12_26 ok kl0) ex3 (by decide +kernel) ?_
  refine v_aload_n (pc := 60) (k := 0) X (by decide +kernel) 1 rfl ?_
  refine v_geta (pc := 61) X fl_12_94 kl0 fk_12_54 (by decide +kernel) ?_
  refine v_iload_n (pc := 64) (k := 3) X (by decide +kernel) 4 rfl ?_
  obtain ⟨x4, ex4, hf⟩ := bnd_e hf
  refine v_iald (pc := 65) X (ly_12_54 ok kl0) ex4 (by decide +kernel) ?_
  refine v_icmp_le (pc := 66) (off := 8) (tgt := 74) X (by decide +kernel) (by decide) (fun q5 => ?_) (fun q5 => ?_)
  · rw [if_pos q5] at hf
    refine v_iload (pc := 74) (k := 5) X (by decide +kernel) 0 rfl ?_
    refine v_ineg (pc := 76) X (by decide +kernel) ?_
    refine v_sub [1, 2, 3, 4] rfl ?_
    exact vjb_Md_walks_77 ok hi X Y h l0 l1 l2 l3 (lay tb l0 54) l3 x1 (-s0) kl0 (ly_12_54 ok kl0) hf
  · rw [if_neg q5] at hf
    refine v_iload (pc := 69) (k := 5) X (by decide +kernel) 0 rfl ?_
    refine v_goto (pc := 71) (off := 6) (tgt := 77) X (by decide +kernel) (by decide) ?_
    refine v_sub [1, 2, 3, 4] rfl ?_
    exact vjb_Md_walks_77 ok hi X Y h l0 l1 l2 l3 (lay tb l0 54) l3 x1 s0 kl0 (ly_12_54 ok kl0) hf
set_option maxRecDepth 4000 in
set_option maxHeartbeats 1000000 in
theorem mt_Md_walks {g : Gl} {tb : Tb} {ρ : Nat → Nat} (ok : TbOK tb) (hi : inj tb ρ) {h : Hp} {l0 : Nat} {l1 : Int32} {l2 : Int32} (kl0 : kd tb l0 = 12) {r : Hp} (hf : f_Md_walks tb h l0 l1 l2 = some r) : MT g y_Md_walks prog_14_method_61_code 6 none 4 98 tb ρ [.ref (ρ l0), .int l1, .int l2] h (none) r := by
  refine mt_intro (by decide +kernel) ok hi (Nat.le_of_ble_eq_true rfl) (fun E X Y => ?_)
  change V E g tb ρ 6 0 [(0, .ref (ρ l0)), (1, .int l1), (2, .int l2)] [] h
  unfold f_Md_walks at hf
  refine v_bipush (pc := 0) (n := 6) X (by decide +kernel) bi_6 ?_
  refine v_iload_n (pc := 2) (k := 1) X (by decide +kernel) 1 rfl ?_
  refine v_imul (pc := 3) X (by decide +kernel) ?_
  refine v_iload_n (pc := 4) (k := 2) X (by decide +kernel) 2 rfl ?_
  refine v_iadd (pc := 5) X (by decide +kernel) ?_
  obtain ⟨x1, ex1, hf⟩ := nmd_e hf
  refine v_nmi ex1 ?_
  refine v_istore_n (pc := 6) (k := 3) (lv' := [(3, .int x1), (0, .ref (ρ l0)), (1, .int l1), (2, .int l2)]) X (by decide +kernel) (Nat.le_of_ble_eq_true rfl) rfl ?_
  refine v_aload_n (pc := 7) (k := 0) X (by decide +kernel) 1 rfl ?_
  refine v_iload_n (pc := 8) (k := 1) X (by decide +kernel) 2 rfl ?_
  refine v_iload_n (pc := 9) (k := 2) X (by decide +kernel) 3 rfl ?_
  obtain ⟨r2, er2, hf⟩ := bnd_e hf
  refine v_callV (pc := 10) (As := [.int l1, .int l2]) (rest := []) X (mt_Md_farOf ok hi kl0 er2) ml_12_407 mv_Md_farOf kl0 cls_12 rfl ⟨Nat.le_of_ble_eq_true rfl, Nat.le_of_ble_eq_true rfl⟩ rfl rfl (Nat.le_of_ble_eq_true rfl) (by decide +kernel) ?_
  change V E g tb ρ 6 13 [(3, .int x1), (0, .ref (ρ l0)), (1, .int l1), (2, .int l2)] [.int r2] h
  refine v_istore (pc := 13) (k := 4) (lv' := [(4, .int r2), (3, .int x1), (0, .ref (ρ l0)), (1, .int l1), (2, .int l2)]) X (by decide +kernel) (Nat.le_of_ble_eq_true rfl) rfl ?_
  refine v_iload (pc := 15) (k := 4) X (by decide +kernel) 0 rfl ?_
  refine v_if_le (pc := 17) (off := 62) (tgt := 79) X (by decide +kernel) (by decide) (fun q6 => ?_) (fun q6 => ?_)
  · rw [if_pos q6] at hf
    refine v_sub [2, 3, 4, 1] rfl ?_
    exact vjb_Md_walks_79 ok hi X Y h l0 l1 l2 x1 kl0 hf
  · rw [if_neg q6] at hf
    refine v_iload (pc := 20) (k := 4) X (by decide +kernel) 0 rfl ?_
    refine v_aload_n (pc := 22) (k := 0) X (by decide +kernel) 2 rfl ?_
    refine v_iload_n (pc := 23) (k := 2) X (by decide +kernel) 4 rfl ?_
    obtain ⟨r3, er3, hf⟩ := bnd_e hf
    refine v_callV (pc := 24) (As := [.int l2]) (rest := [.int r2]) X (mt_Md_paceOf ok hi kl0 er3) ml_12_404 mv_Md_paceOf kl0 cls_12 rfl ⟨Nat.le_of_ble_eq_true rfl, Nat.le_of_ble_eq_true rfl⟩ rfl rfl (Nat.le_of_ble_eq_true rfl) (by decide +kernel) ?_
    change V E g tb ρ 6 27 [(4, .int r2), (3, .int x1), (0, .ref (ρ l0)), (1, .int l1), (2, .int l2)] [.int r3, .int r2] h
    refine v_icmp_ge (pc := 27) (off := 8) (tgt := 35) X (by decide +kernel) (by decide) (fun q5 => ?_) (fun q5 => ?_)
    · rw [if_pos q5] at hf
      refine v_aload_n (pc := 35) (k := 0) X (by decide +kernel) 2 rfl ?_
      refine v_iload_n (pc := 36) (k := 2) X (by decide +kernel) 4 rfl ?_
      obtain ⟨r4, er4, hf⟩ := bnd_e hf
      refine v_callV (pc := 37) (As := [.int l2]) (rest := []) X (mt_Md_paceOf ok hi kl0 er4) ml_12_404 mv_Md_paceOf kl0 cls_12 rfl ⟨Nat.le_of_ble_eq_true rfl, Nat.le_of_ble_eq_true rfl⟩ rfl rfl (Nat.le_of_ble_eq_true rfl) (by decide +kernel) ?_
      change V E g tb ρ 6 40 [(4, .int r2), (3, .int x1), (0, .ref (ρ l0)), (1, .int l1), (2, .int l2)] [.int r4] h
      refine v_sub [2, 3, 4, 1] rfl ?_
      exact vjb_Md_walks_40 ok hi X Y h l0 l1 l2 x1 r4 kl0 hf
    · rw [if_neg q5] at hf
      refine v_iload (pc := 30) (k := 4) X (by decide +kernel) 0 rfl ?_
      refine v_goto (pc := 32) (off := 8) (tgt := 40) X (by decide +kernel) (by decide) ?_
      refine v_sub [2, 3, 4, 1] rfl ?_
      exact vjb_Md_walks_40 ok hi X Y h l0 l1 l2 x1 r2 kl0 hf
def jb_Md_drinks_141 (tb : Tb) (h : Hp) (l0 : Nat) (l1 : Int32) (l3 : Int32) (l4 : Int32) (s0 : Int32) : Option (Hp) :=
  (rI tb h (lay tb l0 55) l3).bind fun x1 =>
  (wI tb h (lay tb l0 55) l3 (x1 - s0)).bind fun h2 =>
  (rI tb h2 (lay tb l0 60) (((6 : Int32) * l1) + l4)).bind fun x3 =>
  (wI tb h2 (lay tb l0 60) (((6 : Int32) * l1) + l4) (x3 - s0)).bind fun h4 =>
  (wI tb h4 (lay tb l0 59) l3 s0).bind fun h5 =>
  (rI tb h5 (lay tb l0 63) l1).bind fun x6 =>
  (wI tb h5 (lay tb l0 63) l1 (x6 + s0)).bind fun h7 =>
  some h7
def jb_Md_drinks_105 (tb : Tb) (h : Hp) (l0 : Nat) (l1 : Int32) (l3 : Int32) (l4 : Int32) (s0 : Int32) : Option (Hp) :=
  (rI tb h (lay tb l0 60) (((6 : Int32) * l1) + l4)).bind fun x1 =>
  if s0 ≤ x1 then (
    jb_Md_drinks_141 tb h l0 l1 l3 l4 s0
  ) else (
    (rI tb h (lay tb l0 60) (((6 : Int32) * l1) + l4)).bind fun x2 =>
    jb_Md_drinks_141 tb h l0 l1 l3 l4 x2
  )
def f_Md_drinks (tb : Tb) (h : Hp) (l0 : Nat) (l1 : Int32) (l2 : Int32) : Option (Hp) :=
  nmd (((6 : Int32) * l1) + l2) fun x1 =>
  (rI tb h (lay tb l0 54) x1).bind fun x2 =>
  (f_Md_troughAt tb h l0 x2).bind fun r3 =>
  (wI tb h (lay tb l0 59) x1 (0 : Int32)).bind fun h4 =>
  (rI tb h4 (lay tb l0 58) x1).bind fun x5 =>
  if x5 = (0 : Int32) then (
    some h4
  ) else (
    if (h4.1 l0 71) = (0 : Int32) then (
      if r3 < (0 : Int32) then (
        some h4
      ) else (
        (rI tb h4 (lay tb l0 55) x1).bind fun x6 =>
        if x6 = (0 : Int32) then (
          some h4
        ) else (
          (rI tb h4 (lay tb l0 60) (((6 : Int32) * l1) + r3)).bind fun x7 =>
          if x7 = (0 : Int32) then (
            some h4
          ) else (
            (f_Md_boundLaw tb h4 l0 l1 (1 : Int32) l2 (9 : Int32)).bind fun r8 =>
            (rI tb r8.2 (lay tb l0 55) x1).bind fun x9 =>
            if r8.1 ≤ x9 then (
              jb_Md_drinks_105 tb r8.2 l0 l1 x1 r3 r8.1
            ) else (
              (rI tb r8.2 (lay tb l0 55) x1).bind fun x10 =>
              jb_Md_drinks_105 tb r8.2 l0 l1 x1 r3 x10
            )
          )
        )
      )
    ) else (
      some h4
    )
  )
set_option maxRecDepth 4000 in
set_option maxHeartbeats 1000000 in
theorem vjb_Md_drinks_141 {E : En} {g : Gl} {tb : Tb} {ρ : Nat → Nat} (ok : TbOK tb) (hi : inj tb ρ) {r : Hp} (X : CX E g tb ρ prog_14_method_62_code 6 RC12 4 98) (Y : CQ E g tb ρ none (none) r) (h : Hp) (l0 : Nat) (l1 : Int32) (l3 : Int32) (l4 : Int32) (s0 : Int32) (kl0 : kd tb l0 = 12) (hf : jb_Md_drinks_141 tb h l0 l1 l3 l4 s0 = some r) : V E g tb ρ 6 141 [(0, .ref (ρ l0)), (1, .int l1), (3, .int l3), (4, .int l4)] [.int s0] h := by
  unfold jb_Md_drinks_141 at hf
  refine v_istore (pc := 141) (k := 5) (lv' := [(5, .int s0), (0, .ref (ρ l0)), (1, .int l1), (3, .int l3), (4, .int l4)]) X (by decide +kernel) (Nat.le_of_ble_eq_true rfl) rfl ?_
  refine v_aload_n (pc := 143) (k := 0) X (by decide +kernel) 1 rfl ?_
  refine v_geta (pc := 144) X fl_12_97 kl0 fk_12_55 (by decide +kernel) ?_
  refine v_iload_n (pc := 147) (k := 3) X (by decide +kernel) 3 rfl ?_
  refine v_dup2 (pc := 148) X (by decide +kernel) rfl rfl ?_
  obtain ⟨x1, ex1, hf⟩ := bnd_e hf
  refine v_iald (pc := 149) X (ly_12_55 ok kl0) ex1 (by decide +kernel) ?_
  refine v_iload (pc := 150) (k := 5) X (by decide +kernel) 0 rfl ?_
  refine v_isub (pc := 152) X (by decide +kernel) ?_
  obtain ⟨h2, eh2, hf⟩ := bnd_e hf
  refine v_iast (pc := 153) X (ly_12_55 ok kl0) eh2 (by decide +kernel) ?_
  refine v_aload_n (pc := 154) (k := 0) X (by decide +kernel) 1 rfl ?_
  refine v_geta (pc := 155) X fl_12_112 kl0 fk_12_60 (by decide +kernel) ?_
  refine v_bipush (pc := 158) (n := 6) X (by decide +kernel) bi_6 ?_
  refine v_iload_n (pc := 160) (k := 1) X (by decide +kernel) 2 rfl ?_
  refine v_imul (pc := 161) X (by decide +kernel) ?_
  refine v_iload (pc := 162) (k := 4) X (by decide +kernel) 4 rfl ?_
  refine v_iadd (pc := 164) X (by decide +kernel) ?_
  refine v_dup2 (pc := 165) X (by decide +kernel) rfl rfl ?_
  obtain ⟨x3, ex3, hf⟩ := bnd_e hf
  refine v_iald (pc := 166) X (ly_12_60 ok kl0) ex3 (by decide +kernel) ?_
  refine v_iload (pc := 167) (k := 5) X (by decide +kernel) 0 rfl ?_
  refine v_isub (pc := 169) X (by decide +kernel) ?_
  obtain ⟨h4, eh4, hf⟩ := bnd_e hf
  refine v_iast (pc := 170) X (ly_12_60 ok kl0) eh4 (by decide +kernel) ?_
  refine v_aload_n (pc := 171) (k := 0) X (by decide +kernel) 1 rfl ?_
  refine v_geta (pc := 172) X fl_12_109 kl0 fk_12_59 (by decide +kernel) ?_
  refine v_iload_n (pc := 175) (k := 3) X (by decide +kernel) 3 rfl ?_
  refine v_iload (pc := 176) (k := 5) X (by decide +kernel) 0 rfl ?_
  obtain ⟨h5, eh5, hf⟩ := bnd_e hf
  refine v_iast (pc := 178) X (ly_12_59 ok kl0) eh5 (by decide +kernel) ?_
  refine v_aload_n (pc := 179) (k := 0) X (by decide +kernel) 1 rfl ?_
  refine v_geta (pc := 180) X fl_12_121 kl0 fk_12_63 (by decide +kernel) ?_
  refine v_iload_n (pc := 183) (k := 1) X (by decide +kernel) 2 rfl ?_
  refine v_dup2 (pc := 184) X (by decide +kernel) rfl rfl ?_
  obtain ⟨x6, ex6, hf⟩ := bnd_e hf
  refine v_iald (pc := 185) X (ly_12_63 ok kl0) ex6 (by decide +kernel) ?_
  refine v_iload (pc := 186) (k := 5) X (by decide +kernel) 0 rfl ?_
  refine v_iadd (pc := 188) X (by decide +kernel) ?_
  obtain ⟨h7, eh7, hf⟩ := bnd_e hf
  refine v_iast (pc := 189) X (ly_12_63 ok kl0) eh7 (by decide +kernel) ?_
  cases hf
  exact v_vret X Y (by decide +kernel) rfl rfl
set_option maxRecDepth 4000 in
set_option maxHeartbeats 1000000 in
theorem vjb_Md_drinks_105 {E : En} {g : Gl} {tb : Tb} {ρ : Nat → Nat} (ok : TbOK tb) (hi : inj tb ρ) {r : Hp} (X : CX E g tb ρ prog_14_method_62_code 6 RC12 4 98) (Y : CQ E g tb ρ none (none) r) (h : Hp) (l0 : Nat) (l1 : Int32) (l3 : Int32) (l4 : Int32) (s0 : Int32) (kl0 : kd tb l0 = 12) (hf : jb_Md_drinks_105 tb h l0 l1 l3 l4 s0 = some r) : V E g tb ρ 6 105 [(0, .ref (ρ l0)), (1, .int l1), (3, .int l3), (4, .int l4)] [.int s0] h := by
  unfold jb_Md_drinks_105 at hf
  refine v_istore (pc := 105) (k := 5) (lv' := [(5, .int s0), (0, .ref (ρ l0)), (1, .int l1), (3, .int l3), (4, .int l4)]) X (by decide +kernel) (Nat.le_of_ble_eq_true rfl) rfl ?_
  refine v_iload (pc := 107) (k := 5) X (by decide +kernel) 0 rfl ?_
  refine v_aload_n (pc := 109) (k := 0) X (by decide +kernel) 1 rfl ?_
  refine v_geta (pc := 110) X fl_12_112 kl0 fk_12_60 (by decide +kernel) ?_
  refine v_bipush (pc := 113) (n := 6) X (by decide +kernel) bi_6 ?_
  refine v_iload_n (pc := 115) (k := 1) X (by decide +kernel) 2 rfl ?_
  refine v_imul (pc := 116) X (by decide +kernel) ?_
  refine v_iload (pc := 117) (k := 4) X (by decide +kernel) 4 rfl ?_
  refine v_iadd (pc := 119) X (by decide +kernel) ?_
  obtain ⟨x1, ex1, hf⟩ := bnd_e hf
  refine v_iald (pc := 120) X (ly_12_60 ok kl0) ex1 (by decide +kernel) ?_
  refine v_icmp_le (pc := 121) (off := 18) (tgt := 139) X (by decide +kernel) (by decide) (fun q3 => ?_) (fun q3 => ?_)
  · rw [if_pos q3] at hf
    refine v_iload (pc := 139) (k := 5) X (by decide +kernel) 0 rfl ?_
    refine v_sub [1, 2, 3, 4] rfl ?_
    exact vjb_Md_drinks_141 ok hi X Y h l0 l1 l3 l4 s0 kl0 hf
  · rw [if_neg q3] at hf
    refine v_aload_n (pc := 124) (k := 0) X (by decide +kernel) 1 rfl ?_
    refine v_geta (pc := 125) X fl_12_112 kl0 fk_12_60 (by decide +kernel) ?_
    refine v_bipush (pc := 128) (n := 6) X (by decide +kernel) bi_6 ?_
    refine v_iload_n (pc := 130) (k := 1) X (by decide +kernel) 2 rfl ?_
    refine v_imul (pc := 131) X (by decide +kernel) ?_
    refine v_iload (pc := 132) (k := 4) X (by decide +kernel) 4 rfl ?_
    refine v_iadd (pc := 134) X (by decide +kernel) ?_
    obtain ⟨x2, ex2, hf⟩ := bnd_e hf
    refine v_iald (pc := 135) X (ly_12_60 ok kl0) ex2 (by decide +kernel) ?_
    refine v_goto (pc := 136) (off := 5) (tgt := 141) X (by decide +kernel) (by decide) ?_
    refine v_sub [1, 2, 3, 4] rfl ?_
    exact vjb_Md_drinks_141 ok hi X Y h l0 l1 l3 l4 x2 kl0 hf
set_option maxRecDepth 4000 in
set_option maxHeartbeats 1000000 in
theorem mt_Md_drinks {g : Gl} {tb : Tb} {ρ : Nat → Nat} (ok : TbOK tb) (hi : inj tb ρ) {h : Hp} {l0 : Nat} {l1 : Int32} {l2 : Int32} (kl0 : kd tb l0 = 12) {r : Hp} (hf : f_Md_drinks tb h l0 l1 l2 = some r) : MT g y_Md_drinks prog_14_method_62_code 6 none 4 98 tb ρ [.ref (ρ l0), .int l1, .int l2] h (none) r := by
  refine mt_intro (by decide +kernel) ok hi (Nat.le_of_ble_eq_true rfl) (fun E X Y => ?_)
  change V E g tb ρ 6 0 [(0, .ref (ρ l0)), (1, .int l1), (2, .int l2)] [] h
  unfold f_Md_drinks at hf
  refine v_bipush (pc := 0) (n := 6) X (by decide +kernel) bi_6 ?_
  refine v_iload_n (pc := 2) (k := 1) X (by decide +kernel) 1 rfl ?_
  refine v_imul (pc := 3) X (by decide +kernel) ?_
  refine v_iload_n (pc := 4) (k := 2) X (by decide +kernel) 2 rfl ?_
  refine v_iadd (pc := 5) X (by decide +kernel) ?_
  obtain ⟨x1, ex1, hf⟩ := nmd_e hf
  refine v_nmi ex1 ?_
  refine v_istore_n (pc := 6) (k := 3) (lv' := [(3, .int x1), (0, .ref (ρ l0)), (1, .int l1), (2, .int l2)]) X (by decide +kernel) (Nat.le_of_ble_eq_true rfl) rfl ?_
  refine v_aload_n (pc := 7) (k := 0) X (by decide +kernel) 1 rfl ?_
  refine v_aload_n (pc := 8) (k := 0) X (by decide +kernel) 1 rfl ?_
  refine v_geta (pc := 9) X fl_12_94 kl0 fk_12_54 (by decide +kernel) ?_
  refine v_iload_n (pc := 12) (k := 3) X (by decide +kernel) 0 rfl ?_
  obtain ⟨x2, ex2, hf⟩ := bnd_e hf
  refine v_iald (pc := 13) X (ly_12_54 ok kl0) ex2 (by decide +kernel) ?_
  obtain ⟨r3, er3, hf⟩ := bnd_e hf
  refine v_callV (pc := 14) (As := [.int x2]) (rest := []) X (mt_Md_troughAt ok hi kl0 er3) ml_12_401 mv_Md_troughAt kl0 cls_12 rfl ⟨Nat.le_of_ble_eq_true rfl, Nat.le_of_ble_eq_true rfl⟩ rfl rfl (Nat.le_of_ble_eq_true rfl) (by decide +kernel) ?_
  change V E g tb ρ 6 17 [(3, .int x1), (0, .ref (ρ l0)), (1, .int l1), (2, .int l2)] [.int r3] h
  refine v_istore (pc := 17) (k := 4) (lv' := [(4, .int r3), (3, .int x1), (0, .ref (ρ l0)), (1, .int l1), (2, .int l2)]) X (by decide +kernel) (Nat.le_of_ble_eq_true rfl) rfl ?_
  refine v_aload_n (pc := 19) (k := 0) X (by decide +kernel) 2 rfl ?_
  refine v_geta (pc := 20) X fl_12_109 kl0 fk_12_59 (by decide +kernel) ?_
  refine v_iload_n (pc := 23) (k := 3) X (by decide +kernel) 1 rfl ?_
  refine v_iconst (pc := 24) (n := 0) X (by decide +kernel) ic_0 ?_
  obtain ⟨h4, eh4, hf⟩ := bnd_e hf
  refine v_iast (pc := 25) X (ly_12_59 ok kl0) eh4 (by decide +kernel) ?_
  refine v_aload_n (pc := 26) (k := 0) X (by decide +kernel) 2 rfl ?_
  refine v_geta (pc := 27) X fl_12_106 kl0 fk_12_58 (by decide +kernel) ?_
  refine v_iload_n (pc := 30) (k := 3) X (by decide +kernel) 1 rfl ?_
  obtain ⟨x5, ex5, hf⟩ := bnd_e hf
  refine v_zald (pc := 31) X (ly_12_58 ok kl0) ex5 (by decide +kernel) ?_
  refine v_if_eq (pc := 32) (off := 39) (tgt := 71) X (by decide +kernel) (by decide) (fun q16 => ?_) (fun q16 => ?_)
  · rw [if_pos q16] at hf
    cases hf
    exact v_vret X Y (by decide +kernel) rfl rfl
  · rw [if_neg q16] at hf
    refine v_aload_n (pc := 35) (k := 0) X (by decide +kernel) 2 rfl ?_
    refine v_geti (pc := 36) X fl_12_392 kl0 rfl (by decide +kernel) ?_
    refine v_if_ne (pc := 39) (off := 32) (tgt := 71) X (by decide +kernel) (by decide) (fun q15 => ?_) (fun q15 => ?_)
    · rw [if_neg q15] at hf
      cases hf
      exact v_vret X Y (by decide +kernel) rfl rfl
    · rw [if_pos q15] at hf
      refine v_iload (pc := 42) (k := 4) X (by decide +kernel) 0 rfl ?_
      refine v_if_lt (pc := 44) (off := 27) (tgt := 71) X (by decide +kernel) (by decide) (fun q14 => ?_) (fun q14 => ?_)
      · rw [if_pos q14] at hf
        cases hf
        exact v_vret X Y (by decide +kernel) rfl rfl
      · rw [if_neg q14] at hf
        refine v_aload_n (pc := 47) (k := 0) X (by decide +kernel) 2 rfl ?_
        refine v_geta (pc := 48) X fl_12_97 kl0 fk_12_55 (by decide +kernel) ?_
        refine v_iload_n (pc := 51) (k := 3) X (by decide +kernel) 1 rfl ?_
        obtain ⟨x6, ex6, hf⟩ := bnd_e hf
        refine v_iald (pc := 52) X (ly_12_55 ok kl0) ex6 (by decide +kernel) ?_
        refine v_if_eq (pc := 53) (off := 18) (tgt := 71) X (by decide +kernel) (by decide) (fun q13 => ?_) (fun q13 => ?_)
        · rw [if_pos q13] at hf
          cases hf
          exact v_vret X Y (by decide +kernel) rfl rfl
        · rw [if_neg q13] at hf
          refine v_aload_n (pc := 56) (k := 0) X (by decide +kernel) 2 rfl ?_
          refine v_geta (pc := 57) X fl_12_112 kl0 fk_12_60 (by decide +kernel) ?_
          refine v_bipush (pc := 60) (n := 6) X (by decide +kernel) bi_6 ?_
          refine v_iload_n (pc := 62) (k := 1) X (by decide +kernel) 3 rfl ?_
          refine v_imul (pc := 63) X (by decide +kernel) ?_
          refine v_iload (pc := 64) (k := 4) X (by decide +kernel) 0 rfl ?_
          refine v_iadd (pc := 66) X (by decide +kernel) ?_
          obtain ⟨x7, ex7, hf⟩ := bnd_e hf
          refine v_iald (pc := 67) X (ly_12_60 ok kl0) ex7 (by decide +kernel) ?_
          refine v_if_ne (pc := 68) (off := 4) (tgt := 72) X (by decide +kernel) (by decide) (fun q12 => ?_) (fun q12 => ?_)
          · rw [if_neg q12] at hf
            refine v_aload_n (pc := 72) (k := 0) X (by decide +kernel) 2 rfl ?_
            refine v_iload_n (pc := 73) (k := 1) X (by decide +kernel) 3 rfl ?_
            refine v_iconst (pc := 74) (n := 1) X (by decide +kernel) ic_1 ?_
            refine v_iload_n (pc := 75) (k := 2) X (by decide +kernel) 4 rfl ?_
            refine v_bipush (pc := 76) (n := 9) X (by decide +kernel) bi_9 ?_
            obtain ⟨r8, er8, hf⟩ := bnd_e hf
            refine v_callV (pc := 78) (As := [.int l1, .int (1 : Int32), .int l2, .int (9 : Int32)]) (rest := []) X (mt_Md_boundLaw ok hi kl0 er8) ml_12_434 mv_Md_boundLaw kl0 cls_12 rfl ⟨Nat.le_of_ble_eq_true rfl, Nat.le_of_ble_eq_true rfl⟩ rfl rfl (Nat.le_of_ble_eq_true rfl) (by decide +kernel) ?_
            change V E g tb ρ 6 81 [(4, .int r3), (3, .int x1), (0, .ref (ρ l0)), (1, .int l1), (2, .int l2)] [.int r8.1] r8.2
            refine v_istore (pc := 81) (k := 5) (lv' := [(5, .int r8.1), (4, .int r3), (3, .int x1), (0, .ref (ρ l0)), (1, .int l1), (2, .int l2)]) X (by decide +kernel) (Nat.le_of_ble_eq_true rfl) rfl ?_
            refine v_iload (pc := 83) (k := 5) X (by decide +kernel) 0 rfl ?_
            refine v_aload_n (pc := 85) (k := 0) X (by decide +kernel) 3 rfl ?_
            refine v_geta (pc := 86) X fl_12_97 kl0 fk_12_55 (by decide +kernel) ?_
            refine v_iload_n (pc := 89) (k := 3) X (by decide +kernel) 2 rfl ?_
            obtain ⟨x9, ex9, hf⟩ := bnd_e hf
            refine v_iald (pc := 90) X (ly_12_55 ok kl0) ex9 (by decide +kernel) ?_
            refine v_icmp_le (pc := 91) (off := 12) (tgt := 103) X (by decide +kernel) (by decide) (fun q11 => ?_) (fun q11 => ?_)
            · rw [if_pos q11] at hf
              refine v_iload (pc := 103) (k := 5) X (by decide +kernel) 0 rfl ?_
              refine v_sub [3, 4, 2, 1] rfl ?_
              exact vjb_Md_drinks_105 ok hi X Y r8.2 l0 l1 x1 r3 r8.1 kl0 hf
            · rw [if_neg q11] at hf
              refine v_aload_n (pc := 94) (k := 0) X (by decide +kernel) 3 rfl ?_
              refine v_geta (pc := 95) X fl_12_97 kl0 fk_12_55 (by decide +kernel) ?_
              refine v_iload_n (pc := 98) (k := 3) X (by decide +kernel) 2 rfl ?_
              obtain ⟨x10, ex10, hf⟩ := bnd_e hf
              refine v_iald (pc := 99) X (ly_12_55 ok kl0) ex10 (by decide +kernel) ?_
              refine v_goto (pc := 100) (off := 5) (tgt := 105) X (by decide +kernel) (by decide) ?_
              refine v_sub [3, 4, 2, 1] rfl ?_
              exact vjb_Md_drinks_105 ok hi X Y r8.2 l0 l1 x1 r3 x10 kl0 hf
          · rw [if_pos q12] at hf
            cases hf
            exact v_vret X Y (by decide +kernel) rfl rfl
def f_Md_more (tb : Tb) (h : Hp) (l0 : Nat) (l1 : Int32) (l2 : Int32) : Int32 :=
  if (l1 + l2) ≤ (9999 : Int32) then (
    l1 + l2
  ) else (
    (9999 : Int32)
  )
set_option maxRecDepth 4000 in
set_option maxHeartbeats 1000000 in
theorem mt_Md_more {g : Gl} {tb : Tb} {ρ : Nat → Nat} (ok : TbOK tb) (hi : inj tb ρ) {h : Hp} {l0 : Nat} {l1 : Int32} {l2 : Int32} (kl0 : kd tb l0 = 12) {r : Int32} (hf : f_Md_more tb h l0 l1 l2 = r) : MT g y_Md_more prog_14_method_63_code 3 (some .int) 0 0 tb ρ [.ref (ρ l0), .int l1, .int l2] h (some (.int r)) h := by
  refine mt_intro (by decide +kernel) ok hi (Nat.le_of_ble_eq_true rfl) (fun E X Y => ?_)
  change V E g tb ρ 3 0 [(0, .ref (ρ l0)), (1, .int l1), (2, .int l2)] [] h
  unfold f_Md_more at hf
  refine v_iload_n (pc := 0) (k := 1) X (by decide +kernel) 1 rfl ?_
  refine v_iload_n (pc := 1) (k := 2) X (by decide +kernel) 2 rfl ?_
  refine v_iadd (pc := 2) X (by decide +kernel) ?_
  refine v_sipush (pc := 3) (n := 9999) X (by decide +kernel) si_9999 ?_
  refine v_icmp_le (pc := 6) (off := 9) (tgt := 15) X (by decide +kernel) (by decide) (fun q1 => ?_) (fun q1 => ?_)
  · rw [if_pos q1] at hf
    refine v_iload_n (pc := 15) (k := 1) X (by decide +kernel) 1 rfl ?_
    refine v_iload_n (pc := 16) (k := 2) X (by decide +kernel) 2 rfl ?_
    refine v_iadd (pc := 17) X (by decide +kernel) ?_
    cases hf
    exact v_iret X Y (by decide +kernel) rfl rfl
  · rw [if_neg q1] at hf
    refine v_sipush (pc := 9) (n := 9999) X (by decide +kernel) si_9999 ?_
    refine v_goto (pc := 12) (off := 6) (tgt := 18) X (by decide +kernel) (by decide) ?_
    cases hf
    exact v_iret X Y (by decide +kernel) rfl rfl
def jb_Md_meets_185 (tb : Tb) (h : Hp) (l0 : Nat) (l1 : Int32) (l2 : Int32) (l3 : Int32) (l4 : Int32) (l5 : Int32) : Option (Hp) :=
  (rI tb h (lay tb l0 57) l4).bind fun x1 =>
  (f_Md_boundLaw tb h l0 l1 (2 : Int32) l2 (1 : Int32)).bind fun r2 =>
  nmd (f_Md_more tb r2.2 l0 x1 r2.1) fun r3 =>
  (wI tb r2.2 (lay tb l0 57) l4 r3).bind fun h4 =>
  (rI tb h4 (lay tb l0 57) l5).bind fun x5 =>
  (f_Md_boundLaw tb h4 l0 l1 (2 : Int32) l3 (1 : Int32)).bind fun r6 =>
  nmd (f_Md_more tb r6.2 l0 x5 r6.1) fun r7 =>
  (wI tb r6.2 (lay tb l0 57) l5 r7).bind fun h8 =>
  some h8
def f_Md_meets (tb : Tb) (h : Hp) (l0 : Nat) (l1 : Int32) (l2 : Int32) (l3 : Int32) : Option (Hp) :=
  nmd (((6 : Int32) * l1) + l2) fun x1 =>
  nmd (((6 : Int32) * l1) + l3) fun x2 =>
  (rI tb h (lay tb l0 58) x1).bind fun x3 =>
  if x3 = (0 : Int32) then (
    some h
  ) else (
    (rI tb h (lay tb l0 58) x2).bind fun x4 =>
    if x4 = (0 : Int32) then (
      some h
    ) else (
      (rI tb h (lay tb l0 54) x1).bind fun x5 =>
      (rI tb h (lay tb l0 54) x2).bind fun x6 =>
      if x5 = x6 then (
        (rI tb h (lay tb l0 30) l2).bind fun x7 =>
        (rI tb h (lay tb l0 30) l3).bind fun x8 =>
        if x7 = x8 then (
          some h
        ) else (
          (rI tb h (lay tb l0 30) l2).bind fun x9 =>
          (rI tb h (lay tb l0 30) l3).bind fun x10 =>
          (rI tb h (lay tb l0 30) l3).bind fun x11 =>
          (rI tb h (lay tb l0 30) l2).bind fun x12 =>
          nmd (((1 : Int32) <<< ((((4 : Int32) * x9) + x10) &&& 31)) ||| ((1 : Int32) <<< ((((4 : Int32) * x11) + x12) &&& 31))) fun x13 =>
          (rI tb h (lay tb l0 59) x1).bind fun x14 =>
          (rI tb h (lay tb l0 59) x2).bind fun x15 =>
          if (x14 + x15) ≤ (0 : Int32) then (
            (rI tb h (lay tb l0 61) l1).bind fun x16 =>
            (wI tb h (lay tb l0 61) l1 (x16 + (1 : Int32))).bind fun h17 =>
            (rI tb h17 (lay tb l0 66) l1).bind fun x18 =>
            (wI tb h17 (lay tb l0 66) l1 (x18 ||| x13)).bind fun h19 =>
            if (0 : Int32) ≤ (h19.1 l0 68) then (
              jb_Md_meets_185 tb h19 l0 l1 l2 l3 x1 x2
            ) else (
              (rI tb h19 (lay tb l0 54) x1).bind fun x20 =>
              nmd (pI h19 l0 68 x20) fun h21 =>
              jb_Md_meets_185 tb h21 l0 l1 l2 l3 x1 x2
            )
          ) else (
            (rI tb h (lay tb l0 62) l1).bind fun x23 =>
            (wI tb h (lay tb l0 62) l1 (x23 + (1 : Int32))).bind fun h24 =>
            (rI tb h24 (lay tb l0 65) l1).bind fun x25 =>
            (wI tb h24 (lay tb l0 65) l1 (x25 ||| x13)).bind fun h26 =>
            some h26
          )
        )
      ) else (
        some h
      )
    )
  )
set_option maxRecDepth 4000 in
set_option maxHeartbeats 1000000 in
theorem vjb_Md_meets_185 {E : En} {g : Gl} {tb : Tb} {ρ : Nat → Nat} (ok : TbOK tb) (hi : inj tb ρ) {r : Hp} (X : CX E g tb ρ prog_14_method_64_code 7 RC12 4 98) (Y : CQ E g tb ρ none (none) r) (h : Hp) (l0 : Nat) (l1 : Int32) (l2 : Int32) (l3 : Int32) (l4 : Int32) (l5 : Int32) (kl0 : kd tb l0 = 12) (hf : jb_Md_meets_185 tb h l0 l1 l2 l3 l4 l5 = some r) : V E g tb ρ 7 185 [(0, .ref (ρ l0)), (1, .int l1), (2, .int l2), (3, .int l3), (4, .int l4), (5, .int l5)] [] h := by
  unfold jb_Md_meets_185 at hf
  refine v_aload_n (pc := 185) (k := 0) X (by decide +kernel) 0 rfl ?_
  refine v_geta (pc := 186) X fl_12_103 kl0 fk_12_57 (by decide +kernel) ?_
  refine v_iload (pc := 189) (k := 4) X (by decide +kernel) 4 rfl ?_
  refine v_aload_n (pc := 191) (k := 0) X (by decide +kernel) 0 rfl ?_
  refine v_aload_n (pc := 192) (k := 0) X (by decide +kernel) 0 rfl ?_
  refine v_geta (pc := 193) X fl_12_103 kl0 fk_12_57 (by decide +kernel) ?_
  refine v_iload (pc := 196) (k := 4) X (by decide +kernel) 4 rfl ?_
  obtain ⟨x1, ex1, hf⟩ := bnd_e hf
  refine v_iald (pc := 198) X (ly_12_57 ok kl0) ex1 (by decide +kernel) ?_
  refine v_aload_n (pc := 199) (k := 0) X (by decide +kernel) 0 rfl ?_
  refine v_iload_n (pc := 200) (k := 1) X (by decide +kernel) 1 rfl ?_
  refine v_iconst (pc := 201) (n := 2) X (by decide +kernel) ic_2 ?_
  refine v_iload_n (pc := 202) (k := 2) X (by decide +kernel) 2 rfl ?_
  refine v_iconst (pc := 203) (n := 1) X (by decide +kernel) ic_1 ?_
  obtain ⟨r2, er2, hf⟩ := bnd_e hf
  refine v_callV (pc := 204) (As := [.int l1, .int (2 : Int32), .int l2, .int (1 : Int32)]) (rest := [.int x1, .ref (ρ l0), .int l4, .ref (ρ (lay tb l0 57))]) X (mt_Md_boundLaw ok hi kl0 er2) ml_12_434 mv_Md_boundLaw kl0 cls_12 rfl ⟨Nat.le_of_ble_eq_true rfl, Nat.le_of_ble_eq_true rfl⟩ rfl rfl (Nat.le_of_ble_eq_true rfl) (by decide +kernel) ?_
  change V E g tb ρ 7 207 [(0, .ref (ρ l0)), (1, .int l1), (2, .int l2), (3, .int l3), (4, .int l4), (5, .int l5)] [.int r2.1, .int x1, .ref (ρ l0), .int l4, .ref (ρ (lay tb l0 57))] r2.2
  obtain ⟨r3, er3, hf⟩ := nmd_e hf
  refine v_callV (pc := 207) (As := [.int x1, .int r2.1]) (rest := [.int l4, .ref (ρ (lay tb l0 57))]) X (mt_Md_more ok hi kl0 er3.symm) ml_12_441 mv_Md_more kl0 cls_12 rfl ⟨Nat.le_of_ble_eq_true rfl, Nat.le_of_ble_eq_true rfl⟩ rfl rfl (Nat.le_of_ble_eq_true rfl) (by decide +kernel) ?_
  change V E g tb ρ 7 210 [(0, .ref (ρ l0)), (1, .int l1), (2, .int l2), (3, .int l3), (4, .int l4), (5, .int l5)] [.int r3, .int l4, .ref (ρ (lay tb l0 57))] r2.2
  obtain ⟨h4, eh4, hf⟩ := bnd_e hf
  refine v_iast (pc := 210) X (ly_12_57 ok kl0) eh4 (by decide +kernel) ?_
  refine v_aload_n (pc := 211) (k := 0) X (by decide +kernel) 0 rfl ?_
  refine v_geta (pc := 212) X fl_12_103 kl0 fk_12_57 (by decide +kernel) ?_
  refine v_iload (pc := 215) (k := 5) X (by decide +kernel) 5 rfl ?_
  refine v_aload_n (pc := 217) (k := 0) X (by decide +kernel) 0 rfl ?_
  refine v_aload_n (pc := 218) (k := 0) X (by decide +kernel) 0 rfl ?_
  refine v_geta (pc := 219) X fl_12_103 kl0 fk_12_57 (by decide +kernel) ?_
  refine v_iload (pc := 222) (k := 5) X (by decide +kernel) 5 rfl ?_
  obtain ⟨x5, ex5, hf⟩ := bnd_e hf
  refine v_iald (pc := 224) X (ly_12_57 ok kl0) ex5 (by decide +kernel) ?_
  refine v_aload_n (pc := 225) (k := 0) X (by decide +kernel) 0 rfl ?_
  refine v_iload_n (pc := 226) (k := 1) X (by decide +kernel) 1 rfl ?_
  refine v_iconst (pc := 227) (n := 2) X (by decide +kernel) ic_2 ?_
  refine v_iload_n (pc := 228) (k := 3) X (by decide +kernel) 3 rfl ?_
  refine v_iconst (pc := 229) (n := 1) X (by decide +kernel) ic_1 ?_
  obtain ⟨r6, er6, hf⟩ := bnd_e hf
  refine v_callV (pc := 230) (As := [.int l1, .int (2 : Int32), .int l3, .int (1 : Int32)]) (rest := [.int x5, .ref (ρ l0), .int l5, .ref (ρ (lay tb l0 57))]) X (mt_Md_boundLaw ok hi kl0 er6) ml_12_434 mv_Md_boundLaw kl0 cls_12 rfl ⟨Nat.le_of_ble_eq_true rfl, Nat.le_of_ble_eq_true rfl⟩ rfl rfl (Nat.le_of_ble_eq_true rfl) (by decide +kernel) ?_
  change V E g tb ρ 7 233 [(0, .ref (ρ l0)), (1, .int l1), (2, .int l2), (3, .int l3), (4, .int l4), (5, .int l5)] [.int r6.1, .int x5, .ref (ρ l0), .int l5, .ref (ρ (lay tb l0 57))] r6.2
  obtain ⟨r7, er7, hf⟩ := nmd_e hf
  refine v_callV (pc := 233) (As := [.int x5, .int r6.1]) (rest := [.int l5, .ref (ρ (lay tb l0 57))]) X (mt_Md_more ok hi kl0 er7.symm) ml_12_441 mv_Md_more kl0 cls_12 rfl ⟨Nat.le_of_ble_eq_true rfl, Nat.le_of_ble_eq_true rfl⟩ rfl rfl (Nat.le_of_ble_eq_true rfl) (by decide +kernel) ?_
  change V E g tb ρ 7 236 [(0, .ref (ρ l0)), (1, .int l1), (2, .int l2), (3, .int l3), (4, .int l4), (5, .int l5)] [.int r7, .int l5, .ref (ρ (lay tb l0 57))] r6.2
  obtain ⟨h8, eh8, hf⟩ := bnd_e hf
  refine v_iast (pc := 236) X (ly_12_57 ok kl0) eh8 (by decide +kernel) ?_
  cases hf
  exact v_vret X Y (by decide +kernel) rfl rfl
set_option maxRecDepth 4000 in
set_option maxHeartbeats 1000000 in
theorem mt_Md_meets {g : Gl} {tb : Tb} {ρ : Nat → Nat} (ok : TbOK tb) (hi : inj tb ρ) {h : Hp} {l0 : Nat} {l1 : Int32} {l2 : Int32} {l3 : Int32} (kl0 : kd tb l0 = 12) {r : Hp} (hf : f_Md_meets tb h l0 l1 l2 l3 = some r) : MT g y_Md_meets prog_14_method_64_code 7 none 4 98 tb ρ [.ref (ρ l0), .int l1, .int l2, .int l3] h (none) r := by
  refine mt_intro (by decide +kernel) ok hi (Nat.le_of_ble_eq_true rfl) (fun E X Y => ?_)
  change V E g tb ρ 7 0 [(0, .ref (ρ l0)), (1, .int l1), (2, .int l2), (3, .int l3)] [] h
  unfold f_Md_meets at hf
  refine v_bipush (pc := 0) (n := 6) X (by decide +kernel) bi_6 ?_
  refine v_iload_n (pc := 2) (k := 1) X (by decide +kernel) 1 rfl ?_
  refine v_imul (pc := 3) X (by decide +kernel) ?_
  refine v_iload_n (pc := 4) (k := 2) X (by decide +kernel) 2 rfl ?_
  refine v_iadd (pc := 5) X (by decide +kernel) ?_
  obtain ⟨x1, ex1, hf⟩ := nmd_e hf
  refine v_nmi ex1 ?_
  refine v_istore (pc := 6) (k := 4) (lv' := [(4, .int x1), (0, .ref (ρ l0)), (1, .int l1), (2, .int l2), (3, .int l3)]) X (by decide +kernel) (Nat.le_of_ble_eq_true rfl) rfl ?_
  refine v_bipush (pc := 8) (n := 6) X (by decide +kernel) bi_6 ?_
  refine v_iload_n (pc := 10) (k := 1) X (by decide +kernel) 2 rfl ?_
  refine v_imul (pc := 11) X (by decide +kernel) ?_
  refine v_iload_n (pc := 12) (k := 3) X (by decide +kernel) 4 rfl ?_
  refine v_iadd (pc := 13) X (by decide +kernel) ?_
  obtain ⟨x2, ex2, hf⟩ := nmd_e hf
  refine v_nmi ex2 ?_
  refine v_istore (pc := 14) (k := 5) (lv' := [(5, .int x2), (4, .int x1), (0, .ref (ρ l0)), (1, .int l1), (2, .int l2), (3, .int l3)]) X (by decide +kernel) (Nat.le_of_ble_eq_true rfl) rfl ?_
  refine v_aload_n (pc := 16) (k := 0) X (by decide +kernel) 2 rfl ?_
  refine v_geta (pc := 17) X fl_12_106 kl0 fk_12_58 (by decide +kernel) ?_
  refine v_iload (pc := 20) (k := 4) X (by decide +kernel) 1 rfl ?_
  obtain ⟨x3, ex3, hf⟩ := bnd_e hf
  refine v_zald (pc := 22) X (ly_12_58 ok kl0) ex3 (by decide +kernel) ?_
  refine v_if_eq (pc := 23) (off := 45) (tgt := 68) X (by decide +kernel) (by decide) (fun q31 => ?_) (fun q31 => ?_)
  · rw [if_pos q31] at hf
    cases hf
    exact v_vret X Y (by decide +kernel) rfl rfl
  · rw [if_neg q31] at hf
    refine v_aload_n (pc := 26) (k := 0) X (by decide +kernel) 2 rfl ?_
    refine v_geta (pc := 27) X fl_12_106 kl0 fk_12_58 (by decide +kernel) ?_
    refine v_iload (pc := 30) (k := 5) X (by decide +kernel) 0 rfl ?_
    obtain ⟨x4, ex4, hf⟩ := bnd_e hf
    refine v_zald (pc := 32) X (ly_12_58 ok kl0) ex4 (by decide +kernel) ?_
    refine v_if_eq (pc := 33) (off := 35) (tgt := 68) X (by decide +kernel) (by decide) (fun q30 => ?_) (fun q30 => ?_)
    · rw [if_pos q30] at hf
      cases hf
      exact v_vret X Y (by decide +kernel) rfl rfl
    · rw [if_neg q30] at hf
      refine v_aload_n (pc := 36) (k := 0) X (by decide +kernel) 2 rfl ?_
      refine v_geta (pc := 37) X fl_12_94 kl0 fk_12_54 (by decide +kernel) ?_
      refine v_iload (pc := 40) (k := 4) X (by decide +kernel) 1 rfl ?_
      obtain ⟨x5, ex5, hf⟩ := bnd_e hf
      refine v_iald (pc := 42) X (ly_12_54 ok kl0) ex5 (by decide +kernel) ?_
      refine v_aload_n (pc := 43) (k := 0) X (by decide +kernel) 2 rfl ?_
      refine v_geta (pc := 44) X fl_12_94 kl0 fk_12_54 (by decide +kernel) ?_
      refine v_iload (pc := 47) (k := 5) X (by decide +kernel) 0 rfl ?_
      obtain ⟨x6, ex6, hf⟩ := bnd_e hf
      refine v_iald (pc := 49) X (ly_12_54 ok kl0) ex6 (by decide +kernel) ?_
      refine v_icmp_ne (pc := 50) (off := 18) (tgt := 68) X (by decide +kernel) (by decide) (fun q29 => ?_) (fun q29 => ?_)
      · rw [if_neg q29] at hf
        cases hf
        exact v_vret X Y (by decide +kernel) rfl rfl
      · rw [if_pos q29] at hf
        refine v_aload_n (pc := 53) (k := 0) X (by decide +kernel) 2 rfl ?_
        refine v_geta (pc := 54) X fl_12_42 kl0 fk_12_30 (by decide +kernel) ?_
        refine v_iload_n (pc := 57) (k := 2) X (by decide +kernel) 4 rfl ?_
        obtain ⟨x7, ex7, hf⟩ := bnd_e hf
        refine v_iald (pc := 58) X (ly_12_30 ok kl0) ex7 (by decide +kernel) ?_
        refine v_aload_n (pc := 59) (k := 0) X (by decide +kernel) 2 rfl ?_
        refine v_geta (pc := 60) X fl_12_42 kl0 fk_12_30 (by decide +kernel) ?_
        refine v_iload_n (pc := 63) (k := 3) X (by decide +kernel) 5 rfl ?_
        obtain ⟨x8, ex8, hf⟩ := bnd_e hf
        refine v_iald (pc := 64) X (ly_12_30 ok kl0) ex8 (by decide +kernel) ?_
        refine v_icmp_ne (pc := 65) (off := 4) (tgt := 69) X (by decide +kernel) (by decide) (fun q28 => ?_) (fun q28 => ?_)
        · rw [if_neg q28] at hf
          refine v_iconst (pc := 69) (n := 1) X (by decide +kernel) ic_1 ?_
          refine v_iconst (pc := 70) (n := 4) X (by decide +kernel) ic_4 ?_
          refine v_aload_n (pc := 71) (k := 0) X (by decide +kernel) 2 rfl ?_
          refine v_geta (pc := 72) X fl_12_42 kl0 fk_12_30 (by decide +kernel) ?_
          refine v_iload_n (pc := 75) (k := 2) X (by decide +kernel) 4 rfl ?_
          obtain ⟨x9, ex9, hf⟩ := bnd_e hf
          refine v_iald (pc := 76) X (ly_12_30 ok kl0) ex9 (by decide +kernel) ?_
          refine v_imul (pc := 77) X (by decide +kernel) ?_
          refine v_aload_n (pc := 78) (k := 0) X (by decide +kernel) 2 rfl ?_
          refine v_geta (pc := 79) X fl_12_42 kl0 fk_12_30 (by decide +kernel) ?_
          refine v_iload_n (pc := 82) (k := 3) X (by decide +kernel) 5 rfl ?_
          obtain ⟨x10, ex10, hf⟩ := bnd_e hf
          refine v_iald (pc := 83) X (ly_12_30 ok kl0) ex10 (by decide +kernel) ?_
          refine v_iadd (pc := 84) X (by decide +kernel) ?_
          refine v_ishl (pc := 85) X (by decide +kernel) ?_
          refine v_iconst (pc := 86) (n := 1) X (by decide +kernel) ic_1 ?_
          refine v_iconst (pc := 87) (n := 4) X (by decide +kernel) ic_4 ?_
          refine v_aload_n (pc := 88) (k := 0) X (by decide +kernel) 2 rfl ?_
          refine v_geta (pc := 89) X fl_12_42 kl0 fk_12_30 (by decide +kernel) ?_
          refine v_iload_n (pc := 92) (k := 3) X (by decide +kernel) 5 rfl ?_
          obtain ⟨x11, ex11, hf⟩ := bnd_e hf
          refine v_iald (pc := 93) X (ly_12_30 ok kl0) ex11 (by decide +kernel) ?_
          refine v_imul (pc := 94) X (by decide +kernel) ?_
          refine v_aload_n (pc := 95) (k := 0) X (by decide +kernel) 2 rfl ?_
          refine v_geta (pc := 96) X fl_12_42 kl0 fk_12_30 (by decide +kernel) ?_
          refine v_iload_n (pc := 99) (k := 2) X (by decide +kernel) 4 rfl ?_
          obtain ⟨x12, ex12, hf⟩ := bnd_e hf
          refine v_iald (pc := 100) X (ly_12_30 ok kl0) ex12 (by decide +kernel) ?_
          refine v_iadd (pc := 101) X (by decide +kernel) ?_
          refine v_ishl (pc := 102) X (by decide +kernel) ?_
          refine v_ior (pc := 103) X (by decide +kernel) ?_
          obtain ⟨x13, ex13, hf⟩ := nmd_e hf
          refine v_nmi ex13 ?_
          refine v_istore (pc := 104) (k := 6) (lv' := [(6, .int x13), (5, .int x2), (4, .int x1), (0, .ref (ρ l0)), (1, .int l1), (2, .int l2), (3, .int l3)]) X (by decide +kernel) (Nat.le_of_ble_eq_true rfl) rfl ?_
          refine v_aload_n (pc := 106) (k := 0) X (by decide +kernel) 3 rfl ?_
          refine v_geta (pc := 107) X fl_12_109 kl0 fk_12_59 (by decide +kernel) ?_
          refine v_iload (pc := 110) (k := 4) X (by decide +kernel) 2 rfl ?_
          obtain ⟨x14, ex14, hf⟩ := bnd_e hf
          refine v_iald (pc := 112) X (ly_12_59 ok kl0) ex14 (by decide +kernel) ?_
          refine v_aload_n (pc := 113) (k := 0) X (by decide +kernel) 3 rfl ?_
          refine v_geta (pc := 114) X fl_12_109 kl0 fk_12_59 (by decide +kernel) ?_
          refine v_iload (pc := 117) (k := 5) X (by decide +kernel) 1 rfl ?_
          obtain ⟨x15, ex15, hf⟩ := bnd_e hf
          refine v_iald (pc := 119) X (ly_12_59 ok kl0) ex15 (by decide +kernel) ?_
          refine v_iadd (pc := 120) X (by decide +kernel) ?_
          refine v_if_le (pc := 121) (off := 25) (tgt := 146) X (by decide +kernel) (by decide) (fun q27 => ?_) (fun q27 => ?_)
          · rw [if_pos q27] at hf
            refine v_aload_n (pc := 146) (k := 0) X (by decide +kernel) 3 rfl ?_
            refine v_geta (pc := 147) X fl_12_115 kl0 fk_12_61 (by decide +kernel) ?_
            refine v_iload_n (pc := 150) (k := 1) X (by decide +kernel) 4 rfl ?_
            refine v_dup2 (pc := 151) X (by decide +kernel) rfl rfl ?_
            obtain ⟨x16, ex16, hf⟩ := bnd_e hf
            refine v_iald (pc := 152) X (ly_12_61 ok kl0) ex16 (by decide +kernel) ?_
            refine v_iconst (pc := 153) (n := 1) X (by decide +kernel) ic_1 ?_
            refine v_iadd (pc := 154) X (by decide +kernel) ?_
            obtain ⟨h17, eh17, hf⟩ := bnd_e hf
            refine v_iast (pc := 155) X (ly_12_61 ok kl0) eh17 (by decide +kernel) ?_
            refine v_aload_n (pc := 156) (k := 0) X (by decide +kernel) 3 rfl ?_
            refine v_geta (pc := 157) X fl_12_130 kl0 fk_12_66 (by decide +kernel) ?_
            refine v_iload_n (pc := 160) (k := 1) X (by decide +kernel) 4 rfl ?_
            refine v_dup2 (pc := 161) X (by decide +kernel) rfl rfl ?_
            obtain ⟨x18, ex18, hf⟩ := bnd_e hf
            refine v_iald (pc := 162) X (ly_12_66 ok kl0) ex18 (by decide +kernel) ?_
            refine v_iload (pc := 163) (k := 6) X (by decide +kernel) 0 rfl ?_
            refine v_ior (pc := 165) X (by decide +kernel) ?_
            obtain ⟨h19, eh19, hf⟩ := bnd_e hf
            refine v_iast (pc := 166) X (ly_12_66 ok kl0) eh19 (by decide +kernel) ?_
            refine v_aload_n (pc := 167) (k := 0) X (by decide +kernel) 3 rfl ?_
            refine v_geti (pc := 168) X fl_12_438 kl0 rfl (by decide +kernel) ?_
            refine v_if_ge (pc := 171) (off := 14) (tgt := 185) X (by decide +kernel) (by decide) (fun q22 => ?_) (fun q22 => ?_)
            · rw [if_pos q22] at hf
              refine v_sub [3, 4, 5, 6, 2, 1] rfl ?_
              exact vjb_Md_meets_185 ok hi X Y h19 l0 l1 l2 l3 x1 x2 kl0 hf
            · rw [if_neg q22] at hf
              refine v_aload_n (pc := 174) (k := 0) X (by decide +kernel) 3 rfl ?_
              refine v_aload_n (pc := 175) (k := 0) X (by decide +kernel) 3 rfl ?_
              refine v_geta (pc := 176) X fl_12_94 kl0 fk_12_54 (by decide +kernel) ?_
              refine v_iload (pc := 179) (k := 4) X (by decide +kernel) 2 rfl ?_
              obtain ⟨x20, ex20, hf⟩ := bnd_e hf
              refine v_iald (pc := 181) X (ly_12_54 ok kl0) ex20 (by decide +kernel) ?_
              obtain ⟨h21, eh21, hf⟩ := nmd_e hf
              refine v_puti (pc := 182) X fp_12_438 kl0 rfl (by decide +kernel) eh21 ?_
              refine v_sub [3, 4, 5, 6, 2, 1] rfl ?_
              exact vjb_Md_meets_185 ok hi X Y h21 l0 l1 l2 l3 x1 x2 kl0 hf
          · rw [if_neg q27] at hf
            refine v_aload_n (pc := 124) (k := 0) X (by decide +kernel) 3 rfl ?_
            refine v_geta (pc := 125) X fl_12_118 kl0 fk_12_62 (by decide +kernel) ?_
            refine v_iload_n (pc := 128) (k := 1) X (by decide +kernel) 4 rfl ?_
            refine v_dup2 (pc := 129) X (by decide +kernel) rfl rfl ?_
            obtain ⟨x23, ex23, hf⟩ := bnd_e hf
            refine v_iald (pc := 130) X (ly_12_62 ok kl0) ex23 (by decide +kernel) ?_
            refine v_iconst (pc := 131) (n := 1) X (by decide +kernel) ic_1 ?_
            refine v_iadd (pc := 132) X (by decide +kernel) ?_
            obtain ⟨h24, eh24, hf⟩ := bnd_e hf
            refine v_iast (pc := 133) X (ly_12_62 ok kl0) eh24 (by decide +kernel) ?_
            refine v_aload_n (pc := 134) (k := 0) X (by decide +kernel) 3 rfl ?_
            refine v_geta (pc := 135) X fl_12_127 kl0 fk_12_65 (by decide +kernel) ?_
            refine v_iload_n (pc := 138) (k := 1) X (by decide +kernel) 4 rfl ?_
            refine v_dup2 (pc := 139) X (by decide +kernel) rfl rfl ?_
            obtain ⟨x25, ex25, hf⟩ := bnd_e hf
            refine v_iald (pc := 140) X (ly_12_65 ok kl0) ex25 (by decide +kernel) ?_
            refine v_iload (pc := 141) (k := 6) X (by decide +kernel) 0 rfl ?_
            refine v_ior (pc := 143) X (by decide +kernel) ?_
            obtain ⟨h26, eh26, hf⟩ := bnd_e hf
            refine v_iast (pc := 144) X (ly_12_65 ok kl0) eh26 (by decide +kernel) ?_
            cases hf
            exact v_vret X Y (by decide +kernel) rfl rfl
        · rw [if_pos q28] at hf
          cases hf
          exact v_vret X Y (by decide +kernel) rfl rfl
