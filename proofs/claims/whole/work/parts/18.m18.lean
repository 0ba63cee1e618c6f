def jb_Fo_timesOfTen_86 (tb : Tb) (c17 : Hp → Nat → Int32 → Int32 → Int32 → Int64 → Int32 → Int32 → Option (Int32 × Hp)) (h : Hp) (l0 : Nat) (l2 : Int32) (l3 : Int32) (l4 : Int32) (l5 : Int64) (l8 : Int32) (s0 : Int32) (s1 : Int32) : Option (Int32 × Hp) :=
  nmd (s0 + s1) fun x1 =>
  nmd (l8 + (1 : Int32)) fun x2 =>
  c17 h l0 l2 l3 l4 l5 x1 x2
def lp_Fo_timesOfTen_17 (tb : Tb) : Nat → Hp → Nat → Int32 → Int32 → Int32 → Int64 → Int32 → Int32 → Option (Int32 × Hp)
  | 0, _, _, _, _, _, _, _, _ => none
  | n + 1, h, l0, l2, l3, l4, l5, l7, l8 =>
    if (10 : Int32) ≤ l8 then (
      some (l7, h)
    ) else (
      (f_Wo_become tb h (lay tb l0 3) (lay tb l0 1)).bind fun r1 =>
      nmd (pL r1 (lay tb l0 3) 1 l5) fun h2 =>
      (f_Ho_pass tb h2 (lay tb l0 2) (lay tb l0 3) l2).bind fun r3 =>
      nmd (r3.2 (lay tb l0 3) 1) fun x4 =>
      (rI tb r3 (lay tb (lay tb l0 3) 14) l3).bind fun x5 =>
      if x5 < l4 then (
        jb_Fo_timesOfTen_86 tb (lp_Fo_timesOfTen_17 tb n) r3 l0 l2 l3 l4 x4 l8 l7 (0 : Int32)
      ) else (
        jb_Fo_timesOfTen_86 tb (lp_Fo_timesOfTen_17 tb n) r3 l0 l2 l3 l4 x4 l8 l7 (1 : Int32)
      )
    )
def f_Fo_timesOfTen (tb : Tb) (h : Hp) (l0 : Nat) (l1 : Int32) (l2 : Int32) (l3 : Int32) (l4 : Int32) : Option (Int32 × Hp) :=
  nmd (f_Ho_byChance tb h (lay tb l0 2)) fun r1 =>
  nmd (l1.toInt64) fun x2 =>
  lp_Fo_timesOfTen_17 tb fu r1 l0 l2 l3 l4 x2 (0 : Int32) (0 : Int32)
set_option maxRecDepth 4000 in
set_option maxHeartbeats 1000000 in
theorem vjb_Fo_timesOfTen_86 {E : En} {g : Gl} {tb : Tb} {ρ : Nat → Nat} (ok : TbOK tb) (hi : inj tb ρ) {r : Int32 × Hp} (X : CX E g tb ρ prog_4_method_13_code 9 RC3 6 151) (Y : CQ E g tb ρ (some .int) (some (.int r.1)) r.2) {c17 : Hp → Nat → Int32 → Int32 → Int32 → Int64 → Int32 → Int32 → Option (Int32 × Hp)} (H17 : ∀ (h : Hp) (l0 : Nat) (l2 : Int32) (l3 : Int32) (l4 : Int32) (l5 : Int64) (l7 : Int32) (l8 : Int32) (kl0 : kd tb l0 = 3), c17 h l0 l2 l3 l4 l5 l7 l8 = some r → V E g tb ρ 9 17 [(0, .ref (ρ l0)), (2, .int l2), (3, .int l3), (4, .int l4), (5, .long l5), (7, .int l7), (8, .int l8)] [] h) (h : Hp) (l0 : Nat) (l2 : Int32) (l3 : Int32) (l4 : Int32) (l5 : Int64) (l8 : Int32) (s0 : Int32) (s1 : Int32) (kl0 : kd tb l0 = 3) (hf : jb_Fo_timesOfTen_86 tb c17 h l0 l2 l3 l4 l5 l8 s0 s1 = some r) : V E g tb ρ 9 86 [(0, .ref (ρ l0)), (2, .int l2), (3, .int l3), (4, .int l4), (5, .long l5), (8, .int l8)] [.int s1, .int s0] h := by
  unfold jb_Fo_timesOfTen_86 at hf
  refine v_iadd (pc := 86) X (by decide +kernel) ?_
  obtain ⟨x1, ex1, hf⟩ := nmd_e hf
  refine v_nmi ex1 ?_
  refine v_istore (pc := 87) (k := 7) (lv' := [(7, .int x1), (0, .ref (ρ l0)), (2, .int l2), (3, .int l3), (4, .int l4), (5, .long l5), (8, .int l8)]) X (by decide +kernel) (Nat.le_of_ble_eq_true rfl) rfl ?_
  obtain ⟨x2, ex2, hf⟩ := nmd_e hf
  refine v_iinc (pc := 89) (k := 8) (n := 1) (v := x2) (lv' := [(8, .int x2), (7, .int x1), (0, .ref (ρ l0)), (2, .int l2), (3, .int l3), (4, .int l4), (5, .long l5)]) X (by decide +kernel) 6 rfl (by rw [ic_1, ex2]) (Nat.le_of_ble_eq_true rfl) rfl ?_
  refine v_goto (pc := 92) (off := -75) (tgt := 17) X (by decide +kernel) (by decide) ?_
  refine v_sub [2, 3, 4, 5, 6, 1, 0] rfl ?_
  exact H17 h l0 l2 l3 l4 l5 x1 x2 kl0 hf
set_option maxRecDepth 4000 in
set_option maxHeartbeats 1000000 in
theorem vlp_Fo_timesOfTen_17 {E : En} {g : Gl} {tb : Tb} {ρ : Nat → Nat} (ok : TbOK tb) (hi : inj tb ρ) {r : Int32 × Hp} (X : CX E g tb ρ prog_4_method_13_code 9 RC3 6 151) (Y : CQ E g tb ρ (some .int) (some (.int r.1)) r.2) : ∀ (n : Nat) (h : Hp) (l0 : Nat) (l2 : Int32) (l3 : Int32) (l4 : Int32) (l5 : Int64) (l7 : Int32) (l8 : Int32) (kl0 : kd tb l0 = 3), lp_Fo_timesOfTen_17 tb n h l0 l2 l3 l4 l5 l7 l8 = some r → V E g tb ρ 9 17 [(0, .ref (ρ l0)), (2, .int l2), (3, .int l3), (4, .int l4), (5, .long l5), (7, .int l7), (8, .int l8)] [] h := by
  intro n
  induction n with
  | zero =>
    intro h l0 l2 l3 l4 l5 l7 l8 kl0 hf
    rw [lp_Fo_timesOfTen_17] at hf
    cases hf
  | succ n ih =>
    intro h l0 l2 l3 l4 l5 l7 l8 kl0 hf
    rw [lp_Fo_timesOfTen_17] at hf
    refine v_iload (pc := 17) (k := 8) X (by decide +kernel) 6 rfl ?_
    refine v_bipush (pc := 19) (n := 10) X (by decide +kernel) bi_10 ?_
    refine v_icmp_ge (pc := 21) (off := 74) (tgt := 95) X (by decide +kernel) (by decide) (fun q7 => ?_) (fun q7 => ?_)
    · rw [if_pos q7] at hf
      refine v_iload (pc := 95) (k := 7) X (by decide +kernel) 5 rfl ?_
      cases hf
      exact v_iret X Y (by decide +kernel) rfl rfl
    · rw [if_neg q7] at hf
      refine v_aload_n (pc := 24) (k := 0) X (by decide +kernel) 0 rfl ?_
      refine v_geta (pc := 25) X fl_3_12 kl0 fk_3_3 (by decide +kernel) ?_
      refine v_aload_n (pc := 28) (k := 0) X (by decide +kernel) 0 rfl ?_
      refine v_geta (pc := 29) X fl_3_29 kl0 fk_3_1 (by decide +kernel) ?_
      obtain ⟨r1, er1, hf⟩ := bnd_e hf
      refine v_callV (pc := 32) (As := [.ref (ρ (lay tb l0 1))]) (rest := []) X (mt_Wo_become ok hi (ly_3_3 ok kl0) (ly_3_1 ok kl0) er1) ml_3_36 mv_Wo_become (ly_3_3 ok kl0) cls_11 rfl ⟨Nat.le_of_ble_eq_true rfl, Nat.le_of_ble_eq_true rfl⟩ rfl rfl (Nat.le_of_ble_eq_true rfl) (by decide +kernel) ?_
      change V E g tb ρ 9 35 [(0, .ref (ρ l0)), (2, .int l2), (3, .int l3), (4, .int l4), (5, .long l5), (7, .int l7), (8, .int l8)] [] r1
      refine v_aload_n (pc := 35) (k := 0) X (by decide +kernel) 0 rfl ?_
      refine v_geta (pc := 36) X fl_3_12 kl0 fk_3_3 (by decide +kernel) ?_
      refine v_lload (pc := 39) (k := 5) X (by decide +kernel) 4 rfl ?_
      obtain ⟨h2, eh2, hf⟩ := nmd_e hf
      refine v_putl (pc := 41) X fp_3_111 (ly_3_3 ok kl0) rfl (by decide +kernel) eh2 ?_
      refine v_aload_n (pc := 44) (k := 0) X (by decide +kernel) 0 rfl ?_
      refine v_geta (pc := 45) X fl_3_32 kl0 fk_3_2 (by decide +kernel) ?_
      refine v_aload_n (pc := 48) (k := 0) X (by decide +kernel) 0 rfl ?_
      refine v_geta (pc := 49) X fl_3_12 kl0 fk_3_3 (by decide +kernel) ?_
      refine v_iload_n (pc := 52) (k := 2) X (by decide +kernel) 1 rfl ?_
      obtain ⟨r3, er3, hf⟩ := bnd_e hf
      refine v_callV (pc := 53) (As := [.ref (ρ (lay tb l0 3)), .int l2]) (rest := []) X (mt_Ho_pass ok hi (ly_3_2 ok kl0) (ly_3_3 ok kl0) er3) ml_3_48 mv_Ho_pass (ly_3_2 ok kl0) cls_4 rfl ⟨Nat.le_of_ble_eq_true rfl, Nat.le_of_ble_eq_true rfl⟩ rfl rfl (Nat.le_of_ble_eq_true rfl) (by decide +kernel) ?_
      change V E g tb ρ 9 56 [(0, .ref (ρ l0)), (2, .int l2), (3, .int l3), (4, .int l4), (5, .long l5), (7, .int l7), (8, .int l8)] [] r3
      refine v_aload_n (pc := 56) (k := 0) X (by decide +kernel) 0 rfl ?_
      refine v_geta (pc := 57) X fl_3_12 kl0 fk_3_3 (by decide +kernel) ?_
      refine v_getl (pc := 60) X fl_3_111 (ly_3_3 ok kl0) rfl (by decide +kernel) ?_
      obtain ⟨x4, ex4, hf⟩ := nmd_e hf
      refine v_nml ex4 ?_
      refine v_lstore (pc := 63) (k := 5) (lv' := [(5, .long x4), (0, .ref (ρ l0)), (2, .int l2), (3, .int l3), (4, .int l4), (7, .int l7), (8, .int l8)]) X (by decide +kernel) (Nat.le_of_ble_eq_true rfl) rfl ?_
      refine v_iload (pc := 65) (k := 7) X (by decide +kernel) 5 rfl ?_
      refine v_aload_n (pc := 67) (k := 0) X (by decide +kernel) 1 rfl ?_
      refine v_geta (pc := 68) X fl_3_12 kl0 fk_3_3 (by decide +kernel) ?_
      refine v_geta (pc := 71) X fl_3_63 (ly_3_3 ok kl0) fk_11_14 (by decide +kernel) ?_
      refine v_iload_n (pc := 74) (k := 3) X (by decide +kernel) 3 rfl ?_
      obtain ⟨x5, ex5, hf⟩ := bnd_e hf
      refine v_iald (pc := 75) X (ly_11_14 ok (ly_3_3 ok kl0)) ex5 (by decide +kernel) ?_
      refine v_iload (pc := 76) (k := 4) X (by decide +kernel) 4 rfl ?_
      refine v_icmp_lt (pc := 78) (off := 7) (tgt := 85) X (by decide +kernel) (by decide) (fun q6 => ?_) (fun q6 => ?_)
      · rw [if_pos q6] at hf
        refine v_iconst (pc := 85) (n := 0) X (by decide +kernel) ic_0 ?_
        refine v_sub [1, 2, 3, 4, 0, 6] rfl ?_
        exact vjb_Fo_timesOfTen_86 ok hi X Y ih r3 l0 l2 l3 l4 x4 l8 l7 (0 : Int32) kl0 hf
      · rw [if_neg q6] at hf
        refine v_iconst (pc := 81) (n := 1) X (by decide +kernel) ic_1 ?_
        refine v_goto (pc := 82) (off := 4) (tgt := 86) X (by decide +kernel) (by decide) ?_
        refine v_sub [1, 2, 3, 4, 0, 6] rfl ?_
        exact vjb_Fo_timesOfTen_86 ok hi X Y ih r3 l0 l2 l3 l4 x4 l8 l7 (1 : Int32) kl0 hf
set_option maxRecDepth 4000 in
set_option maxHeartbeats 1000000 in
theorem mt_Fo_timesOfTen {g : Gl} {tb : Tb} {ρ : Nat → Nat} (ok : TbOK tb) (hi : inj tb ρ) {h : Hp} {l0 : Nat} {l1 : Int32} {l2 : Int32} {l3 : Int32} {l4 : Int32} (kl0 : kd tb l0 = 3) {r : Int32 × Hp} (hf : f_Fo_timesOfTen tb h l0 l1 l2 l3 l4 = some r) : MT g y_Fo_timesOfTen prog_4_method_13_code 9 (some .int) 6 151 tb ρ [.ref (ρ l0), .int l1, .int l2, .int l3, .int l4] h (some (.int r.1)) r.2 := by
  refine mt_intro (by decide +kernel) ok hi (Nat.le_of_ble_eq_true rfl) (fun E X Y => ?_)
  change V E g tb ρ 9 0 [(0, .ref (ρ l0)), (1, .int l1), (2, .int l2), (3, .int l3), (4, .int l4)] [] h
  unfold f_Fo_timesOfTen at hf
  refine v_aload_n (pc := 0) (k := 0) X (by decide +kernel) 0 rfl ?_
  refine v_geta (pc := 1) X fl_3_32 kl0 fk_3_2 (by decide +kernel) ?_
  obtain ⟨r1, er1, hf⟩ := nmd_e hf
  refine v_callV (pc := 4) (As := []) (rest := []) X (mt_Ho_byChance ok hi (ly_3_2 ok kl0) er1.symm) ml_3_108 mv_Ho_byChance (ly_3_2 ok kl0) cls_4 rfl ⟨Nat.le_of_ble_eq_true rfl, Nat.le_of_ble_eq_true rfl⟩ rfl rfl (Nat.le_of_ble_eq_true rfl) (by decide +kernel) ?_
  change V E g tb ρ 9 7 [(0, .ref (ρ l0)), (1, .int l1), (2, .int l2), (3, .int l3), (4, .int l4)] [] r1
  refine v_iload_n (pc := 7) (k := 1) X (by decide +kernel) 1 rfl ?_
  refine v_i2l (pc := 8) X (by decide +kernel) ?_
  obtain ⟨x2, ex2, hf⟩ := nmd_e hf
  refine v_nml ex2 ?_
  refine v_lstore (pc := 9) (k := 5) (lv' := [(5, .long x2), (0, .ref (ρ l0)), (1, .int l1), (2, .int l2), (3, .int l3), (4, .int l4)]) X (by decide +kernel) (Nat.le_of_ble_eq_true rfl) rfl ?_
  refine v_iconst (pc := 11) (n := 0) X (by decide +kernel) ic_0 ?_
  refine v_istore (pc := 12) (k := 7) (lv' := [(7, .int (0 : Int32)), (5, .long x2), (0, .ref (ρ l0)), (1, .int l1), (2, .int l2), (3, .int l3), (4, .int l4)]) X (by decide +kernel) (Nat.le_of_ble_eq_true rfl) rfl ?_
  refine v_iconst (pc := 14) (n := 0) X (by decide +kernel) ic_0 ?_
  refine v_istore (pc := 15) (k := 8) (lv' := [(8, .int (0 : Int32)), (7, .int (0 : Int32)), (5, .long x2), (0, .ref (ρ l0)), (1, .int l1), (2, .int l2), (3, .int l3), (4, .int l4)]) X (by decide +kernel) (Nat.le_of_ble_eq_true rfl) rfl ?_
  refine v_sub [3, 5, 6, 7, 2, 1, 0] rfl ?_
  exact vlp_Fo_timesOfTen_17 ok hi X Y fu r1 l0 l2 l3 l4 x2 (0 : Int32) (0 : Int32) kl0 hf
def jb_Tt_chance_43 (tb : Tb) (h : Hp) (l0 : Nat) (l1 : Int32) (l2 : Int32) (l3 : Int32) (l4 : Int32) (s0 : Int32) : Option (Int32 × Hp) :=
  if s0 = (0 : Int32) then (
    some ((-1 : Int32), h)
  ) else (
    (f_Fo_timesOfTen tb h (lay tb l0 10) l1 l2 l3 l4).bind fun r1 =>
    some (r1.1, r1.2)
  )
def jb_Tt_chance_42 (tb : Tb) (h : Hp) (l0 : Nat) (l1 : Int32) (l2 : Int32) (l3 : Int32) (l4 : Int32) : Option (Int32 × Hp) :=
  jb_Tt_chance_43 tb h l0 l1 l2 l3 l4 (0 : Int32)
def f_Tt_chance (tb : Tb) (h : Hp) (l0 : Nat) (l1 : Int32) (l2 : Int32) (l3 : Int32) (l4 : Int32) : Option (Int32 × Hp) :=
  if l1 < (0 : Int32) then (
    jb_Tt_chance_42 tb h l0 l1 l2 l3 l4
  ) else (
    if l2 < (1 : Int32) then (
      jb_Tt_chance_42 tb h l0 l1 l2 l3 l4
    ) else (
      if (99 : Int32) < l2 then (
        jb_Tt_chance_42 tb h l0 l1 l2 l3 l4
      ) else (
        nmd (f_Pl_hasTrough tb h (lay tb l0 3) l3) fun r1 =>
        if r1 = (0 : Int32) then (
          jb_Tt_chance_42 tb h l0 l1 l2 l3 l4
        ) else (
          if l4 < (0 : Int32) then (
            jb_Tt_chance_42 tb h l0 l1 l2 l3 l4
          ) else (
            if (99 : Int32) < l4 then (
              jb_Tt_chance_42 tb h l0 l1 l2 l3 l4
            ) else (
              jb_Tt_chance_43 tb h l0 l1 l2 l3 l4 (1 : Int32)
            )
          )
        )
      )
    )
  )
set_option maxRecDepth 4000 in
set_option maxHeartbeats 1000000 in
theorem vjb_Tt_chance_43 {E : En} {g : Gl} {tb : Tb} {ρ : Nat → Nat} (ok : TbOK tb) (hi : inj tb ρ) {r : Int32 × Hp} (X : CX E g tb ρ prog_1_method_43_code 6 RC0 7 179) (Y : CQ E g tb ρ (some .int) (some (.int r.1)) r.2) (h : Hp) (l0 : Nat) (l1 : Int32) (l2 : Int32) (l3 : Int32) (l4 : Int32) (s0 : Int32) (kl0 : kd tb l0 = 0) (hf : jb_Tt_chance_43 tb h l0 l1 l2 l3 l4 s0 = some r) : V E g tb ρ 6 43 [(0, .ref (ρ l0)), (1, .int l1), (2, .int l2), (3, .int l3), (4, .int l4)] [.int s0] h := by
  unfold jb_Tt_chance_43 at hf
  refine v_istore (pc := 43) (k := 5) (lv' := [(5, .int s0), (0, .ref (ρ l0)), (1, .int l1), (2, .int l2), (3, .int l3), (4, .int l4)]) X (by decide +kernel) (Nat.le_of_ble_eq_true rfl) rfl ?_
  refine v_iload (pc := 45) (k := 5) X (by decide +kernel) 0 rfl ?_
  refine v_if_eq (pc := 47) (off := 18) (tgt := 65) X (by decide +kernel) (by decide) (fun q2 => ?_) (fun q2 => ?_)
  · rw [if_pos q2] at hf
    refine v_iconst (pc := 65) (n := -1) X (by decide +kernel) ic_m1 ?_
    cases hf
    exact v_iret X Y (by decide +kernel) rfl rfl
  · rw [if_neg q2] at hf
    refine v_aload_n (pc := 50) (k := 0) X (by decide +kernel) 1 rfl ?_
    refine v_geta (pc := 51) X fl_0_77 kl0 fk_0_10 (by decide +kernel) ?_
    refine v_iload_n (pc := 54) (k := 1) X (by decide +kernel) 2 rfl ?_
    refine v_iload_n (pc := 55) (k := 2) X (by decide +kernel) 3 rfl ?_
    refine v_iload_n (pc := 56) (k := 3) X (by decide +kernel) 4 rfl ?_
    refine v_iload (pc := 57) (k := 4) X (by decide +kernel) 5 rfl ?_
    obtain ⟨r1, er1, hf⟩ := bnd_e hf
    refine v_callV (pc := 59) (As := [.int l1, .int l2, .int l3, .int l4]) (rest := []) X (mt_Fo_timesOfTen ok hi (ly_0_10 ok kl0) er1) ml_0_323 mv_Fo_timesOfTen (ly_0_10 ok kl0) cls_3 rfl ⟨Nat.le_of_ble_eq_true rfl, Nat.le_of_ble_eq_true rfl⟩ rfl rfl (Nat.le_of_ble_eq_true rfl) (by decide +kernel) ?_
    change V E g tb ρ 6 62 [(5, .int s0), (0, .ref (ρ l0)), (1, .int l1), (2, .int l2), (3, .int l3), (4, .int l4)] [.int r1.1] r1.2
    refine v_goto (pc := 62) (off := 4) (tgt := 66) X (by decide +kernel) (by decide) ?_
    cases hf
    exact v_iret X Y (by decide +kernel) rfl rfl
set_option maxRecDepth 4000 in
set_option maxHeartbeats 1000000 in
theorem vjb_Tt_chance_42 {E : En} {g : Gl} {tb : Tb} {ρ : Nat → Nat} (ok : TbOK tb) (hi : inj tb ρ) {r : Int32 × Hp} (X : CX E g tb ρ prog_1_method_43_code 6 RC0 7 179) (Y : CQ E g tb ρ (some .int) (some (.int r.1)) r.2) (h : Hp) (l0 : Nat) (l1 : Int32) (l2 : Int32) (l3 : Int32) (l4 : Int32) (kl0 : kd tb l0 = 0) (hf : jb_Tt_chance_42 tb h l0 l1 l2 l3 l4 = some r) : V E g tb ρ 6 42 [(0, .ref (ρ l0)), (1, .int l1), (2, .int l2), (3, .int l3), (4, .int l4)] [] h := by
  unfold jb_Tt_chance_42 at hf
  refine v_iconst (pc := 42) (n := 0) X (by decide +kernel) ic_0 ?_
  exact vjb_Tt_chance_43 ok hi X Y h l0 l1 l2 l3 l4 (0 : Int32) kl0 hf
set_option maxRecDepth 4000 in
set_option maxHeartbeats 1000000 in
theorem mt_Tt_chance {g : Gl} {tb : Tb} {ρ : Nat → Nat} (ok : TbOK tb) (hi : inj tb ρ) {h : Hp} {l0 : Nat} {l1 : Int32} {l2 : Int32} {l3 : Int32} {l4 : Int32} (kl0 : kd tb l0 = 0) {r : Int32 × Hp} (hf : f_Tt_chance tb h l0 l1 l2 l3 l4 = some r) : MT g y_Tt_chance prog_1_method_43_code 6 (some .int) 7 179 tb ρ [.ref (ρ l0), .int l1, .int l2, .int l3, .int l4] h (some (.int r.1)) r.2 := by
  refine mt_intro (by decide +kernel) ok hi (Nat.le_of_ble_eq_true rfl) (fun E X Y => ?_)
  change V E g tb ρ 6 0 [(0, .ref (ρ l0)), (1, .int l1), (2, .int l2), (3, .int l3), (4, .int l4)] [] h
  unfold f_Tt_chance at hf
  refine v_iload_n (pc := 0) (k := 1) X (by decide +kernel) 1 rfl ?_
  refine v_if_lt (pc := 1) (off := 41) (tgt := 42) X (by decide +kernel) (by decide) (fun q7 => ?_) (fun q7 => ?_)
  · rw [if_pos q7] at hf
    exact vjb_Tt_chance_42 ok hi X Y h l0 l1 l2 l3 l4 kl0 hf
  · rw [if_neg q7] at hf
    refine v_iload_n (pc := 4) (k := 2) X (by decide +kernel) 2 rfl ?_
    refine v_iconst (pc := 5) (n := 1) X (by decide +kernel) ic_1 ?_
    refine v_icmp_lt (pc := 6) (off := 36) (tgt := 42) X (by decide +kernel) (by decide) (fun q6 => ?_) (fun q6 => ?_)
    · rw [if_pos q6] at hf
      exact vjb_Tt_chance_42 ok hi X Y h l0 l1 l2 l3 l4 kl0 hf
    · rw [if_neg q6] at hf
      refine v_iload_n (pc := 9) (k := 2) X (by decide +kernel) 2 rfl ?_
      refine v_bipush (pc := 10) (n := 99) X (by decide +kernel) bi_99 ?_
      refine v_icmp_gt (pc := 12) (off := 30) (tgt := 42) X (by decide +kernel) (by decide) (fun q5 => ?_) (fun q5 => ?_)
      · rw [if_pos q5] at hf
        exact vjb_Tt_chance_42 ok hi X Y h l0 l1 l2 l3 l4 kl0 hf
      · rw [if_neg q5] at hf
        refine v_aload_n (pc := 15) (k := 0) X (by decide +kernel) 0 rfl ?_
        refine v_geta (pc := 16) X fl_0_31 kl0 fk_0_3 (by decide +kernel) ?_
        refine v_iload_n (pc := 19) (k := 3) X (by decide +kernel) 3 rfl ?_
        obtain ⟨r1, er1, hf⟩ := nmd_e hf
        refine v_callV (pc := 20) (As := [.int l3]) (rest := []) X (mt_Pl_hasTrough ok hi (ly_0_3 ok kl0) er1.symm) ml_0_165 mv_Pl_hasTrough (ly_0_3 ok kl0) cls_7 rfl ⟨Nat.le_of_ble_eq_true rfl, Nat.le_of_ble_eq_true rfl⟩ rfl rfl (Nat.le_of_ble_eq_true rfl) (by decide +kernel) ?_
        change V E g tb ρ 6 23 [(0, .ref (ρ l0)), (1, .int l1), (2, .int l2), (3, .int l3), (4, .int l4)] [.int r1] h
        refine v_if_eq (pc := 23) (off := 19) (tgt := 42) X (by decide +kernel) (by decide) (fun q4 => ?_) (fun q4 => ?_)
        · rw [if_pos q4] at hf
          exact vjb_Tt_chance_42 ok hi X Y h l0 l1 l2 l3 l4 kl0 hf
        · rw [if_neg q4] at hf
          refine v_iload (pc := 26) (k := 4) X (by decide +kernel) 4 rfl ?_
          refine v_if_lt (pc := 28) (off := 14) (tgt := 42) X (by decide +kernel) (by decide) (fun q3 => ?_) (fun q3 => ?_)
          · rw [if_pos q3] at hf
            exact vjb_Tt_chance_42 ok hi X Y h l0 l1 l2 l3 l4 kl0 hf
          · rw [if_neg q3] at hf
            refine v_iload (pc := 31) (k := 4) X (by decide +kernel) 4 rfl ?_
            refine v_bipush (pc := 33) (n := 99) X (by decide +kernel) bi_99 ?_
            refine v_icmp_gt (pc := 35) (off := 7) (tgt := 42) X (by decide +kernel) (by decide) (fun q2 => ?_) (fun q2 => ?_)
            · rw [if_pos q2] at hf
              exact vjb_Tt_chance_42 ok hi X Y h l0 l1 l2 l3 l4 kl0 hf
            · rw [if_neg q2] at hf
              refine v_iconst (pc := 38) (n := 1) X (by decide +kernel) ic_1 ?_
              refine v_goto (pc := 39) (off := 4) (tgt := 43) X (by decide +kernel) (by decide) ?_
              exact vjb_Tt_chance_43 ok hi X Y h l0 l1 l2 l3 l4 (1 : Int32) kl0 hf
def f_Ho_withoutRain (tb : Tb) (h : Hp) (l0 : Nat) : Hp :=
  nmd (pI h l0 2 (0 : Int32)) fun h1 =>
  h1
set_option maxRecDepth 4000 in
set_option maxHeartbeats 1000000 in
theorem mt_Ho_withoutRain {g : Gl} {tb : Tb} {ρ : Nat → Nat} (ok : TbOK tb) (hi : inj tb ρ) {h : Hp} {l0 : Nat} (kl0 : kd tb l0 = 4) {r : Hp} (hf : f_Ho_withoutRain tb h l0 = r) : MT g y_Ho_withoutRain prog_5_method_4_code 1 none 0 0 tb ρ [.ref (ρ l0)] h (none) r := by
  refine mt_intro (by decide +kernel) ok hi (Nat.le_of_ble_eq_true rfl) (fun E X Y => ?_)
  change V E g tb ρ 1 0 [(0, .ref (ρ l0))] [] h
  unfold f_Ho_withoutRain at hf
  refine v_aload_n (pc := 0) (k := 0) X (by decide +kernel) 0 rfl ?_
  refine v_iconst (pc := 1) (n := 0) X (by decide +kernel) ic_0 ?_
  obtain ⟨h1, eh1, hf⟩ := nmd_e hf
  refine v_puti (pc := 2) X fp_4_28 kl0 rfl (by decide +kernel) eh1 ?_
  cases hf
  exact v_vret X Y (by decide +kernel) rfl rfl
def f_Ho_withoutDrinking (tb : Tb) (h : Hp) (l0 : Nat) : Hp :=
  nmd (pI h l0 3 (0 : Int32)) fun h1 =>
  h1
set_option maxRecDepth 4000 in
set_option maxHeartbeats 1000000 in
theorem mt_Ho_withoutDrinking {g : Gl} {tb : Tb} {ρ : Nat → Nat} (ok : TbOK tb) (hi : inj tb ρ) {h : Hp} {l0 : Nat} (kl0 : kd tb l0 = 4) {r : Hp} (hf : f_Ho_withoutDrinking tb h l0 = r) : MT g y_Ho_withoutDrinking prog_5_method_5_code 1 none 0 0 tb ρ [.ref (ρ l0)] h (none) r := by
  refine mt_intro (by decide +kernel) ok hi (Nat.le_of_ble_eq_true rfl) (fun E X Y => ?_)
  change V E g tb ρ 1 0 [(0, .ref (ρ l0))] [] h
  unfold f_Ho_withoutDrinking at hf
  refine v_aload_n (pc := 0) (k := 0) X (by decide +kernel) 0 rfl ?_
  refine v_iconst (pc := 1) (n := 0) X (by decide +kernel) ic_0 ?_
  obtain ⟨h1, eh1, hf⟩ := nmd_e hf
  refine v_putz (pc := 2) X fp_4_31 kl0 rfl rfl (by decide +kernel) eh1 ?_
  cases hf
  exact v_vret X Y (by decide +kernel) rfl rfl
def f_Ho_withTwicePace (tb : Tb) (h : Hp) (l0 : Nat) : Hp :=
  nmd (pI h l0 4 (2 : Int32)) fun h1 =>
  h1
set_option maxRecDepth 4000 in
set_option maxHeartbeats 1000000 in
theorem mt_Ho_withTwicePace {g : Gl} {tb : Tb} {ρ : Nat → Nat} (ok : TbOK tb) (hi : inj tb ρ) {h : Hp} {l0 : Nat} (kl0 : kd tb l0 = 4) {r : Hp} (hf : f_Ho_withTwicePace tb h l0 = r) : MT g y_Ho_withTwicePace prog_5_method_6_code 1 none 0 0 tb ρ [.ref (ρ l0)] h (none) r := by
  refine mt_intro (by decide +kernel) ok hi (Nat.le_of_ble_eq_true rfl) (fun E X Y => ?_)
  change V E g tb ρ 1 0 [(0, .ref (ρ l0))] [] h
  unfold f_Ho_withTwicePace at hf
  refine v_aload_n (pc := 0) (k := 0) X (by decide +kernel) 0 rfl ?_
  refine v_iconst (pc := 1) (n := 2) X (by decide +kernel) ic_2 ?_
  obtain ⟨h1, eh1, hf⟩ := nmd_e hf
  refine v_puti (pc := 2) X fp_4_35 kl0 rfl (by decide +kernel) eh1 ?_
  cases hf
  exact v_vret X Y (by decide +kernel) rfl rfl
def jb_Fo_fightsOtherwise_98 (tb : Tb) (h : Hp) (l0 : Nat) (l3 : Int32) : Option (Int32 × Hp) :=
  (f_Ho_pass tb h (lay tb l0 2) (lay tb l0 3) l3).bind fun r1 =>
  some ((r1.1 (lay tb l0 3) 3) - (r1.1 (lay tb l0 1) 3), r1)
def f_Fo_fightsOtherwise (tb : Tb) (h : Hp) (l0 : Nat) (l1 : Int32) (l2 : Int32) (l3 : Int32) : Option (Int32 × Hp) :=
  (f_Fo_beginTrial tb h l0).bind fun r1 =>
  if l1 = (0 : Int32) then (
    nmd (f_Ho_withoutRain tb r1 (lay tb l0 2)) fun r3 =>
    jb_Fo_fightsOtherwise_98 tb r3 l0 l3
  ) else (
    if l1 = (1 : Int32) then (
      nmd (f_Ho_withoutDrinking tb r1 (lay tb l0 2)) fun r5 =>
      jb_Fo_fightsOtherwise_98 tb r5 l0 l3
    ) else (
      if l1 = (2 : Int32) then (
        nmd (pI r1 (lay tb l0 3) 2 ((r1.1 (lay tb l0 3) 2) &&& (((1 : Int32) <<< (l2 &&& 31)) ^^^ (-1 : Int32)))) fun h7 =>
        jb_Fo_fightsOtherwise_98 tb h7 l0 l3
      ) else (
        if l1 = (3 : Int32) then (
          (f_Ar_fill tb r1 (lay tb (lay tb l0 3) 14) (99 : Int32)).bind fun r9 =>
          jb_Fo_fightsOtherwise_98 tb r9 l0 l3
        ) else (
          nmd (f_Ho_withTwicePace tb r1 (lay tb l0 2)) fun r10 =>
          jb_Fo_fightsOtherwise_98 tb r10 l0 l3
        )
      )
    )
  )
set_option maxRecDepth 4000 in
set_option maxHeartbeats 1000000 in
theorem vjb_Fo_fightsOtherwise_98 {E : En} {g : Gl} {tb : Tb} {ρ : Nat → Nat} (ok : TbOK tb) (hi : inj tb ρ) {r : Int32 × Hp} (X : CX E g tb ρ prog_4_method_12_code 4 RC3 6 151) (Y : CQ E g tb ρ (some .int) (some (.int r.1)) r.2) (h : Hp) (l0 : Nat) (l3 : Int32) (kl0 : kd tb l0 = 3) (hf : jb_Fo_fightsOtherwise_98 tb h l0 l3 = some r) : V E g tb ρ 4 98 [(0, .ref (ρ l0)), (3, .int l3)] [] h := by
  unfold jb_Fo_fightsOtherwise_98 at hf
  refine v_aload_n (pc := 98) (k := 0) X (by decide +kernel) 0 rfl ?_
  refine v_geta (pc := 99) X fl_3_32 kl0 fk_3_2 (by decide +kernel) ?_
  refine v_aload_n (pc := 102) (k := 0) X (by decide +kernel) 0 rfl ?_
  refine v_geta (pc := 103) X fl_3_12 kl0 fk_3_3 (by decide +kernel) ?_
  refine v_iload_n (pc := 106) (k := 3) X (by decide +kernel) 1 rfl ?_
  obtain ⟨r1, er1, hf⟩ := bnd_e hf
  refine v_callV (pc := 107) (As := [.ref (ρ (lay tb l0 3)), .int l3]) (rest := []) X (mt_Ho_pass ok hi (ly_3_2 ok kl0) (ly_3_3 ok kl0) er1) ml_3_48 mv_Ho_pass (ly_3_2 ok kl0) cls_4 rfl ⟨Nat.le_of_ble_eq_true rfl, Nat.le_of_ble_eq_true rfl⟩ rfl rfl (Nat.le_of_ble_eq_true rfl) (by decide +kernel) ?_
  change V E g tb ρ 4 110 [(0, .ref (ρ l0)), (3, .int l3)] [] r1
  refine v_aload_n (pc := 110) (k := 0) X (by decide +kernel) 0 rfl ?_
  refine v_geta (pc := 111) X fl_3_12 kl0 fk_3_3 (by decide +kernel) ?_
  refine v_geti (pc := 114) X fl_3_72 (ly_3_3 ok kl0) rfl (by decide +kernel) ?_
  refine v_aload_n (pc := 117) (k := 0) X (by decide +kernel) 0 rfl ?_
  refine v_geta (pc := 118) X fl_3_29 kl0 fk_3_1 (by decide +kernel) ?_
  refine v_geti (pc := 121) X fl_3_72 (ly_3_1 ok kl0) rfl (by decide +kernel) ?_
  refine v_isub (pc := 124) X (by decide +kernel) ?_
  cases hf
  exact v_iret X Y (by decide +kernel) rfl rfl
set_option maxRecDepth 4000 in
set_option maxHeartbeats 1000000 in
theorem mt_Fo_fightsOtherwise {g : Gl} {tb : Tb} {ρ : Nat → Nat} (ok : TbOK tb) (hi : inj tb ρ) {h : Hp} {l0 : Nat} {l1 : Int32} {l2 : Int32} {l3 : Int32} (kl0 : kd tb l0 = 3) {r : Int32 × Hp} (hf : f_Fo_fightsOtherwise tb h l0 l1 l2 l3 = some r) : MT g y_Fo_fightsOtherwise prog_4_method_12_code 4 (some .int) 6 151 tb ρ [.ref (ρ l0), .int l1, .int l2, .int l3] h (some (.int r.1)) r.2 := by
  refine mt_intro (by decide +kernel) ok hi (Nat.le_of_ble_eq_true rfl) (fun E X Y => ?_)
  change V E g tb ρ 4 0 [(0, .ref (ρ l0)), (1, .int l1), (2, .int l2), (3, .int l3)] [] h
  unfold f_Fo_fightsOtherwise at hf
  refine v_aload_n (pc := 0) (k := 0) X (by decide +kernel) 0 rfl ?_
  obtain ⟨r1, er1, hf⟩ := bnd_e hf
  refine v_callV (pc := 1) (As := []) (rest := []) X (mt_Fo_beginTrial ok hi kl0 er1) ml_3_45 mv_Fo_beginTrial kl0 cls_3 rfl ⟨Nat.le_of_ble_eq_true rfl, Nat.le_of_ble_eq_true rfl⟩ rfl rfl (Nat.le_of_ble_eq_true rfl) (by decide +kernel) ?_
  change V E g tb ρ 4 4 [(0, .ref (ρ l0)), (1, .int l1), (2, .int l2), (3, .int l3)] [] r1
  refine v_iload_n (pc := 4) (k := 1) X (by decide +kernel) 1 rfl ?_
  by_cases q2 : l1 = (0 : Int32)
  · rw [if_pos q2] at hf
    refine v_tin (pc := 5) (off := 31) (tgt := 36) X (show decode prog_4_method_12_code 5 = .ok (.tableswitch 86 0 3 #[31, 41, 51, 71], 31) from by decide +kernel) q2 (by decide) (by decide) (by decide) (by decide) ?_
    refine v_aload_n (pc := 36) (k := 0) X (by decide +kernel) 0 rfl ?_
    refine v_geta (pc := 37) X fl_3_32 kl0 fk_3_2 (by decide +kernel) ?_
    obtain ⟨r3, er3, hf⟩ := nmd_e hf
    refine v_callV (pc := 40) (As := []) (rest := []) X (mt_Ho_withoutRain ok hi (ly_3_2 ok kl0) er3.symm) ml_3_93 mv_Ho_withoutRain (ly_3_2 ok kl0) cls_4 rfl ⟨Nat.le_of_ble_eq_true rfl, Nat.le_of_ble_eq_true rfl⟩ rfl rfl (Nat.le_of_ble_eq_true rfl) (by decide +kernel) ?_
    change V E g tb ρ 4 43 [(0, .ref (ρ l0)), (1, .int l1), (2, .int l2), (3, .int l3)] [] r3
    refine v_goto (pc := 43) (off := 55) (tgt := 98) X (by decide +kernel) (by decide) ?_
    refine v_sub [0, 3] rfl ?_
    exact vjb_Fo_fightsOtherwise_98 ok hi X Y r3 l0 l3 kl0 hf
  · rw [if_neg q2] at hf
    by_cases q4 : l1 = (1 : Int32)
    · rw [if_pos q4] at hf
      refine v_tin (pc := 5) (off := 41) (tgt := 46) X (show decode prog_4_method_12_code 5 = .ok (.tableswitch 86 0 3 #[31, 41, 51, 71], 31) from by decide +kernel) q4 (by decide) (by decide) (by decide) (by decide) ?_
      refine v_aload_n (pc := 46) (k := 0) X (by decide +kernel) 0 rfl ?_
      refine v_geta (pc := 47) X fl_3_32 kl0 fk_3_2 (by decide +kernel) ?_
      obtain ⟨r5, er5, hf⟩ := nmd_e hf
      refine v_callV (pc := 50) (As := []) (rest := []) X (mt_Ho_withoutDrinking ok hi (ly_3_2 ok kl0) er5.symm) ml_3_96 mv_Ho_withoutDrinking (ly_3_2 ok kl0) cls_4 rfl ⟨Nat.le_of_ble_eq_true rfl, Nat.le_of_ble_eq_true rfl⟩ rfl rfl (Nat.le_of_ble_eq_true rfl) (by decide +kernel) ?_
      change V E g tb ρ 4 53 [(0, .ref (ρ l0)), (1, .int l1), (2, .int l2), (3, .int l3)] [] r5
      refine v_goto (pc := 53) (off := 45) (tgt := 98) X (by decide +kernel) (by decide) ?_
      refine v_sub [0, 3] rfl ?_
      exact vjb_Fo_fightsOtherwise_98 ok hi X Y r5 l0 l3 kl0 hf
    · rw [if_neg q4] at hf
      by_cases q6 : l1 = (2 : Int32)
      · rw [if_pos q6] at hf
        refine v_tin (pc := 5) (off := 51) (tgt := 56) X (show decode prog_4_method_12_code 5 = .ok (.tableswitch 86 0 3 #[31, 41, 51, 71], 31) from by decide +kernel) q6 (by decide) (by decide) (by decide) (by decide) ?_
        refine v_aload_n (pc := 56) (k := 0) X (by decide +kernel) 0 rfl ?_
        refine v_geta (pc := 57) X fl_3_12 kl0 fk_3_3 (by decide +kernel) ?_
        refine v_dup (pc := 60) X (by decide +kernel) rfl ?_
        refine v_geti (pc := 61) X fl_3_80 (ly_3_3 ok kl0) rfl (by decide +kernel) ?_
        refine v_iconst (pc := 64) (n := 1) X (by decide +kernel) ic_1 ?_
        refine v_iload_n (pc := 65) (k := 2) X (by decide +kernel) 2 rfl ?_
        refine v_ishl (pc := 66) X (by decide +kernel) ?_
        refine v_iconst (pc := 67) (n := -1) X (by decide +kernel) ic_m1 ?_
        refine v_ixor (pc := 68) X (by decide +kernel) ?_
        refine v_iand (pc := 69) X (by decide +kernel) ?_
        obtain ⟨h7, eh7, hf⟩ := nmd_e hf
        refine v_puti (pc := 70) X fp_3_80 (ly_3_3 ok kl0) rfl (by decide +kernel) eh7 ?_
        refine v_goto (pc := 73) (off := 25) (tgt := 98) X (by decide +kernel) (by decide) ?_
        refine v_sub [0, 3] rfl ?_
        exact vjb_Fo_fightsOtherwise_98 ok hi X Y h7 l0 l3 kl0 hf
      · rw [if_neg q6] at hf
        by_cases q8 : l1 = (3 : Int32)
        · rw [if_pos q8] at hf
          refine v_tin (pc := 5) (off := 71) (tgt := 76) X (show decode prog_4_method_12_code 5 = .ok (.tableswitch 86 0 3 #[31, 41, 51, 71], 31) from by decide +kernel) q8 (by decide) (by decide) (by decide) (by decide) ?_
          refine v_aload_n (pc := 76) (k := 0) X (by decide +kernel) 0 rfl ?_
          refine v_geta (pc := 77) X fl_3_12 kl0 fk_3_3 (by decide +kernel) ?_
          refine v_geta (pc := 80) X fl_3_63 (ly_3_3 ok kl0) fk_11_14 (by decide +kernel) ?_
          refine v_bipush (pc := 83) (n := 99) X (by decide +kernel) bi_99 ?_
          obtain ⟨r9, er9, hf⟩ := bnd_e hf
          refine v_callS (pc := 85) (As := [.ref (ρ (lay tb (lay tb l0 3) 14)), .int (99 : Int32)]) (rest := []) X (mt_Ar_fill ok hi (ly_11_14 ok (ly_3_3 ok kl0)) er9) ml_3_99 ms_Ar_fill ⟨Nat.le_of_ble_eq_true rfl, Nat.le_of_ble_eq_true rfl⟩ rfl rfl (Nat.le_of_ble_eq_true rfl) (by decide +kernel) ?_
          change V E g tb ρ 4 88 [(0, .ref (ρ l0)), (1, .int l1), (2, .int l2), (3, .int l3)] [] r9
          refine v_goto (pc := 88) (off := 10) (tgt := 98) X (by decide +kernel) (by decide) ?_
          refine v_sub [0, 3] rfl ?_
          exact vjb_Fo_fightsOtherwise_98 ok hi X Y r9 l0 l3 kl0 hf
        · rw [if_neg q8] at hf
          refine v_tout (pc := 5) (tgt := 91) X (show decode prog_4_method_12_code 5 = .ok (.tableswitch 86 0 3 #[31, 41, 51, 71], 31) from by decide +kernel) (t_out (lo := 0) (hi := 3) [(0 : Int32), (1 : Int32), (2 : Int32), (3 : Int32)] (by decide) (List.forall_mem_cons.mpr ⟨q2, List.forall_mem_cons.mpr ⟨q4, List.forall_mem_cons.mpr ⟨q6, List.forall_mem_cons.mpr ⟨q8, fun _ h => absurd h List.not_mem_nil⟩⟩⟩⟩)) (by decide) ?_
          refine v_aload_n (pc := 91) (k := 0) X (by decide +kernel) 0 rfl ?_
          refine v_geta (pc := 92) X fl_3_32 kl0 fk_3_2 (by decide +kernel) ?_
          obtain ⟨r10, er10, hf⟩ := nmd_e hf
          refine v_callV (pc := 95) (As := []) (rest := []) X (mt_Ho_withTwicePace ok hi (ly_3_2 ok kl0) er10.symm) ml_3_105 mv_Ho_withTwicePace (ly_3_2 ok kl0) cls_4 rfl ⟨Nat.le_of_ble_eq_true rfl, Nat.le_of_ble_eq_true rfl⟩ rfl rfl (Nat.le_of_ble_eq_true rfl) (by decide +kernel) ?_
          change V E g tb ρ 4 98 [(0, .ref (ρ l0)), (1, .int l1), (2, .int l2), (3, .int l3)] [] r10
          refine v_sub [0, 3] rfl ?_
          exact vjb_Fo_fightsOtherwise_98 ok hi X Y r10 l0 l3 kl0 hf
def jb_Tt_tried_34 (tb : Tb) (h : Hp) (l0 : Nat) (l1 : Int32) (l2 : Int32) (l3 : Int32) (s0 : Int32) : Option (Int32 × Hp) :=
  if s0 = (0 : Int32) then (
    some ((-1 : Int32), h)
  ) else (
    if l3 < (0 : Int32) then (
      some ((-1 : Int32), h)
    ) else (
      if (200 : Int32) < l3 then (
        some ((-1 : Int32), h)
      ) else (
        (f_Fo_fightsOtherwise tb h (lay tb l0 10) l1 l2 l3).bind fun r1 =>
        some (r1.1, r1.2)
      )
    )
  )
def jb_Tt_tried_33 (tb : Tb) (h : Hp) (l0 : Nat) (l1 : Int32) (l2 : Int32) (l3 : Int32) : Option (Int32 × Hp) :=
  jb_Tt_tried_34 tb h l0 l1 l2 l3 (0 : Int32)
def f_Tt_tried (tb : Tb) (h : Hp) (l0 : Nat) (l1 : Int32) (l2 : Int32) (l3 : Int32) : Option (Int32 × Hp) :=
  if l1 = (2 : Int32) then (
    nmd (f_Pl_hasHorse tb h (lay tb l0 3) l2) fun r4 =>
    jb_Tt_tried_34 tb h l0 l1 l2 l3 r4
  ) else (
    if l1 < (0 : Int32) then (
      jb_Tt_tried_33 tb h l0 l1 l2 l3
    ) else (
      if (4 : Int32) < l1 then (
        jb_Tt_tried_33 tb h l0 l1 l2 l3
      ) else (
        if l2 = (0 : Int32) then (
          jb_Tt_tried_34 tb h l0 l1 l2 l3 (1 : Int32)
        ) else (
          jb_Tt_tried_33 tb h l0 l1 l2 l3
        )
      )
    )
  )
set_option maxRecDepth 4000 in
set_option maxHeartbeats 1000000 in
theorem vjb_Tt_tried_34 {E : En} {g : Gl} {tb : Tb} {ρ : Nat → Nat} (ok : TbOK tb) (hi : inj tb ρ) {r : Int32 × Hp} (X : CX E g tb ρ prog_1_method_44_code 5 RC0 7 174) (Y : CQ E g tb ρ (some .int) (some (.int r.1)) r.2) (h : Hp) (l0 : Nat) (l1 : Int32) (l2 : Int32) (l3 : Int32) (s0 : Int32) (kl0 : kd tb l0 = 0) (hf : jb_Tt_tried_34 tb h l0 l1 l2 l3 s0 = some r) : V E g tb ρ 5 34 [(0, .ref (ρ l0)), (1, .int l1), (2, .int l2), (3, .int l3)] [.int s0] h := by
  unfold jb_Tt_tried_34 at hf
  refine v_istore (pc := 34) (k := 4) (lv' := [(4, .int s0), (0, .ref (ρ l0)), (1, .int l1), (2, .int l2), (3, .int l3)]) X (by decide +kernel) (Nat.le_of_ble_eq_true rfl) rfl ?_
  refine v_iload (pc := 36) (k := 4) X (by decide +kernel) 0 rfl ?_
  refine v_if_eq (pc := 38) (off := 27) (tgt := 65) X (by decide +kernel) (by decide) (fun q4 => ?_) (fun q4 => ?_)
  · rw [if_pos q4] at hf
    refine v_iconst (pc := 65) (n := -1) X (by decide +kernel) ic_m1 ?_
    cases hf
    exact v_iret X Y (by decide +kernel) rfl rfl
  · rw [if_neg q4] at hf
    refine v_iload_n (pc := 41) (k := 3) X (by decide +kernel) 4 rfl ?_
    refine v_if_lt (pc := 42) (off := 23) (tgt := 65) X (by decide +kernel) (by decide) (fun q3 => ?_) (fun q3 => ?_)
    · rw [if_pos q3] at hf
      refine v_iconst (pc := 65) (n := -1) X (by decide +kernel) ic_m1 ?_
      cases hf
      exact v_iret X Y (by decide +kernel) rfl rfl
    · rw [if_neg q3] at hf
      refine v_iload_n (pc := 45) (k := 3) X (by decide +kernel) 4 rfl ?_
      refine v_sipush (pc := 46) (n := 200) X (by decide +kernel) si_200 ?_
      refine v_icmp_gt (pc := 49) (off := 16) (tgt := 65) X (by decide +kernel) (by decide) (fun q2 => ?_) (fun q2 => ?_)
      · rw [if_pos q2] at hf
        refine v_iconst (pc := 65) (n := -1) X (by decide +kernel) ic_m1 ?_
        cases hf
        exact v_iret X Y (by decide +kernel) rfl rfl
      · rw [if_neg q2] at hf
        refine v_aload_n (pc := 52) (k := 0) X (by decide +kernel) 1 rfl ?_
        refine v_geta (pc := 53) X fl_0_77 kl0 fk_0_10 (by decide +kernel) ?_
        refine v_iload_n (pc := 56) (k := 1) X (by decide +kernel) 2 rfl ?_
        refine v_iload_n (pc := 57) (k := 2) X (by decide +kernel) 3 rfl ?_
        refine v_iload_n (pc := 58) (k := 3) X (by decide +kernel) 4 rfl ?_
        obtain ⟨r1, er1, hf⟩ := bnd_e hf
        refine v_callV (pc := 59) (As := [.int l1, .int l2, .int l3]) (rest := []) X (mt_Fo_fightsOtherwise ok hi (ly_0_10 ok kl0) er1) ml_0_327 mv_Fo_fightsOtherwise (ly_0_10 ok kl0) cls_3 rfl ⟨Nat.le_of_ble_eq_true rfl, Nat.le_of_ble_eq_true rfl⟩ rfl rfl (Nat.le_of_ble_eq_true rfl) (by decide +kernel) ?_
        change V E g tb ρ 5 62 [(4, .int s0), (0, .ref (ρ l0)), (1, .int l1), (2, .int l2), (3, .int l3)] [.int r1.1] r1.2
        refine v_goto (pc := 62) (off := 4) (tgt := 66) X (by decide +kernel) (by decide) ?_
        cases hf
        exact v_iret X Y (by decide +kernel) rfl rfl
set_option maxRecDepth 4000 in
set_option maxHeartbeats 1000000 in
theorem vjb_Tt_tried_33 {E : En} {g : Gl} {tb : Tb} {ρ : Nat → Nat} (ok : TbOK tb) (hi : inj tb ρ) {r : Int32 × Hp} (X : CX E g tb ρ prog_1_method_44_code 5 RC0 7 174) (Y : CQ E g tb ρ (some .int) (some (.int r.1)) r.2) (h : Hp) (l0 : Nat) (l1 : Int32) (l2 : Int32) (l3 : Int32) (kl0 : kd tb l0 = 0) (hf : jb_Tt_tried_33 tb h l0 l1 l2 l3 = some r) : V E g tb ρ 5 33 [(0, .ref (ρ l0)), (1, .int l1), (2, .int l2), (3, .int l3)] [] h := by
  unfold jb_Tt_tried_33 at hf
  refine v_iconst (pc := 33) (n := 0) X (by decide +kernel) ic_0 ?_
  exact vjb_Tt_tried_34 ok hi X Y h l0 l1 l2 l3 (0 : Int32) kl0 hf
set_option maxRecDepth 4000 in
set_option maxHeartbeats 1000000 in
theorem mt_Tt_tried {g : Gl} {tb : Tb} {ρ : Nat → Nat} (ok : TbOK tb) (hi : inj tb ρ) {h : Hp} {l0 : Nat} {l1 : Int32} {l2 : Int32} {l3 : Int32} (kl0 : kd tb l0 = 0) {r : Int32 × Hp} (hf : f_Tt_tried tb h l0 l1 l2 l3 = some r) : MT g y_Tt_tried prog_1_method_44_code 5 (some .int) 7 174 tb ρ [.ref (ρ l0), .int l1, .int l2, .int l3] h (some (.int r.1)) r.2 := by
  refine mt_intro (by decide +kernel) ok hi (Nat.le_of_ble_eq_true rfl) (fun E X Y => ?_)
  change V E g tb ρ 5 0 [(0, .ref (ρ l0)), (1, .int l1), (2, .int l2), (3, .int l3)] [] h
  unfold f_Tt_tried at hf
  refine v_iload_n (pc := 0) (k := 1) X (by decide +kernel) 1 rfl ?_
  refine v_iconst (pc := 1) (n := 2) X (by decide +kernel) ic_2 ?_
  refine v_icmp_ne (pc := 2) (off := 14) (tgt := 16) X (by decide +kernel) (by decide) (fun q5 => ?_) (fun q5 => ?_)
  · rw [if_neg q5] at hf
    refine v_iload_n (pc := 16) (k := 1) X (by decide +kernel) 1 rfl ?_
    refine v_if_lt (pc := 17) (off := 16) (tgt := 33) X (by decide +kernel) (by decide) (fun q3 => ?_) (fun q3 => ?_)
    · rw [if_pos q3] at hf
      exact vjb_Tt_tried_33 ok hi X Y h l0 l1 l2 l3 kl0 hf
    · rw [if_neg q3] at hf
      refine v_iload_n (pc := 20) (k := 1) X (by decide +kernel) 1 rfl ?_
      refine v_iconst (pc := 21) (n := 4) X (by decide +kernel) ic_4 ?_
      refine v_icmp_gt (pc := 22) (off := 11) (tgt := 33) X (by decide +kernel) (by decide) (fun q2 => ?_) (fun q2 => ?_)
      · rw [if_pos q2] at hf
        exact vjb_Tt_tried_33 ok hi X Y h l0 l1 l2 l3 kl0 hf
      · rw [if_neg q2] at hf
        refine v_iload_n (pc := 25) (k := 2) X (by decide +kernel) 2 rfl ?_
        refine v_if_ne (pc := 26) (off := 7) (tgt := 33) X (by decide +kernel) (by decide) (fun q1 => ?_) (fun q1 => ?_)
        · rw [if_neg q1] at hf
          exact vjb_Tt_tried_33 ok hi X Y h l0 l1 l2 l3 kl0 hf
        · rw [if_pos q1] at hf
          refine v_iconst (pc := 29) (n := 1) X (by decide +kernel) ic_1 ?_
          refine v_goto (pc := 30) (off := 4) (tgt := 34) X (by decide +kernel) (by decide) ?_
          exact vjb_Tt_tried_34 ok hi X Y h l0 l1 l2 l3 (1 : Int32) kl0 hf
  · rw [if_pos q5] at hf
    refine v_aload_n (pc := 5) (k := 0) X (by decide +kernel) 0 rfl ?_
    refine v_geta (pc := 6) X fl_0_31 kl0 fk_0_3 (by decide +kernel) ?_
    refine v_iload_n (pc := 9) (k := 2) X (by decide +kernel) 2 rfl ?_
    obtain ⟨r4, er4, hf⟩ := nmd_e hf
    refine v_callV (pc := 10) (As := [.int l2]) (rest := []) X (mt_Pl_hasHorse ok hi (ly_0_3 ok kl0) er4.symm) ml_0_132 mv_Pl_hasHorse (ly_0_3 ok kl0) cls_7 rfl ⟨Nat.le_of_ble_eq_true rfl, Nat.le_of_ble_eq_true rfl⟩ rfl rfl (Nat.le_of_ble_eq_true rfl) (by decide +kernel) ?_
    change V E g tb ρ 5 13 [(0, .ref (ρ l0)), (1, .int l1), (2, .int l2), (3, .int l3)] [.int r4] h
    refine v_goto (pc := 13) (off := 21) (tgt := 34) X (by decide +kernel) (by decide) ?_
    exact vjb_Tt_tried_34 ok hi X Y h l0 l1 l2 l3 r4 kl0 hf
def jb_De_undoLatest_104 (tb : Tb) (h : Hp) (l0 : Nat) : Option (Int32 × Hp) :=
  some (h.1 l0 0, h)
def f_De_undoLatest (tb : Tb) (h : Hp) (l0 : Nat) (l1 : Nat) : Option (Int32 × Hp) :=
  if (h.1 l0 0) = (0 : Int32) then (
    some ((-1 : Int32), h)
  ) else (
    nmd (pI h l0 0 ((h.1 l0 0) - (1 : Int32))) fun h1 =>
    (rI tb h1 (lay tb l0 1) (h1.1 l0 0)).bind fun x2 =>
    if x2 = (-1 : Int32) then (
      (rI tb h1 (lay tb l0 2) (h1.1 l0 0)).bind fun x3 =>
      (rI tb h1 (lay tb l0 5) (h1.1 l0 0)).bind fun x4 =>
      (wI tb h1 (lay tb l1 14) x3 x4).bind fun h5 =>
      jb_De_undoLatest_104 tb h5 l0
    ) else (
      (rI tb h1 (lay tb l0 1) (h1.1 l0 0)).bind fun x6 =>
      (rI tb h1 (lay tb l0 3) (h1.1 l0 0)).bind fun x7 =>
      (wI tb h1 (lay tb l1 9) x6 x7).bind fun h8 =>
      (rI tb h8 (lay tb l0 1) (h8.1 l0 0)).bind fun x9 =>
      (rI tb h8 (lay tb l0 4) (h8.1 l0 0)).bind fun x10 =>
      (wI tb h8 (lay tb l1 12) x9 x10).bind fun h11 =>
      jb_De_undoLatest_104 tb h11 l0
    )
  )
set_option maxRecDepth 4000 in
set_option maxHeartbeats 1000000 in
theorem vjb_De_undoLatest_104 {E : En} {g : Gl} {tb : Tb} {ρ : Nat → Nat} (ok : TbOK tb) (hi : inj tb ρ) {r : Int32 × Hp} (X : CX E g tb ρ prog_3_method_7_code 2 RC2 0 0) (Y : CQ E g tb ρ (some .int) (some (.int r.1)) r.2) (h : Hp) (l0 : Nat) (kl0 : kd tb l0 = 2) (hf : jb_De_undoLatest_104 tb h l0 = some r) : V E g tb ρ 2 104 [(0, .ref (ρ l0))] [] h := by
  unfold jb_De_undoLatest_104 at hf
  refine v_aload_n (pc := 104) (k := 0) X (by decide +kernel) 0 rfl ?_
  refine v_geti (pc := 105) X fl_2_9 kl0 rfl (by decide +kernel) ?_
  cases hf
  exact v_iret X Y (by decide +kernel) rfl rfl
set_option maxRecDepth 4000 in
set_option maxHeartbeats 1000000 in
theorem mt_De_undoLatest {g : Gl} {tb : Tb} {ρ : Nat → Nat} (ok : TbOK tb) (hi : inj tb ρ) {h : Hp} {l0 : Nat} {l1 : Nat} (kl0 : kd tb l0 = 2) (kl1 : kd tb l1 = 11) {r : Int32 × Hp} (hf : f_De_undoLatest tb h l0 l1 = some r) : MT g y_De_undoLatest prog_3_method_7_code 2 (some .int) 0 0 tb ρ [.ref (ρ l0), .ref (ρ l1)] h (some (.int r.1)) r.2 := by
  refine mt_intro (by decide +kernel) ok hi (Nat.le_of_ble_eq_true rfl) (fun E X Y => ?_)
  change V E g tb ρ 2 0 [(0, .ref (ρ l0)), (1, .ref (ρ l1))] [] h
  unfold f_De_undoLatest at hf
  refine v_aload_n (pc := 0) (k := 0) X (by decide +kernel) 0 rfl ?_
  refine v_geti (pc := 1) X fl_2_9 kl0 rfl (by decide +kernel) ?_
  refine v_if_ne (pc := 4) (off := 5) (tgt := 9) X (by decide +kernel) (by decide) (fun q13 => ?_) (fun q13 => ?_)
  · rw [if_neg q13] at hf
    refine v_aload_n (pc := 9) (k := 0) X (by decide +kernel) 0 rfl ?_
    refine v_dup (pc := 10) X (by decide +kernel) rfl ?_
    refine v_geti (pc := 11) X fl_2_9 kl0 rfl (by decide +kernel) ?_
    refine v_iconst (pc := 14) (n := 1) X (by decide +kernel) ic_1 ?_
    refine v_isub (pc := 15) X (by decide +kernel) ?_
    obtain ⟨h1, eh1, hf⟩ := nmd_e hf
    refine v_puti (pc := 16) X fp_2_9 kl0 rfl (by decide +kernel) eh1 ?_
    refine v_aload_n (pc := 19) (k := 0) X (by decide +kernel) 0 rfl ?_
    refine v_geta (pc := 20) X fl_2_15 kl0 fk_2_1 (by decide +kernel) ?_
    refine v_aload_n (pc := 23) (k := 0) X (by decide +kernel) 0 rfl ?_
    refine v_geti (pc := 24) X fl_2_9 kl0 rfl (by decide +kernel) ?_
    obtain ⟨x2, ex2, hf⟩ := bnd_e hf
    refine v_iald (pc := 27) X (ly_2_1 ok kl0) ex2 (by decide +kernel) ?_
    refine v_iconst (pc := 28) (n := -1) X (by decide +kernel) ic_m1 ?_
    refine v_icmp_eq (pc := 29) (off := 52) (tgt := 81) X (by decide +kernel) (by decide) (fun q12 => ?_) (fun q12 => ?_)
    · rw [if_pos q12] at hf
      refine v_aload_n (pc := 81) (k := 1) X (by decide +kernel) 1 rfl ?_
      refine v_geta (pc := 82) X fl_2_38 kl1 fk_11_14 (by decide +kernel) ?_
      refine v_aload_n (pc := 85) (k := 0) X (by decide +kernel) 0 rfl ?_
      refine v_geta (pc := 86) X fl_2_19 kl0 fk_2_2 (by decide +kernel) ?_
      refine v_aload_n (pc := 89) (k := 0) X (by decide +kernel) 0 rfl ?_
      refine v_geti (pc := 90) X fl_2_9 kl0 rfl (by decide +kernel) ?_
      obtain ⟨x3, ex3, hf⟩ := bnd_e hf
      refine v_iald (pc := 93) X (ly_2_2 ok kl0) ex3 (by decide +kernel) ?_
      refine v_aload_n (pc := 94) (k := 0) X (by decide +kernel) 0 rfl ?_
      refine v_geta (pc := 95) X fl_2_28 kl0 fk_2_5 (by decide +kernel) ?_
      refine v_aload_n (pc := 98) (k := 0) X (by decide +kernel) 0 rfl ?_
      refine v_geti (pc := 99) X fl_2_9 kl0 rfl (by decide +kernel) ?_
      obtain ⟨x4, ex4, hf⟩ := bnd_e hf
      refine v_iald (pc := 102) X (ly_2_5 ok kl0) ex4 (by decide +kernel) ?_
      obtain ⟨h5, eh5, hf⟩ := bnd_e hf
      refine v_iast (pc := 103) X (ly_11_14 ok kl1) eh5 (by decide +kernel) ?_
      refine v_sub [0] rfl ?_
      exact vjb_De_undoLatest_104 ok hi X Y h5 l0 kl0 hf
    · rw [if_neg q12] at hf
      refine v_aload_n (pc := 32) (k := 1) X (by decide +kernel) 1 rfl ?_
      refine v_geta (pc := 33) X fl_2_34 kl1 fk_11_9 (by decide +kernel) ?_
      refine v_aload_n (pc := 36) (k := 0) X (by decide +kernel) 0 rfl ?_
      refine v_geta (pc := 37) X fl_2_15 kl0 fk_2_1 (by decide +kernel) ?_
      refine v_aload_n (pc := 40) (k := 0) X (by decide +kernel) 0 rfl ?_
      refine v_geti (pc := 41) X fl_2_9 kl0 rfl (by decide +kernel) ?_
      obtain ⟨x6, ex6, hf⟩ := bnd_e hf
      refine v_iald (pc := 44) X (ly_2_1 ok kl0) ex6 (by decide +kernel) ?_
      refine v_aload_n (pc := 45) (k := 0) X (by decide +kernel) 0 rfl ?_
      refine v_geta (pc := 46) X fl_2_22 kl0 fk_2_3 (by decide +kernel) ?_
      refine v_aload_n (pc := 49) (k := 0) X (by decide +kernel) 0 rfl ?_
      refine v_geti (pc := 50) X fl_2_9 kl0 rfl (by decide +kernel) ?_
      obtain ⟨x7, ex7, hf⟩ := bnd_e hf
      refine v_iald (pc := 53) X (ly_2_3 ok kl0) ex7 (by decide +kernel) ?_
      obtain ⟨h8, eh8, hf⟩ := bnd_e hf
      refine v_iast (pc := 54) X (ly_11_9 ok kl1) eh8 (by decide +kernel) ?_
      refine v_aload_n (pc := 55) (k := 1) X (by decide +kernel) 1 rfl ?_
      refine v_geta (pc := 56) X fl_2_37 kl1 fk_11_12 (by decide +kernel) ?_
      refine v_aload_n (pc := 59) (k := 0) X (by decide +kernel) 0 rfl ?_
      refine v_geta (pc := 60) X fl_2_15 kl0 fk_2_1 (by decide +kernel) ?_
      refine v_aload_n (pc := 63) (k := 0) X (by decide +kernel) 0 rfl ?_
      refine v_geti (pc := 64) X fl_2_9 kl0 rfl (by decide +kernel) ?_
      obtain ⟨x9, ex9, hf⟩ := bnd_e hf
      refine v_iald (pc := 67) X (ly_2_1 ok kl0) ex9 (by decide +kernel) ?_
      refine v_aload_n (pc := 68) (k := 0) X (by decide +kernel) 0 rfl ?_
      refine v_geta (pc := 69) X fl_2_25 kl0 fk_2_4 (by decide +kernel) ?_
      refine v_aload_n (pc := 72) (k := 0) X (by decide +kernel) 0 rfl ?_
      refine v_geti (pc := 73) X fl_2_9 kl0 rfl (by decide +kernel) ?_
      obtain ⟨x10, ex10, hf⟩ := bnd_e hf
      refine v_iald (pc := 76) X (ly_2_4 ok kl0) ex10 (by decide +kernel) ?_
      obtain ⟨h11, eh11, hf⟩ := bnd_e hf
      refine v_iast (pc := 77) X (ly_11_12 ok kl1) eh11 (by decide +kernel) ?_
      refine v_goto (pc := 78) (off := 26) (tgt := 104) X (by decide +kernel) (by decide) ?_
      refine v_sub [0] rfl ?_
      exact vjb_De_undoLatest_104 ok hi X Y h11 l0 kl0 hf
  · rw [if_pos q13] at hf
    refine v_iconst (pc := 7) (n := -1) X (by decide +kernel) ic_m1 ?_
    cases hf
    exact v_iret X Y (by decide +kernel) rfl rfl
def f_Tt_undo (tb : Tb) (h : Hp) (l0 : Nat) : Option (Int32 × Hp) :=
  (f_De_undoLatest tb h (lay tb l0 7) (lay tb l0 4)).bind fun r1 =>
  some (r1.1, r1.2)
set_option maxRecDepth 4000 in
set_option maxHeartbeats 1000000 in
theorem mt_Tt_undo {g : Gl} {tb : Tb} {ρ : Nat → Nat} (ok : TbOK tb) (hi : inj tb ρ) {h : Hp} {l0 : Nat} (kl0 : kd tb l0 = 0) {r : Int32 × Hp} (hf : f_Tt_undo tb h l0 = some r) : MT g y_Tt_undo prog_1_method_45_code 1 (some .int) 1 21 tb ρ [.ref (ρ l0)] h (some (.int r.1)) r.2 := by
  refine mt_intro (by decide +kernel) ok hi (Nat.le_of_ble_eq_true rfl) (fun E X Y => ?_)
  change V E g tb ρ 1 0 [(0, .ref (ρ l0))] [] h
  unfold f_Tt_undo at hf
  refine v_aload_n (pc := 0) (k := 0) X (by decide +kernel) 0 rfl ?_
  refine v_geta (pc := 1) X fl_0_52 kl0 fk_0_7 (by decide +kernel) ?_
  refine v_aload_n (pc := 4) (k := 0) X (by decide +kernel) 0 rfl ?_
  refine v_geta (pc := 5) X fl_0_38 kl0 fk_0_4 (by decide +kernel) ?_
  obtain ⟨r1, er1, hf⟩ := bnd_e hf
  refine v_callV (pc := 8) (As := [.ref (ρ (lay tb l0 4))]) (rest := []) X (mt_De_undoLatest ok hi (ly_0_7 ok kl0) (ly_0_4 ok kl0) er1) ml_0_330 mv_De_undoLatest (ly_0_7 ok kl0) cls_2 rfl ⟨Nat.le_of_ble_eq_true rfl, Nat.le_of_ble_eq_true rfl⟩ rfl rfl (Nat.le_of_ble_eq_true rfl) (by decide +kernel) ?_
  change V E g tb ρ 1 11 [(0, .ref (ρ l0))] [.int r1.1] r1.2
  cases hf
  exact v_iret X Y (by decide +kernel) rfl rfl
def f_Tt_keep (tb : Tb) (h : Hp) (l0 : Nat) : Option (Int32 × Hp) :=
  (f_Wo_become tb h (lay tb l0 5) (lay tb l0 4)).bind fun r1 =>
  nmd (pI r1 l0 6 (1 : Int32)) fun h2 =>
  some (h2.1 (lay tb l0 4) 0, h2)
set_option maxRecDepth 4000 in
set_option maxHeartbeats 1000000 in
theorem mt_Tt_keep {g : Gl} {tb : Tb} {ρ : Nat → Nat} (ok : TbOK tb) (hi : inj tb ρ) {h : Hp} {l0 : Nat} (kl0 : kd tb l0 = 0) {r : Int32 × Hp} (hf : f_Tt_keep tb h l0 = some r) : MT g y_Tt_keep prog_1_method_46_code 1 (some .int) 3 60 tb ρ [.ref (ρ l0)] h (some (.int r.1)) r.2 := by
  refine mt_intro (by decide +kernel) ok hi (Nat.le_of_ble_eq_true rfl) (fun E X Y => ?_)
  change V E g tb ρ 1 0 [(0, .ref (ρ l0))] [] h
  unfold f_Tt_keep at hf
  refine v_aload_n (pc := 0) (k := 0) X (by decide +kernel) 0 rfl ?_
  refine v_geta (pc := 1) X fl_0_42 kl0 fk_0_5 (by decide +kernel) ?_
  refine v_aload_n (pc := 4) (k := 0) X (by decide +kernel) 0 rfl ?_
  refine v_geta (pc := 5) X fl_0_38 kl0 fk_0_4 (by decide +kernel) ?_
  obtain ⟨r1, er1, hf⟩ := bnd_e hf
  refine v_callV (pc := 8) (As := [.ref (ρ (lay tb l0 4))]) (rest := []) X (mt_Wo_become ok hi (ly_0_5 ok kl0) (ly_0_4 ok kl0) er1) ml_0_334 mv_Wo_become (ly_0_5 ok kl0) cls_11 rfl ⟨Nat.le_of_ble_eq_true rfl, Nat.le_of_ble_eq_true rfl⟩ rfl rfl (Nat.le_of_ble_eq_true rfl) (by decide +kernel) ?_
  change V E g tb ρ 1 11 [(0, .ref (ρ l0))] [] r1
  refine v_aload_n (pc := 11) (k := 0) X (by decide +kernel) 0 rfl ?_
  refine v_iconst (pc := 12) (n := 1) X (by decide +kernel) ic_1 ?_
  obtain ⟨h2, eh2, hf⟩ := nmd_e hf
  refine v_putz (pc := 13) X fp_0_45 kl0 rfl rfl (by decide +kernel) eh2 ?_
  refine v_aload_n (pc := 16) (k := 0) X (by decide +kernel) 0 rfl ?_
  refine v_geta (pc := 17) X fl_0_38 kl0 fk_0_4 (by decide +kernel) ?_
  refine v_geti (pc := 20) X fl_0_208 (ly_0_4 ok kl0) rfl (by decide +kernel) ?_
  cases hf
  exact v_iret X Y (by decide +kernel) rfl rfl
def f_Tt_back (tb : Tb) (h : Hp) (l0 : Nat) : Option (Int32 × Hp) :=
  if (h.1 l0 6) = (0 : Int32) then (
    some ((-1 : Int32), h)
  ) else (
    (f_Wo_become tb h (lay tb l0 4) (lay tb l0 5)).bind fun r1 =>
    nmd (f_De_forget tb r1 (lay tb l0 7)) fun r2 =>
    some (r2.1 (lay tb l0 4) 0, r2)
  )
set_option maxRecDepth 4000 in
set_option maxHeartbeats 1000000 in
theorem mt_Tt_back {g : Gl} {tb : Tb} {ρ : Nat → Nat} (ok : TbOK tb) (hi : inj tb ρ) {h : Hp} {l0 : Nat} (kl0 : kd tb l0 = 0) {r : Int32 × Hp} (hf : f_Tt_back tb h l0 = some r) : MT g y_Tt_back prog_1_method_47_code 1 (some .int) 3 60 tb ρ [.ref (ρ l0)] h (some (.int r.1)) r.2 := by
  refine mt_intro (by decide +kernel) ok hi (Nat.le_of_ble_eq_true rfl) (fun E X Y => ?_)
  change V E g tb ρ 1 0 [(0, .ref (ρ l0))] [] h
  unfold f_Tt_back at hf
  refine v_aload_n (pc := 0) (k := 0) X (by decide +kernel) 0 rfl ?_
  refine v_geti (pc := 1) X fl_0_45 kl0 rfl (by decide +kernel) ?_
  refine v_if_ne (pc := 4) (off := 5) (tgt := 9) X (by decide +kernel) (by decide) (fun q3 => ?_) (fun q3 => ?_)
  · rw [if_neg q3] at hf
    refine v_aload_n (pc := 9) (k := 0) X (by decide +kernel) 0 rfl ?_
    refine v_geta (pc := 10) X fl_0_38 kl0 fk_0_4 (by decide +kernel) ?_
    refine v_aload_n (pc := 13) (k := 0) X (by decide +kernel) 0 rfl ?_
    refine v_geta (pc := 14) X fl_0_42 kl0 fk_0_5 (by decide +kernel) ?_
    obtain ⟨r1, er1, hf⟩ := bnd_e hf
    refine v_callV (pc := 17) (As := [.ref (ρ (lay tb l0 5))]) (rest := []) X (mt_Wo_become ok hi (ly_0_4 ok kl0) (ly_0_5 ok kl0) er1) ml_0_334 mv_Wo_become (ly_0_4 ok kl0) cls_11 rfl ⟨Nat.le_of_ble_eq_true rfl, Nat.le_of_ble_eq_true rfl⟩ rfl rfl (Nat.le_of_ble_eq_true rfl) (by decide +kernel) ?_
    change V E g tb ρ 1 20 [(0, .ref (ρ l0))] [] r1
    refine v_aload_n (pc := 20) (k := 0) X (by decide +kernel) 0 rfl ?_
    refine v_geta (pc := 21) X fl_0_52 kl0 fk_0_7 (by decide +kernel) ?_
    obtain ⟨r2, er2, hf⟩ := nmd_e hf
    refine v_callV (pc := 24) (As := []) (rest := []) X (mt_De_forget ok hi (ly_0_7 ok kl0) er2.symm) ml_0_105 mv_De_forget (ly_0_7 ok kl0) cls_2 rfl ⟨Nat.le_of_ble_eq_true rfl, Nat.le_of_ble_eq_true rfl⟩ rfl rfl (Nat.le_of_ble_eq_true rfl) (by decide +kernel) ?_
    change V E g tb ρ 1 27 [(0, .ref (ρ l0))] [] r2
    refine v_aload_n (pc := 27) (k := 0) X (by decide +kernel) 0 rfl ?_
    refine v_geta (pc := 28) X fl_0_38 kl0 fk_0_4 (by decide +kernel) ?_
    refine v_geti (pc := 31) X fl_0_208 (ly_0_4 ok kl0) rfl (by decide +kernel) ?_
    cases hf
    exact v_iret X Y (by decide +kernel) rfl rfl
  · rw [if_pos q3] at hf
    refine v_iconst (pc := 7) (n := -1) X (by decide +kernel) ic_m1 ?_
    cases hf
    exact v_iret X Y (by decide +kernel) rfl rfl
def lp_Tt_waterInAll_4 (tb : Tb) : Nat → Hp → Nat → Int32 → Int32 → Option (Int32)
  | 0, _, _, _, _ => none
  | n + 1, h, l0, l1, l2 =>
    if (h.1 (lay tb l0 3) 3) ≤ l2 then (
      some l1
    ) else (
      (rI tb h (lay tb (lay tb l0 4) 14) l2).bind fun x1 =>
      nmd (l1 + x1) fun x2 =>
      nmd (l2 + (1 : Int32)) fun x3 =>
      lp_Tt_waterInAll_4 tb n h l0 x2 x3
    )
def f_Tt_waterInAll (tb : Tb) (h : Hp) (l0 : Nat) : Option (Int32) :=
  lp_Tt_waterInAll_4 tb fu h l0 (0 : Int32) (0 : Int32)
set_option maxRecDepth 4000 in
set_option maxHeartbeats 1000000 in
theorem vlp_Tt_waterInAll_4 {E : En} {g : Gl} {tb : Tb} {ρ : Nat → Nat} (ok : TbOK tb) (hi : inj tb ρ) {r : Int32} (X : CX E g tb ρ prog_1_method_49_code 3 RC0 0 0) {h : Hp} (Y : CQ E g tb ρ (some .int) (some (.int r)) h) : ∀ (n : Nat) (l0 : Nat) (l1 : Int32) (l2 : Int32) (kl0 : kd tb l0 = 0), lp_Tt_waterInAll_4 tb n h l0 l1 l2 = some r → V E g tb ρ 3 4 [(0, .ref (ρ l0)), (1, .int l1), (2, .int l2)] [] h := by
  intro n
  induction n with
  | zero =>
    intro l0 l1 l2 kl0 hf
    rw [lp_Tt_waterInAll_4] at hf
    cases hf
  | succ n ih =>
    intro l0 l1 l2 kl0 hf
    rw [lp_Tt_waterInAll_4] at hf
    refine v_iload_n (pc := 4) (k := 2) X (by decide +kernel) 2 rfl ?_
    refine v_aload_n (pc := 5) (k := 0) X (by decide +kernel) 0 rfl ?_
    refine v_geta (pc := 6) X fl_0_31 kl0 fk_0_3 (by decide +kernel) ?_
    refine v_geti (pc := 9) X fl_0_119 (ly_0_3 ok kl0) rfl (by decide +kernel) ?_
    refine v_icmp_ge (pc := 12) (off := 21) (tgt := 33) X (by decide +kernel) (by decide) (fun q4 => ?_) (fun q4 => ?_)
    · rw [if_pos q4] at hf
      refine v_iload_n (pc := 33) (k := 1) X (by decide +kernel) 1 rfl ?_
      cases hf
      exact v_iret X Y (by decide +kernel) rfl rfl
    · rw [if_neg q4] at hf
      refine v_iload_n (pc := 15) (k := 1) X (by decide +kernel) 1 rfl ?_
      refine v_aload_n (pc := 16) (k := 0) X (by decide +kernel) 0 rfl ?_
      refine v_geta (pc := 17) X fl_0_38 kl0 fk_0_4 (by decide +kernel) ?_
      refine v_geta (pc := 20) X fl_0_171 (ly_0_4 ok kl0) fk_11_14 (by decide +kernel) ?_
      refine v_iload_n (pc := 23) (k := 2) X (by decide +kernel) 2 rfl ?_
      obtain ⟨x1, ex1, hf⟩ := bnd_e hf
      refine v_iald (pc := 24) X (ly_11_14 ok (ly_0_4 ok kl0)) ex1 (by decide +kernel) ?_
      refine v_iadd (pc := 25) X (by decide +kernel) ?_
      obtain ⟨x2, ex2, hf⟩ := nmd_e hf
      refine v_nmi ex2 ?_
      refine v_istore_n (pc := 26) (k := 1) (lv' := [(1, .int x2), (0, .ref (ρ l0)), (2, .int l2)]) X (by decide +kernel) (Nat.le_of_ble_eq_true rfl) rfl ?_
      obtain ⟨x3, ex3, hf⟩ := nmd_e hf
      refine v_iinc (pc := 27) (k := 2) (n := 1) (v := x3) (lv' := [(2, .int x3), (1, .int x2), (0, .ref (ρ l0))]) X (by decide +kernel) 2 rfl (by rw [ic_1, ex3]) (Nat.le_of_ble_eq_true rfl) rfl ?_
      refine v_goto (pc := 30) (off := -26) (tgt := 4) X (by decide +kernel) (by decide) ?_
      refine v_sub [2, 1, 0] rfl ?_
      exact ih l0 x2 x3 kl0 hf
set_option maxRecDepth 4000 in
set_option maxHeartbeats 1000000 in
theorem mt_Tt_waterInAll {g : Gl} {tb : Tb} {ρ : Nat → Nat} (ok : TbOK tb) (hi : inj tb ρ) {h : Hp} {l0 : Nat} (kl0 : kd tb l0 = 0) {r : Int32} (hf : f_Tt_waterInAll tb h l0 = some r) : MT g y_Tt_waterInAll prog_1_method_49_code 3 (some .int) 0 0 tb ρ [.ref (ρ l0)] h (some (.int r)) h := by
  refine mt_intro (by decide +kernel) ok hi (Nat.le_of_ble_eq_true rfl) (fun E X Y => ?_)
  change V E g tb ρ 3 0 [(0, .ref (ρ l0))] [] h
  unfold f_Tt_waterInAll at hf
  refine v_iconst (pc := 0) (n := 0) X (by decide +kernel) ic_0 ?_
  refine v_istore_n (pc := 1) (k := 1) (lv' := [(1, .int (0 : Int32)), (0, .ref (ρ l0))]) X (by decide +kernel) (Nat.le_of_ble_eq_true rfl) rfl ?_
  refine v_iconst (pc := 2) (n := 0) X (by decide +kernel) ic_0 ?_
  refine v_istore_n (pc := 3) (k := 2) (lv' := [(2, .int (0 : Int32)), (1, .int (0 : Int32)), (0, .ref (ρ l0))]) X (by decide +kernel) (Nat.le_of_ble_eq_true rfl) rfl ?_
  refine v_sub [2, 1, 0] rfl ?_
  exact vlp_Tt_waterInAll_4 ok hi X Y fu l0 (0 : Int32) (0 : Int32) kl0 hf
def f_Tt_count (tb : Tb) (h : Hp) (l0 : Nat) (l1 : Int32) : Option (Int32) :=
  if l1 = (0 : Int32) then (
    some (h.1 (lay tb l0 3) 3)
  ) else (
    if l1 = (1 : Int32) then (
      some (h.1 (lay tb l0 3) 4)
    ) else (
      if l1 = (2 : Int32) then (
        some (h.1 (lay tb l0 3) 5)
      ) else (
        if l1 = (3 : Int32) then (
          some (h.1 (lay tb l0 3) 0)
        ) else (
          if l1 = (4 : Int32) then (
            some (h.1 (lay tb (lay tb l0 3) 19) 0)
          ) else (
            if l1 = (5 : Int32) then (
              some (h.1 (lay tb l0 4) 0)
            ) else (
              if l1 = (6 : Int32) then (
                some (h.1 (lay tb l0 4) 3)
              ) else (
                if l1 = (7 : Int32) then (
                  some (h.1 (lay tb l0 4) 4)
                ) else (
                  if l1 = (8 : Int32) then (
                    nmd (f_In_bitCount tb h (h.1 (lay tb l0 4) 2)) fun r10 =>
                    some r10
                  ) else (
                    if l1 = (9 : Int32) then (
                      (f_Tt_waterInAll tb h l0).bind fun r12 =>
                      some r12
                    ) else (
                      if l1 = (10 : Int32) then (
                        some (h.1 (lay tb l0 4) 5)
                      ) else (
                        if l1 = (11 : Int32) then (
                          some (h.1 (lay tb l0 8) 0)
                        ) else (
                          if l1 = (12 : Int32) then (
                            nmd (f_Se_manyKnown tb h (lay tb l0 8)) fun r16 =>
                            some r16
                          ) else (
                            if l1 = (13 : Int32) then (
                              some (h.1 (lay tb l0 7) 0)
                            ) else (
                              some (-1 : Int32)
                            )
                          )
                        )
                      )
                    )
                  )
                )
              )
            )
          )
        )
      )
    )
  )
set_option maxRecDepth 4000 in
set_option maxHeartbeats 1000000 in
theorem mt_Tt_count {g : Gl} {tb : Tb} {ρ : Nat → Nat} (ok : TbOK tb) (hi : inj tb ρ) {h : Hp} {l0 : Nat} {l1 : Int32} (kl0 : kd tb l0 = 0) {r : Int32} (hf : f_Tt_count tb h l0 l1 = some r) : MT g y_Tt_count prog_1_method_48_code 2 (some .int) 1 22 tb ρ [.ref (ρ l0), .int l1] h (some (.int r)) h := by
  refine mt_intro (by decide +kernel) ok hi (Nat.le_of_ble_eq_true rfl) (fun E X Y => ?_)
  change V E g tb ρ 2 0 [(0, .ref (ρ l0)), (1, .int l1)] [] h
  unfold f_Tt_count at hf
  refine v_iload_n (pc := 0) (k := 1) X (by decide +kernel) 1 rfl ?_
  by_cases q1 : l1 = (0 : Int32)
  · rw [if_pos q1] at hf
    refine v_tin (pc := 1) (off := 71) (tgt := 72) X (show decode prog_1_method_48_code 1 = .ok (.tableswitch 186 0 13 #[71, 79, 87, 95, 103, 114, 122, 130, 138, 149, 154, 162, 170, 178], 71) from by decide +kernel) q1 (by decide) (by decide) (by decide) (by decide) ?_
    refine v_aload_n (pc := 72) (k := 0) X (by decide +kernel) 0 rfl ?_
    refine v_geta (pc := 73) X fl_0_31 kl0 fk_0_3 (by decide +kernel) ?_
    refine v_geti (pc := 76) X fl_0_119 (ly_0_3 ok kl0) rfl (by decide +kernel) ?_
    cases hf
    exact v_iret X Y (by decide +kernel) rfl rfl
  · rw [if_neg q1] at hf
    by_cases q2 : l1 = (1 : Int32)
    · rw [if_pos q2] at hf
      refine v_tin (pc := 1) (off := 79) (tgt := 80) X (show decode prog_1_method_48_code 1 = .ok (.tableswitch 186 0 13 #[71, 79, 87, 95, 103, 114, 122, 130, 138, 149, 154, 162, 170, 178], 71) from by decide +kernel) q2 (by decide) (by decide) (by decide) (by decide) ?_
      refine v_aload_n (pc := 80) (k := 0) X (by decide +kernel) 0 rfl ?_
      refine v_geta (pc := 81) X fl_0_31 kl0 fk_0_3 (by decide +kernel) ?_
      refine v_geti (pc := 84) X fl_0_129 (ly_0_3 ok kl0) rfl (by decide +kernel) ?_
      cases hf
      exact v_iret X Y (by decide +kernel) rfl rfl
    · rw [if_neg q2] at hf
      by_cases q3 : l1 = (2 : Int32)
      · rw [if_pos q3] at hf
        refine v_tin (pc := 1) (off := 87) (tgt := 88) X (show decode prog_1_method_48_code 1 = .ok (.tableswitch 186 0 13 #[71, 79, 87, 95, 103, 114, 122, 130, 138, 149, 154, 162, 170, 178], 71) from by decide +kernel) q3 (by decide) (by decide) (by decide) (by decide) ?_
        refine v_aload_n (pc := 88) (k := 0) X (by decide +kernel) 0 rfl ?_
        refine v_geta (pc := 89) X fl_0_31 kl0 fk_0_3 (by decide +kernel) ?_
        refine v_geti (pc := 92) X fl_0_337 (ly_0_3 ok kl0) rfl (by decide +kernel) ?_
        cases hf
        exact v_iret X Y (by decide +kernel) rfl rfl
      · rw [if_neg q3] at hf
        by_cases q4 : l1 = (3 : Int32)
        · rw [if_pos q4] at hf
          refine v_tin (pc := 1) (off := 95) (tgt := 96) X (show decode prog_1_method_48_code 1 = .ok (.tableswitch 186 0 13 #[71, 79, 87, 95, 103, 114, 122, 130, 138, 149, 154, 162, 170, 178], 71) from by decide +kernel) q4 (by decide) (by decide) (by decide) (by decide) ?_
          refine v_aload_n (pc := 96) (k := 0) X (by decide +kernel) 0 rfl ?_
          refine v_geta (pc := 97) X fl_0_31 kl0 fk_0_3 (by decide +kernel) ?_
          refine v_geti (pc := 100) X fl_0_205 (ly_0_3 ok kl0) rfl (by decide +kernel) ?_
          cases hf
          exact v_iret X Y (by decide +kernel) rfl rfl
        · rw [if_neg q4] at hf
          by_cases q5 : l1 = (4 : Int32)
          · rw [if_pos q5] at hf
            refine v_tin (pc := 1) (off := 103) (tgt := 104) X (show decode prog_1_method_48_code 1 = .ok (.tableswitch 186 0 13 #[71, 79, 87, 95, 103, 114, 122, 130, 138, 149, 154, 162, 170, 178], 71) from by decide +kernel) q5 (by decide) (by decide) (by decide) (by decide) ?_
            refine v_aload_n (pc := 104) (k := 0) X (by decide +kernel) 0 rfl ?_
            refine v_geta (pc := 105) X fl_0_31 kl0 fk_0_3 (by decide +kernel) ?_
            refine v_geta (pc := 108) X fl_0_340 (ly_0_3 ok kl0) fk_7_19 (by decide +kernel) ?_
            refine v_geti (pc := 111) X fl_0_344 (ly_7_19 ok (ly_0_3 ok kl0)) rfl (by decide +kernel) ?_
            cases hf
            exact v_iret X Y (by decide +kernel) rfl rfl
          · rw [if_neg q5] at hf
            by_cases q6 : l1 = (5 : Int32)
            · rw [if_pos q6] at hf
              refine v_tin (pc := 1) (off := 114) (tgt := 115) X (show decode prog_1_method_48_code 1 = .ok (.tableswitch 186 0 13 #[71, 79, 87, 95, 103, 114, 122, 130, 138, 149, 154, 162, 170, 178], 71) from by decide +kernel) q6 (by decide) (by decide) (by decide) (by decide) ?_
              refine v_aload_n (pc := 115) (k := 0) X (by decide +kernel) 0 rfl ?_
              refine v_geta (pc := 116) X fl_0_38 kl0 fk_0_4 (by decide +kernel) ?_
              refine v_geti (pc := 119) X fl_0_208 (ly_0_4 ok kl0) rfl (by decide +kernel) ?_
              cases hf
              exact v_iret X Y (by decide +kernel) rfl rfl
            · rw [if_neg q6] at hf
              by_cases q7 : l1 = (6 : Int32)
              · rw [if_pos q7] at hf
                refine v_tin (pc := 1) (off := 122) (tgt := 123) X (show decode prog_1_method_48_code 1 = .ok (.tableswitch 186 0 13 #[71, 79, 87, 95, 103, 114, 122, 130, 138, 149, 154, 162, 170, 178], 71) from by decide +kernel) q7 (by decide) (by decide) (by decide) (by decide) ?_
                refine v_aload_n (pc := 123) (k := 0) X (by decide +kernel) 0 rfl ?_
                refine v_geta (pc := 124) X fl_0_38 kl0 fk_0_4 (by decide +kernel) ?_
                refine v_geti (pc := 127) X fl_0_222 (ly_0_4 ok kl0) rfl (by decide +kernel) ?_
                cases hf
                exact v_iret X Y (by decide +kernel) rfl rfl
              · rw [if_neg q7] at hf
                by_cases q8 : l1 = (7 : Int32)
                · rw [if_pos q8] at hf
                  refine v_tin (pc := 1) (off := 130) (tgt := 131) X (show decode prog_1_method_48_code 1 = .ok (.tableswitch 186 0 13 #[71, 79, 87, 95, 103, 114, 122, 130, 138, 149, 154, 162, 170, 178], 71) from by decide +kernel) q8 (by decide) (by decide) (by decide) (by decide) ?_
                  refine v_aload_n (pc := 131) (k := 0) X (by decide +kernel) 0 rfl ?_
                  refine v_geta (pc := 132) X fl_0_38 kl0 fk_0_4 (by decide +kernel) ?_
                  refine v_geti (pc := 135) X fl_0_225 (ly_0_4 ok kl0) rfl (by decide +kernel) ?_
                  cases hf
                  exact v_iret X Y (by decide +kernel) rfl rfl
                · rw [if_neg q8] at hf
                  by_cases q9 : l1 = (8 : Int32)
                  · rw [if_pos q9] at hf
                    refine v_tin (pc := 1) (off := 138) (tgt := 139) X (show decode prog_1_method_48_code 1 = .ok (.tableswitch 186 0 13 #[71, 79, 87, 95, 103, 114, 122, 130, 138, 149, 154, 162, 170, 178], 71) from by decide +kernel) q9 (by decide) (by decide) (by decide) (by decide) ?_
                    refine v_aload_n (pc := 139) (k := 0) X (by decide +kernel) 0 rfl ?_
                    refine v_geta (pc := 140) X fl_0_38 kl0 fk_0_4 (by decide +kernel) ?_
                    refine v_geti (pc := 143) X fl_0_228 (ly_0_4 ok kl0) rfl (by decide +kernel) ?_
                    obtain ⟨r10, er10, hf⟩ := nmd_e hf
                    refine v_callS (pc := 146) (As := [.int (h.1 (lay tb l0 4) 2)]) (rest := []) X (mt_In_bitCount ok hi er10.symm) ml_0_231 ms_In_bitCount ⟨Nat.le_of_ble_eq_true rfl, Nat.le_of_ble_eq_true rfl⟩ rfl rfl (Nat.le_of_ble_eq_true rfl) (by decide +kernel) ?_
                    change V E g tb ρ 2 149 [(0, .ref (ρ l0)), (1, .int l1)] [.int r10] h
                    cases hf
                    exact v_iret X Y (by decide +kernel) rfl rfl
                  · rw [if_neg q9] at hf
                    by_cases q11 : l1 = (9 : Int32)
                    · rw [if_pos q11] at hf
                      refine v_tin (pc := 1) (off := 149) (tgt := 150) X (show decode prog_1_method_48_code 1 = .ok (.tableswitch 186 0 13 #[71, 79, 87, 95, 103, 114, 122, 130, 138, 149, 154, 162, 170, 178], 71) from by decide +kernel) q11 (by decide) (by decide) (by decide) (by decide) ?_
                      refine v_aload_n (pc := 150) (k := 0) X (by decide +kernel) 0 rfl ?_
                      obtain ⟨r12, er12, hf⟩ := bnd_e hf
                      refine v_callV (pc := 151) (As := []) (rest := []) X (mt_Tt_waterInAll ok hi kl0 er12) ml_0_349 mv_Tt_waterInAll kl0 cls_0 rfl ⟨Nat.le_of_ble_eq_true rfl, Nat.le_of_ble_eq_true rfl⟩ rfl rfl (Nat.le_of_ble_eq_true rfl) (by decide +kernel) ?_
                      change V E g tb ρ 2 154 [(0, .ref (ρ l0)), (1, .int l1)] [.int r12] h
                      cases hf
                      exact v_iret X Y (by decide +kernel) rfl rfl
                    · rw [if_neg q11] at hf
                      by_cases q13 : l1 = (10 : Int32)
                      · rw [if_pos q13] at hf
                        refine v_tin (pc := 1) (off := 154) (tgt := 155) X (show decode prog_1_method_48_code 1 = .ok (.tableswitch 186 0 13 #[71, 79, 87, 95, 103, 114, 122, 130, 138, 149, 154, 162, 170, 178], 71) from by decide +kernel) q13 (by decide) (by decide) (by decide) (by decide) ?_
                        refine v_aload_n (pc := 155) (k := 0) X (by decide +kernel) 0 rfl ?_
                        refine v_geta (pc := 156) X fl_0_38 kl0 fk_0_4 (by decide +kernel) ?_
                        refine v_geti (pc := 159) X fl_0_353 (ly_0_4 ok kl0) rfl (by decide +kernel) ?_
                        cases hf
                        exact v_iret X Y (by decide +kernel) rfl rfl
                      · rw [if_neg q13] at hf
                        by_cases q14 : l1 = (11 : Int32)
                        · rw [if_pos q14] at hf
                          refine v_tin (pc := 1) (off := 162) (tgt := 163) X (show decode prog_1_method_48_code 1 = .ok (.tableswitch 186 0 13 #[71, 79, 87, 95, 103, 114, 122, 130, 138, 149, 154, 162, 170, 178], 71) from by decide +kernel) q14 (by decide) (by decide) (by decide) (by decide) ?_
                          refine v_aload_n (pc := 163) (k := 0) X (by decide +kernel) 0 rfl ?_
                          refine v_geta (pc := 164) X fl_0_59 kl0 fk_0_8 (by decide +kernel) ?_
                          refine v_geti (pc := 167) X fl_0_356 (ly_0_8 ok kl0) rfl (by decide +kernel) ?_
                          cases hf
                          exact v_iret X Y (by decide +kernel) rfl rfl
                        · rw [if_neg q14] at hf
                          by_cases q15 : l1 = (12 : Int32)
                          · rw [if_pos q15] at hf
                            refine v_tin (pc := 1) (off := 170) (tgt := 171) X (show decode prog_1_method_48_code 1 = .ok (.tableswitch 186 0 13 #[71, 79, 87, 95, 103, 114, 122, 130, 138, 149, 154, 162, 170, 178], 71) from by decide +kernel) q15 (by decide) (by decide) (by decide) (by decide) ?_
                            refine v_aload_n (pc := 171) (k := 0) X (by decide +kernel) 0 rfl ?_
                            refine v_geta (pc := 172) X fl_0_59 kl0 fk_0_8 (by decide +kernel) ?_
                            obtain ⟨r16, er16, hf⟩ := nmd_e hf
                            refine v_callV (pc := 175) (As := []) (rest := []) X (mt_Se_manyKnown ok hi (ly_0_8 ok kl0) er16.symm) ml_0_359 mv_Se_manyKnown (ly_0_8 ok kl0) cls_9 rfl ⟨Nat.le_of_ble_eq_true rfl, Nat.le_of_ble_eq_true rfl⟩ rfl rfl (Nat.le_of_ble_eq_true rfl) (by decide +kernel) ?_
                            change V E g tb ρ 2 178 [(0, .ref (ρ l0)), (1, .int l1)] [.int r16] h
                            cases hf
                            exact v_iret X Y (by decide +kernel) rfl rfl
                          · rw [if_neg q15] at hf
                            by_cases q17 : l1 = (13 : Int32)
                            · rw [if_pos q17] at hf
                              refine v_tin (pc := 1) (off := 178) (tgt := 179) X (show decode prog_1_method_48_code 1 = .ok (.tableswitch 186 0 13 #[71, 79, 87, 95, 103, 114, 122, 130, 138, 149, 154, 162, 170, 178], 71) from by decide +kernel) q17 (by decide) (by decide) (by decide) (by decide) ?_
                              refine v_aload_n (pc := 179) (k := 0) X (by decide +kernel) 0 rfl ?_
                              refine v_geta (pc := 180) X fl_0_52 kl0 fk_0_7 (by decide +kernel) ?_
                              refine v_geti (pc := 183) X fl_0_362 (ly_0_7 ok kl0) rfl (by decide +kernel) ?_
                              cases hf
                              exact v_iret X Y (by decide +kernel) rfl rfl
                            · rw [if_neg q17] at hf
                              refine v_tout (pc := 1) (tgt := 187) X (show decode prog_1_method_48_code 1 = .ok (.tableswitch 186 0 13 #[71, 79, 87, 95, 103, 114, 122, 130, 138, 149, 154, 162, 170, 178], 71) from by decide +kernel) (t_out (lo := 0) (hi := 13) [(0 : Int32), (1 : Int32), (2 : Int32), (3 : Int32), (4 : Int32), (5 : Int32), (6 : Int32), (7 : Int32), (8 : Int32), (9 : Int32), (10 : Int32), (11 : Int32), (12 : Int32), (13 : Int32)] (by decide) (List.forall_mem_cons.mpr ⟨q1, List.forall_mem_cons.mpr ⟨q2, List.forall_mem_cons.mpr ⟨q3, List.forall_mem_cons.mpr ⟨q4, List.forall_mem_cons.mpr ⟨q5, List.forall_mem_cons.mpr ⟨q6, List.forall_mem_cons.mpr ⟨q7, List.forall_mem_cons.mpr ⟨q8, List.forall_mem_cons.mpr ⟨q9, List.forall_mem_cons.mpr ⟨q11, List.forall_mem_cons.mpr ⟨q13, List.forall_mem_cons.mpr ⟨q14, List.forall_mem_cons.mpr ⟨q15, List.forall_mem_cons.mpr ⟨q17, fun _ h => absurd h List.not_mem_nil⟩⟩⟩⟩⟩⟩⟩⟩⟩⟩⟩⟩⟩⟩)) (by decide) ?_
                              refine v_iconst (pc := 187) (n := -1) X (by decide +kernel) ic_m1 ?_
                              cases hf
                              exact v_iret X Y (by decide +kernel) rfl rfl
def f_Md_thrown (tb : Tb) (h : Hp) (l0 : Nat) : Int32 :=
  h.1 l0 2
set_option maxRecDepth 4000 in
set_option maxHeartbeats 1000000 in
theorem mt_Md_thrown {g : Gl} {tb : Tb} {ρ : Nat → Nat} (ok : TbOK tb) (hi : inj tb ρ) {h : Hp} {l0 : Nat} (kl0 : kd tb l0 = 12) {r : Int32} (hf : f_Md_thrown tb h l0 = r) : MT g y_Md_thrown prog_14_method_2_code 1 (some .int) 0 0 tb ρ [.ref (ρ l0)] h (some (.int r)) h := by
  refine mt_intro (by decide +kernel) ok hi (Nat.le_of_ble_eq_true rfl) (fun E X Y => ?_)
  change V E g tb ρ 1 0 [(0, .ref (ρ l0))] [] h
  unfold f_Md_thrown at hf
  refine v_aload_n (pc := 0) (k := 0) X (by decide +kernel) 0 rfl ?_
  refine v_geti (pc := 1) X fl_12_160 kl0 rfl (by decide +kernel) ?_
  cases hf
  exact v_iret X Y (by decide +kernel) rfl rfl
def jb_Md_feed_76 (tb : Tb) (c23 : Hp → Nat → Int32 → Int32 → Int32 → Int32 → Int32 → Int32 → Option (Int32 × Hp)) (h : Hp) (l0 : Nat) (l1 : Int32) (l2 : Int32) (l3 : Int32) (l4 : Int32) (l5 : Int32) (l6 : Int32) (s0 : Int32) : Option (Int32 × Hp) :=
  (wI tb h (lay tb l0 0) ((h.1 l0 1) + l6) ((s0 >>> (((24 : Int32) - ((8 : Int32) * (l6 - l6 / (4 : Int32) * (4 : Int32)))) &&& 31)) &&& (255 : Int32))).bind fun h1 =>
  nmd (l6 + (1 : Int32)) fun x2 =>
  c23 h1 l0 l1 l2 l3 l4 l5 x2
def lp_Md_feed_23 (tb : Tb) : Nat → Hp → Nat → Int32 → Int32 → Int32 → Int32 → Int32 → Int32 → Option (Int32 × Hp)
  | 0, _, _, _, _, _, _, _, _ => none
  | n + 1, h, l0, l1, l2, l3, l4, l5, l6 =>
    if (20 : Int32) ≤ l6 then (
      nmd (pI h l0 1 ((h.1 l0 1) + (20 : Int32))) fun h1 =>
      some (h1.1 l0 1, h1)
    ) else (
      if (4 : Int32) ≤ l6 then (
        if (8 : Int32) ≤ l6 then (
          if (12 : Int32) ≤ l6 then (
            if (16 : Int32) ≤ l6 then (
              jb_Md_feed_76 tb (lp_Md_feed_23 tb n) h l0 l1 l2 l3 l4 l5 l6 l5
            ) else (
              jb_Md_feed_76 tb (lp_Md_feed_23 tb n) h l0 l1 l2 l3 l4 l5 l6 l4
            )
          ) else (
            jb_Md_feed_76 tb (lp_Md_feed_23 tb n) h l0 l1 l2 l3 l4 l5 l6 l3
          )
        ) else (
          jb_Md_feed_76 tb (lp_Md_feed_23 tb n) h l0 l1 l2 l3 l4 l5 l6 l2
        )
      ) else (
        jb_Md_feed_76 tb (lp_Md_feed_23 tb n) h l0 l1 l2 l3 l4 l5 l6 l1
      )
    )
def f_Md_feed (tb : Tb) (h : Hp) (l0 : Nat) (l1 : Int32) (l2 : Int32) (l3 : Int32) (l4 : Int32) (l5 : Int32) : Option (Int32 × Hp) :=
  nmd (pI h l0 2 (0 : Int32)) fun h1 =>
  if ((h1.1 l0 1) + (20 : Int32)) ≤ (700 : Int32) then (
    lp_Md_feed_23 tb fu h1 l0 l1 l2 l3 l4 l5 (0 : Int32)
  ) else (
    some ((-1 : Int32), h1)
  )
set_option maxRecDepth 4000 in
set_option maxHeartbeats 1000000 in
theorem vjb_Md_feed_76 {E : En} {g : Gl} {tb : Tb} {ρ : Nat → Nat} (ok : TbOK tb) (hi : inj tb ρ) {r : Int32 × Hp} (X : CX E g tb ρ prog_14_method_3_code 8 RC12 0 0) (Y : CQ E g tb ρ (some .int) (some (.int r.1)) r.2) {c23 : Hp → Nat → Int32 → Int32 → Int32 → Int32 → Int32 → Int32 → Option (Int32 × Hp)} (H23 : ∀ (h : Hp) (l0 : Nat) (l1 : Int32) (l2 : Int32) (l3 : Int32) (l4 : Int32) (l5 : Int32) (l6 : Int32) (kl0 : kd tb l0 = 12), c23 h l0 l1 l2 l3 l4 l5 l6 = some r → V E g tb ρ 8 23 [(0, .ref (ρ l0)), (1, .int l1), (2, .int l2), (3, .int l3), (4, .int l4), (5, .int l5), (6, .int l6)] [] h) (h : Hp) (l0 : Nat) (l1 : Int32) (l2 : Int32) (l3 : Int32) (l4 : Int32) (l5 : Int32) (l6 : Int32) (s0 : Int32) (kl0 : kd tb l0 = 12) (hf : jb_Md_feed_76 tb c23 h l0 l1 l2 l3 l4 l5 l6 s0 = some r) : V E g tb ρ 8 76 [(0, .ref (ρ l0)), (1, .int l1), (2, .int l2), (3, .int l3), (4, .int l4), (5, .int l5), (6, .int l6)] [.int s0] h := by
  unfold jb_Md_feed_76 at hf
  refine v_istore (pc := 76) (k := 7) (lv' := [(7, .int s0), (0, .ref (ρ l0)), (1, .int l1), (2, .int l2), (3, .int l3), (4, .int l4), (5, .int l5), (6, .int l6)]) X (by decide +kernel) (Nat.le_of_ble_eq_true rfl) rfl ?_
  refine v_aload_n (pc := 78) (k := 0) X (by decide +kernel) 1 rfl ?_
  refine v_geta (pc := 79) X fl_12_7 kl0 fk_12_0 (by decide +kernel) ?_
  refine v_aload_n (pc := 82) (k := 0) X (by decide +kernel) 1 rfl ?_
  refine v_geti (pc := 83) X fl_12_163 kl0 rfl (by decide +kernel) ?_
  refine v_iload (pc := 86) (k := 6) X (by decide +kernel) 7 rfl ?_
  refine v_iadd (pc := 88) X (by decide +kernel) ?_
  refine v_iload (pc := 89) (k := 7) X (by decide +kernel) 0 rfl ?_
  refine v_bipush (pc := 91) (n := 24) X (by decide +kernel) bi_24 ?_
  refine v_bipush (pc := 93) (n := 8) X (by decide +kernel) bi_8 ?_
  refine v_iload (pc := 95) (k := 6) X (by decide +kernel) 7 rfl ?_
  refine v_iconst (pc := 97) (n := 4) X (by decide +kernel) ic_4 ?_
  refine v_irem (pc := 98) X (if_neg (by decide)) (by decide +kernel) ?_
  refine v_imul (pc := 99) X (by decide +kernel) ?_
  refine v_isub (pc := 100) X (by decide +kernel) ?_
  refine v_ishr (pc := 101) X (by decide +kernel) ?_
  refine v_sipush (pc := 102) (n := 255) X (by decide +kernel) si_255 ?_
  refine v_iand (pc := 105) X (by decide +kernel) ?_
  obtain ⟨h1, eh1, hf⟩ := bnd_e hf
  refine v_iast (pc := 106) X (ly_12_0 ok kl0) eh1 (by decide +kernel) ?_
  obtain ⟨x2, ex2, hf⟩ := nmd_e hf
  refine v_iinc (pc := 107) (k := 6) (n := 1) (v := x2) (lv' := [(6, .int x2), (7, .int s0), (0, .ref (ρ l0)), (1, .int l1), (2, .int l2), (3, .int l3), (4, .int l4), (5, .int l5)]) X (by decide +kernel) 7 rfl (by rw [ic_1, ex2]) (Nat.le_of_ble_eq_true rfl) rfl ?_
  refine v_goto (pc := 110) (off := -87) (tgt := 23) X (by decide +kernel) (by decide) ?_
  refine v_sub [2, 3, 4, 5, 6, 7, 0] rfl ?_
  exact H23 h1 l0 l1 l2 l3 l4 l5 x2 kl0 hf
set_option maxRecDepth 4000 in
set_option maxHeartbeats 1000000 in
theorem vlp_Md_feed_23 {E : En} {g : Gl} {tb : Tb} {ρ : Nat → Nat} (ok : TbOK tb) (hi : inj tb ρ) {r : Int32 × Hp} (X : CX E g tb ρ prog_14_method_3_code 8 RC12 0 0) (Y : CQ E g tb ρ (some .int) (some (.int r.1)) r.2) : ∀ (n : Nat) (h : Hp) (l0 : Nat) (l1 : Int32) (l2 : Int32) (l3 : Int32) (l4 : Int32) (l5 : Int32) (l6 : Int32) (kl0 : kd tb l0 = 12), lp_Md_feed_23 tb n h l0 l1 l2 l3 l4 l5 l6 = some r → V E g tb ρ 8 23 [(0, .ref (ρ l0)), (1, .int l1), (2, .int l2), (3, .int l3), (4, .int l4), (5, .int l5), (6, .int l6)] [] h := by
  intro n
  induction n with
  | zero =>
    intro h l0 l1 l2 l3 l4 l5 l6 kl0 hf
    rw [lp_Md_feed_23] at hf
    cases hf
  | succ n ih =>
    intro h l0 l1 l2 l3 l4 l5 l6 kl0 hf
    rw [lp_Md_feed_23] at hf
    refine v_iload (pc := 23) (k := 6) X (by decide +kernel) 6 rfl ?_
    refine v_bipush (pc := 25) (n := 20) X (by decide +kernel) bi_20 ?_
    refine v_icmp_ge (pc := 27) (off := 86) (tgt := 113) X (by decide +kernel) (by decide) (fun q6 => ?_) (fun q6 => ?_)
    · rw [if_pos q6] at hf
      refine v_aload_n (pc := 113) (k := 0) X (by decide +kernel) 0 rfl ?_
      refine v_dup (pc := 114) X (by decide +kernel) rfl ?_
      refine v_geti (pc := 115) X fl_12_163 kl0 rfl (by decide +kernel) ?_
      refine v_bipush (pc := 118) (n := 20) X (by decide +kernel) bi_20 ?_
      refine v_iadd (pc := 120) X (by decide +kernel) ?_
      obtain ⟨h1, eh1, hf⟩ := nmd_e hf
      refine v_puti (pc := 121) X fp_12_163 kl0 rfl (by decide +kernel) eh1 ?_
      refine v_aload_n (pc := 124) (k := 0) X (by decide +kernel) 0 rfl ?_
      refine v_geti (pc := 125) X fl_12_163 kl0 rfl (by decide +kernel) ?_
      cases hf
      exact v_iret X Y (by decide +kernel) rfl rfl
    · rw [if_neg q6] at hf
      refine v_iload (pc := 30) (k := 6) X (by decide +kernel) 6 rfl ?_
      refine v_iconst (pc := 32) (n := 4) X (by decide +kernel) ic_4 ?_
      refine v_icmp_ge (pc := 33) (off := 7) (tgt := 40) X (by decide +kernel) (by decide) (fun q5 => ?_) (fun q5 => ?_)
      · rw [if_pos q5] at hf
        refine v_iload (pc := 40) (k := 6) X (by decide +kernel) 6 rfl ?_
        refine v_bipush (pc := 42) (n := 8) X (by decide +kernel) bi_8 ?_
        refine v_icmp_ge (pc := 44) (off := 7) (tgt := 51) X (by decide +kernel) (by decide) (fun q4 => ?_) (fun q4 => ?_)
        · rw [if_pos q4] at hf
          refine v_iload (pc := 51) (k := 6) X (by decide +kernel) 6 rfl ?_
          refine v_bipush (pc := 53) (n := 12) X (by decide +kernel) bi_12 ?_
          refine v_icmp_ge (pc := 55) (off := 7) (tgt := 62) X (by decide +kernel) (by decide) (fun q3 => ?_) (fun q3 => ?_)
          · rw [if_pos q3] at hf
            refine v_iload (pc := 62) (k := 6) X (by decide +kernel) 6 rfl ?_
            refine v_bipush (pc := 64) (n := 16) X (by decide +kernel) bi_16 ?_
            refine v_icmp_ge (pc := 66) (off := 8) (tgt := 74) X (by decide +kernel) (by decide) (fun q2 => ?_) (fun q2 => ?_)
            · rw [if_pos q2] at hf
              refine v_iload (pc := 74) (k := 5) X (by decide +kernel) 5 rfl ?_
              exact vjb_Md_feed_76 ok hi X Y ih h l0 l1 l2 l3 l4 l5 l6 l5 kl0 hf
            · rw [if_neg q2] at hf
              refine v_iload (pc := 69) (k := 4) X (by decide +kernel) 4 rfl ?_
              refine v_goto (pc := 71) (off := 5) (tgt := 76) X (by decide +kernel) (by decide) ?_
              exact vjb_Md_feed_76 ok hi X Y ih h l0 l1 l2 l3 l4 l5 l6 l4 kl0 hf
          · rw [if_neg q3] at hf
            refine v_iload_n (pc := 58) (k := 3) X (by decide +kernel) 3 rfl ?_
            refine v_goto (pc := 59) (off := 17) (tgt := 76) X (by decide +kernel) (by decide) ?_
            exact vjb_Md_feed_76 ok hi X Y ih h l0 l1 l2 l3 l4 l5 l6 l3 kl0 hf
        · rw [if_neg q4] at hf
          refine v_iload_n (pc := 47) (k := 2) X (by decide +kernel) 2 rfl ?_
          refine v_goto (pc := 48) (off := 28) (tgt := 76) X (by decide +kernel) (by decide) ?_
          exact vjb_Md_feed_76 ok hi X Y ih h l0 l1 l2 l3 l4 l5 l6 l2 kl0 hf
      · rw [if_neg q5] at hf
        refine v_iload_n (pc := 36) (k := 1) X (by decide +kernel) 1 rfl ?_
        refine v_goto (pc := 37) (off := 39) (tgt := 76) X (by decide +kernel) (by decide) ?_
        exact vjb_Md_feed_76 ok hi X Y ih h l0 l1 l2 l3 l4 l5 l6 l1 kl0 hf
set_option maxRecDepth 4000 in
set_option maxHeartbeats 1000000 in
theorem mt_Md_feed {g : Gl} {tb : Tb} {ρ : Nat → Nat} (ok : TbOK tb) (hi : inj tb ρ) {h : Hp} {l0 : Nat} {l1 : Int32} {l2 : Int32} {l3 : Int32} {l4 : Int32} {l5 : Int32} (kl0 : kd tb l0 = 12) {r : Int32 × Hp} (hf : f_Md_feed tb h l0 l1 l2 l3 l4 l5 = some r) : MT g y_Md_feed prog_14_method_3_code 8 (some .int) 0 0 tb ρ [.ref (ρ l0), .int l1, .int l2, .int l3, .int l4, .int l5] h (some (.int r.1)) r.2 := by
  refine mt_intro (by decide +kernel) ok hi (Nat.le_of_ble_eq_true rfl) (fun E X Y => ?_)
  change V E g tb ρ 8 0 [(0, .ref (ρ l0)), (1, .int l1), (2, .int l2), (3, .int l3), (4, .int l4), (5, .int l5)] [] h
  unfold f_Md_feed at hf
  refine v_aload_n (pc := 0) (k := 0) X (by decide +kernel) 0 rfl ?_
  refine v_iconst (pc := 1) (n := 0) X (by decide +kernel) ic_0 ?_
  obtain ⟨h1, eh1, hf⟩ := nmd_e hf
  refine v_puti (pc := 2) X fp_12_160 kl0 rfl (by decide +kernel) eh1 ?_
  refine v_aload_n (pc := 5) (k := 0) X (by decide +kernel) 0 rfl ?_
  refine v_geti (pc := 6) X fl_12_163 kl0 rfl (by decide +kernel) ?_
  refine v_bipush (pc := 9) (n := 20) X (by decide +kernel) bi_20 ?_
  refine v_iadd (pc := 11) X (by decide +kernel) ?_
  refine v_sipush (pc := 12) (n := 700) X (by decide +kernel) si_700 ?_
  refine v_icmp_le (pc := 15) (off := 5) (tgt := 20) X (by decide +kernel) (by decide) (fun q2 => ?_) (fun q2 => ?_)
  · rw [if_pos q2] at hf
    refine v_iconst (pc := 20) (n := 0) X (by decide +kernel) ic_0 ?_
    refine v_istore (pc := 21) (k := 6) (lv' := [(6, .int (0 : Int32)), (0, .ref (ρ l0)), (1, .int l1), (2, .int l2), (3, .int l3), (4, .int l4), (5, .int l5)]) X (by decide +kernel) (Nat.le_of_ble_eq_true rfl) rfl ?_
    refine v_sub [1, 2, 3, 4, 5, 6, 0] rfl ?_
    exact vlp_Md_feed_23 ok hi X Y fu h1 l0 l1 l2 l3 l4 l5 (0 : Int32) kl0 hf
  · rw [if_neg q2] at hf
    refine v_iconst (pc := 18) (n := -1) X (by decide +kernel) ic_m1 ?_
    cases hf
    exact v_iret X Y (by decide +kernel) rfl rfl
def f_Md_isIn (tb : Tb) (h : Hp) (l0 : Int32) (l1 : Int32) (l2 : Int32) : Int32 :=
  if l0 < l1 then (
    (0 : Int32)
  ) else (
    if l2 < l0 then (
      (0 : Int32)
    ) else (
      (1 : Int32)
    )
  )
set_option maxRecDepth 4000 in
set_option maxHeartbeats 1000000 in
theorem mt_Md_isIn {g : Gl} {tb : Tb} {ρ : Nat → Nat} (ok : TbOK tb) (hi : inj tb ρ) {h : Hp} {l0 : Int32} {l1 : Int32} {l2 : Int32}  {r : Int32} (hf : f_Md_isIn tb h l0 l1 l2 = r) : MT g y_Md_isIn prog_14_method_4_code 3 (some .boolean) 0 0 tb ρ [.int l0, .int l1, .int l2] h (some (.int r)) h := by
  refine mt_intro (by decide +kernel) ok hi (Nat.le_of_ble_eq_true rfl) (fun E X Y => ?_)
  change V E g tb ρ 3 0 [(0, .int l0), (1, .int l1), (2, .int l2)] [] h
  unfold f_Md_isIn at hf
  refine v_iload_n (pc := 0) (k := 0) X (by decide +kernel) 0 rfl ?_
  refine v_iload_n (pc := 1) (k := 1) X (by decide +kernel) 1 rfl ?_
  refine v_icmp_lt (pc := 2) (off := 12) (tgt := 14) X (by decide +kernel) (by decide) (fun q2 => ?_) (fun q2 => ?_)
  · rw [if_pos q2] at hf
    refine v_iconst (pc := 14) (n := 0) X (by decide +kernel) ic_0 ?_
    cases hf
    exact v_zret (hz := rfl) X Y (by decide +kernel) rfl rfl
  · rw [if_neg q2] at hf
    refine v_iload_n (pc := 5) (k := 0) X (by decide +kernel) 0 rfl ?_
    refine v_iload_n (pc := 6) (k := 2) X (by decide +kernel) 2 rfl ?_
    refine v_icmp_gt (pc := 7) (off := 7) (tgt := 14) X (by decide +kernel) (by decide) (fun q1 => ?_) (fun q1 => ?_)
    · rw [if_pos q1] at hf
      refine v_iconst (pc := 14) (n := 0) X (by decide +kernel) ic_0 ?_
      cases hf
      exact v_zret (hz := rfl) X Y (by decide +kernel) rfl rfl
    · rw [if_neg q1] at hf
      refine v_iconst (pc := 10) (n := 1) X (by decide +kernel) ic_1 ?_
      refine v_goto (pc := 11) (off := 4) (tgt := 15) X (by decide +kernel) (by decide) ?_
      cases hf
      exact v_zret (hz := rfl) X Y (by decide +kernel) rfl rfl
def f_Md_isOf (tb : Tb) (h : Hp) (l0 : Int32) (l1 : Int32) : Int32 :=
  if ((l0 >>> (l1 &&& 31)) &&& (1 : Int32)) = (1 : Int32) then (
    (1 : Int32)
  ) else (
    (0 : Int32)
  )
set_option maxRecDepth 4000 in
set_option maxHeartbeats 1000000 in
theorem mt_Md_isOf {g : Gl} {tb : Tb} {ρ : Nat → Nat} (ok : TbOK tb) (hi : inj tb ρ) {h : Hp} {l0 : Int32} {l1 : Int32}  {r : Int32} (hf : f_Md_isOf tb h l0 l1 = r) : MT g y_Md_isOf prog_14_method_5_code 2 (some .boolean) 0 0 tb ρ [.int l0, .int l1] h (some (.int r)) h := by
  refine mt_intro (by decide +kernel) ok hi (Nat.le_of_ble_eq_true rfl) (fun E X Y => ?_)
  change V E g tb ρ 2 0 [(0, .int l0), (1, .int l1)] [] h
  unfold f_Md_isOf at hf
  refine v_iload_n (pc := 0) (k := 0) X (by decide +kernel) 0 rfl ?_
  refine v_iload_n (pc := 1) (k := 1) X (by decide +kernel) 1 rfl ?_
  refine v_ishr (pc := 2) X (by decide +kernel) ?_
  refine v_iconst (pc := 3) (n := 1) X (by decide +kernel) ic_1 ?_
  refine v_iand (pc := 4) X (by decide +kernel) ?_
  refine v_iconst (pc := 5) (n := 1) X (by decide +kernel) ic_1 ?_
  refine v_icmp_ne (pc := 6) (off := 7) (tgt := 13) X (by decide +kernel) (by decide) (fun q1 => ?_) (fun q1 => ?_)
  · rw [if_neg q1] at hf
    refine v_iconst (pc := 13) (n := 0) X (by decide +kernel) ic_0 ?_
    cases hf
    exact v_zret (hz := rfl) X Y (by decide +kernel) rfl rfl
  · rw [if_pos q1] at hf
    refine v_iconst (pc := 9) (n := 1) X (by decide +kernel) ic_1 ?_
    refine v_goto (pc := 10) (off := 4) (tgt := 14) X (by decide +kernel) (by decide) ?_
    cases hf
    exact v_zret (hz := rfl) X Y (by decide +kernel) rfl rfl
def f_Md_wrong (tb : Tb) (h : Hp) (l0 : Nat) (l1 : Int32) : Int32 × Hp :=
  nmd (pI h l0 4 l1) fun h1 =>
  nmd (pI h1 l0 5 (h1.1 l0 10)) fun h2 =>
  ((0 : Int32), h2)
set_option maxRecDepth 4000 in
set_option maxHeartbeats 1000000 in
theorem mt_Md_wrong {g : Gl} {tb : Tb} {ρ : Nat → Nat} (ok : TbOK tb) (hi : inj tb ρ) {h : Hp} {l0 : Nat} {l1 : Int32} (kl0 : kd tb l0 = 12) {r : Int32 × Hp} (hf : f_Md_wrong tb h l0 l1 = r) : MT g y_Md_wrong prog_14_method_6_code 2 (some .boolean) 0 0 tb ρ [.ref (ρ l0), .int l1] h (some (.int r.1)) r.2 := by
  refine mt_intro (by decide +kernel) ok hi (Nat.le_of_ble_eq_true rfl) (fun E X Y => ?_)
  change V E g tb ρ 2 0 [(0, .ref (ρ l0)), (1, .int l1)] [] h
  unfold f_Md_wrong at hf
  refine v_aload_n (pc := 0) (k := 0) X (by decide +kernel) 0 rfl ?_
  refine v_iload_n (pc := 1) (k := 1) X (by decide +kernel) 1 rfl ?_
  obtain ⟨h1, eh1, hf⟩ := nmd_e hf
  refine v_puti (pc := 2) X fp_12_166 kl0 rfl (by decide +kernel) eh1 ?_
  refine v_aload_n (pc := 5) (k := 0) X (by decide +kernel) 0 rfl ?_
  refine v_aload_n (pc := 6) (k := 0) X (by decide +kernel) 0 rfl ?_
  refine v_geti (pc := 7) X fl_12_169 kl0 rfl (by decide +kernel) ?_
  obtain ⟨h2, eh2, hf⟩ := nmd_e hf
  refine v_puti (pc := 10) X fp_12_16 kl0 rfl (by decide +kernel) eh2 ?_
  refine v_iconst (pc := 13) (n := 0) X (by decide +kernel) ic_0 ?_
  cases hf
  exact v_zret (hz := rfl) X Y (by decide +kernel) rfl rfl
def jb_Md_wordAt_104 (tb : Tb) (c5 : Hp → Nat → Int32 → Int32 → Int32 → Int32 → Option (Int32)) (h : Hp) (l0 : Nat) (l1 : Int32) (l2 : Int32) (l3 : Int32) (l4 : Int32) (l5 : Int32) (l6 : Int32) : Option (Int32) :=
  if l6 = (0 : Int32) then (
    nmd (l4 + (l5 + (1 : Int32))) fun x1 =>
    nmd (l3 + (1 : Int32)) fun x2 =>
    c5 h l0 l1 l2 x2 x1
  ) else (
    some l3
  )
def jb_Md_wordAt_96 (tb : Tb) (c5 : Hp → Nat → Int32 → Int32 → Int32 → Int32 → Option (Int32)) (c57 : Hp → Nat → Int32 → Int32 → Int32 → Int32 → Int32 → Int32 → Int32 → Option (Int32)) (h : Hp) (l0 : Nat) (l1 : Int32) (l2 : Int32) (l3 : Int32) (l4 : Int32) (l5 : Int32) (l7 : Int32) (s0 : Int32) : Option (Int32) :=
  nmd (l7 + (1 : Int32)) fun x1 =>
  c57 h l0 l1 l2 l3 l4 l5 s0 x1
def lp_Md_wordAt_57 (tb : Tb) (c5 : Hp → Nat → Int32 → Int32 → Int32 → Int32 → Option (Int32)) : Nat → Hp → Nat → Int32 → Int32 → Int32 → Int32 → Int32 → Int32 → Int32 → Option (Int32)
  | 0, _, _, _, _, _, _, _, _, _ => none
  | n + 1, h, l0, l1, l2, l3, l4, l5, l6, l7 =>
    if l5 ≤ l7 then (
      jb_Md_wordAt_104 tb c5 h l0 l1 l2 l3 l4 l5 l6
    ) else (
      if l6 = (0 : Int32) then (
        jb_Md_wordAt_104 tb c5 h l0 l1 l2 l3 l4 l5 l6
      ) else (
        (rI tb h (lay tb l0 3) (l4 + l7)).bind fun x1 =>
        (rI tb h (lay tb l0 0) (l1 + l7)).bind fun x2 =>
        if x1 = x2 then (
          jb_Md_wordAt_96 tb c5 (lp_Md_wordAt_57 tb c5 n) h l0 l1 l2 l3 l4 l5 l7 (1 : Int32)
        ) else (
          jb_Md_wordAt_96 tb c5 (lp_Md_wordAt_57 tb c5 n) h l0 l1 l2 l3 l4 l5 l7 (0 : Int32)
        )
      )
    )
def jb_Md_wordAt_52 (tb : Tb) (c5 : Hp → Nat → Int32 → Int32 → Int32 → Int32 → Option (Int32)) (h : Hp) (l0 : Nat) (l1 : Int32) (l2 : Int32) (l3 : Int32) (l4 : Int32) (l5 : Int32) (s0 : Int32) : Option (Int32) :=
  lp_Md_wordAt_57 tb c5 fu h l0 l1 l2 l3 l4 l5 s0 (0 : Int32)
def lp_Md_wordAt_18 (tb : Tb) (c5 : Hp → Nat → Int32 → Int32 → Int32 → Int32 → Option (Int32)) : Nat → Hp → Nat → Int32 → Int32 → Int32 → Int32 → Int32 → Option (Int32)
  | 0, _, _, _, _, _, _, _ => none
  | n + 1, h, l0, l1, l2, l3, l4, l5 =>
    (rI tb h (lay tb l0 3) (l4 + l5)).bind fun x1 =>
    if x1 = (32 : Int32) then (
      if l5 = (l2 - l1) then (
        jb_Md_wordAt_52 tb c5 h l0 l1 l2 l3 l4 l5 (1 : Int32)
      ) else (
        jb_Md_wordAt_52 tb c5 h l0 l1 l2 l3 l4 l5 (0 : Int32)
      )
    ) else (
      nmd (l5 + (1 : Int32)) fun x3 =>
      lp_Md_wordAt_18 tb c5 n h l0 l1 l2 l3 l4 x3
    )
def lp_Md_wordAt_5 (tb : Tb) : Nat → Hp → Nat → Int32 → Int32 → Int32 → Int32 → Option (Int32)
  | 0, _, _, _, _, _, _ => none
  | n + 1, h, l0, l1, l2, l3, l4 =>
    if (Int32.ofNat (al tb (lay tb l0 3))) ≤ l4 then (
      some (-1 : Int32)
    ) else (
      lp_Md_wordAt_18 tb (lp_Md_wordAt_5 tb n) fu h l0 l1 l2 l3 l4 (0 : Int32)
    )
def f_Md_wordAt (tb : Tb) (h : Hp) (l0 : Nat) (l1 : Int32) (l2 : Int32) : Option (Int32) :=
  lp_Md_wordAt_5 tb fu h l0 l1 l2 (0 : Int32) (0 : Int32)
set_option maxRecDepth 4000 in
set_option maxHeartbeats 1000000 in
theorem vjb_Md_wordAt_104 {E : En} {g : Gl} {tb : Tb} {ρ : Nat → Nat} (ok : TbOK tb) (hi : inj tb ρ) {r : Int32} (X : CX E g tb ρ prog_14_method_7_code 8 RC12 0 0) {h : Hp} (Y : CQ E g tb ρ (some .int) (some (.int r)) h) {c5 : Hp → Nat → Int32 → Int32 → Int32 → Int32 → Option (Int32)} (H5 : ∀ (l0 : Nat) (l1 : Int32) (l2 : Int32) (l3 : Int32) (l4 : Int32) (kl0 : kd tb l0 = 12), c5 h l0 l1 l2 l3 l4 = some r → V E g tb ρ 8 5 [(0, .ref (ρ l0)), (1, .int l1), (2, .int l2), (3, .int l3), (4, .int l4)] [] h) (l0 : Nat) (l1 : Int32) (l2 : Int32) (l3 : Int32) (l4 : Int32) (l5 : Int32) (l6 : Int32) (kl0 : kd tb l0 = 12) (hf : jb_Md_wordAt_104 tb c5 h l0 l1 l2 l3 l4 l5 l6 = some r) : V E g tb ρ 8 104 [(0, .ref (ρ l0)), (1, .int l1), (2, .int l2), (3, .int l3), (4, .int l4), (5, .int l5), (6, .int l6)] [] h := by
  unfold jb_Md_wordAt_104 at hf
  refine v_iload (pc := 104) (k := 6) X (by decide +kernel) 6 rfl ?_
  refine v_if_eq (pc := 106) (off := 5) (tgt := 111) X (by decide +kernel) (by decide) (fun q3 => ?_) (fun q3 => ?_)
  · rw [if_pos q3] at hf
    refine v_iload (pc := 111) (k := 4) X (by decide +kernel) 4 rfl ?_
    refine v_iload (pc := 113) (k := 5) X (by decide +kernel) 5 rfl ?_
    refine v_iconst (pc := 115) (n := 1) X (by decide +kernel) ic_1 ?_
    refine v_iadd (pc := 116) X (by decide +kernel) ?_
    refine v_iadd (pc := 117) X (by decide +kernel) ?_
    obtain ⟨x1, ex1, hf⟩ := nmd_e hf
    refine v_nmi ex1 ?_
    refine v_istore (pc := 118) (k := 4) (lv' := [(4, .int x1), (0, .ref (ρ l0)), (1, .int l1), (2, .int l2), (3, .int l3), (5, .int l5), (6, .int l6)]) X (by decide +kernel) (Nat.le_of_ble_eq_true rfl) rfl ?_
    obtain ⟨x2, ex2, hf⟩ := nmd_e hf
    refine v_iinc (pc := 120) (k := 3) (n := 1) (v := x2) (lv' := [(3, .int x2), (4, .int x1), (0, .ref (ρ l0)), (1, .int l1), (2, .int l2), (5, .int l5), (6, .int l6)]) X (by decide +kernel) 4 rfl (by rw [ic_1, ex2]) (Nat.le_of_ble_eq_true rfl) rfl ?_
    refine v_goto (pc := 123) (off := -118) (tgt := 5) X (by decide +kernel) (by decide) ?_
    refine v_sub [2, 3, 4, 0, 1] rfl ?_
    exact H5 l0 l1 l2 x2 x1 kl0 hf
  · rw [if_neg q3] at hf
    refine v_iload_n (pc := 109) (k := 3) X (by decide +kernel) 3 rfl ?_
    cases hf
    exact v_iret X Y (by decide +kernel) rfl rfl
set_option maxRecDepth 4000 in
set_option maxHeartbeats 1000000 in
theorem vjb_Md_wordAt_96 {E : En} {g : Gl} {tb : Tb} {ρ : Nat → Nat} (ok : TbOK tb) (hi : inj tb ρ) {r : Int32} (X : CX E g tb ρ prog_14_method_7_code 8 RC12 0 0) {h : Hp} (Y : CQ E g tb ρ (some .int) (some (.int r)) h) {c5 : Hp → Nat → Int32 → Int32 → Int32 → Int32 → Option (Int32)} (H5 : ∀ (l0 : Nat) (l1 : Int32) (l2 : Int32) (l3 : Int32) (l4 : Int32) (kl0 : kd tb l0 = 12), c5 h l0 l1 l2 l3 l4 = some r → V E g tb ρ 8 5 [(0, .ref (ρ l0)), (1, .int l1), (2, .int l2), (3, .int l3), (4, .int l4)] [] h) {c57 : Hp → Nat → Int32 → Int32 → Int32 → Int32 → Int32 → Int32 → Int32 → Option (Int32)} (H57 : ∀ (l0 : Nat) (l1 : Int32) (l2 : Int32) (l3 : Int32) (l4 : Int32) (l5 : Int32) (l6 : Int32) (l7 : Int32) (kl0 : kd tb l0 = 12), c57 h l0 l1 l2 l3 l4 l5 l6 l7 = some r → V E g tb ρ 8 57 [(0, .ref (ρ l0)), (1, .int l1), (2, .int l2), (3, .int l3), (4, .int l4), (5, .int l5), (6, .int l6), (7, .int l7)] [] h) (l0 : Nat) (l1 : Int32) (l2 : Int32) (l3 : Int32) (l4 : Int32) (l5 : Int32) (l7 : Int32) (s0 : Int32) (kl0 : kd tb l0 = 12) (hf : jb_Md_wordAt_96 tb c5 c57 h l0 l1 l2 l3 l4 l5 l7 s0 = some r) : V E g tb ρ 8 96 [(0, .ref (ρ l0)), (1, .int l1), (2, .int l2), (3, .int l3), (4, .int l4), (5, .int l5), (7, .int l7)] [.int s0] h := by
  unfold jb_Md_wordAt_96 at hf
  refine v_istore (pc := 96) (k := 6) (lv' := [(6, .int s0), (0, .ref (ρ l0)), (1, .int l1), (2, .int l2), (3, .int l3), (4, .int l4), (5, .int l5), (7, .int l7)]) X (by decide +kernel) (Nat.le_of_ble_eq_true rfl) rfl ?_
  obtain ⟨x1, ex1, hf⟩ := nmd_e hf
  refine v_iinc (pc := 98) (k := 7) (n := 1) (v := x1) (lv' := [(7, .int x1), (6, .int s0), (0, .ref (ρ l0)), (1, .int l1), (2, .int l2), (3, .int l3), (4, .int l4), (5, .int l5)]) X (by decide +kernel) 7 rfl (by rw [ic_1, ex1]) (Nat.le_of_ble_eq_true rfl) rfl ?_
  refine v_goto (pc := 101) (off := -44) (tgt := 57) X (by decide +kernel) (by decide) ?_
  refine v_sub [2, 3, 4, 5, 6, 7, 1, 0] rfl ?_
  exact H57 l0 l1 l2 l3 l4 l5 s0 x1 kl0 hf
set_option maxRecDepth 4000 in
set_option maxHeartbeats 1000000 in
theorem vlp_Md_wordAt_57 {E : En} {g : Gl} {tb : Tb} {ρ : Nat → Nat} (ok : TbOK tb) (hi : inj tb ρ) {r : Int32} (X : CX E g tb ρ prog_14_method_7_code 8 RC12 0 0) {h : Hp} (Y : CQ E g tb ρ (some .int) (some (.int r)) h) {c5 : Hp → Nat → Int32 → Int32 → Int32 → Int32 → Option (Int32)} (H5 : ∀ (l0 : Nat) (l1 : Int32) (l2 : Int32) (l3 : Int32) (l4 : Int32) (kl0 : kd tb l0 = 12), c5 h l0 l1 l2 l3 l4 = some r → V E g tb ρ 8 5 [(0, .ref (ρ l0)), (1, .int l1), (2, .int l2), (3, .int l3), (4, .int l4)] [] h) : ∀ (n : Nat) (l0 : Nat) (l1 : Int32) (l2 : Int32) (l3 : Int32) (l4 : Int32) (l5 : Int32) (l6 : Int32) (l7 : Int32) (kl0 : kd tb l0 = 12), lp_Md_wordAt_57 tb c5 n h l0 l1 l2 l3 l4 l5 l6 l7 = some r → V E g tb ρ 8 57 [(0, .ref (ρ l0)), (1, .int l1), (2, .int l2), (3, .int l3), (4, .int l4), (5, .int l5), (6, .int l6), (7, .int l7)] [] h := by
  intro n
  induction n with
  | zero =>
    intro l0 l1 l2 l3 l4 l5 l6 l7 kl0 hf
    rw [lp_Md_wordAt_57] at hf
    cases hf
  | succ n ih =>
    intro l0 l1 l2 l3 l4 l5 l6 l7 kl0 hf
    rw [lp_Md_wordAt_57] at hf
    refine v_iload (pc := 57) (k := 7) X (by decide +kernel) 7 rfl ?_
    refine v_iload (pc := 59) (k := 5) X (by decide +kernel) 5 rfl ?_
    refine v_icmp_ge (pc := 61) (off := 43) (tgt := 104) X (by decide +kernel) (by decide) (fun q5 => ?_) (fun q5 => ?_)
    · rw [if_pos q5] at hf
      refine v_sub [0, 1, 2, 3, 4, 5, 6] rfl ?_
      exact vjb_Md_wordAt_104 ok hi X Y H5 l0 l1 l2 l3 l4 l5 l6 kl0 hf
    · rw [if_neg q5] at hf
      refine v_iload (pc := 64) (k := 6) X (by decide +kernel) 6 rfl ?_
      refine v_if_eq (pc := 66) (off := 38) (tgt := 104) X (by decide +kernel) (by decide) (fun q4 => ?_) (fun q4 => ?_)
      · rw [if_pos q4] at hf
        refine v_sub [0, 1, 2, 3, 4, 5, 6] rfl ?_
        exact vjb_Md_wordAt_104 ok hi X Y H5 l0 l1 l2 l3 l4 l5 l6 kl0 hf
      · rw [if_neg q4] at hf
        refine v_aload_n (pc := 69) (k := 0) X (by decide +kernel) 0 rfl ?_
        refine v_geta (pc := 70) X fl_12_13 kl0 fk_12_3 (by decide +kernel) ?_
        refine v_iload (pc := 73) (k := 4) X (by decide +kernel) 4 rfl ?_
        refine v_iload (pc := 75) (k := 7) X (by decide +kernel) 7 rfl ?_
        refine v_iadd (pc := 77) X (by decide +kernel) ?_
        obtain ⟨x1, ex1, hf⟩ := bnd_e hf
        refine v_iald (pc := 78) X (ly_12_3 ok kl0) ex1 (by decide +kernel) ?_
        refine v_aload_n (pc := 79) (k := 0) X (by decide +kernel) 0 rfl ?_
        refine v_geta (pc := 80) X fl_12_7 kl0 fk_12_0 (by decide +kernel) ?_
        refine v_iload_n (pc := 83) (k := 1) X (by decide +kernel) 1 rfl ?_
        refine v_iload (pc := 84) (k := 7) X (by decide +kernel) 7 rfl ?_
        refine v_iadd (pc := 86) X (by decide +kernel) ?_
        obtain ⟨x2, ex2, hf⟩ := bnd_e hf
        refine v_iald (pc := 87) X (ly_12_0 ok kl0) ex2 (by decide +kernel) ?_
        refine v_icmp_ne (pc := 88) (off := 7) (tgt := 95) X (by decide +kernel) (by decide) (fun q3 => ?_) (fun q3 => ?_)
        · rw [if_neg q3] at hf
          refine v_iconst (pc := 95) (n := 0) X (by decide +kernel) ic_0 ?_
          refine v_sub [0, 1, 2, 3, 4, 5, 7] rfl ?_
          exact vjb_Md_wordAt_96 ok hi X Y H5 ih l0 l1 l2 l3 l4 l5 l7 (0 : Int32) kl0 hf
        · rw [if_pos q3] at hf
          refine v_iconst (pc := 91) (n := 1) X (by decide +kernel) ic_1 ?_
          refine v_goto (pc := 92) (off := 4) (tgt := 96) X (by decide +kernel) (by decide) ?_
          refine v_sub [0, 1, 2, 3, 4, 5, 7] rfl ?_
          exact vjb_Md_wordAt_96 ok hi X Y H5 ih l0 l1 l2 l3 l4 l5 l7 (1 : Int32) kl0 hf
set_option maxRecDepth 4000 in
set_option maxHeartbeats 1000000 in
theorem vjb_Md_wordAt_52 {E : En} {g : Gl} {tb : Tb} {ρ : Nat → Nat} (ok : TbOK tb) (hi : inj tb ρ) {r : Int32} (X : CX E g tb ρ prog_14_method_7_code 8 RC12 0 0) {h : Hp} (Y : CQ E g tb ρ (some .int) (some (.int r)) h) {c5 : Hp → Nat → Int32 → Int32 → Int32 → Int32 → Option (Int32)} (H5 : ∀ (l0 : Nat) (l1 : Int32) (l2 : Int32) (l3 : Int32) (l4 : Int32) (kl0 : kd tb l0 = 12), c5 h l0 l1 l2 l3 l4 = some r → V E g tb ρ 8 5 [(0, .ref (ρ l0)), (1, .int l1), (2, .int l2), (3, .int l3), (4, .int l4)] [] h) (l0 : Nat) (l1 : Int32) (l2 : Int32) (l3 : Int32) (l4 : Int32) (l5 : Int32) (s0 : Int32) (kl0 : kd tb l0 = 12) (hf : jb_Md_wordAt_52 tb c5 h l0 l1 l2 l3 l4 l5 s0 = some r) : V E g tb ρ 8 52 [(0, .ref (ρ l0)), (1, .int l1), (2, .int l2), (3, .int l3), (4, .int l4), (5, .int l5)] [.int s0] h := by
  unfold jb_Md_wordAt_52 at hf
  refine v_istore (pc := 52) (k := 6) (lv' := [(6, .int s0), (0, .ref (ρ l0)), (1, .int l1), (2, .int l2), (3, .int l3), (4, .int l4), (5, .int l5)]) X (by decide +kernel) (Nat.le_of_ble_eq_true rfl) rfl ?_
  refine v_iconst (pc := 54) (n := 0) X (by decide +kernel) ic_0 ?_
  refine v_istore (pc := 55) (k := 7) (lv' := [(7, .int (0 : Int32)), (6, .int s0), (0, .ref (ρ l0)), (1, .int l1), (2, .int l2), (3, .int l3), (4, .int l4), (5, .int l5)]) X (by decide +kernel) (Nat.le_of_ble_eq_true rfl) rfl ?_
  refine v_sub [2, 3, 4, 5, 6, 7, 1, 0] rfl ?_
  exact vlp_Md_wordAt_57 ok hi X Y H5 fu l0 l1 l2 l3 l4 l5 s0 (0 : Int32) kl0 hf
set_option maxRecDepth 4000 in
set_option maxHeartbeats 1000000 in
theorem vlp_Md_wordAt_18 {E : En} {g : Gl} {tb : Tb} {ρ : Nat → Nat} (ok : TbOK tb) (hi : inj tb ρ) {r : Int32} (X : CX E g tb ρ prog_14_method_7_code 8 RC12 0 0) {h : Hp} (Y : CQ E g tb ρ (some .int) (some (.int r)) h) {c5 : Hp → Nat → Int32 → Int32 → Int32 → Int32 → Option (Int32)} (H5 : ∀ (l0 : Nat) (l1 : Int32) (l2 : Int32) (l3 : Int32) (l4 : Int32) (kl0 : kd tb l0 = 12), c5 h l0 l1 l2 l3 l4 = some r → V E g tb ρ 8 5 [(0, .ref (ρ l0)), (1, .int l1), (2, .int l2), (3, .int l3), (4, .int l4)] [] h) : ∀ (n : Nat) (l0 : Nat) (l1 : Int32) (l2 : Int32) (l3 : Int32) (l4 : Int32) (l5 : Int32) (kl0 : kd tb l0 = 12), lp_Md_wordAt_18 tb c5 n h l0 l1 l2 l3 l4 l5 = some r → V E g tb ρ 8 18 [(0, .ref (ρ l0)), (1, .int l1), (2, .int l2), (3, .int l3), (4, .int l4), (5, .int l5)] [] h := by
  intro n
  induction n with
  | zero =>
    intro l0 l1 l2 l3 l4 l5 kl0 hf
    rw [lp_Md_wordAt_18] at hf
    cases hf
  | succ n ih =>
    intro l0 l1 l2 l3 l4 l5 kl0 hf
    rw [lp_Md_wordAt_18] at hf
    refine v_aload_n (pc := 18) (k := 0) X (by decide +kernel) 0 rfl ?_
    refine v_geta (pc := 19) X fl_12_13 kl0 fk_12_3 (by decide +kernel) ?_
    refine v_iload (pc := 22) (k := 4) X (by decide +kernel) 4 rfl ?_
    refine v_iload (pc := 24) (k := 5) X (by decide +kernel) 5 rfl ?_
    refine v_iadd (pc := 26) X (by decide +kernel) ?_
    obtain ⟨x1, ex1, hf⟩ := bnd_e hf
    refine v_iald (pc := 27) X (ly_12_3 ok kl0) ex1 (by decide +kernel) ?_
    refine v_bipush (pc := 28) (n := 32) X (by decide +kernel) bi_32 ?_
    refine v_icmp_eq (pc := 30) (off := 9) (tgt := 39) X (by decide +kernel) (by decide) (fun q4 => ?_) (fun q4 => ?_)
    · rw [if_pos q4] at hf
      refine v_iload (pc := 39) (k := 5) X (by decide +kernel) 5 rfl ?_
      refine v_iload_n (pc := 41) (k := 2) X (by decide +kernel) 2 rfl ?_
      refine v_iload_n (pc := 42) (k := 1) X (by decide +kernel) 1 rfl ?_
      refine v_isub (pc := 43) X (by decide +kernel) ?_
      refine v_icmp_ne (pc := 44) (off := 7) (tgt := 51) X (by decide +kernel) (by decide) (fun q2 => ?_) (fun q2 => ?_)
      · rw [if_neg q2] at hf
        refine v_iconst (pc := 51) (n := 0) X (by decide +kernel) ic_0 ?_
        exact vjb_Md_wordAt_52 ok hi X Y H5 l0 l1 l2 l3 l4 l5 (0 : Int32) kl0 hf
      · rw [if_pos q2] at hf
        refine v_iconst (pc := 47) (n := 1) X (by decide +kernel) ic_1 ?_
        refine v_goto (pc := 48) (off := 4) (tgt := 52) X (by decide +kernel) (by decide) ?_
        exact vjb_Md_wordAt_52 ok hi X Y H5 l0 l1 l2 l3 l4 l5 (1 : Int32) kl0 hf
    · rw [if_neg q4] at hf
      obtain ⟨x3, ex3, hf⟩ := nmd_e hf
      refine v_iinc (pc := 33) (k := 5) (n := 1) (v := x3) (lv' := [(5, .int x3), (0, .ref (ρ l0)), (1, .int l1), (2, .int l2), (3, .int l3), (4, .int l4)]) X (by decide +kernel) 5 rfl (by rw [ic_1, ex3]) (Nat.le_of_ble_eq_true rfl) rfl ?_
      refine v_goto (pc := 36) (off := -18) (tgt := 18) X (by decide +kernel) (by decide) ?_
      refine v_sub [1, 2, 3, 4, 5, 0] rfl ?_
      exact ih l0 l1 l2 l3 l4 x3 kl0 hf
set_option maxRecDepth 4000 in
set_option maxHeartbeats 1000000 in
theorem vlp_Md_wordAt_5 {E : En} {g : Gl} {tb : Tb} {ρ : Nat → Nat} (ok : TbOK tb) (hi : inj tb ρ) {r : Int32} (X : CX E g tb ρ prog_14_method_7_code 8 RC12 0 0) {h : Hp} (Y : CQ E g tb ρ (some .int) (some (.int r)) h) : ∀ (n : Nat) (l0 : Nat) (l1 : Int32) (l2 : Int32) (l3 : Int32) (l4 : Int32) (kl0 : kd tb l0 = 12), lp_Md_wordAt_5 tb n h l0 l1 l2 l3 l4 = some r → V E g tb ρ 8 5 [(0, .ref (ρ l0)), (1, .int l1), (2, .int l2), (3, .int l3), (4, .int l4)] [] h := by
  intro n
  induction n with
  | zero =>
    intro l0 l1 l2 l3 l4 kl0 hf
    rw [lp_Md_wordAt_5] at hf
    cases hf
  | succ n ih =>
    intro l0 l1 l2 l3 l4 kl0 hf
    rw [lp_Md_wordAt_5] at hf
    refine v_iload (pc := 5) (k := 4) X (by decide +kernel) 4 rfl ?_
    refine v_aload_n (pc := 7) (k := 0) X (by decide +kernel) 0 rfl ?_
    refine v_geta (pc := 8) X fl_12_13 kl0 fk_12_3 (by decide +kernel) ?_
    refine v_alen (pc := 11) X (by rw [(ly_12_3 ok kl0)]; decide) (by decide +kernel) ?_
    refine v_icmp_ge (pc := 12) (off := 114) (tgt := 126) X (by decide +kernel) (by decide) (fun q1 => ?_) (fun q1 => ?_)
    · rw [if_pos q1] at hf
      refine v_iconst (pc := 126) (n := -1) X (by decide +kernel) ic_m1 ?_
      cases hf
      exact v_iret X Y (by decide +kernel) rfl rfl
    · rw [if_neg q1] at hf
      refine v_iconst (pc := 15) (n := 0) X (by decide +kernel) ic_0 ?_
      refine v_istore (pc := 16) (k := 5) (lv' := [(5, .int (0 : Int32)), (0, .ref (ρ l0)), (1, .int l1), (2, .int l2), (3, .int l3), (4, .int l4)]) X (by decide +kernel) (Nat.le_of_ble_eq_true rfl) rfl ?_
      refine v_sub [1, 2, 3, 4, 5, 0] rfl ?_
      exact vlp_Md_wordAt_18 ok hi X Y ih fu l0 l1 l2 l3 l4 (0 : Int32) kl0 hf
set_option maxRecDepth 4000 in
set_option maxHeartbeats 1000000 in
theorem mt_Md_wordAt {g : Gl} {tb : Tb} {ρ : Nat → Nat} (ok : TbOK tb) (hi : inj tb ρ) {h : Hp} {l0 : Nat} {l1 : Int32} {l2 : Int32} (kl0 : kd tb l0 = 12) {r : Int32} (hf : f_Md_wordAt tb h l0 l1 l2 = some r) : MT g y_Md_wordAt prog_14_method_7_code 8 (some .int) 0 0 tb ρ [.ref (ρ l0), .int l1, .int l2] h (some (.int r)) h := by
  refine mt_intro (by decide +kernel) ok hi (Nat.le_of_ble_eq_true rfl) (fun E X Y => ?_)
  change V E g tb ρ 8 0 [(0, .ref (ρ l0)), (1, .int l1), (2, .int l2)] [] h
  unfold f_Md_wordAt at hf
  refine v_iconst (pc := 0) (n := 0) X (by decide +kernel) ic_0 ?_
  refine v_istore_n (pc := 1) (k := 3) (lv' := [(3, .int (0 : Int32)), (0, .ref (ρ l0)), (1, .int l1), (2, .int l2)]) X (by decide +kernel) (Nat.le_of_ble_eq_true rfl) rfl ?_
  refine v_iconst (pc := 2) (n := 0) X (by decide +kernel) ic_0 ?_
  refine v_istore (pc := 3) (k := 4) (lv' := [(4, .int (0 : Int32)), (3, .int (0 : Int32)), (0, .ref (ρ l0)), (1, .int l1), (2, .int l2)]) X (by decide +kernel) (Nat.le_of_ble_eq_true rfl) rfl ?_
  refine v_sub [2, 3, 4, 1, 0] rfl ?_
  exact vlp_Md_wordAt_5 ok hi X Y fu l0 l1 l2 (0 : Int32) (0 : Int32) kl0 hf
def f_Md_isSmall (tb : Tb) (h : Hp) (l0 : Nat) (l1 : Int32) : Option (Int32) :=
  if (h.1 l0 6) ≤ l1 then (
    some (0 : Int32)
  ) else (
    (rI tb h (lay tb l0 0) l1).bind fun x1 =>
    if x1 < (97 : Int32) then (
      some (0 : Int32)
    ) else (
      (rI tb h (lay tb l0 0) l1).bind fun x2 =>
      if (122 : Int32) < x2 then (
        some (0 : Int32)
      ) else (
        some (1 : Int32)
      )
    )
  )
set_option maxRecDepth 4000 in
set_option maxHeartbeats 1000000 in
theorem mt_Md_isSmall {g : Gl} {tb : Tb} {ρ : Nat → Nat} (ok : TbOK tb) (hi : inj tb ρ) {h : Hp} {l0 : Nat} {l1 : Int32} (kl0 : kd tb l0 = 12) {r : Int32} (hf : f_Md_isSmall tb h l0 l1 = some r) : MT g y_Md_isSmall prog_14_method_8_code 2 (some .boolean) 0 0 tb ρ [.ref (ρ l0), .int l1] h (some (.int r)) h := by
  refine mt_intro (by decide +kernel) ok hi (Nat.le_of_ble_eq_true rfl) (fun E X Y => ?_)
  change V E g tb ρ 2 0 [(0, .ref (ρ l0)), (1, .int l1)] [] h
  unfold f_Md_isSmall at hf
  refine v_iload_n (pc := 0) (k := 1) X (by decide +kernel) 1 rfl ?_
  refine v_aload_n (pc := 1) (k := 0) X (by decide +kernel) 0 rfl ?_
  refine v_geti (pc := 2) X fl_12_172 kl0 rfl (by decide +kernel) ?_
  refine v_icmp_ge (pc := 5) (off := 29) (tgt := 34) X (by decide +kernel) (by decide) (fun q5 => ?_) (fun q5 => ?_)
  · rw [if_pos q5] at hf
    refine v_iconst (pc := 34) (n := 0) X (by decide +kernel) ic_0 ?_
    cases hf
    exact v_zret (hz := rfl) X Y (by decide +kernel) rfl rfl
  · rw [if_neg q5] at hf
    refine v_aload_n (pc := 8) (k := 0) X (by decide +kernel) 0 rfl ?_
    refine v_geta (pc := 9) X fl_12_7 kl0 fk_12_0 (by decide +kernel) ?_
    refine v_iload_n (pc := 12) (k := 1) X (by decide +kernel) 1 rfl ?_
    obtain ⟨x1, ex1, hf⟩ := bnd_e hf
    refine v_iald (pc := 13) X (ly_12_0 ok kl0) ex1 (by decide +kernel) ?_
    refine v_bipush (pc := 14) (n := 97) X (by decide +kernel) bi_97 ?_
    refine v_icmp_lt (pc := 16) (off := 18) (tgt := 34) X (by decide +kernel) (by decide) (fun q4 => ?_) (fun q4 => ?_)
    · rw [if_pos q4] at hf
      refine v_iconst (pc := 34) (n := 0) X (by decide +kernel) ic_0 ?_
      cases hf
      exact v_zret (hz := rfl) X Y (by decide +kernel) rfl rfl
    · rw [if_neg q4] at hf
      refine v_aload_n (pc := 19) (k := 0) X (by decide +kernel) 0 rfl ?_
      refine v_geta (pc := 20) X fl_12_7 kl0 fk_12_0 (by decide +kernel) ?_
      refine v_iload_n (pc := 23) (k := 1) X (by decide +kernel) 1 rfl ?_
      obtain ⟨x2, ex2, hf⟩ := bnd_e hf
      refine v_iald (pc := 24) X (ly_12_0 ok kl0) ex2 (by decide +kernel) ?_
      refine v_bipush (pc := 25) (n := 122) X (by decide +kernel) bi_122 ?_
      refine v_icmp_gt (pc := 27) (off := 7) (tgt := 34) X (by decide +kernel) (by decide) (fun q3 => ?_) (fun q3 => ?_)
      · rw [if_pos q3] at hf
        refine v_iconst (pc := 34) (n := 0) X (by decide +kernel) ic_0 ?_
        cases hf
        exact v_zret (hz := rfl) X Y (by decide +kernel) rfl rfl
      · rw [if_neg q3] at hf
        refine v_iconst (pc := 30) (n := 1) X (by decide +kernel) ic_1 ?_
        refine v_goto (pc := 31) (off := 4) (tgt := 35) X (by decide +kernel) (by decide) ?_
        cases hf
        exact v_zret (hz := rfl) X Y (by decide +kernel) rfl rfl
def f_Md_isDigit (tb : Tb) (h : Hp) (l0 : Nat) (l1 : Int32) : Option (Int32) :=
  if (h.1 l0 6) ≤ l1 then (
    some (0 : Int32)
  ) else (
    (rI tb h (lay tb l0 0) l1).bind fun x1 =>
    if x1 < (48 : Int32) then (
      some (0 : Int32)
    ) else (
      (rI tb h (lay tb l0 0) l1).bind fun x2 =>
      if (57 : Int32) < x2 then (
        some (0 : Int32)
      ) else (
        some (1 : Int32)
      )
    )
  )
set_option maxRecDepth 4000 in
set_option maxHeartbeats 1000000 in
theorem mt_Md_isDigit {g : Gl} {tb : Tb} {ρ : Nat → Nat} (ok : TbOK tb) (hi : inj tb ρ) {h : Hp} {l0 : Nat} {l1 : Int32} (kl0 : kd tb l0 = 12) {r : Int32} (hf : f_Md_isDigit tb h l0 l1 = some r) : MT g y_Md_isDigit prog_14_method_9_code 2 (some .boolean) 0 0 tb ρ [.ref (ρ l0), .int l1] h (some (.int r)) h := by
  refine mt_intro (by decide +kernel) ok hi (Nat.le_of_ble_eq_true rfl) (fun E X Y => ?_)
  change V E g tb ρ 2 0 [(0, .ref (ρ l0)), (1, .int l1)] [] h
  unfold f_Md_isDigit at hf
  refine v_iload_n (pc := 0) (k := 1) X (by decide +kernel) 1 rfl ?_
  refine v_aload_n (pc := 1) (k := 0) X (by decide +kernel) 0 rfl ?_
  refine v_geti (pc := 2) X fl_12_172 kl0 rfl (by decide +kernel) ?_
  refine v_icmp_ge (pc := 5) (off := 29) (tgt := 34) X (by decide +kernel) (by decide) (fun q5 => ?_) (fun q5 => ?_)
  · rw [if_pos q5] at hf
    refine v_iconst (pc := 34) (n := 0) X (by decide +kernel) ic_0 ?_
    cases hf
    exact v_zret (hz := rfl) X Y (by decide +kernel) rfl rfl
  · rw [if_neg q5] at hf
    refine v_aload_n (pc := 8) (k := 0) X (by decide +kernel) 0 rfl ?_
    refine v_geta (pc := 9) X fl_12_7 kl0 fk_12_0 (by decide +kernel) ?_
    refine v_iload_n (pc := 12) (k := 1) X (by decide +kernel) 1 rfl ?_
    obtain ⟨x1, ex1, hf⟩ := bnd_e hf
    refine v_iald (pc := 13) X (ly_12_0 ok kl0) ex1 (by decide +kernel) ?_
    refine v_bipush (pc := 14) (n := 48) X (by decide +kernel) bi_48 ?_
    refine v_icmp_lt (pc := 16) (off := 18) (tgt := 34) X (by decide +kernel) (by decide) (fun q4 => ?_) (fun q4 => ?_)
    · rw [if_pos q4] at hf
      refine v_iconst (pc := 34) (n := 0) X (by decide +kernel) ic_0 ?_
      cases hf
      exact v_zret (hz := rfl) X Y (by decide +kernel) rfl rfl
    · rw [if_neg q4] at hf
      refine v_aload_n (pc := 19) (k := 0) X (by decide +kernel) 0 rfl ?_
      refine v_geta (pc := 20) X fl_12_7 kl0 fk_12_0 (by decide +kernel) ?_
      refine v_iload_n (pc := 23) (k := 1) X (by decide +kernel) 1 rfl ?_
      obtain ⟨x2, ex2, hf⟩ := bnd_e hf
      refine v_iald (pc := 24) X (ly_12_0 ok kl0) ex2 (by decide +kernel) ?_
      refine v_bipush (pc := 25) (n := 57) X (by decide +kernel) bi_57 ?_
      refine v_icmp_gt (pc := 27) (off := 7) (tgt := 34) X (by decide +kernel) (by decide) (fun q3 => ?_) (fun q3 => ?_)
      · rw [if_pos q3] at hf
        refine v_iconst (pc := 34) (n := 0) X (by decide +kernel) ic_0 ?_
        cases hf
        exact v_zret (hz := rfl) X Y (by decide +kernel) rfl rfl
      · rw [if_neg q3] at hf
        refine v_iconst (pc := 30) (n := 1) X (by decide +kernel) ic_1 ?_
        refine v_goto (pc := 31) (off := 4) (tgt := 35) X (by decide +kernel) (by decide) ?_
        cases hf
        exact v_zret (hz := rfl) X Y (by decide +kernel) rfl rfl
def jb_Md_packed_37 (tb : Tb) (c5 : Hp → Nat → Int32 → Int32 → Int32 → Int32 → Option (Int32)) (h : Hp) (l0 : Nat) (l1 : Int32) (l2 : Int32) (l4 : Int32) (s0 : Int32) (s1 : Int32) : Option (Int32) :=
  nmd (s0 ||| s1) fun x1 =>
  nmd (l4 + (1 : Int32)) fun x2 =>
  c5 h l0 l1 l2 x1 x2
def lp_Md_packed_5 (tb : Tb) : Nat → Hp → Nat → Int32 → Int32 → Int32 → Int32 → Option (Int32)
  | 0, _, _, _, _, _, _ => none
  | n + 1, h, l0, l1, l2, l3, l4 =>
    if (l1 + (6 : Int32)) ≤ l4 then (
      some l3
    ) else (
      if l2 ≤ l4 then (
        jb_Md_packed_37 tb (lp_Md_packed_5 tb n) h l0 l1 l2 l4 (l3 <<< ((5 : Int32) &&& 31)) (0 : Int32)
      ) else (
        (rI tb h (lay tb l0 0) l4).bind fun x1 =>
        jb_Md_packed_37 tb (lp_Md_packed_5 tb n) h l0 l1 l2 l4 (l3 <<< ((5 : Int32) &&& 31)) (x1 - (96 : Int32))
      )
    )
def f_Md_packed (tb : Tb) (h : Hp) (l0 : Nat) (l1 : Int32) (l2 : Int32) : Option (Int32) :=
  lp_Md_packed_5 tb fu h l0 l1 l2 (0 : Int32) l1
set_option maxRecDepth 4000 in
set_option maxHeartbeats 1000000 in
theorem vjb_Md_packed_37 {E : En} {g : Gl} {tb : Tb} {ρ : Nat → Nat} (ok : TbOK tb) (hi : inj tb ρ) {r : Int32} (X : CX E g tb ρ prog_14_method_12_code 5 RC12 0 0) {h : Hp} (Y : CQ E g tb ρ (some .int) (some (.int r)) h) {c5 : Hp → Nat → Int32 → Int32 → Int32 → Int32 → Option (Int32)} (H5 : ∀ (l0 : Nat) (l1 : Int32) (l2 : Int32) (l3 : Int32) (l4 : Int32) (kl0 : kd tb l0 = 12), c5 h l0 l1 l2 l3 l4 = some r → V E g tb ρ 5 5 [(0, .ref (ρ l0)), (1, .int l1), (2, .int l2), (3, .int l3), (4, .int l4)] [] h) (l0 : Nat) (l1 : Int32) (l2 : Int32) (l4 : Int32) (s0 : Int32) (s1 : Int32) (kl0 : kd tb l0 = 12) (hf : jb_Md_packed_37 tb c5 h l0 l1 l2 l4 s0 s1 = some r) : V E g tb ρ 5 37 [(0, .ref (ρ l0)), (1, .int l1), (2, .int l2), (4, .int l4)] [.int s1, .int s0] h := by
  unfold jb_Md_packed_37 at hf
  refine v_ior (pc := 37) X (by decide +kernel) ?_
  obtain ⟨x1, ex1, hf⟩ := nmd_e hf
  refine v_nmi ex1 ?_
  refine v_istore_n (pc := 38) (k := 3) (lv' := [(3, .int x1), (0, .ref (ρ l0)), (1, .int l1), (2, .int l2), (4, .int l4)]) X (by decide +kernel) (Nat.le_of_ble_eq_true rfl) rfl ?_
  obtain ⟨x2, ex2, hf⟩ := nmd_e hf
  refine v_iinc (pc := 39) (k := 4) (n := 1) (v := x2) (lv' := [(4, .int x2), (3, .int x1), (0, .ref (ρ l0)), (1, .int l1), (2, .int l2)]) X (by decide +kernel) 4 rfl (by rw [ic_1, ex2]) (Nat.le_of_ble_eq_true rfl) rfl ?_
  refine v_goto (pc := 42) (off := -37) (tgt := 5) X (by decide +kernel) (by decide) ?_
  refine v_sub [2, 3, 4, 1, 0] rfl ?_
  exact H5 l0 l1 l2 x1 x2 kl0 hf
set_option maxRecDepth 4000 in
set_option maxHeartbeats 1000000 in
theorem vlp_Md_packed_5 {E : En} {g : Gl} {tb : Tb} {ρ : Nat → Nat} (ok : TbOK tb) (hi : inj tb ρ) {r : Int32} (X : CX E g tb ρ prog_14_method_12_code 5 RC12 0 0) {h : Hp} (Y : CQ E g tb ρ (some .int) (some (.int r)) h) : ∀ (n : Nat) (l0 : Nat) (l1 : Int32) (l2 : Int32) (l3 : Int32) (l4 : Int32) (kl0 : kd tb l0 = 12), lp_Md_packed_5 tb n h l0 l1 l2 l3 l4 = some r → V E g tb ρ 5 5 [(0, .ref (ρ l0)), (1, .int l1), (2, .int l2), (3, .int l3), (4, .int l4)] [] h := by
  intro n
  induction n with
  | zero =>
    intro l0 l1 l2 l3 l4 kl0 hf
    rw [lp_Md_packed_5] at hf
    cases hf
  | succ n ih =>
    intro l0 l1 l2 l3 l4 kl0 hf
    rw [lp_Md_packed_5] at hf
    refine v_iload (pc := 5) (k := 4) X (by decide +kernel) 4 rfl ?_
    refine v_iload_n (pc := 7) (k := 1) X (by decide +kernel) 1 rfl ?_
    refine v_bipush (pc := 8) (n := 6) X (by decide +kernel) bi_6 ?_
    refine v_iadd (pc := 10) X (by decide +kernel) ?_
    refine v_icmp_ge (pc := 11) (off := 34) (tgt := 45) X (by decide +kernel) (by decide) (fun q3 => ?_) (fun q3 => ?_)
    · rw [if_pos q3] at hf
      refine v_iload_n (pc := 45) (k := 3) X (by decide +kernel) 3 rfl ?_
      cases hf
      exact v_iret X Y (by decide +kernel) rfl rfl
    · rw [if_neg q3] at hf
      refine v_iload_n (pc := 14) (k := 3) X (by decide +kernel) 3 rfl ?_
      refine v_iconst (pc := 15) (n := 5) X (by decide +kernel) ic_5 ?_
      refine v_ishl (pc := 16) X (by decide +kernel) ?_
      refine v_iload (pc := 17) (k := 4) X (by decide +kernel) 4 rfl ?_
      refine v_iload_n (pc := 19) (k := 2) X (by decide +kernel) 2 rfl ?_
      refine v_icmp_ge (pc := 20) (off := 16) (tgt := 36) X (by decide +kernel) (by decide) (fun q2 => ?_) (fun q2 => ?_)
      · rw [if_pos q2] at hf
        refine v_iconst (pc := 36) (n := 0) X (by decide +kernel) ic_0 ?_
        refine v_sub [0, 1, 2, 4] rfl ?_
        exact vjb_Md_packed_37 ok hi X Y ih l0 l1 l2 l4 (l3 <<< ((5 : Int32) &&& 31)) (0 : Int32) kl0 hf
      · rw [if_neg q2] at hf
        refine v_aload_n (pc := 23) (k := 0) X (by decide +kernel) 0 rfl ?_
        refine v_geta (pc := 24) X fl_12_7 kl0 fk_12_0 (by decide +kernel) ?_
        refine v_iload (pc := 27) (k := 4) X (by decide +kernel) 4 rfl ?_
        obtain ⟨x1, ex1, hf⟩ := bnd_e hf
        refine v_iald (pc := 29) X (ly_12_0 ok kl0) ex1 (by decide +kernel) ?_
        refine v_bipush (pc := 30) (n := 96) X (by decide +kernel) bi_96 ?_
        refine v_isub (pc := 32) X (by decide +kernel) ?_
        refine v_goto (pc := 33) (off := 4) (tgt := 37) X (by decide +kernel) (by decide) ?_
        refine v_sub [0, 1, 2, 4] rfl ?_
        exact vjb_Md_packed_37 ok hi X Y ih l0 l1 l2 l4 (l3 <<< ((5 : Int32) &&& 31)) (x1 - (96 : Int32)) kl0 hf
set_option maxRecDepth 4000 in
set_option maxHeartbeats 1000000 in
theorem mt_Md_packed {g : Gl} {tb : Tb} {ρ : Nat → Nat} (ok : TbOK tb) (hi : inj tb ρ) {h : Hp} {l0 : Nat} {l1 : Int32} {l2 : Int32} (kl0 : kd tb l0 = 12) {r : Int32} (hf : f_Md_packed tb h l0 l1 l2 = some r) : MT g y_Md_packed prog_14_method_12_code 5 (some .int) 0 0 tb ρ [.ref (ρ l0), .int l1, .int l2] h (some (.int r)) h := by
  refine mt_intro (by decide +kernel) ok hi (Nat.le_of_ble_eq_true rfl) (fun E X Y => ?_)
  change V E g tb ρ 5 0 [(0, .ref (ρ l0)), (1, .int l1), (2, .int l2)] [] h
  unfold f_Md_packed at hf
  refine v_iconst (pc := 0) (n := 0) X (by decide +kernel) ic_0 ?_
  refine v_istore_n (pc := 1) (k := 3) (lv' := [(3, .int (0 : Int32)), (0, .ref (ρ l0)), (1, .int l1), (2, .int l2)]) X (by decide +kernel) (Nat.le_of_ble_eq_true rfl) rfl ?_
  refine v_iload_n (pc := 2) (k := 1) X (by decide +kernel) 2 rfl ?_
  refine v_istore (pc := 3) (k := 4) (lv' := [(4, .int l1), (3, .int (0 : Int32)), (0, .ref (ρ l0)), (1, .int l1), (2, .int l2)]) X (by decide +kernel) (Nat.le_of_ble_eq_true rfl) rfl ?_
  refine v_sub [2, 3, 4, 1, 0] rfl ?_
  exact vlp_Md_packed_5 ok hi X Y fu l0 l1 l2 (0 : Int32) l1 kl0 hf
def jb_Md_signToken_287 (tb : Tb) (h : Hp) (s0 : Nat) (s1 : Int32) : Option (Hp) :=
  nmd (pI h s0 8 s1) fun h1 =>
  some h1
def jb_Md_signToken_275 (tb : Tb) (h : Hp) (l0 : Nat) (s0 : Int32) : Option (Hp) :=
  if s0 = (0 : Int32) then (
    jb_Md_signToken_287 tb h l0 (6 : Int32)
  ) else (
    jb_Md_signToken_287 tb h l0 (4 : Int32)
  )
def jb_Md_signToken_270 (tb : Tb) (h : Hp) (l0 : Nat) : Option (Hp) :=
  jb_Md_signToken_275 tb h l0 (1 : Int32)
def jb_Md_signToken_192 (tb : Tb) (h : Hp) (s0 : Nat) (s1 : Int32) : Option (Hp) :=
  nmd (pI h s0 9 s1) fun h1 =>
  some h1
def jb_Md_signToken_135 (tb : Tb) (h : Hp) (l0 : Nat) (l2 : Int32) (l3 : Int32) : Option (Hp) :=
  nmd (pI h l0 8 (5 : Int32)) fun h1 =>
  if (h1.1 l0 9) = (61 : Int32) then (
    jb_Md_signToken_192 tb h1 l0 (2 : Int32)
  ) else (
    if (h1.1 l0 9) = (60 : Int32) then (
      if l2 = (0 : Int32) then (
        if l3 = (0 : Int32) then (
          jb_Md_signToken_192 tb h1 l0 (0 : Int32)
        ) else (
          jb_Md_signToken_192 tb h1 l0 (3 : Int32)
        )
      ) else (
        jb_Md_signToken_192 tb h1 l0 (1 : Int32)
      )
    ) else (
      if l2 = (0 : Int32) then (
        jb_Md_signToken_192 tb h1 l0 (5 : Int32)
      ) else (
        jb_Md_signToken_192 tb h1 l0 (4 : Int32)
      )
    )
  )
def jb_Md_signToken_125 (tb : Tb) (h : Hp) (l0 : Nat) (l2 : Int32) (l3 : Int32) : Option (Hp) :=
  nmd (pI h l0 7 ((h.1 l0 7) + (1 : Int32))) fun h1 =>
  jb_Md_signToken_135 tb h1 l0 l2 l3
def jb_Md_signToken_116 (tb : Tb) (h : Hp) (l0 : Nat) (l2 : Int32) (s0 : Int32) : Option (Hp) :=
  if l2 = (0 : Int32) then (
    if s0 = (0 : Int32) then (
      jb_Md_signToken_135 tb h l0 l2 s0
    ) else (
      jb_Md_signToken_125 tb h l0 l2 s0
    )
  ) else (
    jb_Md_signToken_125 tb h l0 l2 s0
  )
def jb_Md_signToken_115 (tb : Tb) (h : Hp) (l0 : Nat) (l2 : Int32) : Option (Hp) :=
  jb_Md_signToken_116 tb h l0 l2 (0 : Int32)
def jb_Md_signToken_95 (tb : Tb) (h : Hp) (l0 : Nat) (l1 : Int32) (s0 : Int32) : Option (Hp) :=
  if (h.1 l0 9) = (60 : Int32) then (
    if l1 = (62 : Int32) then (
      jb_Md_signToken_116 tb h l0 s0 (1 : Int32)
    ) else (
      jb_Md_signToken_115 tb h l0 s0
    )
  ) else (
    jb_Md_signToken_115 tb h l0 s0
  )
def jb_Md_signToken_94 (tb : Tb) (h : Hp) (l0 : Nat) (l1 : Int32) : Option (Hp) :=
  jb_Md_signToken_95 tb h l0 l1 (0 : Int32)
def jb_Md_signToken_74 (tb : Tb) (h : Hp) (l0 : Nat) (s0 : Int32) : Option (Hp) :=
  if (h.1 l0 9) = (61 : Int32) then (
    jb_Md_signToken_94 tb h l0 s0
  ) else (
    if s0 = (61 : Int32) then (
      jb_Md_signToken_95 tb h l0 s0 (1 : Int32)
    ) else (
      jb_Md_signToken_94 tb h l0 s0
    )
  )
def jb_Md_signToken_50 (tb : Tb) (h : Hp) (l0 : Nat) : Option (Hp) :=
  if (h.1 l0 6) ≤ (h.1 l0 7) then (
    jb_Md_signToken_74 tb h l0 (0 : Int32)
  ) else (
    (rI tb h (lay tb l0 0) (h.1 l0 7)).bind fun x1 =>
    jb_Md_signToken_74 tb h l0 x1
  )
def f_Md_signToken (tb : Tb) (h : Hp) (l0 : Nat) : Option (Hp) :=
  (rI tb h (lay tb l0 0) (h.1 l0 7)).bind fun x1 =>
  nmd (pI h l0 9 x1) fun h2 =>
  nmd (pI h2 l0 7 ((h2.1 l0 7) + (1 : Int32))) fun h3 =>
  if (h3.1 l0 9) = (60 : Int32) then (
    jb_Md_signToken_50 tb h3 l0
  ) else (
    if (h3.1 l0 9) = (62 : Int32) then (
      jb_Md_signToken_50 tb h3 l0
    ) else (
      if (h3.1 l0 9) = (61 : Int32) then (
        jb_Md_signToken_50 tb h3 l0
      ) else (
        if (h3.1 l0 9) = (59 : Int32) then (
          jb_Md_signToken_270 tb h3 l0
        ) else (
          if (h3.1 l0 9) = (40 : Int32) then (
            jb_Md_signToken_270 tb h3 l0
          ) else (
            if (h3.1 l0 9) = (41 : Int32) then (
              jb_Md_signToken_270 tb h3 l0
            ) else (
              if (h3.1 l0 9) = (43 : Int32) then (
                jb_Md_signToken_270 tb h3 l0
              ) else (
                if (h3.1 l0 9) = (45 : Int32) then (
                  jb_Md_signToken_270 tb h3 l0
                ) else (
                  if (h3.1 l0 9) = (42 : Int32) then (
                    jb_Md_signToken_270 tb h3 l0
                  ) else (
                    if (h3.1 l0 9) = (47 : Int32) then (
                      jb_Md_signToken_270 tb h3 l0
                    ) else (
                      if (h3.1 l0 9) = (37 : Int32) then (
                        jb_Md_signToken_270 tb h3 l0
                      ) else (
                        jb_Md_signToken_275 tb h3 l0 (0 : Int32)
                      )
                    )
                  )
                )
              )
            )
          )
        )
      )
    )
  )
set_option maxRecDepth 4000 in
set_option maxHeartbeats 1000000 in
theorem vjb_Md_signToken_287 {E : En} {g : Gl} {tb : Tb} {ρ : Nat → Nat} (ok : TbOK tb) (hi : inj tb ρ) {r : Hp} (X : CX E g tb ρ prog_14_method_11_code 4 RC12 0 0) (Y : CQ E g tb ρ none (none) r) (h : Hp) (s0 : Nat) (s1 : Int32) (ks0 : kd tb s0 = 12) (hf : jb_Md_signToken_287 tb h s0 s1 = some r) : V E g tb ρ 4 287 [] [.int s1, .ref (ρ s0)] h := by
  unfold jb_Md_signToken_287 at hf
  obtain ⟨h1, eh1, hf⟩ := nmd_e hf
  refine v_puti (pc := 287) X fp_12_178 ks0 rfl (by decide +kernel) eh1 ?_
  cases hf
  exact v_vret X Y (by decide +kernel) rfl rfl
set_option maxRecDepth 4000 in
set_option maxHeartbeats 1000000 in
theorem vjb_Md_signToken_275 {E : En} {g : Gl} {tb : Tb} {ρ : Nat → Nat} (ok : TbOK tb) (hi : inj tb ρ) {r : Hp} (X : CX E g tb ρ prog_14_method_11_code 4 RC12 0 0) (Y : CQ E g tb ρ none (none) r) (h : Hp) (l0 : Nat) (s0 : Int32) (kl0 : kd tb l0 = 12) (hf : jb_Md_signToken_275 tb h l0 s0 = some r) : V E g tb ρ 4 275 [(0, .ref (ρ l0))] [.int s0] h := by
  unfold jb_Md_signToken_275 at hf
  refine v_istore_n (pc := 275) (k := 1) (lv' := [(1, .int s0), (0, .ref (ρ l0))]) X (by decide +kernel) (Nat.le_of_ble_eq_true rfl) rfl ?_
  refine v_aload_n (pc := 276) (k := 0) X (by decide +kernel) 1 rfl ?_
  refine v_iload_n (pc := 277) (k := 1) X (by decide +kernel) 0 rfl ?_
  refine v_if_eq (pc := 278) (off := 7) (tgt := 285) X (by decide +kernel) (by decide) (fun q1 => ?_) (fun q1 => ?_)
  · rw [if_pos q1] at hf
    refine v_bipush (pc := 285) (n := 6) X (by decide +kernel) bi_6 ?_
    refine v_sub [] rfl ?_
    exact vjb_Md_signToken_287 ok hi X Y h l0 (6 : Int32) kl0 hf
  · rw [if_neg q1] at hf
    refine v_iconst (pc := 281) (n := 4) X (by decide +kernel) ic_4 ?_
    refine v_goto (pc := 282) (off := 5) (tgt := 287) X (by decide +kernel) (by decide) ?_
    refine v_sub [] rfl ?_
    exact vjb_Md_signToken_287 ok hi X Y h l0 (4 : Int32) kl0 hf
set_option maxRecDepth 4000 in
set_option maxHeartbeats 1000000 in
theorem vjb_Md_signToken_270 {E : En} {g : Gl} {tb : Tb} {ρ : Nat → Nat} (ok : TbOK tb) (hi : inj tb ρ) {r : Hp} (X : CX E g tb ρ prog_14_method_11_code 4 RC12 0 0) (Y : CQ E g tb ρ none (none) r) (h : Hp) (l0 : Nat) (kl0 : kd tb l0 = 12) (hf : jb_Md_signToken_270 tb h l0 = some r) : V E g tb ρ 4 270 [(0, .ref (ρ l0))] [] h := by
  unfold jb_Md_signToken_270 at hf
  refine v_iconst (pc := 270) (n := 1) X (by decide +kernel) ic_1 ?_
  refine v_goto (pc := 271) (off := 4) (tgt := 275) X (by decide +kernel) (by decide) ?_
  exact vjb_Md_signToken_275 ok hi X Y h l0 (1 : Int32) kl0 hf
set_option maxRecDepth 4000 in
set_option maxHeartbeats 1000000 in
theorem vjb_Md_signToken_192 {E : En} {g : Gl} {tb : Tb} {ρ : Nat → Nat} (ok : TbOK tb) (hi : inj tb ρ) {r : Hp} (X : CX E g tb ρ prog_14_method_11_code 4 RC12 0 0) (Y : CQ E g tb ρ none (none) r) (h : Hp) (s0 : Nat) (s1 : Int32) (ks0 : kd tb s0 = 12) (hf : jb_Md_signToken_192 tb h s0 s1 = some r) : V E g tb ρ 4 192 [] [.int s1, .ref (ρ s0)] h := by
  unfold jb_Md_signToken_192 at hf
  obtain ⟨h1, eh1, hf⟩ := nmd_e hf
  refine v_puti (pc := 192) X fp_12_189 ks0 rfl (by decide +kernel) eh1 ?_
  refine v_goto (pc := 195) (off := 95) (tgt := 290) X (by decide +kernel) (by decide) ?_
  cases hf
  exact v_vret X Y (by decide +kernel) rfl rfl
set_option maxRecDepth 4000 in
set_option maxHeartbeats 1000000 in
theorem vjb_Md_signToken_135 {E : En} {g : Gl} {tb : Tb} {ρ : Nat → Nat} (ok : TbOK tb) (hi : inj tb ρ) {r : Hp} (X : CX E g tb ρ prog_14_method_11_code 4 RC12 0 0) (Y : CQ E g tb ρ none (none) r) (h : Hp) (l0 : Nat) (l2 : Int32) (l3 : Int32) (kl0 : kd tb l0 = 12) (hf : jb_Md_signToken_135 tb h l0 l2 l3 = some r) : V E g tb ρ 4 135 [(0, .ref (ρ l0)), (2, .int l2), (3, .int l3)] [] h := by
  unfold jb_Md_signToken_135 at hf
  refine v_aload_n (pc := 135) (k := 0) X (by decide +kernel) 0 rfl ?_
  refine v_iconst (pc := 136) (n := 5) X (by decide +kernel) ic_5 ?_
  obtain ⟨h1, eh1, hf⟩ := nmd_e hf
  refine v_puti (pc := 137) X fp_12_178 kl0 rfl (by decide +kernel) eh1 ?_
  refine v_aload_n (pc := 140) (k := 0) X (by decide +kernel) 0 rfl ?_
  refine v_aload_n (pc := 141) (k := 0) X (by decide +kernel) 0 rfl ?_
  refine v_geti (pc := 142) X fl_12_189 kl0 rfl (by decide +kernel) ?_
  refine v_bipush (pc := 145) (n := 61) X (by decide +kernel) bi_61 ?_
  refine v_icmp_ne (pc := 147) (off := 7) (tgt := 154) X (by decide +kernel) (by decide) (fun q6 => ?_) (fun q6 => ?_)
  · rw [if_neg q6] at hf
    refine v_aload_n (pc := 154) (k := 0) X (by decide +kernel) 0 rfl ?_
    refine v_geti (pc := 155) X fl_12_189 kl0 rfl (by decide +kernel) ?_
    refine v_bipush (pc := 158) (n := 60) X (by decide +kernel) bi_60 ?_
    refine v_icmp_ne (pc := 160) (off := 23) (tgt := 183) X (by decide +kernel) (by decide) (fun q5 => ?_) (fun q5 => ?_)
    · rw [if_neg q5] at hf
      refine v_iload_n (pc := 183) (k := 2) X (by decide +kernel) 1 rfl ?_
      refine v_if_eq (pc := 184) (off := 7) (tgt := 191) X (by decide +kernel) (by decide) (fun q2 => ?_) (fun q2 => ?_)
      · rw [if_pos q2] at hf
        refine v_iconst (pc := 191) (n := 5) X (by decide +kernel) ic_5 ?_
        refine v_sub [] rfl ?_
        exact vjb_Md_signToken_192 ok hi X Y h1 l0 (5 : Int32) kl0 hf
      · rw [if_neg q2] at hf
        refine v_iconst (pc := 187) (n := 4) X (by decide +kernel) ic_4 ?_
        refine v_goto (pc := 188) (off := 4) (tgt := 192) X (by decide +kernel) (by decide) ?_
        refine v_sub [] rfl ?_
        exact vjb_Md_signToken_192 ok hi X Y h1 l0 (4 : Int32) kl0 hf
    · rw [if_pos q5] at hf
      refine v_iload_n (pc := 163) (k := 2) X (by decide +kernel) 1 rfl ?_
      refine v_if_eq (pc := 164) (off := 7) (tgt := 171) X (by decide +kernel) (by decide) (fun q4 => ?_) (fun q4 => ?_)
      · rw [if_pos q4] at hf
        refine v_iload_n (pc := 171) (k := 3) X (by decide +kernel) 2 rfl ?_
        refine v_if_eq (pc := 172) (off := 7) (tgt := 179) X (by decide +kernel) (by decide) (fun q3 => ?_) (fun q3 => ?_)
        · rw [if_pos q3] at hf
          refine v_iconst (pc := 179) (n := 0) X (by decide +kernel) ic_0 ?_
          refine v_goto (pc := 180) (off := 12) (tgt := 192) X (by decide +kernel) (by decide) ?_
          refine v_sub [] rfl ?_
          exact vjb_Md_signToken_192 ok hi X Y h1 l0 (0 : Int32) kl0 hf
        · rw [if_neg q3] at hf
          refine v_iconst (pc := 175) (n := 3) X (by decide +kernel) ic_3 ?_
          refine v_goto (pc := 176) (off := 16) (tgt := 192) X (by decide +kernel) (by decide) ?_
          refine v_sub [] rfl ?_
          exact vjb_Md_signToken_192 ok hi X Y h1 l0 (3 : Int32) kl0 hf
      · rw [if_neg q4] at hf
        refine v_iconst (pc := 167) (n := 1) X (by decide +kernel) ic_1 ?_
        refine v_goto (pc := 168) (off := 24) (tgt := 192) X (by decide +kernel) (by decide) ?_
        refine v_sub [] rfl ?_
        exact vjb_Md_signToken_192 ok hi X Y h1 l0 (1 : Int32) kl0 hf
  · rw [if_pos q6] at hf
    refine v_iconst (pc := 150) (n := 2) X (by decide +kernel) ic_2 ?_
    refine v_goto (pc := 151) (off := 41) (tgt := 192) X (by decide +kernel) (by decide) ?_
    refine v_sub [] rfl ?_
    exact vjb_Md_signToken_192 ok hi X Y h1 l0 (2 : Int32) kl0 hf
set_option maxRecDepth 4000 in
set_option maxHeartbeats 1000000 in
theorem vjb_Md_signToken_125 {E : En} {g : Gl} {tb : Tb} {ρ : Nat → Nat} (ok : TbOK tb) (hi : inj tb ρ) {r : Hp} (X : CX E g tb ρ prog_14_method_11_code 4 RC12 0 0) (Y : CQ E g tb ρ none (none) r) (h : Hp) (l0 : Nat) (l2 : Int32) (l3 : Int32) (kl0 : kd tb l0 = 12) (hf : jb_Md_signToken_125 tb h l0 l2 l3 = some r) : V E g tb ρ 4 125 [(0, .ref (ρ l0)), (2, .int l2), (3, .int l3)] [] h := by
  unfold jb_Md_signToken_125 at hf
  refine v_aload_n (pc := 125) (k := 0) X (by decide +kernel) 0 rfl ?_
  refine v_dup (pc := 126) X (by decide +kernel) rfl ?_
  refine v_geti (pc := 127) X fl_12_175 kl0 rfl (by decide +kernel) ?_
  refine v_iconst (pc := 130) (n := 1) X (by decide +kernel) ic_1 ?_
  refine v_iadd (pc := 131) X (by decide +kernel) ?_
  obtain ⟨h1, eh1, hf⟩ := nmd_e hf
  refine v_puti (pc := 132) X fp_12_175 kl0 rfl (by decide +kernel) eh1 ?_
  exact vjb_Md_signToken_135 ok hi X Y h1 l0 l2 l3 kl0 hf
set_option maxRecDepth 4000 in
set_option maxHeartbeats 1000000 in
theorem vjb_Md_signToken_116 {E : En} {g : Gl} {tb : Tb} {ρ : Nat → Nat} (ok : TbOK tb) (hi : inj tb ρ) {r : Hp} (X : CX E g tb ρ prog_14_method_11_code 4 RC12 0 0) (Y : CQ E g tb ρ none (none) r) (h : Hp) (l0 : Nat) (l2 : Int32) (s0 : Int32) (kl0 : kd tb l0 = 12) (hf : jb_Md_signToken_116 tb h l0 l2 s0 = some r) : V E g tb ρ 4 116 [(0, .ref (ρ l0)), (2, .int l2)] [.int s0] h := by
  unfold jb_Md_signToken_116 at hf
  refine v_istore_n (pc := 116) (k := 3) (lv' := [(3, .int s0), (0, .ref (ρ l0)), (2, .int l2)]) X (by decide +kernel) (Nat.le_of_ble_eq_true rfl) rfl ?_
  refine v_iload_n (pc := 117) (k := 2) X (by decide +kernel) 2 rfl ?_
  refine v_if_ne (pc := 118) (off := 7) (tgt := 125) X (by decide +kernel) (by decide) (fun q2 => ?_) (fun q2 => ?_)
  · rw [if_neg q2] at hf
    refine v_sub [1, 2, 0] rfl ?_
    exact vjb_Md_signToken_125 ok hi X Y h l0 l2 s0 kl0 hf
  · rw [if_pos q2] at hf
    refine v_iload_n (pc := 121) (k := 3) X (by decide +kernel) 0 rfl ?_
    refine v_if_eq (pc := 122) (off := 13) (tgt := 135) X (by decide +kernel) (by decide) (fun q1 => ?_) (fun q1 => ?_)
    · rw [if_pos q1] at hf
      refine v_sub [1, 2, 0] rfl ?_
      exact vjb_Md_signToken_135 ok hi X Y h l0 l2 s0 kl0 hf
    · rw [if_neg q1] at hf
      refine v_sub [1, 2, 0] rfl ?_
      exact vjb_Md_signToken_125 ok hi X Y h l0 l2 s0 kl0 hf
set_option maxRecDepth 4000 in
set_option maxHeartbeats 1000000 in
theorem vjb_Md_signToken_115 {E : En} {g : Gl} {tb : Tb} {ρ : Nat → Nat} (ok : TbOK tb) (hi : inj tb ρ) {r : Hp} (X : CX E g tb ρ prog_14_method_11_code 4 RC12 0 0) (Y : CQ E g tb ρ none (none) r) (h : Hp) (l0 : Nat) (l2 : Int32) (kl0 : kd tb l0 = 12) (hf : jb_Md_signToken_115 tb h l0 l2 = some r) : V E g tb ρ 4 115 [(0, .ref (ρ l0)), (2, .int l2)] [] h := by
  unfold jb_Md_signToken_115 at hf
  refine v_iconst (pc := 115) (n := 0) X (by decide +kernel) ic_0 ?_
  exact vjb_Md_signToken_116 ok hi X Y h l0 l2 (0 : Int32) kl0 hf
set_option maxRecDepth 4000 in
set_option maxHeartbeats 1000000 in
theorem vjb_Md_signToken_95 {E : En} {g : Gl} {tb : Tb} {ρ : Nat → Nat} (ok : TbOK tb) (hi : inj tb ρ) {r : Hp} (X : CX E g tb ρ prog_14_method_11_code 4 RC12 0 0) (Y : CQ E g tb ρ none (none) r) (h : Hp) (l0 : Nat) (l1 : Int32) (s0 : Int32) (kl0 : kd tb l0 = 12) (hf : jb_Md_signToken_95 tb h l0 l1 s0 = some r) : V E g tb ρ 4 95 [(0, .ref (ρ l0)), (1, .int l1)] [.int s0] h := by
  unfold jb_Md_signToken_95 at hf
  refine v_istore_n (pc := 95) (k := 2) (lv' := [(2, .int s0), (0, .ref (ρ l0)), (1, .int l1)]) X (by decide +kernel) (Nat.le_of_ble_eq_true rfl) rfl ?_
  refine v_aload_n (pc := 96) (k := 0) X (by decide +kernel) 1 rfl ?_
  refine v_geti (pc := 97) X fl_12_189 kl0 rfl (by decide +kernel) ?_
  refine v_bipush (pc := 100) (n := 60) X (by decide +kernel) bi_60 ?_
  refine v_icmp_ne (pc := 102) (off := 13) (tgt := 115) X (by decide +kernel) (by decide) (fun q2 => ?_) (fun q2 => ?_)
  · rw [if_neg q2] at hf
    refine v_sub [1, 0] rfl ?_
    exact vjb_Md_signToken_115 ok hi X Y h l0 s0 kl0 hf
  · rw [if_pos q2] at hf
    refine v_iload_n (pc := 105) (k := 1) X (by decide +kernel) 2 rfl ?_
    refine v_bipush (pc := 106) (n := 62) X (by decide +kernel) bi_62 ?_
    refine v_icmp_ne (pc := 108) (off := 7) (tgt := 115) X (by decide +kernel) (by decide) (fun q1 => ?_) (fun q1 => ?_)
    · rw [if_neg q1] at hf
      refine v_sub [1, 0] rfl ?_
      exact vjb_Md_signToken_115 ok hi X Y h l0 s0 kl0 hf
    · rw [if_pos q1] at hf
      refine v_iconst (pc := 111) (n := 1) X (by decide +kernel) ic_1 ?_
      refine v_goto (pc := 112) (off := 4) (tgt := 116) X (by decide +kernel) (by decide) ?_
      refine v_sub [1, 0] rfl ?_
      exact vjb_Md_signToken_116 ok hi X Y h l0 s0 (1 : Int32) kl0 hf
set_option maxRecDepth 4000 in
set_option maxHeartbeats 1000000 in
theorem vjb_Md_signToken_94 {E : En} {g : Gl} {tb : Tb} {ρ : Nat → Nat} (ok : TbOK tb) (hi : inj tb ρ) {r : Hp} (X : CX E g tb ρ prog_14_method_11_code 4 RC12 0 0) (Y : CQ E g tb ρ none (none) r) (h : Hp) (l0 : Nat) (l1 : Int32) (kl0 : kd tb l0 = 12) (hf : jb_Md_signToken_94 tb h l0 l1 = some r) : V E g tb ρ 4 94 [(0, .ref (ρ l0)), (1, .int l1)] [] h := by
  unfold jb_Md_signToken_94 at hf
  refine v_iconst (pc := 94) (n := 0) X (by decide +kernel) ic_0 ?_
  exact vjb_Md_signToken_95 ok hi X Y h l0 l1 (0 : Int32) kl0 hf
set_option maxRecDepth 4000 in
set_option maxHeartbeats 1000000 in
theorem vjb_Md_signToken_74 {E : En} {g : Gl} {tb : Tb} {ρ : Nat → Nat} (ok : TbOK tb) (hi : inj tb ρ) {r : Hp} (X : CX E g tb ρ prog_14_method_11_code 4 RC12 0 0) (Y : CQ E g tb ρ none (none) r) (h : Hp) (l0 : Nat) (s0 : Int32) (kl0 : kd tb l0 = 12) (hf : jb_Md_signToken_74 tb h l0 s0 = some r) : V E g tb ρ 4 74 [(0, .ref (ρ l0))] [.int s0] h := by
  unfold jb_Md_signToken_74 at hf
  refine v_istore_n (pc := 74) (k := 1) (lv' := [(1, .int s0), (0, .ref (ρ l0))]) X (by decide +kernel) (Nat.le_of_ble_eq_true rfl) rfl ?_
  refine v_aload_n (pc := 75) (k := 0) X (by decide +kernel) 1 rfl ?_
  refine v_geti (pc := 76) X fl_12_189 kl0 rfl (by decide +kernel) ?_
  refine v_bipush (pc := 79) (n := 61) X (by decide +kernel) bi_61 ?_
  refine v_icmp_eq (pc := 81) (off := 13) (tgt := 94) X (by decide +kernel) (by decide) (fun q2 => ?_) (fun q2 => ?_)
  · rw [if_pos q2] at hf
    refine v_sub [1, 0] rfl ?_
    exact vjb_Md_signToken_94 ok hi X Y h l0 s0 kl0 hf
  · rw [if_neg q2] at hf
    refine v_iload_n (pc := 84) (k := 1) X (by decide +kernel) 0 rfl ?_
    refine v_bipush (pc := 85) (n := 61) X (by decide +kernel) bi_61 ?_
    refine v_icmp_ne (pc := 87) (off := 7) (tgt := 94) X (by decide +kernel) (by decide) (fun q1 => ?_) (fun q1 => ?_)
    · rw [if_neg q1] at hf
      refine v_sub [1, 0] rfl ?_
      exact vjb_Md_signToken_94 ok hi X Y h l0 s0 kl0 hf
    · rw [if_pos q1] at hf
      refine v_iconst (pc := 90) (n := 1) X (by decide +kernel) ic_1 ?_
      refine v_goto (pc := 91) (off := 4) (tgt := 95) X (by decide +kernel) (by decide) ?_
      refine v_sub [1, 0] rfl ?_
      exact vjb_Md_signToken_95 ok hi X Y h l0 s0 (1 : Int32) kl0 hf
set_option maxRecDepth 4000 in
set_option maxHeartbeats 1000000 in
theorem vjb_Md_signToken_50 {E : En} {g : Gl} {tb : Tb} {ρ : Nat → Nat} (ok : TbOK tb) (hi : inj tb ρ) {r : Hp} (X : CX E g tb ρ prog_14_method_11_code 4 RC12 0 0) (Y : CQ E g tb ρ none (none) r) (h : Hp) (l0 : Nat) (kl0 : kd tb l0 = 12) (hf : jb_Md_signToken_50 tb h l0 = some r) : V E g tb ρ 4 50 [(0, .ref (ρ l0))] [] h := by
  unfold jb_Md_signToken_50 at hf
  refine v_aload_n (pc := 50) (k := 0) X (by decide +kernel) 0 rfl ?_
  refine v_geti (pc := 51) X fl_12_175 kl0 rfl (by decide +kernel) ?_
  refine v_aload_n (pc := 54) (k := 0) X (by decide +kernel) 0 rfl ?_
  refine v_geti (pc := 55) X fl_12_172 kl0 rfl (by decide +kernel) ?_
  refine v_icmp_ge (pc := 58) (off := 15) (tgt := 73) X (by decide +kernel) (by decide) (fun q2 => ?_) (fun q2 => ?_)
  · rw [if_pos q2] at hf
    refine v_iconst (pc := 73) (n := 0) X (by decide +kernel) ic_0 ?_
    exact vjb_Md_signToken_74 ok hi X Y h l0 (0 : Int32) kl0 hf
  · rw [if_neg q2] at hf
    refine v_aload_n (pc := 61) (k := 0) X (by decide +kernel) 0 rfl ?_
    refine v_geta (pc := 62) X fl_12_7 kl0 fk_12_0 (by decide +kernel) ?_
    refine v_aload_n (pc := 65) (k := 0) X (by decide +kernel) 0 rfl ?_
    refine v_geti (pc := 66) X fl_12_175 kl0 rfl (by decide +kernel) ?_
    obtain ⟨x1, ex1, hf⟩ := bnd_e hf
    refine v_iald (pc := 69) X (ly_12_0 ok kl0) ex1 (by decide +kernel) ?_
    refine v_goto (pc := 70) (off := 4) (tgt := 74) X (by decide +kernel) (by decide) ?_
    exact vjb_Md_signToken_74 ok hi X Y h l0 x1 kl0 hf
set_option maxRecDepth 4000 in
set_option maxHeartbeats 1000000 in
theorem mt_Md_signToken {g : Gl} {tb : Tb} {ρ : Nat → Nat} (ok : TbOK tb) (hi : inj tb ρ) {h : Hp} {l0 : Nat} (kl0 : kd tb l0 = 12) {r : Hp} (hf : f_Md_signToken tb h l0 = some r) : MT g y_Md_signToken prog_14_method_11_code 4 none 0 0 tb ρ [.ref (ρ l0)] h (none) r := by
  refine mt_intro (by decide +kernel) ok hi (Nat.le_of_ble_eq_true rfl) (fun E X Y => ?_)
  change V E g tb ρ 4 0 [(0, .ref (ρ l0))] [] h
  unfold f_Md_signToken at hf
  refine v_aload_n (pc := 0) (k := 0) X (by decide +kernel) 0 rfl ?_
  refine v_aload_n (pc := 1) (k := 0) X (by decide +kernel) 0 rfl ?_
  refine v_geta (pc := 2) X fl_12_7 kl0 fk_12_0 (by decide +kernel) ?_
  refine v_aload_n (pc := 5) (k := 0) X (by decide +kernel) 0 rfl ?_
  refine v_geti (pc := 6) X fl_12_175 kl0 rfl (by decide +kernel) ?_
  obtain ⟨x1, ex1, hf⟩ := bnd_e hf
  refine v_iald (pc := 9) X (ly_12_0 ok kl0) ex1 (by decide +kernel) ?_
  obtain ⟨h2, eh2, hf⟩ := nmd_e hf
  refine v_puti (pc := 10) X fp_12_189 kl0 rfl (by decide +kernel) eh2 ?_
  refine v_aload_n (pc := 13) (k := 0) X (by decide +kernel) 0 rfl ?_
  refine v_dup (pc := 14) X (by decide +kernel) rfl ?_
  refine v_geti (pc := 15) X fl_12_175 kl0 rfl (by decide +kernel) ?_
  refine v_iconst (pc := 18) (n := 1) X (by decide +kernel) ic_1 ?_
  refine v_iadd (pc := 19) X (by decide +kernel) ?_
  obtain ⟨h3, eh3, hf⟩ := nmd_e hf
  refine v_puti (pc := 20) X fp_12_175 kl0 rfl (by decide +kernel) eh3 ?_
  refine v_aload_n (pc := 23) (k := 0) X (by decide +kernel) 0 rfl ?_
  refine v_geti (pc := 24) X fl_12_189 kl0 rfl (by decide +kernel) ?_
  refine v_bipush (pc := 27) (n := 60) X (by decide +kernel) bi_60 ?_
  refine v_icmp_eq (pc := 29) (off := 21) (tgt := 50) X (by decide +kernel) (by decide) (fun q14 => ?_) (fun q14 => ?_)
  · rw [if_pos q14] at hf
    exact vjb_Md_signToken_50 ok hi X Y h3 l0 kl0 hf
  · rw [if_neg q14] at hf
    refine v_aload_n (pc := 32) (k := 0) X (by decide +kernel) 0 rfl ?_
    refine v_geti (pc := 33) X fl_12_189 kl0 rfl (by decide +kernel) ?_
    refine v_bipush (pc := 36) (n := 62) X (by decide +kernel) bi_62 ?_
    refine v_icmp_eq (pc := 38) (off := 12) (tgt := 50) X (by decide +kernel) (by decide) (fun q13 => ?_) (fun q13 => ?_)
    · rw [if_pos q13] at hf
      exact vjb_Md_signToken_50 ok hi X Y h3 l0 kl0 hf
    · rw [if_neg q13] at hf
      refine v_aload_n (pc := 41) (k := 0) X (by decide +kernel) 0 rfl ?_
      refine v_geti (pc := 42) X fl_12_189 kl0 rfl (by decide +kernel) ?_
      refine v_bipush (pc := 45) (n := 61) X (by decide +kernel) bi_61 ?_
      refine v_icmp_ne (pc := 47) (off := 151) (tgt := 198) X (by decide +kernel) (by decide) (fun q12 => ?_) (fun q12 => ?_)
      · rw [if_neg q12] at hf
        refine v_aload_n (pc := 198) (k := 0) X (by decide +kernel) 0 rfl ?_
        refine v_geti (pc := 199) X fl_12_189 kl0 rfl (by decide +kernel) ?_
        refine v_bipush (pc := 202) (n := 59) X (by decide +kernel) bi_59 ?_
        refine v_icmp_eq (pc := 204) (off := 66) (tgt := 270) X (by decide +kernel) (by decide) (fun q11 => ?_) (fun q11 => ?_)
        · rw [if_pos q11] at hf
          exact vjb_Md_signToken_270 ok hi X Y h3 l0 kl0 hf
        · rw [if_neg q11] at hf
          refine v_aload_n (pc := 207) (k := 0) X (by decide +kernel) 0 rfl ?_
          refine v_geti (pc := 208) X fl_12_189 kl0 rfl (by decide +kernel) ?_
          refine v_bipush (pc := 211) (n := 40) X (by decide +kernel) bi_40 ?_
          refine v_icmp_eq (pc := 213) (off := 57) (tgt := 270) X (by decide +kernel) (by decide) (fun q10 => ?_) (fun q10 => ?_)
          · rw [if_pos q10] at hf
            exact vjb_Md_signToken_270 ok hi X Y h3 l0 kl0 hf
          · rw [if_neg q10] at hf
            refine v_aload_n (pc := 216) (k := 0) X (by decide +kernel) 0 rfl ?_
            refine v_geti (pc := 217) X fl_12_189 kl0 rfl (by decide +kernel) ?_
            refine v_bipush (pc := 220) (n := 41) X (by decide +kernel) bi_41 ?_
            refine v_icmp_eq (pc := 222) (off := 48) (tgt := 270) X (by decide +kernel) (by decide) (fun q9 => ?_) (fun q9 => ?_)
            · rw [if_pos q9] at hf
              exact vjb_Md_signToken_270 ok hi X Y h3 l0 kl0 hf
            · rw [if_neg q9] at hf
              refine v_aload_n (pc := 225) (k := 0) X (by decide +kernel) 0 rfl ?_
              refine v_geti (pc := 226) X fl_12_189 kl0 rfl (by decide +kernel) ?_
              refine v_bipush (pc := 229) (n := 43) X (by decide +kernel) bi_43 ?_
              refine v_icmp_eq (pc := 231) (off := 39) (tgt := 270) X (by decide +kernel) (by decide) (fun q8 => ?_) (fun q8 => ?_)
              · rw [if_pos q8] at hf
                exact vjb_Md_signToken_270 ok hi X Y h3 l0 kl0 hf
              · rw [if_neg q8] at hf
                refine v_aload_n (pc := 234) (k := 0) X (by decide +kernel) 0 rfl ?_
                refine v_geti (pc := 235) X fl_12_189 kl0 rfl (by decide +kernel) ?_
                refine v_bipush (pc := 238) (n := 45) X (by decide +kernel) bi_45 ?_
                refine v_icmp_eq (pc := 240) (off := 30) (tgt := 270) X (by decide +kernel) (by decide) (fun q7 => ?_) (fun q7 => ?_)
                · rw [if_pos q7] at hf
                  exact vjb_Md_signToken_270 ok hi X Y h3 l0 kl0 hf
                · rw [if_neg q7] at hf
                  refine v_aload_n (pc := 243) (k := 0) X (by decide +kernel) 0 rfl ?_
                  refine v_geti (pc := 244) X fl_12_189 kl0 rfl (by decide +kernel) ?_
                  refine v_bipush (pc := 247) (n := 42) X (by decide +kernel) bi_42 ?_
                  refine v_icmp_eq (pc := 249) (off := 21) (tgt := 270) X (by decide +kernel) (by decide) (fun q6 => ?_) (fun q6 => ?_)
                  · rw [if_pos q6] at hf
                    exact vjb_Md_signToken_270 ok hi X Y h3 l0 kl0 hf
                  · rw [if_neg q6] at hf
                    refine v_aload_n (pc := 252) (k := 0) X (by decide +kernel) 0 rfl ?_
                    refine v_geti (pc := 253) X fl_12_189 kl0 rfl (by decide +kernel) ?_
                    refine v_bipush (pc := 256) (n := 47) X (by decide +kernel) bi_47 ?_
                    refine v_icmp_eq (pc := 258) (off := 12) (tgt := 270) X (by decide +kernel) (by decide) (fun q5 => ?_) (fun q5 => ?_)
                    · rw [if_pos q5] at hf
                      exact vjb_Md_signToken_270 ok hi X Y h3 l0 kl0 hf
                    · rw [if_neg q5] at hf
                      refine v_aload_n (pc := 261) (k := 0) X (by decide +kernel) 0 rfl ?_
                      refine v_geti (pc := 262) X fl_12_189 kl0 rfl (by decide +kernel) ?_
                      refine v_bipush (pc := 265) (n := 37) X (by decide +kernel) bi_37 ?_
                      refine v_icmp_ne (pc := 267) (off := 7) (tgt := 274) X (by decide +kernel) (by decide) (fun q4 => ?_) (fun q4 => ?_)
                      · rw [if_neg q4] at hf
                        refine v_iconst (pc := 274) (n := 0) X (by decide +kernel) ic_0 ?_
                        exact vjb_Md_signToken_275 ok hi X Y h3 l0 (0 : Int32) kl0 hf
                      · rw [if_pos q4] at hf
                        exact vjb_Md_signToken_270 ok hi X Y h3 l0 kl0 hf
      · rw [if_pos q12] at hf
        exact vjb_Md_signToken_50 ok hi X Y h3 l0 kl0 hf
