def jb_Md_go_77 (tb : Tb) (h : Hp) (l0 : Nat) (s0 : Nat) (s1 : Int32) : Option (Int32 × Hp) :=
  nmd (pI h s0 78 s1) fun h1 =>
  (rI tb h1 (lay tb l0 64) (0 : Int32)).bind fun x2 =>
  some (x2, h1)
def lp_Md_go_43 (tb : Tb) : Nat → Hp → Nat → Int32 → Int32 → Option (Int32 × Hp)
  | 0, _, _, _, _ => none
  | n + 1, h, l0, l1, l2 =>
    if l1 ≤ l2 then (
      nmd (pI h l0 69 (0 : Int32)) fun h1 =>
      if l1 ≤ (0 : Int32) then (
        jb_Md_go_77 tb h1 l0 l0 (h1.1 l0 78)
      ) else (
        jb_Md_go_77 tb h1 l0 l0 (0 : Int32)
      )
    ) else (
      (f_Md_hourGoes tb h l0 (0 : Int32)).bind fun r3 =>
      nmd (l2 + (1 : Int32)) fun x4 =>
      lp_Md_go_43 tb n r3 l0 l1 x4
    )
def f_Md_go (tb : Tb) (h : Hp) (l0 : Nat) (l1 : Int32) : Option (Int32 × Hp) :=
  nmd (pI h l0 2 (0 : Int32)) fun h1 =>
  nmd (f_Md_isIn tb h1 l1 (0 : Int32) (200 : Int32)) fun r2 =>
  if r2 = (0 : Int32) then (
    some ((-1 : Int32), h1)
  ) else (
    (rI tb h1 (lay tb l0 64) (0 : Int32)).bind fun x3 =>
    if (x3 + l1) ≤ (9000 : Int32) then (
      nmd (f_Md_plainTried tb h1 l0) fun r4 =>
      nmd (pI r4 l0 69 (1 : Int32)) fun h5 =>
      lp_Md_go_43 tb fu h5 l0 l1 (0 : Int32)
    ) else (
      some ((-1 : Int32), h1)
    )
  )
set_option maxRecDepth 4000 in
set_option maxHeartbeats 1000000 in
theorem vjb_Md_go_77 {E : En} {g : Gl} {tb : Tb} {ρ : Nat → Nat} (ok : TbOK tb) (hi : inj tb ρ) {r : Int32 × Hp} (X : CX E g tb ρ prog_14_method_75_code 3 RC12 6 147) (Y : CQ E g tb ρ (some .int) (some (.int r.1)) r.2) (h : Hp) (l0 : Nat) (s0 : Nat) (s1 : Int32) (kl0 : kd tb l0 = 12) (ks0 : kd tb s0 = 12) (hf : jb_Md_go_77 tb h l0 s0 s1 = some r) : V E g tb ρ 3 77 [(0, .ref (ρ l0))] [.int s1, .ref (ρ s0)] h := by
  unfold jb_Md_go_77 at hf
  obtain ⟨h1, eh1, hf⟩ := nmd_e hf
  refine v_puti (pc := 77) X fp_12_380 ks0 rfl (by decide +kernel) eh1 ?_
  refine v_aload_n (pc := 80) (k := 0) X (by decide +kernel) 0 rfl ?_
  refine v_geta (pc := 81) X fl_12_124 kl0 fk_12_64 (by decide +kernel) ?_
  refine v_iconst (pc := 84) (n := 0) X (by decide +kernel) ic_0 ?_
  obtain ⟨x2, ex2, hf⟩ := bnd_e hf
  refine v_iald (pc := 85) X (ly_12_64 ok kl0) ex2 (by decide +kernel) ?_
  cases hf
  exact v_iret X Y (by decide +kernel) rfl rfl
set_option maxRecDepth 4000 in
set_option maxHeartbeats 1000000 in
theorem vlp_Md_go_43 {E : En} {g : Gl} {tb : Tb} {ρ : Nat → Nat} (ok : TbOK tb) (hi : inj tb ρ) {r : Int32 × Hp} (X : CX E g tb ρ prog_14_method_75_code 3 RC12 6 147) (Y : CQ E g tb ρ (some .int) (some (.int r.1)) r.2) : ∀ (n : Nat) (h : Hp) (l0 : Nat) (l1 : Int32) (l2 : Int32) (kl0 : kd tb l0 = 12), lp_Md_go_43 tb n h l0 l1 l2 = some r → V E g tb ρ 3 43 [(0, .ref (ρ l0)), (1, .int l1), (2, .int l2)] [] h := by
  intro n
  induction n with
  | zero =>
    intro h l0 l1 l2 kl0 hf
    rw [lp_Md_go_43] at hf
    cases hf
  | succ n ih =>
    intro h l0 l1 l2 kl0 hf
    rw [lp_Md_go_43] at hf
    refine v_iload_n (pc := 43) (k := 2) X (by decide +kernel) 2 rfl ?_
    refine v_iload_n (pc := 44) (k := 1) X (by decide +kernel) 1 rfl ?_
    refine v_icmp_ge (pc := 45) (off := 14) (tgt := 59) X (by decide +kernel) (by decide) (fun q5 => ?_) (fun q5 => ?_)
    · rw [if_pos q5] at hf
      refine v_aload_n (pc := 59) (k := 0) X (by decide +kernel) 0 rfl ?_
      refine v_iconst (pc := 60) (n := 0) X (by decide +kernel) ic_0 ?_
      obtain ⟨h1, eh1, hf⟩ := nmd_e hf
      refine v_putz (pc := 61) X fp_12_386 kl0 rfl rfl (by decide +kernel) eh1 ?_
      refine v_aload_n (pc := 64) (k := 0) X (by decide +kernel) 0 rfl ?_
      refine v_iload_n (pc := 65) (k := 1) X (by decide +kernel) 1 rfl ?_
      refine v_if_le (pc := 66) (off := 7) (tgt := 73) X (by decide +kernel) (by decide) (fun q2 => ?_) (fun q2 => ?_)
      · rw [if_pos q2] at hf
        refine v_aload_n (pc := 73) (k := 0) X (by decide +kernel) 0 rfl ?_
        refine v_geti (pc := 74) X fl_12_380 kl0 rfl (by decide +kernel) ?_
        refine v_sub [0] rfl ?_
        exact vjb_Md_go_77 ok hi X Y h1 l0 l0 (h1.1 l0 78) kl0 kl0 hf
      · rw [if_neg q2] at hf
        refine v_iconst (pc := 69) (n := 0) X (by decide +kernel) ic_0 ?_
        refine v_goto (pc := 70) (off := 7) (tgt := 77) X (by decide +kernel) (by decide) ?_
        refine v_sub [0] rfl ?_
        exact vjb_Md_go_77 ok hi X Y h1 l0 l0 (0 : Int32) kl0 kl0 hf
    · rw [if_neg q5] at hf
      refine v_aload_n (pc := 48) (k := 0) X (by decide +kernel) 0 rfl ?_
      refine v_iconst (pc := 49) (n := 0) X (by decide +kernel) ic_0 ?_
      obtain ⟨r3, er3, hf⟩ := bnd_e hf
      refine v_callV (pc := 50) (As := [.int (0 : Int32)]) (rest := []) X (mt_Md_hourGoes ok hi kl0 er3) ml_12_456 mv_Md_hourGoes kl0 cls_12 rfl ⟨Nat.le_of_ble_eq_true rfl, Nat.le_of_ble_eq_true rfl⟩ rfl rfl (Nat.le_of_ble_eq_true rfl) (by decide +kernel) ?_
      change V E g tb ρ 3 53 [(0, .ref (ρ l0)), (1, .int l1), (2, .int l2)] [] r3
      obtain ⟨x4, ex4, hf⟩ := nmd_e hf
      refine v_iinc (pc := 53) (k := 2) (n := 1) (v := x4) (lv' := [(2, .int x4), (0, .ref (ρ l0)), (1, .int l1)]) X (by decide +kernel) 2 rfl (by rw [ic_1, ex4]) (Nat.le_of_ble_eq_true rfl) rfl ?_
      refine v_goto (pc := 56) (off := -13) (tgt := 43) X (by decide +kernel) (by decide) ?_
      refine v_sub [1, 2, 0] rfl ?_
      exact ih r3 l0 l1 x4 kl0 hf
set_option maxRecDepth 4000 in
set_option maxHeartbeats 1000000 in
theorem mt_Md_go {g : Gl} {tb : Tb} {ρ : Nat → Nat} (ok : TbOK tb) (hi : inj tb ρ) {h : Hp} {l0 : Nat} {l1 : Int32} (kl0 : kd tb l0 = 12) {r : Int32 × Hp} (hf : f_Md_go tb h l0 l1 = some r) : MT g y_Md_go prog_14_method_75_code 3 (some .int) 6 147 tb ρ [.ref (ρ l0), .int l1] h (some (.int r.1)) r.2 := by
  refine mt_intro (by decide +kernel) ok hi (Nat.le_of_ble_eq_true rfl) (fun E X Y => ?_)
  change V E g tb ρ 3 0 [(0, .ref (ρ l0)), (1, .int l1)] [] h
  unfold f_Md_go at hf
  refine v_aload_n (pc := 0) (k := 0) X (by decide +kernel) 0 rfl ?_
  refine v_iconst (pc := 1) (n := 0) X (by decide +kernel) ic_0 ?_
  obtain ⟨h1, eh1, hf⟩ := nmd_e hf
  refine v_puti (pc := 2) X fp_12_160 kl0 rfl (by decide +kernel) eh1 ?_
  refine v_iload_n (pc := 5) (k := 1) X (by decide +kernel) 1 rfl ?_
  refine v_iconst (pc := 6) (n := 0) X (by decide +kernel) ic_0 ?_
  refine v_sipush (pc := 7) (n := 200) X (by decide +kernel) si_200 ?_
  obtain ⟨r2, er2, hf⟩ := nmd_e hf
  refine v_callS (pc := 10) (As := [.int l1, .int (0 : Int32), .int (200 : Int32)]) (rest := []) X (mt_Md_isIn ok hi er2.symm) ml_12_205 ms_Md_isIn ⟨Nat.le_of_ble_eq_true rfl, Nat.le_of_ble_eq_true rfl⟩ rfl rfl (Nat.le_of_ble_eq_true rfl) (by decide +kernel) ?_
  change V E g tb ρ 3 13 [(0, .ref (ρ l0)), (1, .int l1)] [.int r2] h1
  refine v_if_eq (pc := 13) (off := 17) (tgt := 30) X (by decide +kernel) (by decide) (fun q7 => ?_) (fun q7 => ?_)
  · rw [if_pos q7] at hf
    refine v_iconst (pc := 30) (n := -1) X (by decide +kernel) ic_m1 ?_
    cases hf
    exact v_iret X Y (by decide +kernel) rfl rfl
  · rw [if_neg q7] at hf
    refine v_aload_n (pc := 16) (k := 0) X (by decide +kernel) 0 rfl ?_
    refine v_geta (pc := 17) X fl_12_124 kl0 fk_12_64 (by decide +kernel) ?_
    refine v_iconst (pc := 20) (n := 0) X (by decide +kernel) ic_0 ?_
    obtain ⟨x3, ex3, hf⟩ := bnd_e hf
    refine v_iald (pc := 21) X (ly_12_64 ok kl0) ex3 (by decide +kernel) ?_
    refine v_iload_n (pc := 22) (k := 1) X (by decide +kernel) 1 rfl ?_
    refine v_iadd (pc := 23) X (by decide +kernel) ?_
    refine v_sipush (pc := 24) (n := 9000) X (by decide +kernel) si_9000 ?_
    refine v_icmp_le (pc := 27) (off := 5) (tgt := 32) X (by decide +kernel) (by decide) (fun q6 => ?_) (fun q6 => ?_)
    · rw [if_pos q6] at hf
      refine v_aload_n (pc := 32) (k := 0) X (by decide +kernel) 0 rfl ?_
      obtain ⟨r4, er4, hf⟩ := nmd_e hf
      refine v_callV (pc := 33) (As := []) (rest := []) X (mt_Md_plainTried ok hi kl0 er4.symm) ml_12_374 mv_Md_plainTried kl0 cls_12 rfl ⟨Nat.le_of_ble_eq_true rfl, Nat.le_of_ble_eq_true rfl⟩ rfl rfl (Nat.le_of_ble_eq_true rfl) (by decide +kernel) ?_
      change V E g tb ρ 3 36 [(0, .ref (ρ l0)), (1, .int l1)] [] r4
      refine v_aload_n (pc := 36) (k := 0) X (by decide +kernel) 0 rfl ?_
      refine v_iconst (pc := 37) (n := 1) X (by decide +kernel) ic_1 ?_
      obtain ⟨h5, eh5, hf⟩ := nmd_e hf
      refine v_putz (pc := 38) X fp_12_386 kl0 rfl rfl (by decide +kernel) eh5 ?_
      refine v_iconst (pc := 41) (n := 0) X (by decide +kernel) ic_0 ?_
      refine v_istore_n (pc := 42) (k := 2) (lv' := [(2, .int (0 : Int32)), (0, .ref (ρ l0)), (1, .int l1)]) X (by decide +kernel) (Nat.le_of_ble_eq_true rfl) rfl ?_
      refine v_sub [1, 2, 0] rfl ?_
      exact vlp_Md_go_43 ok hi X Y fu h5 l0 l1 (0 : Int32) kl0 hf
    · rw [if_neg q6] at hf
      refine v_iconst (pc := 30) (n := -1) X (by decide +kernel) ic_m1 ?_
      cases hf
      exact v_iret X Y (by decide +kernel) rfl rfl
def jb_Md_ahead_53 (tb : Tb) (h : Hp) (l0 : Nat) (l1 : Int32) (l2 : Int32) (l3 : Int32) : Option (Int32 × Hp) :=
  (f_Md_layTried tb h l0).bind fun r1 =>
  (f_Md_goMany tb r1 l0 l1).bind fun r2 =>
  if l2 = (0 : Int32) then (
    (rI tb r2 (lay tb l0 61) (1 : Int32)).bind fun x4 =>
    (rI tb r2 (lay tb l0 61) (0 : Int32)).bind fun x5 =>
    some (x4 - x5, r2)
  ) else (
    if l2 = (1 : Int32) then (
      (rI tb r2 (lay tb l0 62) (1 : Int32)).bind fun x7 =>
      (rI tb r2 (lay tb l0 62) (0 : Int32)).bind fun x8 =>
      some (x7 - x8, r2)
    ) else (
      if l2 = (2 : Int32) then (
        (rI tb r2 (lay tb l0 55) ((6 : Int32) + l3)).bind fun x10 =>
        some (x10, r2)
      ) else (
        if l2 = (3 : Int32) then (
          (rI tb r2 (lay tb l0 60) ((6 : Int32) + l3)).bind fun x12 =>
          some (x12, r2)
        ) else (
          (f_Md_onMany tb r2 l0 (1 : Int32)).bind fun r13 =>
          some (r13, r2)
        )
      )
    )
  )
def jb_Md_ahead_38 (tb : Tb) (h : Hp) (l0 : Nat) (l1 : Int32) (l2 : Int32) (l3 : Int32) : Option (Int32 × Hp) :=
  if l2 = (3 : Int32) then (
    nmd (f_Md_isTrough tb h l0 l3) fun r1 =>
    if r1 = (0 : Int32) then (
      some ((-1 : Int32), h)
    ) else (
      jb_Md_ahead_53 tb h l0 l1 l2 l3
    )
  ) else (
    jb_Md_ahead_53 tb h l0 l1 l2 l3
  )
def f_Md_ahead (tb : Tb) (h : Hp) (l0 : Nat) (l1 : Int32) (l2 : Int32) (l3 : Int32) : Option (Int32 × Hp) :=
  nmd (pI h l0 2 (0 : Int32)) fun h1 =>
  nmd (f_Md_isIn tb h1 l1 (0 : Int32) (200 : Int32)) fun r2 =>
  if r2 = (0 : Int32) then (
    some ((-1 : Int32), h1)
  ) else (
    nmd (f_Md_isIn tb h1 l2 (0 : Int32) (4 : Int32)) fun r3 =>
    if r3 = (0 : Int32) then (
      some ((-1 : Int32), h1)
    ) else (
      if l2 = (2 : Int32) then (
        nmd (f_Md_isHorse tb h1 l0 l3) fun r4 =>
        if r4 = (0 : Int32) then (
          some ((-1 : Int32), h1)
        ) else (
          jb_Md_ahead_38 tb h1 l0 l1 l2 l3
        )
      ) else (
        jb_Md_ahead_38 tb h1 l0 l1 l2 l3
      )
    )
  )
set_option maxRecDepth 4000 in
set_option maxHeartbeats 1000000 in
theorem vjb_Md_ahead_53 {E : En} {g : Gl} {tb : Tb} {ρ : Nat → Nat} (ok : TbOK tb) (hi : inj tb ρ) {r : Int32 × Hp} (X : CX E g tb ρ prog_14_method_76_code 4 RC12 7 169) (Y : CQ E g tb ρ (some .int) (some (.int r.1)) r.2) (h : Hp) (l0 : Nat) (l1 : Int32) (l2 : Int32) (l3 : Int32) (kl0 : kd tb l0 = 12) (hf : jb_Md_ahead_53 tb h l0 l1 l2 l3 = some r) : V E g tb ρ 4 53 [(0, .ref (ρ l0)), (1, .int l1), (2, .int l2), (3, .int l3)] [] h := by
  unfold jb_Md_ahead_53 at hf
  refine v_aload_n (pc := 53) (k := 0) X (by decide +kernel) 0 rfl ?_
  obtain ⟨r1, er1, hf⟩ := bnd_e hf
  refine v_callV (pc := 54) (As := []) (rest := []) X (mt_Md_layTried ok hi kl0 er1) ml_12_473 mv_Md_layTried kl0 cls_12 rfl ⟨Nat.le_of_ble_eq_true rfl, Nat.le_of_ble_eq_true rfl⟩ rfl rfl (Nat.le_of_ble_eq_true rfl) (by decide +kernel) ?_
  change V E g tb ρ 4 57 [(0, .ref (ρ l0)), (1, .int l1), (2, .int l2), (3, .int l3)] [] r1
  refine v_aload_n (pc := 57) (k := 0) X (by decide +kernel) 0 rfl ?_
  refine v_iload_n (pc := 58) (k := 1) X (by decide +kernel) 1 rfl ?_
  obtain ⟨r2, er2, hf⟩ := bnd_e hf
  refine v_callV (pc := 59) (As := [.int l1]) (rest := []) X (mt_Md_goMany ok hi kl0 er2) ml_12_476 mv_Md_goMany kl0 cls_12 rfl ⟨Nat.le_of_ble_eq_true rfl, Nat.le_of_ble_eq_true rfl⟩ rfl rfl (Nat.le_of_ble_eq_true rfl) (by decide +kernel) ?_
  change V E g tb ρ 4 62 [(0, .ref (ρ l0)), (1, .int l1), (2, .int l2), (3, .int l3)] [] r2
  refine v_iload_n (pc := 62) (k := 2) X (by decide +kernel) 2 rfl ?_
  by_cases q3 : l2 = (0 : Int32)
  · rw [if_pos q3] at hf
    refine v_tin (pc := 63) (off := 29) (tgt := 92) X (show decode prog_14_method_76_code 63 = .ok (.tableswitch 77 0 3 #[29, 43, 57, 67], 29) from by decide +kernel) q3 (by decide) (by decide) (by decide) (by decide) ?_
    refine v_aload_n (pc := 92) (k := 0) X (by decide +kernel) 0 rfl ?_
    refine v_geta (pc := 93) X fl_12_115 kl0 fk_12_61 (by decide +kernel) ?_
    refine v_iconst (pc := 96) (n := 1) X (by decide +kernel) ic_1 ?_
    obtain ⟨x4, ex4, hf⟩ := bnd_e hf
    refine v_iald (pc := 97) X (ly_12_61 ok kl0) ex4 (by decide +kernel) ?_
    refine v_aload_n (pc := 98) (k := 0) X (by decide +kernel) 0 rfl ?_
    refine v_geta (pc := 99) X fl_12_115 kl0 fk_12_61 (by decide +kernel) ?_
    refine v_iconst (pc := 102) (n := 0) X (by decide +kernel) ic_0 ?_
    obtain ⟨x5, ex5, hf⟩ := bnd_e hf
    refine v_iald (pc := 103) X (ly_12_61 ok kl0) ex5 (by decide +kernel) ?_
    refine v_isub (pc := 104) X (by decide +kernel) ?_
    cases hf
    exact v_iret X Y (by decide +kernel) rfl rfl
  · rw [if_neg q3] at hf
    by_cases q6 : l2 = (1 : Int32)
    · rw [if_pos q6] at hf
      refine v_tin (pc := 63) (off := 43) (tgt := 106) X (show decode prog_14_method_76_code 63 = .ok (.tableswitch 77 0 3 #[29, 43, 57, 67], 29) from by decide +kernel) q6 (by decide) (by decide) (by decide) (by decide) ?_
      refine v_aload_n (pc := 106) (k := 0) X (by decide +kernel) 0 rfl ?_
      refine v_geta (pc := 107) X fl_12_118 kl0 fk_12_62 (by decide +kernel) ?_
      refine v_iconst (pc := 110) (n := 1) X (by decide +kernel) ic_1 ?_
      obtain ⟨x7, ex7, hf⟩ := bnd_e hf
      refine v_iald (pc := 111) X (ly_12_62 ok kl0) ex7 (by decide +kernel) ?_
      refine v_aload_n (pc := 112) (k := 0) X (by decide +kernel) 0 rfl ?_
      refine v_geta (pc := 113) X fl_12_118 kl0 fk_12_62 (by decide +kernel) ?_
      refine v_iconst (pc := 116) (n := 0) X (by decide +kernel) ic_0 ?_
      obtain ⟨x8, ex8, hf⟩ := bnd_e hf
      refine v_iald (pc := 117) X (ly_12_62 ok kl0) ex8 (by decide +kernel) ?_
      refine v_isub (pc := 118) X (by decide +kernel) ?_
      cases hf
      exact v_iret X Y (by decide +kernel) rfl rfl
    · rw [if_neg q6] at hf
      by_cases q9 : l2 = (2 : Int32)
      · rw [if_pos q9] at hf
        refine v_tin (pc := 63) (off := 57) (tgt := 120) X (show decode prog_14_method_76_code 63 = .ok (.tableswitch 77 0 3 #[29, 43, 57, 67], 29) from by decide +kernel) q9 (by decide) (by decide) (by decide) (by decide) ?_
        refine v_aload_n (pc := 120) (k := 0) X (by decide +kernel) 0 rfl ?_
        refine v_geta (pc := 121) X fl_12_97 kl0 fk_12_55 (by decide +kernel) ?_
        refine v_bipush (pc := 124) (n := 6) X (by decide +kernel) bi_6 ?_
        refine v_iload_n (pc := 126) (k := 3) X (by decide +kernel) 3 rfl ?_
        refine v_iadd (pc := 127) X (by decide +kernel) ?_
        obtain ⟨x10, ex10, hf⟩ := bnd_e hf
        refine v_iald (pc := 128) X (ly_12_55 ok kl0) ex10 (by decide +kernel) ?_
        cases hf
        exact v_iret X Y (by decide +kernel) rfl rfl
      · rw [if_neg q9] at hf
        by_cases q11 : l2 = (3 : Int32)
        · rw [if_pos q11] at hf
          refine v_tin (pc := 63) (off := 67) (tgt := 130) X (show decode prog_14_method_76_code 63 = .ok (.tableswitch 77 0 3 #[29, 43, 57, 67], 29) from by decide +kernel) q11 (by decide) (by decide) (by decide) (by decide) ?_
          refine v_aload_n (pc := 130) (k := 0) X (by decide +kernel) 0 rfl ?_
          refine v_geta (pc := 131) X fl_12_112 kl0 fk_12_60 (by decide +kernel) ?_
          refine v_bipush (pc := 134) (n := 6) X (by decide +kernel) bi_6 ?_
          refine v_iload_n (pc := 136) (k := 3) X (by decide +kernel) 3 rfl ?_
          refine v_iadd (pc := 137) X (by decide +kernel) ?_
          obtain ⟨x12, ex12, hf⟩ := bnd_e hf
          refine v_iald (pc := 138) X (ly_12_60 ok kl0) ex12 (by decide +kernel) ?_
          cases hf
          exact v_iret X Y (by decide +kernel) rfl rfl
        · rw [if_neg q11] at hf
          refine v_tout (pc := 63) (tgt := 140) X (show decode prog_14_method_76_code 63 = .ok (.tableswitch 77 0 3 #[29, 43, 57, 67], 29) from by decide +kernel) (t_out (lo := 0) (hi := 3) [(0 : Int32), (1 : Int32), (2 : Int32), (3 : Int32)] (by decide) (List.forall_mem_cons.mpr ⟨q3, List.forall_mem_cons.mpr ⟨q6, List.forall_mem_cons.mpr ⟨q9, List.forall_mem_cons.mpr ⟨q11, fun _ h => absurd h List.not_mem_nil⟩⟩⟩⟩)) (by decide) ?_
          refine v_aload_n (pc := 140) (k := 0) X (by decide +kernel) 0 rfl ?_
          refine v_iconst (pc := 141) (n := 1) X (by decide +kernel) ic_1 ?_
          obtain ⟨r13, er13, hf⟩ := bnd_e hf
          refine v_callV (pc := 142) (As := [.int (1 : Int32)]) (rest := []) X (mt_Md_onMany ok hi kl0 er13) ml_12_479 mv_Md_onMany kl0 cls_12 rfl ⟨Nat.le_of_ble_eq_true rfl, Nat.le_of_ble_eq_true rfl⟩ rfl rfl (Nat.le_of_ble_eq_true rfl) (by decide +kernel) ?_
          change V E g tb ρ 4 145 [(0, .ref (ρ l0)), (1, .int l1), (2, .int l2), (3, .int l3)] [.int r13] r2
          cases hf
          exact v_iret X Y (by decide +kernel) rfl rfl
set_option maxRecDepth 4000 in
set_option maxHeartbeats 1000000 in
theorem vjb_Md_ahead_38 {E : En} {g : Gl} {tb : Tb} {ρ : Nat → Nat} (ok : TbOK tb) (hi : inj tb ρ) {r : Int32 × Hp} (X : CX E g tb ρ prog_14_method_76_code 4 RC12 7 169) (Y : CQ E g tb ρ (some .int) (some (.int r.1)) r.2) (h : Hp) (l0 : Nat) (l1 : Int32) (l2 : Int32) (l3 : Int32) (kl0 : kd tb l0 = 12) (hf : jb_Md_ahead_38 tb h l0 l1 l2 l3 = some r) : V E g tb ρ 4 38 [(0, .ref (ρ l0)), (1, .int l1), (2, .int l2), (3, .int l3)] [] h := by
  unfold jb_Md_ahead_38 at hf
  refine v_iload_n (pc := 38) (k := 2) X (by decide +kernel) 2 rfl ?_
  refine v_iconst (pc := 39) (n := 3) X (by decide +kernel) ic_3 ?_
  refine v_icmp_ne (pc := 40) (off := 13) (tgt := 53) X (by decide +kernel) (by decide) (fun q3 => ?_) (fun q3 => ?_)
  · rw [if_neg q3] at hf
    exact vjb_Md_ahead_53 ok hi X Y h l0 l1 l2 l3 kl0 hf
  · rw [if_pos q3] at hf
    refine v_aload_n (pc := 43) (k := 0) X (by decide +kernel) 0 rfl ?_
    refine v_iload_n (pc := 44) (k := 3) X (by decide +kernel) 3 rfl ?_
    obtain ⟨r1, er1, hf⟩ := nmd_e hf
    refine v_callV (pc := 45) (As := [.int l3]) (rest := []) X (mt_Md_isTrough ok hi kl0 er1.symm) ml_12_465 mv_Md_isTrough kl0 cls_12 rfl ⟨Nat.le_of_ble_eq_true rfl, Nat.le_of_ble_eq_true rfl⟩ rfl rfl (Nat.le_of_ble_eq_true rfl) (by decide +kernel) ?_
    change V E g tb ρ 4 48 [(0, .ref (ρ l0)), (1, .int l1), (2, .int l2), (3, .int l3)] [.int r1] h
    refine v_if_ne (pc := 48) (off := 5) (tgt := 53) X (by decide +kernel) (by decide) (fun q2 => ?_) (fun q2 => ?_)
    · rw [if_neg q2] at hf
      exact vjb_Md_ahead_53 ok hi X Y h l0 l1 l2 l3 kl0 hf
    · rw [if_pos q2] at hf
      refine v_iconst (pc := 51) (n := -1) X (by decide +kernel) ic_m1 ?_
      cases hf
      exact v_iret X Y (by decide +kernel) rfl rfl
set_option maxRecDepth 4000 in
set_option maxHeartbeats 1000000 in
theorem mt_Md_ahead {g : Gl} {tb : Tb} {ρ : Nat → Nat} (ok : TbOK tb) (hi : inj tb ρ) {h : Hp} {l0 : Nat} {l1 : Int32} {l2 : Int32} {l3 : Int32} (kl0 : kd tb l0 = 12) {r : Int32 × Hp} (hf : f_Md_ahead tb h l0 l1 l2 l3 = some r) : MT g y_Md_ahead prog_14_method_76_code 4 (some .int) 7 169 tb ρ [.ref (ρ l0), .int l1, .int l2, .int l3] h (some (.int r.1)) r.2 := by
  refine mt_intro (by decide +kernel) ok hi (Nat.le_of_ble_eq_true rfl) (fun E X Y => ?_)
  change V E g tb ρ 4 0 [(0, .ref (ρ l0)), (1, .int l1), (2, .int l2), (3, .int l3)] [] h
  unfold f_Md_ahead at hf
  refine v_aload_n (pc := 0) (k := 0) X (by decide +kernel) 0 rfl ?_
  refine v_iconst (pc := 1) (n := 0) X (by decide +kernel) ic_0 ?_
  obtain ⟨h1, eh1, hf⟩ := nmd_e hf
  refine v_puti (pc := 2) X fp_12_160 kl0 rfl (by decide +kernel) eh1 ?_
  refine v_iload_n (pc := 5) (k := 1) X (by decide +kernel) 1 rfl ?_
  refine v_iconst (pc := 6) (n := 0) X (by decide +kernel) ic_0 ?_
  refine v_sipush (pc := 7) (n := 200) X (by decide +kernel) si_200 ?_
  obtain ⟨r2, er2, hf⟩ := nmd_e hf
  refine v_callS (pc := 10) (As := [.int l1, .int (0 : Int32), .int (200 : Int32)]) (rest := []) X (mt_Md_isIn ok hi er2.symm) ml_12_205 ms_Md_isIn ⟨Nat.le_of_ble_eq_true rfl, Nat.le_of_ble_eq_true rfl⟩ rfl rfl (Nat.le_of_ble_eq_true rfl) (by decide +kernel) ?_
  change V E g tb ρ 4 13 [(0, .ref (ρ l0)), (1, .int l1), (2, .int l2), (3, .int l3)] [.int r2] h1
  refine v_if_eq (pc := 13) (off := 38) (tgt := 51) X (by decide +kernel) (by decide) (fun q8 => ?_) (fun q8 => ?_)
  · rw [if_pos q8] at hf
    refine v_iconst (pc := 51) (n := -1) X (by decide +kernel) ic_m1 ?_
    cases hf
    exact v_iret X Y (by decide +kernel) rfl rfl
  · rw [if_neg q8] at hf
    refine v_iload_n (pc := 16) (k := 2) X (by decide +kernel) 2 rfl ?_
    refine v_iconst (pc := 17) (n := 0) X (by decide +kernel) ic_0 ?_
    refine v_iconst (pc := 18) (n := 4) X (by decide +kernel) ic_4 ?_
    obtain ⟨r3, er3, hf⟩ := nmd_e hf
    refine v_callS (pc := 19) (As := [.int l2, .int (0 : Int32), .int (4 : Int32)]) (rest := []) X (mt_Md_isIn ok hi er3.symm) ml_12_205 ms_Md_isIn ⟨Nat.le_of_ble_eq_true rfl, Nat.le_of_ble_eq_true rfl⟩ rfl rfl (Nat.le_of_ble_eq_true rfl) (by decide +kernel) ?_
    change V E g tb ρ 4 22 [(0, .ref (ρ l0)), (1, .int l1), (2, .int l2), (3, .int l3)] [.int r3] h1
    refine v_if_eq (pc := 22) (off := 29) (tgt := 51) X (by decide +kernel) (by decide) (fun q7 => ?_) (fun q7 => ?_)
    · rw [if_pos q7] at hf
      refine v_iconst (pc := 51) (n := -1) X (by decide +kernel) ic_m1 ?_
      cases hf
      exact v_iret X Y (by decide +kernel) rfl rfl
    · rw [if_neg q7] at hf
      refine v_iload_n (pc := 25) (k := 2) X (by decide +kernel) 2 rfl ?_
      refine v_iconst (pc := 26) (n := 2) X (by decide +kernel) ic_2 ?_
      refine v_icmp_ne (pc := 27) (off := 11) (tgt := 38) X (by decide +kernel) (by decide) (fun q6 => ?_) (fun q6 => ?_)
      · rw [if_neg q6] at hf
        exact vjb_Md_ahead_38 ok hi X Y h1 l0 l1 l2 l3 kl0 hf
      · rw [if_pos q6] at hf
        refine v_aload_n (pc := 30) (k := 0) X (by decide +kernel) 0 rfl ?_
        refine v_iload_n (pc := 31) (k := 3) X (by decide +kernel) 3 rfl ?_
        obtain ⟨r4, er4, hf⟩ := nmd_e hf
        refine v_callV (pc := 32) (As := [.int l3]) (rest := []) X (mt_Md_isHorse ok hi kl0 er4.symm) ml_12_459 mv_Md_isHorse kl0 cls_12 rfl ⟨Nat.le_of_ble_eq_true rfl, Nat.le_of_ble_eq_true rfl⟩ rfl rfl (Nat.le_of_ble_eq_true rfl) (by decide +kernel) ?_
        change V E g tb ρ 4 35 [(0, .ref (ρ l0)), (1, .int l1), (2, .int l2), (3, .int l3)] [.int r4] h1
        refine v_if_eq (pc := 35) (off := 16) (tgt := 51) X (by decide +kernel) (by decide) (fun q5 => ?_) (fun q5 => ?_)
        · rw [if_pos q5] at hf
          refine v_iconst (pc := 51) (n := -1) X (by decide +kernel) ic_m1 ?_
          cases hf
          exact v_iret X Y (by decide +kernel) rfl rfl
        · rw [if_neg q5] at hf
          exact vjb_Md_ahead_38 ok hi X Y h1 l0 l1 l2 l3 kl0 hf
def lp_Md_falls_21 (tb : Tb) : Nat → Hp → Nat → Int32 → Int32 → Option (Int32 × Hp)
  | 0, _, _, _, _ => none
  | n + 1, h, l0, l1, l2 =>
    if (200 : Int32) ≤ l2 then (
      some ((-2 : Int32), h)
    ) else (
      (rI tb h (lay tb l0 58) ((6 : Int32) + l1)).bind fun x1 =>
      if x1 = (0 : Int32) then (
        some (l2, h)
      ) else (
        (f_Md_hourGoes tb h l0 (1 : Int32)).bind fun r2 =>
        nmd (l2 + (1 : Int32)) fun x3 =>
        lp_Md_falls_21 tb n r2 l0 l1 x3
      )
    )
def f_Md_falls (tb : Tb) (h : Hp) (l0 : Nat) (l1 : Int32) : Option (Int32 × Hp) :=
  nmd (pI h l0 2 (0 : Int32)) fun h1 =>
  nmd (f_Md_isHorse tb h1 l0 l1) fun r2 =>
  if r2 = (0 : Int32) then (
    some ((-1 : Int32), h1)
  ) else (
    (f_Md_layTried tb h1 l0).bind fun r3 =>
    lp_Md_falls_21 tb fu r3 l0 l1 (0 : Int32)
  )
set_option maxRecDepth 4000 in
set_option maxHeartbeats 1000000 in
theorem vlp_Md_falls_21 {E : En} {g : Gl} {tb : Tb} {ρ : Nat → Nat} (ok : TbOK tb) (hi : inj tb ρ) {r : Int32 × Hp} (X : CX E g tb ρ prog_14_method_77_code 3 RC12 6 147) (Y : CQ E g tb ρ (some .int) (some (.int r.1)) r.2) : ∀ (n : Nat) (h : Hp) (l0 : Nat) (l1 : Int32) (l2 : Int32) (kl0 : kd tb l0 = 12), lp_Md_falls_21 tb n h l0 l1 l2 = some r → V E g tb ρ 3 21 [(0, .ref (ρ l0)), (1, .int l1), (2, .int l2)] [] h := by
  intro n
  induction n with
  | zero =>
    intro h l0 l1 l2 kl0 hf
    rw [lp_Md_falls_21] at hf
    cases hf
  | succ n ih =>
    intro h l0 l1 l2 kl0 hf
    rw [lp_Md_falls_21] at hf
    refine v_iload_n (pc := 21) (k := 2) X (by decide +kernel) 2 rfl ?_
    refine v_sipush (pc := 22) (n := 200) X (by decide +kernel) si_200 ?_
    refine v_icmp_ge (pc := 25) (off := 28) (tgt := 53) X (by decide +kernel) (by decide) (fun q5 => ?_) (fun q5 => ?_)
    · rw [if_pos q5] at hf
      refine v_bipush (pc := 53) (n := -2) X (by decide +kernel) bi_m2 ?_
      cases hf
      exact v_iret X Y (by decide +kernel) rfl rfl
    · rw [if_neg q5] at hf
      refine v_aload_n (pc := 28) (k := 0) X (by decide +kernel) 0 rfl ?_
      refine v_geta (pc := 29) X fl_12_106 kl0 fk_12_58 (by decide +kernel) ?_
      refine v_bipush (pc := 32) (n := 6) X (by decide +kernel) bi_6 ?_
      refine v_iload_n (pc := 34) (k := 1) X (by decide +kernel) 1 rfl ?_
      refine v_iadd (pc := 35) X (by decide +kernel) ?_
      obtain ⟨x1, ex1, hf⟩ := bnd_e hf
      refine v_zald (pc := 36) X (ly_12_58 ok kl0) ex1 (by decide +kernel) ?_
      refine v_if_ne (pc := 37) (off := 5) (tgt := 42) X (by decide +kernel) (by decide) (fun q4 => ?_) (fun q4 => ?_)
      · rw [if_neg q4] at hf
        refine v_aload_n (pc := 42) (k := 0) X (by decide +kernel) 0 rfl ?_
        refine v_iconst (pc := 43) (n := 1) X (by decide +kernel) ic_1 ?_
        obtain ⟨r2, er2, hf⟩ := bnd_e hf
        refine v_callV (pc := 44) (As := [.int (1 : Int32)]) (rest := []) X (mt_Md_hourGoes ok hi kl0 er2) ml_12_456 mv_Md_hourGoes kl0 cls_12 rfl ⟨Nat.le_of_ble_eq_true rfl, Nat.le_of_ble_eq_true rfl⟩ rfl rfl (Nat.le_of_ble_eq_true rfl) (by decide +kernel) ?_
        change V E g tb ρ 3 47 [(0, .ref (ρ l0)), (1, .int l1), (2, .int l2)] [] r2
        obtain ⟨x3, ex3, hf⟩ := nmd_e hf
        refine v_iinc (pc := 47) (k := 2) (n := 1) (v := x3) (lv' := [(2, .int x3), (0, .ref (ρ l0)), (1, .int l1)]) X (by decide +kernel) 2 rfl (by rw [ic_1, ex3]) (Nat.le_of_ble_eq_true rfl) rfl ?_
        refine v_goto (pc := 50) (off := -29) (tgt := 21) X (by decide +kernel) (by decide) ?_
        refine v_sub [1, 2, 0] rfl ?_
        exact ih r2 l0 l1 x3 kl0 hf
      · rw [if_pos q4] at hf
        refine v_iload_n (pc := 40) (k := 2) X (by decide +kernel) 2 rfl ?_
        cases hf
        exact v_iret X Y (by decide +kernel) rfl rfl
set_option maxRecDepth 4000 in
set_option maxHeartbeats 1000000 in
theorem mt_Md_falls {g : Gl} {tb : Tb} {ρ : Nat → Nat} (ok : TbOK tb) (hi : inj tb ρ) {h : Hp} {l0 : Nat} {l1 : Int32} (kl0 : kd tb l0 = 12) {r : Int32 × Hp} (hf : f_Md_falls tb h l0 l1 = some r) : MT g y_Md_falls prog_14_method_77_code 3 (some .int) 6 147 tb ρ [.ref (ρ l0), .int l1] h (some (.int r.1)) r.2 := by
  refine mt_intro (by decide +kernel) ok hi (Nat.le_of_ble_eq_true rfl) (fun E X Y => ?_)
  change V E g tb ρ 3 0 [(0, .ref (ρ l0)), (1, .int l1)] [] h
  unfold f_Md_falls at hf
  refine v_aload_n (pc := 0) (k := 0) X (by decide +kernel) 0 rfl ?_
  refine v_iconst (pc := 1) (n := 0) X (by decide +kernel) ic_0 ?_
  obtain ⟨h1, eh1, hf⟩ := nmd_e hf
  refine v_puti (pc := 2) X fp_12_160 kl0 rfl (by decide +kernel) eh1 ?_
  refine v_aload_n (pc := 5) (k := 0) X (by decide +kernel) 0 rfl ?_
  refine v_iload_n (pc := 6) (k := 1) X (by decide +kernel) 1 rfl ?_
  obtain ⟨r2, er2, hf⟩ := nmd_e hf
  refine v_callV (pc := 7) (As := [.int l1]) (rest := []) X (mt_Md_isHorse ok hi kl0 er2.symm) ml_12_459 mv_Md_isHorse kl0 cls_12 rfl ⟨Nat.le_of_ble_eq_true rfl, Nat.le_of_ble_eq_true rfl⟩ rfl rfl (Nat.le_of_ble_eq_true rfl) (by decide +kernel) ?_
  change V E g tb ρ 3 10 [(0, .ref (ρ l0)), (1, .int l1)] [.int r2] h1
  refine v_if_ne (pc := 10) (off := 5) (tgt := 15) X (by decide +kernel) (by decide) (fun q4 => ?_) (fun q4 => ?_)
  · rw [if_neg q4] at hf
    refine v_aload_n (pc := 15) (k := 0) X (by decide +kernel) 0 rfl ?_
    obtain ⟨r3, er3, hf⟩ := bnd_e hf
    refine v_callV (pc := 16) (As := []) (rest := []) X (mt_Md_layTried ok hi kl0 er3) ml_12_473 mv_Md_layTried kl0 cls_12 rfl ⟨Nat.le_of_ble_eq_true rfl, Nat.le_of_ble_eq_true rfl⟩ rfl rfl (Nat.le_of_ble_eq_true rfl) (by decide +kernel) ?_
    change V E g tb ρ 3 19 [(0, .ref (ρ l0)), (1, .int l1)] [] r3
    refine v_iconst (pc := 19) (n := 0) X (by decide +kernel) ic_0 ?_
    refine v_istore_n (pc := 20) (k := 2) (lv' := [(2, .int (0 : Int32)), (0, .ref (ρ l0)), (1, .int l1)]) X (by decide +kernel) (Nat.le_of_ble_eq_true rfl) rfl ?_
    refine v_sub [1, 2, 0] rfl ?_
    exact vlp_Md_falls_21 ok hi X Y fu r3 l0 l1 (0 : Int32) kl0 hf
  · rw [if_pos q4] at hf
    refine v_iconst (pc := 13) (n := -1) X (by decide +kernel) ic_m1 ?_
    cases hf
    exact v_iret X Y (by decide +kernel) rfl rfl
def lp_Md_nextFight_22 (tb : Tb) : Nat → Hp → Nat → Int32 → Int32 → Option (Int32 × Hp)
  | 0, _, _, _, _ => none
  | n + 1, h, l0, l1, l2 =>
    if (200 : Int32) ≤ l2 then (
      some ((-2 : Int32), h)
    ) else (
      (f_Md_hourGoes tb h l0 (1 : Int32)).bind fun r1 =>
      if (r1.1 l0 68) < (0 : Int32) then (
        nmd (l2 + (1 : Int32)) fun x2 =>
        lp_Md_nextFight_22 tb n r1 l0 l1 x2
      ) else (
        if l1 = (0 : Int32) then (
          some (l2, r1)
        ) else (
          some (r1.1 l0 68, r1)
        )
      )
    )
def f_Md_nextFight (tb : Tb) (h : Hp) (l0 : Nat) (l1 : Int32) : Option (Int32 × Hp) :=
  nmd (pI h l0 2 (0 : Int32)) fun h1 =>
  nmd (f_Md_isIn tb h1 l1 (0 : Int32) (1 : Int32)) fun r2 =>
  if r2 = (0 : Int32) then (
    some ((-1 : Int32), h1)
  ) else (
    (f_Md_layTried tb h1 l0).bind fun r3 =>
    lp_Md_nextFight_22 tb fu r3 l0 l1 (1 : Int32)
  )
set_option maxRecDepth 4000 in
set_option maxHeartbeats 1000000 in
theorem vlp_Md_nextFight_22 {E : En} {g : Gl} {tb : Tb} {ρ : Nat → Nat} (ok : TbOK tb) (hi : inj tb ρ) {r : Int32 × Hp} (X : CX E g tb ρ prog_14_method_78_code 3 RC12 6 147) (Y : CQ E g tb ρ (some .int) (some (.int r.1)) r.2) : ∀ (n : Nat) (h : Hp) (l0 : Nat) (l1 : Int32) (l2 : Int32) (kl0 : kd tb l0 = 12), lp_Md_nextFight_22 tb n h l0 l1 l2 = some r → V E g tb ρ 3 22 [(0, .ref (ρ l0)), (1, .int l1), (2, .int l2)] [] h := by
  intro n
  induction n with
  | zero =>
    intro h l0 l1 l2 kl0 hf
    rw [lp_Md_nextFight_22] at hf
    cases hf
  | succ n ih =>
    intro h l0 l1 l2 kl0 hf
    rw [lp_Md_nextFight_22] at hf
    refine v_iload_n (pc := 22) (k := 2) X (by decide +kernel) 2 rfl ?_
    refine v_sipush (pc := 23) (n := 200) X (by decide +kernel) si_200 ?_
    refine v_icmp_ge (pc := 26) (off := 34) (tgt := 60) X (by decide +kernel) (by decide) (fun q5 => ?_) (fun q5 => ?_)
    · rw [if_pos q5] at hf
      refine v_bipush (pc := 60) (n := -2) X (by decide +kernel) bi_m2 ?_
      cases hf
      exact v_iret X Y (by decide +kernel) rfl rfl
    · rw [if_neg q5] at hf
      refine v_aload_n (pc := 29) (k := 0) X (by decide +kernel) 0 rfl ?_
      refine v_iconst (pc := 30) (n := 1) X (by decide +kernel) ic_1 ?_
      obtain ⟨r1, er1, hf⟩ := bnd_e hf
      refine v_callV (pc := 31) (As := [.int (1 : Int32)]) (rest := []) X (mt_Md_hourGoes ok hi kl0 er1) ml_12_456 mv_Md_hourGoes kl0 cls_12 rfl ⟨Nat.le_of_ble_eq_true rfl, Nat.le_of_ble_eq_true rfl⟩ rfl rfl (Nat.le_of_ble_eq_true rfl) (by decide +kernel) ?_
      change V E g tb ρ 3 34 [(0, .ref (ρ l0)), (1, .int l1), (2, .int l2)] [] r1
      refine v_aload_n (pc := 34) (k := 0) X (by decide +kernel) 0 rfl ?_
      refine v_geti (pc := 35) X fl_12_438 kl0 rfl (by decide +kernel) ?_
      refine v_if_lt (pc := 38) (off := 16) (tgt := 54) X (by decide +kernel) (by decide) (fun q4 => ?_) (fun q4 => ?_)
      · rw [if_pos q4] at hf
        obtain ⟨x2, ex2, hf⟩ := nmd_e hf
        refine v_iinc (pc := 54) (k := 2) (n := 1) (v := x2) (lv' := [(2, .int x2), (0, .ref (ρ l0)), (1, .int l1)]) X (by decide +kernel) 2 rfl (by rw [ic_1, ex2]) (Nat.le_of_ble_eq_true rfl) rfl ?_
        refine v_goto (pc := 57) (off := -35) (tgt := 22) X (by decide +kernel) (by decide) ?_
        refine v_sub [1, 2, 0] rfl ?_
        exact ih r1 l0 l1 x2 kl0 hf
      · rw [if_neg q4] at hf
        refine v_iload_n (pc := 41) (k := 1) X (by decide +kernel) 1 rfl ?_
        refine v_if_ne (pc := 42) (off := 7) (tgt := 49) X (by decide +kernel) (by decide) (fun q3 => ?_) (fun q3 => ?_)
        · rw [if_neg q3] at hf
          refine v_aload_n (pc := 49) (k := 0) X (by decide +kernel) 0 rfl ?_
          refine v_geti (pc := 50) X fl_12_438 kl0 rfl (by decide +kernel) ?_
          cases hf
          exact v_iret X Y (by decide +kernel) rfl rfl
        · rw [if_pos q3] at hf
          refine v_iload_n (pc := 45) (k := 2) X (by decide +kernel) 2 rfl ?_
          refine v_goto (pc := 46) (off := 7) (tgt := 53) X (by decide +kernel) (by decide) ?_
          cases hf
          exact v_iret X Y (by decide +kernel) rfl rfl
set_option maxRecDepth 4000 in
set_option maxHeartbeats 1000000 in
theorem mt_Md_nextFight {g : Gl} {tb : Tb} {ρ : Nat → Nat} (ok : TbOK tb) (hi : inj tb ρ) {h : Hp} {l0 : Nat} {l1 : Int32} (kl0 : kd tb l0 = 12) {r : Int32 × Hp} (hf : f_Md_nextFight tb h l0 l1 = some r) : MT g y_Md_nextFight prog_14_method_78_code 3 (some .int) 6 147 tb ρ [.ref (ρ l0), .int l1] h (some (.int r.1)) r.2 := by
  refine mt_intro (by decide +kernel) ok hi (Nat.le_of_ble_eq_true rfl) (fun E X Y => ?_)
  change V E g tb ρ 3 0 [(0, .ref (ρ l0)), (1, .int l1)] [] h
  unfold f_Md_nextFight at hf
  refine v_aload_n (pc := 0) (k := 0) X (by decide +kernel) 0 rfl ?_
  refine v_iconst (pc := 1) (n := 0) X (by decide +kernel) ic_0 ?_
  obtain ⟨h1, eh1, hf⟩ := nmd_e hf
  refine v_puti (pc := 2) X fp_12_160 kl0 rfl (by decide +kernel) eh1 ?_
  refine v_iload_n (pc := 5) (k := 1) X (by decide +kernel) 1 rfl ?_
  refine v_iconst (pc := 6) (n := 0) X (by decide +kernel) ic_0 ?_
  refine v_iconst (pc := 7) (n := 1) X (by decide +kernel) ic_1 ?_
  obtain ⟨r2, er2, hf⟩ := nmd_e hf
  refine v_callS (pc := 8) (As := [.int l1, .int (0 : Int32), .int (1 : Int32)]) (rest := []) X (mt_Md_isIn ok hi er2.symm) ml_12_205 ms_Md_isIn ⟨Nat.le_of_ble_eq_true rfl, Nat.le_of_ble_eq_true rfl⟩ rfl rfl (Nat.le_of_ble_eq_true rfl) (by decide +kernel) ?_
  change V E g tb ρ 3 11 [(0, .ref (ρ l0)), (1, .int l1)] [.int r2] h1
  refine v_if_ne (pc := 11) (off := 5) (tgt := 16) X (by decide +kernel) (by decide) (fun q4 => ?_) (fun q4 => ?_)
  · rw [if_neg q4] at hf
    refine v_aload_n (pc := 16) (k := 0) X (by decide +kernel) 0 rfl ?_
    obtain ⟨r3, er3, hf⟩ := bnd_e hf
    refine v_callV (pc := 17) (As := []) (rest := []) X (mt_Md_layTried ok hi kl0 er3) ml_12_473 mv_Md_layTried kl0 cls_12 rfl ⟨Nat.le_of_ble_eq_true rfl, Nat.le_of_ble_eq_true rfl⟩ rfl rfl (Nat.le_of_ble_eq_true rfl) (by decide +kernel) ?_
    change V E g tb ρ 3 20 [(0, .ref (ρ l0)), (1, .int l1)] [] r3
    refine v_iconst (pc := 20) (n := 1) X (by decide +kernel) ic_1 ?_
    refine v_istore_n (pc := 21) (k := 2) (lv' := [(2, .int (1 : Int32)), (0, .ref (ρ l0)), (1, .int l1)]) X (by decide +kernel) (Nat.le_of_ble_eq_true rfl) rfl ?_
    refine v_sub [1, 2, 0] rfl ?_
    exact vlp_Md_nextFight_22 ok hi X Y fu r3 l0 l1 (1 : Int32) kl0 hf
  · rw [if_pos q4] at hf
    refine v_iconst (pc := 14) (n := -1) X (by decide +kernel) ic_m1 ?_
    cases hf
    exact v_iret X Y (by decide +kernel) rfl rfl
def f_Md_areTwo (tb : Tb) (h : Hp) (l0 : Nat) (l1 : Int32) (l2 : Int32) : Int32 :=
  nmd (f_Md_isHorse tb h l0 l1) fun r1 =>
  if r1 = (0 : Int32) then (
    (0 : Int32)
  ) else (
    nmd (f_Md_isHorse tb h l0 l2) fun r2 =>
    if r2 = (0 : Int32) then (
      (0 : Int32)
    ) else (
      if l1 = l2 then (
        (0 : Int32)
      ) else (
        (1 : Int32)
      )
    )
  )
set_option maxRecDepth 4000 in
set_option maxHeartbeats 1000000 in
theorem mt_Md_areTwo {g : Gl} {tb : Tb} {ρ : Nat → Nat} (ok : TbOK tb) (hi : inj tb ρ) {h : Hp} {l0 : Nat} {l1 : Int32} {l2 : Int32} (kl0 : kd tb l0 = 12) {r : Int32} (hf : f_Md_areTwo tb h l0 l1 l2 = r) : MT g y_Md_areTwo prog_14_method_95_code 3 (some .boolean) 1 21 tb ρ [.ref (ρ l0), .int l1, .int l2] h (some (.int r)) h := by
  refine mt_intro (by decide +kernel) ok hi (Nat.le_of_ble_eq_true rfl) (fun E X Y => ?_)
  change V E g tb ρ 3 0 [(0, .ref (ρ l0)), (1, .int l1), (2, .int l2)] [] h
  unfold f_Md_areTwo at hf
  refine v_aload_n (pc := 0) (k := 0) X (by decide +kernel) 0 rfl ?_
  refine v_iload_n (pc := 1) (k := 1) X (by decide +kernel) 1 rfl ?_
  obtain ⟨r1, er1, hf⟩ := nmd_e hf
  refine v_callV (pc := 2) (As := [.int l1]) (rest := []) X (mt_Md_isHorse ok hi kl0 er1.symm) ml_12_459 mv_Md_isHorse kl0 cls_12 rfl ⟨Nat.le_of_ble_eq_true rfl, Nat.le_of_ble_eq_true rfl⟩ rfl rfl (Nat.le_of_ble_eq_true rfl) (by decide +kernel) ?_
  change V E g tb ρ 3 5 [(0, .ref (ρ l0)), (1, .int l1), (2, .int l2)] [.int r1] h
  refine v_if_eq (pc := 5) (off := 20) (tgt := 25) X (by decide +kernel) (by decide) (fun q5 => ?_) (fun q5 => ?_)
  · rw [if_pos q5] at hf
    refine v_iconst (pc := 25) (n := 0) X (by decide +kernel) ic_0 ?_
    cases hf
    exact v_zret (hz := rfl) X Y (by decide +kernel) rfl rfl
  · rw [if_neg q5] at hf
    refine v_aload_n (pc := 8) (k := 0) X (by decide +kernel) 0 rfl ?_
    refine v_iload_n (pc := 9) (k := 2) X (by decide +kernel) 2 rfl ?_
    obtain ⟨r2, er2, hf⟩ := nmd_e hf
    refine v_callV (pc := 10) (As := [.int l2]) (rest := []) X (mt_Md_isHorse ok hi kl0 er2.symm) ml_12_459 mv_Md_isHorse kl0 cls_12 rfl ⟨Nat.le_of_ble_eq_true rfl, Nat.le_of_ble_eq_true rfl⟩ rfl rfl (Nat.le_of_ble_eq_true rfl) (by decide +kernel) ?_
    change V E g tb ρ 3 13 [(0, .ref (ρ l0)), (1, .int l1), (2, .int l2)] [.int r2] h
    refine v_if_eq (pc := 13) (off := 12) (tgt := 25) X (by decide +kernel) (by decide) (fun q4 => ?_) (fun q4 => ?_)
    · rw [if_pos q4] at hf
      refine v_iconst (pc := 25) (n := 0) X (by decide +kernel) ic_0 ?_
      cases hf
      exact v_zret (hz := rfl) X Y (by decide +kernel) rfl rfl
    · rw [if_neg q4] at hf
      refine v_iload_n (pc := 16) (k := 1) X (by decide +kernel) 1 rfl ?_
      refine v_iload_n (pc := 17) (k := 2) X (by decide +kernel) 2 rfl ?_
      refine v_icmp_eq (pc := 18) (off := 7) (tgt := 25) X (by decide +kernel) (by decide) (fun q3 => ?_) (fun q3 => ?_)
      · rw [if_pos q3] at hf
        refine v_iconst (pc := 25) (n := 0) X (by decide +kernel) ic_0 ?_
        cases hf
        exact v_zret (hz := rfl) X Y (by decide +kernel) rfl rfl
      · rw [if_neg q3] at hf
        refine v_iconst (pc := 21) (n := 1) X (by decide +kernel) ic_1 ?_
        refine v_goto (pc := 22) (off := 4) (tgt := 26) X (by decide +kernel) (by decide) ?_
        cases hf
        exact v_zret (hz := rfl) X Y (by decide +kernel) rfl rfl
def jb_Md_meet_81 (tb : Tb) (c22 : Hp → Nat → Int32 → Int32 → Int32 → Option (Int32 × Hp)) (h : Hp) (l0 : Nat) (l1 : Int32) (l2 : Int32) (l3 : Int32) : Option (Int32 × Hp) :=
  nmd (l3 + (1 : Int32)) fun x1 =>
  c22 h l0 l1 l2 x1
def lp_Md_meet_22 (tb : Tb) : Nat → Hp → Nat → Int32 → Int32 → Int32 → Option (Int32 × Hp)
  | 0, _, _, _, _, _ => none
  | n + 1, h, l0, l1, l2, l3 =>
    if (200 : Int32) ≤ l3 then (
      some ((-2 : Int32), h)
    ) else (
      (f_Md_hourGoes tb h l0 (1 : Int32)).bind fun r1 =>
      (rI tb r1 (lay tb l0 58) ((6 : Int32) + l1)).bind fun x2 =>
      if x2 = (0 : Int32) then (
        jb_Md_meet_81 tb (lp_Md_meet_22 tb n) r1 l0 l1 l2 l3
      ) else (
        (rI tb r1 (lay tb l0 58) ((6 : Int32) + l2)).bind fun x3 =>
        if x3 = (0 : Int32) then (
          jb_Md_meet_81 tb (lp_Md_meet_22 tb n) r1 l0 l1 l2 l3
        ) else (
          (rI tb r1 (lay tb l0 54) ((6 : Int32) + l1)).bind fun x4 =>
          (rI tb r1 (lay tb l0 54) ((6 : Int32) + l2)).bind fun x5 =>
          if x4 = x5 then (
            some (l3, r1)
          ) else (
            jb_Md_meet_81 tb (lp_Md_meet_22 tb n) r1 l0 l1 l2 l3
          )
        )
      )
    )
def f_Md_meet (tb : Tb) (h : Hp) (l0 : Nat) (l1 : Int32) (l2 : Int32) : Option (Int32 × Hp) :=
  nmd (pI h l0 2 (0 : Int32)) fun h1 =>
  nmd (f_Md_areTwo tb h1 l0 l1 l2) fun r2 =>
  if r2 = (0 : Int32) then (
    some ((-1 : Int32), h1)
  ) else (
    (f_Md_layTried tb h1 l0).bind fun r3 =>
    lp_Md_meet_22 tb fu r3 l0 l1 l2 (1 : Int32)
  )
set_option maxRecDepth 4000 in
set_option maxHeartbeats 1000000 in
theorem vjb_Md_meet_81 {E : En} {g : Gl} {tb : Tb} {ρ : Nat → Nat} (ok : TbOK tb) (hi : inj tb ρ) {r : Int32 × Hp} (X : CX E g tb ρ prog_14_method_79_code 4 RC12 6 147) (Y : CQ E g tb ρ (some .int) (some (.int r.1)) r.2) {c22 : Hp → Nat → Int32 → Int32 → Int32 → Option (Int32 × Hp)} (H22 : ∀ (h : Hp) (l0 : Nat) (l1 : Int32) (l2 : Int32) (l3 : Int32) (kl0 : kd tb l0 = 12), c22 h l0 l1 l2 l3 = some r → V E g tb ρ 4 22 [(0, .ref (ρ l0)), (1, .int l1), (2, .int l2), (3, .int l3)] [] h) (h : Hp) (l0 : Nat) (l1 : Int32) (l2 : Int32) (l3 : Int32) (kl0 : kd tb l0 = 12) (hf : jb_Md_meet_81 tb c22 h l0 l1 l2 l3 = some r) : V E g tb ρ 4 81 [(0, .ref (ρ l0)), (1, .int l1), (2, .int l2), (3, .int l3)] [] h := by
  unfold jb_Md_meet_81 at hf
  obtain ⟨x1, ex1, hf⟩ := nmd_e hf
  refine v_iinc (pc := 81) (k := 3) (n := 1) (v := x1) (lv' := [(3, .int x1), (0, .ref (ρ l0)), (1, .int l1), (2, .int l2)]) X (by decide +kernel) 3 rfl (by rw [ic_1, ex1]) (Nat.le_of_ble_eq_true rfl) rfl ?_
  refine v_goto (pc := 84) (off := -62) (tgt := 22) X (by decide +kernel) (by decide) ?_
  refine v_sub [1, 2, 3, 0] rfl ?_
  exact H22 h l0 l1 l2 x1 kl0 hf
set_option maxRecDepth 4000 in
set_option maxHeartbeats 1000000 in
theorem vlp_Md_meet_22 {E : En} {g : Gl} {tb : Tb} {ρ : Nat → Nat} (ok : TbOK tb) (hi : inj tb ρ) {r : Int32 × Hp} (X : CX E g tb ρ prog_14_method_79_code 4 RC12 6 147) (Y : CQ E g tb ρ (some .int) (some (.int r.1)) r.2) : ∀ (n : Nat) (h : Hp) (l0 : Nat) (l1 : Int32) (l2 : Int32) (l3 : Int32) (kl0 : kd tb l0 = 12), lp_Md_meet_22 tb n h l0 l1 l2 l3 = some r → V E g tb ρ 4 22 [(0, .ref (ρ l0)), (1, .int l1), (2, .int l2), (3, .int l3)] [] h := by
  intro n
  induction n with
  | zero =>
    intro h l0 l1 l2 l3 kl0 hf
    rw [lp_Md_meet_22] at hf
    cases hf
  | succ n ih =>
    intro h l0 l1 l2 l3 kl0 hf
    rw [lp_Md_meet_22] at hf
    refine v_iload_n (pc := 22) (k := 3) X (by decide +kernel) 3 rfl ?_
    refine v_sipush (pc := 23) (n := 200) X (by decide +kernel) si_200 ?_
    refine v_icmp_ge (pc := 26) (off := 61) (tgt := 87) X (by decide +kernel) (by decide) (fun q9 => ?_) (fun q9 => ?_)
    · rw [if_pos q9] at hf
      refine v_bipush (pc := 87) (n := -2) X (by decide +kernel) bi_m2 ?_
      cases hf
      exact v_iret X Y (by decide +kernel) rfl rfl
    · rw [if_neg q9] at hf
      refine v_aload_n (pc := 29) (k := 0) X (by decide +kernel) 0 rfl ?_
      refine v_iconst (pc := 30) (n := 1) X (by decide +kernel) ic_1 ?_
      obtain ⟨r1, er1, hf⟩ := bnd_e hf
      refine v_callV (pc := 31) (As := [.int (1 : Int32)]) (rest := []) X (mt_Md_hourGoes ok hi kl0 er1) ml_12_456 mv_Md_hourGoes kl0 cls_12 rfl ⟨Nat.le_of_ble_eq_true rfl, Nat.le_of_ble_eq_true rfl⟩ rfl rfl (Nat.le_of_ble_eq_true rfl) (by decide +kernel) ?_
      change V E g tb ρ 4 34 [(0, .ref (ρ l0)), (1, .int l1), (2, .int l2), (3, .int l3)] [] r1
      refine v_aload_n (pc := 34) (k := 0) X (by decide +kernel) 0 rfl ?_
      refine v_geta (pc := 35) X fl_12_106 kl0 fk_12_58 (by decide +kernel) ?_
      refine v_bipush (pc := 38) (n := 6) X (by decide +kernel) bi_6 ?_
      refine v_iload_n (pc := 40) (k := 1) X (by decide +kernel) 1 rfl ?_
      refine v_iadd (pc := 41) X (by decide +kernel) ?_
      obtain ⟨x2, ex2, hf⟩ := bnd_e hf
      refine v_zald (pc := 42) X (ly_12_58 ok kl0) ex2 (by decide +kernel) ?_
      refine v_if_eq (pc := 43) (off := 38) (tgt := 81) X (by decide +kernel) (by decide) (fun q8 => ?_) (fun q8 => ?_)
      · rw [if_pos q8] at hf
        exact vjb_Md_meet_81 ok hi X Y ih r1 l0 l1 l2 l3 kl0 hf
      · rw [if_neg q8] at hf
        refine v_aload_n (pc := 46) (k := 0) X (by decide +kernel) 0 rfl ?_
        refine v_geta (pc := 47) X fl_12_106 kl0 fk_12_58 (by decide +kernel) ?_
        refine v_bipush (pc := 50) (n := 6) X (by decide +kernel) bi_6 ?_
        refine v_iload_n (pc := 52) (k := 2) X (by decide +kernel) 2 rfl ?_
        refine v_iadd (pc := 53) X (by decide +kernel) ?_
        obtain ⟨x3, ex3, hf⟩ := bnd_e hf
        refine v_zald (pc := 54) X (ly_12_58 ok kl0) ex3 (by decide +kernel) ?_
        refine v_if_eq (pc := 55) (off := 26) (tgt := 81) X (by decide +kernel) (by decide) (fun q7 => ?_) (fun q7 => ?_)
        · rw [if_pos q7] at hf
          exact vjb_Md_meet_81 ok hi X Y ih r1 l0 l1 l2 l3 kl0 hf
        · rw [if_neg q7] at hf
          refine v_aload_n (pc := 58) (k := 0) X (by decide +kernel) 0 rfl ?_
          refine v_geta (pc := 59) X fl_12_94 kl0 fk_12_54 (by decide +kernel) ?_
          refine v_bipush (pc := 62) (n := 6) X (by decide +kernel) bi_6 ?_
          refine v_iload_n (pc := 64) (k := 1) X (by decide +kernel) 1 rfl ?_
          refine v_iadd (pc := 65) X (by decide +kernel) ?_
          obtain ⟨x4, ex4, hf⟩ := bnd_e hf
          refine v_iald (pc := 66) X (ly_12_54 ok kl0) ex4 (by decide +kernel) ?_
          refine v_aload_n (pc := 67) (k := 0) X (by decide +kernel) 0 rfl ?_
          refine v_geta (pc := 68) X fl_12_94 kl0 fk_12_54 (by decide +kernel) ?_
          refine v_bipush (pc := 71) (n := 6) X (by decide +kernel) bi_6 ?_
          refine v_iload_n (pc := 73) (k := 2) X (by decide +kernel) 2 rfl ?_
          refine v_iadd (pc := 74) X (by decide +kernel) ?_
          obtain ⟨x5, ex5, hf⟩ := bnd_e hf
          refine v_iald (pc := 75) X (ly_12_54 ok kl0) ex5 (by decide +kernel) ?_
          refine v_icmp_ne (pc := 76) (off := 5) (tgt := 81) X (by decide +kernel) (by decide) (fun q6 => ?_) (fun q6 => ?_)
          · rw [if_neg q6] at hf
            exact vjb_Md_meet_81 ok hi X Y ih r1 l0 l1 l2 l3 kl0 hf
          · rw [if_pos q6] at hf
            refine v_iload_n (pc := 79) (k := 3) X (by decide +kernel) 3 rfl ?_
            cases hf
            exact v_iret X Y (by decide +kernel) rfl rfl
set_option maxRecDepth 4000 in
set_option maxHeartbeats 1000000 in
theorem mt_Md_meet {g : Gl} {tb : Tb} {ρ : Nat → Nat} (ok : TbOK tb) (hi : inj tb ρ) {h : Hp} {l0 : Nat} {l1 : Int32} {l2 : Int32} (kl0 : kd tb l0 = 12) {r : Int32 × Hp} (hf : f_Md_meet tb h l0 l1 l2 = some r) : MT g y_Md_meet prog_14_method_79_code 4 (some .int) 6 147 tb ρ [.ref (ρ l0), .int l1, .int l2] h (some (.int r.1)) r.2 := by
  refine mt_intro (by decide +kernel) ok hi (Nat.le_of_ble_eq_true rfl) (fun E X Y => ?_)
  change V E g tb ρ 4 0 [(0, .ref (ρ l0)), (1, .int l1), (2, .int l2)] [] h
  unfold f_Md_meet at hf
  refine v_aload_n (pc := 0) (k := 0) X (by decide +kernel) 0 rfl ?_
  refine v_iconst (pc := 1) (n := 0) X (by decide +kernel) ic_0 ?_
  obtain ⟨h1, eh1, hf⟩ := nmd_e hf
  refine v_puti (pc := 2) X fp_12_160 kl0 rfl (by decide +kernel) eh1 ?_
  refine v_aload_n (pc := 5) (k := 0) X (by decide +kernel) 0 rfl ?_
  refine v_iload_n (pc := 6) (k := 1) X (by decide +kernel) 1 rfl ?_
  refine v_iload_n (pc := 7) (k := 2) X (by decide +kernel) 2 rfl ?_
  obtain ⟨r2, er2, hf⟩ := nmd_e hf
  refine v_callV (pc := 8) (As := [.int l1, .int l2]) (rest := []) X (mt_Md_areTwo ok hi kl0 er2.symm) ml_12_482 mv_Md_areTwo kl0 cls_12 rfl ⟨Nat.le_of_ble_eq_true rfl, Nat.le_of_ble_eq_true rfl⟩ rfl rfl (Nat.le_of_ble_eq_true rfl) (by decide +kernel) ?_
  change V E g tb ρ 4 11 [(0, .ref (ρ l0)), (1, .int l1), (2, .int l2)] [.int r2] h1
  refine v_if_ne (pc := 11) (off := 5) (tgt := 16) X (by decide +kernel) (by decide) (fun q4 => ?_) (fun q4 => ?_)
  · rw [if_neg q4] at hf
    refine v_aload_n (pc := 16) (k := 0) X (by decide +kernel) 0 rfl ?_
    obtain ⟨r3, er3, hf⟩ := bnd_e hf
    refine v_callV (pc := 17) (As := []) (rest := []) X (mt_Md_layTried ok hi kl0 er3) ml_12_473 mv_Md_layTried kl0 cls_12 rfl ⟨Nat.le_of_ble_eq_true rfl, Nat.le_of_ble_eq_true rfl⟩ rfl rfl (Nat.le_of_ble_eq_true rfl) (by decide +kernel) ?_
    change V E g tb ρ 4 20 [(0, .ref (ρ l0)), (1, .int l1), (2, .int l2)] [] r3
    refine v_iconst (pc := 20) (n := 1) X (by decide +kernel) ic_1 ?_
    refine v_istore_n (pc := 21) (k := 3) (lv' := [(3, .int (1 : Int32)), (0, .ref (ρ l0)), (1, .int l1), (2, .int l2)]) X (by decide +kernel) (Nat.le_of_ble_eq_true rfl) rfl ?_
    refine v_sub [1, 2, 3, 0] rfl ?_
    exact vlp_Md_meet_22 ok hi X Y fu r3 l0 l1 l2 (1 : Int32) kl0 hf
  · rw [if_pos q4] at hf
    refine v_iconst (pc := 14) (n := -1) X (by decide +kernel) ic_m1 ?_
    cases hf
    exact v_iret X Y (by decide +kernel) rfl rfl
def jb_Md_sendIn_151 (tb : Tb) (c53 : Hp → Nat → Int32 → Int32 → Int32 → Int32 → Int32 → Int32 → Option (Int32 × Hp)) (h : Hp) (l0 : Nat) (l1 : Int32) (l2 : Int32) (l3 : Int32) (l4 : Int32) (l5 : Int32) (l6 : Int32) : Option (Int32 × Hp) :=
  nmd (l6 + (1 : Int32)) fun x1 =>
  c53 h l0 l1 l2 l3 l4 l5 x1
def jb_Md_sendIn_143 (tb : Tb) (c53 : Hp → Nat → Int32 → Int32 → Int32 → Int32 → Int32 → Int32 → Option (Int32 × Hp)) (h : Hp) (l0 : Nat) (l1 : Int32) (l2 : Int32) (l3 : Int32) (l6 : Int32) (l7 : Int32) : Option (Int32 × Hp) :=
  jb_Md_sendIn_151 tb c53 h l0 l1 l2 l3 l6 l7 l6
def jb_Md_sendIn_103 (tb : Tb) (c53 : Hp → Nat → Int32 → Int32 → Int32 → Int32 → Int32 → Int32 → Option (Int32 × Hp)) (h : Hp) (l0 : Nat) (l1 : Int32) (l2 : Int32) (l3 : Int32) (l4 : Int32) (l5 : Int32) (l6 : Int32) (s0 : Nat) (s1 : Int32) (s2 : Int32) : Option (Int32 × Hp) :=
  (wI tb h s0 s1 s2).bind fun h1 =>
  (f_Md_goMany tb h1 l0 ((40 : Int32) - l6)).bind fun r2 =>
  (rI tb r2 (lay tb l0 61) (1 : Int32)).bind fun x3 =>
  (rI tb r2 (lay tb l0 61) (0 : Int32)).bind fun x4 =>
  nmd (x3 - x4) fun x5 =>
  if l4 < (0 : Int32) then (
    jb_Md_sendIn_143 tb c53 r2 l0 l1 l2 l3 l6 x5
  ) else (
    if x5 < l5 then (
      jb_Md_sendIn_143 tb c53 r2 l0 l1 l2 l3 l6 x5
    ) else (
      jb_Md_sendIn_151 tb c53 r2 l0 l1 l2 l3 l4 l5 l6
    )
  )
def lp_Md_sendIn_53 (tb : Tb) : Nat → Hp → Nat → Int32 → Int32 → Int32 → Int32 → Int32 → Int32 → Option (Int32 × Hp)
  | 0, _, _, _, _, _, _, _, _ => none
  | n + 1, h, l0, l1, l2, l3, l4, l5, l6 =>
    if (20 : Int32) < l6 then (
      if l3 = (0 : Int32) then (
        some (l4, h)
      ) else (
        some (l5, h)
      )
    ) else (
      (f_Md_layTried tb h l0).bind fun r2 =>
      (f_Md_goMany tb r2 l0 l6).bind fun r3 =>
      (rI tb r3 (lay tb l0 58) ((6 : Int32) + l1)).bind fun x4 =>
      if x4 = (0 : Int32) then (
        (rI tb r3 (lay tb l0 56) ((6 : Int32) + l1)).bind fun x5 =>
        jb_Md_sendIn_103 tb (lp_Md_sendIn_53 tb n) r3 l0 l1 l2 l3 l4 l5 l6 (lay tb l0 56) ((6 : Int32) + l1) x5
      ) else (
        jb_Md_sendIn_103 tb (lp_Md_sendIn_53 tb n) r3 l0 l1 l2 l3 l4 l5 l6 (lay tb l0 56) ((6 : Int32) + l1) l2
      )
    )
def f_Md_sendIn (tb : Tb) (h : Hp) (l0 : Nat) (l1 : Int32) (l2 : Int32) (l3 : Int32) : Option (Int32 × Hp) :=
  nmd (pI h l0 2 (0 : Int32)) fun h1 =>
  nmd (f_Md_isHorse tb h1 l0 l1) fun r2 =>
  if r2 = (0 : Int32) then (
    some ((-1 : Int32), h1)
  ) else (
    nmd (f_Md_isTrough tb h1 l0 l2) fun r3 =>
    if r3 = (0 : Int32) then (
      some ((-1 : Int32), h1)
    ) else (
      nmd (f_Md_isIn tb h1 l3 (0 : Int32) (1 : Int32)) fun r4 =>
      if r4 = (0 : Int32) then (
        some ((-1 : Int32), h1)
      ) else (
        (rI tb h1 (lay tb l0 58) l1).bind fun x5 =>
        if x5 = (0 : Int32) then (
          some ((-2 : Int32), h1)
        ) else (
          lp_Md_sendIn_53 tb fu h1 l0 l1 l2 l3 (-1 : Int32) (0 : Int32) (0 : Int32)
        )
      )
    )
  )
set_option maxRecDepth 4000 in
set_option maxHeartbeats 1000000 in
theorem vjb_Md_sendIn_151 {E : En} {g : Gl} {tb : Tb} {ρ : Nat → Nat} (ok : TbOK tb) (hi : inj tb ρ) {r : Int32 × Hp} (X : CX E g tb ρ prog_14_method_80_code 8 RC12 7 169) (Y : CQ E g tb ρ (some .int) (some (.int r.1)) r.2) {c53 : Hp → Nat → Int32 → Int32 → Int32 → Int32 → Int32 → Int32 → Option (Int32 × Hp)} (H53 : ∀ (h : Hp) (l0 : Nat) (l1 : Int32) (l2 : Int32) (l3 : Int32) (l4 : Int32) (l5 : Int32) (l6 : Int32) (kl0 : kd tb l0 = 12), c53 h l0 l1 l2 l3 l4 l5 l6 = some r → V E g tb ρ 8 53 [(0, .ref (ρ l0)), (1, .int l1), (2, .int l2), (3, .int l3), (4, .int l4), (5, .int l5), (6, .int l6)] [] h) (h : Hp) (l0 : Nat) (l1 : Int32) (l2 : Int32) (l3 : Int32) (l4 : Int32) (l5 : Int32) (l6 : Int32) (kl0 : kd tb l0 = 12) (hf : jb_Md_sendIn_151 tb c53 h l0 l1 l2 l3 l4 l5 l6 = some r) : V E g tb ρ 8 151 [(0, .ref (ρ l0)), (1, .int l1), (2, .int l2), (3, .int l3), (4, .int l4), (5, .int l5), (6, .int l6)] [] h := by
  unfold jb_Md_sendIn_151 at hf
  obtain ⟨x1, ex1, hf⟩ := nmd_e hf
  refine v_iinc (pc := 151) (k := 6) (n := 1) (v := x1) (lv' := [(6, .int x1), (0, .ref (ρ l0)), (1, .int l1), (2, .int l2), (3, .int l3), (4, .int l4), (5, .int l5)]) X (by decide +kernel) 6 rfl (by rw [ic_1, ex1]) (Nat.le_of_ble_eq_true rfl) rfl ?_
  refine v_goto (pc := 154) (off := -101) (tgt := 53) X (by decide +kernel) (by decide) ?_
  refine v_sub [1, 2, 3, 4, 5, 6, 0] rfl ?_
  exact H53 h l0 l1 l2 l3 l4 l5 x1 kl0 hf
set_option maxRecDepth 4000 in
set_option maxHeartbeats 1000000 in
theorem vjb_Md_sendIn_143 {E : En} {g : Gl} {tb : Tb} {ρ : Nat → Nat} (ok : TbOK tb) (hi : inj tb ρ) {r : Int32 × Hp} (X : CX E g tb ρ prog_14_method_80_code 8 RC12 7 169) (Y : CQ E g tb ρ (some .int) (some (.int r.1)) r.2) {c53 : Hp → Nat → Int32 → Int32 → Int32 → Int32 → Int32 → Int32 → Option (Int32 × Hp)} (H53 : ∀ (h : Hp) (l0 : Nat) (l1 : Int32) (l2 : Int32) (l3 : Int32) (l4 : Int32) (l5 : Int32) (l6 : Int32) (kl0 : kd tb l0 = 12), c53 h l0 l1 l2 l3 l4 l5 l6 = some r → V E g tb ρ 8 53 [(0, .ref (ρ l0)), (1, .int l1), (2, .int l2), (3, .int l3), (4, .int l4), (5, .int l5), (6, .int l6)] [] h) (h : Hp) (l0 : Nat) (l1 : Int32) (l2 : Int32) (l3 : Int32) (l6 : Int32) (l7 : Int32) (kl0 : kd tb l0 = 12) (hf : jb_Md_sendIn_143 tb c53 h l0 l1 l2 l3 l6 l7 = some r) : V E g tb ρ 8 143 [(0, .ref (ρ l0)), (1, .int l1), (2, .int l2), (3, .int l3), (6, .int l6), (7, .int l7)] [] h := by
  unfold jb_Md_sendIn_143 at hf
  refine v_iload (pc := 143) (k := 6) X (by decide +kernel) 4 rfl ?_
  refine v_istore (pc := 145) (k := 4) (lv' := [(4, .int l6), (0, .ref (ρ l0)), (1, .int l1), (2, .int l2), (3, .int l3), (6, .int l6), (7, .int l7)]) X (by decide +kernel) (Nat.le_of_ble_eq_true rfl) rfl ?_
  refine v_iload (pc := 147) (k := 7) X (by decide +kernel) 6 rfl ?_
  refine v_istore (pc := 149) (k := 5) (lv' := [(5, .int l7), (4, .int l6), (0, .ref (ρ l0)), (1, .int l1), (2, .int l2), (3, .int l3), (6, .int l6), (7, .int l7)]) X (by decide +kernel) (Nat.le_of_ble_eq_true rfl) rfl ?_
  refine v_sub [2, 3, 4, 5, 1, 0, 6] rfl ?_
  exact vjb_Md_sendIn_151 ok hi X Y H53 h l0 l1 l2 l3 l6 l7 l6 kl0 hf
set_option maxRecDepth 4000 in
set_option maxHeartbeats 1000000 in
theorem vjb_Md_sendIn_103 {E : En} {g : Gl} {tb : Tb} {ρ : Nat → Nat} (ok : TbOK tb) (hi : inj tb ρ) {r : Int32 × Hp} (X : CX E g tb ρ prog_14_method_80_code 8 RC12 7 169) (Y : CQ E g tb ρ (some .int) (some (.int r.1)) r.2) {c53 : Hp → Nat → Int32 → Int32 → Int32 → Int32 → Int32 → Int32 → Option (Int32 × Hp)} (H53 : ∀ (h : Hp) (l0 : Nat) (l1 : Int32) (l2 : Int32) (l3 : Int32) (l4 : Int32) (l5 : Int32) (l6 : Int32) (kl0 : kd tb l0 = 12), c53 h l0 l1 l2 l3 l4 l5 l6 = some r → V E g tb ρ 8 53 [(0, .ref (ρ l0)), (1, .int l1), (2, .int l2), (3, .int l3), (4, .int l4), (5, .int l5), (6, .int l6)] [] h) (h : Hp) (l0 : Nat) (l1 : Int32) (l2 : Int32) (l3 : Int32) (l4 : Int32) (l5 : Int32) (l6 : Int32) (s0 : Nat) (s1 : Int32) (s2 : Int32) (kl0 : kd tb l0 = 12) (ks0 : kd tb s0 = 20) (hf : jb_Md_sendIn_103 tb c53 h l0 l1 l2 l3 l4 l5 l6 s0 s1 s2 = some r) : V E g tb ρ 8 103 [(0, .ref (ρ l0)), (1, .int l1), (2, .int l2), (3, .int l3), (4, .int l4), (5, .int l5), (6, .int l6)] [.int s2, .int s1, .ref (ρ s0)] h := by
  unfold jb_Md_sendIn_103 at hf
  obtain ⟨h1, eh1, hf⟩ := bnd_e hf
  refine v_iast (pc := 103) X ks0 eh1 (by decide +kernel) ?_
  refine v_aload_n (pc := 104) (k := 0) X (by decide +kernel) 0 rfl ?_
  refine v_bipush (pc := 105) (n := 40) X (by decide +kernel) bi_40 ?_
  refine v_iload (pc := 107) (k := 6) X (by decide +kernel) 6 rfl ?_
  refine v_isub (pc := 109) X (by decide +kernel) ?_
  obtain ⟨r2, er2, hf⟩ := bnd_e hf
  refine v_callV (pc := 110) (As := [.int ((40 : Int32) - l6)]) (rest := []) X (mt_Md_goMany ok hi kl0 er2) ml_12_476 mv_Md_goMany kl0 cls_12 rfl ⟨Nat.le_of_ble_eq_true rfl, Nat.le_of_ble_eq_true rfl⟩ rfl rfl (Nat.le_of_ble_eq_true rfl) (by decide +kernel) ?_
  change V E g tb ρ 8 113 [(0, .ref (ρ l0)), (1, .int l1), (2, .int l2), (3, .int l3), (4, .int l4), (5, .int l5), (6, .int l6)] [] r2
  refine v_aload_n (pc := 113) (k := 0) X (by decide +kernel) 0 rfl ?_
  refine v_geta (pc := 114) X fl_12_115 kl0 fk_12_61 (by decide +kernel) ?_
  refine v_iconst (pc := 117) (n := 1) X (by decide +kernel) ic_1 ?_
  obtain ⟨x3, ex3, hf⟩ := bnd_e hf
  refine v_iald (pc := 118) X (ly_12_61 ok kl0) ex3 (by decide +kernel) ?_
  refine v_aload_n (pc := 119) (k := 0) X (by decide +kernel) 0 rfl ?_
  refine v_geta (pc := 120) X fl_12_115 kl0 fk_12_61 (by decide +kernel) ?_
  refine v_iconst (pc := 123) (n := 0) X (by decide +kernel) ic_0 ?_
  obtain ⟨x4, ex4, hf⟩ := bnd_e hf
  refine v_iald (pc := 124) X (ly_12_61 ok kl0) ex4 (by decide +kernel) ?_
  refine v_isub (pc := 125) X (by decide +kernel) ?_
  obtain ⟨x5, ex5, hf⟩ := nmd_e hf
  refine v_nmi ex5 ?_
  refine v_istore (pc := 126) (k := 7) (lv' := [(7, .int x5), (0, .ref (ρ l0)), (1, .int l1), (2, .int l2), (3, .int l3), (4, .int l4), (5, .int l5), (6, .int l6)]) X (by decide +kernel) (Nat.le_of_ble_eq_true rfl) rfl ?_
  refine v_iload (pc := 128) (k := 4) X (by decide +kernel) 5 rfl ?_
  refine v_if_lt (pc := 130) (off := 13) (tgt := 143) X (by decide +kernel) (by decide) (fun q7 => ?_) (fun q7 => ?_)
  · rw [if_pos q7] at hf
    refine v_sub [1, 2, 3, 4, 7, 0] rfl ?_
    exact vjb_Md_sendIn_143 ok hi X Y H53 r2 l0 l1 l2 l3 l6 x5 kl0 hf
  · rw [if_neg q7] at hf
    refine v_iload (pc := 133) (k := 7) X (by decide +kernel) 0 rfl ?_
    refine v_iload (pc := 135) (k := 5) X (by decide +kernel) 6 rfl ?_
    refine v_icmp_lt (pc := 137) (off := 6) (tgt := 143) X (by decide +kernel) (by decide) (fun q6 => ?_) (fun q6 => ?_)
    · rw [if_pos q6] at hf
      refine v_sub [1, 2, 3, 4, 7, 0] rfl ?_
      exact vjb_Md_sendIn_143 ok hi X Y H53 r2 l0 l1 l2 l3 l6 x5 kl0 hf
    · rw [if_neg q6] at hf
      refine v_goto (pc := 140) (off := 11) (tgt := 151) X (by decide +kernel) (by decide) ?_
      refine v_sub [1, 2, 3, 4, 5, 6, 7] rfl ?_
      exact vjb_Md_sendIn_151 ok hi X Y H53 r2 l0 l1 l2 l3 l4 l5 l6 kl0 hf
set_option maxRecDepth 4000 in
set_option maxHeartbeats 1000000 in
theorem vlp_Md_sendIn_53 {E : En} {g : Gl} {tb : Tb} {ρ : Nat → Nat} (ok : TbOK tb) (hi : inj tb ρ) {r : Int32 × Hp} (X : CX E g tb ρ prog_14_method_80_code 8 RC12 7 169) (Y : CQ E g tb ρ (some .int) (some (.int r.1)) r.2) : ∀ (n : Nat) (h : Hp) (l0 : Nat) (l1 : Int32) (l2 : Int32) (l3 : Int32) (l4 : Int32) (l5 : Int32) (l6 : Int32) (kl0 : kd tb l0 = 12), lp_Md_sendIn_53 tb n h l0 l1 l2 l3 l4 l5 l6 = some r → V E g tb ρ 8 53 [(0, .ref (ρ l0)), (1, .int l1), (2, .int l2), (3, .int l3), (4, .int l4), (5, .int l5), (6, .int l6)] [] h := by
  intro n
  induction n with
  | zero =>
    intro h l0 l1 l2 l3 l4 l5 l6 kl0 hf
    rw [lp_Md_sendIn_53] at hf
    cases hf
  | succ n ih =>
    intro h l0 l1 l2 l3 l4 l5 l6 kl0 hf
    rw [lp_Md_sendIn_53] at hf
    refine v_iload (pc := 53) (k := 6) X (by decide +kernel) 6 rfl ?_
    refine v_bipush (pc := 55) (n := 20) X (by decide +kernel) bi_20 ?_
    refine v_icmp_gt (pc := 57) (off := 100) (tgt := 157) X (by decide +kernel) (by decide) (fun q7 => ?_) (fun q7 => ?_)
    · rw [if_pos q7] at hf
      refine v_iload_n (pc := 157) (k := 3) X (by decide +kernel) 3 rfl ?_
      refine v_if_ne (pc := 158) (off := 8) (tgt := 166) X (by decide +kernel) (by decide) (fun q1 => ?_) (fun q1 => ?_)
      · rw [if_neg q1] at hf
        refine v_iload (pc := 166) (k := 5) X (by decide +kernel) 5 rfl ?_
        cases hf
        exact v_iret X Y (by decide +kernel) rfl rfl
      · rw [if_pos q1] at hf
        refine v_iload (pc := 161) (k := 4) X (by decide +kernel) 4 rfl ?_
        refine v_goto (pc := 163) (off := 5) (tgt := 168) X (by decide +kernel) (by decide) ?_
        cases hf
        exact v_iret X Y (by decide +kernel) rfl rfl
    · rw [if_neg q7] at hf
      refine v_aload_n (pc := 60) (k := 0) X (by decide +kernel) 0 rfl ?_
      obtain ⟨r2, er2, hf⟩ := bnd_e hf
      refine v_callV (pc := 61) (As := []) (rest := []) X (mt_Md_layTried ok hi kl0 er2) ml_12_473 mv_Md_layTried kl0 cls_12 rfl ⟨Nat.le_of_ble_eq_true rfl, Nat.le_of_ble_eq_true rfl⟩ rfl rfl (Nat.le_of_ble_eq_true rfl) (by decide +kernel) ?_
      change V E g tb ρ 8 64 [(0, .ref (ρ l0)), (1, .int l1), (2, .int l2), (3, .int l3), (4, .int l4), (5, .int l5), (6, .int l6)] [] r2
      refine v_aload_n (pc := 64) (k := 0) X (by decide +kernel) 0 rfl ?_
      refine v_iload (pc := 65) (k := 6) X (by decide +kernel) 6 rfl ?_
      obtain ⟨r3, er3, hf⟩ := bnd_e hf
      refine v_callV (pc := 67) (As := [.int l6]) (rest := []) X (mt_Md_goMany ok hi kl0 er3) ml_12_476 mv_Md_goMany kl0 cls_12 rfl ⟨Nat.le_of_ble_eq_true rfl, Nat.le_of_ble_eq_true rfl⟩ rfl rfl (Nat.le_of_ble_eq_true rfl) (by decide +kernel) ?_
      change V E g tb ρ 8 70 [(0, .ref (ρ l0)), (1, .int l1), (2, .int l2), (3, .int l3), (4, .int l4), (5, .int l5), (6, .int l6)] [] r3
      refine v_aload_n (pc := 70) (k := 0) X (by decide +kernel) 0 rfl ?_
      refine v_geta (pc := 71) X fl_12_100 kl0 fk_12_56 (by decide +kernel) ?_
      refine v_bipush (pc := 74) (n := 6) X (by decide +kernel) bi_6 ?_
      refine v_iload_n (pc := 76) (k := 1) X (by decide +kernel) 1 rfl ?_
      refine v_iadd (pc := 77) X (by decide +kernel) ?_
      refine v_aload_n (pc := 78) (k := 0) X (by decide +kernel) 0 rfl ?_
      refine v_geta (pc := 79) X fl_12_106 kl0 fk_12_58 (by decide +kernel) ?_
      refine v_bipush (pc := 82) (n := 6) X (by decide +kernel) bi_6 ?_
      refine v_iload_n (pc := 84) (k := 1) X (by decide +kernel) 1 rfl ?_
      refine v_iadd (pc := 85) X (by decide +kernel) ?_
      obtain ⟨x4, ex4, hf⟩ := bnd_e hf
      refine v_zald (pc := 86) X (ly_12_58 ok kl0) ex4 (by decide +kernel) ?_
      refine v_if_eq (pc := 87) (off := 7) (tgt := 94) X (by decide +kernel) (by decide) (fun q6 => ?_) (fun q6 => ?_)
      · rw [if_pos q6] at hf
        refine v_aload_n (pc := 94) (k := 0) X (by decide +kernel) 0 rfl ?_
        refine v_geta (pc := 95) X fl_12_100 kl0 fk_12_56 (by decide +kernel) ?_
        refine v_bipush (pc := 98) (n := 6) X (by decide +kernel) bi_6 ?_
        refine v_iload_n (pc := 100) (k := 1) X (by decide +kernel) 1 rfl ?_
        refine v_iadd (pc := 101) X (by decide +kernel) ?_
        obtain ⟨x5, ex5, hf⟩ := bnd_e hf
        refine v_iald (pc := 102) X (ly_12_56 ok kl0) ex5 (by decide +kernel) ?_
        exact vjb_Md_sendIn_103 ok hi X Y ih r3 l0 l1 l2 l3 l4 l5 l6 (lay tb l0 56) ((6 : Int32) + l1) x5 kl0 (ly_12_56 ok kl0) hf
      · rw [if_neg q6] at hf
        refine v_iload_n (pc := 90) (k := 2) X (by decide +kernel) 2 rfl ?_
        refine v_goto (pc := 91) (off := 12) (tgt := 103) X (by decide +kernel) (by decide) ?_
        exact vjb_Md_sendIn_103 ok hi X Y ih r3 l0 l1 l2 l3 l4 l5 l6 (lay tb l0 56) ((6 : Int32) + l1) l2 kl0 (ly_12_56 ok kl0) hf
set_option maxRecDepth 4000 in
set_option maxHeartbeats 1000000 in
theorem mt_Md_sendIn {g : Gl} {tb : Tb} {ρ : Nat → Nat} (ok : TbOK tb) (hi : inj tb ρ) {h : Hp} {l0 : Nat} {l1 : Int32} {l2 : Int32} {l3 : Int32} (kl0 : kd tb l0 = 12) {r : Int32 × Hp} (hf : f_Md_sendIn tb h l0 l1 l2 l3 = some r) : MT g y_Md_sendIn prog_14_method_80_code 8 (some .int) 7 169 tb ρ [.ref (ρ l0), .int l1, .int l2, .int l3] h (some (.int r.1)) r.2 := by
  refine mt_intro (by decide +kernel) ok hi (Nat.le_of_ble_eq_true rfl) (fun E X Y => ?_)
  change V E g tb ρ 8 0 [(0, .ref (ρ l0)), (1, .int l1), (2, .int l2), (3, .int l3)] [] h
  unfold f_Md_sendIn at hf
  refine v_aload_n (pc := 0) (k := 0) X (by decide +kernel) 0 rfl ?_
  refine v_iconst (pc := 1) (n := 0) X (by decide +kernel) ic_0 ?_
  obtain ⟨h1, eh1, hf⟩ := nmd_e hf
  refine v_puti (pc := 2) X fp_12_160 kl0 rfl (by decide +kernel) eh1 ?_
  refine v_aload_n (pc := 5) (k := 0) X (by decide +kernel) 0 rfl ?_
  refine v_iload_n (pc := 6) (k := 1) X (by decide +kernel) 1 rfl ?_
  obtain ⟨r2, er2, hf⟩ := nmd_e hf
  refine v_callV (pc := 7) (As := [.int l1]) (rest := []) X (mt_Md_isHorse ok hi kl0 er2.symm) ml_12_459 mv_Md_isHorse kl0 cls_12 rfl ⟨Nat.le_of_ble_eq_true rfl, Nat.le_of_ble_eq_true rfl⟩ rfl rfl (Nat.le_of_ble_eq_true rfl) (by decide +kernel) ?_
  change V E g tb ρ 8 10 [(0, .ref (ρ l0)), (1, .int l1), (2, .int l2), (3, .int l3)] [.int r2] h1
  refine v_if_eq (pc := 10) (off := 20) (tgt := 30) X (by decide +kernel) (by decide) (fun q9 => ?_) (fun q9 => ?_)
  · rw [if_pos q9] at hf
    refine v_iconst (pc := 30) (n := -1) X (by decide +kernel) ic_m1 ?_
    cases hf
    exact v_iret X Y (by decide +kernel) rfl rfl
  · rw [if_neg q9] at hf
    refine v_aload_n (pc := 13) (k := 0) X (by decide +kernel) 0 rfl ?_
    refine v_iload_n (pc := 14) (k := 2) X (by decide +kernel) 2 rfl ?_
    obtain ⟨r3, er3, hf⟩ := nmd_e hf
    refine v_callV (pc := 15) (As := [.int l2]) (rest := []) X (mt_Md_isTrough ok hi kl0 er3.symm) ml_12_465 mv_Md_isTrough kl0 cls_12 rfl ⟨Nat.le_of_ble_eq_true rfl, Nat.le_of_ble_eq_true rfl⟩ rfl rfl (Nat.le_of_ble_eq_true rfl) (by decide +kernel) ?_
    change V E g tb ρ 8 18 [(0, .ref (ρ l0)), (1, .int l1), (2, .int l2), (3, .int l3)] [.int r3] h1
    refine v_if_eq (pc := 18) (off := 12) (tgt := 30) X (by decide +kernel) (by decide) (fun q8 => ?_) (fun q8 => ?_)
    · rw [if_pos q8] at hf
      refine v_iconst (pc := 30) (n := -1) X (by decide +kernel) ic_m1 ?_
      cases hf
      exact v_iret X Y (by decide +kernel) rfl rfl
    · rw [if_neg q8] at hf
      refine v_iload_n (pc := 21) (k := 3) X (by decide +kernel) 3 rfl ?_
      refine v_iconst (pc := 22) (n := 0) X (by decide +kernel) ic_0 ?_
      refine v_iconst (pc := 23) (n := 1) X (by decide +kernel) ic_1 ?_
      obtain ⟨r4, er4, hf⟩ := nmd_e hf
      refine v_callS (pc := 24) (As := [.int l3, .int (0 : Int32), .int (1 : Int32)]) (rest := []) X (mt_Md_isIn ok hi er4.symm) ml_12_205 ms_Md_isIn ⟨Nat.le_of_ble_eq_true rfl, Nat.le_of_ble_eq_true rfl⟩ rfl rfl (Nat.le_of_ble_eq_true rfl) (by decide +kernel) ?_
      change V E g tb ρ 8 27 [(0, .ref (ρ l0)), (1, .int l1), (2, .int l2), (3, .int l3)] [.int r4] h1
      refine v_if_ne (pc := 27) (off := 5) (tgt := 32) X (by decide +kernel) (by decide) (fun q7 => ?_) (fun q7 => ?_)
      · rw [if_neg q7] at hf
        refine v_aload_n (pc := 32) (k := 0) X (by decide +kernel) 0 rfl ?_
        refine v_geta (pc := 33) X fl_12_106 kl0 fk_12_58 (by decide +kernel) ?_
        refine v_iload_n (pc := 36) (k := 1) X (by decide +kernel) 1 rfl ?_
        obtain ⟨x5, ex5, hf⟩ := bnd_e hf
        refine v_zald (pc := 37) X (ly_12_58 ok kl0) ex5 (by decide +kernel) ?_
        refine v_if_ne (pc := 38) (off := 6) (tgt := 44) X (by decide +kernel) (by decide) (fun q6 => ?_) (fun q6 => ?_)
        · rw [if_neg q6] at hf
          refine v_iconst (pc := 44) (n := -1) X (by decide +kernel) ic_m1 ?_
          refine v_istore (pc := 45) (k := 4) (lv' := [(4, .int (-1 : Int32)), (0, .ref (ρ l0)), (1, .int l1), (2, .int l2), (3, .int l3)]) X (by decide +kernel) (Nat.le_of_ble_eq_true rfl) rfl ?_
          refine v_iconst (pc := 47) (n := 0) X (by decide +kernel) ic_0 ?_
          refine v_istore (pc := 48) (k := 5) (lv' := [(5, .int (0 : Int32)), (4, .int (-1 : Int32)), (0, .ref (ρ l0)), (1, .int l1), (2, .int l2), (3, .int l3)]) X (by decide +kernel) (Nat.le_of_ble_eq_true rfl) rfl ?_
          refine v_iconst (pc := 50) (n := 0) X (by decide +kernel) ic_0 ?_
          refine v_istore (pc := 51) (k := 6) (lv' := [(6, .int (0 : Int32)), (5, .int (0 : Int32)), (4, .int (-1 : Int32)), (0, .ref (ρ l0)), (1, .int l1), (2, .int l2), (3, .int l3)]) X (by decide +kernel) (Nat.le_of_ble_eq_true rfl) rfl ?_
          refine v_sub [3, 4, 5, 6, 2, 1, 0] rfl ?_
          exact vlp_Md_sendIn_53 ok hi X Y fu h1 l0 l1 l2 l3 (-1 : Int32) (0 : Int32) (0 : Int32) kl0 hf
        · rw [if_pos q6] at hf
          refine v_bipush (pc := 41) (n := -2) X (by decide +kernel) bi_m2 ?_
          cases hf
          exact v_iret X Y (by decide +kernel) rfl rfl
      · rw [if_pos q7] at hf
        refine v_iconst (pc := 30) (n := -1) X (by decide +kernel) ic_m1 ?_
        cases hf
        exact v_iret X Y (by decide +kernel) rfl rfl
def lp_Md_manyOf_4 (tb : Tb) : Nat → Hp → Int32 → Int32 → Int32 → Option (Int32)
  | 0, _, _, _, _ => none
  | n + 1, h, l0, l1, l2 =>
    if (6 : Int32) ≤ l2 then (
      some l1
    ) else (
      nmd (l1 + ((l0 >>> (l2 &&& 31)) &&& (1 : Int32))) fun x1 =>
      nmd (l2 + (1 : Int32)) fun x2 =>
      lp_Md_manyOf_4 tb n h l0 x1 x2
    )
def f_Md_manyOf (tb : Tb) (h : Hp) (l0 : Int32) : Option (Int32) :=
  lp_Md_manyOf_4 tb fu h l0 (0 : Int32) (0 : Int32)
set_option maxRecDepth 4000 in
set_option maxHeartbeats 1000000 in
theorem vlp_Md_manyOf_4 {E : En} {g : Gl} {tb : Tb} {ρ : Nat → Nat} (ok : TbOK tb) (hi : inj tb ρ) {r : Int32} (X : CX E g tb ρ prog_14_method_81_code 3 RC12 0 0) {h : Hp} (Y : CQ E g tb ρ (some .int) (some (.int r)) h) : ∀ (n : Nat) (l0 : Int32) (l1 : Int32) (l2 : Int32), lp_Md_manyOf_4 tb n h l0 l1 l2 = some r → V E g tb ρ 3 4 [(0, .int l0), (1, .int l1), (2, .int l2)] [] h := by
  intro n
  induction n with
  | zero =>
    intro l0 l1 l2 hf
    rw [lp_Md_manyOf_4] at hf
    cases hf
  | succ n ih =>
    intro l0 l1 l2 hf
    rw [lp_Md_manyOf_4] at hf
    refine v_iload_n (pc := 4) (k := 2) X (by decide +kernel) 2 rfl ?_
    refine v_bipush (pc := 5) (n := 6) X (by decide +kernel) bi_6 ?_
    refine v_icmp_ge (pc := 7) (off := 17) (tgt := 24) X (by decide +kernel) (by decide) (fun q3 => ?_) (fun q3 => ?_)
    · rw [if_pos q3] at hf
      refine v_iload_n (pc := 24) (k := 1) X (by decide +kernel) 1 rfl ?_
      cases hf
      exact v_iret X Y (by decide +kernel) rfl rfl
    · rw [if_neg q3] at hf
      refine v_iload_n (pc := 10) (k := 1) X (by decide +kernel) 1 rfl ?_
      refine v_iload_n (pc := 11) (k := 0) X (by decide +kernel) 0 rfl ?_
      refine v_iload_n (pc := 12) (k := 2) X (by decide +kernel) 2 rfl ?_
      refine v_ishr (pc := 13) X (by decide +kernel) ?_
      refine v_iconst (pc := 14) (n := 1) X (by decide +kernel) ic_1 ?_
      refine v_iand (pc := 15) X (by decide +kernel) ?_
      refine v_iadd (pc := 16) X (by decide +kernel) ?_
      obtain ⟨x1, ex1, hf⟩ := nmd_e hf
      refine v_nmi ex1 ?_
      refine v_istore_n (pc := 17) (k := 1) (lv' := [(1, .int x1), (0, .int l0), (2, .int l2)]) X (by decide +kernel) (Nat.le_of_ble_eq_true rfl) rfl ?_
      obtain ⟨x2, ex2, hf⟩ := nmd_e hf
      refine v_iinc (pc := 18) (k := 2) (n := 1) (v := x2) (lv' := [(2, .int x2), (1, .int x1), (0, .int l0)]) X (by decide +kernel) 2 rfl (by rw [ic_1, ex2]) (Nat.le_of_ble_eq_true rfl) rfl ?_
      refine v_goto (pc := 21) (off := -17) (tgt := 4) X (by decide +kernel) (by decide) ?_
      refine v_sub [2, 1, 0] rfl ?_
      exact ih l0 x1 x2 hf
set_option maxRecDepth 4000 in
set_option maxHeartbeats 1000000 in
theorem mt_Md_manyOf {g : Gl} {tb : Tb} {ρ : Nat → Nat} (ok : TbOK tb) (hi : inj tb ρ) {h : Hp} {l0 : Int32}  {r : Int32} (hf : f_Md_manyOf tb h l0 = some r) : MT g y_Md_manyOf prog_14_method_81_code 3 (some .int) 0 0 tb ρ [.int l0] h (some (.int r)) h := by
  refine mt_intro (by decide +kernel) ok hi (Nat.le_of_ble_eq_true rfl) (fun E X Y => ?_)
  change V E g tb ρ 3 0 [(0, .int l0)] [] h
  unfold f_Md_manyOf at hf
  refine v_iconst (pc := 0) (n := 0) X (by decide +kernel) ic_0 ?_
  refine v_istore_n (pc := 1) (k := 1) (lv' := [(1, .int (0 : Int32)), (0, .int l0)]) X (by decide +kernel) (Nat.le_of_ble_eq_true rfl) rfl ?_
  refine v_iconst (pc := 2) (n := 0) X (by decide +kernel) ic_0 ?_
  refine v_istore_n (pc := 3) (k := 2) (lv' := [(2, .int (0 : Int32)), (1, .int (0 : Int32)), (0, .int l0)]) X (by decide +kernel) (Nat.le_of_ble_eq_true rfl) rfl ?_
  refine v_sub [2, 1, 0] rfl ?_
  exact vlp_Md_manyOf_4 ok hi X Y fu l0 (0 : Int32) (0 : Int32) hf
def jb_Md_pump_123 (tb : Tb) (c22 : Hp → Nat → Int32 → Int32 → Int32 → Option (Int32 × Hp)) (h : Hp) (l0 : Nat) (l1 : Int32) (l2 : Int32) (l3 : Int32) : Option (Int32 × Hp) :=
  nmd (l3 + (1 : Int32)) fun x1 =>
  c22 h l0 l1 l2 x1
def jb_Md_pump_96 (tb : Tb) (c22 : Hp → Nat → Int32 → Int32 → Int32 → Option (Int32 × Hp)) (c57 : Hp → Nat → Int32 → Int32 → Int32 → Int32 → Option (Int32 × Hp)) (h : Hp) (l0 : Nat) (l1 : Int32) (l2 : Int32) (l3 : Int32) (l4 : Int32) (s0 : Nat) (s1 : Int32) (s2 : Int32) : Option (Int32 × Hp) :=
  (wI tb h s0 s1 s2).bind fun h1 =>
  nmd (l4 + (1 : Int32)) fun x2 =>
  c57 h1 l0 l1 l2 l3 x2
def lp_Md_pump_57 (tb : Tb) (c22 : Hp → Nat → Int32 → Int32 → Int32 → Option (Int32 × Hp)) : Nat → Hp → Nat → Int32 → Int32 → Int32 → Int32 → Option (Int32 × Hp)
  | 0, _, _, _, _, _, _ => none
  | n + 1, h, l0, l1, l2, l3, l4 =>
    if (h.1 l0 12) ≤ l4 then (
      (f_Md_goMany tb h l0 l1).bind fun r1 =>
      (f_Md_onMany tb r1 l0 (1 : Int32)).bind fun r2 =>
      (f_Md_onMany tb r1 l0 (0 : Int32)).bind fun r3 =>
      if r2 = r3 then (
        jb_Md_pump_123 tb c22 r1 l0 l1 l3 l3
      ) else (
        jb_Md_pump_123 tb c22 r1 l0 l1 l2 l3
      )
    ) else (
      nmd (f_Md_isOf tb h l3 l4) fun r5 =>
      if r5 = (0 : Int32) then (
        (rI tb h (lay tb l0 60) l4).bind fun x6 =>
        jb_Md_pump_96 tb c22 (lp_Md_pump_57 tb c22 n) h l0 l1 l2 l3 l4 (lay tb l0 60) ((6 : Int32) + l4) x6
      ) else (
        jb_Md_pump_96 tb c22 (lp_Md_pump_57 tb c22 n) h l0 l1 l2 l3 l4 (lay tb l0 60) ((6 : Int32) + l4) (99 : Int32)
      )
    )
def jb_Md_pump_50 (tb : Tb) (c22 : Hp → Nat → Int32 → Int32 → Int32 → Option (Int32 × Hp)) (h : Hp) (l0 : Nat) (l1 : Int32) (l2 : Int32) (l3 : Int32) : Option (Int32 × Hp) :=
  (f_Md_layTried tb h l0).bind fun r1 =>
  lp_Md_pump_57 tb c22 fu r1 l0 l1 l2 l3 (0 : Int32)
def lp_Md_pump_22 (tb : Tb) : Nat → Hp → Nat → Int32 → Int32 → Int32 → Option (Int32 × Hp)
  | 0, _, _, _, _, _ => none
  | n + 1, h, l0, l1, l2, l3 =>
    if ((1 : Int32) <<< ((h.1 l0 12) &&& 31)) ≤ l3 then (
      some (l2, h)
    ) else (
      if l2 < (0 : Int32) then (
        jb_Md_pump_50 tb (lp_Md_pump_22 tb n) h l0 l1 l2 l3
      ) else (
        (f_Md_manyOf tb h l3).bind fun r1 =>
        (f_Md_manyOf tb h l2).bind fun r2 =>
        if r1 < r2 then (
          jb_Md_pump_50 tb (lp_Md_pump_22 tb n) h l0 l1 l2 l3
        ) else (
          jb_Md_pump_123 tb (lp_Md_pump_22 tb n) h l0 l1 l2 l3
        )
      )
    )
def f_Md_pump (tb : Tb) (h : Hp) (l0 : Nat) (l1 : Int32) : Option (Int32 × Hp) :=
  nmd (pI h l0 2 (0 : Int32)) fun h1 =>
  nmd (f_Md_isIn tb h1 l1 (1 : Int32) (60 : Int32)) fun r2 =>
  if r2 = (0 : Int32) then (
    some ((-1 : Int32), h1)
  ) else (
    lp_Md_pump_22 tb fu h1 l0 l1 (-2 : Int32) (0 : Int32)
  )
set_option maxRecDepth 4000 in
set_option maxHeartbeats 1000000 in
theorem vjb_Md_pump_123 {E : En} {g : Gl} {tb : Tb} {ρ : Nat → Nat} (ok : TbOK tb) (hi : inj tb ρ) {r : Int32 × Hp} (X : CX E g tb ρ prog_14_method_82_code 5 RC12 7 169) (Y : CQ E g tb ρ (some .int) (some (.int r.1)) r.2) {c22 : Hp → Nat → Int32 → Int32 → Int32 → Option (Int32 × Hp)} (H22 : ∀ (h : Hp) (l0 : Nat) (l1 : Int32) (l2 : Int32) (l3 : Int32) (kl0 : kd tb l0 = 12), c22 h l0 l1 l2 l3 = some r → V E g tb ρ 5 22 [(0, .ref (ρ l0)), (1, .int l1), (2, .int l2), (3, .int l3)] [] h) (h : Hp) (l0 : Nat) (l1 : Int32) (l2 : Int32) (l3 : Int32) (kl0 : kd tb l0 = 12) (hf : jb_Md_pump_123 tb c22 h l0 l1 l2 l3 = some r) : V E g tb ρ 5 123 [(0, .ref (ρ l0)), (1, .int l1), (2, .int l2), (3, .int l3)] [] h := by
  unfold jb_Md_pump_123 at hf
  obtain ⟨x1, ex1, hf⟩ := nmd_e hf
  refine v_iinc (pc := 123) (k := 3) (n := 1) (v := x1) (lv' := [(3, .int x1), (0, .ref (ρ l0)), (1, .int l1), (2, .int l2)]) X (by decide +kernel) 3 rfl (by rw [ic_1, ex1]) (Nat.le_of_ble_eq_true rfl) rfl ?_
  refine v_goto (pc := 126) (off := -104) (tgt := 22) X (by decide +kernel) (by decide) ?_
  refine v_sub [1, 2, 3, 0] rfl ?_
  exact H22 h l0 l1 l2 x1 kl0 hf
set_option maxRecDepth 4000 in
set_option maxHeartbeats 1000000 in
theorem vjb_Md_pump_96 {E : En} {g : Gl} {tb : Tb} {ρ : Nat → Nat} (ok : TbOK tb) (hi : inj tb ρ) {r : Int32 × Hp} (X : CX E g tb ρ prog_14_method_82_code 5 RC12 7 169) (Y : CQ E g tb ρ (some .int) (some (.int r.1)) r.2) {c22 : Hp → Nat → Int32 → Int32 → Int32 → Option (Int32 × Hp)} (H22 : ∀ (h : Hp) (l0 : Nat) (l1 : Int32) (l2 : Int32) (l3 : Int32) (kl0 : kd tb l0 = 12), c22 h l0 l1 l2 l3 = some r → V E g tb ρ 5 22 [(0, .ref (ρ l0)), (1, .int l1), (2, .int l2), (3, .int l3)] [] h) {c57 : Hp → Nat → Int32 → Int32 → Int32 → Int32 → Option (Int32 × Hp)} (H57 : ∀ (h : Hp) (l0 : Nat) (l1 : Int32) (l2 : Int32) (l3 : Int32) (l4 : Int32) (kl0 : kd tb l0 = 12), c57 h l0 l1 l2 l3 l4 = some r → V E g tb ρ 5 57 [(0, .ref (ρ l0)), (1, .int l1), (2, .int l2), (3, .int l3), (4, .int l4)] [] h) (h : Hp) (l0 : Nat) (l1 : Int32) (l2 : Int32) (l3 : Int32) (l4 : Int32) (s0 : Nat) (s1 : Int32) (s2 : Int32) (kl0 : kd tb l0 = 12) (ks0 : kd tb s0 = 20) (hf : jb_Md_pump_96 tb c22 c57 h l0 l1 l2 l3 l4 s0 s1 s2 = some r) : V E g tb ρ 5 96 [(0, .ref (ρ l0)), (1, .int l1), (2, .int l2), (3, .int l3), (4, .int l4)] [.int s2, .int s1, .ref (ρ s0)] h := by
  unfold jb_Md_pump_96 at hf
  obtain ⟨h1, eh1, hf⟩ := bnd_e hf
  refine v_iast (pc := 96) X ks0 eh1 (by decide +kernel) ?_
  obtain ⟨x2, ex2, hf⟩ := nmd_e hf
  refine v_iinc (pc := 97) (k := 4) (n := 1) (v := x2) (lv' := [(4, .int x2), (0, .ref (ρ l0)), (1, .int l1), (2, .int l2), (3, .int l3)]) X (by decide +kernel) 4 rfl (by rw [ic_1, ex2]) (Nat.le_of_ble_eq_true rfl) rfl ?_
  refine v_goto (pc := 100) (off := -43) (tgt := 57) X (by decide +kernel) (by decide) ?_
  refine v_sub [1, 2, 3, 4, 0] rfl ?_
  exact H57 h1 l0 l1 l2 l3 x2 kl0 hf
set_option maxRecDepth 4000 in
set_option maxHeartbeats 1000000 in
theorem vlp_Md_pump_57 {E : En} {g : Gl} {tb : Tb} {ρ : Nat → Nat} (ok : TbOK tb) (hi : inj tb ρ) {r : Int32 × Hp} (X : CX E g tb ρ prog_14_method_82_code 5 RC12 7 169) (Y : CQ E g tb ρ (some .int) (some (.int r.1)) r.2) {c22 : Hp → Nat → Int32 → Int32 → Int32 → Option (Int32 × Hp)} (H22 : ∀ (h : Hp) (l0 : Nat) (l1 : Int32) (l2 : Int32) (l3 : Int32) (kl0 : kd tb l0 = 12), c22 h l0 l1 l2 l3 = some r → V E g tb ρ 5 22 [(0, .ref (ρ l0)), (1, .int l1), (2, .int l2), (3, .int l3)] [] h) : ∀ (n : Nat) (h : Hp) (l0 : Nat) (l1 : Int32) (l2 : Int32) (l3 : Int32) (l4 : Int32) (kl0 : kd tb l0 = 12), lp_Md_pump_57 tb c22 n h l0 l1 l2 l3 l4 = some r → V E g tb ρ 5 57 [(0, .ref (ρ l0)), (1, .int l1), (2, .int l2), (3, .int l3), (4, .int l4)] [] h := by
  intro n
  induction n with
  | zero =>
    intro h l0 l1 l2 l3 l4 kl0 hf
    rw [lp_Md_pump_57] at hf
    cases hf
  | succ n ih =>
    intro h l0 l1 l2 l3 l4 kl0 hf
    rw [lp_Md_pump_57] at hf
    refine v_iload (pc := 57) (k := 4) X (by decide +kernel) 4 rfl ?_
    refine v_aload_n (pc := 59) (k := 0) X (by decide +kernel) 0 rfl ?_
    refine v_geti (pc := 60) X fl_12_243 kl0 rfl (by decide +kernel) ?_
    refine v_icmp_ge (pc := 63) (off := 40) (tgt := 103) X (by decide +kernel) (by decide) (fun q8 => ?_) (fun q8 => ?_)
    · rw [if_pos q8] at hf
      refine v_aload_n (pc := 103) (k := 0) X (by decide +kernel) 0 rfl ?_
      refine v_iload_n (pc := 104) (k := 1) X (by decide +kernel) 1 rfl ?_
      obtain ⟨r1, er1, hf⟩ := bnd_e hf
      refine v_callV (pc := 105) (As := [.int l1]) (rest := []) X (mt_Md_goMany ok hi kl0 er1) ml_12_476 mv_Md_goMany kl0 cls_12 rfl ⟨Nat.le_of_ble_eq_true rfl, Nat.le_of_ble_eq_true rfl⟩ rfl rfl (Nat.le_of_ble_eq_true rfl) (by decide +kernel) ?_
      change V E g tb ρ 5 108 [(0, .ref (ρ l0)), (1, .int l1), (2, .int l2), (3, .int l3), (4, .int l4)] [] r1
      refine v_aload_n (pc := 108) (k := 0) X (by decide +kernel) 0 rfl ?_
      refine v_iconst (pc := 109) (n := 1) X (by decide +kernel) ic_1 ?_
      obtain ⟨r2, er2, hf⟩ := bnd_e hf
      refine v_callV (pc := 110) (As := [.int (1 : Int32)]) (rest := []) X (mt_Md_onMany ok hi kl0 er2) ml_12_479 mv_Md_onMany kl0 cls_12 rfl ⟨Nat.le_of_ble_eq_true rfl, Nat.le_of_ble_eq_true rfl⟩ rfl rfl (Nat.le_of_ble_eq_true rfl) (by decide +kernel) ?_
      change V E g tb ρ 5 113 [(0, .ref (ρ l0)), (1, .int l1), (2, .int l2), (3, .int l3), (4, .int l4)] [.int r2] r1
      refine v_aload_n (pc := 113) (k := 0) X (by decide +kernel) 0 rfl ?_
      refine v_iconst (pc := 114) (n := 0) X (by decide +kernel) ic_0 ?_
      obtain ⟨r3, er3, hf⟩ := bnd_e hf
      refine v_callV (pc := 115) (As := [.int (0 : Int32)]) (rest := [.int r2]) X (mt_Md_onMany ok hi kl0 er3) ml_12_479 mv_Md_onMany kl0 cls_12 rfl ⟨Nat.le_of_ble_eq_true rfl, Nat.le_of_ble_eq_true rfl⟩ rfl rfl (Nat.le_of_ble_eq_true rfl) (by decide +kernel) ?_
      change V E g tb ρ 5 118 [(0, .ref (ρ l0)), (1, .int l1), (2, .int l2), (3, .int l3), (4, .int l4)] [.int r3, .int r2] r1
      refine v_icmp_ne (pc := 118) (off := 5) (tgt := 123) X (by decide +kernel) (by decide) (fun q4 => ?_) (fun q4 => ?_)
      · rw [if_neg q4] at hf
        refine v_sub [0, 1, 2, 3] rfl ?_
        exact vjb_Md_pump_123 ok hi X Y H22 r1 l0 l1 l2 l3 kl0 hf
      · rw [if_pos q4] at hf
        refine v_iload_n (pc := 121) (k := 3) X (by decide +kernel) 3 rfl ?_
        refine v_istore_n (pc := 122) (k := 2) (lv' := [(2, .int l3), (0, .ref (ρ l0)), (1, .int l1), (3, .int l3), (4, .int l4)]) X (by decide +kernel) (Nat.le_of_ble_eq_true rfl) rfl ?_
        refine v_sub [1, 2, 0, 3] rfl ?_
        exact vjb_Md_pump_123 ok hi X Y H22 r1 l0 l1 l3 l3 kl0 hf
    · rw [if_neg q8] at hf
      refine v_aload_n (pc := 66) (k := 0) X (by decide +kernel) 0 rfl ?_
      refine v_geta (pc := 67) X fl_12_112 kl0 fk_12_60 (by decide +kernel) ?_
      refine v_bipush (pc := 70) (n := 6) X (by decide +kernel) bi_6 ?_
      refine v_iload (pc := 72) (k := 4) X (by decide +kernel) 4 rfl ?_
      refine v_iadd (pc := 74) X (by decide +kernel) ?_
      refine v_iload_n (pc := 75) (k := 3) X (by decide +kernel) 3 rfl ?_
      refine v_iload (pc := 76) (k := 4) X (by decide +kernel) 4 rfl ?_
      obtain ⟨r5, er5, hf⟩ := nmd_e hf
      refine v_callS (pc := 78) (As := [.int l3, .int l4]) (rest := [.int ((6 : Int32) + l4), .ref (ρ (lay tb l0 60))]) X (mt_Md_isOf ok hi er5.symm) ml_12_488 ms_Md_isOf ⟨Nat.le_of_ble_eq_true rfl, Nat.le_of_ble_eq_true rfl⟩ rfl rfl (Nat.le_of_ble_eq_true rfl) (by decide +kernel) ?_
      change V E g tb ρ 5 81 [(0, .ref (ρ l0)), (1, .int l1), (2, .int l2), (3, .int l3), (4, .int l4)] [.int r5, .int ((6 : Int32) + l4), .ref (ρ (lay tb l0 60))] h
      refine v_if_eq (pc := 81) (off := 8) (tgt := 89) X (by decide +kernel) (by decide) (fun q7 => ?_) (fun q7 => ?_)
      · rw [if_pos q7] at hf
        refine v_aload_n (pc := 89) (k := 0) X (by decide +kernel) 0 rfl ?_
        refine v_geta (pc := 90) X fl_12_112 kl0 fk_12_60 (by decide +kernel) ?_
        refine v_iload (pc := 93) (k := 4) X (by decide +kernel) 4 rfl ?_
        obtain ⟨x6, ex6, hf⟩ := bnd_e hf
        refine v_iald (pc := 95) X (ly_12_60 ok kl0) ex6 (by decide +kernel) ?_
        exact vjb_Md_pump_96 ok hi X Y H22 ih h l0 l1 l2 l3 l4 (lay tb l0 60) ((6 : Int32) + l4) x6 kl0 (ly_12_60 ok kl0) hf
      · rw [if_neg q7] at hf
        refine v_bipush (pc := 84) (n := 99) X (by decide +kernel) bi_99 ?_
        refine v_goto (pc := 86) (off := 10) (tgt := 96) X (by decide +kernel) (by decide) ?_
        exact vjb_Md_pump_96 ok hi X Y H22 ih h l0 l1 l2 l3 l4 (lay tb l0 60) ((6 : Int32) + l4) (99 : Int32) kl0 (ly_12_60 ok kl0) hf
set_option maxRecDepth 4000 in
set_option maxHeartbeats 1000000 in
theorem vjb_Md_pump_50 {E : En} {g : Gl} {tb : Tb} {ρ : Nat → Nat} (ok : TbOK tb) (hi : inj tb ρ) {r : Int32 × Hp} (X : CX E g tb ρ prog_14_method_82_code 5 RC12 7 169) (Y : CQ E g tb ρ (some .int) (some (.int r.1)) r.2) {c22 : Hp → Nat → Int32 → Int32 → Int32 → Option (Int32 × Hp)} (H22 : ∀ (h : Hp) (l0 : Nat) (l1 : Int32) (l2 : Int32) (l3 : Int32) (kl0 : kd tb l0 = 12), c22 h l0 l1 l2 l3 = some r → V E g tb ρ 5 22 [(0, .ref (ρ l0)), (1, .int l1), (2, .int l2), (3, .int l3)] [] h) (h : Hp) (l0 : Nat) (l1 : Int32) (l2 : Int32) (l3 : Int32) (kl0 : kd tb l0 = 12) (hf : jb_Md_pump_50 tb c22 h l0 l1 l2 l3 = some r) : V E g tb ρ 5 50 [(0, .ref (ρ l0)), (1, .int l1), (2, .int l2), (3, .int l3)] [] h := by
  unfold jb_Md_pump_50 at hf
  refine v_aload_n (pc := 50) (k := 0) X (by decide +kernel) 0 rfl ?_
  obtain ⟨r1, er1, hf⟩ := bnd_e hf
  refine v_callV (pc := 51) (As := []) (rest := []) X (mt_Md_layTried ok hi kl0 er1) ml_12_473 mv_Md_layTried kl0 cls_12 rfl ⟨Nat.le_of_ble_eq_true rfl, Nat.le_of_ble_eq_true rfl⟩ rfl rfl (Nat.le_of_ble_eq_true rfl) (by decide +kernel) ?_
  change V E g tb ρ 5 54 [(0, .ref (ρ l0)), (1, .int l1), (2, .int l2), (3, .int l3)] [] r1
  refine v_iconst (pc := 54) (n := 0) X (by decide +kernel) ic_0 ?_
  refine v_istore (pc := 55) (k := 4) (lv' := [(4, .int (0 : Int32)), (0, .ref (ρ l0)), (1, .int l1), (2, .int l2), (3, .int l3)]) X (by decide +kernel) (Nat.le_of_ble_eq_true rfl) rfl ?_
  refine v_sub [1, 2, 3, 4, 0] rfl ?_
  exact vlp_Md_pump_57 ok hi X Y H22 fu r1 l0 l1 l2 l3 (0 : Int32) kl0 hf
set_option maxRecDepth 4000 in
set_option maxHeartbeats 1000000 in
theorem vlp_Md_pump_22 {E : En} {g : Gl} {tb : Tb} {ρ : Nat → Nat} (ok : TbOK tb) (hi : inj tb ρ) {r : Int32 × Hp} (X : CX E g tb ρ prog_14_method_82_code 5 RC12 7 169) (Y : CQ E g tb ρ (some .int) (some (.int r.1)) r.2) : ∀ (n : Nat) (h : Hp) (l0 : Nat) (l1 : Int32) (l2 : Int32) (l3 : Int32) (kl0 : kd tb l0 = 12), lp_Md_pump_22 tb n h l0 l1 l2 l3 = some r → V E g tb ρ 5 22 [(0, .ref (ρ l0)), (1, .int l1), (2, .int l2), (3, .int l3)] [] h := by
  intro n
  induction n with
  | zero =>
    intro h l0 l1 l2 l3 kl0 hf
    rw [lp_Md_pump_22] at hf
    cases hf
  | succ n ih =>
    intro h l0 l1 l2 l3 kl0 hf
    rw [lp_Md_pump_22] at hf
    refine v_iload_n (pc := 22) (k := 3) X (by decide +kernel) 3 rfl ?_
    refine v_iconst (pc := 23) (n := 1) X (by decide +kernel) ic_1 ?_
    refine v_aload_n (pc := 24) (k := 0) X (by decide +kernel) 0 rfl ?_
    refine v_geti (pc := 25) X fl_12_243 kl0 rfl (by decide +kernel) ?_
    refine v_ishl (pc := 28) X (by decide +kernel) ?_
    refine v_icmp_ge (pc := 29) (off := 100) (tgt := 129) X (by decide +kernel) (by decide) (fun q5 => ?_) (fun q5 => ?_)
    · rw [if_pos q5] at hf
      refine v_iload_n (pc := 129) (k := 2) X (by decide +kernel) 2 rfl ?_
      cases hf
      exact v_iret X Y (by decide +kernel) rfl rfl
    · rw [if_neg q5] at hf
      refine v_iload_n (pc := 32) (k := 2) X (by decide +kernel) 2 rfl ?_
      refine v_if_lt (pc := 33) (off := 17) (tgt := 50) X (by decide +kernel) (by decide) (fun q4 => ?_) (fun q4 => ?_)
      · rw [if_pos q4] at hf
        exact vjb_Md_pump_50 ok hi X Y ih h l0 l1 l2 l3 kl0 hf
      · rw [if_neg q4] at hf
        refine v_iload_n (pc := 36) (k := 3) X (by decide +kernel) 3 rfl ?_
        obtain ⟨r1, er1, hf⟩ := bnd_e hf
        refine v_callS (pc := 37) (As := [.int l3]) (rest := []) X (mt_Md_manyOf ok hi er1) ml_12_485 ms_Md_manyOf ⟨Nat.le_of_ble_eq_true rfl, Nat.le_of_ble_eq_true rfl⟩ rfl rfl (Nat.le_of_ble_eq_true rfl) (by decide +kernel) ?_
        change V E g tb ρ 5 40 [(0, .ref (ρ l0)), (1, .int l1), (2, .int l2), (3, .int l3)] [.int r1] h
        refine v_iload_n (pc := 40) (k := 2) X (by decide +kernel) 2 rfl ?_
        obtain ⟨r2, er2, hf⟩ := bnd_e hf
        refine v_callS (pc := 41) (As := [.int l2]) (rest := [.int r1]) X (mt_Md_manyOf ok hi er2) ml_12_485 ms_Md_manyOf ⟨Nat.le_of_ble_eq_true rfl, Nat.le_of_ble_eq_true rfl⟩ rfl rfl (Nat.le_of_ble_eq_true rfl) (by decide +kernel) ?_
        change V E g tb ρ 5 44 [(0, .ref (ρ l0)), (1, .int l1), (2, .int l2), (3, .int l3)] [.int r2, .int r1] h
        refine v_icmp_lt (pc := 44) (off := 6) (tgt := 50) X (by decide +kernel) (by decide) (fun q3 => ?_) (fun q3 => ?_)
        · rw [if_pos q3] at hf
          exact vjb_Md_pump_50 ok hi X Y ih h l0 l1 l2 l3 kl0 hf
        · rw [if_neg q3] at hf
          refine v_goto (pc := 47) (off := 76) (tgt := 123) X (by decide +kernel) (by decide) ?_
          exact vjb_Md_pump_123 ok hi X Y ih h l0 l1 l2 l3 kl0 hf
set_option maxRecDepth 4000 in
set_option maxHeartbeats 1000000 in
theorem mt_Md_pump {g : Gl} {tb : Tb} {ρ : Nat → Nat} (ok : TbOK tb) (hi : inj tb ρ) {h : Hp} {l0 : Nat} {l1 : Int32} (kl0 : kd tb l0 = 12) {r : Int32 × Hp} (hf : f_Md_pump tb h l0 l1 = some r) : MT g y_Md_pump prog_14_method_82_code 5 (some .int) 7 169 tb ρ [.ref (ρ l0), .int l1] h (some (.int r.1)) r.2 := by
  refine mt_intro (by decide +kernel) ok hi (Nat.le_of_ble_eq_true rfl) (fun E X Y => ?_)
  change V E g tb ρ 5 0 [(0, .ref (ρ l0)), (1, .int l1)] [] h
  unfold f_Md_pump at hf
  refine v_aload_n (pc := 0) (k := 0) X (by decide +kernel) 0 rfl ?_
  refine v_iconst (pc := 1) (n := 0) X (by decide +kernel) ic_0 ?_
  obtain ⟨h1, eh1, hf⟩ := nmd_e hf
  refine v_puti (pc := 2) X fp_12_160 kl0 rfl (by decide +kernel) eh1 ?_
  refine v_iload_n (pc := 5) (k := 1) X (by decide +kernel) 1 rfl ?_
  refine v_iconst (pc := 6) (n := 1) X (by decide +kernel) ic_1 ?_
  refine v_bipush (pc := 7) (n := 60) X (by decide +kernel) bi_60 ?_
  obtain ⟨r2, er2, hf⟩ := nmd_e hf
  refine v_callS (pc := 9) (As := [.int l1, .int (1 : Int32), .int (60 : Int32)]) (rest := []) X (mt_Md_isIn ok hi er2.symm) ml_12_205 ms_Md_isIn ⟨Nat.le_of_ble_eq_true rfl, Nat.le_of_ble_eq_true rfl⟩ rfl rfl (Nat.le_of_ble_eq_true rfl) (by decide +kernel) ?_
  change V E g tb ρ 5 12 [(0, .ref (ρ l0)), (1, .int l1)] [.int r2] h1
  refine v_if_ne (pc := 12) (off := 5) (tgt := 17) X (by decide +kernel) (by decide) (fun q3 => ?_) (fun q3 => ?_)
  · rw [if_neg q3] at hf
    refine v_bipush (pc := 17) (n := -2) X (by decide +kernel) bi_m2 ?_
    refine v_istore_n (pc := 19) (k := 2) (lv' := [(2, .int (-2 : Int32)), (0, .ref (ρ l0)), (1, .int l1)]) X (by decide +kernel) (Nat.le_of_ble_eq_true rfl) rfl ?_
    refine v_iconst (pc := 20) (n := 0) X (by decide +kernel) ic_0 ?_
    refine v_istore_n (pc := 21) (k := 3) (lv' := [(3, .int (0 : Int32)), (2, .int (-2 : Int32)), (0, .ref (ρ l0)), (1, .int l1)]) X (by decide +kernel) (Nat.le_of_ble_eq_true rfl) rfl ?_
    refine v_sub [2, 3, 1, 0] rfl ?_
    exact vlp_Md_pump_22 ok hi X Y fu h1 l0 l1 (-2 : Int32) (0 : Int32) kl0 hf
  · rw [if_pos q3] at hf
    refine v_iconst (pc := 15) (n := -1) X (by decide +kernel) ic_m1 ?_
    cases hf
    exact v_iret X Y (by decide +kernel) rfl rfl
def f_Md_legOf (tb : Tb) (h : Hp) (l0 : Nat) (l1 : Int32) (l2 : Int32) (l3 : Int32) : Option (Int32) :=
  nmd (f_Md_sizeOf tb h (l3 - l2)) fun r1 =>
  (rI tb h (lay tb l0 33) l1).bind fun x2 =>
  (rI tb h (lay tb l0 33) l1).bind fun x3 =>
  (dI ((r1 + x2) - (1 : Int32)) x3).bind fun x4 =>
  some x4
set_option maxRecDepth 4000 in
set_option maxHeartbeats 1000000 in
theorem mt_Md_legOf {g : Gl} {tb : Tb} {ρ : Nat → Nat} (ok : TbOK tb) (hi : inj tb ρ) {h : Hp} {l0 : Nat} {l1 : Int32} {l2 : Int32} {l3 : Int32} (kl0 : kd tb l0 = 12) {r : Int32} (hf : f_Md_legOf tb h l0 l1 l2 l3 = some r) : MT g y_Md_legOf prog_14_method_83_code 4 (some .int) 1 20 tb ρ [.ref (ρ l0), .int l1, .int l2, .int l3] h (some (.int r)) h := by
  refine mt_intro (by decide +kernel) ok hi (Nat.le_of_ble_eq_true rfl) (fun E X Y => ?_)
  change V E g tb ρ 4 0 [(0, .ref (ρ l0)), (1, .int l1), (2, .int l2), (3, .int l3)] [] h
  unfold f_Md_legOf at hf
  refine v_iload_n (pc := 0) (k := 3) X (by decide +kernel) 3 rfl ?_
  refine v_iload_n (pc := 1) (k := 2) X (by decide +kernel) 2 rfl ?_
  refine v_isub (pc := 2) X (by decide +kernel) ?_
  obtain ⟨r1, er1, hf⟩ := nmd_e hf
  refine v_callS (pc := 3) (As := [.int (l3 - l2)]) (rest := []) X (mt_Md_sizeOf ok hi er1.symm) ml_12_398 ms_Md_sizeOf ⟨Nat.le_of_ble_eq_true rfl, Nat.le_of_ble_eq_true rfl⟩ rfl rfl (Nat.le_of_ble_eq_true rfl) (by decide +kernel) ?_
  change V E g tb ρ 4 6 [(0, .ref (ρ l0)), (1, .int l1), (2, .int l2), (3, .int l3)] [.int r1] h
  refine v_aload_n (pc := 6) (k := 0) X (by decide +kernel) 0 rfl ?_
  refine v_geta (pc := 7) X fl_12_51 kl0 fk_12_33 (by decide +kernel) ?_
  refine v_iload_n (pc := 10) (k := 1) X (by decide +kernel) 1 rfl ?_
  obtain ⟨x2, ex2, hf⟩ := bnd_e hf
  refine v_iald (pc := 11) X (ly_12_33 ok kl0) ex2 (by decide +kernel) ?_
  refine v_iadd (pc := 12) X (by decide +kernel) ?_
  refine v_iconst (pc := 13) (n := 1) X (by decide +kernel) ic_1 ?_
  refine v_isub (pc := 14) X (by decide +kernel) ?_
  refine v_aload_n (pc := 15) (k := 0) X (by decide +kernel) 0 rfl ?_
  refine v_geta (pc := 16) X fl_12_51 kl0 fk_12_33 (by decide +kernel) ?_
  refine v_iload_n (pc := 19) (k := 1) X (by decide +kernel) 1 rfl ?_
  obtain ⟨x3, ex3, hf⟩ := bnd_e hf
  refine v_iald (pc := 20) X (ly_12_33 ok kl0) ex3 (by decide +kernel) ?_
  obtain ⟨x4, ex4, hf⟩ := bnd_e hf
  refine v_idiv (pc := 21) X ex4 (by decide +kernel) ?_
  cases hf
  exact v_iret X Y (by decide +kernel) rfl rfl
def jb_Md_stops_311 (tb : Tb) (c128 : Hp → Nat → Int32 → Int32 → Int32 → Option (Int32 × Hp)) (c183 : Hp → Nat → Int32 → Int32 → Int32 → Int32 → Option (Int32 × Hp)) (c195 : Hp → Nat → Int32 → Int32 → Int32 → Int32 → Int32 → Option (Int32 × Hp)) (h : Hp) (l0 : Nat) (l1 : Int32) (l2 : Int32) (l3 : Int32) (l4 : Int32) (l5 : Int32) : Option (Int32 × Hp) :=
  nmd (l5 + (1 : Int32)) fun x1 =>
  c195 h l0 l1 l2 l3 l4 x1
def jb_Md_stops_302 (tb : Tb) (c128 : Hp → Nat → Int32 → Int32 → Int32 → Option (Int32 × Hp)) (c183 : Hp → Nat → Int32 → Int32 → Int32 → Int32 → Option (Int32 × Hp)) (c195 : Hp → Nat → Int32 → Int32 → Int32 → Int32 → Int32 → Option (Int32 × Hp)) (h : Hp) (l0 : Nat) (l1 : Int32) (l2 : Int32) (l3 : Int32) (l4 : Int32) (l5 : Int32) (l6 : Int32) : Option (Int32 × Hp) :=
  (wI tb h (lay tb l0 73) l5 l6).bind fun h1 =>
  jb_Md_stops_311 tb c128 c183 c195 h1 l0 l1 l2 l3 l4 l5
def jb_Md_stops_278 (tb : Tb) (c128 : Hp → Nat → Int32 → Int32 → Int32 → Option (Int32 × Hp)) (c183 : Hp → Nat → Int32 → Int32 → Int32 → Int32 → Option (Int32 × Hp)) (c195 : Hp → Nat → Int32 → Int32 → Int32 → Int32 → Int32 → Option (Int32 × Hp)) (h : Hp) (l0 : Nat) (l1 : Int32) (l2 : Int32) (l3 : Int32) (l4 : Int32) (l5 : Int32) (s0 : Int32) : Option (Int32 × Hp) :=
  (rI tb h (lay tb l0 73) l5).bind fun x1 =>
  if x1 < (0 : Int32) then (
    jb_Md_stops_302 tb c128 c183 c195 h l0 l1 l2 l3 l4 l5 s0
  ) else (
    (rI tb h (lay tb l0 73) l5).bind fun x2 =>
    if x2 ≤ s0 then (
      jb_Md_stops_311 tb c128 c183 c195 h l0 l1 l2 l3 l4 l5
    ) else (
      jb_Md_stops_302 tb c128 c183 c195 h l0 l1 l2 l3 l4 l5 s0
    )
  )
def lp_Md_stops_195 (tb : Tb) (c128 : Hp → Nat → Int32 → Int32 → Int32 → Option (Int32 × Hp)) (c183 : Hp → Nat → Int32 → Int32 → Int32 → Int32 → Option (Int32 × Hp)) : Nat → Hp → Nat → Int32 → Int32 → Int32 → Int32 → Int32 → Option (Int32 × Hp)
  | 0, _, _, _, _, _, _, _ => none
  | n + 1, h, l0, l1, l2, l3, l4, l5 =>
    if (h.1 l0 12) ≤ l5 then (
      nmd (l4 + (1 : Int32)) fun x1 =>
      c183 h l0 l1 l2 l3 x1
    ) else (
      (rI tb h (lay tb l0 73) ((6 : Int32) + l4)).bind fun x2 =>
      if (0 : Int32) ≤ x2 then (
        (rI tb h (lay tb l0 73) ((6 : Int32) + l4)).bind fun x3 =>
        (rI tb h (lay tb l0 26) l4).bind fun x4 =>
        (rI tb h (lay tb l0 26) l5).bind fun x5 =>
        (f_Md_legOf tb h l0 l1 x4 x5).bind fun r6 =>
        nmd (x3 + r6) fun x7 =>
        if x7 < (100 : Int32) then (
          (rI tb h (lay tb l0 60) l5).bind fun x8 =>
          if x8 ≤ (0 : Int32) then (
            jb_Md_stops_278 tb c128 c183 (lp_Md_stops_195 tb c128 c183 n) h l0 l1 l2 l3 l4 l5 x7
          ) else (
            jb_Md_stops_278 tb c128 c183 (lp_Md_stops_195 tb c128 c183 n) h l0 l1 l2 l3 l4 l5 (0 : Int32)
          )
        ) else (
          jb_Md_stops_311 tb c128 c183 (lp_Md_stops_195 tb c128 c183 n) h l0 l1 l2 l3 l4 l5
        )
      ) else (
        jb_Md_stops_311 tb c128 c183 (lp_Md_stops_195 tb c128 c183 n) h l0 l1 l2 l3 l4 l5
      )
    )
def lp_Md_stops_183 (tb : Tb) (c128 : Hp → Nat → Int32 → Int32 → Int32 → Option (Int32 × Hp)) : Nat → Hp → Nat → Int32 → Int32 → Int32 → Int32 → Option (Int32 × Hp)
  | 0, _, _, _, _, _, _ => none
  | n + 1, h, l0, l1, l2, l3, l4 =>
    if (h.1 l0 12) ≤ l4 then (
      nmd (l3 + (1 : Int32)) fun x1 =>
      c128 h l0 l1 l2 x1
    ) else (
      lp_Md_stops_195 tb c128 (lp_Md_stops_183 tb c128 n) fu h l0 l1 l2 l3 l4 (0 : Int32)
    )
def lp_Md_stops_148 (tb : Tb) (c128 : Hp → Nat → Int32 → Int32 → Int32 → Option (Int32 × Hp)) : Nat → Hp → Nat → Int32 → Int32 → Int32 → Int32 → Option (Int32 × Hp)
  | 0, _, _, _, _, _, _ => none
  | n + 1, h, l0, l1, l2, l3, l4 =>
    if (h.1 l0 12) ≤ l4 then (
      lp_Md_stops_183 tb c128 fu h l0 l1 l2 l3 (0 : Int32)
    ) else (
      (rI tb h (lay tb l0 73) l4).bind fun x1 =>
      (wI tb h (lay tb l0 73) ((6 : Int32) + l4) x1).bind fun h2 =>
      nmd (l4 + (1 : Int32)) fun x3 =>
      lp_Md_stops_148 tb c128 n h2 l0 l1 l2 l3 x3
    )
def lp_Md_stops_128 (tb : Tb) : Nat → Hp → Nat → Int32 → Int32 → Int32 → Option (Int32 × Hp)
  | 0, _, _, _, _, _ => none
  | n + 1, h, l0, l1, l2, l3 =>
    if (14 : Int32) ≤ l3 then (
      some ((-2 : Int32), h)
    ) else (
      (rI tb h (lay tb l0 73) l2).bind fun x1 =>
      if x1 < (0 : Int32) then (
        lp_Md_stops_148 tb (lp_Md_stops_128 tb n) fu h l0 l1 l2 l3 (0 : Int32)
      ) else (
        some (l3, h)
      )
    )
def jb_Md_stops_119 (tb : Tb) (c54 : Hp → Nat → Int32 → Int32 → Int32 → Option (Int32 × Hp)) (h : Hp) (l0 : Nat) (l1 : Int32) (l2 : Int32) (l3 : Int32) (s0 : Nat) (s1 : Int32) (s2 : Int32) : Option (Int32 × Hp) :=
  (wI tb h s0 s1 s2).bind fun h1 =>
  nmd (l3 + (1 : Int32)) fun x2 =>
  c54 h1 l0 l1 l2 x2
def lp_Md_stops_54 (tb : Tb) : Nat → Hp → Nat → Int32 → Int32 → Int32 → Option (Int32 × Hp)
  | 0, _, _, _, _, _ => none
  | n + 1, h, l0, l1, l2, l3 =>
    if (h.1 l0 12) ≤ l3 then (
      lp_Md_stops_128 tb fu h l0 l1 l2 (1 : Int32)
    ) else (
      (rI tb h (lay tb l0 55) l1).bind fun x1 =>
      (rI tb h (lay tb l0 54) l1).bind fun x2 =>
      (rI tb h (lay tb l0 26) l3).bind fun x3 =>
      (f_Md_legOf tb h l0 l1 x2 x3).bind fun r4 =>
      nmd (x1 + r4) fun x5 =>
      if x5 < (100 : Int32) then (
        (rI tb h (lay tb l0 60) l3).bind fun x6 =>
        if x6 ≤ (0 : Int32) then (
          jb_Md_stops_119 tb (lp_Md_stops_54 tb n) h l0 l1 l2 l3 (lay tb l0 73) l3 x5
        ) else (
          jb_Md_stops_119 tb (lp_Md_stops_54 tb n) h l0 l1 l2 l3 (lay tb l0 73) l3 (0 : Int32)
        )
      ) else (
        jb_Md_stops_119 tb (lp_Md_stops_54 tb n) h l0 l1 l2 l3 (lay tb l0 73) l3 (-1 : Int32)
      )
    )
def f_Md_stops (tb : Tb) (h : Hp) (l0 : Nat) (l1 : Int32) (l2 : Int32) : Option (Int32 × Hp) :=
  nmd (pI h l0 2 (0 : Int32)) fun h1 =>
  nmd (f_Md_isHorse tb h1 l0 l1) fun r2 =>
  if r2 = (0 : Int32) then (
    some ((-1 : Int32), h1)
  ) else (
    nmd (f_Md_isTrough tb h1 l0 l2) fun r3 =>
    if r3 = (0 : Int32) then (
      some ((-1 : Int32), h1)
    ) else (
      (rI tb h1 (lay tb l0 58) l1).bind fun x4 =>
      if x4 = (0 : Int32) then (
        some ((-2 : Int32), h1)
      ) else (
        (rI tb h1 (lay tb l0 54) l1).bind fun x5 =>
        (rI tb h1 (lay tb l0 26) l2).bind fun x6 =>
        if x5 = x6 then (
          some ((0 : Int32), h1)
        ) else (
          lp_Md_stops_54 tb fu h1 l0 l1 l2 (0 : Int32)
        )
      )
    )
  )
set_option maxRecDepth 4000 in
set_option maxHeartbeats 1000000 in
theorem vjb_Md_stops_311 {E : En} {g : Gl} {tb : Tb} {ρ : Nat → Nat} (ok : TbOK tb) (hi : inj tb ρ) {r : Int32 × Hp} (X : CX E g tb ρ prog_14_method_84_code 7 RC12 2 43) (Y : CQ E g tb ρ (some .int) (some (.int r.1)) r.2) {c128 : Hp → Nat → Int32 → Int32 → Int32 → Option (Int32 × Hp)} (H128 : ∀ (h : Hp) (l0 : Nat) (l1 : Int32) (l2 : Int32) (l3 : Int32) (kl0 : kd tb l0 = 12), c128 h l0 l1 l2 l3 = some r → V E g tb ρ 7 128 [(0, .ref (ρ l0)), (1, .int l1), (2, .int l2), (3, .int l3)] [] h) {c183 : Hp → Nat → Int32 → Int32 → Int32 → Int32 → Option (Int32 × Hp)} (H183 : ∀ (h : Hp) (l0 : Nat) (l1 : Int32) (l2 : Int32) (l3 : Int32) (l4 : Int32) (kl0 : kd tb l0 = 12), c183 h l0 l1 l2 l3 l4 = some r → V E g tb ρ 7 183 [(0, .ref (ρ l0)), (1, .int l1), (2, .int l2), (3, .int l3), (4, .int l4)] [] h) {c195 : Hp → Nat → Int32 → Int32 → Int32 → Int32 → Int32 → Option (Int32 × Hp)} (H195 : ∀ (h : Hp) (l0 : Nat) (l1 : Int32) (l2 : Int32) (l3 : Int32) (l4 : Int32) (l5 : Int32) (kl0 : kd tb l0 = 12), c195 h l0 l1 l2 l3 l4 l5 = some r → V E g tb ρ 7 195 [(0, .ref (ρ l0)), (1, .int l1), (2, .int l2), (3, .int l3), (4, .int l4), (5, .int l5)] [] h) (h : Hp) (l0 : Nat) (l1 : Int32) (l2 : Int32) (l3 : Int32) (l4 : Int32) (l5 : Int32) (kl0 : kd tb l0 = 12) (hf : jb_Md_stops_311 tb c128 c183 c195 h l0 l1 l2 l3 l4 l5 = some r) : V E g tb ρ 7 311 [(0, .ref (ρ l0)), (1, .int l1), (2, .int l2), (3, .int l3), (4, .int l4), (5, .int l5)] [] h := by
  unfold jb_Md_stops_311 at hf
  obtain ⟨x1, ex1, hf⟩ := nmd_e hf
  refine v_iinc (pc := 311) (k := 5) (n := 1) (v := x1) (lv' := [(5, .int x1), (0, .ref (ρ l0)), (1, .int l1), (2, .int l2), (3, .int l3), (4, .int l4)]) X (by decide +kernel) 5 rfl (by rw [ic_1, ex1]) (Nat.le_of_ble_eq_true rfl) rfl ?_
  refine v_goto (pc := 314) (off := -119) (tgt := 195) X (by decide +kernel) (by decide) ?_
  refine v_sub [1, 2, 3, 4, 5, 0] rfl ?_
  exact H195 h l0 l1 l2 l3 l4 x1 kl0 hf
set_option maxRecDepth 4000 in
set_option maxHeartbeats 1000000 in
theorem vjb_Md_stops_302 {E : En} {g : Gl} {tb : Tb} {ρ : Nat → Nat} (ok : TbOK tb) (hi : inj tb ρ) {r : Int32 × Hp} (X : CX E g tb ρ prog_14_method_84_code 7 RC12 2 43) (Y : CQ E g tb ρ (some .int) (some (.int r.1)) r.2) {c128 : Hp → Nat → Int32 → Int32 → Int32 → Option (Int32 × Hp)} (H128 : ∀ (h : Hp) (l0 : Nat) (l1 : Int32) (l2 : Int32) (l3 : Int32) (kl0 : kd tb l0 = 12), c128 h l0 l1 l2 l3 = some r → V E g tb ρ 7 128 [(0, .ref (ρ l0)), (1, .int l1), (2, .int l2), (3, .int l3)] [] h) {c183 : Hp → Nat → Int32 → Int32 → Int32 → Int32 → Option (Int32 × Hp)} (H183 : ∀ (h : Hp) (l0 : Nat) (l1 : Int32) (l2 : Int32) (l3 : Int32) (l4 : Int32) (kl0 : kd tb l0 = 12), c183 h l0 l1 l2 l3 l4 = some r → V E g tb ρ 7 183 [(0, .ref (ρ l0)), (1, .int l1), (2, .int l2), (3, .int l3), (4, .int l4)] [] h) {c195 : Hp → Nat → Int32 → Int32 → Int32 → Int32 → Int32 → Option (Int32 × Hp)} (H195 : ∀ (h : Hp) (l0 : Nat) (l1 : Int32) (l2 : Int32) (l3 : Int32) (l4 : Int32) (l5 : Int32) (kl0 : kd tb l0 = 12), c195 h l0 l1 l2 l3 l4 l5 = some r → V E g tb ρ 7 195 [(0, .ref (ρ l0)), (1, .int l1), (2, .int l2), (3, .int l3), (4, .int l4), (5, .int l5)] [] h) (h : Hp) (l0 : Nat) (l1 : Int32) (l2 : Int32) (l3 : Int32) (l4 : Int32) (l5 : Int32) (l6 : Int32) (kl0 : kd tb l0 = 12) (hf : jb_Md_stops_302 tb c128 c183 c195 h l0 l1 l2 l3 l4 l5 l6 = some r) : V E g tb ρ 7 302 [(0, .ref (ρ l0)), (1, .int l1), (2, .int l2), (3, .int l3), (4, .int l4), (5, .int l5), (6, .int l6)] [] h := by
  unfold jb_Md_stops_302 at hf
  refine v_aload_n (pc := 302) (k := 0) X (by decide +kernel) 0 rfl ?_
  refine v_geta (pc := 303) X fl_12_133 kl0 fk_12_73 (by decide +kernel) ?_
  refine v_iload (pc := 306) (k := 5) X (by decide +kernel) 5 rfl ?_
  refine v_iload (pc := 308) (k := 6) X (by decide +kernel) 6 rfl ?_
  obtain ⟨h1, eh1, hf⟩ := bnd_e hf
  refine v_iast (pc := 310) X (ly_12_73 ok kl0) eh1 (by decide +kernel) ?_
  refine v_sub [0, 1, 2, 3, 4, 5] rfl ?_
  exact vjb_Md_stops_311 ok hi X Y H128 H183 H195 h1 l0 l1 l2 l3 l4 l5 kl0 hf
set_option maxRecDepth 4000 in
set_option maxHeartbeats 1000000 in
theorem vjb_Md_stops_278 {E : En} {g : Gl} {tb : Tb} {ρ : Nat → Nat} (ok : TbOK tb) (hi : inj tb ρ) {r : Int32 × Hp} (X : CX E g tb ρ prog_14_method_84_code 7 RC12 2 43) (Y : CQ E g tb ρ (some .int) (some (.int r.1)) r.2) {c128 : Hp → Nat → Int32 → Int32 → Int32 → Option (Int32 × Hp)} (H128 : ∀ (h : Hp) (l0 : Nat) (l1 : Int32) (l2 : Int32) (l3 : Int32) (kl0 : kd tb l0 = 12), c128 h l0 l1 l2 l3 = some r → V E g tb ρ 7 128 [(0, .ref (ρ l0)), (1, .int l1), (2, .int l2), (3, .int l3)] [] h) {c183 : Hp → Nat → Int32 → Int32 → Int32 → Int32 → Option (Int32 × Hp)} (H183 : ∀ (h : Hp) (l0 : Nat) (l1 : Int32) (l2 : Int32) (l3 : Int32) (l4 : Int32) (kl0 : kd tb l0 = 12), c183 h l0 l1 l2 l3 l4 = some r → V E g tb ρ 7 183 [(0, .ref (ρ l0)), (1, .int l1), (2, .int l2), (3, .int l3), (4, .int l4)] [] h) {c195 : Hp → Nat → Int32 → Int32 → Int32 → Int32 → Int32 → Option (Int32 × Hp)} (H195 : ∀ (h : Hp) (l0 : Nat) (l1 : Int32) (l2 : Int32) (l3 : Int32) (l4 : Int32) (l5 : Int32) (kl0 : kd tb l0 = 12), c195 h l0 l1 l2 l3 l4 l5 = some r → V E g tb ρ 7 195 [(0, .ref (ρ l0)), (1, .int l1), (2, .int l2), (3, .int l3), (4, .int l4), (5, .int l5)] [] h) (h : Hp) (l0 : Nat) (l1 : Int32) (l2 : Int32) (l3 : Int32) (l4 : Int32) (l5 : Int32) (s0 : Int32) (kl0 : kd tb l0 = 12) (hf : jb_Md_stops_278 tb c128 c183 c195 h l0 l1 l2 l3 l4 l5 s0 = some r) : V E g tb ρ 7 278 [(0, .ref (ρ l0)), (1, .int l1), (2, .int l2), (3, .int l3), (4, .int l4), (5, .int l5)] [.int s0] h := by
  unfold jb_Md_stops_278 at hf
  refine v_istore (pc := 278) (k := 6) (lv' := [(6, .int s0), (0, .ref (ρ l0)), (1, .int l1), (2, .int l2), (3, .int l3), (4, .int l4), (5, .int l5)]) X (by decide +kernel) (Nat.le_of_ble_eq_true rfl) rfl ?_
  refine v_aload_n (pc := 280) (k := 0) X (by decide +kernel) 1 rfl ?_
  refine v_geta (pc := 281) X fl_12_133 kl0 fk_12_73 (by decide +kernel) ?_
  refine v_iload (pc := 284) (k := 5) X (by decide +kernel) 6 rfl ?_
  obtain ⟨x1, ex1, hf⟩ := bnd_e hf
  refine v_iald (pc := 286) X (ly_12_73 ok kl0) ex1 (by decide +kernel) ?_
  refine v_if_lt (pc := 287) (off := 15) (tgt := 302) X (by decide +kernel) (by decide) (fun q4 => ?_) (fun q4 => ?_)
  · rw [if_pos q4] at hf
    refine v_sub [1, 2, 3, 4, 5, 6, 0] rfl ?_
    exact vjb_Md_stops_302 ok hi X Y H128 H183 H195 h l0 l1 l2 l3 l4 l5 s0 kl0 hf
  · rw [if_neg q4] at hf
    refine v_iload (pc := 290) (k := 6) X (by decide +kernel) 0 rfl ?_
    refine v_aload_n (pc := 292) (k := 0) X (by decide +kernel) 1 rfl ?_
    refine v_geta (pc := 293) X fl_12_133 kl0 fk_12_73 (by decide +kernel) ?_
    refine v_iload (pc := 296) (k := 5) X (by decide +kernel) 6 rfl ?_
    obtain ⟨x2, ex2, hf⟩ := bnd_e hf
    refine v_iald (pc := 298) X (ly_12_73 ok kl0) ex2 (by decide +kernel) ?_
    refine v_icmp_ge (pc := 299) (off := 12) (tgt := 311) X (by decide +kernel) (by decide) (fun q3 => ?_) (fun q3 => ?_)
    · rw [if_pos q3] at hf
      refine v_sub [1, 2, 3, 4, 5, 6] rfl ?_
      exact vjb_Md_stops_311 ok hi X Y H128 H183 H195 h l0 l1 l2 l3 l4 l5 kl0 hf
    · rw [if_neg q3] at hf
      refine v_sub [1, 2, 3, 4, 5, 6, 0] rfl ?_
      exact vjb_Md_stops_302 ok hi X Y H128 H183 H195 h l0 l1 l2 l3 l4 l5 s0 kl0 hf
set_option maxRecDepth 4000 in
set_option maxHeartbeats 1000000 in
theorem vlp_Md_stops_195 {E : En} {g : Gl} {tb : Tb} {ρ : Nat → Nat} (ok : TbOK tb) (hi : inj tb ρ) {r : Int32 × Hp} (X : CX E g tb ρ prog_14_method_84_code 7 RC12 2 43) (Y : CQ E g tb ρ (some .int) (some (.int r.1)) r.2) {c128 : Hp → Nat → Int32 → Int32 → Int32 → Option (Int32 × Hp)} (H128 : ∀ (h : Hp) (l0 : Nat) (l1 : Int32) (l2 : Int32) (l3 : Int32) (kl0 : kd tb l0 = 12), c128 h l0 l1 l2 l3 = some r → V E g tb ρ 7 128 [(0, .ref (ρ l0)), (1, .int l1), (2, .int l2), (3, .int l3)] [] h) {c183 : Hp → Nat → Int32 → Int32 → Int32 → Int32 → Option (Int32 × Hp)} (H183 : ∀ (h : Hp) (l0 : Nat) (l1 : Int32) (l2 : Int32) (l3 : Int32) (l4 : Int32) (kl0 : kd tb l0 = 12), c183 h l0 l1 l2 l3 l4 = some r → V E g tb ρ 7 183 [(0, .ref (ρ l0)), (1, .int l1), (2, .int l2), (3, .int l3), (4, .int l4)] [] h) : ∀ (n : Nat) (h : Hp) (l0 : Nat) (l1 : Int32) (l2 : Int32) (l3 : Int32) (l4 : Int32) (l5 : Int32) (kl0 : kd tb l0 = 12), lp_Md_stops_195 tb c128 c183 n h l0 l1 l2 l3 l4 l5 = some r → V E g tb ρ 7 195 [(0, .ref (ρ l0)), (1, .int l1), (2, .int l2), (3, .int l3), (4, .int l4), (5, .int l5)] [] h := by
  intro n
  induction n with
  | zero =>
    intro h l0 l1 l2 l3 l4 l5 kl0 hf
    rw [lp_Md_stops_195] at hf
    cases hf
  | succ n ih =>
    intro h l0 l1 l2 l3 l4 l5 kl0 hf
    rw [lp_Md_stops_195] at hf
    refine v_iload (pc := 195) (k := 5) X (by decide +kernel) 5 rfl ?_
    refine v_aload_n (pc := 197) (k := 0) X (by decide +kernel) 0 rfl ?_
    refine v_geti (pc := 198) X fl_12_243 kl0 rfl (by decide +kernel) ?_
    refine v_icmp_ge (pc := 201) (off := 116) (tgt := 317) X (by decide +kernel) (by decide) (fun q12 => ?_) (fun q12 => ?_)
    · rw [if_pos q12] at hf
      obtain ⟨x1, ex1, hf⟩ := nmd_e hf
      refine v_iinc (pc := 317) (k := 4) (n := 1) (v := x1) (lv' := [(4, .int x1), (0, .ref (ρ l0)), (1, .int l1), (2, .int l2), (3, .int l3), (5, .int l5)]) X (by decide +kernel) 4 rfl (by rw [ic_1, ex1]) (Nat.le_of_ble_eq_true rfl) rfl ?_
      refine v_goto (pc := 320) (off := -137) (tgt := 183) X (by decide +kernel) (by decide) ?_
      refine v_sub [1, 2, 3, 4, 0] rfl ?_
      exact H183 h l0 l1 l2 l3 x1 kl0 hf
    · rw [if_neg q12] at hf
      refine v_aload_n (pc := 204) (k := 0) X (by decide +kernel) 0 rfl ?_
      refine v_geta (pc := 205) X fl_12_133 kl0 fk_12_73 (by decide +kernel) ?_
      refine v_bipush (pc := 208) (n := 6) X (by decide +kernel) bi_6 ?_
      refine v_iload (pc := 210) (k := 4) X (by decide +kernel) 4 rfl ?_
      refine v_iadd (pc := 212) X (by decide +kernel) ?_
      obtain ⟨x2, ex2, hf⟩ := bnd_e hf
      refine v_iald (pc := 213) X (ly_12_73 ok kl0) ex2 (by decide +kernel) ?_
      refine v_if_ge (pc := 214) (off := 6) (tgt := 220) X (by decide +kernel) (by decide) (fun q11 => ?_) (fun q11 => ?_)
      · rw [if_pos q11] at hf
        refine v_aload_n (pc := 220) (k := 0) X (by decide +kernel) 0 rfl ?_
        refine v_geta (pc := 221) X fl_12_133 kl0 fk_12_73 (by decide +kernel) ?_
        refine v_bipush (pc := 224) (n := 6) X (by decide +kernel) bi_6 ?_
        refine v_iload (pc := 226) (k := 4) X (by decide +kernel) 4 rfl ?_
        refine v_iadd (pc := 228) X (by decide +kernel) ?_
        obtain ⟨x3, ex3, hf⟩ := bnd_e hf
        refine v_iald (pc := 229) X (ly_12_73 ok kl0) ex3 (by decide +kernel) ?_
        refine v_aload_n (pc := 230) (k := 0) X (by decide +kernel) 0 rfl ?_
        refine v_iload_n (pc := 231) (k := 1) X (by decide +kernel) 1 rfl ?_
        refine v_aload_n (pc := 232) (k := 0) X (by decide +kernel) 0 rfl ?_
        refine v_geta (pc := 233) X fl_12_30 kl0 fk_12_26 (by decide +kernel) ?_
        refine v_iload (pc := 236) (k := 4) X (by decide +kernel) 4 rfl ?_
        obtain ⟨x4, ex4, hf⟩ := bnd_e hf
        refine v_iald (pc := 238) X (ly_12_26 ok kl0) ex4 (by decide +kernel) ?_
        refine v_aload_n (pc := 239) (k := 0) X (by decide +kernel) 0 rfl ?_
        refine v_geta (pc := 240) X fl_12_30 kl0 fk_12_26 (by decide +kernel) ?_
        refine v_iload (pc := 243) (k := 5) X (by decide +kernel) 5 rfl ?_
        obtain ⟨x5, ex5, hf⟩ := bnd_e hf
        refine v_iald (pc := 245) X (ly_12_26 ok kl0) ex5 (by decide +kernel) ?_
        obtain ⟨r6, er6, hf⟩ := bnd_e hf
        refine v_callV (pc := 246) (As := [.int l1, .int x4, .int x5]) (rest := [.int x3]) X (mt_Md_legOf ok hi kl0 er6) ml_12_491 mv_Md_legOf kl0 cls_12 rfl ⟨Nat.le_of_ble_eq_true rfl, Nat.le_of_ble_eq_true rfl⟩ rfl rfl (Nat.le_of_ble_eq_true rfl) (by decide +kernel) ?_
        change V E g tb ρ 7 249 [(0, .ref (ρ l0)), (1, .int l1), (2, .int l2), (3, .int l3), (4, .int l4), (5, .int l5)] [.int r6, .int x3] h
        refine v_iadd (pc := 249) X (by decide +kernel) ?_
        obtain ⟨x7, ex7, hf⟩ := nmd_e hf
        refine v_nmi ex7 ?_
        refine v_istore (pc := 250) (k := 6) (lv' := [(6, .int x7), (0, .ref (ρ l0)), (1, .int l1), (2, .int l2), (3, .int l3), (4, .int l4), (5, .int l5)]) X (by decide +kernel) (Nat.le_of_ble_eq_true rfl) rfl ?_
        refine v_iload (pc := 252) (k := 6) X (by decide +kernel) 0 rfl ?_
        refine v_bipush (pc := 254) (n := 100) X (by decide +kernel) bi_100 ?_
        refine v_icmp_lt (pc := 256) (off := 6) (tgt := 262) X (by decide +kernel) (by decide) (fun q10 => ?_) (fun q10 => ?_)
        · rw [if_pos q10] at hf
          refine v_aload_n (pc := 262) (k := 0) X (by decide +kernel) 1 rfl ?_
          refine v_geta (pc := 263) X fl_12_112 kl0 fk_12_60 (by decide +kernel) ?_
          refine v_iload (pc := 266) (k := 5) X (by decide +kernel) 6 rfl ?_
          obtain ⟨x8, ex8, hf⟩ := bnd_e hf
          refine v_iald (pc := 268) X (ly_12_60 ok kl0) ex8 (by decide +kernel) ?_
          refine v_if_le (pc := 269) (off := 7) (tgt := 276) X (by decide +kernel) (by decide) (fun q9 => ?_) (fun q9 => ?_)
          · rw [if_pos q9] at hf
            refine v_iload (pc := 276) (k := 6) X (by decide +kernel) 0 rfl ?_
            refine v_sub [1, 2, 3, 4, 5, 6] rfl ?_
            exact vjb_Md_stops_278 ok hi X Y H128 H183 ih h l0 l1 l2 l3 l4 l5 x7 kl0 hf
          · rw [if_neg q9] at hf
            refine v_iconst (pc := 272) (n := 0) X (by decide +kernel) ic_0 ?_
            refine v_goto (pc := 273) (off := 5) (tgt := 278) X (by decide +kernel) (by decide) ?_
            refine v_sub [1, 2, 3, 4, 5, 6] rfl ?_
            exact vjb_Md_stops_278 ok hi X Y H128 H183 ih h l0 l1 l2 l3 l4 l5 (0 : Int32) kl0 hf
        · rw [if_neg q10] at hf
          refine v_goto (pc := 259) (off := 52) (tgt := 311) X (by decide +kernel) (by decide) ?_
          refine v_sub [1, 2, 3, 4, 5, 6] rfl ?_
          exact vjb_Md_stops_311 ok hi X Y H128 H183 ih h l0 l1 l2 l3 l4 l5 kl0 hf
      · rw [if_neg q11] at hf
        refine v_goto (pc := 217) (off := 94) (tgt := 311) X (by decide +kernel) (by decide) ?_
        exact vjb_Md_stops_311 ok hi X Y H128 H183 ih h l0 l1 l2 l3 l4 l5 kl0 hf
set_option maxRecDepth 4000 in
set_option maxHeartbeats 1000000 in
theorem vlp_Md_stops_183 {E : En} {g : Gl} {tb : Tb} {ρ : Nat → Nat} (ok : TbOK tb) (hi : inj tb ρ) {r : Int32 × Hp} (X : CX E g tb ρ prog_14_method_84_code 7 RC12 2 43) (Y : CQ E g tb ρ (some .int) (some (.int r.1)) r.2) {c128 : Hp → Nat → Int32 → Int32 → Int32 → Option (Int32 × Hp)} (H128 : ∀ (h : Hp) (l0 : Nat) (l1 : Int32) (l2 : Int32) (l3 : Int32) (kl0 : kd tb l0 = 12), c128 h l0 l1 l2 l3 = some r → V E g tb ρ 7 128 [(0, .ref (ρ l0)), (1, .int l1), (2, .int l2), (3, .int l3)] [] h) : ∀ (n : Nat) (h : Hp) (l0 : Nat) (l1 : Int32) (l2 : Int32) (l3 : Int32) (l4 : Int32) (kl0 : kd tb l0 = 12), lp_Md_stops_183 tb c128 n h l0 l1 l2 l3 l4 = some r → V E g tb ρ 7 183 [(0, .ref (ρ l0)), (1, .int l1), (2, .int l2), (3, .int l3), (4, .int l4)] [] h := by
  intro n
  induction n with
  | zero =>
    intro h l0 l1 l2 l3 l4 kl0 hf
    rw [lp_Md_stops_183] at hf
    cases hf
  | succ n ih =>
    intro h l0 l1 l2 l3 l4 kl0 hf
    rw [lp_Md_stops_183] at hf
    refine v_iload (pc := 183) (k := 4) X (by decide +kernel) 4 rfl ?_
    refine v_aload_n (pc := 185) (k := 0) X (by decide +kernel) 0 rfl ?_
    refine v_geti (pc := 186) X fl_12_243 kl0 rfl (by decide +kernel) ?_
    refine v_icmp_ge (pc := 189) (off := 134) (tgt := 323) X (by decide +kernel) (by decide) (fun q2 => ?_) (fun q2 => ?_)
    · rw [if_pos q2] at hf
      obtain ⟨x1, ex1, hf⟩ := nmd_e hf
      refine v_iinc (pc := 323) (k := 3) (n := 1) (v := x1) (lv' := [(3, .int x1), (0, .ref (ρ l0)), (1, .int l1), (2, .int l2), (4, .int l4)]) X (by decide +kernel) 3 rfl (by rw [ic_1, ex1]) (Nat.le_of_ble_eq_true rfl) rfl ?_
      refine v_goto (pc := 326) (off := -198) (tgt := 128) X (by decide +kernel) (by decide) ?_
      refine v_sub [1, 2, 3, 0] rfl ?_
      exact H128 h l0 l1 l2 x1 kl0 hf
    · rw [if_neg q2] at hf
      refine v_iconst (pc := 192) (n := 0) X (by decide +kernel) ic_0 ?_
      refine v_istore (pc := 193) (k := 5) (lv' := [(5, .int (0 : Int32)), (0, .ref (ρ l0)), (1, .int l1), (2, .int l2), (3, .int l3), (4, .int l4)]) X (by decide +kernel) (Nat.le_of_ble_eq_true rfl) rfl ?_
      refine v_sub [1, 2, 3, 4, 5, 0] rfl ?_
      exact vlp_Md_stops_195 ok hi X Y H128 ih fu h l0 l1 l2 l3 l4 (0 : Int32) kl0 hf
set_option maxRecDepth 4000 in
set_option maxHeartbeats 1000000 in
theorem vlp_Md_stops_148 {E : En} {g : Gl} {tb : Tb} {ρ : Nat → Nat} (ok : TbOK tb) (hi : inj tb ρ) {r : Int32 × Hp} (X : CX E g tb ρ prog_14_method_84_code 7 RC12 2 43) (Y : CQ E g tb ρ (some .int) (some (.int r.1)) r.2) {c128 : Hp → Nat → Int32 → Int32 → Int32 → Option (Int32 × Hp)} (H128 : ∀ (h : Hp) (l0 : Nat) (l1 : Int32) (l2 : Int32) (l3 : Int32) (kl0 : kd tb l0 = 12), c128 h l0 l1 l2 l3 = some r → V E g tb ρ 7 128 [(0, .ref (ρ l0)), (1, .int l1), (2, .int l2), (3, .int l3)] [] h) : ∀ (n : Nat) (h : Hp) (l0 : Nat) (l1 : Int32) (l2 : Int32) (l3 : Int32) (l4 : Int32) (kl0 : kd tb l0 = 12), lp_Md_stops_148 tb c128 n h l0 l1 l2 l3 l4 = some r → V E g tb ρ 7 148 [(0, .ref (ρ l0)), (1, .int l1), (2, .int l2), (3, .int l3), (4, .int l4)] [] h := by
  intro n
  induction n with
  | zero =>
    intro h l0 l1 l2 l3 l4 kl0 hf
    rw [lp_Md_stops_148] at hf
    cases hf
  | succ n ih =>
    intro h l0 l1 l2 l3 l4 kl0 hf
    rw [lp_Md_stops_148] at hf
    refine v_iload (pc := 148) (k := 4) X (by decide +kernel) 4 rfl ?_
    refine v_aload_n (pc := 150) (k := 0) X (by decide +kernel) 0 rfl ?_
    refine v_geti (pc := 151) X fl_12_243 kl0 rfl (by decide +kernel) ?_
    refine v_icmp_ge (pc := 154) (off := 26) (tgt := 180) X (by decide +kernel) (by decide) (fun q4 => ?_) (fun q4 => ?_)
    · rw [if_pos q4] at hf
      refine v_iconst (pc := 180) (n := 0) X (by decide +kernel) ic_0 ?_
      refine v_istore (pc := 181) (k := 4) (lv' := [(4, .int (0 : Int32)), (0, .ref (ρ l0)), (1, .int l1), (2, .int l2), (3, .int l3)]) X (by decide +kernel) (Nat.le_of_ble_eq_true rfl) rfl ?_
      refine v_sub [1, 2, 3, 4, 0] rfl ?_
      exact vlp_Md_stops_183 ok hi X Y H128 fu h l0 l1 l2 l3 (0 : Int32) kl0 hf
    · rw [if_neg q4] at hf
      refine v_aload_n (pc := 157) (k := 0) X (by decide +kernel) 0 rfl ?_
      refine v_geta (pc := 158) X fl_12_133 kl0 fk_12_73 (by decide +kernel) ?_
      refine v_bipush (pc := 161) (n := 6) X (by decide +kernel) bi_6 ?_
      refine v_iload (pc := 163) (k := 4) X (by decide +kernel) 4 rfl ?_
      refine v_iadd (pc := 165) X (by decide +kernel) ?_
      refine v_aload_n (pc := 166) (k := 0) X (by decide +kernel) 0 rfl ?_
      refine v_geta (pc := 167) X fl_12_133 kl0 fk_12_73 (by decide +kernel) ?_
      refine v_iload (pc := 170) (k := 4) X (by decide +kernel) 4 rfl ?_
      obtain ⟨x1, ex1, hf⟩ := bnd_e hf
      refine v_iald (pc := 172) X (ly_12_73 ok kl0) ex1 (by decide +kernel) ?_
      obtain ⟨h2, eh2, hf⟩ := bnd_e hf
      refine v_iast (pc := 173) X (ly_12_73 ok kl0) eh2 (by decide +kernel) ?_
      obtain ⟨x3, ex3, hf⟩ := nmd_e hf
      refine v_iinc (pc := 174) (k := 4) (n := 1) (v := x3) (lv' := [(4, .int x3), (0, .ref (ρ l0)), (1, .int l1), (2, .int l2), (3, .int l3)]) X (by decide +kernel) 4 rfl (by rw [ic_1, ex3]) (Nat.le_of_ble_eq_true rfl) rfl ?_
      refine v_goto (pc := 177) (off := -29) (tgt := 148) X (by decide +kernel) (by decide) ?_
      refine v_sub [1, 2, 3, 4, 0] rfl ?_
      exact ih h2 l0 l1 l2 l3 x3 kl0 hf
set_option maxRecDepth 4000 in
set_option maxHeartbeats 1000000 in
theorem vlp_Md_stops_128 {E : En} {g : Gl} {tb : Tb} {ρ : Nat → Nat} (ok : TbOK tb) (hi : inj tb ρ) {r : Int32 × Hp} (X : CX E g tb ρ prog_14_method_84_code 7 RC12 2 43) (Y : CQ E g tb ρ (some .int) (some (.int r.1)) r.2) : ∀ (n : Nat) (h : Hp) (l0 : Nat) (l1 : Int32) (l2 : Int32) (l3 : Int32) (kl0 : kd tb l0 = 12), lp_Md_stops_128 tb n h l0 l1 l2 l3 = some r → V E g tb ρ 7 128 [(0, .ref (ρ l0)), (1, .int l1), (2, .int l2), (3, .int l3)] [] h := by
  intro n
  induction n with
  | zero =>
    intro h l0 l1 l2 l3 kl0 hf
    rw [lp_Md_stops_128] at hf
    cases hf
  | succ n ih =>
    intro h l0 l1 l2 l3 kl0 hf
    rw [lp_Md_stops_128] at hf
    refine v_iload_n (pc := 128) (k := 3) X (by decide +kernel) 3 rfl ?_
    refine v_bipush (pc := 129) (n := 14) X (by decide +kernel) bi_14 ?_
    refine v_icmp_ge (pc := 131) (off := 198) (tgt := 329) X (by decide +kernel) (by decide) (fun q3 => ?_) (fun q3 => ?_)
    · rw [if_pos q3] at hf
      refine v_bipush (pc := 329) (n := -2) X (by decide +kernel) bi_m2 ?_
      cases hf
      exact v_iret X Y (by decide +kernel) rfl rfl
    · rw [if_neg q3] at hf
      refine v_aload_n (pc := 134) (k := 0) X (by decide +kernel) 0 rfl ?_
      refine v_geta (pc := 135) X fl_12_133 kl0 fk_12_73 (by decide +kernel) ?_
      refine v_iload_n (pc := 138) (k := 2) X (by decide +kernel) 2 rfl ?_
      obtain ⟨x1, ex1, hf⟩ := bnd_e hf
      refine v_iald (pc := 139) X (ly_12_73 ok kl0) ex1 (by decide +kernel) ?_
      refine v_if_lt (pc := 140) (off := 5) (tgt := 145) X (by decide +kernel) (by decide) (fun q2 => ?_) (fun q2 => ?_)
      · rw [if_pos q2] at hf
        refine v_iconst (pc := 145) (n := 0) X (by decide +kernel) ic_0 ?_
        refine v_istore (pc := 146) (k := 4) (lv' := [(4, .int (0 : Int32)), (0, .ref (ρ l0)), (1, .int l1), (2, .int l2), (3, .int l3)]) X (by decide +kernel) (Nat.le_of_ble_eq_true rfl) rfl ?_
        refine v_sub [1, 2, 3, 4, 0] rfl ?_
        exact vlp_Md_stops_148 ok hi X Y ih fu h l0 l1 l2 l3 (0 : Int32) kl0 hf
      · rw [if_neg q2] at hf
        refine v_iload_n (pc := 143) (k := 3) X (by decide +kernel) 3 rfl ?_
        cases hf
        exact v_iret X Y (by decide +kernel) rfl rfl
set_option maxRecDepth 4000 in
set_option maxHeartbeats 1000000 in
theorem vjb_Md_stops_119 {E : En} {g : Gl} {tb : Tb} {ρ : Nat → Nat} (ok : TbOK tb) (hi : inj tb ρ) {r : Int32 × Hp} (X : CX E g tb ρ prog_14_method_84_code 7 RC12 2 43) (Y : CQ E g tb ρ (some .int) (some (.int r.1)) r.2) {c54 : Hp → Nat → Int32 → Int32 → Int32 → Option (Int32 × Hp)} (H54 : ∀ (h : Hp) (l0 : Nat) (l1 : Int32) (l2 : Int32) (l3 : Int32) (kl0 : kd tb l0 = 12), c54 h l0 l1 l2 l3 = some r → V E g tb ρ 7 54 [(0, .ref (ρ l0)), (1, .int l1), (2, .int l2), (3, .int l3)] [] h) (h : Hp) (l0 : Nat) (l1 : Int32) (l2 : Int32) (l3 : Int32) (s0 : Nat) (s1 : Int32) (s2 : Int32) (kl0 : kd tb l0 = 12) (ks0 : kd tb s0 = 20) (hf : jb_Md_stops_119 tb c54 h l0 l1 l2 l3 s0 s1 s2 = some r) : V E g tb ρ 7 119 [(0, .ref (ρ l0)), (1, .int l1), (2, .int l2), (3, .int l3)] [.int s2, .int s1, .ref (ρ s0)] h := by
  unfold jb_Md_stops_119 at hf
  obtain ⟨h1, eh1, hf⟩ := bnd_e hf
  refine v_iast (pc := 119) X ks0 eh1 (by decide +kernel) ?_
  obtain ⟨x2, ex2, hf⟩ := nmd_e hf
  refine v_iinc (pc := 120) (k := 3) (n := 1) (v := x2) (lv' := [(3, .int x2), (0, .ref (ρ l0)), (1, .int l1), (2, .int l2)]) X (by decide +kernel) 3 rfl (by rw [ic_1, ex2]) (Nat.le_of_ble_eq_true rfl) rfl ?_
  refine v_goto (pc := 123) (off := -69) (tgt := 54) X (by decide +kernel) (by decide) ?_
  refine v_sub [1, 2, 3, 0] rfl ?_
  exact H54 h1 l0 l1 l2 x2 kl0 hf
set_option maxRecDepth 4000 in
set_option maxHeartbeats 1000000 in
theorem vlp_Md_stops_54 {E : En} {g : Gl} {tb : Tb} {ρ : Nat → Nat} (ok : TbOK tb) (hi : inj tb ρ) {r : Int32 × Hp} (X : CX E g tb ρ prog_14_method_84_code 7 RC12 2 43) (Y : CQ E g tb ρ (some .int) (some (.int r.1)) r.2) : ∀ (n : Nat) (h : Hp) (l0 : Nat) (l1 : Int32) (l2 : Int32) (l3 : Int32) (kl0 : kd tb l0 = 12), lp_Md_stops_54 tb n h l0 l1 l2 l3 = some r → V E g tb ρ 7 54 [(0, .ref (ρ l0)), (1, .int l1), (2, .int l2), (3, .int l3)] [] h := by
  intro n
  induction n with
  | zero =>
    intro h l0 l1 l2 l3 kl0 hf
    rw [lp_Md_stops_54] at hf
    cases hf
  | succ n ih =>
    intro h l0 l1 l2 l3 kl0 hf
    rw [lp_Md_stops_54] at hf
    refine v_iload_n (pc := 54) (k := 3) X (by decide +kernel) 3 rfl ?_
    refine v_aload_n (pc := 55) (k := 0) X (by decide +kernel) 0 rfl ?_
    refine v_geti (pc := 56) X fl_12_243 kl0 rfl (by decide +kernel) ?_
    refine v_icmp_ge (pc := 59) (off := 67) (tgt := 126) X (by decide +kernel) (by decide) (fun q9 => ?_) (fun q9 => ?_)
    · rw [if_pos q9] at hf
      refine v_iconst (pc := 126) (n := 1) X (by decide +kernel) ic_1 ?_
      refine v_istore_n (pc := 127) (k := 3) (lv' := [(3, .int (1 : Int32)), (0, .ref (ρ l0)), (1, .int l1), (2, .int l2)]) X (by decide +kernel) (Nat.le_of_ble_eq_true rfl) rfl ?_
      refine v_sub [1, 2, 3, 0] rfl ?_
      exact vlp_Md_stops_128 ok hi X Y fu h l0 l1 l2 (1 : Int32) kl0 hf
    · rw [if_neg q9] at hf
      refine v_aload_n (pc := 62) (k := 0) X (by decide +kernel) 0 rfl ?_
      refine v_geta (pc := 63) X fl_12_97 kl0 fk_12_55 (by decide +kernel) ?_
      refine v_iload_n (pc := 66) (k := 1) X (by decide +kernel) 1 rfl ?_
      obtain ⟨x1, ex1, hf⟩ := bnd_e hf
      refine v_iald (pc := 67) X (ly_12_55 ok kl0) ex1 (by decide +kernel) ?_
      refine v_aload_n (pc := 68) (k := 0) X (by decide +kernel) 0 rfl ?_
      refine v_iload_n (pc := 69) (k := 1) X (by decide +kernel) 1 rfl ?_
      refine v_aload_n (pc := 70) (k := 0) X (by decide +kernel) 0 rfl ?_
      refine v_geta (pc := 71) X fl_12_94 kl0 fk_12_54 (by decide +kernel) ?_
      refine v_iload_n (pc := 74) (k := 1) X (by decide +kernel) 1 rfl ?_
      obtain ⟨x2, ex2, hf⟩ := bnd_e hf
      refine v_iald (pc := 75) X (ly_12_54 ok kl0) ex2 (by decide +kernel) ?_
      refine v_aload_n (pc := 76) (k := 0) X (by decide +kernel) 0 rfl ?_
      refine v_geta (pc := 77) X fl_12_30 kl0 fk_12_26 (by decide +kernel) ?_
      refine v_iload_n (pc := 80) (k := 3) X (by decide +kernel) 3 rfl ?_
      obtain ⟨x3, ex3, hf⟩ := bnd_e hf
      refine v_iald (pc := 81) X (ly_12_26 ok kl0) ex3 (by decide +kernel) ?_
      obtain ⟨r4, er4, hf⟩ := bnd_e hf
      refine v_callV (pc := 82) (As := [.int l1, .int x2, .int x3]) (rest := [.int x1]) X (mt_Md_legOf ok hi kl0 er4) ml_12_491 mv_Md_legOf kl0 cls_12 rfl ⟨Nat.le_of_ble_eq_true rfl, Nat.le_of_ble_eq_true rfl⟩ rfl rfl (Nat.le_of_ble_eq_true rfl) (by decide +kernel) ?_
      change V E g tb ρ 7 85 [(0, .ref (ρ l0)), (1, .int l1), (2, .int l2), (3, .int l3)] [.int r4, .int x1] h
      refine v_iadd (pc := 85) X (by decide +kernel) ?_
      obtain ⟨x5, ex5, hf⟩ := nmd_e hf
      refine v_nmi ex5 ?_
      refine v_istore (pc := 86) (k := 4) (lv' := [(4, .int x5), (0, .ref (ρ l0)), (1, .int l1), (2, .int l2), (3, .int l3)]) X (by decide +kernel) (Nat.le_of_ble_eq_true rfl) rfl ?_
      refine v_aload_n (pc := 88) (k := 0) X (by decide +kernel) 1 rfl ?_
      refine v_geta (pc := 89) X fl_12_133 kl0 fk_12_73 (by decide +kernel) ?_
      refine v_iload_n (pc := 92) (k := 3) X (by decide +kernel) 4 rfl ?_
      refine v_iload (pc := 93) (k := 4) X (by decide +kernel) 0 rfl ?_
      refine v_bipush (pc := 95) (n := 100) X (by decide +kernel) bi_100 ?_
      refine v_icmp_lt (pc := 97) (off := 7) (tgt := 104) X (by decide +kernel) (by decide) (fun q8 => ?_) (fun q8 => ?_)
      · rw [if_pos q8] at hf
        refine v_aload_n (pc := 104) (k := 0) X (by decide +kernel) 1 rfl ?_
        refine v_geta (pc := 105) X fl_12_112 kl0 fk_12_60 (by decide +kernel) ?_
        refine v_iload_n (pc := 108) (k := 3) X (by decide +kernel) 4 rfl ?_
        obtain ⟨x6, ex6, hf⟩ := bnd_e hf
        refine v_iald (pc := 109) X (ly_12_60 ok kl0) ex6 (by decide +kernel) ?_
        refine v_if_le (pc := 110) (off := 7) (tgt := 117) X (by decide +kernel) (by decide) (fun q7 => ?_) (fun q7 => ?_)
        · rw [if_pos q7] at hf
          refine v_iload (pc := 117) (k := 4) X (by decide +kernel) 0 rfl ?_
          refine v_sub [1, 2, 3, 4] rfl ?_
          exact vjb_Md_stops_119 ok hi X Y ih h l0 l1 l2 l3 (lay tb l0 73) l3 x5 kl0 (ly_12_73 ok kl0) hf
        · rw [if_neg q7] at hf
          refine v_iconst (pc := 113) (n := 0) X (by decide +kernel) ic_0 ?_
          refine v_goto (pc := 114) (off := 5) (tgt := 119) X (by decide +kernel) (by decide) ?_
          refine v_sub [1, 2, 3, 4] rfl ?_
          exact vjb_Md_stops_119 ok hi X Y ih h l0 l1 l2 l3 (lay tb l0 73) l3 (0 : Int32) kl0 (ly_12_73 ok kl0) hf
      · rw [if_neg q8] at hf
        refine v_iconst (pc := 100) (n := -1) X (by decide +kernel) ic_m1 ?_
        refine v_goto (pc := 101) (off := 18) (tgt := 119) X (by decide +kernel) (by decide) ?_
        refine v_sub [1, 2, 3, 4] rfl ?_
        exact vjb_Md_stops_119 ok hi X Y ih h l0 l1 l2 l3 (lay tb l0 73) l3 (-1 : Int32) kl0 (ly_12_73 ok kl0) hf
set_option maxRecDepth 4000 in
set_option maxHeartbeats 1000000 in
theorem mt_Md_stops {g : Gl} {tb : Tb} {ρ : Nat → Nat} (ok : TbOK tb) (hi : inj tb ρ) {h : Hp} {l0 : Nat} {l1 : Int32} {l2 : Int32} (kl0 : kd tb l0 = 12) {r : Int32 × Hp} (hf : f_Md_stops tb h l0 l1 l2 = some r) : MT g y_Md_stops prog_14_method_84_code 7 (some .int) 2 43 tb ρ [.ref (ρ l0), .int l1, .int l2] h (some (.int r.1)) r.2 := by
  refine mt_intro (by decide +kernel) ok hi (Nat.le_of_ble_eq_true rfl) (fun E X Y => ?_)
  change V E g tb ρ 7 0 [(0, .ref (ρ l0)), (1, .int l1), (2, .int l2)] [] h
  unfold f_Md_stops at hf
  refine v_aload_n (pc := 0) (k := 0) X (by decide +kernel) 0 rfl ?_
  refine v_iconst (pc := 1) (n := 0) X (by decide +kernel) ic_0 ?_
  obtain ⟨h1, eh1, hf⟩ := nmd_e hf
  refine v_puti (pc := 2) X fp_12_160 kl0 rfl (by decide +kernel) eh1 ?_
  refine v_aload_n (pc := 5) (k := 0) X (by decide +kernel) 0 rfl ?_
  refine v_iload_n (pc := 6) (k := 1) X (by decide +kernel) 1 rfl ?_
  obtain ⟨r2, er2, hf⟩ := nmd_e hf
  refine v_callV (pc := 7) (As := [.int l1]) (rest := []) X (mt_Md_isHorse ok hi kl0 er2.symm) ml_12_459 mv_Md_isHorse kl0 cls_12 rfl ⟨Nat.le_of_ble_eq_true rfl, Nat.le_of_ble_eq_true rfl⟩ rfl rfl (Nat.le_of_ble_eq_true rfl) (by decide +kernel) ?_
  change V E g tb ρ 7 10 [(0, .ref (ρ l0)), (1, .int l1), (2, .int l2)] [.int r2] h1
  refine v_if_eq (pc := 10) (off := 11) (tgt := 21) X (by decide +kernel) (by decide) (fun q10 => ?_) (fun q10 => ?_)
  · rw [if_pos q10] at hf
    refine v_iconst (pc := 21) (n := -1) X (by decide +kernel) ic_m1 ?_
    cases hf
    exact v_iret X Y (by decide +kernel) rfl rfl
  · rw [if_neg q10] at hf
    refine v_aload_n (pc := 13) (k := 0) X (by decide +kernel) 0 rfl ?_
    refine v_iload_n (pc := 14) (k := 2) X (by decide +kernel) 2 rfl ?_
    obtain ⟨r3, er3, hf⟩ := nmd_e hf
    refine v_callV (pc := 15) (As := [.int l2]) (rest := []) X (mt_Md_isTrough ok hi kl0 er3.symm) ml_12_465 mv_Md_isTrough kl0 cls_12 rfl ⟨Nat.le_of_ble_eq_true rfl, Nat.le_of_ble_eq_true rfl⟩ rfl rfl (Nat.le_of_ble_eq_true rfl) (by decide +kernel) ?_
    change V E g tb ρ 7 18 [(0, .ref (ρ l0)), (1, .int l1), (2, .int l2)] [.int r3] h1
    refine v_if_ne (pc := 18) (off := 5) (tgt := 23) X (by decide +kernel) (by decide) (fun q9 => ?_) (fun q9 => ?_)
    · rw [if_neg q9] at hf
      refine v_aload_n (pc := 23) (k := 0) X (by decide +kernel) 0 rfl ?_
      refine v_geta (pc := 24) X fl_12_106 kl0 fk_12_58 (by decide +kernel) ?_
      refine v_iload_n (pc := 27) (k := 1) X (by decide +kernel) 1 rfl ?_
      obtain ⟨x4, ex4, hf⟩ := bnd_e hf
      refine v_zald (pc := 28) X (ly_12_58 ok kl0) ex4 (by decide +kernel) ?_
      refine v_if_ne (pc := 29) (off := 6) (tgt := 35) X (by decide +kernel) (by decide) (fun q8 => ?_) (fun q8 => ?_)
      · rw [if_neg q8] at hf
        refine v_aload_n (pc := 35) (k := 0) X (by decide +kernel) 0 rfl ?_
        refine v_geta (pc := 36) X fl_12_94 kl0 fk_12_54 (by decide +kernel) ?_
        refine v_iload_n (pc := 39) (k := 1) X (by decide +kernel) 1 rfl ?_
        obtain ⟨x5, ex5, hf⟩ := bnd_e hf
        refine v_iald (pc := 40) X (ly_12_54 ok kl0) ex5 (by decide +kernel) ?_
        refine v_aload_n (pc := 41) (k := 0) X (by decide +kernel) 0 rfl ?_
        refine v_geta (pc := 42) X fl_12_30 kl0 fk_12_26 (by decide +kernel) ?_
        refine v_iload_n (pc := 45) (k := 2) X (by decide +kernel) 2 rfl ?_
        obtain ⟨x6, ex6, hf⟩ := bnd_e hf
        refine v_iald (pc := 46) X (ly_12_26 ok kl0) ex6 (by decide +kernel) ?_
        refine v_icmp_ne (pc := 47) (off := 5) (tgt := 52) X (by decide +kernel) (by decide) (fun q7 => ?_) (fun q7 => ?_)
        · rw [if_neg q7] at hf
          refine v_iconst (pc := 52) (n := 0) X (by decide +kernel) ic_0 ?_
          refine v_istore_n (pc := 53) (k := 3) (lv' := [(3, .int (0 : Int32)), (0, .ref (ρ l0)), (1, .int l1), (2, .int l2)]) X (by decide +kernel) (Nat.le_of_ble_eq_true rfl) rfl ?_
          refine v_sub [1, 2, 3, 0] rfl ?_
          exact vlp_Md_stops_54 ok hi X Y fu h1 l0 l1 l2 (0 : Int32) kl0 hf
        · rw [if_pos q7] at hf
          refine v_iconst (pc := 50) (n := 0) X (by decide +kernel) ic_0 ?_
          cases hf
          exact v_iret X Y (by decide +kernel) rfl rfl
      · rw [if_pos q8] at hf
        refine v_bipush (pc := 32) (n := -2) X (by decide +kernel) bi_m2 ?_
        cases hf
        exact v_iret X Y (by decide +kernel) rfl rfl
    · rw [if_pos q9] at hf
      refine v_iconst (pc := 21) (n := -1) X (by decide +kernel) ic_m1 ?_
      cases hf
      exact v_iret X Y (by decide +kernel) rfl rfl
