def jb_Fo_hoursToMeet_92 (tb : Tb) (c6 : Hp → Nat → Int32 → Int32 → Int32 → Option (Int32 × Hp)) (h : Hp) (l0 : Nat) (l1 : Int32) (l2 : Int32) (l3 : Int32) : Option (Int32 × Hp) :=
  nmd (l3 + (1 : Int32)) fun x1 =>
  c6 h l0 l1 l2 x1
def lp_Fo_hoursToMeet_6 (tb : Tb) : Nat → Hp → Nat → Int32 → Int32 → Int32 → Option (Int32 × Hp)
  | 0, _, _, _, _, _ => none
  | n + 1, h, l0, l1, l2, l3 =>
    if (199 : Int32) < l3 then (
      some ((-2 : Int32), h)
    ) else (
      nmd (f_Wo_isOn tb h (lay tb l0 3) l1) fun r1 =>
      if r1 = (0 : Int32) then (
        some ((-2 : Int32), h)
      ) else (
        nmd (f_Wo_isOn tb h (lay tb l0 3) l2) fun r2 =>
        if r2 = (0 : Int32) then (
          some ((-2 : Int32), h)
        ) else (
          (f_Ho_pass tb h (lay tb l0 2) (lay tb l0 3) (1 : Int32)).bind fun r3 =>
          (rI tb r3 (lay tb (lay tb l0 3) 9) l1).bind fun x4 =>
          (rI tb r3 (lay tb (lay tb l0 3) 9) l2).bind fun x5 =>
          if x4 = x5 then (
            nmd (f_Wo_isOn tb r3 (lay tb l0 3) l1) fun r6 =>
            if r6 = (0 : Int32) then (
              jb_Fo_hoursToMeet_92 tb (lp_Fo_hoursToMeet_6 tb n) r3 l0 l1 l2 l3
            ) else (
              nmd (f_Wo_isOn tb r3 (lay tb l0 3) l2) fun r7 =>
              if r7 = (0 : Int32) then (
                jb_Fo_hoursToMeet_92 tb (lp_Fo_hoursToMeet_6 tb n) r3 l0 l1 l2 l3
              ) else (
                some (l3, r3)
              )
            )
          ) else (
            jb_Fo_hoursToMeet_92 tb (lp_Fo_hoursToMeet_6 tb n) r3 l0 l1 l2 l3
          )
        )
      )
    )
def f_Fo_hoursToMeet (tb : Tb) (h : Hp) (l0 : Nat) (l1 : Int32) (l2 : Int32) : Option (Int32 × Hp) :=
  (f_Fo_beginTrial tb h l0).bind fun r1 =>
  lp_Fo_hoursToMeet_6 tb fu r1 l0 l1 l2 (1 : Int32)
set_option maxRecDepth 4000 in
set_option maxHeartbeats 1000000 in
theorem vjb_Fo_hoursToMeet_92 {E : En} {g : Gl} {tb : Tb} {ρ : Nat → Nat} (ok : TbOK tb) (hi : inj tb ρ) {r : Int32 × Hp} (X : CX E g tb ρ prog_4_method_6_code 4 RC3 6 151) (Y : CQ E g tb ρ (some .int) (some (.int r.1)) r.2) {c6 : Hp → Nat → Int32 → Int32 → Int32 → Option (Int32 × Hp)} (H6 : ∀ (h : Hp) (l0 : Nat) (l1 : Int32) (l2 : Int32) (l3 : Int32) (kl0 : kd tb l0 = 3), c6 h l0 l1 l2 l3 = some r → V E g tb ρ 4 6 [(0, .ref (ρ l0)), (1, .int l1), (2, .int l2), (3, .int l3)] [] h) (h : Hp) (l0 : Nat) (l1 : Int32) (l2 : Int32) (l3 : Int32) (kl0 : kd tb l0 = 3) (hf : jb_Fo_hoursToMeet_92 tb c6 h l0 l1 l2 l3 = some r) : V E g tb ρ 4 92 [(0, .ref (ρ l0)), (1, .int l1), (2, .int l2), (3, .int l3)] [] h := by
  unfold jb_Fo_hoursToMeet_92 at hf
  obtain ⟨x1, ex1, hf⟩ := nmd_e hf
  refine v_iinc (pc := 92) (k := 3) (n := 1) (v := x1) (lv' := [(3, .int x1), (0, .ref (ρ l0)), (1, .int l1), (2, .int l2)]) X (by decide +kernel) 3 rfl (by rw [ic_1, ex1]) (Nat.le_of_ble_eq_true rfl) rfl ?_
  refine v_goto (pc := 95) (off := -89) (tgt := 6) X (by decide +kernel) (by decide) ?_
  refine v_sub [1, 2, 3, 0] rfl ?_
  exact H6 h l0 l1 l2 x1 kl0 hf
set_option maxRecDepth 4000 in
set_option maxHeartbeats 1000000 in
theorem vlp_Fo_hoursToMeet_6 {E : En} {g : Gl} {tb : Tb} {ρ : Nat → Nat} (ok : TbOK tb) (hi : inj tb ρ) {r : Int32 × Hp} (X : CX E g tb ρ prog_4_method_6_code 4 RC3 6 151) (Y : CQ E g tb ρ (some .int) (some (.int r.1)) r.2) : ∀ (n : Nat) (h : Hp) (l0 : Nat) (l1 : Int32) (l2 : Int32) (l3 : Int32) (kl0 : kd tb l0 = 3), lp_Fo_hoursToMeet_6 tb n h l0 l1 l2 l3 = some r → V E g tb ρ 4 6 [(0, .ref (ρ l0)), (1, .int l1), (2, .int l2), (3, .int l3)] [] h := by
  intro n
  induction n with
  | zero =>
    intro h l0 l1 l2 l3 kl0 hf
    rw [lp_Fo_hoursToMeet_6] at hf
    cases hf
  | succ n ih =>
    intro h l0 l1 l2 l3 kl0 hf
    rw [lp_Fo_hoursToMeet_6] at hf
    refine v_iload_n (pc := 6) (k := 3) X (by decide +kernel) 3 rfl ?_
    refine v_sipush (pc := 7) (n := 199) X (by decide +kernel) si_199 ?_
    refine v_icmp_gt (pc := 10) (off := 88) (tgt := 98) X (by decide +kernel) (by decide) (fun q13 => ?_) (fun q13 => ?_)
    · rw [if_pos q13] at hf
      refine v_bipush (pc := 98) (n := -2) X (by decide +kernel) bi_m2 ?_
      cases hf
      exact v_iret X Y (by decide +kernel) rfl rfl
    · rw [if_neg q13] at hf
      refine v_aload_n (pc := 13) (k := 0) X (by decide +kernel) 0 rfl ?_
      refine v_geta (pc := 14) X fl_3_12 kl0 fk_3_3 (by decide +kernel) ?_
      refine v_iload_n (pc := 17) (k := 1) X (by decide +kernel) 1 rfl ?_
      obtain ⟨r1, er1, hf⟩ := nmd_e hf
      refine v_callV (pc := 18) (As := [.int l1]) (rest := []) X (mt_Wo_isOn ok hi (ly_3_3 ok kl0) er1.symm) ml_3_52 mv_Wo_isOn (ly_3_3 ok kl0) cls_11 rfl ⟨Nat.le_of_ble_eq_true rfl, Nat.le_of_ble_eq_true rfl⟩ rfl rfl (Nat.le_of_ble_eq_true rfl) (by decide +kernel) ?_
      change V E g tb ρ 4 21 [(0, .ref (ρ l0)), (1, .int l1), (2, .int l2), (3, .int l3)] [.int r1] h
      refine v_if_eq (pc := 21) (off := 77) (tgt := 98) X (by decide +kernel) (by decide) (fun q12 => ?_) (fun q12 => ?_)
      · rw [if_pos q12] at hf
        refine v_bipush (pc := 98) (n := -2) X (by decide +kernel) bi_m2 ?_
        cases hf
        exact v_iret X Y (by decide +kernel) rfl rfl
      · rw [if_neg q12] at hf
        refine v_aload_n (pc := 24) (k := 0) X (by decide +kernel) 0 rfl ?_
        refine v_geta (pc := 25) X fl_3_12 kl0 fk_3_3 (by decide +kernel) ?_
        refine v_iload_n (pc := 28) (k := 2) X (by decide +kernel) 2 rfl ?_
        obtain ⟨r2, er2, hf⟩ := nmd_e hf
        refine v_callV (pc := 29) (As := [.int l2]) (rest := []) X (mt_Wo_isOn ok hi (ly_3_3 ok kl0) er2.symm) ml_3_52 mv_Wo_isOn (ly_3_3 ok kl0) cls_11 rfl ⟨Nat.le_of_ble_eq_true rfl, Nat.le_of_ble_eq_true rfl⟩ rfl rfl (Nat.le_of_ble_eq_true rfl) (by decide +kernel) ?_
        change V E g tb ρ 4 32 [(0, .ref (ρ l0)), (1, .int l1), (2, .int l2), (3, .int l3)] [.int r2] h
        refine v_if_eq (pc := 32) (off := 66) (tgt := 98) X (by decide +kernel) (by decide) (fun q11 => ?_) (fun q11 => ?_)
        · rw [if_pos q11] at hf
          refine v_bipush (pc := 98) (n := -2) X (by decide +kernel) bi_m2 ?_
          cases hf
          exact v_iret X Y (by decide +kernel) rfl rfl
        · rw [if_neg q11] at hf
          refine v_aload_n (pc := 35) (k := 0) X (by decide +kernel) 0 rfl ?_
          refine v_geta (pc := 36) X fl_3_32 kl0 fk_3_2 (by decide +kernel) ?_
          refine v_aload_n (pc := 39) (k := 0) X (by decide +kernel) 0 rfl ?_
          refine v_geta (pc := 40) X fl_3_12 kl0 fk_3_3 (by decide +kernel) ?_
          refine v_iconst (pc := 43) (n := 1) X (by decide +kernel) ic_1 ?_
          obtain ⟨r3, er3, hf⟩ := bnd_e hf
          refine v_callV (pc := 44) (As := [.ref (ρ (lay tb l0 3)), .int (1 : Int32)]) (rest := []) X (mt_Ho_pass ok hi (ly_3_2 ok kl0) (ly_3_3 ok kl0) er3) ml_3_48 mv_Ho_pass (ly_3_2 ok kl0) cls_4 rfl ⟨Nat.le_of_ble_eq_true rfl, Nat.le_of_ble_eq_true rfl⟩ rfl rfl (Nat.le_of_ble_eq_true rfl) (by decide +kernel) ?_
          change V E g tb ρ 4 47 [(0, .ref (ρ l0)), (1, .int l1), (2, .int l2), (3, .int l3)] [] r3
          refine v_aload_n (pc := 47) (k := 0) X (by decide +kernel) 0 rfl ?_
          refine v_geta (pc := 48) X fl_3_12 kl0 fk_3_3 (by decide +kernel) ?_
          refine v_geta (pc := 51) X fl_3_60 (ly_3_3 ok kl0) fk_11_9 (by decide +kernel) ?_
          refine v_iload_n (pc := 54) (k := 1) X (by decide +kernel) 1 rfl ?_
          obtain ⟨x4, ex4, hf⟩ := bnd_e hf
          refine v_iald (pc := 55) X (ly_11_9 ok (ly_3_3 ok kl0)) ex4 (by decide +kernel) ?_
          refine v_aload_n (pc := 56) (k := 0) X (by decide +kernel) 0 rfl ?_
          refine v_geta (pc := 57) X fl_3_12 kl0 fk_3_3 (by decide +kernel) ?_
          refine v_geta (pc := 60) X fl_3_60 (ly_3_3 ok kl0) fk_11_9 (by decide +kernel) ?_
          refine v_iload_n (pc := 63) (k := 2) X (by decide +kernel) 2 rfl ?_
          obtain ⟨x5, ex5, hf⟩ := bnd_e hf
          refine v_iald (pc := 64) X (ly_11_9 ok (ly_3_3 ok kl0)) ex5 (by decide +kernel) ?_
          refine v_icmp_ne (pc := 65) (off := 27) (tgt := 92) X (by decide +kernel) (by decide) (fun q10 => ?_) (fun q10 => ?_)
          · rw [if_neg q10] at hf
            exact vjb_Fo_hoursToMeet_92 ok hi X Y ih r3 l0 l1 l2 l3 kl0 hf
          · rw [if_pos q10] at hf
            refine v_aload_n (pc := 68) (k := 0) X (by decide +kernel) 0 rfl ?_
            refine v_geta (pc := 69) X fl_3_12 kl0 fk_3_3 (by decide +kernel) ?_
            refine v_iload_n (pc := 72) (k := 1) X (by decide +kernel) 1 rfl ?_
            obtain ⟨r6, er6, hf⟩ := nmd_e hf
            refine v_callV (pc := 73) (As := [.int l1]) (rest := []) X (mt_Wo_isOn ok hi (ly_3_3 ok kl0) er6.symm) ml_3_52 mv_Wo_isOn (ly_3_3 ok kl0) cls_11 rfl ⟨Nat.le_of_ble_eq_true rfl, Nat.le_of_ble_eq_true rfl⟩ rfl rfl (Nat.le_of_ble_eq_true rfl) (by decide +kernel) ?_
            change V E g tb ρ 4 76 [(0, .ref (ρ l0)), (1, .int l1), (2, .int l2), (3, .int l3)] [.int r6] r3
            refine v_if_eq (pc := 76) (off := 16) (tgt := 92) X (by decide +kernel) (by decide) (fun q9 => ?_) (fun q9 => ?_)
            · rw [if_pos q9] at hf
              exact vjb_Fo_hoursToMeet_92 ok hi X Y ih r3 l0 l1 l2 l3 kl0 hf
            · rw [if_neg q9] at hf
              refine v_aload_n (pc := 79) (k := 0) X (by decide +kernel) 0 rfl ?_
              refine v_geta (pc := 80) X fl_3_12 kl0 fk_3_3 (by decide +kernel) ?_
              refine v_iload_n (pc := 83) (k := 2) X (by decide +kernel) 2 rfl ?_
              obtain ⟨r7, er7, hf⟩ := nmd_e hf
              refine v_callV (pc := 84) (As := [.int l2]) (rest := []) X (mt_Wo_isOn ok hi (ly_3_3 ok kl0) er7.symm) ml_3_52 mv_Wo_isOn (ly_3_3 ok kl0) cls_11 rfl ⟨Nat.le_of_ble_eq_true rfl, Nat.le_of_ble_eq_true rfl⟩ rfl rfl (Nat.le_of_ble_eq_true rfl) (by decide +kernel) ?_
              change V E g tb ρ 4 87 [(0, .ref (ρ l0)), (1, .int l1), (2, .int l2), (3, .int l3)] [.int r7] r3
              refine v_if_eq (pc := 87) (off := 5) (tgt := 92) X (by decide +kernel) (by decide) (fun q8 => ?_) (fun q8 => ?_)
              · rw [if_pos q8] at hf
                exact vjb_Fo_hoursToMeet_92 ok hi X Y ih r3 l0 l1 l2 l3 kl0 hf
              · rw [if_neg q8] at hf
                refine v_iload_n (pc := 90) (k := 3) X (by decide +kernel) 3 rfl ?_
                cases hf
                exact v_iret X Y (by decide +kernel) rfl rfl
set_option maxRecDepth 4000 in
set_option maxHeartbeats 1000000 in
theorem mt_Fo_hoursToMeet {g : Gl} {tb : Tb} {ρ : Nat → Nat} (ok : TbOK tb) (hi : inj tb ρ) {h : Hp} {l0 : Nat} {l1 : Int32} {l2 : Int32} (kl0 : kd tb l0 = 3) {r : Int32 × Hp} (hf : f_Fo_hoursToMeet tb h l0 l1 l2 = some r) : MT g y_Fo_hoursToMeet prog_4_method_6_code 4 (some .int) 6 151 tb ρ [.ref (ρ l0), .int l1, .int l2] h (some (.int r.1)) r.2 := by
  refine mt_intro (by decide +kernel) ok hi (Nat.le_of_ble_eq_true rfl) (fun E X Y => ?_)
  change V E g tb ρ 4 0 [(0, .ref (ρ l0)), (1, .int l1), (2, .int l2)] [] h
  unfold f_Fo_hoursToMeet at hf
  refine v_aload_n (pc := 0) (k := 0) X (by decide +kernel) 0 rfl ?_
  obtain ⟨r1, er1, hf⟩ := bnd_e hf
  refine v_callV (pc := 1) (As := []) (rest := []) X (mt_Fo_beginTrial ok hi kl0 er1) ml_3_45 mv_Fo_beginTrial kl0 cls_3 rfl ⟨Nat.le_of_ble_eq_true rfl, Nat.le_of_ble_eq_true rfl⟩ rfl rfl (Nat.le_of_ble_eq_true rfl) (by decide +kernel) ?_
  change V E g tb ρ 4 4 [(0, .ref (ρ l0)), (1, .int l1), (2, .int l2)] [] r1
  refine v_iconst (pc := 4) (n := 1) X (by decide +kernel) ic_1 ?_
  refine v_istore_n (pc := 5) (k := 3) (lv' := [(3, .int (1 : Int32)), (0, .ref (ρ l0)), (1, .int l1), (2, .int l2)]) X (by decide +kernel) (Nat.le_of_ble_eq_true rfl) rfl ?_
  refine v_sub [1, 2, 3, 0] rfl ?_
  exact vlp_Fo_hoursToMeet_6 ok hi X Y fu r1 l0 l1 l2 (1 : Int32) kl0 hf
def f_Tt_meet (tb : Tb) (h : Hp) (l0 : Nat) (l1 : Int32) (l2 : Int32) : Option (Int32 × Hp) :=
  nmd (f_Tt_areTwo tb h l0 l1 l2) fun r1 =>
  if r1 = (0 : Int32) then (
    some ((-1 : Int32), h)
  ) else (
    (f_Fo_hoursToMeet tb h (lay tb l0 10) l1 l2).bind fun r2 =>
    some (r2.1, r2.2)
  )
set_option maxRecDepth 4000 in
set_option maxHeartbeats 1000000 in
theorem mt_Tt_meet {g : Gl} {tb : Tb} {ρ : Nat → Nat} (ok : TbOK tb) (hi : inj tb ρ) {h : Hp} {l0 : Nat} {l1 : Int32} {l2 : Int32} (kl0 : kd tb l0 = 0) {r : Int32 × Hp} (hf : f_Tt_meet tb h l0 l1 l2 = some r) : MT g y_Tt_meet prog_1_method_34_code 3 (some .int) 7 174 tb ρ [.ref (ρ l0), .int l1, .int l2] h (some (.int r.1)) r.2 := by
  refine mt_intro (by decide +kernel) ok hi (Nat.le_of_ble_eq_true rfl) (fun E X Y => ?_)
  change V E g tb ρ 3 0 [(0, .ref (ρ l0)), (1, .int l1), (2, .int l2)] [] h
  unfold f_Tt_meet at hf
  refine v_aload_n (pc := 0) (k := 0) X (by decide +kernel) 0 rfl ?_
  refine v_iload_n (pc := 1) (k := 1) X (by decide +kernel) 1 rfl ?_
  refine v_iload_n (pc := 2) (k := 2) X (by decide +kernel) 2 rfl ?_
  obtain ⟨r1, er1, hf⟩ := nmd_e hf
  refine v_callV (pc := 3) (As := [.int l1, .int l2]) (rest := []) X (mt_Tt_areTwo ok hi kl0 er1.symm) ml_0_266 mv_Tt_areTwo kl0 cls_0 rfl ⟨Nat.le_of_ble_eq_true rfl, Nat.le_of_ble_eq_true rfl⟩ rfl rfl (Nat.le_of_ble_eq_true rfl) (by decide +kernel) ?_
  change V E g tb ρ 3 6 [(0, .ref (ρ l0)), (1, .int l1), (2, .int l2)] [.int r1] h
  refine v_if_eq (pc := 6) (off := 15) (tgt := 21) X (by decide +kernel) (by decide) (fun q3 => ?_) (fun q3 => ?_)
  · rw [if_pos q3] at hf
    refine v_iconst (pc := 21) (n := -1) X (by decide +kernel) ic_m1 ?_
    cases hf
    exact v_iret X Y (by decide +kernel) rfl rfl
  · rw [if_neg q3] at hf
    refine v_aload_n (pc := 9) (k := 0) X (by decide +kernel) 0 rfl ?_
    refine v_geta (pc := 10) X fl_0_77 kl0 fk_0_10 (by decide +kernel) ?_
    refine v_iload_n (pc := 13) (k := 1) X (by decide +kernel) 1 rfl ?_
    refine v_iload_n (pc := 14) (k := 2) X (by decide +kernel) 2 rfl ?_
    obtain ⟨r2, er2, hf⟩ := bnd_e hf
    refine v_callV (pc := 15) (As := [.int l1, .int l2]) (rest := []) X (mt_Fo_hoursToMeet ok hi (ly_0_10 ok kl0) er2) ml_0_293 mv_Fo_hoursToMeet (ly_0_10 ok kl0) cls_3 rfl ⟨Nat.le_of_ble_eq_true rfl, Nat.le_of_ble_eq_true rfl⟩ rfl rfl (Nat.le_of_ble_eq_true rfl) (by decide +kernel) ?_
    change V E g tb ρ 3 18 [(0, .ref (ρ l0)), (1, .int l1), (2, .int l2)] [.int r2.1] r2.2
    refine v_goto (pc := 18) (off := 4) (tgt := 22) X (by decide +kernel) (by decide) ?_
    cases hf
    exact v_iret X Y (by decide +kernel) rfl rfl
def jb_Cn_hoursOfAll_65 (tb : Tb) (c4 : Hp → Nat → Int32 → Int32 → Int32 → Option (Int32)) (h : Hp) (l0 : Nat) (l1 : Int32) (l2 : Int32) (l3 : Int32) : Option (Int32) :=
  nmd (l3 + (1 : Int32)) fun x1 =>
  c4 h l0 l1 l2 x1
def lp_Cn_hoursOfAll_4 (tb : Tb) : Nat → Hp → Nat → Int32 → Int32 → Int32 → Option (Int32)
  | 0, _, _, _, _, _ => none
  | n + 1, h, l0, l1, l2, l3 =>
    if (h.1 (lay tb l0 0) 4) ≤ l3 then (
      some l2
    ) else (
      nmd (f_Wo_isOn tb h (lay tb l0 1) l3) fun r1 =>
      if r1 = (0 : Int32) then (
        jb_Cn_hoursOfAll_65 tb (lp_Cn_hoursOfAll_4 tb n) h l0 l1 l2 l3
      ) else (
        (rI tb h (lay tb (lay tb l0 0) 7) l1).bind fun x2 =>
        (rI tb h (lay tb (lay tb l0 1) 9) l3).bind fun x3 =>
        nmd (abI (x2 - x3)) fun x4 =>
        (f_Pl_hoursFor tb h (lay tb l0 0) l3 x4).bind fun r5 =>
        nmd (mxI l2 r5) fun x6 =>
        jb_Cn_hoursOfAll_65 tb (lp_Cn_hoursOfAll_4 tb n) h l0 l1 x6 l3
      )
    )
def f_Cn_hoursOfAll (tb : Tb) (h : Hp) (l0 : Nat) (l1 : Int32) : Option (Int32) :=
  lp_Cn_hoursOfAll_4 tb fu h l0 l1 (0 : Int32) (0 : Int32)
set_option maxRecDepth 4000 in
set_option maxHeartbeats 1000000 in
theorem vjb_Cn_hoursOfAll_65 {E : En} {g : Gl} {tb : Tb} {ρ : Nat → Nat} (ok : TbOK tb) (hi : inj tb ρ) {r : Int32} (X : CX E g tb ρ prog_2_method_9_code 5 RC1 2 36) {h : Hp} (Y : CQ E g tb ρ (some .int) (some (.int r)) h) {c4 : Hp → Nat → Int32 → Int32 → Int32 → Option (Int32)} (H4 : ∀ (l0 : Nat) (l1 : Int32) (l2 : Int32) (l3 : Int32) (kl0 : kd tb l0 = 1), c4 h l0 l1 l2 l3 = some r → V E g tb ρ 5 4 [(0, .ref (ρ l0)), (1, .int l1), (2, .int l2), (3, .int l3)] [] h) (l0 : Nat) (l1 : Int32) (l2 : Int32) (l3 : Int32) (kl0 : kd tb l0 = 1) (hf : jb_Cn_hoursOfAll_65 tb c4 h l0 l1 l2 l3 = some r) : V E g tb ρ 5 65 [(0, .ref (ρ l0)), (1, .int l1), (2, .int l2), (3, .int l3)] [] h := by
  unfold jb_Cn_hoursOfAll_65 at hf
  obtain ⟨x1, ex1, hf⟩ := nmd_e hf
  refine v_iinc (pc := 65) (k := 3) (n := 1) (v := x1) (lv' := [(3, .int x1), (0, .ref (ρ l0)), (1, .int l1), (2, .int l2)]) X (by decide +kernel) 3 rfl (by rw [ic_1, ex1]) (Nat.le_of_ble_eq_true rfl) rfl ?_
  refine v_goto (pc := 68) (off := -64) (tgt := 4) X (by decide +kernel) (by decide) ?_
  refine v_sub [1, 2, 3, 0] rfl ?_
  exact H4 l0 l1 l2 x1 kl0 hf
set_option maxRecDepth 4000 in
set_option maxHeartbeats 1000000 in
theorem vlp_Cn_hoursOfAll_4 {E : En} {g : Gl} {tb : Tb} {ρ : Nat → Nat} (ok : TbOK tb) (hi : inj tb ρ) {r : Int32} (X : CX E g tb ρ prog_2_method_9_code 5 RC1 2 36) {h : Hp} (Y : CQ E g tb ρ (some .int) (some (.int r)) h) : ∀ (n : Nat) (l0 : Nat) (l1 : Int32) (l2 : Int32) (l3 : Int32) (kl0 : kd tb l0 = 1), lp_Cn_hoursOfAll_4 tb n h l0 l1 l2 l3 = some r → V E g tb ρ 5 4 [(0, .ref (ρ l0)), (1, .int l1), (2, .int l2), (3, .int l3)] [] h := by
  intro n
  induction n with
  | zero =>
    intro l0 l1 l2 l3 kl0 hf
    rw [lp_Cn_hoursOfAll_4] at hf
    cases hf
  | succ n ih =>
    intro l0 l1 l2 l3 kl0 hf
    rw [lp_Cn_hoursOfAll_4] at hf
    refine v_iload_n (pc := 4) (k := 3) X (by decide +kernel) 3 rfl ?_
    refine v_aload_n (pc := 5) (k := 0) X (by decide +kernel) 0 rfl ?_
    refine v_geta (pc := 6) X fl_1_18 kl0 fk_1_0 (by decide +kernel) ?_
    refine v_geti (pc := 9) X fl_1_92 (ly_1_0 ok kl0) rfl (by decide +kernel) ?_
    refine v_icmp_ge (pc := 12) (off := 59) (tgt := 71) X (by decide +kernel) (by decide) (fun q8 => ?_) (fun q8 => ?_)
    · rw [if_pos q8] at hf
      refine v_iload_n (pc := 71) (k := 2) X (by decide +kernel) 2 rfl ?_
      cases hf
      exact v_iret X Y (by decide +kernel) rfl rfl
    · rw [if_neg q8] at hf
      refine v_aload_n (pc := 15) (k := 0) X (by decide +kernel) 0 rfl ?_
      refine v_geta (pc := 16) X fl_1_22 kl0 fk_1_1 (by decide +kernel) ?_
      refine v_iload_n (pc := 19) (k := 3) X (by decide +kernel) 3 rfl ?_
      obtain ⟨r1, er1, hf⟩ := nmd_e hf
      refine v_callV (pc := 20) (As := [.int l3]) (rest := []) X (mt_Wo_isOn ok hi (ly_1_1 ok kl0) er1.symm) ml_1_95 mv_Wo_isOn (ly_1_1 ok kl0) cls_11 rfl ⟨Nat.le_of_ble_eq_true rfl, Nat.le_of_ble_eq_true rfl⟩ rfl rfl (Nat.le_of_ble_eq_true rfl) (by decide +kernel) ?_
      change V E g tb ρ 5 23 [(0, .ref (ρ l0)), (1, .int l1), (2, .int l2), (3, .int l3)] [.int r1] h
      refine v_if_eq (pc := 23) (off := 42) (tgt := 65) X (by decide +kernel) (by decide) (fun q7 => ?_) (fun q7 => ?_)
      · rw [if_pos q7] at hf
        exact vjb_Cn_hoursOfAll_65 ok hi X Y ih l0 l1 l2 l3 kl0 hf
      · rw [if_neg q7] at hf
        refine v_aload_n (pc := 26) (k := 0) X (by decide +kernel) 0 rfl ?_
        refine v_geta (pc := 27) X fl_1_18 kl0 fk_1_0 (by decide +kernel) ?_
        refine v_geta (pc := 30) X fl_1_26 (ly_1_0 ok kl0) fk_7_7 (by decide +kernel) ?_
        refine v_iload_n (pc := 33) (k := 1) X (by decide +kernel) 1 rfl ?_
        obtain ⟨x2, ex2, hf⟩ := bnd_e hf
        refine v_iald (pc := 34) X (ly_7_7 ok (ly_1_0 ok kl0)) ex2 (by decide +kernel) ?_
        refine v_aload_n (pc := 35) (k := 0) X (by decide +kernel) 0 rfl ?_
        refine v_geta (pc := 36) X fl_1_22 kl0 fk_1_1 (by decide +kernel) ?_
        refine v_geta (pc := 39) X fl_1_50 (ly_1_1 ok kl0) fk_11_9 (by decide +kernel) ?_
        refine v_iload_n (pc := 42) (k := 3) X (by decide +kernel) 3 rfl ?_
        obtain ⟨x3, ex3, hf⟩ := bnd_e hf
        refine v_iald (pc := 43) X (ly_11_9 ok (ly_1_1 ok kl0)) ex3 (by decide +kernel) ?_
        refine v_isub (pc := 44) X (by decide +kernel) ?_
        refine v_mabs (pc := 45) X mm_1_31 ms_mabs mc_mabs mi_math ⟨Nat.le_of_ble_eq_true rfl, Nat.le_of_ble_eq_true rfl⟩ (by decide +kernel) ?_
        obtain ⟨x4, ex4, hf⟩ := nmd_e hf
        refine v_nmi ex4 ?_
        refine v_istore (pc := 48) (k := 4) (lv' := [(4, .int x4), (0, .ref (ρ l0)), (1, .int l1), (2, .int l2), (3, .int l3)]) X (by decide +kernel) (Nat.le_of_ble_eq_true rfl) rfl ?_
        refine v_iload_n (pc := 50) (k := 2) X (by decide +kernel) 3 rfl ?_
        refine v_aload_n (pc := 51) (k := 0) X (by decide +kernel) 1 rfl ?_
        refine v_geta (pc := 52) X fl_1_18 kl0 fk_1_0 (by decide +kernel) ?_
        refine v_iload_n (pc := 55) (k := 3) X (by decide +kernel) 4 rfl ?_
        refine v_iload (pc := 56) (k := 4) X (by decide +kernel) 0 rfl ?_
        obtain ⟨r5, er5, hf⟩ := bnd_e hf
        refine v_callV (pc := 58) (As := [.int l3, .int x4]) (rest := [.int l2]) X (mt_Pl_hoursFor ok hi (ly_1_0 ok kl0) er5) ml_1_37 mv_Pl_hoursFor (ly_1_0 ok kl0) cls_7 rfl ⟨Nat.le_of_ble_eq_true rfl, Nat.le_of_ble_eq_true rfl⟩ rfl rfl (Nat.le_of_ble_eq_true rfl) (by decide +kernel) ?_
        change V E g tb ρ 5 61 [(4, .int x4), (0, .ref (ρ l0)), (1, .int l1), (2, .int l2), (3, .int l3)] [.int r5, .int l2] h
        refine v_mmax (pc := 61) X mm_1_83 ms_mmax mc_mmax mi_math ⟨Nat.le_of_ble_eq_true rfl, Nat.le_of_ble_eq_true rfl⟩ (by decide +kernel) ?_
        obtain ⟨x6, ex6, hf⟩ := nmd_e hf
        refine v_nmi ex6 ?_
        refine v_istore_n (pc := 64) (k := 2) (lv' := [(2, .int x6), (4, .int x4), (0, .ref (ρ l0)), (1, .int l1), (3, .int l3)]) X (by decide +kernel) (Nat.le_of_ble_eq_true rfl) rfl ?_
        refine v_sub [2, 3, 0, 4] rfl ?_
        exact vjb_Cn_hoursOfAll_65 ok hi X Y ih l0 l1 x6 l3 kl0 hf
set_option maxRecDepth 4000 in
set_option maxHeartbeats 1000000 in
theorem mt_Cn_hoursOfAll {g : Gl} {tb : Tb} {ρ : Nat → Nat} (ok : TbOK tb) (hi : inj tb ρ) {h : Hp} {l0 : Nat} {l1 : Int32} (kl0 : kd tb l0 = 1) {r : Int32} (hf : f_Cn_hoursOfAll tb h l0 l1 = some r) : MT g y_Cn_hoursOfAll prog_2_method_9_code 5 (some .int) 2 36 tb ρ [.ref (ρ l0), .int l1] h (some (.int r)) h := by
  refine mt_intro (by decide +kernel) ok hi (Nat.le_of_ble_eq_true rfl) (fun E X Y => ?_)
  change V E g tb ρ 5 0 [(0, .ref (ρ l0)), (1, .int l1)] [] h
  unfold f_Cn_hoursOfAll at hf
  refine v_iconst (pc := 0) (n := 0) X (by decide +kernel) ic_0 ?_
  refine v_istore_n (pc := 1) (k := 2) (lv' := [(2, .int (0 : Int32)), (0, .ref (ρ l0)), (1, .int l1)]) X (by decide +kernel) (Nat.le_of_ble_eq_true rfl) rfl ?_
  refine v_iconst (pc := 2) (n := 0) X (by decide +kernel) ic_0 ?_
  refine v_istore_n (pc := 3) (k := 3) (lv' := [(3, .int (0 : Int32)), (2, .int (0 : Int32)), (0, .ref (ρ l0)), (1, .int l1)]) X (by decide +kernel) (Nat.le_of_ble_eq_true rfl) rfl ?_
  refine v_sub [2, 3, 1, 0] rfl ?_
  exact vlp_Cn_hoursOfAll_4 ok hi X Y fu l0 l1 (0 : Int32) (0 : Int32) kl0 hf
def jb_Cn_gathering_41 (tb : Tb) (c9 : Hp → Nat → Int32 → Int32 → Int32 → Int32 → Option (Int32)) (h : Hp) (l0 : Nat) (l1 : Int32) (l2 : Int32) (l3 : Int32) (l4 : Int32) : Option (Int32) :=
  nmd (l4 + (1 : Int32)) fun x1 =>
  c9 h l0 l1 l2 l3 x1
def lp_Cn_gathering_9 (tb : Tb) : Nat → Hp → Nat → Int32 → Int32 → Int32 → Int32 → Option (Int32)
  | 0, _, _, _, _, _, _ => none
  | n + 1, h, l0, l1, l2, l3, l4 =>
    if (h.1 (lay tb l0 0) 3) ≤ l4 then (
      if l1 = (0 : Int32) then (
        some l2
      ) else (
        if l2 = (-2 : Int32) then (
          some l2
        ) else (
          some l3
        )
      )
    ) else (
      (f_Cn_hoursOfAll tb h l0 l4).bind fun r3 =>
      if l3 ≤ r3 then (
        jb_Cn_gathering_41 tb (lp_Cn_gathering_9 tb n) h l0 l1 l2 l3 l4
      ) else (
        jb_Cn_gathering_41 tb (lp_Cn_gathering_9 tb n) h l0 l1 l4 r3 l4
      )
    )
def f_Cn_gathering (tb : Tb) (h : Hp) (l0 : Nat) (l1 : Int32) : Option (Int32) :=
  lp_Cn_gathering_9 tb fu h l0 l1 (-2 : Int32) (2147483647 : Int32) (0 : Int32)
set_option maxRecDepth 4000 in
set_option maxHeartbeats 1000000 in
theorem vjb_Cn_gathering_41 {E : En} {g : Gl} {tb : Tb} {ρ : Nat → Nat} (ok : TbOK tb) (hi : inj tb ρ) {r : Int32} (X : CX E g tb ρ prog_2_method_8_code 6 RC1 3 60) {h : Hp} (Y : CQ E g tb ρ (some .int) (some (.int r)) h) {c9 : Hp → Nat → Int32 → Int32 → Int32 → Int32 → Option (Int32)} (H9 : ∀ (l0 : Nat) (l1 : Int32) (l2 : Int32) (l3 : Int32) (l4 : Int32) (kl0 : kd tb l0 = 1), c9 h l0 l1 l2 l3 l4 = some r → V E g tb ρ 6 9 [(0, .ref (ρ l0)), (1, .int l1), (2, .int l2), (3, .int l3), (4, .int l4)] [] h) (l0 : Nat) (l1 : Int32) (l2 : Int32) (l3 : Int32) (l4 : Int32) (kl0 : kd tb l0 = 1) (hf : jb_Cn_gathering_41 tb c9 h l0 l1 l2 l3 l4 = some r) : V E g tb ρ 6 41 [(0, .ref (ρ l0)), (1, .int l1), (2, .int l2), (3, .int l3), (4, .int l4)] [] h := by
  unfold jb_Cn_gathering_41 at hf
  obtain ⟨x1, ex1, hf⟩ := nmd_e hf
  refine v_iinc (pc := 41) (k := 4) (n := 1) (v := x1) (lv' := [(4, .int x1), (0, .ref (ρ l0)), (1, .int l1), (2, .int l2), (3, .int l3)]) X (by decide +kernel) 4 rfl (by rw [ic_1, ex1]) (Nat.le_of_ble_eq_true rfl) rfl ?_
  refine v_goto (pc := 44) (off := -35) (tgt := 9) X (by decide +kernel) (by decide) ?_
  refine v_sub [1, 2, 3, 4, 0] rfl ?_
  exact H9 l0 l1 l2 l3 x1 kl0 hf
set_option maxRecDepth 4000 in
set_option maxHeartbeats 1000000 in
theorem vlp_Cn_gathering_9 {E : En} {g : Gl} {tb : Tb} {ρ : Nat → Nat} (ok : TbOK tb) (hi : inj tb ρ) {r : Int32} (X : CX E g tb ρ prog_2_method_8_code 6 RC1 3 60) {h : Hp} (Y : CQ E g tb ρ (some .int) (some (.int r)) h) : ∀ (n : Nat) (l0 : Nat) (l1 : Int32) (l2 : Int32) (l3 : Int32) (l4 : Int32) (kl0 : kd tb l0 = 1), lp_Cn_gathering_9 tb n h l0 l1 l2 l3 l4 = some r → V E g tb ρ 6 9 [(0, .ref (ρ l0)), (1, .int l1), (2, .int l2), (3, .int l3), (4, .int l4)] [] h := by
  intro n
  induction n with
  | zero =>
    intro l0 l1 l2 l3 l4 kl0 hf
    rw [lp_Cn_gathering_9] at hf
    cases hf
  | succ n ih =>
    intro l0 l1 l2 l3 l4 kl0 hf
    rw [lp_Cn_gathering_9] at hf
    refine v_iload (pc := 9) (k := 4) X (by decide +kernel) 4 rfl ?_
    refine v_aload_n (pc := 11) (k := 0) X (by decide +kernel) 0 rfl ?_
    refine v_geta (pc := 12) X fl_1_18 kl0 fk_1_0 (by decide +kernel) ?_
    refine v_geti (pc := 15) X fl_1_41 (ly_1_0 ok kl0) rfl (by decide +kernel) ?_
    refine v_icmp_ge (pc := 18) (off := 29) (tgt := 47) X (by decide +kernel) (by decide) (fun q5 => ?_) (fun q5 => ?_)
    · rw [if_pos q5] at hf
      refine v_iload_n (pc := 47) (k := 1) X (by decide +kernel) 1 rfl ?_
      refine v_if_eq (pc := 48) (off := 13) (tgt := 61) X (by decide +kernel) (by decide) (fun q2 => ?_) (fun q2 => ?_)
      · rw [if_pos q2] at hf
        refine v_iload_n (pc := 61) (k := 2) X (by decide +kernel) 2 rfl ?_
        cases hf
        exact v_iret X Y (by decide +kernel) rfl rfl
      · rw [if_neg q2] at hf
        refine v_iload_n (pc := 51) (k := 2) X (by decide +kernel) 2 rfl ?_
        refine v_bipush (pc := 52) (n := -2) X (by decide +kernel) bi_m2 ?_
        refine v_icmp_eq (pc := 54) (off := 7) (tgt := 61) X (by decide +kernel) (by decide) (fun q1 => ?_) (fun q1 => ?_)
        · rw [if_pos q1] at hf
          refine v_iload_n (pc := 61) (k := 2) X (by decide +kernel) 2 rfl ?_
          cases hf
          exact v_iret X Y (by decide +kernel) rfl rfl
        · rw [if_neg q1] at hf
          refine v_iload_n (pc := 57) (k := 3) X (by decide +kernel) 3 rfl ?_
          refine v_goto (pc := 58) (off := 4) (tgt := 62) X (by decide +kernel) (by decide) ?_
          cases hf
          exact v_iret X Y (by decide +kernel) rfl rfl
    · rw [if_neg q5] at hf
      refine v_aload_n (pc := 21) (k := 0) X (by decide +kernel) 0 rfl ?_
      refine v_iload (pc := 22) (k := 4) X (by decide +kernel) 4 rfl ?_
      obtain ⟨r3, er3, hf⟩ := bnd_e hf
      refine v_callV (pc := 24) (As := [.int l4]) (rest := []) X (mt_Cn_hoursOfAll ok hi kl0 er3) ml_1_89 mv_Cn_hoursOfAll kl0 cls_1 rfl ⟨Nat.le_of_ble_eq_true rfl, Nat.le_of_ble_eq_true rfl⟩ rfl rfl (Nat.le_of_ble_eq_true rfl) (by decide +kernel) ?_
      change V E g tb ρ 6 27 [(0, .ref (ρ l0)), (1, .int l1), (2, .int l2), (3, .int l3), (4, .int l4)] [.int r3] h
      refine v_istore (pc := 27) (k := 5) (lv' := [(5, .int r3), (0, .ref (ρ l0)), (1, .int l1), (2, .int l2), (3, .int l3), (4, .int l4)]) X (by decide +kernel) (Nat.le_of_ble_eq_true rfl) rfl ?_
      refine v_iload (pc := 29) (k := 5) X (by decide +kernel) 0 rfl ?_
      refine v_iload_n (pc := 31) (k := 3) X (by decide +kernel) 4 rfl ?_
      refine v_icmp_ge (pc := 32) (off := 9) (tgt := 41) X (by decide +kernel) (by decide) (fun q4 => ?_) (fun q4 => ?_)
      · rw [if_pos q4] at hf
        refine v_sub [1, 2, 3, 4, 5] rfl ?_
        exact vjb_Cn_gathering_41 ok hi X Y ih l0 l1 l2 l3 l4 kl0 hf
      · rw [if_neg q4] at hf
        refine v_iload (pc := 35) (k := 5) X (by decide +kernel) 0 rfl ?_
        refine v_istore_n (pc := 37) (k := 3) (lv' := [(3, .int r3), (5, .int r3), (0, .ref (ρ l0)), (1, .int l1), (2, .int l2), (4, .int l4)]) X (by decide +kernel) (Nat.le_of_ble_eq_true rfl) rfl ?_
        refine v_iload (pc := 38) (k := 4) X (by decide +kernel) 5 rfl ?_
        refine v_istore_n (pc := 40) (k := 2) (lv' := [(2, .int l4), (3, .int r3), (5, .int r3), (0, .ref (ρ l0)), (1, .int l1), (4, .int l4)]) X (by decide +kernel) (Nat.le_of_ble_eq_true rfl) rfl ?_
        refine v_sub [3, 4, 0, 1, 5] rfl ?_
        exact vjb_Cn_gathering_41 ok hi X Y ih l0 l1 l4 r3 l4 kl0 hf
set_option maxRecDepth 4000 in
set_option maxHeartbeats 1000000 in
theorem mt_Cn_gathering {g : Gl} {tb : Tb} {ρ : Nat → Nat} (ok : TbOK tb) (hi : inj tb ρ) {h : Hp} {l0 : Nat} {l1 : Int32} (kl0 : kd tb l0 = 1) {r : Int32} (hf : f_Cn_gathering tb h l0 l1 = some r) : MT g y_Cn_gathering prog_2_method_8_code 6 (some .int) 3 60 tb ρ [.ref (ρ l0), .int l1] h (some (.int r)) h := by
  refine mt_intro (by decide +kernel) ok hi (Nat.le_of_ble_eq_true rfl) (fun E X Y => ?_)
  change V E g tb ρ 6 0 [(0, .ref (ρ l0)), (1, .int l1)] [] h
  unfold f_Cn_gathering at hf
  refine v_bipush (pc := 0) (n := -2) X (by decide +kernel) bi_m2 ?_
  refine v_istore_n (pc := 2) (k := 2) (lv' := [(2, .int (-2 : Int32)), (0, .ref (ρ l0)), (1, .int l1)]) X (by decide +kernel) (Nat.le_of_ble_eq_true rfl) rfl ?_
  refine v_ldc (pc := 3) X (by decide +kernel) kc_1_88 ?_
  refine v_istore_n (pc := 5) (k := 3) (lv' := [(3, .int (2147483647 : Int32)), (2, .int (-2 : Int32)), (0, .ref (ρ l0)), (1, .int l1)]) X (by decide +kernel) (Nat.le_of_ble_eq_true rfl) rfl ?_
  refine v_iconst (pc := 6) (n := 0) X (by decide +kernel) ic_0 ?_
  refine v_istore (pc := 7) (k := 4) (lv' := [(4, .int (0 : Int32)), (3, .int (2147483647 : Int32)), (2, .int (-2 : Int32)), (0, .ref (ρ l0)), (1, .int l1)]) X (by decide +kernel) (Nat.le_of_ble_eq_true rfl) rfl ?_
  refine v_sub [3, 4, 2, 1, 0] rfl ?_
  exact vlp_Cn_gathering_9 ok hi X Y fu l0 l1 (-2 : Int32) (2147483647 : Int32) (0 : Int32) kl0 hf
def jb_Tt_gather_40 (tb : Tb) (h : Hp) (s0 : Nat) (s1 : Int32) : Option (Int32) :=
  (f_Cn_gathering tb h s0 s1).bind fun r1 =>
  some r1
def f_Tt_gather (tb : Tb) (h : Hp) (l0 : Nat) (l1 : Int32) : Option (Int32) :=
  if l1 < (0 : Int32) then (
    some (-1 : Int32)
  ) else (
    if l1 ≤ (1 : Int32) then (
      if (h.1 (lay tb l0 4) 2) = (0 : Int32) then (
        some (-2 : Int32)
      ) else (
        if l1 = (1 : Int32) then (
          jb_Tt_gather_40 tb h (lay tb l0 11) (1 : Int32)
        ) else (
          jb_Tt_gather_40 tb h (lay tb l0 11) (0 : Int32)
        )
      )
    ) else (
      some (-1 : Int32)
    )
  )
set_option maxRecDepth 4000 in
set_option maxHeartbeats 1000000 in
theorem vjb_Tt_gather_40 {E : En} {g : Gl} {tb : Tb} {ρ : Nat → Nat} (ok : TbOK tb) (hi : inj tb ρ) {r : Int32} (X : CX E g tb ρ prog_1_method_35_code 2 RC0 4 85) {h : Hp} (Y : CQ E g tb ρ (some .int) (some (.int r)) h) (s0 : Nat) (s1 : Int32) (ks0 : kd tb s0 = 1) (hf : jb_Tt_gather_40 tb h s0 s1 = some r) : V E g tb ρ 2 40 [] [.int s1, .ref (ρ s0)] h := by
  unfold jb_Tt_gather_40 at hf
  obtain ⟨r1, er1, hf⟩ := bnd_e hf
  refine v_callV (pc := 40) (As := [.int s1]) (rest := []) X (mt_Cn_gathering ok hi ks0 er1) ml_0_296 mv_Cn_gathering ks0 cls_1 rfl ⟨Nat.le_of_ble_eq_true rfl, Nat.le_of_ble_eq_true rfl⟩ rfl rfl (Nat.le_of_ble_eq_true rfl) (by decide +kernel) ?_
  change V E g tb ρ 2 43 [] [.int r1] h
  cases hf
  exact v_iret X Y (by decide +kernel) rfl rfl
set_option maxRecDepth 4000 in
set_option maxHeartbeats 1000000 in
theorem mt_Tt_gather {g : Gl} {tb : Tb} {ρ : Nat → Nat} (ok : TbOK tb) (hi : inj tb ρ) {h : Hp} {l0 : Nat} {l1 : Int32} (kl0 : kd tb l0 = 0) {r : Int32} (hf : f_Tt_gather tb h l0 l1 = some r) : MT g y_Tt_gather prog_1_method_35_code 2 (some .int) 4 85 tb ρ [.ref (ρ l0), .int l1] h (some (.int r)) h := by
  refine mt_intro (by decide +kernel) ok hi (Nat.le_of_ble_eq_true rfl) (fun E X Y => ?_)
  change V E g tb ρ 2 0 [(0, .ref (ρ l0)), (1, .int l1)] [] h
  unfold f_Tt_gather at hf
  refine v_iload_n (pc := 0) (k := 1) X (by decide +kernel) 1 rfl ?_
  refine v_if_lt (pc := 1) (off := 8) (tgt := 9) X (by decide +kernel) (by decide) (fun q4 => ?_) (fun q4 => ?_)
  · rw [if_pos q4] at hf
    refine v_iconst (pc := 9) (n := -1) X (by decide +kernel) ic_m1 ?_
    cases hf
    exact v_iret X Y (by decide +kernel) rfl rfl
  · rw [if_neg q4] at hf
    refine v_iload_n (pc := 4) (k := 1) X (by decide +kernel) 1 rfl ?_
    refine v_iconst (pc := 5) (n := 1) X (by decide +kernel) ic_1 ?_
    refine v_icmp_le (pc := 6) (off := 5) (tgt := 11) X (by decide +kernel) (by decide) (fun q3 => ?_) (fun q3 => ?_)
    · rw [if_pos q3] at hf
      refine v_aload_n (pc := 11) (k := 0) X (by decide +kernel) 0 rfl ?_
      refine v_geta (pc := 12) X fl_0_38 kl0 fk_0_4 (by decide +kernel) ?_
      refine v_geti (pc := 15) X fl_0_228 (ly_0_4 ok kl0) rfl (by decide +kernel) ?_
      refine v_if_ne (pc := 18) (off := 8) (tgt := 26) X (by decide +kernel) (by decide) (fun q2 => ?_) (fun q2 => ?_)
      · rw [if_neg q2] at hf
        refine v_aload_n (pc := 26) (k := 0) X (by decide +kernel) 0 rfl ?_
        refine v_geta (pc := 27) X fl_0_86 kl0 fk_0_11 (by decide +kernel) ?_
        refine v_iload_n (pc := 30) (k := 1) X (by decide +kernel) 1 rfl ?_
        refine v_iconst (pc := 31) (n := 1) X (by decide +kernel) ic_1 ?_
        refine v_icmp_ne (pc := 32) (off := 7) (tgt := 39) X (by decide +kernel) (by decide) (fun q1 => ?_) (fun q1 => ?_)
        · rw [if_neg q1] at hf
          refine v_iconst (pc := 39) (n := 0) X (by decide +kernel) ic_0 ?_
          refine v_sub [] rfl ?_
          exact vjb_Tt_gather_40 ok hi X Y (lay tb l0 11) (0 : Int32) (ly_0_11 ok kl0) hf
        · rw [if_pos q1] at hf
          refine v_iconst (pc := 35) (n := 1) X (by decide +kernel) ic_1 ?_
          refine v_goto (pc := 36) (off := 4) (tgt := 40) X (by decide +kernel) (by decide) ?_
          refine v_sub [] rfl ?_
          exact vjb_Tt_gather_40 ok hi X Y (lay tb l0 11) (1 : Int32) (ly_0_11 ok kl0) hf
      · rw [if_pos q2] at hf
        refine v_bipush (pc := 21) (n := -2) X (by decide +kernel) bi_m2 ?_
        refine v_goto (pc := 23) (off := 20) (tgt := 43) X (by decide +kernel) (by decide) ?_
        cases hf
        exact v_iret X Y (by decide +kernel) rfl rfl
    · rw [if_neg q3] at hf
      refine v_iconst (pc := 9) (n := -1) X (by decide +kernel) ic_m1 ?_
      cases hf
      exact v_iret X Y (by decide +kernel) rfl rfl
def jb_Tt_sides_40 (tb : Tb) (c4 : Hp → Nat → Int32 → Int32 → Option (Int32)) (h : Hp) (l0 : Nat) (l1 : Int32) (l2 : Int32) : Option (Int32) :=
  nmd (l2 + (1 : Int32)) fun x1 =>
  c4 h l0 l1 x1
def lp_Tt_sides_4 (tb : Tb) : Nat → Hp → Nat → Int32 → Int32 → Option (Int32)
  | 0, _, _, _, _ => none
  | n + 1, h, l0, l1, l2 =>
    if (h.1 (lay tb l0 3) 4) ≤ l2 then (
      some l1
    ) else (
      nmd (f_Wo_isOn tb h (lay tb l0 4) l2) fun r1 =>
      if r1 = (0 : Int32) then (
        jb_Tt_sides_40 tb (lp_Tt_sides_4 tb n) h l0 l1 l2
      ) else (
        (rI tb h (lay tb (lay tb l0 3) 12) l2).bind fun x2 =>
        nmd (l1 ||| ((1 : Int32) <<< (x2 &&& 31))) fun x3 =>
        jb_Tt_sides_40 tb (lp_Tt_sides_4 tb n) h l0 x3 l2
      )
    )
def f_Tt_sides (tb : Tb) (h : Hp) (l0 : Nat) : Option (Int32) :=
  lp_Tt_sides_4 tb fu h l0 (0 : Int32) (0 : Int32)
set_option maxRecDepth 4000 in
set_option maxHeartbeats 1000000 in
theorem vjb_Tt_sides_40 {E : En} {g : Gl} {tb : Tb} {ρ : Nat → Nat} (ok : TbOK tb) (hi : inj tb ρ) {r : Int32} (X : CX E g tb ρ prog_1_method_36_code 3 RC0 1 21) {h : Hp} (Y : CQ E g tb ρ (some .int) (some (.int r)) h) {c4 : Hp → Nat → Int32 → Int32 → Option (Int32)} (H4 : ∀ (l0 : Nat) (l1 : Int32) (l2 : Int32) (kl0 : kd tb l0 = 0), c4 h l0 l1 l2 = some r → V E g tb ρ 3 4 [(0, .ref (ρ l0)), (1, .int l1), (2, .int l2)] [] h) (l0 : Nat) (l1 : Int32) (l2 : Int32) (kl0 : kd tb l0 = 0) (hf : jb_Tt_sides_40 tb c4 h l0 l1 l2 = some r) : V E g tb ρ 3 40 [(0, .ref (ρ l0)), (1, .int l1), (2, .int l2)] [] h := by
  unfold jb_Tt_sides_40 at hf
  obtain ⟨x1, ex1, hf⟩ := nmd_e hf
  refine v_iinc (pc := 40) (k := 2) (n := 1) (v := x1) (lv' := [(2, .int x1), (0, .ref (ρ l0)), (1, .int l1)]) X (by decide +kernel) 2 rfl (by rw [ic_1, ex1]) (Nat.le_of_ble_eq_true rfl) rfl ?_
  refine v_goto (pc := 43) (off := -39) (tgt := 4) X (by decide +kernel) (by decide) ?_
  refine v_sub [1, 2, 0] rfl ?_
  exact H4 l0 l1 x1 kl0 hf
set_option maxRecDepth 4000 in
set_option maxHeartbeats 1000000 in
theorem vlp_Tt_sides_4 {E : En} {g : Gl} {tb : Tb} {ρ : Nat → Nat} (ok : TbOK tb) (hi : inj tb ρ) {r : Int32} (X : CX E g tb ρ prog_1_method_36_code 3 RC0 1 21) {h : Hp} (Y : CQ E g tb ρ (some .int) (some (.int r)) h) : ∀ (n : Nat) (l0 : Nat) (l1 : Int32) (l2 : Int32) (kl0 : kd tb l0 = 0), lp_Tt_sides_4 tb n h l0 l1 l2 = some r → V E g tb ρ 3 4 [(0, .ref (ρ l0)), (1, .int l1), (2, .int l2)] [] h := by
  intro n
  induction n with
  | zero =>
    intro l0 l1 l2 kl0 hf
    rw [lp_Tt_sides_4] at hf
    cases hf
  | succ n ih =>
    intro l0 l1 l2 kl0 hf
    rw [lp_Tt_sides_4] at hf
    refine v_iload_n (pc := 4) (k := 2) X (by decide +kernel) 2 rfl ?_
    refine v_aload_n (pc := 5) (k := 0) X (by decide +kernel) 0 rfl ?_
    refine v_geta (pc := 6) X fl_0_31 kl0 fk_0_3 (by decide +kernel) ?_
    refine v_geti (pc := 9) X fl_0_129 (ly_0_3 ok kl0) rfl (by decide +kernel) ?_
    refine v_icmp_ge (pc := 12) (off := 34) (tgt := 46) X (by decide +kernel) (by decide) (fun q5 => ?_) (fun q5 => ?_)
    · rw [if_pos q5] at hf
      refine v_iload_n (pc := 46) (k := 1) X (by decide +kernel) 1 rfl ?_
      cases hf
      exact v_iret X Y (by decide +kernel) rfl rfl
    · rw [if_neg q5] at hf
      refine v_aload_n (pc := 15) (k := 0) X (by decide +kernel) 0 rfl ?_
      refine v_geta (pc := 16) X fl_0_38 kl0 fk_0_4 (by decide +kernel) ?_
      refine v_iload_n (pc := 19) (k := 2) X (by decide +kernel) 2 rfl ?_
      obtain ⟨r1, er1, hf⟩ := nmd_e hf
      refine v_callV (pc := 20) (As := [.int l2]) (rest := []) X (mt_Wo_isOn ok hi (ly_0_4 ok kl0) er1.symm) ml_0_156 mv_Wo_isOn (ly_0_4 ok kl0) cls_11 rfl ⟨Nat.le_of_ble_eq_true rfl, Nat.le_of_ble_eq_true rfl⟩ rfl rfl (Nat.le_of_ble_eq_true rfl) (by decide +kernel) ?_
      change V E g tb ρ 3 23 [(0, .ref (ρ l0)), (1, .int l1), (2, .int l2)] [.int r1] h
      refine v_if_eq (pc := 23) (off := 17) (tgt := 40) X (by decide +kernel) (by decide) (fun q4 => ?_) (fun q4 => ?_)
      · rw [if_pos q4] at hf
        exact vjb_Tt_sides_40 ok hi X Y ih l0 l1 l2 kl0 hf
      · rw [if_neg q4] at hf
        refine v_iload_n (pc := 26) (k := 1) X (by decide +kernel) 1 rfl ?_
        refine v_iconst (pc := 27) (n := 1) X (by decide +kernel) ic_1 ?_
        refine v_aload_n (pc := 28) (k := 0) X (by decide +kernel) 0 rfl ?_
        refine v_geta (pc := 29) X fl_0_31 kl0 fk_0_3 (by decide +kernel) ?_
        refine v_geta (pc := 32) X fl_0_139 (ly_0_3 ok kl0) fk_7_12 (by decide +kernel) ?_
        refine v_iload_n (pc := 35) (k := 2) X (by decide +kernel) 2 rfl ?_
        obtain ⟨x2, ex2, hf⟩ := bnd_e hf
        refine v_iald (pc := 36) X (ly_7_12 ok (ly_0_3 ok kl0)) ex2 (by decide +kernel) ?_
        refine v_ishl (pc := 37) X (by decide +kernel) ?_
        refine v_ior (pc := 38) X (by decide +kernel) ?_
        obtain ⟨x3, ex3, hf⟩ := nmd_e hf
        refine v_nmi ex3 ?_
        refine v_istore_n (pc := 39) (k := 1) (lv' := [(1, .int x3), (0, .ref (ρ l0)), (2, .int l2)]) X (by decide +kernel) (Nat.le_of_ble_eq_true rfl) rfl ?_
        refine v_sub [1, 0, 2] rfl ?_
        exact vjb_Tt_sides_40 ok hi X Y ih l0 x3 l2 kl0 hf
set_option maxRecDepth 4000 in
set_option maxHeartbeats 1000000 in
theorem mt_Tt_sides {g : Gl} {tb : Tb} {ρ : Nat → Nat} (ok : TbOK tb) (hi : inj tb ρ) {h : Hp} {l0 : Nat} (kl0 : kd tb l0 = 0) {r : Int32} (hf : f_Tt_sides tb h l0 = some r) : MT g y_Tt_sides prog_1_method_36_code 3 (some .int) 1 21 tb ρ [.ref (ρ l0)] h (some (.int r)) h := by
  refine mt_intro (by decide +kernel) ok hi (Nat.le_of_ble_eq_true rfl) (fun E X Y => ?_)
  change V E g tb ρ 3 0 [(0, .ref (ρ l0))] [] h
  unfold f_Tt_sides at hf
  refine v_iconst (pc := 0) (n := 0) X (by decide +kernel) ic_0 ?_
  refine v_istore_n (pc := 1) (k := 1) (lv' := [(1, .int (0 : Int32)), (0, .ref (ρ l0))]) X (by decide +kernel) (Nat.le_of_ble_eq_true rfl) rfl ?_
  refine v_iconst (pc := 2) (n := 0) X (by decide +kernel) ic_0 ?_
  refine v_istore_n (pc := 3) (k := 2) (lv' := [(2, .int (0 : Int32)), (1, .int (0 : Int32)), (0, .ref (ρ l0))]) X (by decide +kernel) (Nat.le_of_ble_eq_true rfl) rfl ?_
  refine v_sub [2, 1, 0] rfl ?_
  exact vlp_Tt_sides_4 ok hi X Y fu l0 (0 : Int32) (0 : Int32) kl0 hf
def jb_Tt_enemies_50 (tb : Tb) (c17 : Hp → Nat → Int32 → Int32 → Int32 → Option (Int32)) (h : Hp) (l0 : Nat) (l1 : Int32) (l2 : Int32) (l3 : Int32) : Option (Int32) :=
  nmd (l3 + (1 : Int32)) fun x1 =>
  c17 h l0 l1 l2 x1
def lp_Tt_enemies_17 (tb : Tb) : Nat → Hp → Nat → Int32 → Int32 → Int32 → Option (Int32)
  | 0, _, _, _, _, _ => none
  | n + 1, h, l0, l1, l2, l3 =>
    if (h.1 (lay tb l0 3) 4) ≤ l3 then (
      some l2
    ) else (
      (f_Pl_areEnemies tb h (lay tb l0 3) (lay tb l0 4) l1 l3).bind fun r1 =>
      if r1 = (0 : Int32) then (
        jb_Tt_enemies_50 tb (lp_Tt_enemies_17 tb n) h l0 l1 l2 l3
      ) else (
        nmd (l2 ||| ((1 : Int32) <<< (l3 &&& 31))) fun x2 =>
        jb_Tt_enemies_50 tb (lp_Tt_enemies_17 tb n) h l0 l1 x2 l3
      )
    )
def f_Tt_enemies (tb : Tb) (h : Hp) (l0 : Nat) (l1 : Int32) : Option (Int32) :=
  nmd (f_Pl_hasHorse tb h (lay tb l0 3) l1) fun r1 =>
  if r1 = (0 : Int32) then (
    some (-1 : Int32)
  ) else (
    lp_Tt_enemies_17 tb fu h l0 l1 (0 : Int32) (0 : Int32)
  )
set_option maxRecDepth 4000 in
set_option maxHeartbeats 1000000 in
theorem vjb_Tt_enemies_50 {E : En} {g : Gl} {tb : Tb} {ρ : Nat → Nat} (ok : TbOK tb) (hi : inj tb ρ) {r : Int32} (X : CX E g tb ρ prog_1_method_37_code 4 RC0 2 44) {h : Hp} (Y : CQ E g tb ρ (some .int) (some (.int r)) h) {c17 : Hp → Nat → Int32 → Int32 → Int32 → Option (Int32)} (H17 : ∀ (l0 : Nat) (l1 : Int32) (l2 : Int32) (l3 : Int32) (kl0 : kd tb l0 = 0), c17 h l0 l1 l2 l3 = some r → V E g tb ρ 4 17 [(0, .ref (ρ l0)), (1, .int l1), (2, .int l2), (3, .int l3)] [] h) (l0 : Nat) (l1 : Int32) (l2 : Int32) (l3 : Int32) (kl0 : kd tb l0 = 0) (hf : jb_Tt_enemies_50 tb c17 h l0 l1 l2 l3 = some r) : V E g tb ρ 4 50 [(0, .ref (ρ l0)), (1, .int l1), (2, .int l2), (3, .int l3)] [] h := by
  unfold jb_Tt_enemies_50 at hf
  obtain ⟨x1, ex1, hf⟩ := nmd_e hf
  refine v_iinc (pc := 50) (k := 3) (n := 1) (v := x1) (lv' := [(3, .int x1), (0, .ref (ρ l0)), (1, .int l1), (2, .int l2)]) X (by decide +kernel) 3 rfl (by rw [ic_1, ex1]) (Nat.le_of_ble_eq_true rfl) rfl ?_
  refine v_goto (pc := 53) (off := -36) (tgt := 17) X (by decide +kernel) (by decide) ?_
  refine v_sub [1, 2, 3, 0] rfl ?_
  exact H17 l0 l1 l2 x1 kl0 hf
set_option maxRecDepth 4000 in
set_option maxHeartbeats 1000000 in
theorem vlp_Tt_enemies_17 {E : En} {g : Gl} {tb : Tb} {ρ : Nat → Nat} (ok : TbOK tb) (hi : inj tb ρ) {r : Int32} (X : CX E g tb ρ prog_1_method_37_code 4 RC0 2 44) {h : Hp} (Y : CQ E g tb ρ (some .int) (some (.int r)) h) : ∀ (n : Nat) (l0 : Nat) (l1 : Int32) (l2 : Int32) (l3 : Int32) (kl0 : kd tb l0 = 0), lp_Tt_enemies_17 tb n h l0 l1 l2 l3 = some r → V E g tb ρ 4 17 [(0, .ref (ρ l0)), (1, .int l1), (2, .int l2), (3, .int l3)] [] h := by
  intro n
  induction n with
  | zero =>
    intro l0 l1 l2 l3 kl0 hf
    rw [lp_Tt_enemies_17] at hf
    cases hf
  | succ n ih =>
    intro l0 l1 l2 l3 kl0 hf
    rw [lp_Tt_enemies_17] at hf
    refine v_iload_n (pc := 17) (k := 3) X (by decide +kernel) 3 rfl ?_
    refine v_aload_n (pc := 18) (k := 0) X (by decide +kernel) 0 rfl ?_
    refine v_geta (pc := 19) X fl_0_31 kl0 fk_0_3 (by decide +kernel) ?_
    refine v_geti (pc := 22) X fl_0_129 (ly_0_3 ok kl0) rfl (by decide +kernel) ?_
    refine v_icmp_ge (pc := 25) (off := 31) (tgt := 56) X (by decide +kernel) (by decide) (fun q4 => ?_) (fun q4 => ?_)
    · rw [if_pos q4] at hf
      refine v_iload_n (pc := 56) (k := 2) X (by decide +kernel) 2 rfl ?_
      cases hf
      exact v_iret X Y (by decide +kernel) rfl rfl
    · rw [if_neg q4] at hf
      refine v_aload_n (pc := 28) (k := 0) X (by decide +kernel) 0 rfl ?_
      refine v_geta (pc := 29) X fl_0_31 kl0 fk_0_3 (by decide +kernel) ?_
      refine v_aload_n (pc := 32) (k := 0) X (by decide +kernel) 0 rfl ?_
      refine v_geta (pc := 33) X fl_0_38 kl0 fk_0_4 (by decide +kernel) ?_
      refine v_iload_n (pc := 36) (k := 1) X (by decide +kernel) 1 rfl ?_
      refine v_iload_n (pc := 37) (k := 3) X (by decide +kernel) 3 rfl ?_
      obtain ⟨r1, er1, hf⟩ := bnd_e hf
      refine v_callV (pc := 38) (As := [.ref (ρ (lay tb l0 4)), .int l1, .int l3]) (rest := []) X (mt_Pl_areEnemies ok hi (ly_0_3 ok kl0) (ly_0_4 ok kl0) er1) ml_0_299 mv_Pl_areEnemies (ly_0_3 ok kl0) cls_7 rfl ⟨Nat.le_of_ble_eq_true rfl, Nat.le_of_ble_eq_true rfl⟩ rfl rfl (Nat.le_of_ble_eq_true rfl) (by decide +kernel) ?_
      change V E g tb ρ 4 41 [(0, .ref (ρ l0)), (1, .int l1), (2, .int l2), (3, .int l3)] [.int r1] h
      refine v_if_eq (pc := 41) (off := 9) (tgt := 50) X (by decide +kernel) (by decide) (fun q3 => ?_) (fun q3 => ?_)
      · rw [if_pos q3] at hf
        exact vjb_Tt_enemies_50 ok hi X Y ih l0 l1 l2 l3 kl0 hf
      · rw [if_neg q3] at hf
        refine v_iload_n (pc := 44) (k := 2) X (by decide +kernel) 2 rfl ?_
        refine v_iconst (pc := 45) (n := 1) X (by decide +kernel) ic_1 ?_
        refine v_iload_n (pc := 46) (k := 3) X (by decide +kernel) 3 rfl ?_
        refine v_ishl (pc := 47) X (by decide +kernel) ?_
        refine v_ior (pc := 48) X (by decide +kernel) ?_
        obtain ⟨x2, ex2, hf⟩ := nmd_e hf
        refine v_nmi ex2 ?_
        refine v_istore_n (pc := 49) (k := 2) (lv' := [(2, .int x2), (0, .ref (ρ l0)), (1, .int l1), (3, .int l3)]) X (by decide +kernel) (Nat.le_of_ble_eq_true rfl) rfl ?_
        refine v_sub [1, 2, 0, 3] rfl ?_
        exact vjb_Tt_enemies_50 ok hi X Y ih l0 l1 x2 l3 kl0 hf
set_option maxRecDepth 4000 in
set_option maxHeartbeats 1000000 in
theorem mt_Tt_enemies {g : Gl} {tb : Tb} {ρ : Nat → Nat} (ok : TbOK tb) (hi : inj tb ρ) {h : Hp} {l0 : Nat} {l1 : Int32} (kl0 : kd tb l0 = 0) {r : Int32} (hf : f_Tt_enemies tb h l0 l1 = some r) : MT g y_Tt_enemies prog_1_method_37_code 4 (some .int) 2 44 tb ρ [.ref (ρ l0), .int l1] h (some (.int r)) h := by
  refine mt_intro (by decide +kernel) ok hi (Nat.le_of_ble_eq_true rfl) (fun E X Y => ?_)
  change V E g tb ρ 4 0 [(0, .ref (ρ l0)), (1, .int l1)] [] h
  unfold f_Tt_enemies at hf
  refine v_aload_n (pc := 0) (k := 0) X (by decide +kernel) 0 rfl ?_
  refine v_geta (pc := 1) X fl_0_31 kl0 fk_0_3 (by decide +kernel) ?_
  refine v_iload_n (pc := 4) (k := 1) X (by decide +kernel) 1 rfl ?_
  obtain ⟨r1, er1, hf⟩ := nmd_e hf
  refine v_callV (pc := 5) (As := [.int l1]) (rest := []) X (mt_Pl_hasHorse ok hi (ly_0_3 ok kl0) er1.symm) ml_0_132 mv_Pl_hasHorse (ly_0_3 ok kl0) cls_7 rfl ⟨Nat.le_of_ble_eq_true rfl, Nat.le_of_ble_eq_true rfl⟩ rfl rfl (Nat.le_of_ble_eq_true rfl) (by decide +kernel) ?_
  change V E g tb ρ 4 8 [(0, .ref (ρ l0)), (1, .int l1)] [.int r1] h
  refine v_if_ne (pc := 8) (off := 5) (tgt := 13) X (by decide +kernel) (by decide) (fun q2 => ?_) (fun q2 => ?_)
  · rw [if_neg q2] at hf
    refine v_iconst (pc := 13) (n := 0) X (by decide +kernel) ic_0 ?_
    refine v_istore_n (pc := 14) (k := 2) (lv' := [(2, .int (0 : Int32)), (0, .ref (ρ l0)), (1, .int l1)]) X (by decide +kernel) (Nat.le_of_ble_eq_true rfl) rfl ?_
    refine v_iconst (pc := 15) (n := 0) X (by decide +kernel) ic_0 ?_
    refine v_istore_n (pc := 16) (k := 3) (lv' := [(3, .int (0 : Int32)), (2, .int (0 : Int32)), (0, .ref (ρ l0)), (1, .int l1)]) X (by decide +kernel) (Nat.le_of_ble_eq_true rfl) rfl ?_
    refine v_sub [2, 3, 1, 0] rfl ?_
    exact vlp_Tt_enemies_17 ok hi X Y fu l0 l1 (0 : Int32) (0 : Int32) kl0 hf
  · rw [if_pos q2] at hf
    refine v_iconst (pc := 11) (n := -1) X (by decide +kernel) ic_m1 ?_
    cases hf
    exact v_iret X Y (by decide +kernel) rfl rfl
def lp_Fo_hoursToDry_6 (tb : Tb) : Nat → Hp → Nat → Int32 → Int32 → Option (Int32 × Hp)
  | 0, _, _, _, _ => none
  | n + 1, h, l0, l1, l2 =>
    if (199 : Int32) < l2 then (
      some ((-2 : Int32), h)
    ) else (
      (rI tb h (lay tb (lay tb l0 3) 14) l1).bind fun x1 =>
      if x1 = (0 : Int32) then (
        some (l2, h)
      ) else (
        (f_Ho_pass tb h (lay tb l0 2) (lay tb l0 3) (1 : Int32)).bind fun r2 =>
        nmd (l2 + (1 : Int32)) fun x3 =>
        lp_Fo_hoursToDry_6 tb n r2 l0 l1 x3
      )
    )
def f_Fo_hoursToDry (tb : Tb) (h : Hp) (l0 : Nat) (l1 : Int32) : Option (Int32 × Hp) :=
  (f_Fo_beginTrial tb h l0).bind fun r1 =>
  lp_Fo_hoursToDry_6 tb fu r1 l0 l1 (0 : Int32)
set_option maxRecDepth 4000 in
set_option maxHeartbeats 1000000 in
theorem vlp_Fo_hoursToDry_6 {E : En} {g : Gl} {tb : Tb} {ρ : Nat → Nat} (ok : TbOK tb) (hi : inj tb ρ) {r : Int32 × Hp} (X : CX E g tb ρ prog_4_method_7_code 3 RC3 6 151) (Y : CQ E g tb ρ (some .int) (some (.int r.1)) r.2) : ∀ (n : Nat) (h : Hp) (l0 : Nat) (l1 : Int32) (l2 : Int32) (kl0 : kd tb l0 = 3), lp_Fo_hoursToDry_6 tb n h l0 l1 l2 = some r → V E g tb ρ 3 6 [(0, .ref (ρ l0)), (1, .int l1), (2, .int l2)] [] h := by
  intro n
  induction n with
  | zero =>
    intro h l0 l1 l2 kl0 hf
    rw [lp_Fo_hoursToDry_6] at hf
    cases hf
  | succ n ih =>
    intro h l0 l1 l2 kl0 hf
    rw [lp_Fo_hoursToDry_6] at hf
    refine v_iload_n (pc := 6) (k := 2) X (by decide +kernel) 2 rfl ?_
    refine v_sipush (pc := 7) (n := 199) X (by decide +kernel) si_199 ?_
    refine v_icmp_gt (pc := 10) (off := 35) (tgt := 45) X (by decide +kernel) (by decide) (fun q5 => ?_) (fun q5 => ?_)
    · rw [if_pos q5] at hf
      refine v_bipush (pc := 45) (n := -2) X (by decide +kernel) bi_m2 ?_
      cases hf
      exact v_iret X Y (by decide +kernel) rfl rfl
    · rw [if_neg q5] at hf
      refine v_aload_n (pc := 13) (k := 0) X (by decide +kernel) 0 rfl ?_
      refine v_geta (pc := 14) X fl_3_12 kl0 fk_3_3 (by decide +kernel) ?_
      refine v_geta (pc := 17) X fl_3_63 (ly_3_3 ok kl0) fk_11_14 (by decide +kernel) ?_
      refine v_iload_n (pc := 20) (k := 1) X (by decide +kernel) 1 rfl ?_
      obtain ⟨x1, ex1, hf⟩ := bnd_e hf
      refine v_iald (pc := 21) X (ly_11_14 ok (ly_3_3 ok kl0)) ex1 (by decide +kernel) ?_
      refine v_if_ne (pc := 22) (off := 5) (tgt := 27) X (by decide +kernel) (by decide) (fun q4 => ?_) (fun q4 => ?_)
      · rw [if_neg q4] at hf
        refine v_aload_n (pc := 27) (k := 0) X (by decide +kernel) 0 rfl ?_
        refine v_geta (pc := 28) X fl_3_32 kl0 fk_3_2 (by decide +kernel) ?_
        refine v_aload_n (pc := 31) (k := 0) X (by decide +kernel) 0 rfl ?_
        refine v_geta (pc := 32) X fl_3_12 kl0 fk_3_3 (by decide +kernel) ?_
        refine v_iconst (pc := 35) (n := 1) X (by decide +kernel) ic_1 ?_
        obtain ⟨r2, er2, hf⟩ := bnd_e hf
        refine v_callV (pc := 36) (As := [.ref (ρ (lay tb l0 3)), .int (1 : Int32)]) (rest := []) X (mt_Ho_pass ok hi (ly_3_2 ok kl0) (ly_3_3 ok kl0) er2) ml_3_48 mv_Ho_pass (ly_3_2 ok kl0) cls_4 rfl ⟨Nat.le_of_ble_eq_true rfl, Nat.le_of_ble_eq_true rfl⟩ rfl rfl (Nat.le_of_ble_eq_true rfl) (by decide +kernel) ?_
        change V E g tb ρ 3 39 [(0, .ref (ρ l0)), (1, .int l1), (2, .int l2)] [] r2
        obtain ⟨x3, ex3, hf⟩ := nmd_e hf
        refine v_iinc (pc := 39) (k := 2) (n := 1) (v := x3) (lv' := [(2, .int x3), (0, .ref (ρ l0)), (1, .int l1)]) X (by decide +kernel) 2 rfl (by rw [ic_1, ex3]) (Nat.le_of_ble_eq_true rfl) rfl ?_
        refine v_goto (pc := 42) (off := -36) (tgt := 6) X (by decide +kernel) (by decide) ?_
        refine v_sub [1, 2, 0] rfl ?_
        exact ih r2 l0 l1 x3 kl0 hf
      · rw [if_pos q4] at hf
        refine v_iload_n (pc := 25) (k := 2) X (by decide +kernel) 2 rfl ?_
        cases hf
        exact v_iret X Y (by decide +kernel) rfl rfl
set_option maxRecDepth 4000 in
set_option maxHeartbeats 1000000 in
theorem mt_Fo_hoursToDry {g : Gl} {tb : Tb} {ρ : Nat → Nat} (ok : TbOK tb) (hi : inj tb ρ) {h : Hp} {l0 : Nat} {l1 : Int32} (kl0 : kd tb l0 = 3) {r : Int32 × Hp} (hf : f_Fo_hoursToDry tb h l0 l1 = some r) : MT g y_Fo_hoursToDry prog_4_method_7_code 3 (some .int) 6 151 tb ρ [.ref (ρ l0), .int l1] h (some (.int r.1)) r.2 := by
  refine mt_intro (by decide +kernel) ok hi (Nat.le_of_ble_eq_true rfl) (fun E X Y => ?_)
  change V E g tb ρ 3 0 [(0, .ref (ρ l0)), (1, .int l1)] [] h
  unfold f_Fo_hoursToDry at hf
  refine v_aload_n (pc := 0) (k := 0) X (by decide +kernel) 0 rfl ?_
  obtain ⟨r1, er1, hf⟩ := bnd_e hf
  refine v_callV (pc := 1) (As := []) (rest := []) X (mt_Fo_beginTrial ok hi kl0 er1) ml_3_45 mv_Fo_beginTrial kl0 cls_3 rfl ⟨Nat.le_of_ble_eq_true rfl, Nat.le_of_ble_eq_true rfl⟩ rfl rfl (Nat.le_of_ble_eq_true rfl) (by decide +kernel) ?_
  change V E g tb ρ 3 4 [(0, .ref (ρ l0)), (1, .int l1)] [] r1
  refine v_iconst (pc := 4) (n := 0) X (by decide +kernel) ic_0 ?_
  refine v_istore_n (pc := 5) (k := 2) (lv' := [(2, .int (0 : Int32)), (0, .ref (ρ l0)), (1, .int l1)]) X (by decide +kernel) (Nat.le_of_ble_eq_true rfl) rfl ?_
  refine v_sub [1, 2, 0] rfl ?_
  exact vlp_Fo_hoursToDry_6 ok hi X Y fu r1 l0 l1 (0 : Int32) kl0 hf
def f_Tt_runsDry (tb : Tb) (h : Hp) (l0 : Nat) (l1 : Int32) : Option (Int32 × Hp) :=
  nmd (f_Pl_hasTrough tb h (lay tb l0 3) l1) fun r1 =>
  if r1 = (0 : Int32) then (
    some ((-1 : Int32), h)
  ) else (
    (f_Fo_hoursToDry tb h (lay tb l0 10) l1).bind fun r2 =>
    some (r2.1, r2.2)
  )
set_option maxRecDepth 4000 in
set_option maxHeartbeats 1000000 in
theorem mt_Tt_runsDry {g : Gl} {tb : Tb} {ρ : Nat → Nat} (ok : TbOK tb) (hi : inj tb ρ) {h : Hp} {l0 : Nat} {l1 : Int32} (kl0 : kd tb l0 = 0) {r : Int32 × Hp} (hf : f_Tt_runsDry tb h l0 l1 = some r) : MT g y_Tt_runsDry prog_1_method_38_code 2 (some .int) 7 173 tb ρ [.ref (ρ l0), .int l1] h (some (.int r.1)) r.2 := by
  refine mt_intro (by decide +kernel) ok hi (Nat.le_of_ble_eq_true rfl) (fun E X Y => ?_)
  change V E g tb ρ 2 0 [(0, .ref (ρ l0)), (1, .int l1)] [] h
  unfold f_Tt_runsDry at hf
  refine v_aload_n (pc := 0) (k := 0) X (by decide +kernel) 0 rfl ?_
  refine v_geta (pc := 1) X fl_0_31 kl0 fk_0_3 (by decide +kernel) ?_
  refine v_iload_n (pc := 4) (k := 1) X (by decide +kernel) 1 rfl ?_
  obtain ⟨r1, er1, hf⟩ := nmd_e hf
  refine v_callV (pc := 5) (As := [.int l1]) (rest := []) X (mt_Pl_hasTrough ok hi (ly_0_3 ok kl0) er1.symm) ml_0_165 mv_Pl_hasTrough (ly_0_3 ok kl0) cls_7 rfl ⟨Nat.le_of_ble_eq_true rfl, Nat.le_of_ble_eq_true rfl⟩ rfl rfl (Nat.le_of_ble_eq_true rfl) (by decide +kernel) ?_
  change V E g tb ρ 2 8 [(0, .ref (ρ l0)), (1, .int l1)] [.int r1] h
  refine v_if_eq (pc := 8) (off := 14) (tgt := 22) X (by decide +kernel) (by decide) (fun q3 => ?_) (fun q3 => ?_)
  · rw [if_pos q3] at hf
    refine v_iconst (pc := 22) (n := -1) X (by decide +kernel) ic_m1 ?_
    cases hf
    exact v_iret X Y (by decide +kernel) rfl rfl
  · rw [if_neg q3] at hf
    refine v_aload_n (pc := 11) (k := 0) X (by decide +kernel) 0 rfl ?_
    refine v_geta (pc := 12) X fl_0_77 kl0 fk_0_10 (by decide +kernel) ?_
    refine v_iload_n (pc := 15) (k := 1) X (by decide +kernel) 1 rfl ?_
    obtain ⟨r2, er2, hf⟩ := bnd_e hf
    refine v_callV (pc := 16) (As := [.int l1]) (rest := []) X (mt_Fo_hoursToDry ok hi (ly_0_10 ok kl0) er2) ml_0_303 mv_Fo_hoursToDry (ly_0_10 ok kl0) cls_3 rfl ⟨Nat.le_of_ble_eq_true rfl, Nat.le_of_ble_eq_true rfl⟩ rfl rfl (Nat.le_of_ble_eq_true rfl) (by decide +kernel) ?_
    change V E g tb ρ 2 19 [(0, .ref (ρ l0)), (1, .int l1)] [.int r2.1] r2.2
    refine v_goto (pc := 19) (off := 4) (tgt := 23) X (by decide +kernel) (by decide) ?_
    cases hf
    exact v_iret X Y (by decide +kernel) rfl rfl
def f_Se_addSight (tb : Tb) (h : Hp) (l0 : Nat) (l1 : Int32) (l2 : Int32) (l3 : Int32) (l4 : Int32) : Option (Int32 × Hp) :=
  if (h.1 l0 0) < (24 : Int32) then (
    (wI tb h (lay tb l0 2) (h.1 l0 0) l1).bind fun h1 =>
    (wI tb h1 (lay tb l0 3) (h1.1 l0 0) l2).bind fun h2 =>
    (wI tb h2 (lay tb l0 4) (h2.1 l0 0) l3).bind fun h3 =>
    (wZ tb h3 (lay tb l0 5) (h3.1 l0 0) l4).bind fun h4 =>
    (wI tb h4 (lay tb l0 6) (h4.1 l0 0) (-1 : Int32)).bind fun h5 =>
    nmd (pI h5 l0 0 ((h5.1 l0 0) + (1 : Int32))) fun h6 =>
    some ((h6.1 l0 0) - (1 : Int32), h6)
  ) else (
    some ((-1 : Int32), h)
  )
set_option maxRecDepth 4000 in
set_option maxHeartbeats 1000000 in
theorem mt_Se_addSight {g : Gl} {tb : Tb} {ρ : Nat → Nat} (ok : TbOK tb) (hi : inj tb ρ) {h : Hp} {l0 : Nat} {l1 : Int32} {l2 : Int32} {l3 : Int32} {l4 : Int32} (kl0 : kd tb l0 = 9) {r : Int32 × Hp} (hf : f_Se_addSight tb h l0 l1 l2 l3 l4 = some r) : MT g y_Se_addSight prog_10_method_3_code 5 (some .int) 0 0 tb ρ [.ref (ρ l0), .int l1, .int l2, .int l3, .int l4] h (some (.int r.1)) r.2 := by
  refine mt_intro (by decide +kernel) ok hi (Nat.le_of_ble_eq_true rfl) (fun E X Y => ?_)
  change V E g tb ρ 5 0 [(0, .ref (ρ l0)), (1, .int l1), (2, .int l2), (3, .int l3), (4, .int l4)] [] h
  unfold f_Se_addSight at hf
  refine v_aload_n (pc := 0) (k := 0) X (by decide +kernel) 0 rfl ?_
  refine v_geti (pc := 1) X fl_9_9 kl0 rfl (by decide +kernel) ?_
  refine v_bipush (pc := 4) (n := 24) X (by decide +kernel) bi_24 ?_
  refine v_icmp_lt (pc := 6) (off := 5) (tgt := 11) X (by decide +kernel) (by decide) (fun q7 => ?_) (fun q7 => ?_)
  · rw [if_pos q7] at hf
    refine v_aload_n (pc := 11) (k := 0) X (by decide +kernel) 0 rfl ?_
    refine v_geta (pc := 12) X fl_9_18 kl0 fk_9_2 (by decide +kernel) ?_
    refine v_aload_n (pc := 15) (k := 0) X (by decide +kernel) 0 rfl ?_
    refine v_geti (pc := 16) X fl_9_9 kl0 rfl (by decide +kernel) ?_
    refine v_iload_n (pc := 19) (k := 1) X (by decide +kernel) 1 rfl ?_
    obtain ⟨h1, eh1, hf⟩ := bnd_e hf
    refine v_iast (pc := 20) X (ly_9_2 ok kl0) eh1 (by decide +kernel) ?_
    refine v_aload_n (pc := 21) (k := 0) X (by decide +kernel) 0 rfl ?_
    refine v_geta (pc := 22) X fl_9_22 kl0 fk_9_3 (by decide +kernel) ?_
    refine v_aload_n (pc := 25) (k := 0) X (by decide +kernel) 0 rfl ?_
    refine v_geti (pc := 26) X fl_9_9 kl0 rfl (by decide +kernel) ?_
    refine v_iload_n (pc := 29) (k := 2) X (by decide +kernel) 2 rfl ?_
    obtain ⟨h2, eh2, hf⟩ := bnd_e hf
    refine v_iast (pc := 30) X (ly_9_3 ok kl0) eh2 (by decide +kernel) ?_
    refine v_aload_n (pc := 31) (k := 0) X (by decide +kernel) 0 rfl ?_
    refine v_geta (pc := 32) X fl_9_25 kl0 fk_9_4 (by decide +kernel) ?_
    refine v_aload_n (pc := 35) (k := 0) X (by decide +kernel) 0 rfl ?_
    refine v_geti (pc := 36) X fl_9_9 kl0 rfl (by decide +kernel) ?_
    refine v_iload_n (pc := 39) (k := 3) X (by decide +kernel) 3 rfl ?_
    obtain ⟨h3, eh3, hf⟩ := bnd_e hf
    refine v_iast (pc := 40) X (ly_9_4 ok kl0) eh3 (by decide +kernel) ?_
    refine v_aload_n (pc := 41) (k := 0) X (by decide +kernel) 0 rfl ?_
    refine v_geta (pc := 42) X fl_9_28 kl0 fk_9_5 (by decide +kernel) ?_
    refine v_aload_n (pc := 45) (k := 0) X (by decide +kernel) 0 rfl ?_
    refine v_geti (pc := 46) X fl_9_9 kl0 rfl (by decide +kernel) ?_
    refine v_iload (pc := 49) (k := 4) X (by decide +kernel) 4 rfl ?_
    obtain ⟨h4, eh4, hf⟩ := bnd_e hf
    refine v_zast (pc := 51) X (ly_9_5 ok kl0) eh4 (by decide +kernel) ?_
    refine v_aload_n (pc := 52) (k := 0) X (by decide +kernel) 0 rfl ?_
    refine v_geta (pc := 53) X fl_9_32 kl0 fk_9_6 (by decide +kernel) ?_
    refine v_aload_n (pc := 56) (k := 0) X (by decide +kernel) 0 rfl ?_
    refine v_geti (pc := 57) X fl_9_9 kl0 rfl (by decide +kernel) ?_
    refine v_iconst (pc := 60) (n := -1) X (by decide +kernel) ic_m1 ?_
    obtain ⟨h5, eh5, hf⟩ := bnd_e hf
    refine v_iast (pc := 61) X (ly_9_6 ok kl0) eh5 (by decide +kernel) ?_
    refine v_aload_n (pc := 62) (k := 0) X (by decide +kernel) 0 rfl ?_
    refine v_dup (pc := 63) X (by decide +kernel) rfl ?_
    refine v_geti (pc := 64) X fl_9_9 kl0 rfl (by decide +kernel) ?_
    refine v_iconst (pc := 67) (n := 1) X (by decide +kernel) ic_1 ?_
    refine v_iadd (pc := 68) X (by decide +kernel) ?_
    obtain ⟨h6, eh6, hf⟩ := nmd_e hf
    refine v_puti (pc := 69) X fp_9_9 kl0 rfl (by decide +kernel) eh6 ?_
    refine v_aload_n (pc := 72) (k := 0) X (by decide +kernel) 0 rfl ?_
    refine v_geti (pc := 73) X fl_9_9 kl0 rfl (by decide +kernel) ?_
    refine v_iconst (pc := 76) (n := 1) X (by decide +kernel) ic_1 ?_
    refine v_isub (pc := 77) X (by decide +kernel) ?_
    cases hf
    exact v_iret X Y (by decide +kernel) rfl rfl
  · rw [if_neg q7] at hf
    refine v_iconst (pc := 9) (n := -1) X (by decide +kernel) ic_m1 ?_
    cases hf
    exact v_iret X Y (by decide +kernel) rfl rfl
def jb_Tt_see_37 (tb : Tb) (h : Hp) (l0 : Nat) (l1 : Int32) (l2 : Int32) (l3 : Int32) (l4 : Int32) (s0 : Int32) : Option (Int32 × Hp) :=
  if s0 = (0 : Int32) then (
    some ((-1 : Int32), h)
  ) else (
    (f_Se_addSight tb h (lay tb l0 8) l1 l2 l3 l4).bind fun r1 =>
    some (r1.1, r1.2)
  )
def jb_Tt_see_36 (tb : Tb) (h : Hp) (l0 : Nat) (l1 : Int32) (l2 : Int32) (l3 : Int32) (l4 : Int32) : Option (Int32 × Hp) :=
  jb_Tt_see_37 tb h l0 l1 l2 l3 l4 (0 : Int32)
def f_Tt_see (tb : Tb) (h : Hp) (l0 : Nat) (l1 : Int32) (l2 : Int32) (l3 : Int32) (l4 : Int32) : Option (Int32 × Hp) :=
  if l1 < (1 : Int32) then (
    jb_Tt_see_36 tb h l0 l1 l2 l3 l4
  ) else (
    if (60 : Int32) < l1 then (
      jb_Tt_see_36 tb h l0 l1 l2 l3 l4
    ) else (
      nmd (f_Pl_hasTrough tb h (lay tb l0 3) l2) fun r1 =>
      if r1 = (0 : Int32) then (
        jb_Tt_see_36 tb h l0 l1 l2 l3 l4
      ) else (
        if l3 < (0 : Int32) then (
          jb_Tt_see_36 tb h l0 l1 l2 l3 l4
        ) else (
          if (99 : Int32) < l3 then (
            jb_Tt_see_36 tb h l0 l1 l2 l3 l4
          ) else (
            jb_Tt_see_37 tb h l0 l1 l2 l3 l4 (1 : Int32)
          )
        )
      )
    )
  )
set_option maxRecDepth 4000 in
set_option maxHeartbeats 1000000 in
theorem vjb_Tt_see_37 {E : En} {g : Gl} {tb : Tb} {ρ : Nat → Nat} (ok : TbOK tb) (hi : inj tb ρ) {r : Int32 × Hp} (X : CX E g tb ρ prog_1_method_39_code 6 RC0 1 24) (Y : CQ E g tb ρ (some .int) (some (.int r.1)) r.2) (h : Hp) (l0 : Nat) (l1 : Int32) (l2 : Int32) (l3 : Int32) (l4 : Int32) (s0 : Int32) (kl0 : kd tb l0 = 0) (hf : jb_Tt_see_37 tb h l0 l1 l2 l3 l4 s0 = some r) : V E g tb ρ 6 37 [(0, .ref (ρ l0)), (1, .int l1), (2, .int l2), (3, .int l3), (4, .int l4)] [.int s0] h := by
  unfold jb_Tt_see_37 at hf
  refine v_istore (pc := 37) (k := 5) (lv' := [(5, .int s0), (0, .ref (ρ l0)), (1, .int l1), (2, .int l2), (3, .int l3), (4, .int l4)]) X (by decide +kernel) (Nat.le_of_ble_eq_true rfl) rfl ?_
  refine v_iload (pc := 39) (k := 5) X (by decide +kernel) 0 rfl ?_
  refine v_if_eq (pc := 41) (off := 18) (tgt := 59) X (by decide +kernel) (by decide) (fun q2 => ?_) (fun q2 => ?_)
  · rw [if_pos q2] at hf
    refine v_iconst (pc := 59) (n := -1) X (by decide +kernel) ic_m1 ?_
    cases hf
    exact v_iret X Y (by decide +kernel) rfl rfl
  · rw [if_neg q2] at hf
    refine v_aload_n (pc := 44) (k := 0) X (by decide +kernel) 1 rfl ?_
    refine v_geta (pc := 45) X fl_0_59 kl0 fk_0_8 (by decide +kernel) ?_
    refine v_iload_n (pc := 48) (k := 1) X (by decide +kernel) 2 rfl ?_
    refine v_iload_n (pc := 49) (k := 2) X (by decide +kernel) 3 rfl ?_
    refine v_iload_n (pc := 50) (k := 3) X (by decide +kernel) 4 rfl ?_
    refine v_iload (pc := 51) (k := 4) X (by decide +kernel) 5 rfl ?_
    obtain ⟨r1, er1, hf⟩ := bnd_e hf
    refine v_callV (pc := 53) (As := [.int l1, .int l2, .int l3, .int l4]) (rest := []) X (mt_Se_addSight ok hi (ly_0_8 ok kl0) er1) ml_0_306 mv_Se_addSight (ly_0_8 ok kl0) cls_9 rfl ⟨Nat.le_of_ble_eq_true rfl, Nat.le_of_ble_eq_true rfl⟩ rfl rfl (Nat.le_of_ble_eq_true rfl) (by decide +kernel) ?_
    change V E g tb ρ 6 56 [(5, .int s0), (0, .ref (ρ l0)), (1, .int l1), (2, .int l2), (3, .int l3), (4, .int l4)] [.int r1.1] r1.2
    refine v_goto (pc := 56) (off := 4) (tgt := 60) X (by decide +kernel) (by decide) ?_
    cases hf
    exact v_iret X Y (by decide +kernel) rfl rfl
set_option maxRecDepth 4000 in
set_option maxHeartbeats 1000000 in
theorem vjb_Tt_see_36 {E : En} {g : Gl} {tb : Tb} {ρ : Nat → Nat} (ok : TbOK tb) (hi : inj tb ρ) {r : Int32 × Hp} (X : CX E g tb ρ prog_1_method_39_code 6 RC0 1 24) (Y : CQ E g tb ρ (some .int) (some (.int r.1)) r.2) (h : Hp) (l0 : Nat) (l1 : Int32) (l2 : Int32) (l3 : Int32) (l4 : Int32) (kl0 : kd tb l0 = 0) (hf : jb_Tt_see_36 tb h l0 l1 l2 l3 l4 = some r) : V E g tb ρ 6 36 [(0, .ref (ρ l0)), (1, .int l1), (2, .int l2), (3, .int l3), (4, .int l4)] [] h := by
  unfold jb_Tt_see_36 at hf
  refine v_iconst (pc := 36) (n := 0) X (by decide +kernel) ic_0 ?_
  exact vjb_Tt_see_37 ok hi X Y h l0 l1 l2 l3 l4 (0 : Int32) kl0 hf
set_option maxRecDepth 4000 in
set_option maxHeartbeats 1000000 in
theorem mt_Tt_see {g : Gl} {tb : Tb} {ρ : Nat → Nat} (ok : TbOK tb) (hi : inj tb ρ) {h : Hp} {l0 : Nat} {l1 : Int32} {l2 : Int32} {l3 : Int32} {l4 : Int32} (kl0 : kd tb l0 = 0) {r : Int32 × Hp} (hf : f_Tt_see tb h l0 l1 l2 l3 l4 = some r) : MT g y_Tt_see prog_1_method_39_code 6 (some .int) 1 24 tb ρ [.ref (ρ l0), .int l1, .int l2, .int l3, .int l4] h (some (.int r.1)) r.2 := by
  refine mt_intro (by decide +kernel) ok hi (Nat.le_of_ble_eq_true rfl) (fun E X Y => ?_)
  change V E g tb ρ 6 0 [(0, .ref (ρ l0)), (1, .int l1), (2, .int l2), (3, .int l3), (4, .int l4)] [] h
  unfold f_Tt_see at hf
  refine v_iload_n (pc := 0) (k := 1) X (by decide +kernel) 1 rfl ?_
  refine v_iconst (pc := 1) (n := 1) X (by decide +kernel) ic_1 ?_
  refine v_icmp_lt (pc := 2) (off := 34) (tgt := 36) X (by decide +kernel) (by decide) (fun q6 => ?_) (fun q6 => ?_)
  · rw [if_pos q6] at hf
    exact vjb_Tt_see_36 ok hi X Y h l0 l1 l2 l3 l4 kl0 hf
  · rw [if_neg q6] at hf
    refine v_iload_n (pc := 5) (k := 1) X (by decide +kernel) 1 rfl ?_
    refine v_bipush (pc := 6) (n := 60) X (by decide +kernel) bi_60 ?_
    refine v_icmp_gt (pc := 8) (off := 28) (tgt := 36) X (by decide +kernel) (by decide) (fun q5 => ?_) (fun q5 => ?_)
    · rw [if_pos q5] at hf
      exact vjb_Tt_see_36 ok hi X Y h l0 l1 l2 l3 l4 kl0 hf
    · rw [if_neg q5] at hf
      refine v_aload_n (pc := 11) (k := 0) X (by decide +kernel) 0 rfl ?_
      refine v_geta (pc := 12) X fl_0_31 kl0 fk_0_3 (by decide +kernel) ?_
      refine v_iload_n (pc := 15) (k := 2) X (by decide +kernel) 2 rfl ?_
      obtain ⟨r1, er1, hf⟩ := nmd_e hf
      refine v_callV (pc := 16) (As := [.int l2]) (rest := []) X (mt_Pl_hasTrough ok hi (ly_0_3 ok kl0) er1.symm) ml_0_165 mv_Pl_hasTrough (ly_0_3 ok kl0) cls_7 rfl ⟨Nat.le_of_ble_eq_true rfl, Nat.le_of_ble_eq_true rfl⟩ rfl rfl (Nat.le_of_ble_eq_true rfl) (by decide +kernel) ?_
      change V E g tb ρ 6 19 [(0, .ref (ρ l0)), (1, .int l1), (2, .int l2), (3, .int l3), (4, .int l4)] [.int r1] h
      refine v_if_eq (pc := 19) (off := 17) (tgt := 36) X (by decide +kernel) (by decide) (fun q4 => ?_) (fun q4 => ?_)
      · rw [if_pos q4] at hf
        exact vjb_Tt_see_36 ok hi X Y h l0 l1 l2 l3 l4 kl0 hf
      · rw [if_neg q4] at hf
        refine v_iload_n (pc := 22) (k := 3) X (by decide +kernel) 3 rfl ?_
        refine v_if_lt (pc := 23) (off := 13) (tgt := 36) X (by decide +kernel) (by decide) (fun q3 => ?_) (fun q3 => ?_)
        · rw [if_pos q3] at hf
          exact vjb_Tt_see_36 ok hi X Y h l0 l1 l2 l3 l4 kl0 hf
        · rw [if_neg q3] at hf
          refine v_iload_n (pc := 26) (k := 3) X (by decide +kernel) 3 rfl ?_
          refine v_bipush (pc := 27) (n := 99) X (by decide +kernel) bi_99 ?_
          refine v_icmp_gt (pc := 29) (off := 7) (tgt := 36) X (by decide +kernel) (by decide) (fun q2 => ?_) (fun q2 => ?_)
          · rw [if_pos q2] at hf
            exact vjb_Tt_see_36 ok hi X Y h l0 l1 l2 l3 l4 kl0 hf
          · rw [if_neg q2] at hf
            refine v_iconst (pc := 32) (n := 1) X (by decide +kernel) ic_1 ?_
            refine v_goto (pc := 33) (off := 4) (tgt := 37) X (by decide +kernel) (by decide) ?_
            exact vjb_Tt_see_37 ok hi X Y h l0 l1 l2 l3 l4 (1 : Int32) kl0 hf
def f_Se_addStrike (tb : Tb) (h : Hp) (l0 : Nat) (l1 : Int32) : Option (Int32 × Hp) :=
  if (24 : Int32) ≤ (h.1 l0 0) then (
    some ((-1 : Int32), h)
  ) else (
    if l1 < (0 : Int32) then (
      some ((-1 : Int32), h)
    ) else (
      if l1 < (h.1 l0 0) then (
        (wI tb h (lay tb l0 6) (h.1 l0 0) l1).bind fun h1 =>
        nmd (pI h1 l0 0 ((h1.1 l0 0) + (1 : Int32))) fun h2 =>
        some ((h2.1 l0 0) - (1 : Int32), h2)
      ) else (
        some ((-1 : Int32), h)
      )
    )
  )
set_option maxRecDepth 4000 in
set_option maxHeartbeats 1000000 in
theorem mt_Se_addStrike {g : Gl} {tb : Tb} {ρ : Nat → Nat} (ok : TbOK tb) (hi : inj tb ρ) {h : Hp} {l0 : Nat} {l1 : Int32} (kl0 : kd tb l0 = 9) {r : Int32 × Hp} (hf : f_Se_addStrike tb h l0 l1 = some r) : MT g y_Se_addStrike prog_10_method_4_code 2 (some .int) 0 0 tb ρ [.ref (ρ l0), .int l1] h (some (.int r.1)) r.2 := by
  refine mt_intro (by decide +kernel) ok hi (Nat.le_of_ble_eq_true rfl) (fun E X Y => ?_)
  change V E g tb ρ 2 0 [(0, .ref (ρ l0)), (1, .int l1)] [] h
  unfold f_Se_addStrike at hf
  refine v_aload_n (pc := 0) (k := 0) X (by decide +kernel) 0 rfl ?_
  refine v_geti (pc := 1) X fl_9_9 kl0 rfl (by decide +kernel) ?_
  refine v_bipush (pc := 4) (n := 24) X (by decide +kernel) bi_24 ?_
  refine v_icmp_ge (pc := 6) (off := 15) (tgt := 21) X (by decide +kernel) (by decide) (fun q5 => ?_) (fun q5 => ?_)
  · rw [if_pos q5] at hf
    refine v_iconst (pc := 21) (n := -1) X (by decide +kernel) ic_m1 ?_
    cases hf
    exact v_iret X Y (by decide +kernel) rfl rfl
  · rw [if_neg q5] at hf
    refine v_iload_n (pc := 9) (k := 1) X (by decide +kernel) 1 rfl ?_
    refine v_if_lt (pc := 10) (off := 11) (tgt := 21) X (by decide +kernel) (by decide) (fun q4 => ?_) (fun q4 => ?_)
    · rw [if_pos q4] at hf
      refine v_iconst (pc := 21) (n := -1) X (by decide +kernel) ic_m1 ?_
      cases hf
      exact v_iret X Y (by decide +kernel) rfl rfl
    · rw [if_neg q4] at hf
      refine v_iload_n (pc := 13) (k := 1) X (by decide +kernel) 1 rfl ?_
      refine v_aload_n (pc := 14) (k := 0) X (by decide +kernel) 0 rfl ?_
      refine v_geti (pc := 15) X fl_9_9 kl0 rfl (by decide +kernel) ?_
      refine v_icmp_lt (pc := 18) (off := 5) (tgt := 23) X (by decide +kernel) (by decide) (fun q3 => ?_) (fun q3 => ?_)
      · rw [if_pos q3] at hf
        refine v_aload_n (pc := 23) (k := 0) X (by decide +kernel) 0 rfl ?_
        refine v_geta (pc := 24) X fl_9_32 kl0 fk_9_6 (by decide +kernel) ?_
        refine v_aload_n (pc := 27) (k := 0) X (by decide +kernel) 0 rfl ?_
        refine v_geti (pc := 28) X fl_9_9 kl0 rfl (by decide +kernel) ?_
        refine v_iload_n (pc := 31) (k := 1) X (by decide +kernel) 1 rfl ?_
        obtain ⟨h1, eh1, hf⟩ := bnd_e hf
        refine v_iast (pc := 32) X (ly_9_6 ok kl0) eh1 (by decide +kernel) ?_
        refine v_aload_n (pc := 33) (k := 0) X (by decide +kernel) 0 rfl ?_
        refine v_dup (pc := 34) X (by decide +kernel) rfl ?_
        refine v_geti (pc := 35) X fl_9_9 kl0 rfl (by decide +kernel) ?_
        refine v_iconst (pc := 38) (n := 1) X (by decide +kernel) ic_1 ?_
        refine v_iadd (pc := 39) X (by decide +kernel) ?_
        obtain ⟨h2, eh2, hf⟩ := nmd_e hf
        refine v_puti (pc := 40) X fp_9_9 kl0 rfl (by decide +kernel) eh2 ?_
        refine v_aload_n (pc := 43) (k := 0) X (by decide +kernel) 0 rfl ?_
        refine v_geti (pc := 44) X fl_9_9 kl0 rfl (by decide +kernel) ?_
        refine v_iconst (pc := 47) (n := 1) X (by decide +kernel) ic_1 ?_
        refine v_isub (pc := 48) X (by decide +kernel) ?_
        cases hf
        exact v_iret X Y (by decide +kernel) rfl rfl
      · rw [if_neg q3] at hf
        refine v_iconst (pc := 21) (n := -1) X (by decide +kernel) ic_m1 ?_
        cases hf
        exact v_iret X Y (by decide +kernel) rfl rfl
def f_Tt_strike (tb : Tb) (h : Hp) (l0 : Nat) (l1 : Int32) : Option (Int32 × Hp) :=
  (f_Se_addStrike tb h (lay tb l0 8) l1).bind fun r1 =>
  some (r1.1, r1.2)
set_option maxRecDepth 4000 in
set_option maxHeartbeats 1000000 in
theorem mt_Tt_strike {g : Gl} {tb : Tb} {ρ : Nat → Nat} (ok : TbOK tb) (hi : inj tb ρ) {h : Hp} {l0 : Nat} {l1 : Int32} (kl0 : kd tb l0 = 0) {r : Int32 × Hp} (hf : f_Tt_strike tb h l0 l1 = some r) : MT g y_Tt_strike prog_1_method_40_code 2 (some .int) 1 21 tb ρ [.ref (ρ l0), .int l1] h (some (.int r.1)) r.2 := by
  refine mt_intro (by decide +kernel) ok hi (Nat.le_of_ble_eq_true rfl) (fun E X Y => ?_)
  change V E g tb ρ 2 0 [(0, .ref (ρ l0)), (1, .int l1)] [] h
  unfold f_Tt_strike at hf
  refine v_aload_n (pc := 0) (k := 0) X (by decide +kernel) 0 rfl ?_
  refine v_geta (pc := 1) X fl_0_59 kl0 fk_0_8 (by decide +kernel) ?_
  refine v_iload_n (pc := 4) (k := 1) X (by decide +kernel) 1 rfl ?_
  obtain ⟨r1, er1, hf⟩ := bnd_e hf
  refine v_callV (pc := 5) (As := [.int l1]) (rest := []) X (mt_Se_addStrike ok hi (ly_0_8 ok kl0) er1) ml_0_310 mv_Se_addStrike (ly_0_8 ok kl0) cls_9 rfl ⟨Nat.le_of_ble_eq_true rfl, Nat.le_of_ble_eq_true rfl⟩ rfl rfl (Nat.le_of_ble_eq_true rfl) (by decide +kernel) ?_
  change V E g tb ρ 2 8 [(0, .ref (ρ l0)), (1, .int l1)] [.int r1.1] r1.2
  cases hf
  exact v_iret X Y (by decide +kernel) rfl rfl
def f_Se_knowBy (tb : Tb) (h : Hp) (l0 : Nat) (l1 : Int32) : Int32 × Hp :=
  if l1 < (-1 : Int32) then (
    ((0 : Int32), h)
  ) else (
    if l1 ≤ (h.1 l0 0) then (
      nmd (pI h l0 1 l1) fun h1 =>
      ((1 : Int32), h1)
    ) else (
      ((0 : Int32), h)
    )
  )
set_option maxRecDepth 4000 in
set_option maxHeartbeats 1000000 in
theorem mt_Se_knowBy {g : Gl} {tb : Tb} {ρ : Nat → Nat} (ok : TbOK tb) (hi : inj tb ρ) {h : Hp} {l0 : Nat} {l1 : Int32} (kl0 : kd tb l0 = 9) {r : Int32 × Hp} (hf : f_Se_knowBy tb h l0 l1 = r) : MT g y_Se_knowBy prog_10_method_5_code 2 (some .boolean) 0 0 tb ρ [.ref (ρ l0), .int l1] h (some (.int r.1)) r.2 := by
  refine mt_intro (by decide +kernel) ok hi (Nat.le_of_ble_eq_true rfl) (fun E X Y => ?_)
  change V E g tb ρ 2 0 [(0, .ref (ρ l0)), (1, .int l1)] [] h
  unfold f_Se_knowBy at hf
  refine v_iload_n (pc := 0) (k := 1) X (by decide +kernel) 1 rfl ?_
  refine v_iconst (pc := 1) (n := -1) X (by decide +kernel) ic_m1 ?_
  refine v_icmp_lt (pc := 2) (off := 11) (tgt := 13) X (by decide +kernel) (by decide) (fun q3 => ?_) (fun q3 => ?_)
  · rw [if_pos q3] at hf
    refine v_iconst (pc := 13) (n := 0) X (by decide +kernel) ic_0 ?_
    cases hf
    exact v_zret (hz := rfl) X Y (by decide +kernel) rfl rfl
  · rw [if_neg q3] at hf
    refine v_iload_n (pc := 5) (k := 1) X (by decide +kernel) 1 rfl ?_
    refine v_aload_n (pc := 6) (k := 0) X (by decide +kernel) 0 rfl ?_
    refine v_geti (pc := 7) X fl_9_9 kl0 rfl (by decide +kernel) ?_
    refine v_icmp_le (pc := 10) (off := 5) (tgt := 15) X (by decide +kernel) (by decide) (fun q2 => ?_) (fun q2 => ?_)
    · rw [if_pos q2] at hf
      refine v_aload_n (pc := 15) (k := 0) X (by decide +kernel) 0 rfl ?_
      refine v_iload_n (pc := 16) (k := 1) X (by decide +kernel) 1 rfl ?_
      obtain ⟨h1, eh1, hf⟩ := nmd_e hf
      refine v_puti (pc := 17) X fp_9_15 kl0 rfl (by decide +kernel) eh1 ?_
      refine v_iconst (pc := 20) (n := 1) X (by decide +kernel) ic_1 ?_
      cases hf
      exact v_zret (hz := rfl) X Y (by decide +kernel) rfl rfl
    · rw [if_neg q2] at hf
      refine v_iconst (pc := 13) (n := 0) X (by decide +kernel) ic_0 ?_
      cases hf
      exact v_zret (hz := rfl) X Y (by decide +kernel) rfl rfl
def f_Tt_known (tb : Tb) (h : Hp) (l0 : Nat) (l1 : Int32) : Option (Int32 × Hp) :=
  nmd (f_Se_knowBy tb h (lay tb l0 8) l1) fun r1 =>
  (cZ r1.1).bind fun x2 =>
  some (x2, r1.2)
set_option maxRecDepth 4000 in
set_option maxHeartbeats 1000000 in
theorem mt_Tt_known {g : Gl} {tb : Tb} {ρ : Nat → Nat} (ok : TbOK tb) (hi : inj tb ρ) {h : Hp} {l0 : Nat} {l1 : Int32} (kl0 : kd tb l0 = 0) {r : Int32 × Hp} (hf : f_Tt_known tb h l0 l1 = some r) : MT g y_Tt_known prog_1_method_41_code 2 (some .boolean) 1 21 tb ρ [.ref (ρ l0), .int l1] h (some (.int r.1)) r.2 := by
  refine mt_intro (by decide +kernel) ok hi (Nat.le_of_ble_eq_true rfl) (fun E X Y => ?_)
  change V E g tb ρ 2 0 [(0, .ref (ρ l0)), (1, .int l1)] [] h
  unfold f_Tt_known at hf
  refine v_aload_n (pc := 0) (k := 0) X (by decide +kernel) 0 rfl ?_
  refine v_geta (pc := 1) X fl_0_59 kl0 fk_0_8 (by decide +kernel) ?_
  refine v_iload_n (pc := 4) (k := 1) X (by decide +kernel) 1 rfl ?_
  obtain ⟨r1, er1, hf⟩ := nmd_e hf
  refine v_callV (pc := 5) (As := [.int l1]) (rest := []) X (mt_Se_knowBy ok hi (ly_0_8 ok kl0) er1.symm) ml_0_313 mv_Se_knowBy (ly_0_8 ok kl0) cls_9 rfl ⟨Nat.le_of_ble_eq_true rfl, Nat.le_of_ble_eq_true rfl⟩ rfl rfl (Nat.le_of_ble_eq_true rfl) (by decide +kernel) ?_
  change V E g tb ρ 2 8 [(0, .ref (ρ l0)), (1, .int l1)] [.int r1.1] r1.2
  obtain ⟨x2, ex2, hf⟩ := bnd_e hf
  obtain ⟨bx2, rfl⟩ := cZ_e ex2
  cases hf
  exact v_zret (hz := bx2) X Y (by decide +kernel) rfl rfl
def f_Se_manyKnown (tb : Tb) (h : Hp) (l0 : Nat) : Int32 :=
  if (h.1 l0 1) = (-1 : Int32) then (
    h.1 l0 0
  ) else (
    h.1 l0 1
  )
set_option maxRecDepth 4000 in
set_option maxHeartbeats 1000000 in
theorem mt_Se_manyKnown {g : Gl} {tb : Tb} {ρ : Nat → Nat} (ok : TbOK tb) (hi : inj tb ρ) {h : Hp} {l0 : Nat} (kl0 : kd tb l0 = 9) {r : Int32} (hf : f_Se_manyKnown tb h l0 = r) : MT g y_Se_manyKnown prog_10_method_6_code 1 (some .int) 0 0 tb ρ [.ref (ρ l0)] h (some (.int r)) h := by
  refine mt_intro (by decide +kernel) ok hi (Nat.le_of_ble_eq_true rfl) (fun E X Y => ?_)
  change V E g tb ρ 1 0 [(0, .ref (ρ l0))] [] h
  unfold f_Se_manyKnown at hf
  refine v_aload_n (pc := 0) (k := 0) X (by decide +kernel) 0 rfl ?_
  refine v_geti (pc := 1) X fl_9_15 kl0 rfl (by decide +kernel) ?_
  refine v_iconst (pc := 4) (n := -1) X (by decide +kernel) ic_m1 ?_
  refine v_icmp_ne (pc := 5) (off := 10) (tgt := 15) X (by decide +kernel) (by decide) (fun q1 => ?_) (fun q1 => ?_)
  · rw [if_neg q1] at hf
    refine v_aload_n (pc := 15) (k := 0) X (by decide +kernel) 0 rfl ?_
    refine v_geti (pc := 16) X fl_9_15 kl0 rfl (by decide +kernel) ?_
    cases hf
    exact v_iret X Y (by decide +kernel) rfl rfl
  · rw [if_pos q1] at hf
    refine v_aload_n (pc := 8) (k := 0) X (by decide +kernel) 0 rfl ?_
    refine v_geti (pc := 9) X fl_9_9 kl0 rfl (by decide +kernel) ?_
    refine v_goto (pc := 12) (off := 7) (tgt := 19) X (by decide +kernel) (by decide) ?_
    cases hf
    exact v_iret X Y (by decide +kernel) rfl rfl
def jb_Se_markStruck_63 (tb : Tb) (c28 : Hp → Nat → Int32 → Option (Hp)) (h : Hp) (l0 : Nat) (l1 : Int32) : Option (Hp) :=
  nmd (l1 + (-1 : Int32)) fun x1 =>
  c28 h l0 x1
def lp_Se_markStruck_28 (tb : Tb) : Nat → Hp → Nat → Int32 → Option (Hp)
  | 0, _, _, _ => none
  | n + 1, h, l0, l1 =>
    if l1 < (0 : Int32) then (
      some h
    ) else (
      (rI tb h (lay tb l0 6) l1).bind fun x1 =>
      if x1 = (-1 : Int32) then (
        jb_Se_markStruck_63 tb (lp_Se_markStruck_28 tb n) h l0 l1
      ) else (
        (rI tb h (lay tb l0 7) l1).bind fun x2 =>
        if x2 = (0 : Int32) then (
          (rI tb h (lay tb l0 6) l1).bind fun x3 =>
          (wZ tb h (lay tb l0 7) x3 (1 : Int32)).bind fun h4 =>
          jb_Se_markStruck_63 tb (lp_Se_markStruck_28 tb n) h4 l0 l1
        ) else (
          jb_Se_markStruck_63 tb (lp_Se_markStruck_28 tb n) h l0 l1
        )
      )
    )
def lp_Se_markStruck_2 (tb : Tb) : Nat → Hp → Nat → Int32 → Option (Hp)
  | 0, _, _, _ => none
  | n + 1, h, l0, l1 =>
    if (24 : Int32) ≤ l1 then (
      nmd (f_Se_manyKnown tb h l0) fun r1 =>
      nmd (r1 - (1 : Int32)) fun x2 =>
      lp_Se_markStruck_28 tb fu h l0 x2
    ) else (
      (wZ tb h (lay tb l0 7) l1 (0 : Int32)).bind fun h3 =>
      nmd (l1 + (1 : Int32)) fun x4 =>
      lp_Se_markStruck_2 tb n h3 l0 x4
    )
def f_Se_markStruck (tb : Tb) (h : Hp) (l0 : Nat) : Option (Hp) :=
  lp_Se_markStruck_2 tb fu h l0 (0 : Int32)
set_option maxRecDepth 4000 in
set_option maxHeartbeats 1000000 in
theorem vjb_Se_markStruck_63 {E : En} {g : Gl} {tb : Tb} {ρ : Nat → Nat} (ok : TbOK tb) (hi : inj tb ρ) {r : Hp} (X : CX E g tb ρ prog_10_method_7_code 2 RC9 1 20) (Y : CQ E g tb ρ none (none) r) {c28 : Hp → Nat → Int32 → Option (Hp)} (H28 : ∀ (h : Hp) (l0 : Nat) (l1 : Int32) (kl0 : kd tb l0 = 9), c28 h l0 l1 = some r → V E g tb ρ 2 28 [(0, .ref (ρ l0)), (1, .int l1)] [] h) (h : Hp) (l0 : Nat) (l1 : Int32) (kl0 : kd tb l0 = 9) (hf : jb_Se_markStruck_63 tb c28 h l0 l1 = some r) : V E g tb ρ 2 63 [(0, .ref (ρ l0)), (1, .int l1)] [] h := by
  unfold jb_Se_markStruck_63 at hf
  obtain ⟨x1, ex1, hf⟩ := nmd_e hf
  refine v_iinc (pc := 63) (k := 1) (n := -1) (v := x1) (lv' := [(1, .int x1), (0, .ref (ρ l0))]) X (by decide +kernel) 1 rfl (by rw [ic_m1, ex1]) (Nat.le_of_ble_eq_true rfl) rfl ?_
  refine v_goto (pc := 66) (off := -38) (tgt := 28) X (by decide +kernel) (by decide) ?_
  refine v_sub [1, 0] rfl ?_
  exact H28 h l0 x1 kl0 hf
set_option maxRecDepth 4000 in
set_option maxHeartbeats 1000000 in
theorem vlp_Se_markStruck_28 {E : En} {g : Gl} {tb : Tb} {ρ : Nat → Nat} (ok : TbOK tb) (hi : inj tb ρ) {r : Hp} (X : CX E g tb ρ prog_10_method_7_code 2 RC9 1 20) (Y : CQ E g tb ρ none (none) r) : ∀ (n : Nat) (h : Hp) (l0 : Nat) (l1 : Int32) (kl0 : kd tb l0 = 9), lp_Se_markStruck_28 tb n h l0 l1 = some r → V E g tb ρ 2 28 [(0, .ref (ρ l0)), (1, .int l1)] [] h := by
  intro n
  induction n with
  | zero =>
    intro h l0 l1 kl0 hf
    rw [lp_Se_markStruck_28] at hf
    cases hf
  | succ n ih =>
    intro h l0 l1 kl0 hf
    rw [lp_Se_markStruck_28] at hf
    refine v_iload_n (pc := 28) (k := 1) X (by decide +kernel) 1 rfl ?_
    refine v_if_lt (pc := 29) (off := 40) (tgt := 69) X (by decide +kernel) (by decide) (fun q7 => ?_) (fun q7 => ?_)
    · rw [if_pos q7] at hf
      cases hf
      exact v_vret X Y (by decide +kernel) rfl rfl
    · rw [if_neg q7] at hf
      refine v_aload_n (pc := 32) (k := 0) X (by decide +kernel) 0 rfl ?_
      refine v_geta (pc := 33) X fl_9_32 kl0 fk_9_6 (by decide +kernel) ?_
      refine v_iload_n (pc := 36) (k := 1) X (by decide +kernel) 1 rfl ?_
      obtain ⟨x1, ex1, hf⟩ := bnd_e hf
      refine v_iald (pc := 37) X (ly_9_6 ok kl0) ex1 (by decide +kernel) ?_
      refine v_iconst (pc := 38) (n := -1) X (by decide +kernel) ic_m1 ?_
      refine v_icmp_eq (pc := 39) (off := 24) (tgt := 63) X (by decide +kernel) (by decide) (fun q6 => ?_) (fun q6 => ?_)
      · rw [if_pos q6] at hf
        exact vjb_Se_markStruck_63 ok hi X Y ih h l0 l1 kl0 hf
      · rw [if_neg q6] at hf
        refine v_aload_n (pc := 42) (k := 0) X (by decide +kernel) 0 rfl ?_
        refine v_geta (pc := 43) X fl_9_35 kl0 fk_9_7 (by decide +kernel) ?_
        refine v_iload_n (pc := 46) (k := 1) X (by decide +kernel) 1 rfl ?_
        obtain ⟨x2, ex2, hf⟩ := bnd_e hf
        refine v_zald (pc := 47) X (ly_9_7 ok kl0) ex2 (by decide +kernel) ?_
        refine v_if_ne (pc := 48) (off := 15) (tgt := 63) X (by decide +kernel) (by decide) (fun q5 => ?_) (fun q5 => ?_)
        · rw [if_neg q5] at hf
          exact vjb_Se_markStruck_63 ok hi X Y ih h l0 l1 kl0 hf
        · rw [if_pos q5] at hf
          refine v_aload_n (pc := 51) (k := 0) X (by decide +kernel) 0 rfl ?_
          refine v_geta (pc := 52) X fl_9_35 kl0 fk_9_7 (by decide +kernel) ?_
          refine v_aload_n (pc := 55) (k := 0) X (by decide +kernel) 0 rfl ?_
          refine v_geta (pc := 56) X fl_9_32 kl0 fk_9_6 (by decide +kernel) ?_
          refine v_iload_n (pc := 59) (k := 1) X (by decide +kernel) 1 rfl ?_
          obtain ⟨x3, ex3, hf⟩ := bnd_e hf
          refine v_iald (pc := 60) X (ly_9_6 ok kl0) ex3 (by decide +kernel) ?_
          refine v_iconst (pc := 61) (n := 1) X (by decide +kernel) ic_1 ?_
          obtain ⟨h4, eh4, hf⟩ := bnd_e hf
          refine v_zast (pc := 62) X (ly_9_7 ok kl0) eh4 (by decide +kernel) ?_
          exact vjb_Se_markStruck_63 ok hi X Y ih h4 l0 l1 kl0 hf
set_option maxRecDepth 4000 in
set_option maxHeartbeats 1000000 in
theorem vlp_Se_markStruck_2 {E : En} {g : Gl} {tb : Tb} {ρ : Nat → Nat} (ok : TbOK tb) (hi : inj tb ρ) {r : Hp} (X : CX E g tb ρ prog_10_method_7_code 2 RC9 1 20) (Y : CQ E g tb ρ none (none) r) : ∀ (n : Nat) (h : Hp) (l0 : Nat) (l1 : Int32) (kl0 : kd tb l0 = 9), lp_Se_markStruck_2 tb n h l0 l1 = some r → V E g tb ρ 2 2 [(0, .ref (ρ l0)), (1, .int l1)] [] h := by
  intro n
  induction n with
  | zero =>
    intro h l0 l1 kl0 hf
    rw [lp_Se_markStruck_2] at hf
    cases hf
  | succ n ih =>
    intro h l0 l1 kl0 hf
    rw [lp_Se_markStruck_2] at hf
    refine v_iload_n (pc := 2) (k := 1) X (by decide +kernel) 1 rfl ?_
    refine v_bipush (pc := 3) (n := 24) X (by decide +kernel) bi_24 ?_
    refine v_icmp_ge (pc := 5) (off := 16) (tgt := 21) X (by decide +kernel) (by decide) (fun q5 => ?_) (fun q5 => ?_)
    · rw [if_pos q5] at hf
      refine v_aload_n (pc := 21) (k := 0) X (by decide +kernel) 0 rfl ?_
      obtain ⟨r1, er1, hf⟩ := nmd_e hf
      refine v_callV (pc := 22) (As := []) (rest := []) X (mt_Se_manyKnown ok hi kl0 er1.symm) ml_9_38 mv_Se_manyKnown kl0 cls_9 rfl ⟨Nat.le_of_ble_eq_true rfl, Nat.le_of_ble_eq_true rfl⟩ rfl rfl (Nat.le_of_ble_eq_true rfl) (by decide +kernel) ?_
      change V E g tb ρ 2 25 [(0, .ref (ρ l0)), (1, .int l1)] [.int r1] h
      refine v_iconst (pc := 25) (n := 1) X (by decide +kernel) ic_1 ?_
      refine v_isub (pc := 26) X (by decide +kernel) ?_
      obtain ⟨x2, ex2, hf⟩ := nmd_e hf
      refine v_nmi ex2 ?_
      refine v_istore_n (pc := 27) (k := 1) (lv' := [(1, .int x2), (0, .ref (ρ l0))]) X (by decide +kernel) (Nat.le_of_ble_eq_true rfl) rfl ?_
      refine v_sub [1, 0] rfl ?_
      exact vlp_Se_markStruck_28 ok hi X Y fu h l0 x2 kl0 hf
    · rw [if_neg q5] at hf
      refine v_aload_n (pc := 8) (k := 0) X (by decide +kernel) 0 rfl ?_
      refine v_geta (pc := 9) X fl_9_35 kl0 fk_9_7 (by decide +kernel) ?_
      refine v_iload_n (pc := 12) (k := 1) X (by decide +kernel) 1 rfl ?_
      refine v_iconst (pc := 13) (n := 0) X (by decide +kernel) ic_0 ?_
      obtain ⟨h3, eh3, hf⟩ := bnd_e hf
      refine v_zast (pc := 14) X (ly_9_7 ok kl0) eh3 (by decide +kernel) ?_
      obtain ⟨x4, ex4, hf⟩ := nmd_e hf
      refine v_iinc (pc := 15) (k := 1) (n := 1) (v := x4) (lv' := [(1, .int x4), (0, .ref (ρ l0))]) X (by decide +kernel) 1 rfl (by rw [ic_1, ex4]) (Nat.le_of_ble_eq_true rfl) rfl ?_
      refine v_goto (pc := 18) (off := -16) (tgt := 2) X (by decide +kernel) (by decide) ?_
      refine v_sub [1, 0] rfl ?_
      exact ih h3 l0 x4 kl0 hf
set_option maxRecDepth 4000 in
set_option maxHeartbeats 1000000 in
theorem mt_Se_markStruck {g : Gl} {tb : Tb} {ρ : Nat → Nat} (ok : TbOK tb) (hi : inj tb ρ) {h : Hp} {l0 : Nat} (kl0 : kd tb l0 = 9) {r : Hp} (hf : f_Se_markStruck tb h l0 = some r) : MT g y_Se_markStruck prog_10_method_7_code 2 none 1 20 tb ρ [.ref (ρ l0)] h (none) r := by
  refine mt_intro (by decide +kernel) ok hi (Nat.le_of_ble_eq_true rfl) (fun E X Y => ?_)
  change V E g tb ρ 2 0 [(0, .ref (ρ l0))] [] h
  unfold f_Se_markStruck at hf
  refine v_iconst (pc := 0) (n := 0) X (by decide +kernel) ic_0 ?_
  refine v_istore_n (pc := 1) (k := 1) (lv' := [(1, .int (0 : Int32)), (0, .ref (ρ l0))]) X (by decide +kernel) (Nat.le_of_ble_eq_true rfl) rfl ?_
  refine v_sub [1, 0] rfl ?_
  exact vlp_Se_markStruck_2 ok hi X Y fu h l0 (0 : Int32) kl0 hf
def f_Se_counts (tb : Tb) (h : Hp) (l0 : Nat) (l1 : Int32) : Option (Int32) :=
  (rI tb h (lay tb l0 6) l1).bind fun x1 =>
  if x1 = (-1 : Int32) then (
    (rI tb h (lay tb l0 7) l1).bind fun x2 =>
    if x2 = (0 : Int32) then (
      some (1 : Int32)
    ) else (
      some (0 : Int32)
    )
  ) else (
    some (0 : Int32)
  )
set_option maxRecDepth 4000 in
set_option maxHeartbeats 1000000 in
theorem mt_Se_counts {g : Gl} {tb : Tb} {ρ : Nat → Nat} (ok : TbOK tb) (hi : inj tb ρ) {h : Hp} {l0 : Nat} {l1 : Int32} (kl0 : kd tb l0 = 9) {r : Int32} (hf : f_Se_counts tb h l0 l1 = some r) : MT g y_Se_counts prog_10_method_8_code 2 (some .boolean) 0 0 tb ρ [.ref (ρ l0), .int l1] h (some (.int r)) h := by
  refine mt_intro (by decide +kernel) ok hi (Nat.le_of_ble_eq_true rfl) (fun E X Y => ?_)
  change V E g tb ρ 2 0 [(0, .ref (ρ l0)), (1, .int l1)] [] h
  unfold f_Se_counts at hf
  refine v_aload_n (pc := 0) (k := 0) X (by decide +kernel) 0 rfl ?_
  refine v_geta (pc := 1) X fl_9_32 kl0 fk_9_6 (by decide +kernel) ?_
  refine v_iload_n (pc := 4) (k := 1) X (by decide +kernel) 1 rfl ?_
  obtain ⟨x1, ex1, hf⟩ := bnd_e hf
  refine v_iald (pc := 5) X (ly_9_6 ok kl0) ex1 (by decide +kernel) ?_
  refine v_iconst (pc := 6) (n := -1) X (by decide +kernel) ic_m1 ?_
  refine v_icmp_ne (pc := 7) (off := 16) (tgt := 23) X (by decide +kernel) (by decide) (fun q4 => ?_) (fun q4 => ?_)
  · rw [if_neg q4] at hf
    refine v_iconst (pc := 23) (n := 0) X (by decide +kernel) ic_0 ?_
    cases hf
    exact v_zret (hz := rfl) X Y (by decide +kernel) rfl rfl
  · rw [if_pos q4] at hf
    refine v_aload_n (pc := 10) (k := 0) X (by decide +kernel) 0 rfl ?_
    refine v_geta (pc := 11) X fl_9_35 kl0 fk_9_7 (by decide +kernel) ?_
    refine v_iload_n (pc := 14) (k := 1) X (by decide +kernel) 1 rfl ?_
    obtain ⟨x2, ex2, hf⟩ := bnd_e hf
    refine v_zald (pc := 15) X (ly_9_7 ok kl0) ex2 (by decide +kernel) ?_
    refine v_if_ne (pc := 16) (off := 7) (tgt := 23) X (by decide +kernel) (by decide) (fun q3 => ?_) (fun q3 => ?_)
    · rw [if_neg q3] at hf
      refine v_iconst (pc := 23) (n := 0) X (by decide +kernel) ic_0 ?_
      cases hf
      exact v_zret (hz := rfl) X Y (by decide +kernel) rfl rfl
    · rw [if_pos q3] at hf
      refine v_iconst (pc := 19) (n := 1) X (by decide +kernel) ic_1 ?_
      refine v_goto (pc := 20) (off := 4) (tgt := 24) X (by decide +kernel) (by decide) ?_
      cases hf
      exact v_zret (hz := rfl) X Y (by decide +kernel) rfl rfl
def jb_Se_lastHour_34 (tb : Tb) (c4 : Hp → Nat → Int32 → Int32 → Option (Int32)) (h : Hp) (l0 : Nat) (l2 : Int32) (s0 : Int32) : Option (Int32) :=
  nmd (l2 + (1 : Int32)) fun x1 =>
  c4 h l0 s0 x1
def lp_Se_lastHour_4 (tb : Tb) : Nat → Hp → Nat → Int32 → Int32 → Option (Int32)
  | 0, _, _, _, _ => none
  | n + 1, h, l0, l1, l2 =>
    nmd (f_Se_manyKnown tb h l0) fun r1 =>
    if r1 ≤ l2 then (
      some l1
    ) else (
      (f_Se_counts tb h l0 l2).bind fun r2 =>
      if r2 = (0 : Int32) then (
        jb_Se_lastHour_34 tb (lp_Se_lastHour_4 tb n) h l0 l2 l1
      ) else (
        (rI tb h (lay tb l0 2) l2).bind fun x3 =>
        jb_Se_lastHour_34 tb (lp_Se_lastHour_4 tb n) h l0 l2 (mxI l1 x3)
      )
    )
def f_Se_lastHour (tb : Tb) (h : Hp) (l0 : Nat) : Option (Int32) :=
  lp_Se_lastHour_4 tb fu h l0 (0 : Int32) (0 : Int32)
set_option maxRecDepth 4000 in
set_option maxHeartbeats 1000000 in
theorem vjb_Se_lastHour_34 {E : En} {g : Gl} {tb : Tb} {ρ : Nat → Nat} (ok : TbOK tb) (hi : inj tb ρ) {r : Int32} (X : CX E g tb ρ prog_10_method_9_code 3 RC9 1 21) {h : Hp} (Y : CQ E g tb ρ (some .int) (some (.int r)) h) {c4 : Hp → Nat → Int32 → Int32 → Option (Int32)} (H4 : ∀ (l0 : Nat) (l1 : Int32) (l2 : Int32) (kl0 : kd tb l0 = 9), c4 h l0 l1 l2 = some r → V E g tb ρ 3 4 [(0, .ref (ρ l0)), (1, .int l1), (2, .int l2)] [] h) (l0 : Nat) (l2 : Int32) (s0 : Int32) (kl0 : kd tb l0 = 9) (hf : jb_Se_lastHour_34 tb c4 h l0 l2 s0 = some r) : V E g tb ρ 3 34 [(0, .ref (ρ l0)), (2, .int l2)] [.int s0] h := by
  unfold jb_Se_lastHour_34 at hf
  refine v_istore_n (pc := 34) (k := 1) (lv' := [(1, .int s0), (0, .ref (ρ l0)), (2, .int l2)]) X (by decide +kernel) (Nat.le_of_ble_eq_true rfl) rfl ?_
  obtain ⟨x1, ex1, hf⟩ := nmd_e hf
  refine v_iinc (pc := 35) (k := 2) (n := 1) (v := x1) (lv' := [(2, .int x1), (1, .int s0), (0, .ref (ρ l0))]) X (by decide +kernel) 2 rfl (by rw [ic_1, ex1]) (Nat.le_of_ble_eq_true rfl) rfl ?_
  refine v_goto (pc := 38) (off := -34) (tgt := 4) X (by decide +kernel) (by decide) ?_
  refine v_sub [2, 1, 0] rfl ?_
  exact H4 l0 s0 x1 kl0 hf
set_option maxRecDepth 4000 in
set_option maxHeartbeats 1000000 in
theorem vlp_Se_lastHour_4 {E : En} {g : Gl} {tb : Tb} {ρ : Nat → Nat} (ok : TbOK tb) (hi : inj tb ρ) {r : Int32} (X : CX E g tb ρ prog_10_method_9_code 3 RC9 1 21) {h : Hp} (Y : CQ E g tb ρ (some .int) (some (.int r)) h) : ∀ (n : Nat) (l0 : Nat) (l1 : Int32) (l2 : Int32) (kl0 : kd tb l0 = 9), lp_Se_lastHour_4 tb n h l0 l1 l2 = some r → V E g tb ρ 3 4 [(0, .ref (ρ l0)), (1, .int l1), (2, .int l2)] [] h := by
  intro n
  induction n with
  | zero =>
    intro l0 l1 l2 kl0 hf
    rw [lp_Se_lastHour_4] at hf
    cases hf
  | succ n ih =>
    intro l0 l1 l2 kl0 hf
    rw [lp_Se_lastHour_4] at hf
    refine v_iload_n (pc := 4) (k := 2) X (by decide +kernel) 2 rfl ?_
    refine v_aload_n (pc := 5) (k := 0) X (by decide +kernel) 0 rfl ?_
    obtain ⟨r1, er1, hf⟩ := nmd_e hf
    refine v_callV (pc := 6) (As := []) (rest := [.int l2]) X (mt_Se_manyKnown ok hi kl0 er1.symm) ml_9_38 mv_Se_manyKnown kl0 cls_9 rfl ⟨Nat.le_of_ble_eq_true rfl, Nat.le_of_ble_eq_true rfl⟩ rfl rfl (Nat.le_of_ble_eq_true rfl) (by decide +kernel) ?_
    change V E g tb ρ 3 9 [(0, .ref (ρ l0)), (1, .int l1), (2, .int l2)] [.int r1, .int l2] h
    refine v_icmp_ge (pc := 9) (off := 32) (tgt := 41) X (by decide +kernel) (by decide) (fun q5 => ?_) (fun q5 => ?_)
    · rw [if_pos q5] at hf
      refine v_iload_n (pc := 41) (k := 1) X (by decide +kernel) 1 rfl ?_
      cases hf
      exact v_iret X Y (by decide +kernel) rfl rfl
    · rw [if_neg q5] at hf
      refine v_aload_n (pc := 12) (k := 0) X (by decide +kernel) 0 rfl ?_
      refine v_iload_n (pc := 13) (k := 2) X (by decide +kernel) 2 rfl ?_
      obtain ⟨r2, er2, hf⟩ := bnd_e hf
      refine v_callV (pc := 14) (As := [.int l2]) (rest := []) X (mt_Se_counts ok hi kl0 er2) ml_9_42 mv_Se_counts kl0 cls_9 rfl ⟨Nat.le_of_ble_eq_true rfl, Nat.le_of_ble_eq_true rfl⟩ rfl rfl (Nat.le_of_ble_eq_true rfl) (by decide +kernel) ?_
      change V E g tb ρ 3 17 [(0, .ref (ρ l0)), (1, .int l1), (2, .int l2)] [.int r2] h
      refine v_if_eq (pc := 17) (off := 16) (tgt := 33) X (by decide +kernel) (by decide) (fun q4 => ?_) (fun q4 => ?_)
      · rw [if_pos q4] at hf
        refine v_iload_n (pc := 33) (k := 1) X (by decide +kernel) 1 rfl ?_
        refine v_sub [0, 2] rfl ?_
        exact vjb_Se_lastHour_34 ok hi X Y ih l0 l2 l1 kl0 hf
      · rw [if_neg q4] at hf
        refine v_iload_n (pc := 20) (k := 1) X (by decide +kernel) 1 rfl ?_
        refine v_aload_n (pc := 21) (k := 0) X (by decide +kernel) 0 rfl ?_
        refine v_geta (pc := 22) X fl_9_18 kl0 fk_9_2 (by decide +kernel) ?_
        refine v_iload_n (pc := 25) (k := 2) X (by decide +kernel) 2 rfl ?_
        obtain ⟨x3, ex3, hf⟩ := bnd_e hf
        refine v_iald (pc := 26) X (ly_9_2 ok kl0) ex3 (by decide +kernel) ?_
        refine v_mmax (pc := 27) X mm_9_46 ms_mmax mc_mmax mi_math ⟨Nat.le_of_ble_eq_true rfl, Nat.le_of_ble_eq_true rfl⟩ (by decide +kernel) ?_
        refine v_goto (pc := 30) (off := 4) (tgt := 34) X (by decide +kernel) (by decide) ?_
        refine v_sub [0, 2] rfl ?_
        exact vjb_Se_lastHour_34 ok hi X Y ih l0 l2 (mxI l1 x3) kl0 hf
set_option maxRecDepth 4000 in
set_option maxHeartbeats 1000000 in
theorem mt_Se_lastHour {g : Gl} {tb : Tb} {ρ : Nat → Nat} (ok : TbOK tb) (hi : inj tb ρ) {h : Hp} {l0 : Nat} (kl0 : kd tb l0 = 9) {r : Int32} (hf : f_Se_lastHour tb h l0 = some r) : MT g y_Se_lastHour prog_10_method_9_code 3 (some .int) 1 21 tb ρ [.ref (ρ l0)] h (some (.int r)) h := by
  refine mt_intro (by decide +kernel) ok hi (Nat.le_of_ble_eq_true rfl) (fun E X Y => ?_)
  change V E g tb ρ 3 0 [(0, .ref (ρ l0))] [] h
  unfold f_Se_lastHour at hf
  refine v_iconst (pc := 0) (n := 0) X (by decide +kernel) ic_0 ?_
  refine v_istore_n (pc := 1) (k := 1) (lv' := [(1, .int (0 : Int32)), (0, .ref (ρ l0))]) X (by decide +kernel) (Nat.le_of_ble_eq_true rfl) rfl ?_
  refine v_iconst (pc := 2) (n := 0) X (by decide +kernel) ic_0 ?_
  refine v_istore_n (pc := 3) (k := 2) (lv' := [(2, .int (0 : Int32)), (1, .int (0 : Int32)), (0, .ref (ρ l0))]) X (by decide +kernel) (Nat.le_of_ble_eq_true rfl) rfl ?_
  refine v_sub [2, 1, 0] rfl ?_
  exact vlp_Se_lastHour_4 ok hi X Y fu l0 (0 : Int32) (0 : Int32) kl0 hf
def jb_Se_fits_67 (tb : Tb) (c2 : Hp → Nat → Nat → Int32 → Option (Int32)) (h : Hp) (l0 : Nat) (l1 : Nat) (l2 : Int32) : Option (Int32) :=
  nmd (l2 + (1 : Int32)) fun x1 =>
  c2 h l0 l1 x1
def jb_Se_fits_56 (tb : Tb) (c2 : Hp → Nat → Nat → Int32 → Option (Int32)) (h : Hp) (l0 : Nat) (l1 : Nat) (l2 : Int32) (s0 : Int32) : Option (Int32) :=
  (rI tb h (lay tb l0 5) l2).bind fun x1 =>
  if s0 = x1 then (
    jb_Se_fits_67 tb c2 h l0 l1 l2
  ) else (
    some (0 : Int32)
  )
def lp_Se_fits_2 (tb : Tb) : Nat → Hp → Nat → Nat → Int32 → Option (Int32)
  | 0, _, _, _, _ => none
  | n + 1, h, l0, l1, l2 =>
    nmd (f_Se_manyKnown tb h l0) fun r1 =>
    if r1 ≤ l2 then (
      some (1 : Int32)
    ) else (
      (f_Se_counts tb h l0 l2).bind fun r2 =>
      if r2 = (0 : Int32) then (
        jb_Se_fits_67 tb (lp_Se_fits_2 tb n) h l0 l1 l2
      ) else (
        (rI tb h (lay tb l0 2) l2).bind fun x3 =>
        if x3 = (h.1 l1 0) then (
          (rI tb h (lay tb l0 3) l2).bind fun x4 =>
          (rI tb h (lay tb l1 14) x4).bind fun x5 =>
          (rI tb h (lay tb l0 4) l2).bind fun x6 =>
          if x5 < x6 then (
            jb_Se_fits_56 tb (lp_Se_fits_2 tb n) h l0 l1 l2 (0 : Int32)
          ) else (
            jb_Se_fits_56 tb (lp_Se_fits_2 tb n) h l0 l1 l2 (1 : Int32)
          )
        ) else (
          jb_Se_fits_67 tb (lp_Se_fits_2 tb n) h l0 l1 l2
        )
      )
    )
def f_Se_fits (tb : Tb) (h : Hp) (l0 : Nat) (l1 : Nat) : Option (Int32) :=
  lp_Se_fits_2 tb fu h l0 l1 (0 : Int32)
set_option maxRecDepth 4000 in
set_option maxHeartbeats 1000000 in
theorem vjb_Se_fits_67 {E : En} {g : Gl} {tb : Tb} {ρ : Nat → Nat} (ok : TbOK tb) (hi : inj tb ρ) {r : Int32} (X : CX E g tb ρ prog_10_method_10_code 3 RC9 1 21) {h : Hp} (Y : CQ E g tb ρ (some .boolean) (some (.int r)) h) {c2 : Hp → Nat → Nat → Int32 → Option (Int32)} (H2 : ∀ (l0 : Nat) (l1 : Nat) (l2 : Int32) (kl0 : kd tb l0 = 9) (kl1 : kd tb l1 = 11), c2 h l0 l1 l2 = some r → V E g tb ρ 3 2 [(0, .ref (ρ l0)), (1, .ref (ρ l1)), (2, .int l2)] [] h) (l0 : Nat) (l1 : Nat) (l2 : Int32) (kl0 : kd tb l0 = 9) (kl1 : kd tb l1 = 11) (hf : jb_Se_fits_67 tb c2 h l0 l1 l2 = some r) : V E g tb ρ 3 67 [(0, .ref (ρ l0)), (1, .ref (ρ l1)), (2, .int l2)] [] h := by
  unfold jb_Se_fits_67 at hf
  obtain ⟨x1, ex1, hf⟩ := nmd_e hf
  refine v_iinc (pc := 67) (k := 2) (n := 1) (v := x1) (lv' := [(2, .int x1), (0, .ref (ρ l0)), (1, .ref (ρ l1))]) X (by decide +kernel) 2 rfl (by rw [ic_1, ex1]) (Nat.le_of_ble_eq_true rfl) rfl ?_
  refine v_goto (pc := 70) (off := -68) (tgt := 2) X (by decide +kernel) (by decide) ?_
  refine v_sub [1, 2, 0] rfl ?_
  exact H2 l0 l1 x1 kl0 kl1 hf
set_option maxRecDepth 4000 in
set_option maxHeartbeats 1000000 in
theorem vjb_Se_fits_56 {E : En} {g : Gl} {tb : Tb} {ρ : Nat → Nat} (ok : TbOK tb) (hi : inj tb ρ) {r : Int32} (X : CX E g tb ρ prog_10_method_10_code 3 RC9 1 21) {h : Hp} (Y : CQ E g tb ρ (some .boolean) (some (.int r)) h) {c2 : Hp → Nat → Nat → Int32 → Option (Int32)} (H2 : ∀ (l0 : Nat) (l1 : Nat) (l2 : Int32) (kl0 : kd tb l0 = 9) (kl1 : kd tb l1 = 11), c2 h l0 l1 l2 = some r → V E g tb ρ 3 2 [(0, .ref (ρ l0)), (1, .ref (ρ l1)), (2, .int l2)] [] h) (l0 : Nat) (l1 : Nat) (l2 : Int32) (s0 : Int32) (kl0 : kd tb l0 = 9) (kl1 : kd tb l1 = 11) (hf : jb_Se_fits_56 tb c2 h l0 l1 l2 s0 = some r) : V E g tb ρ 3 56 [(0, .ref (ρ l0)), (1, .ref (ρ l1)), (2, .int l2)] [.int s0] h := by
  unfold jb_Se_fits_56 at hf
  refine v_aload_n (pc := 56) (k := 0) X (by decide +kernel) 0 rfl ?_
  refine v_geta (pc := 57) X fl_9_28 kl0 fk_9_5 (by decide +kernel) ?_
  refine v_iload_n (pc := 60) (k := 2) X (by decide +kernel) 2 rfl ?_
  obtain ⟨x1, ex1, hf⟩ := bnd_e hf
  refine v_zald (pc := 61) X (ly_9_5 ok kl0) ex1 (by decide +kernel) ?_
  refine v_icmp_eq (pc := 62) (off := 5) (tgt := 67) X (by decide +kernel) (by decide) (fun q2 => ?_) (fun q2 => ?_)
  · rw [if_pos q2] at hf
    exact vjb_Se_fits_67 ok hi X Y H2 l0 l1 l2 kl0 kl1 hf
  · rw [if_neg q2] at hf
    refine v_iconst (pc := 65) (n := 0) X (by decide +kernel) ic_0 ?_
    cases hf
    exact v_zret (hz := rfl) X Y (by decide +kernel) rfl rfl
set_option maxRecDepth 4000 in
set_option maxHeartbeats 1000000 in
theorem vlp_Se_fits_2 {E : En} {g : Gl} {tb : Tb} {ρ : Nat → Nat} (ok : TbOK tb) (hi : inj tb ρ) {r : Int32} (X : CX E g tb ρ prog_10_method_10_code 3 RC9 1 21) {h : Hp} (Y : CQ E g tb ρ (some .boolean) (some (.int r)) h) : ∀ (n : Nat) (l0 : Nat) (l1 : Nat) (l2 : Int32) (kl0 : kd tb l0 = 9) (kl1 : kd tb l1 = 11), lp_Se_fits_2 tb n h l0 l1 l2 = some r → V E g tb ρ 3 2 [(0, .ref (ρ l0)), (1, .ref (ρ l1)), (2, .int l2)] [] h := by
  intro n
  induction n with
  | zero =>
    intro l0 l1 l2 kl0 kl1 hf
    rw [lp_Se_fits_2] at hf
    cases hf
  | succ n ih =>
    intro l0 l1 l2 kl0 kl1 hf
    rw [lp_Se_fits_2] at hf
    refine v_iload_n (pc := 2) (k := 2) X (by decide +kernel) 2 rfl ?_
    refine v_aload_n (pc := 3) (k := 0) X (by decide +kernel) 0 rfl ?_
    obtain ⟨r1, er1, hf⟩ := nmd_e hf
    refine v_callV (pc := 4) (As := []) (rest := [.int l2]) X (mt_Se_manyKnown ok hi kl0 er1.symm) ml_9_38 mv_Se_manyKnown kl0 cls_9 rfl ⟨Nat.le_of_ble_eq_true rfl, Nat.le_of_ble_eq_true rfl⟩ rfl rfl (Nat.le_of_ble_eq_true rfl) (by decide +kernel) ?_
    change V E g tb ρ 3 7 [(0, .ref (ρ l0)), (1, .ref (ρ l1)), (2, .int l2)] [.int r1, .int l2] h
    refine v_icmp_ge (pc := 7) (off := 66) (tgt := 73) X (by decide +kernel) (by decide) (fun q10 => ?_) (fun q10 => ?_)
    · rw [if_pos q10] at hf
      refine v_iconst (pc := 73) (n := 1) X (by decide +kernel) ic_1 ?_
      cases hf
      exact v_zret (hz := rfl) X Y (by decide +kernel) rfl rfl
    · rw [if_neg q10] at hf
      refine v_aload_n (pc := 10) (k := 0) X (by decide +kernel) 0 rfl ?_
      refine v_iload_n (pc := 11) (k := 2) X (by decide +kernel) 2 rfl ?_
      obtain ⟨r2, er2, hf⟩ := bnd_e hf
      refine v_callV (pc := 12) (As := [.int l2]) (rest := []) X (mt_Se_counts ok hi kl0 er2) ml_9_42 mv_Se_counts kl0 cls_9 rfl ⟨Nat.le_of_ble_eq_true rfl, Nat.le_of_ble_eq_true rfl⟩ rfl rfl (Nat.le_of_ble_eq_true rfl) (by decide +kernel) ?_
      change V E g tb ρ 3 15 [(0, .ref (ρ l0)), (1, .ref (ρ l1)), (2, .int l2)] [.int r2] h
      refine v_if_eq (pc := 15) (off := 52) (tgt := 67) X (by decide +kernel) (by decide) (fun q9 => ?_) (fun q9 => ?_)
      · rw [if_pos q9] at hf
        exact vjb_Se_fits_67 ok hi X Y ih l0 l1 l2 kl0 kl1 hf
      · rw [if_neg q9] at hf
        refine v_aload_n (pc := 18) (k := 0) X (by decide +kernel) 0 rfl ?_
        refine v_geta (pc := 19) X fl_9_18 kl0 fk_9_2 (by decide +kernel) ?_
        refine v_iload_n (pc := 22) (k := 2) X (by decide +kernel) 2 rfl ?_
        obtain ⟨x3, ex3, hf⟩ := bnd_e hf
        refine v_iald (pc := 23) X (ly_9_2 ok kl0) ex3 (by decide +kernel) ?_
        refine v_aload_n (pc := 24) (k := 1) X (by decide +kernel) 1 rfl ?_
        refine v_geti (pc := 25) X fl_9_52 kl1 rfl (by decide +kernel) ?_
        refine v_icmp_ne (pc := 28) (off := 39) (tgt := 67) X (by decide +kernel) (by decide) (fun q8 => ?_) (fun q8 => ?_)
        · rw [if_neg q8] at hf
          exact vjb_Se_fits_67 ok hi X Y ih l0 l1 l2 kl0 kl1 hf
        · rw [if_pos q8] at hf
          refine v_aload_n (pc := 31) (k := 1) X (by decide +kernel) 1 rfl ?_
          refine v_geta (pc := 32) X fl_9_56 kl1 fk_11_14 (by decide +kernel) ?_
          refine v_aload_n (pc := 35) (k := 0) X (by decide +kernel) 0 rfl ?_
          refine v_geta (pc := 36) X fl_9_22 kl0 fk_9_3 (by decide +kernel) ?_
          refine v_iload_n (pc := 39) (k := 2) X (by decide +kernel) 2 rfl ?_
          obtain ⟨x4, ex4, hf⟩ := bnd_e hf
          refine v_iald (pc := 40) X (ly_9_3 ok kl0) ex4 (by decide +kernel) ?_
          obtain ⟨x5, ex5, hf⟩ := bnd_e hf
          refine v_iald (pc := 41) X (ly_11_14 ok kl1) ex5 (by decide +kernel) ?_
          refine v_aload_n (pc := 42) (k := 0) X (by decide +kernel) 0 rfl ?_
          refine v_geta (pc := 43) X fl_9_25 kl0 fk_9_4 (by decide +kernel) ?_
          refine v_iload_n (pc := 46) (k := 2) X (by decide +kernel) 2 rfl ?_
          obtain ⟨x6, ex6, hf⟩ := bnd_e hf
          refine v_iald (pc := 47) X (ly_9_4 ok kl0) ex6 (by decide +kernel) ?_
          refine v_icmp_lt (pc := 48) (off := 7) (tgt := 55) X (by decide +kernel) (by decide) (fun q7 => ?_) (fun q7 => ?_)
          · rw [if_pos q7] at hf
            refine v_iconst (pc := 55) (n := 0) X (by decide +kernel) ic_0 ?_
            exact vjb_Se_fits_56 ok hi X Y ih l0 l1 l2 (0 : Int32) kl0 kl1 hf
          · rw [if_neg q7] at hf
            refine v_iconst (pc := 51) (n := 1) X (by decide +kernel) ic_1 ?_
            refine v_goto (pc := 52) (off := 4) (tgt := 56) X (by decide +kernel) (by decide) ?_
            exact vjb_Se_fits_56 ok hi X Y ih l0 l1 l2 (1 : Int32) kl0 kl1 hf
set_option maxRecDepth 4000 in
set_option maxHeartbeats 1000000 in
theorem mt_Se_fits {g : Gl} {tb : Tb} {ρ : Nat → Nat} (ok : TbOK tb) (hi : inj tb ρ) {h : Hp} {l0 : Nat} {l1 : Nat} (kl0 : kd tb l0 = 9) (kl1 : kd tb l1 = 11) {r : Int32} (hf : f_Se_fits tb h l0 l1 = some r) : MT g y_Se_fits prog_10_method_10_code 3 (some .boolean) 1 21 tb ρ [.ref (ρ l0), .ref (ρ l1)] h (some (.int r)) h := by
  refine mt_intro (by decide +kernel) ok hi (Nat.le_of_ble_eq_true rfl) (fun E X Y => ?_)
  change V E g tb ρ 3 0 [(0, .ref (ρ l0)), (1, .ref (ρ l1))] [] h
  unfold f_Se_fits at hf
  refine v_iconst (pc := 0) (n := 0) X (by decide +kernel) ic_0 ?_
  refine v_istore_n (pc := 1) (k := 2) (lv' := [(2, .int (0 : Int32)), (0, .ref (ρ l0)), (1, .ref (ρ l1))]) X (by decide +kernel) (Nat.le_of_ble_eq_true rfl) rfl ?_
  refine v_sub [1, 2, 0] rfl ?_
  exact vlp_Se_fits_2 ok hi X Y fu l0 l1 (0 : Int32) kl0 kl1 hf
def lp_Fo_agrees_37 (tb : Tb) : Nat → Hp → Nat → Nat → Int32 → Int32 → Option (Int32 × Hp)
  | 0, _, _, _, _, _ => none
  | n + 1, h, l0, l1, l4, l5 =>
    if l4 < l5 then (
      some ((1 : Int32), h)
    ) else (
      if (60 : Int32) < l5 then (
        some ((1 : Int32), h)
      ) else (
        (f_Ho_pass tb h (lay tb l0 2) (lay tb l0 3) (1 : Int32)).bind fun r1 =>
        (f_Se_fits tb r1 l1 (lay tb l0 3)).bind fun r2 =>
        if r2 = (0 : Int32) then (
          some ((0 : Int32), r1)
        ) else (
          nmd (l5 + (1 : Int32)) fun x3 =>
          lp_Fo_agrees_37 tb n r1 l0 l1 l4 x3
        )
      )
    )
def f_Fo_agrees (tb : Tb) (h : Hp) (l0 : Nat) (l1 : Nat) (l2 : Int32) (l3 : Int32) : Option (Int32 × Hp) :=
  nmd (f_Ho_asItGoes tb h (lay tb l0 2)) fun r1 =>
  (f_Wo_begin tb r1 (lay tb l0 3) (lay tb l0 0)).bind fun r2 =>
  (wI tb r2 (lay tb (lay tb l0 3) 10) l2 l3).bind fun h3 =>
  (f_Se_lastHour tb h3 l1).bind fun r4 =>
  lp_Fo_agrees_37 tb fu h3 l0 l1 r4 (1 : Int32)
set_option maxRecDepth 4000 in
set_option maxHeartbeats 1000000 in
theorem vlp_Fo_agrees_37 {E : En} {g : Gl} {tb : Tb} {ρ : Nat → Nat} (ok : TbOK tb) (hi : inj tb ρ) {r : Int32 × Hp} (X : CX E g tb ρ prog_4_method_14_code 6 RC3 6 151) (Y : CQ E g tb ρ (some .boolean) (some (.int r.1)) r.2) : ∀ (n : Nat) (h : Hp) (l0 : Nat) (l1 : Nat) (l4 : Int32) (l5 : Int32) (kl0 : kd tb l0 = 3) (kl1 : kd tb l1 = 9), lp_Fo_agrees_37 tb n h l0 l1 l4 l5 = some r → V E g tb ρ 6 37 [(0, .ref (ρ l0)), (1, .ref (ρ l1)), (4, .int l4), (5, .int l5)] [] h := by
  intro n
  induction n with
  | zero =>
    intro h l0 l1 l4 l5 kl0 kl1 hf
    rw [lp_Fo_agrees_37] at hf
    cases hf
  | succ n ih =>
    intro h l0 l1 l4 l5 kl0 kl1 hf
    rw [lp_Fo_agrees_37] at hf
    refine v_iload (pc := 37) (k := 5) X (by decide +kernel) 3 rfl ?_
    refine v_iload (pc := 39) (k := 4) X (by decide +kernel) 2 rfl ?_
    refine v_icmp_gt (pc := 41) (off := 41) (tgt := 82) X (by decide +kernel) (by decide) (fun q6 => ?_) (fun q6 => ?_)
    · rw [if_pos q6] at hf
      refine v_iconst (pc := 82) (n := 1) X (by decide +kernel) ic_1 ?_
      cases hf
      exact v_zret (hz := rfl) X Y (by decide +kernel) rfl rfl
    · rw [if_neg q6] at hf
      refine v_iload (pc := 44) (k := 5) X (by decide +kernel) 3 rfl ?_
      refine v_bipush (pc := 46) (n := 60) X (by decide +kernel) bi_60 ?_
      refine v_icmp_gt (pc := 48) (off := 34) (tgt := 82) X (by decide +kernel) (by decide) (fun q5 => ?_) (fun q5 => ?_)
      · rw [if_pos q5] at hf
        refine v_iconst (pc := 82) (n := 1) X (by decide +kernel) ic_1 ?_
        cases hf
        exact v_zret (hz := rfl) X Y (by decide +kernel) rfl rfl
      · rw [if_neg q5] at hf
        refine v_aload_n (pc := 51) (k := 0) X (by decide +kernel) 0 rfl ?_
        refine v_geta (pc := 52) X fl_3_32 kl0 fk_3_2 (by decide +kernel) ?_
        refine v_aload_n (pc := 55) (k := 0) X (by decide +kernel) 0 rfl ?_
        refine v_geta (pc := 56) X fl_3_12 kl0 fk_3_3 (by decide +kernel) ?_
        refine v_iconst (pc := 59) (n := 1) X (by decide +kernel) ic_1 ?_
        obtain ⟨r1, er1, hf⟩ := bnd_e hf
        refine v_callV (pc := 60) (As := [.ref (ρ (lay tb l0 3)), .int (1 : Int32)]) (rest := []) X (mt_Ho_pass ok hi (ly_3_2 ok kl0) (ly_3_3 ok kl0) er1) ml_3_48 mv_Ho_pass (ly_3_2 ok kl0) cls_4 rfl ⟨Nat.le_of_ble_eq_true rfl, Nat.le_of_ble_eq_true rfl⟩ rfl rfl (Nat.le_of_ble_eq_true rfl) (by decide +kernel) ?_
        change V E g tb ρ 6 63 [(0, .ref (ρ l0)), (1, .ref (ρ l1)), (4, .int l4), (5, .int l5)] [] r1
        refine v_aload_n (pc := 63) (k := 1) X (by decide +kernel) 1 rfl ?_
        refine v_aload_n (pc := 64) (k := 0) X (by decide +kernel) 0 rfl ?_
        refine v_geta (pc := 65) X fl_3_12 kl0 fk_3_3 (by decide +kernel) ?_
        obtain ⟨r2, er2, hf⟩ := bnd_e hf
        refine v_callV (pc := 68) (As := [.ref (ρ (lay tb l0 3))]) (rest := []) X (mt_Se_fits ok hi kl1 (ly_3_3 ok kl0) er2) ml_3_128 mv_Se_fits kl1 cls_9 rfl ⟨Nat.le_of_ble_eq_true rfl, Nat.le_of_ble_eq_true rfl⟩ rfl rfl (Nat.le_of_ble_eq_true rfl) (by decide +kernel) ?_
        change V E g tb ρ 6 71 [(0, .ref (ρ l0)), (1, .ref (ρ l1)), (4, .int l4), (5, .int l5)] [.int r2] r1
        refine v_if_ne (pc := 71) (off := 5) (tgt := 76) X (by decide +kernel) (by decide) (fun q4 => ?_) (fun q4 => ?_)
        · rw [if_neg q4] at hf
          obtain ⟨x3, ex3, hf⟩ := nmd_e hf
          refine v_iinc (pc := 76) (k := 5) (n := 1) (v := x3) (lv' := [(5, .int x3), (0, .ref (ρ l0)), (1, .ref (ρ l1)), (4, .int l4)]) X (by decide +kernel) 3 rfl (by rw [ic_1, ex3]) (Nat.le_of_ble_eq_true rfl) rfl ?_
          refine v_goto (pc := 79) (off := -42) (tgt := 37) X (by decide +kernel) (by decide) ?_
          refine v_sub [1, 2, 3, 0] rfl ?_
          exact ih r1 l0 l1 l4 x3 kl0 kl1 hf
        · rw [if_pos q4] at hf
          refine v_iconst (pc := 74) (n := 0) X (by decide +kernel) ic_0 ?_
          cases hf
          exact v_zret (hz := rfl) X Y (by decide +kernel) rfl rfl
set_option maxRecDepth 4000 in
set_option maxHeartbeats 1000000 in
theorem mt_Fo_agrees {g : Gl} {tb : Tb} {ρ : Nat → Nat} (ok : TbOK tb) (hi : inj tb ρ) {h : Hp} {l0 : Nat} {l1 : Nat} {l2 : Int32} {l3 : Int32} (kl0 : kd tb l0 = 3) (kl1 : kd tb l1 = 9) {r : Int32 × Hp} (hf : f_Fo_agrees tb h l0 l1 l2 l3 = some r) : MT g y_Fo_agrees prog_4_method_14_code 6 (some .boolean) 6 151 tb ρ [.ref (ρ l0), .ref (ρ l1), .int l2, .int l3] h (some (.int r.1)) r.2 := by
  refine mt_intro (by decide +kernel) ok hi (Nat.le_of_ble_eq_true rfl) (fun E X Y => ?_)
  change V E g tb ρ 6 0 [(0, .ref (ρ l0)), (1, .ref (ρ l1)), (2, .int l2), (3, .int l3)] [] h
  unfold f_Fo_agrees at hf
  refine v_aload_n (pc := 0) (k := 0) X (by decide +kernel) 0 rfl ?_
  refine v_geta (pc := 1) X fl_3_32 kl0 fk_3_2 (by decide +kernel) ?_
  obtain ⟨r1, er1, hf⟩ := nmd_e hf
  refine v_callV (pc := 4) (As := []) (rest := []) X (mt_Ho_asItGoes ok hi (ly_3_2 ok kl0) er1.symm) ml_3_40 mv_Ho_asItGoes (ly_3_2 ok kl0) cls_4 rfl ⟨Nat.le_of_ble_eq_true rfl, Nat.le_of_ble_eq_true rfl⟩ rfl rfl (Nat.le_of_ble_eq_true rfl) (by decide +kernel) ?_
  change V E g tb ρ 6 7 [(0, .ref (ρ l0)), (1, .ref (ρ l1)), (2, .int l2), (3, .int l3)] [] r1
  refine v_aload_n (pc := 7) (k := 0) X (by decide +kernel) 0 rfl ?_
  refine v_geta (pc := 8) X fl_3_12 kl0 fk_3_3 (by decide +kernel) ?_
  refine v_aload_n (pc := 11) (k := 0) X (by decide +kernel) 0 rfl ?_
  refine v_geta (pc := 12) X fl_3_25 kl0 fk_3_0 (by decide +kernel) ?_
  obtain ⟨r2, er2, hf⟩ := bnd_e hf
  refine v_callV (pc := 15) (As := [.ref (ρ (lay tb l0 0))]) (rest := []) X (mt_Wo_begin ok hi (ly_3_3 ok kl0) (ly_3_0 ok kl0) er2) ml_3_115 mv_Wo_begin (ly_3_3 ok kl0) cls_11 rfl ⟨Nat.le_of_ble_eq_true rfl, Nat.le_of_ble_eq_true rfl⟩ rfl rfl (Nat.le_of_ble_eq_true rfl) (by decide +kernel) ?_
  change V E g tb ρ 6 18 [(0, .ref (ρ l0)), (1, .ref (ρ l1)), (2, .int l2), (3, .int l3)] [] r2
  refine v_aload_n (pc := 18) (k := 0) X (by decide +kernel) 0 rfl ?_
  refine v_geta (pc := 19) X fl_3_12 kl0 fk_3_3 (by decide +kernel) ?_
  refine v_geta (pc := 22) X fl_3_119 (ly_3_3 ok kl0) fk_11_10 (by decide +kernel) ?_
  refine v_iload_n (pc := 25) (k := 2) X (by decide +kernel) 2 rfl ?_
  refine v_iload_n (pc := 26) (k := 3) X (by decide +kernel) 3 rfl ?_
  obtain ⟨h3, eh3, hf⟩ := bnd_e hf
  refine v_iast (pc := 27) X (ly_11_10 ok (ly_3_3 ok kl0)) eh3 (by decide +kernel) ?_
  refine v_aload_n (pc := 28) (k := 1) X (by decide +kernel) 1 rfl ?_
  obtain ⟨r4, er4, hf⟩ := bnd_e hf
  refine v_callV (pc := 29) (As := []) (rest := []) X (mt_Se_lastHour ok hi kl1 er4) ml_3_122 mv_Se_lastHour kl1 cls_9 rfl ⟨Nat.le_of_ble_eq_true rfl, Nat.le_of_ble_eq_true rfl⟩ rfl rfl (Nat.le_of_ble_eq_true rfl) (by decide +kernel) ?_
  change V E g tb ρ 6 32 [(0, .ref (ρ l0)), (1, .ref (ρ l1)), (2, .int l2), (3, .int l3)] [.int r4] h3
  refine v_istore (pc := 32) (k := 4) (lv' := [(4, .int r4), (0, .ref (ρ l0)), (1, .ref (ρ l1)), (2, .int l2), (3, .int l3)]) X (by decide +kernel) (Nat.le_of_ble_eq_true rfl) rfl ?_
  refine v_iconst (pc := 34) (n := 1) X (by decide +kernel) ic_1 ?_
  refine v_istore (pc := 35) (k := 5) (lv' := [(5, .int (1 : Int32)), (4, .int r4), (0, .ref (ρ l0)), (1, .ref (ρ l1)), (2, .int l2), (3, .int l3)]) X (by decide +kernel) (Nat.le_of_ble_eq_true rfl) rfl ?_
  refine v_sub [2, 3, 1, 0] rfl ?_
  exact vlp_Fo_agrees_37 ok hi X Y fu h3 l0 l1 r4 (1 : Int32) kl0 kl1 hf
def jb_Tt_thirsts_55 (tb : Tb) (c24 : Hp → Nat → Int32 → Int32 → Int32 → Option (Int32 × Hp)) (h : Hp) (l0 : Nat) (l1 : Int32) (l2 : Int32) (l3 : Int32) : Option (Int32 × Hp) :=
  nmd (l3 + (1 : Int32)) fun x1 =>
  c24 h l0 l1 l2 x1
def lp_Tt_thirsts_24 (tb : Tb) : Nat → Hp → Nat → Int32 → Int32 → Int32 → Option (Int32 × Hp)
  | 0, _, _, _, _, _ => none
  | n + 1, h, l0, l1, l2, l3 =>
    if (10 : Int32) ≤ l3 then (
      some (l2, h)
    ) else (
      (f_Fo_agrees tb h (lay tb l0 10) (lay tb l0 8) l1 (l3 * (10 : Int32))).bind fun r1 =>
      if r1.1 = (0 : Int32) then (
        jb_Tt_thirsts_55 tb (lp_Tt_thirsts_24 tb n) r1.2 l0 l1 l2 l3
      ) else (
        nmd (l2 ||| ((1 : Int32) <<< (l3 &&& 31))) fun x2 =>
        jb_Tt_thirsts_55 tb (lp_Tt_thirsts_24 tb n) r1.2 l0 l1 x2 l3
      )
    )
def f_Tt_thirsts (tb : Tb) (h : Hp) (l0 : Nat) (l1 : Int32) : Option (Int32 × Hp) :=
  nmd (f_Pl_hasHorse tb h (lay tb l0 3) l1) fun r1 =>
  if r1 = (0 : Int32) then (
    some ((-1 : Int32), h)
  ) else (
    (f_Se_markStruck tb h (lay tb l0 8)).bind fun r2 =>
    lp_Tt_thirsts_24 tb fu r2 l0 l1 (0 : Int32) (0 : Int32)
  )
set_option maxRecDepth 4000 in
set_option maxHeartbeats 1000000 in
theorem vjb_Tt_thirsts_55 {E : En} {g : Gl} {tb : Tb} {ρ : Nat → Nat} (ok : TbOK tb) (hi : inj tb ρ) {r : Int32 × Hp} (X : CX E g tb ρ prog_1_method_42_code 4 RC0 7 176) (Y : CQ E g tb ρ (some .int) (some (.int r.1)) r.2) {c24 : Hp → Nat → Int32 → Int32 → Int32 → Option (Int32 × Hp)} (H24 : ∀ (h : Hp) (l0 : Nat) (l1 : Int32) (l2 : Int32) (l3 : Int32) (kl0 : kd tb l0 = 0), c24 h l0 l1 l2 l3 = some r → V E g tb ρ 4 24 [(0, .ref (ρ l0)), (1, .int l1), (2, .int l2), (3, .int l3)] [] h) (h : Hp) (l0 : Nat) (l1 : Int32) (l2 : Int32) (l3 : Int32) (kl0 : kd tb l0 = 0) (hf : jb_Tt_thirsts_55 tb c24 h l0 l1 l2 l3 = some r) : V E g tb ρ 4 55 [(0, .ref (ρ l0)), (1, .int l1), (2, .int l2), (3, .int l3)] [] h := by
  unfold jb_Tt_thirsts_55 at hf
  obtain ⟨x1, ex1, hf⟩ := nmd_e hf
  refine v_iinc (pc := 55) (k := 3) (n := 1) (v := x1) (lv' := [(3, .int x1), (0, .ref (ρ l0)), (1, .int l1), (2, .int l2)]) X (by decide +kernel) 3 rfl (by rw [ic_1, ex1]) (Nat.le_of_ble_eq_true rfl) rfl ?_
  refine v_goto (pc := 58) (off := -34) (tgt := 24) X (by decide +kernel) (by decide) ?_
  refine v_sub [1, 2, 3, 0] rfl ?_
  exact H24 h l0 l1 l2 x1 kl0 hf
set_option maxRecDepth 4000 in
set_option maxHeartbeats 1000000 in
theorem vlp_Tt_thirsts_24 {E : En} {g : Gl} {tb : Tb} {ρ : Nat → Nat} (ok : TbOK tb) (hi : inj tb ρ) {r : Int32 × Hp} (X : CX E g tb ρ prog_1_method_42_code 4 RC0 7 176) (Y : CQ E g tb ρ (some .int) (some (.int r.1)) r.2) : ∀ (n : Nat) (h : Hp) (l0 : Nat) (l1 : Int32) (l2 : Int32) (l3 : Int32) (kl0 : kd tb l0 = 0), lp_Tt_thirsts_24 tb n h l0 l1 l2 l3 = some r → V E g tb ρ 4 24 [(0, .ref (ρ l0)), (1, .int l1), (2, .int l2), (3, .int l3)] [] h := by
  intro n
  induction n with
  | zero =>
    intro h l0 l1 l2 l3 kl0 hf
    rw [lp_Tt_thirsts_24] at hf
    cases hf
  | succ n ih =>
    intro h l0 l1 l2 l3 kl0 hf
    rw [lp_Tt_thirsts_24] at hf
    refine v_iload_n (pc := 24) (k := 3) X (by decide +kernel) 3 rfl ?_
    refine v_bipush (pc := 25) (n := 10) X (by decide +kernel) bi_10 ?_
    refine v_icmp_ge (pc := 27) (off := 34) (tgt := 61) X (by decide +kernel) (by decide) (fun q4 => ?_) (fun q4 => ?_)
    · rw [if_pos q4] at hf
      refine v_iload_n (pc := 61) (k := 2) X (by decide +kernel) 2 rfl ?_
      cases hf
      exact v_iret X Y (by decide +kernel) rfl rfl
    · rw [if_neg q4] at hf
      refine v_aload_n (pc := 30) (k := 0) X (by decide +kernel) 0 rfl ?_
      refine v_geta (pc := 31) X fl_0_77 kl0 fk_0_10 (by decide +kernel) ?_
      refine v_aload_n (pc := 34) (k := 0) X (by decide +kernel) 0 rfl ?_
      refine v_geta (pc := 35) X fl_0_59 kl0 fk_0_8 (by decide +kernel) ?_
      refine v_iload_n (pc := 38) (k := 1) X (by decide +kernel) 1 rfl ?_
      refine v_iload_n (pc := 39) (k := 3) X (by decide +kernel) 3 rfl ?_
      refine v_bipush (pc := 40) (n := 10) X (by decide +kernel) bi_10 ?_
      refine v_imul (pc := 42) X (by decide +kernel) ?_
      obtain ⟨r1, er1, hf⟩ := bnd_e hf
      refine v_callV (pc := 43) (As := [.ref (ρ (lay tb l0 8)), .int l1, .int (l3 * (10 : Int32))]) (rest := []) X (mt_Fo_agrees ok hi (ly_0_10 ok kl0) (ly_0_8 ok kl0) er1) ml_0_319 mv_Fo_agrees (ly_0_10 ok kl0) cls_3 rfl ⟨Nat.le_of_ble_eq_true rfl, Nat.le_of_ble_eq_true rfl⟩ rfl rfl (Nat.le_of_ble_eq_true rfl) (by decide +kernel) ?_
      change V E g tb ρ 4 46 [(0, .ref (ρ l0)), (1, .int l1), (2, .int l2), (3, .int l3)] [.int r1.1] r1.2
      refine v_if_eq (pc := 46) (off := 9) (tgt := 55) X (by decide +kernel) (by decide) (fun q3 => ?_) (fun q3 => ?_)
      · rw [if_pos q3] at hf
        exact vjb_Tt_thirsts_55 ok hi X Y ih r1.2 l0 l1 l2 l3 kl0 hf
      · rw [if_neg q3] at hf
        refine v_iload_n (pc := 49) (k := 2) X (by decide +kernel) 2 rfl ?_
        refine v_iconst (pc := 50) (n := 1) X (by decide +kernel) ic_1 ?_
        refine v_iload_n (pc := 51) (k := 3) X (by decide +kernel) 3 rfl ?_
        refine v_ishl (pc := 52) X (by decide +kernel) ?_
        refine v_ior (pc := 53) X (by decide +kernel) ?_
        obtain ⟨x2, ex2, hf⟩ := nmd_e hf
        refine v_nmi ex2 ?_
        refine v_istore_n (pc := 54) (k := 2) (lv' := [(2, .int x2), (0, .ref (ρ l0)), (1, .int l1), (3, .int l3)]) X (by decide +kernel) (Nat.le_of_ble_eq_true rfl) rfl ?_
        refine v_sub [1, 2, 0, 3] rfl ?_
        exact vjb_Tt_thirsts_55 ok hi X Y ih r1.2 l0 l1 x2 l3 kl0 hf
set_option maxRecDepth 4000 in
set_option maxHeartbeats 1000000 in
theorem mt_Tt_thirsts {g : Gl} {tb : Tb} {ρ : Nat → Nat} (ok : TbOK tb) (hi : inj tb ρ) {h : Hp} {l0 : Nat} {l1 : Int32} (kl0 : kd tb l0 = 0) {r : Int32 × Hp} (hf : f_Tt_thirsts tb h l0 l1 = some r) : MT g y_Tt_thirsts prog_1_method_42_code 4 (some .int) 7 176 tb ρ [.ref (ρ l0), .int l1] h (some (.int r.1)) r.2 := by
  refine mt_intro (by decide +kernel) ok hi (Nat.le_of_ble_eq_true rfl) (fun E X Y => ?_)
  change V E g tb ρ 4 0 [(0, .ref (ρ l0)), (1, .int l1)] [] h
  unfold f_Tt_thirsts at hf
  refine v_aload_n (pc := 0) (k := 0) X (by decide +kernel) 0 rfl ?_
  refine v_geta (pc := 1) X fl_0_31 kl0 fk_0_3 (by decide +kernel) ?_
  refine v_iload_n (pc := 4) (k := 1) X (by decide +kernel) 1 rfl ?_
  obtain ⟨r1, er1, hf⟩ := nmd_e hf
  refine v_callV (pc := 5) (As := [.int l1]) (rest := []) X (mt_Pl_hasHorse ok hi (ly_0_3 ok kl0) er1.symm) ml_0_132 mv_Pl_hasHorse (ly_0_3 ok kl0) cls_7 rfl ⟨Nat.le_of_ble_eq_true rfl, Nat.le_of_ble_eq_true rfl⟩ rfl rfl (Nat.le_of_ble_eq_true rfl) (by decide +kernel) ?_
  change V E g tb ρ 4 8 [(0, .ref (ρ l0)), (1, .int l1)] [.int r1] h
  refine v_if_ne (pc := 8) (off := 5) (tgt := 13) X (by decide +kernel) (by decide) (fun q3 => ?_) (fun q3 => ?_)
  · rw [if_neg q3] at hf
    refine v_aload_n (pc := 13) (k := 0) X (by decide +kernel) 0 rfl ?_
    refine v_geta (pc := 14) X fl_0_59 kl0 fk_0_8 (by decide +kernel) ?_
    obtain ⟨r2, er2, hf⟩ := bnd_e hf
    refine v_callV (pc := 17) (As := []) (rest := []) X (mt_Se_markStruck ok hi (ly_0_8 ok kl0) er2) ml_0_316 mv_Se_markStruck (ly_0_8 ok kl0) cls_9 rfl ⟨Nat.le_of_ble_eq_true rfl, Nat.le_of_ble_eq_true rfl⟩ rfl rfl (Nat.le_of_ble_eq_true rfl) (by decide +kernel) ?_
    change V E g tb ρ 4 20 [(0, .ref (ρ l0)), (1, .int l1)] [] r2
    refine v_iconst (pc := 20) (n := 0) X (by decide +kernel) ic_0 ?_
    refine v_istore_n (pc := 21) (k := 2) (lv' := [(2, .int (0 : Int32)), (0, .ref (ρ l0)), (1, .int l1)]) X (by decide +kernel) (Nat.le_of_ble_eq_true rfl) rfl ?_
    refine v_iconst (pc := 22) (n := 0) X (by decide +kernel) ic_0 ?_
    refine v_istore_n (pc := 23) (k := 3) (lv' := [(3, .int (0 : Int32)), (2, .int (0 : Int32)), (0, .ref (ρ l0)), (1, .int l1)]) X (by decide +kernel) (Nat.le_of_ble_eq_true rfl) rfl ?_
    refine v_sub [2, 3, 1, 0] rfl ?_
    exact vlp_Tt_thirsts_24 ok hi X Y fu r2 l0 l1 (0 : Int32) (0 : Int32) kl0 hf
  · rw [if_pos q3] at hf
    refine v_iconst (pc := 11) (n := -1) X (by decide +kernel) ic_m1 ?_
    cases hf
    exact v_iret X Y (by decide +kernel) rfl rfl
