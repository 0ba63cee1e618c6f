def jb_Tr_readLaw_31 (tb : Tb) (h : Hp) (l0 : Nat) : Option (Int32 × Hp) :=
  nmd (f_Tr_fail tb h l0 (1 : Int32)) fun r1 =>
  (cZ r1.1).bind fun x2 =>
  some (x2, r1.2)
def f_Tr_readLaw (tb : Tb) (h : Hp) (l0 : Nat) : Option (Int32 × Hp) :=
  (f_Sc_step tb h (lay tb l0 3)).bind fun r1 =>
  if (r1.1 (lay tb l0 3) 0) < (17 : Int32) then (
    jb_Tr_readLaw_31 tb r1 l0
  ) else (
    if (r1.1 (lay tb l0 3) 0) ≤ (19 : Int32) then (
      nmd ((r1.1 (lay tb l0 3) 0) - (17 : Int32)) fun x2 =>
      (f_La_isTold tb r1 (lay tb (lay tb l0 0) 19) x2).bind fun r3 =>
      if r3 = (0 : Int32) then (
        (f_Sc_step tb r1 (lay tb l0 3)).bind fun r4 =>
        (f_Lr_readE tb r4 (lay tb l0 4) x2).bind fun r5 =>
        if r5.1 = (0 : Int32) then (
          some ((1 : Int32), r5.2)
        ) else (
          nmd (f_Tr_fail tb r5.2 l0 r5.1) fun r6 =>
          if r6.1 = (0 : Int32) then (
            some ((0 : Int32), r6.2)
          ) else (
            some ((1 : Int32), r6.2)
          )
        )
      ) else (
        nmd (f_Tr_fail tb r1 l0 (3 : Int32)) fun r9 =>
        (cZ r9.1).bind fun x10 =>
        some (x10, r9.2)
      )
    ) else (
      jb_Tr_readLaw_31 tb r1 l0
    )
  )
set_option maxRecDepth 4000 in
set_option maxHeartbeats 1000000 in
theorem vjb_Tr_readLaw_31 {E : En} {g : Gl} {tb : Tb} {ρ : Nat → Nat} (ok : TbOK tb) (hi : inj tb ρ) {r : Int32 × Hp} (X : CX E g tb ρ prog_11_method_15_code 3 RC10 4 89) (Y : CQ E g tb ρ (some .boolean) (some (.int r.1)) r.2) (h : Hp) (l0 : Nat) (kl0 : kd tb l0 = 10) (hf : jb_Tr_readLaw_31 tb h l0 = some r) : V E g tb ρ 3 31 [(0, .ref (ρ l0))] [] h := by
  unfold jb_Tr_readLaw_31 at hf
  refine v_aload_n (pc := 31) (k := 0) X (by decide +kernel) 0 rfl ?_
  refine v_iconst (pc := 32) (n := 1) X (by decide +kernel) ic_1 ?_
  obtain ⟨r1, er1, hf⟩ := nmd_e hf
  refine v_callV (pc := 33) (As := [.int (1 : Int32)]) (rest := []) X (mt_Tr_fail ok hi kl0 er1.symm) ml_10_73 mv_Tr_fail kl0 cls_10 rfl ⟨Nat.le_of_ble_eq_true rfl, Nat.le_of_ble_eq_true rfl⟩ rfl rfl (Nat.le_of_ble_eq_true rfl) (by decide +kernel) ?_
  change V E g tb ρ 3 36 [(0, .ref (ρ l0))] [.int r1.1] r1.2
  obtain ⟨x2, ex2, hf⟩ := bnd_e hf
  obtain ⟨bx2, rfl⟩ := cZ_e ex2
  cases hf
  exact v_zret (hz := bx2) X Y (by decide +kernel) rfl rfl
set_option maxRecDepth 4000 in
set_option maxHeartbeats 1000000 in
theorem mt_Tr_readLaw {g : Gl} {tb : Tb} {ρ : Nat → Nat} (ok : TbOK tb) (hi : inj tb ρ) {h : Hp} {l0 : Nat} (kl0 : kd tb l0 = 10) {r : Int32 × Hp} (hf : f_Tr_readLaw tb h l0 = some r) : MT g y_Tr_readLaw prog_11_method_15_code 3 (some .boolean) 4 89 tb ρ [.ref (ρ l0)] h (some (.int r.1)) r.2 := by
  refine mt_intro (by decide +kernel) ok hi (Nat.le_of_ble_eq_true rfl) (fun E X Y => ?_)
  change V E g tb ρ 3 0 [(0, .ref (ρ l0))] [] h
  unfold f_Tr_readLaw at hf
  refine v_aload_n (pc := 0) (k := 0) X (by decide +kernel) 0 rfl ?_
  refine v_geta (pc := 1) X fl_10_30 kl0 fk_10_3 (by decide +kernel) ?_
  obtain ⟨r1, er1, hf⟩ := bnd_e hf
  refine v_callV (pc := 4) (As := []) (rest := []) X (mt_Sc_step ok hi (ly_10_3 ok kl0) er1) ml_10_95 mv_Sc_step (ly_10_3 ok kl0) cls_8 rfl ⟨Nat.le_of_ble_eq_true rfl, Nat.le_of_ble_eq_true rfl⟩ rfl rfl (Nat.le_of_ble_eq_true rfl) (by decide +kernel) ?_
  change V E g tb ρ 3 7 [(0, .ref (ρ l0))] [] r1
  refine v_aload_n (pc := 7) (k := 0) X (by decide +kernel) 0 rfl ?_
  refine v_geta (pc := 8) X fl_10_30 kl0 fk_10_3 (by decide +kernel) ?_
  refine v_geti (pc := 11) X fl_10_61 (ly_10_3 ok kl0) rfl (by decide +kernel) ?_
  refine v_bipush (pc := 14) (n := 17) X (by decide +kernel) bi_17 ?_
  refine v_icmp_lt (pc := 16) (off := 15) (tgt := 31) X (by decide +kernel) (by decide) (fun q13 => ?_) (fun q13 => ?_)
  · rw [if_pos q13] at hf
    exact vjb_Tr_readLaw_31 ok hi X Y r1 l0 kl0 hf
  · rw [if_neg q13] at hf
    refine v_aload_n (pc := 19) (k := 0) X (by decide +kernel) 0 rfl ?_
    refine v_geta (pc := 20) X fl_10_30 kl0 fk_10_3 (by decide +kernel) ?_
    refine v_geti (pc := 23) X fl_10_61 (ly_10_3 ok kl0) rfl (by decide +kernel) ?_
    refine v_bipush (pc := 26) (n := 19) X (by decide +kernel) bi_19 ?_
    refine v_icmp_le (pc := 28) (off := 9) (tgt := 37) X (by decide +kernel) (by decide) (fun q12 => ?_) (fun q12 => ?_)
    · rw [if_pos q12] at hf
      refine v_aload_n (pc := 37) (k := 0) X (by decide +kernel) 0 rfl ?_
      refine v_geta (pc := 38) X fl_10_30 kl0 fk_10_3 (by decide +kernel) ?_
      refine v_geti (pc := 41) X fl_10_61 (ly_10_3 ok kl0) rfl (by decide +kernel) ?_
      refine v_bipush (pc := 44) (n := 17) X (by decide +kernel) bi_17 ?_
      refine v_isub (pc := 46) X (by decide +kernel) ?_
      obtain ⟨x2, ex2, hf⟩ := nmd_e hf
      refine v_nmi ex2 ?_
      refine v_istore_n (pc := 47) (k := 1) (lv' := [(1, .int x2), (0, .ref (ρ l0))]) X (by decide +kernel) (Nat.le_of_ble_eq_true rfl) rfl ?_
      refine v_aload_n (pc := 48) (k := 0) X (by decide +kernel) 1 rfl ?_
      refine v_geta (pc := 49) X fl_10_12 kl0 fk_10_0 (by decide +kernel) ?_
      refine v_geta (pc := 52) X fl_10_36 (ly_10_0 ok kl0) fk_7_19 (by decide +kernel) ?_
      refine v_iload_n (pc := 55) (k := 1) X (by decide +kernel) 0 rfl ?_
      obtain ⟨r3, er3, hf⟩ := bnd_e hf
      refine v_callV (pc := 56) (As := [.int x2]) (rest := []) X (mt_La_isTold ok hi (ly_7_19 ok (ly_10_0 ok kl0)) er3) ml_10_187 mv_La_isTold (ly_7_19 ok (ly_10_0 ok kl0)) cls_6 rfl ⟨Nat.le_of_ble_eq_true rfl, Nat.le_of_ble_eq_true rfl⟩ rfl rfl (Nat.le_of_ble_eq_true rfl) (by decide +kernel) ?_
      change V E g tb ρ 3 59 [(1, .int x2), (0, .ref (ρ l0))] [.int r3] r1
      refine v_if_eq (pc := 59) (off := 9) (tgt := 68) X (by decide +kernel) (by decide) (fun q11 => ?_) (fun q11 => ?_)
      · rw [if_pos q11] at hf
        refine v_aload_n (pc := 68) (k := 0) X (by decide +kernel) 1 rfl ?_
        refine v_geta (pc := 69) X fl_10_30 kl0 fk_10_3 (by decide +kernel) ?_
        obtain ⟨r4, er4, hf⟩ := bnd_e hf
        refine v_callV (pc := 72) (As := []) (rest := []) X (mt_Sc_step ok hi (ly_10_3 ok kl0) er4) ml_10_95 mv_Sc_step (ly_10_3 ok kl0) cls_8 rfl ⟨Nat.le_of_ble_eq_true rfl, Nat.le_of_ble_eq_true rfl⟩ rfl rfl (Nat.le_of_ble_eq_true rfl) (by decide +kernel) ?_
        change V E g tb ρ 3 75 [(1, .int x2), (0, .ref (ρ l0))] [] r4
        refine v_aload_n (pc := 75) (k := 0) X (by decide +kernel) 1 rfl ?_
        refine v_geta (pc := 76) X fl_10_43 kl0 fk_10_4 (by decide +kernel) ?_
        refine v_iload_n (pc := 79) (k := 1) X (by decide +kernel) 0 rfl ?_
        obtain ⟨r5, er5, hf⟩ := bnd_e hf
        refine v_callV (pc := 80) (As := [.int x2]) (rest := []) X (mt_Lr_readE ok hi (ly_10_4 ok kl0) er5) ml_10_192 mv_Lr_readE (ly_10_4 ok kl0) cls_5 rfl ⟨Nat.le_of_ble_eq_true rfl, Nat.le_of_ble_eq_true rfl⟩ rfl rfl (Nat.le_of_ble_eq_true rfl) (by decide +kernel) ?_
        change V E g tb ρ 3 83 [(1, .int x2), (0, .ref (ρ l0))] [.int r5.1] r5.2
        refine v_istore_n (pc := 83) (k := 2) (lv' := [(2, .int r5.1), (1, .int x2), (0, .ref (ρ l0))]) X (by decide +kernel) (Nat.le_of_ble_eq_true rfl) rfl ?_
        refine v_iload_n (pc := 84) (k := 2) X (by decide +kernel) 0 rfl ?_
        refine v_if_eq (pc := 85) (off := 11) (tgt := 96) X (by decide +kernel) (by decide) (fun q8 => ?_) (fun q8 => ?_)
        · rw [if_pos q8] at hf
          refine v_iconst (pc := 96) (n := 1) X (by decide +kernel) ic_1 ?_
          refine v_goto (pc := 97) (off := 4) (tgt := 101) X (by decide +kernel) (by decide) ?_
          cases hf
          exact v_zret (hz := rfl) X Y (by decide +kernel) rfl rfl
        · rw [if_neg q8] at hf
          refine v_aload_n (pc := 88) (k := 0) X (by decide +kernel) 2 rfl ?_
          refine v_iload_n (pc := 89) (k := 2) X (by decide +kernel) 0 rfl ?_
          obtain ⟨r6, er6, hf⟩ := nmd_e hf
          refine v_callV (pc := 90) (As := [.int r5.1]) (rest := []) X (mt_Tr_fail ok hi kl0 er6.symm) ml_10_73 mv_Tr_fail kl0 cls_10 rfl ⟨Nat.le_of_ble_eq_true rfl, Nat.le_of_ble_eq_true rfl⟩ rfl rfl (Nat.le_of_ble_eq_true rfl) (by decide +kernel) ?_
          change V E g tb ρ 3 93 [(2, .int r5.1), (1, .int x2), (0, .ref (ρ l0))] [.int r6.1] r6.2
          refine v_if_eq (pc := 93) (off := 7) (tgt := 100) X (by decide +kernel) (by decide) (fun q7 => ?_) (fun q7 => ?_)
          · rw [if_pos q7] at hf
            refine v_iconst (pc := 100) (n := 0) X (by decide +kernel) ic_0 ?_
            cases hf
            exact v_zret (hz := rfl) X Y (by decide +kernel) rfl rfl
          · rw [if_neg q7] at hf
            refine v_iconst (pc := 96) (n := 1) X (by decide +kernel) ic_1 ?_
            refine v_goto (pc := 97) (off := 4) (tgt := 101) X (by decide +kernel) (by decide) ?_
            cases hf
            exact v_zret (hz := rfl) X Y (by decide +kernel) rfl rfl
      · rw [if_neg q11] at hf
        refine v_aload_n (pc := 62) (k := 0) X (by decide +kernel) 1 rfl ?_
        refine v_iconst (pc := 63) (n := 3) X (by decide +kernel) ic_3 ?_
        obtain ⟨r9, er9, hf⟩ := nmd_e hf
        refine v_callV (pc := 64) (As := [.int (3 : Int32)]) (rest := []) X (mt_Tr_fail ok hi kl0 er9.symm) ml_10_73 mv_Tr_fail kl0 cls_10 rfl ⟨Nat.le_of_ble_eq_true rfl, Nat.le_of_ble_eq_true rfl⟩ rfl rfl (Nat.le_of_ble_eq_true rfl) (by decide +kernel) ?_
        change V E g tb ρ 3 67 [(1, .int x2), (0, .ref (ρ l0))] [.int r9.1] r9.2
        obtain ⟨x10, ex10, hf⟩ := bnd_e hf
        obtain ⟨bx10, rfl⟩ := cZ_e ex10
        cases hf
        exact v_zret (hz := bx10) X Y (by decide +kernel) rfl rfl
    · rw [if_neg q12] at hf
      exact vjb_Tr_readLaw_31 ok hi X Y r1 l0 kl0 hf
def jb_Tr_readLine_122 (tb : Tb) (h : Hp) (l0 : Nat) (l2 : Int32) : Option (Int32 × Hp) :=
  if l2 = (0 : Int32) then (
    some ((0 : Int32), h)
  ) else (
    if (h.1 (lay tb l0 3) 0) = (30 : Int32) then (
      (f_Sc_step tb h (lay tb l0 3)).bind fun r1 =>
      some ((1 : Int32), r1)
    ) else (
      nmd (f_Tr_fail tb h l0 (1 : Int32)) fun r2 =>
      (cZ r2.1).bind fun x3 =>
      some (x3, r2.2)
    )
  )
def jb_Tr_readLine_64 (tb : Tb) (h : Hp) (l0 : Nat) (s0 : Int32) : Option (Int32 × Hp) :=
  jb_Tr_readLine_122 tb h l0 s0
def f_Tr_readLine (tb : Tb) (h : Hp) (l0 : Nat) (l1 : Int32) : Option (Int32 × Hp) :=
  nmd (h.1 (lay tb l0 3) 0) fun x1 =>
  if x1 = (10 : Int32) then (
    if l1 = (0 : Int32) then (
      nmd (f_Tr_fail tb h l0 (1 : Int32)) fun r3 =>
      jb_Tr_readLine_64 tb r3.2 l0 r3.1
    ) else (
      (f_Tr_readRoad tb h l0).bind fun r4 =>
      jb_Tr_readLine_64 tb r4.2 l0 r4.1
    )
  ) else (
    if x1 = (11 : Int32) then (
      (f_Tr_readTrough tb h l0).bind fun r7 =>
      jb_Tr_readLine_122 tb r7.2 l0 r7.1
    ) else (
      if x1 = (12 : Int32) then (
        (f_Tr_readHorse tb h l0).bind fun r9 =>
        jb_Tr_readLine_122 tb r9.2 l0 r9.1
      ) else (
        if x1 = (13 : Int32) then (
          (f_Tr_readLap tb h l0).bind fun r11 =>
          jb_Tr_readLine_122 tb r11.2 l0 r11.1
        ) else (
          if x1 = (14 : Int32) then (
            (f_Tr_readRain tb h l0).bind fun r13 =>
            jb_Tr_readLine_122 tb r13.2 l0 r13.1
          ) else (
            if x1 = (15 : Int32) then (
              (f_Tr_readSeed tb h l0).bind fun r15 =>
              jb_Tr_readLine_122 tb r15.2 l0 r15.1
            ) else (
              if x1 = (16 : Int32) then (
                (f_Tr_readLaw tb h l0).bind fun r17 =>
                jb_Tr_readLine_122 tb r17.2 l0 r17.1
              ) else (
                nmd (f_Tr_fail tb h l0 (1 : Int32)) fun r18 =>
                jb_Tr_readLine_122 tb r18.2 l0 r18.1
              )
            )
          )
        )
      )
    )
  )
set_option maxRecDepth 4000 in
set_option maxHeartbeats 1000000 in
theorem vjb_Tr_readLine_122 {E : En} {g : Gl} {tb : Tb} {ρ : Nat → Nat} (ok : TbOK tb) (hi : inj tb ρ) {r : Int32 × Hp} (X : CX E g tb ρ prog_11_method_4_code 3 RC10 5 114) (Y : CQ E g tb ρ (some .boolean) (some (.int r.1)) r.2) (h : Hp) (l0 : Nat) (l2 : Int32) (kl0 : kd tb l0 = 10) (hf : jb_Tr_readLine_122 tb h l0 l2 = some r) : V E g tb ρ 3 122 [(0, .ref (ρ l0)), (2, .int l2)] [] h := by
  unfold jb_Tr_readLine_122 at hf
  refine v_iload_n (pc := 122) (k := 2) X (by decide +kernel) 1 rfl ?_
  refine v_if_ne (pc := 123) (off := 5) (tgt := 128) X (by decide +kernel) (by decide) (fun q5 => ?_) (fun q5 => ?_)
  · rw [if_neg q5] at hf
    refine v_aload_n (pc := 128) (k := 0) X (by decide +kernel) 0 rfl ?_
    refine v_geta (pc := 129) X fl_10_30 kl0 fk_10_3 (by decide +kernel) ?_
    refine v_geti (pc := 132) X fl_10_61 (ly_10_3 ok kl0) rfl (by decide +kernel) ?_
    refine v_bipush (pc := 135) (n := 30) X (by decide +kernel) bi_30 ?_
    refine v_icmp_eq (pc := 137) (off := 9) (tgt := 146) X (by decide +kernel) (by decide) (fun q4 => ?_) (fun q4 => ?_)
    · rw [if_pos q4] at hf
      refine v_aload_n (pc := 146) (k := 0) X (by decide +kernel) 0 rfl ?_
      refine v_geta (pc := 147) X fl_10_30 kl0 fk_10_3 (by decide +kernel) ?_
      obtain ⟨r1, er1, hf⟩ := bnd_e hf
      refine v_callV (pc := 150) (As := []) (rest := []) X (mt_Sc_step ok hi (ly_10_3 ok kl0) er1) ml_10_95 mv_Sc_step (ly_10_3 ok kl0) cls_8 rfl ⟨Nat.le_of_ble_eq_true rfl, Nat.le_of_ble_eq_true rfl⟩ rfl rfl (Nat.le_of_ble_eq_true rfl) (by decide +kernel) ?_
      change V E g tb ρ 3 153 [(0, .ref (ρ l0)), (2, .int l2)] [] r1
      refine v_iconst (pc := 153) (n := 1) X (by decide +kernel) ic_1 ?_
      cases hf
      exact v_zret (hz := rfl) X Y (by decide +kernel) rfl rfl
    · rw [if_neg q4] at hf
      refine v_aload_n (pc := 140) (k := 0) X (by decide +kernel) 0 rfl ?_
      refine v_iconst (pc := 141) (n := 1) X (by decide +kernel) ic_1 ?_
      obtain ⟨r2, er2, hf⟩ := nmd_e hf
      refine v_callV (pc := 142) (As := [.int (1 : Int32)]) (rest := []) X (mt_Tr_fail ok hi kl0 er2.symm) ml_10_73 mv_Tr_fail kl0 cls_10 rfl ⟨Nat.le_of_ble_eq_true rfl, Nat.le_of_ble_eq_true rfl⟩ rfl rfl (Nat.le_of_ble_eq_true rfl) (by decide +kernel) ?_
      change V E g tb ρ 3 145 [(0, .ref (ρ l0)), (2, .int l2)] [.int r2.1] r2.2
      obtain ⟨x3, ex3, hf⟩ := bnd_e hf
      obtain ⟨bx3, rfl⟩ := cZ_e ex3
      cases hf
      exact v_zret (hz := bx3) X Y (by decide +kernel) rfl rfl
  · rw [if_pos q5] at hf
    refine v_iconst (pc := 126) (n := 0) X (by decide +kernel) ic_0 ?_
    cases hf
    exact v_zret (hz := rfl) X Y (by decide +kernel) rfl rfl
set_option maxRecDepth 4000 in
set_option maxHeartbeats 1000000 in
theorem vjb_Tr_readLine_64 {E : En} {g : Gl} {tb : Tb} {ρ : Nat → Nat} (ok : TbOK tb) (hi : inj tb ρ) {r : Int32 × Hp} (X : CX E g tb ρ prog_11_method_4_code 3 RC10 5 114) (Y : CQ E g tb ρ (some .boolean) (some (.int r.1)) r.2) (h : Hp) (l0 : Nat) (s0 : Int32) (kl0 : kd tb l0 = 10) (hf : jb_Tr_readLine_64 tb h l0 s0 = some r) : V E g tb ρ 3 64 [(0, .ref (ρ l0))] [.int s0] h := by
  unfold jb_Tr_readLine_64 at hf
  refine v_istore_n (pc := 64) (k := 2) (lv' := [(2, .int s0), (0, .ref (ρ l0))]) X (by decide +kernel) (Nat.le_of_ble_eq_true rfl) rfl ?_
  refine v_goto (pc := 65) (off := 57) (tgt := 122) X (by decide +kernel) (by decide) ?_
  refine v_sub [1, 0] rfl ?_
  exact vjb_Tr_readLine_122 ok hi X Y h l0 s0 kl0 hf
set_option maxRecDepth 4000 in
set_option maxHeartbeats 1000000 in
theorem mt_Tr_readLine {g : Gl} {tb : Tb} {ρ : Nat → Nat} (ok : TbOK tb) (hi : inj tb ρ) {h : Hp} {l0 : Nat} {l1 : Int32} (kl0 : kd tb l0 = 10) {r : Int32 × Hp} (hf : f_Tr_readLine tb h l0 l1 = some r) : MT g y_Tr_readLine prog_11_method_4_code 3 (some .boolean) 5 114 tb ρ [.ref (ρ l0), .int l1] h (some (.int r.1)) r.2 := by
  refine mt_intro (by decide +kernel) ok hi (Nat.le_of_ble_eq_true rfl) (fun E X Y => ?_)
  change V E g tb ρ 3 0 [(0, .ref (ρ l0)), (1, .int l1)] [] h
  unfold f_Tr_readLine at hf
  refine v_aload_n (pc := 0) (k := 0) X (by decide +kernel) 0 rfl ?_
  refine v_geta (pc := 1) X fl_10_30 kl0 fk_10_3 (by decide +kernel) ?_
  refine v_geti (pc := 4) X fl_10_61 (ly_10_3 ok kl0) rfl (by decide +kernel) ?_
  obtain ⟨x1, ex1, hf⟩ := nmd_e hf
  refine v_nmi ex1 ?_
  by_cases q2 : x1 = (10 : Int32)
  · rw [if_pos q2] at hf
    refine v_tin (pc := 7) (off := 41) (tgt := 48) X (show decode prog_11_method_4_code 7 = .ok (.tableswitch 109 10 16 #[41, 61, 69, 77, 85, 93, 101], 41) from by decide +kernel) q2 (by decide) (by decide) (by decide) (by decide) ?_
    refine v_iload_n (pc := 48) (k := 1) X (by decide +kernel) 1 rfl ?_
    refine v_if_eq (pc := 49) (off := 10) (tgt := 59) X (by decide +kernel) (by decide) (fun q5 => ?_) (fun q5 => ?_)
    · rw [if_pos q5] at hf
      refine v_aload_n (pc := 59) (k := 0) X (by decide +kernel) 0 rfl ?_
      refine v_iconst (pc := 60) (n := 1) X (by decide +kernel) ic_1 ?_
      obtain ⟨r3, er3, hf⟩ := nmd_e hf
      refine v_callV (pc := 61) (As := [.int (1 : Int32)]) (rest := []) X (mt_Tr_fail ok hi kl0 er3.symm) ml_10_73 mv_Tr_fail kl0 cls_10 rfl ⟨Nat.le_of_ble_eq_true rfl, Nat.le_of_ble_eq_true rfl⟩ rfl rfl (Nat.le_of_ble_eq_true rfl) (by decide +kernel) ?_
      change V E g tb ρ 3 64 [(0, .ref (ρ l0)), (1, .int l1)] [.int r3.1] r3.2
      refine v_sub [0] rfl ?_
      exact vjb_Tr_readLine_64 ok hi X Y r3.2 l0 r3.1 kl0 hf
    · rw [if_neg q5] at hf
      refine v_aload_n (pc := 52) (k := 0) X (by decide +kernel) 0 rfl ?_
      obtain ⟨r4, er4, hf⟩ := bnd_e hf
      refine v_callV (pc := 53) (As := []) (rest := []) X (mt_Tr_readRoad ok hi kl0 er4) ml_10_69 mv_Tr_readRoad kl0 cls_10 rfl ⟨Nat.le_of_ble_eq_true rfl, Nat.le_of_ble_eq_true rfl⟩ rfl rfl (Nat.le_of_ble_eq_true rfl) (by decide +kernel) ?_
      change V E g tb ρ 3 56 [(0, .ref (ρ l0)), (1, .int l1)] [.int r4.1] r4.2
      refine v_goto (pc := 56) (off := 8) (tgt := 64) X (by decide +kernel) (by decide) ?_
      refine v_sub [0] rfl ?_
      exact vjb_Tr_readLine_64 ok hi X Y r4.2 l0 r4.1 kl0 hf
  · rw [if_neg q2] at hf
    by_cases q6 : x1 = (11 : Int32)
    · rw [if_pos q6] at hf
      refine v_tin (pc := 7) (off := 61) (tgt := 68) X (show decode prog_11_method_4_code 7 = .ok (.tableswitch 109 10 16 #[41, 61, 69, 77, 85, 93, 101], 41) from by decide +kernel) q6 (by decide) (by decide) (by decide) (by decide) ?_
      refine v_aload_n (pc := 68) (k := 0) X (by decide +kernel) 0 rfl ?_
      obtain ⟨r7, er7, hf⟩ := bnd_e hf
      refine v_callV (pc := 69) (As := []) (rest := []) X (mt_Tr_readTrough ok hi kl0 er7) ml_10_77 mv_Tr_readTrough kl0 cls_10 rfl ⟨Nat.le_of_ble_eq_true rfl, Nat.le_of_ble_eq_true rfl⟩ rfl rfl (Nat.le_of_ble_eq_true rfl) (by decide +kernel) ?_
      change V E g tb ρ 3 72 [(0, .ref (ρ l0)), (1, .int l1)] [.int r7.1] r7.2
      refine v_istore_n (pc := 72) (k := 2) (lv' := [(2, .int r7.1), (0, .ref (ρ l0)), (1, .int l1)]) X (by decide +kernel) (Nat.le_of_ble_eq_true rfl) rfl ?_
      refine v_goto (pc := 73) (off := 49) (tgt := 122) X (by decide +kernel) (by decide) ?_
      refine v_sub [1, 0] rfl ?_
      exact vjb_Tr_readLine_122 ok hi X Y r7.2 l0 r7.1 kl0 hf
    · rw [if_neg q6] at hf
      by_cases q8 : x1 = (12 : Int32)
      · rw [if_pos q8] at hf
        refine v_tin (pc := 7) (off := 69) (tgt := 76) X (show decode prog_11_method_4_code 7 = .ok (.tableswitch 109 10 16 #[41, 61, 69, 77, 85, 93, 101], 41) from by decide +kernel) q8 (by decide) (by decide) (by decide) (by decide) ?_
        refine v_aload_n (pc := 76) (k := 0) X (by decide +kernel) 0 rfl ?_
        obtain ⟨r9, er9, hf⟩ := bnd_e hf
        refine v_callV (pc := 77) (As := []) (rest := []) X (mt_Tr_readHorse ok hi kl0 er9) ml_10_80 mv_Tr_readHorse kl0 cls_10 rfl ⟨Nat.le_of_ble_eq_true rfl, Nat.le_of_ble_eq_true rfl⟩ rfl rfl (Nat.le_of_ble_eq_true rfl) (by decide +kernel) ?_
        change V E g tb ρ 3 80 [(0, .ref (ρ l0)), (1, .int l1)] [.int r9.1] r9.2
        refine v_istore_n (pc := 80) (k := 2) (lv' := [(2, .int r9.1), (0, .ref (ρ l0)), (1, .int l1)]) X (by decide +kernel) (Nat.le_of_ble_eq_true rfl) rfl ?_
        refine v_goto (pc := 81) (off := 41) (tgt := 122) X (by decide +kernel) (by decide) ?_
        refine v_sub [1, 0] rfl ?_
        exact vjb_Tr_readLine_122 ok hi X Y r9.2 l0 r9.1 kl0 hf
      · rw [if_neg q8] at hf
        by_cases q10 : x1 = (13 : Int32)
        · rw [if_pos q10] at hf
          refine v_tin (pc := 7) (off := 77) (tgt := 84) X (show decode prog_11_method_4_code 7 = .ok (.tableswitch 109 10 16 #[41, 61, 69, 77, 85, 93, 101], 41) from by decide +kernel) q10 (by decide) (by decide) (by decide) (by decide) ?_
          refine v_aload_n (pc := 84) (k := 0) X (by decide +kernel) 0 rfl ?_
          obtain ⟨r11, er11, hf⟩ := bnd_e hf
          refine v_callV (pc := 85) (As := []) (rest := []) X (mt_Tr_readLap ok hi kl0 er11) ml_10_83 mv_Tr_readLap kl0 cls_10 rfl ⟨Nat.le_of_ble_eq_true rfl, Nat.le_of_ble_eq_true rfl⟩ rfl rfl (Nat.le_of_ble_eq_true rfl) (by decide +kernel) ?_
          change V E g tb ρ 3 88 [(0, .ref (ρ l0)), (1, .int l1)] [.int r11.1] r11.2
          refine v_istore_n (pc := 88) (k := 2) (lv' := [(2, .int r11.1), (0, .ref (ρ l0)), (1, .int l1)]) X (by decide +kernel) (Nat.le_of_ble_eq_true rfl) rfl ?_
          refine v_goto (pc := 89) (off := 33) (tgt := 122) X (by decide +kernel) (by decide) ?_
          refine v_sub [1, 0] rfl ?_
          exact vjb_Tr_readLine_122 ok hi X Y r11.2 l0 r11.1 kl0 hf
        · rw [if_neg q10] at hf
          by_cases q12 : x1 = (14 : Int32)
          · rw [if_pos q12] at hf
            refine v_tin (pc := 7) (off := 85) (tgt := 92) X (show decode prog_11_method_4_code 7 = .ok (.tableswitch 109 10 16 #[41, 61, 69, 77, 85, 93, 101], 41) from by decide +kernel) q12 (by decide) (by decide) (by decide) (by decide) ?_
            refine v_aload_n (pc := 92) (k := 0) X (by decide +kernel) 0 rfl ?_
            obtain ⟨r13, er13, hf⟩ := bnd_e hf
            refine v_callV (pc := 93) (As := []) (rest := []) X (mt_Tr_readRain ok hi kl0 er13) ml_10_86 mv_Tr_readRain kl0 cls_10 rfl ⟨Nat.le_of_ble_eq_true rfl, Nat.le_of_ble_eq_true rfl⟩ rfl rfl (Nat.le_of_ble_eq_true rfl) (by decide +kernel) ?_
            change V E g tb ρ 3 96 [(0, .ref (ρ l0)), (1, .int l1)] [.int r13.1] r13.2
            refine v_istore_n (pc := 96) (k := 2) (lv' := [(2, .int r13.1), (0, .ref (ρ l0)), (1, .int l1)]) X (by decide +kernel) (Nat.le_of_ble_eq_true rfl) rfl ?_
            refine v_goto (pc := 97) (off := 25) (tgt := 122) X (by decide +kernel) (by decide) ?_
            refine v_sub [1, 0] rfl ?_
            exact vjb_Tr_readLine_122 ok hi X Y r13.2 l0 r13.1 kl0 hf
          · rw [if_neg q12] at hf
            by_cases q14 : x1 = (15 : Int32)
            · rw [if_pos q14] at hf
              refine v_tin (pc := 7) (off := 93) (tgt := 100) X (show decode prog_11_method_4_code 7 = .ok (.tableswitch 109 10 16 #[41, 61, 69, 77, 85, 93, 101], 41) from by decide +kernel) q14 (by decide) (by decide) (by decide) (by decide) ?_
              refine v_aload_n (pc := 100) (k := 0) X (by decide +kernel) 0 rfl ?_
              obtain ⟨r15, er15, hf⟩ := bnd_e hf
              refine v_callV (pc := 101) (As := []) (rest := []) X (mt_Tr_readSeed ok hi kl0 er15) ml_10_89 mv_Tr_readSeed kl0 cls_10 rfl ⟨Nat.le_of_ble_eq_true rfl, Nat.le_of_ble_eq_true rfl⟩ rfl rfl (Nat.le_of_ble_eq_true rfl) (by decide +kernel) ?_
              change V E g tb ρ 3 104 [(0, .ref (ρ l0)), (1, .int l1)] [.int r15.1] r15.2
              refine v_istore_n (pc := 104) (k := 2) (lv' := [(2, .int r15.1), (0, .ref (ρ l0)), (1, .int l1)]) X (by decide +kernel) (Nat.le_of_ble_eq_true rfl) rfl ?_
              refine v_goto (pc := 105) (off := 17) (tgt := 122) X (by decide +kernel) (by decide) ?_
              refine v_sub [1, 0] rfl ?_
              exact vjb_Tr_readLine_122 ok hi X Y r15.2 l0 r15.1 kl0 hf
            · rw [if_neg q14] at hf
              by_cases q16 : x1 = (16 : Int32)
              · rw [if_pos q16] at hf
                refine v_tin (pc := 7) (off := 101) (tgt := 108) X (show decode prog_11_method_4_code 7 = .ok (.tableswitch 109 10 16 #[41, 61, 69, 77, 85, 93, 101], 41) from by decide +kernel) q16 (by decide) (by decide) (by decide) (by decide) ?_
                refine v_aload_n (pc := 108) (k := 0) X (by decide +kernel) 0 rfl ?_
                obtain ⟨r17, er17, hf⟩ := bnd_e hf
                refine v_callV (pc := 109) (As := []) (rest := []) X (mt_Tr_readLaw ok hi kl0 er17) ml_10_92 mv_Tr_readLaw kl0 cls_10 rfl ⟨Nat.le_of_ble_eq_true rfl, Nat.le_of_ble_eq_true rfl⟩ rfl rfl (Nat.le_of_ble_eq_true rfl) (by decide +kernel) ?_
                change V E g tb ρ 3 112 [(0, .ref (ρ l0)), (1, .int l1)] [.int r17.1] r17.2
                refine v_istore_n (pc := 112) (k := 2) (lv' := [(2, .int r17.1), (0, .ref (ρ l0)), (1, .int l1)]) X (by decide +kernel) (Nat.le_of_ble_eq_true rfl) rfl ?_
                refine v_goto (pc := 113) (off := 9) (tgt := 122) X (by decide +kernel) (by decide) ?_
                refine v_sub [1, 0] rfl ?_
                exact vjb_Tr_readLine_122 ok hi X Y r17.2 l0 r17.1 kl0 hf
              · rw [if_neg q16] at hf
                refine v_tout (pc := 7) (tgt := 116) X (show decode prog_11_method_4_code 7 = .ok (.tableswitch 109 10 16 #[41, 61, 69, 77, 85, 93, 101], 41) from by decide +kernel) (t_out (lo := 10) (hi := 16) [(10 : Int32), (11 : Int32), (12 : Int32), (13 : Int32), (14 : Int32), (15 : Int32), (16 : Int32)] (by decide) (List.forall_mem_cons.mpr ⟨q2, List.forall_mem_cons.mpr ⟨q6, List.forall_mem_cons.mpr ⟨q8, List.forall_mem_cons.mpr ⟨q10, List.forall_mem_cons.mpr ⟨q12, List.forall_mem_cons.mpr ⟨q14, List.forall_mem_cons.mpr ⟨q16, fun _ h => absurd h List.not_mem_nil⟩⟩⟩⟩⟩⟩⟩)) (by decide) ?_
                refine v_aload_n (pc := 116) (k := 0) X (by decide +kernel) 0 rfl ?_
                refine v_iconst (pc := 117) (n := 1) X (by decide +kernel) ic_1 ?_
                obtain ⟨r18, er18, hf⟩ := nmd_e hf
                refine v_callV (pc := 118) (As := [.int (1 : Int32)]) (rest := []) X (mt_Tr_fail ok hi kl0 er18.symm) ml_10_73 mv_Tr_fail kl0 cls_10 rfl ⟨Nat.le_of_ble_eq_true rfl, Nat.le_of_ble_eq_true rfl⟩ rfl rfl (Nat.le_of_ble_eq_true rfl) (by decide +kernel) ?_
                change V E g tb ρ 3 121 [(0, .ref (ρ l0)), (1, .int l1)] [.int r18.1] r18.2
                refine v_istore_n (pc := 121) (k := 2) (lv' := [(2, .int r18.1), (0, .ref (ρ l0)), (1, .int l1)]) X (by decide +kernel) (Nat.le_of_ble_eq_true rfl) rfl ?_
                refine v_sub [1, 0] rfl ?_
                exact vjb_Tr_readLine_122 ok hi X Y r18.2 l0 r18.1 kl0 hf
def jb_Tr_readText_64 (tb : Tb) (c37 : Hp → Nat → Int32 → Option (Int32 × Hp)) (h : Hp) (l0 : Nat) (l2 : Int32) (s0 : Nat) (s1 : Int32) : Option (Int32 × Hp) :=
  (f_Tr_readLine tb h s0 s1).bind fun r1 =>
  if r1.1 = (0 : Int32) then (
    nmd (pI r1.2 l0 2 (r1.2.1 (lay tb l0 3) 1)) fun h3 =>
    some ((-1 : Int32), h3)
  ) else (
    nmd (l2 + (1 : Int32)) fun x2 =>
    c37 r1.2 l0 x2
  )
def lp_Tr_readText_37 (tb : Tb) : Nat → Hp → Nat → Int32 → Option (Int32 × Hp)
  | 0, _, _, _ => none
  | n + 1, h, l0, l2 =>
    if (700 : Int32) ≤ l2 then (
      some (l2, h)
    ) else (
      if (h.1 (lay tb l0 3) 0) = (0 : Int32) then (
        some (l2, h)
      ) else (
        if l2 = (0 : Int32) then (
          jb_Tr_readText_64 tb (lp_Tr_readText_37 tb n) h l0 l2 l0 (1 : Int32)
        ) else (
          jb_Tr_readText_64 tb (lp_Tr_readText_37 tb n) h l0 l2 l0 (0 : Int32)
        )
      )
    )
def f_Tr_readText (tb : Tb) (h : Hp) (l0 : Nat) (l1 : Int32) : Option (Int32 × Hp) :=
  (f_Pl_clear tb h (lay tb l0 0)).bind fun r1 =>
  nmd (pI r1 l0 1 (0 : Int32)) fun h2 =>
  nmd (pI h2 l0 2 (-1 : Int32)) fun h3 =>
  nmd (pI h3 l0 5 (0 : Int32)) fun h4 =>
  nmd (pI h4 l0 6 (0 : Int32)) fun h5 =>
  (f_Sc_begin tb h5 (lay tb l0 3) l1).bind fun r6 =>
  lp_Tr_readText_37 tb fu r6 l0 (0 : Int32)
set_option maxRecDepth 4000 in
set_option maxHeartbeats 1000000 in
theorem vjb_Tr_readText_64 {E : En} {g : Gl} {tb : Tb} {ρ : Nat → Nat} (ok : TbOK tb) (hi : inj tb ρ) {r : Int32 × Hp} (X : CX E g tb ρ prog_11_method_2_code 3 RC10 6 136) (Y : CQ E g tb ρ (some .int) (some (.int r.1)) r.2) {c37 : Hp → Nat → Int32 → Option (Int32 × Hp)} (H37 : ∀ (h : Hp) (l0 : Nat) (l2 : Int32) (kl0 : kd tb l0 = 10), c37 h l0 l2 = some r → V E g tb ρ 3 37 [(0, .ref (ρ l0)), (2, .int l2)] [] h) (h : Hp) (l0 : Nat) (l2 : Int32) (s0 : Nat) (s1 : Int32) (kl0 : kd tb l0 = 10) (ks0 : kd tb s0 = 10) (hf : jb_Tr_readText_64 tb c37 h l0 l2 s0 s1 = some r) : V E g tb ρ 3 64 [(0, .ref (ρ l0)), (2, .int l2)] [.int s1, .ref (ρ s0)] h := by
  unfold jb_Tr_readText_64 at hf
  obtain ⟨r1, er1, hf⟩ := bnd_e hf
  refine v_callV (pc := 64) (As := [.int s1]) (rest := []) X (mt_Tr_readLine ok hi ks0 er1) ml_10_64 mv_Tr_readLine ks0 cls_10 rfl ⟨Nat.le_of_ble_eq_true rfl, Nat.le_of_ble_eq_true rfl⟩ rfl rfl (Nat.le_of_ble_eq_true rfl) (by decide +kernel) ?_
  change V E g tb ρ 3 67 [(0, .ref (ρ l0)), (2, .int l2)] [.int r1.1] r1.2
  refine v_if_ne (pc := 67) (off := 16) (tgt := 83) X (by decide +kernel) (by decide) (fun q4 => ?_) (fun q4 => ?_)
  · rw [if_neg q4] at hf
    obtain ⟨x2, ex2, hf⟩ := nmd_e hf
    refine v_iinc (pc := 83) (k := 2) (n := 1) (v := x2) (lv' := [(2, .int x2), (0, .ref (ρ l0))]) X (by decide +kernel) 1 rfl (by rw [ic_1, ex2]) (Nat.le_of_ble_eq_true rfl) rfl ?_
    refine v_goto (pc := 86) (off := -49) (tgt := 37) X (by decide +kernel) (by decide) ?_
    refine v_sub [1, 0] rfl ?_
    exact H37 r1.2 l0 x2 kl0 hf
  · rw [if_pos q4] at hf
    refine v_aload_n (pc := 70) (k := 0) X (by decide +kernel) 0 rfl ?_
    refine v_aload_n (pc := 71) (k := 0) X (by decide +kernel) 0 rfl ?_
    refine v_geta (pc := 72) X fl_10_30 kl0 fk_10_3 (by decide +kernel) ?_
    refine v_geti (pc := 75) X fl_10_68 (ly_10_3 ok kl0) rfl (by decide +kernel) ?_
    obtain ⟨h3, eh3, hf⟩ := nmd_e hf
    refine v_puti (pc := 78) X fp_10_22 kl0 rfl (by decide +kernel) eh3 ?_
    refine v_iconst (pc := 81) (n := -1) X (by decide +kernel) ic_m1 ?_
    cases hf
    exact v_iret X Y (by decide +kernel) rfl rfl
set_option maxRecDepth 4000 in
set_option maxHeartbeats 1000000 in
theorem vlp_Tr_readText_37 {E : En} {g : Gl} {tb : Tb} {ρ : Nat → Nat} (ok : TbOK tb) (hi : inj tb ρ) {r : Int32 × Hp} (X : CX E g tb ρ prog_11_method_2_code 3 RC10 6 136) (Y : CQ E g tb ρ (some .int) (some (.int r.1)) r.2) : ∀ (n : Nat) (h : Hp) (l0 : Nat) (l2 : Int32) (kl0 : kd tb l0 = 10), lp_Tr_readText_37 tb n h l0 l2 = some r → V E g tb ρ 3 37 [(0, .ref (ρ l0)), (2, .int l2)] [] h := by
  intro n
  induction n with
  | zero =>
    intro h l0 l2 kl0 hf
    rw [lp_Tr_readText_37] at hf
    cases hf
  | succ n ih =>
    intro h l0 l2 kl0 hf
    rw [lp_Tr_readText_37] at hf
    refine v_iload_n (pc := 37) (k := 2) X (by decide +kernel) 1 rfl ?_
    refine v_sipush (pc := 38) (n := 700) X (by decide +kernel) si_700 ?_
    refine v_icmp_ge (pc := 41) (off := 48) (tgt := 89) X (by decide +kernel) (by decide) (fun q3 => ?_) (fun q3 => ?_)
    · rw [if_pos q3] at hf
      refine v_iload_n (pc := 89) (k := 2) X (by decide +kernel) 1 rfl ?_
      cases hf
      exact v_iret X Y (by decide +kernel) rfl rfl
    · rw [if_neg q3] at hf
      refine v_aload_n (pc := 44) (k := 0) X (by decide +kernel) 0 rfl ?_
      refine v_geta (pc := 45) X fl_10_30 kl0 fk_10_3 (by decide +kernel) ?_
      refine v_geti (pc := 48) X fl_10_61 (ly_10_3 ok kl0) rfl (by decide +kernel) ?_
      refine v_if_eq (pc := 51) (off := 38) (tgt := 89) X (by decide +kernel) (by decide) (fun q2 => ?_) (fun q2 => ?_)
      · rw [if_pos q2] at hf
        refine v_iload_n (pc := 89) (k := 2) X (by decide +kernel) 1 rfl ?_
        cases hf
        exact v_iret X Y (by decide +kernel) rfl rfl
      · rw [if_neg q2] at hf
        refine v_aload_n (pc := 54) (k := 0) X (by decide +kernel) 0 rfl ?_
        refine v_iload_n (pc := 55) (k := 2) X (by decide +kernel) 1 rfl ?_
        refine v_if_ne (pc := 56) (off := 7) (tgt := 63) X (by decide +kernel) (by decide) (fun q1 => ?_) (fun q1 => ?_)
        · rw [if_neg q1] at hf
          refine v_iconst (pc := 63) (n := 0) X (by decide +kernel) ic_0 ?_
          exact vjb_Tr_readText_64 ok hi X Y ih h l0 l2 l0 (0 : Int32) kl0 kl0 hf
        · rw [if_pos q1] at hf
          refine v_iconst (pc := 59) (n := 1) X (by decide +kernel) ic_1 ?_
          refine v_goto (pc := 60) (off := 4) (tgt := 64) X (by decide +kernel) (by decide) ?_
          exact vjb_Tr_readText_64 ok hi X Y ih h l0 l2 l0 (1 : Int32) kl0 kl0 hf
set_option maxRecDepth 4000 in
set_option maxHeartbeats 1000000 in
theorem mt_Tr_readText {g : Gl} {tb : Tb} {ρ : Nat → Nat} (ok : TbOK tb) (hi : inj tb ρ) {h : Hp} {l0 : Nat} {l1 : Int32} (kl0 : kd tb l0 = 10) {r : Int32 × Hp} (hf : f_Tr_readText tb h l0 l1 = some r) : MT g y_Tr_readText prog_11_method_2_code 3 (some .int) 6 136 tb ρ [.ref (ρ l0), .int l1] h (some (.int r.1)) r.2 := by
  refine mt_intro (by decide +kernel) ok hi (Nat.le_of_ble_eq_true rfl) (fun E X Y => ?_)
  change V E g tb ρ 3 0 [(0, .ref (ρ l0)), (1, .int l1)] [] h
  unfold f_Tr_readText at hf
  refine v_aload_n (pc := 0) (k := 0) X (by decide +kernel) 0 rfl ?_
  refine v_geta (pc := 1) X fl_10_12 kl0 fk_10_0 (by decide +kernel) ?_
  obtain ⟨r1, er1, hf⟩ := bnd_e hf
  refine v_callV (pc := 4) (As := []) (rest := []) X (mt_Pl_clear ok hi (ly_10_0 ok kl0) er1) ml_10_47 mv_Pl_clear (ly_10_0 ok kl0) cls_7 rfl ⟨Nat.le_of_ble_eq_true rfl, Nat.le_of_ble_eq_true rfl⟩ rfl rfl (Nat.le_of_ble_eq_true rfl) (by decide +kernel) ?_
  change V E g tb ρ 3 7 [(0, .ref (ρ l0)), (1, .int l1)] [] r1
  refine v_aload_n (pc := 7) (k := 0) X (by decide +kernel) 0 rfl ?_
  refine v_iconst (pc := 8) (n := 0) X (by decide +kernel) ic_0 ?_
  obtain ⟨h2, eh2, hf⟩ := nmd_e hf
  refine v_puti (pc := 9) X fp_10_18 kl0 rfl (by decide +kernel) eh2 ?_
  refine v_aload_n (pc := 12) (k := 0) X (by decide +kernel) 0 rfl ?_
  refine v_iconst (pc := 13) (n := -1) X (by decide +kernel) ic_m1 ?_
  obtain ⟨h3, eh3, hf⟩ := nmd_e hf
  refine v_puti (pc := 14) X fp_10_22 kl0 rfl (by decide +kernel) eh3 ?_
  refine v_aload_n (pc := 17) (k := 0) X (by decide +kernel) 0 rfl ?_
  refine v_iconst (pc := 18) (n := 0) X (by decide +kernel) ic_0 ?_
  obtain ⟨h4, eh4, hf⟩ := nmd_e hf
  refine v_putz (pc := 19) X fp_10_50 kl0 rfl rfl (by decide +kernel) eh4 ?_
  refine v_aload_n (pc := 22) (k := 0) X (by decide +kernel) 0 rfl ?_
  refine v_iconst (pc := 23) (n := 0) X (by decide +kernel) ic_0 ?_
  obtain ⟨h5, eh5, hf⟩ := nmd_e hf
  refine v_putz (pc := 24) X fp_10_54 kl0 rfl rfl (by decide +kernel) eh5 ?_
  refine v_aload_n (pc := 27) (k := 0) X (by decide +kernel) 0 rfl ?_
  refine v_geta (pc := 28) X fl_10_30 kl0 fk_10_3 (by decide +kernel) ?_
  refine v_iload_n (pc := 31) (k := 1) X (by decide +kernel) 1 rfl ?_
  obtain ⟨r6, er6, hf⟩ := bnd_e hf
  refine v_callV (pc := 32) (As := [.int l1]) (rest := []) X (mt_Sc_begin ok hi (ly_10_3 ok kl0) er6) ml_10_57 mv_Sc_begin (ly_10_3 ok kl0) cls_8 rfl ⟨Nat.le_of_ble_eq_true rfl, Nat.le_of_ble_eq_true rfl⟩ rfl rfl (Nat.le_of_ble_eq_true rfl) (by decide +kernel) ?_
  change V E g tb ρ 3 35 [(0, .ref (ρ l0)), (1, .int l1)] [] r6
  refine v_iconst (pc := 35) (n := 0) X (by decide +kernel) ic_0 ?_
  refine v_istore_n (pc := 36) (k := 2) (lv' := [(2, .int (0 : Int32)), (0, .ref (ρ l0)), (1, .int l1)]) X (by decide +kernel) (Nat.le_of_ble_eq_true rfl) rfl ?_
  refine v_sub [1, 0] rfl ?_
  exact vlp_Tr_readText_37 ok hi X Y fu r6 l0 (0 : Int32) kl0 hf
def f_Tt_copy (tb : Tb) (h : Hp) (l0 : Nat) (l1 : Nat) : Option (Hp) :=
  (cpI tb h l0 (0 : Int32) l1 (0 : Int32) (mnI (Int32.ofNat (al tb l0)) (Int32.ofNat (al tb l1)))).bind fun h1 =>
  some h1
set_option maxRecDepth 4000 in
set_option maxHeartbeats 1000000 in
theorem mt_Tt_copy {g : Gl} {tb : Tb} {ρ : Nat → Nat} (ok : TbOK tb) (hi : inj tb ρ) {h : Hp} {l0 : Nat} {l1 : Nat} (kl0 : kd tb l0 = 20) (kl1 : kd tb l1 = 20) {r : Hp} (hf : f_Tt_copy tb h l0 l1 = some r) : MT g y_Tt_copy prog_1_method_50_code 2 none 1 18 tb ρ [.ref (ρ l0), .ref (ρ l1)] h (none) r := by
  refine mt_intro (by decide +kernel) ok hi (Nat.le_of_ble_eq_true rfl) (fun E X Y => ?_)
  change V E g tb ρ 2 0 [(0, .ref (ρ l0)), (1, .ref (ρ l1))] [] h
  unfold f_Tt_copy at hf
  refine v_aload_n (pc := 0) (k := 0) X (by decide +kernel) 0 rfl ?_
  refine v_iconst (pc := 1) (n := 0) X (by decide +kernel) ic_0 ?_
  refine v_aload_n (pc := 2) (k := 1) X (by decide +kernel) 1 rfl ?_
  refine v_iconst (pc := 3) (n := 0) X (by decide +kernel) ic_0 ?_
  refine v_aload_n (pc := 4) (k := 0) X (by decide +kernel) 0 rfl ?_
  refine v_alen (pc := 5) X (by rw [kl0]; decide) (by decide +kernel) ?_
  refine v_aload_n (pc := 6) (k := 1) X (by decide +kernel) 1 rfl ?_
  refine v_alen (pc := 7) X (by rw [kl1]; decide) (by decide +kernel) ?_
  refine v_mmin (pc := 8) X mm_0_201 ms_mmin mc_mmin mi_math ⟨Nat.le_of_ble_eq_true rfl, Nat.le_of_ble_eq_true rfl⟩ (by decide +kernel) ?_
  obtain ⟨h1, eh1, hf⟩ := bnd_e hf
  refine v_copy (pc := 11) X kl0 kl1 eh1 ma_0_363 mn_copy ms_copy mi_sys ⟨Nat.le_of_ble_eq_true rfl, Nat.le_of_ble_eq_true rfl⟩ (by decide +kernel) ?_
  cases hf
  exact v_vret X Y (by decide +kernel) rfl rfl
def f_La_become (tb : Tb) (h : Hp) (l0 : Nat) (l1 : Nat) : Option (Hp) :=
  nmd (pI h l0 0 (h.1 l1 0)) fun h1 =>
  nmd (pI h1 l0 1 (h1.1 l1 1)) fun h2 =>
  (f_Tt_copy tb h2 (lay tb l1 2) (lay tb l0 2)).bind fun r3 =>
  (f_Tt_copy tb r3 (lay tb l1 3) (lay tb l0 3)).bind fun r4 =>
  (f_Tt_copy tb r4 (lay tb l1 4) (lay tb l0 4)).bind fun r5 =>
  some r5
set_option maxRecDepth 4000 in
set_option maxHeartbeats 1000000 in
theorem mt_La_become {g : Gl} {tb : Tb} {ρ : Nat → Nat} (ok : TbOK tb) (hi : inj tb ρ) {h : Hp} {l0 : Nat} {l1 : Nat} (kl0 : kd tb l0 = 6) (kl1 : kd tb l1 = 6) {r : Hp} (hf : f_La_become tb h l0 l1 = some r) : MT g y_La_become prog_7_method_3_code 2 none 2 39 tb ρ [.ref (ρ l0), .ref (ρ l1)] h (none) r := by
  refine mt_intro (by decide +kernel) ok hi (Nat.le_of_ble_eq_true rfl) (fun E X Y => ?_)
  change V E g tb ρ 2 0 [(0, .ref (ρ l0)), (1, .ref (ρ l1))] [] h
  unfold f_La_become at hf
  refine v_aload_n (pc := 0) (k := 0) X (by decide +kernel) 0 rfl ?_
  refine v_aload_n (pc := 1) (k := 1) X (by decide +kernel) 1 rfl ?_
  refine v_geti (pc := 2) X fl_6_25 kl1 rfl (by decide +kernel) ?_
  obtain ⟨h1, eh1, hf⟩ := nmd_e hf
  refine v_puti (pc := 5) X fp_6_25 kl0 rfl (by decide +kernel) eh1 ?_
  refine v_aload_n (pc := 8) (k := 0) X (by decide +kernel) 0 rfl ?_
  refine v_aload_n (pc := 9) (k := 1) X (by decide +kernel) 1 rfl ?_
  refine v_geti (pc := 10) X fl_6_29 kl1 rfl (by decide +kernel) ?_
  obtain ⟨h2, eh2, hf⟩ := nmd_e hf
  refine v_puti (pc := 13) X fp_6_29 kl0 rfl (by decide +kernel) eh2 ?_
  refine v_aload_n (pc := 16) (k := 1) X (by decide +kernel) 1 rfl ?_
  refine v_geta (pc := 17) X fl_6_9 kl1 fk_6_2 (by decide +kernel) ?_
  refine v_aload_n (pc := 20) (k := 0) X (by decide +kernel) 0 rfl ?_
  refine v_geta (pc := 21) X fl_6_9 kl0 fk_6_2 (by decide +kernel) ?_
  obtain ⟨r3, er3, hf⟩ := bnd_e hf
  refine v_callSN (pc := 24) (As := [.ref (ρ (lay tb l1 2)), .ref (ρ (lay tb l0 2))]) (rest := []) X (mt_Tt_copy ok hi (ly_6_2 ok kl1) (ly_6_2 ok kl0) er3) ml_6_38 ms_Tt_copy ⟨Nat.le_of_ble_eq_true rfl, Nat.le_of_ble_eq_true rfl⟩ rfl rfl (Nat.le_of_ble_eq_true rfl) (by decide +kernel) ?_
  change V E g tb ρ 2 27 [(0, .ref (ρ l0)), (1, .ref (ρ l1))] [] r3
  refine v_aload_n (pc := 27) (k := 1) X (by decide +kernel) 1 rfl ?_
  refine v_geta (pc := 28) X fl_6_15 kl1 fk_6_3 (by decide +kernel) ?_
  refine v_aload_n (pc := 31) (k := 0) X (by decide +kernel) 0 rfl ?_
  refine v_geta (pc := 32) X fl_6_15 kl0 fk_6_3 (by decide +kernel) ?_
  obtain ⟨r4, er4, hf⟩ := bnd_e hf
  refine v_callSN (pc := 35) (As := [.ref (ρ (lay tb l1 3)), .ref (ρ (lay tb l0 3))]) (rest := []) X (mt_Tt_copy ok hi (ly_6_3 ok kl1) (ly_6_3 ok kl0) er4) ml_6_38 ms_Tt_copy ⟨Nat.le_of_ble_eq_true rfl, Nat.le_of_ble_eq_true rfl⟩ rfl rfl (Nat.le_of_ble_eq_true rfl) (by decide +kernel) ?_
  change V E g tb ρ 2 38 [(0, .ref (ρ l0)), (1, .ref (ρ l1))] [] r4
  refine v_aload_n (pc := 38) (k := 1) X (by decide +kernel) 1 rfl ?_
  refine v_geta (pc := 39) X fl_6_18 kl1 fk_6_4 (by decide +kernel) ?_
  refine v_aload_n (pc := 42) (k := 0) X (by decide +kernel) 0 rfl ?_
  refine v_geta (pc := 43) X fl_6_18 kl0 fk_6_4 (by decide +kernel) ?_
  obtain ⟨r5, er5, hf⟩ := bnd_e hf
  refine v_callSN (pc := 46) (As := [.ref (ρ (lay tb l1 4)), .ref (ρ (lay tb l0 4))]) (rest := []) X (mt_Tt_copy ok hi (ly_6_4 ok kl1) (ly_6_4 ok kl0) er5) ml_6_38 ms_Tt_copy ⟨Nat.le_of_ble_eq_true rfl, Nat.le_of_ble_eq_true rfl⟩ rfl rfl (Nat.le_of_ble_eq_true rfl) (by decide +kernel) ?_
  change V E g tb ρ 2 49 [(0, .ref (ρ l0)), (1, .ref (ρ l1))] [] r5
  cases hf
  exact v_vret X Y (by decide +kernel) rfl rfl
def f_Pl_become (tb : Tb) (h : Hp) (l0 : Nat) (l1 : Nat) : Option (Hp) :=
  nmd (pI h l0 0 (h.1 l1 0)) fun h1 =>
  nmd (pI h1 l0 1 (h1.1 l1 1)) fun h2 =>
  nmd (pI h2 l0 2 (h2.1 l1 2)) fun h3 =>
  nmd (pI h3 l0 3 (h3.1 l1 3)) fun h4 =>
  nmd (pI h4 l0 4 (h4.1 l1 4)) fun h5 =>
  nmd (pI h5 l0 5 (h5.1 l1 5)) fun h6 =>
  (f_Tt_copy tb h6 (lay tb l1 6) (lay tb l0 6)).bind fun r7 =>
  (f_Tt_copy tb r7 (lay tb l1 7) (lay tb l0 7)).bind fun r8 =>
  (f_Tt_copy tb r8 (lay tb l1 8) (lay tb l0 8)).bind fun r9 =>
  (f_Tt_copy tb r9 (lay tb l1 9) (lay tb l0 9)).bind fun r10 =>
  (f_Tt_copy tb r10 (lay tb l1 10) (lay tb l0 10)).bind fun r11 =>
  (f_Tt_copy tb r11 (lay tb l1 11) (lay tb l0 11)).bind fun r12 =>
  (f_Tt_copy tb r12 (lay tb l1 12) (lay tb l0 12)).bind fun r13 =>
  (f_Tt_copy tb r13 (lay tb l1 13) (lay tb l0 13)).bind fun r14 =>
  (f_Tt_copy tb r14 (lay tb l1 14) (lay tb l0 14)).bind fun r15 =>
  (f_Tt_copy tb r15 (lay tb l1 15) (lay tb l0 15)).bind fun r16 =>
  (f_Tt_copy tb r16 (lay tb l1 16) (lay tb l0 16)).bind fun r17 =>
  (f_Tt_copy tb r17 (lay tb l1 17) (lay tb l0 17)).bind fun r18 =>
  (f_Tt_copy tb r18 (lay tb l1 18) (lay tb l0 18)).bind fun r19 =>
  (f_La_become tb r19 (lay tb l0 19) (lay tb l1 19)).bind fun r20 =>
  some r20
set_option maxRecDepth 4000 in
set_option maxHeartbeats 1000000 in
theorem mt_Pl_become {g : Gl} {tb : Tb} {ρ : Nat → Nat} (ok : TbOK tb) (hi : inj tb ρ) {h : Hp} {l0 : Nat} {l1 : Nat} (kl0 : kd tb l0 = 7) (kl1 : kd tb l1 = 7) {r : Hp} (hf : f_Pl_become tb h l0 l1 = some r) : MT g y_Pl_become prog_8_method_3_code 2 none 3 60 tb ρ [.ref (ρ l0), .ref (ρ l1)] h (none) r := by
  refine mt_intro (by decide +kernel) ok hi (Nat.le_of_ble_eq_true rfl) (fun E X Y => ?_)
  change V E g tb ρ 2 0 [(0, .ref (ρ l0)), (1, .ref (ρ l1))] [] h
  unfold f_Pl_become at hf
  refine v_aload_n (pc := 0) (k := 0) X (by decide +kernel) 0 rfl ?_
  refine v_aload_n (pc := 1) (k := 1) X (by decide +kernel) 1 rfl ?_
  refine v_geti (pc := 2) X fl_7_61 kl1 rfl (by decide +kernel) ?_
  obtain ⟨h1, eh1, hf⟩ := nmd_e hf
  refine v_puti (pc := 5) X fp_7_61 kl0 rfl (by decide +kernel) eh1 ?_
  refine v_aload_n (pc := 8) (k := 0) X (by decide +kernel) 0 rfl ?_
  refine v_aload_n (pc := 9) (k := 1) X (by decide +kernel) 1 rfl ?_
  refine v_geti (pc := 10) X fl_7_65 kl1 rfl (by decide +kernel) ?_
  obtain ⟨h2, eh2, hf⟩ := nmd_e hf
  refine v_puti (pc := 13) X fp_7_65 kl0 rfl (by decide +kernel) eh2 ?_
  refine v_aload_n (pc := 16) (k := 0) X (by decide +kernel) 0 rfl ?_
  refine v_aload_n (pc := 17) (k := 1) X (by decide +kernel) 1 rfl ?_
  refine v_geti (pc := 18) X fl_7_68 kl1 rfl (by decide +kernel) ?_
  obtain ⟨h3, eh3, hf⟩ := nmd_e hf
  refine v_puti (pc := 21) X fp_7_68 kl0 rfl (by decide +kernel) eh3 ?_
  refine v_aload_n (pc := 24) (k := 0) X (by decide +kernel) 0 rfl ?_
  refine v_aload_n (pc := 25) (k := 1) X (by decide +kernel) 1 rfl ?_
  refine v_geti (pc := 26) X fl_7_71 kl1 rfl (by decide +kernel) ?_
  obtain ⟨h4, eh4, hf⟩ := nmd_e hf
  refine v_puti (pc := 29) X fp_7_71 kl0 rfl (by decide +kernel) eh4 ?_
  refine v_aload_n (pc := 32) (k := 0) X (by decide +kernel) 0 rfl ?_
  refine v_aload_n (pc := 33) (k := 1) X (by decide +kernel) 1 rfl ?_
  refine v_geti (pc := 34) X fl_7_74 kl1 rfl (by decide +kernel) ?_
  obtain ⟨h5, eh5, hf⟩ := nmd_e hf
  refine v_puti (pc := 37) X fp_7_74 kl0 rfl (by decide +kernel) eh5 ?_
  refine v_aload_n (pc := 40) (k := 0) X (by decide +kernel) 0 rfl ?_
  refine v_aload_n (pc := 41) (k := 1) X (by decide +kernel) 1 rfl ?_
  refine v_geti (pc := 42) X fl_7_77 kl1 rfl (by decide +kernel) ?_
  obtain ⟨h6, eh6, hf⟩ := nmd_e hf
  refine v_puti (pc := 45) X fp_7_77 kl0 rfl (by decide +kernel) eh6 ?_
  refine v_aload_n (pc := 48) (k := 1) X (by decide +kernel) 1 rfl ?_
  refine v_geta (pc := 49) X fl_7_9 kl1 fk_7_6 (by decide +kernel) ?_
  refine v_aload_n (pc := 52) (k := 0) X (by decide +kernel) 0 rfl ?_
  refine v_geta (pc := 53) X fl_7_9 kl0 fk_7_6 (by decide +kernel) ?_
  obtain ⟨r7, er7, hf⟩ := bnd_e hf
  refine v_callSN (pc := 56) (As := [.ref (ρ (lay tb l1 6)), .ref (ρ (lay tb l0 6))]) (rest := []) X (mt_Tt_copy ok hi (ly_7_6 ok kl1) (ly_7_6 ok kl0) er7) ml_7_87 ms_Tt_copy ⟨Nat.le_of_ble_eq_true rfl, Nat.le_of_ble_eq_true rfl⟩ rfl rfl (Nat.le_of_ble_eq_true rfl) (by decide +kernel) ?_
  change V E g tb ρ 2 59 [(0, .ref (ρ l0)), (1, .ref (ρ l1))] [] r7
  refine v_aload_n (pc := 59) (k := 1) X (by decide +kernel) 1 rfl ?_
  refine v_geta (pc := 60) X fl_7_15 kl1 fk_7_7 (by decide +kernel) ?_
  refine v_aload_n (pc := 63) (k := 0) X (by decide +kernel) 0 rfl ?_
  refine v_geta (pc := 64) X fl_7_15 kl0 fk_7_7 (by decide +kernel) ?_
  obtain ⟨r8, er8, hf⟩ := bnd_e hf
  refine v_callSN (pc := 67) (As := [.ref (ρ (lay tb l1 7)), .ref (ρ (lay tb l0 7))]) (rest := []) X (mt_Tt_copy ok hi (ly_7_7 ok kl1) (ly_7_7 ok kl0) er8) ml_7_87 ms_Tt_copy ⟨Nat.le_of_ble_eq_true rfl, Nat.le_of_ble_eq_true rfl⟩ rfl rfl (Nat.le_of_ble_eq_true rfl) (by decide +kernel) ?_
  change V E g tb ρ 2 70 [(0, .ref (ρ l0)), (1, .ref (ρ l1))] [] r8
  refine v_aload_n (pc := 70) (k := 1) X (by decide +kernel) 1 rfl ?_
  refine v_geta (pc := 71) X fl_7_18 kl1 fk_7_8 (by decide +kernel) ?_
  refine v_aload_n (pc := 74) (k := 0) X (by decide +kernel) 0 rfl ?_
  refine v_geta (pc := 75) X fl_7_18 kl0 fk_7_8 (by decide +kernel) ?_
  obtain ⟨r9, er9, hf⟩ := bnd_e hf
  refine v_callSN (pc := 78) (As := [.ref (ρ (lay tb l1 8)), .ref (ρ (lay tb l0 8))]) (rest := []) X (mt_Tt_copy ok hi (ly_7_8 ok kl1) (ly_7_8 ok kl0) er9) ml_7_87 ms_Tt_copy ⟨Nat.le_of_ble_eq_true rfl, Nat.le_of_ble_eq_true rfl⟩ rfl rfl (Nat.le_of_ble_eq_true rfl) (by decide +kernel) ?_
  change V E g tb ρ 2 81 [(0, .ref (ρ l0)), (1, .ref (ρ l1))] [] r9
  refine v_aload_n (pc := 81) (k := 1) X (by decide +kernel) 1 rfl ?_
  refine v_geta (pc := 82) X fl_7_21 kl1 fk_7_9 (by decide +kernel) ?_
  refine v_aload_n (pc := 85) (k := 0) X (by decide +kernel) 0 rfl ?_
  refine v_geta (pc := 86) X fl_7_21 kl0 fk_7_9 (by decide +kernel) ?_
  obtain ⟨r10, er10, hf⟩ := bnd_e hf
  refine v_callSN (pc := 89) (As := [.ref (ρ (lay tb l1 9)), .ref (ρ (lay tb l0 9))]) (rest := []) X (mt_Tt_copy ok hi (ly_7_9 ok kl1) (ly_7_9 ok kl0) er10) ml_7_87 ms_Tt_copy ⟨Nat.le_of_ble_eq_true rfl, Nat.le_of_ble_eq_true rfl⟩ rfl rfl (Nat.le_of_ble_eq_true rfl) (by decide +kernel) ?_
  change V E g tb ρ 2 92 [(0, .ref (ρ l0)), (1, .ref (ρ l1))] [] r10
  refine v_aload_n (pc := 92) (k := 1) X (by decide +kernel) 1 rfl ?_
  refine v_geta (pc := 93) X fl_7_24 kl1 fk_7_10 (by decide +kernel) ?_
  refine v_aload_n (pc := 96) (k := 0) X (by decide +kernel) 0 rfl ?_
  refine v_geta (pc := 97) X fl_7_24 kl0 fk_7_10 (by decide +kernel) ?_
  obtain ⟨r11, er11, hf⟩ := bnd_e hf
  refine v_callSN (pc := 100) (As := [.ref (ρ (lay tb l1 10)), .ref (ρ (lay tb l0 10))]) (rest := []) X (mt_Tt_copy ok hi (ly_7_10 ok kl1) (ly_7_10 ok kl0) er11) ml_7_87 ms_Tt_copy ⟨Nat.le_of_ble_eq_true rfl, Nat.le_of_ble_eq_true rfl⟩ rfl rfl (Nat.le_of_ble_eq_true rfl) (by decide +kernel) ?_
  change V E g tb ρ 2 103 [(0, .ref (ρ l0)), (1, .ref (ρ l1))] [] r11
  refine v_aload_n (pc := 103) (k := 1) X (by decide +kernel) 1 rfl ?_
  refine v_geta (pc := 104) X fl_7_27 kl1 fk_7_11 (by decide +kernel) ?_
  refine v_aload_n (pc := 107) (k := 0) X (by decide +kernel) 0 rfl ?_
  refine v_geta (pc := 108) X fl_7_27 kl0 fk_7_11 (by decide +kernel) ?_
  obtain ⟨r12, er12, hf⟩ := bnd_e hf
  refine v_callSN (pc := 111) (As := [.ref (ρ (lay tb l1 11)), .ref (ρ (lay tb l0 11))]) (rest := []) X (mt_Tt_copy ok hi (ly_7_11 ok kl1) (ly_7_11 ok kl0) er12) ml_7_87 ms_Tt_copy ⟨Nat.le_of_ble_eq_true rfl, Nat.le_of_ble_eq_true rfl⟩ rfl rfl (Nat.le_of_ble_eq_true rfl) (by decide +kernel) ?_
  change V E g tb ρ 2 114 [(0, .ref (ρ l0)), (1, .ref (ρ l1))] [] r12
  refine v_aload_n (pc := 114) (k := 1) X (by decide +kernel) 1 rfl ?_
  refine v_geta (pc := 115) X fl_7_30 kl1 fk_7_12 (by decide +kernel) ?_
  refine v_aload_n (pc := 118) (k := 0) X (by decide +kernel) 0 rfl ?_
  refine v_geta (pc := 119) X fl_7_30 kl0 fk_7_12 (by decide +kernel) ?_
  obtain ⟨r13, er13, hf⟩ := bnd_e hf
  refine v_callSN (pc := 122) (As := [.ref (ρ (lay tb l1 12)), .ref (ρ (lay tb l0 12))]) (rest := []) X (mt_Tt_copy ok hi (ly_7_12 ok kl1) (ly_7_12 ok kl0) er13) ml_7_87 ms_Tt_copy ⟨Nat.le_of_ble_eq_true rfl, Nat.le_of_ble_eq_true rfl⟩ rfl rfl (Nat.le_of_ble_eq_true rfl) (by decide +kernel) ?_
  change V E g tb ρ 2 125 [(0, .ref (ρ l0)), (1, .ref (ρ l1))] [] r13
  refine v_aload_n (pc := 125) (k := 1) X (by decide +kernel) 1 rfl ?_
  refine v_geta (pc := 126) X fl_7_33 kl1 fk_7_13 (by decide +kernel) ?_
  refine v_aload_n (pc := 129) (k := 0) X (by decide +kernel) 0 rfl ?_
  refine v_geta (pc := 130) X fl_7_33 kl0 fk_7_13 (by decide +kernel) ?_
  obtain ⟨r14, er14, hf⟩ := bnd_e hf
  refine v_callSN (pc := 133) (As := [.ref (ρ (lay tb l1 13)), .ref (ρ (lay tb l0 13))]) (rest := []) X (mt_Tt_copy ok hi (ly_7_13 ok kl1) (ly_7_13 ok kl0) er14) ml_7_87 ms_Tt_copy ⟨Nat.le_of_ble_eq_true rfl, Nat.le_of_ble_eq_true rfl⟩ rfl rfl (Nat.le_of_ble_eq_true rfl) (by decide +kernel) ?_
  change V E g tb ρ 2 136 [(0, .ref (ρ l0)), (1, .ref (ρ l1))] [] r14
  refine v_aload_n (pc := 136) (k := 1) X (by decide +kernel) 1 rfl ?_
  refine v_geta (pc := 137) X fl_7_36 kl1 fk_7_14 (by decide +kernel) ?_
  refine v_aload_n (pc := 140) (k := 0) X (by decide +kernel) 0 rfl ?_
  refine v_geta (pc := 141) X fl_7_36 kl0 fk_7_14 (by decide +kernel) ?_
  obtain ⟨r15, er15, hf⟩ := bnd_e hf
  refine v_callSN (pc := 144) (As := [.ref (ρ (lay tb l1 14)), .ref (ρ (lay tb l0 14))]) (rest := []) X (mt_Tt_copy ok hi (ly_7_14 ok kl1) (ly_7_14 ok kl0) er15) ml_7_87 ms_Tt_copy ⟨Nat.le_of_ble_eq_true rfl, Nat.le_of_ble_eq_true rfl⟩ rfl rfl (Nat.le_of_ble_eq_true rfl) (by decide +kernel) ?_
  change V E g tb ρ 2 147 [(0, .ref (ρ l0)), (1, .ref (ρ l1))] [] r15
  refine v_aload_n (pc := 147) (k := 1) X (by decide +kernel) 1 rfl ?_
  refine v_geta (pc := 148) X fl_7_39 kl1 fk_7_15 (by decide +kernel) ?_
  refine v_aload_n (pc := 151) (k := 0) X (by decide +kernel) 0 rfl ?_
  refine v_geta (pc := 152) X fl_7_39 kl0 fk_7_15 (by decide +kernel) ?_
  obtain ⟨r16, er16, hf⟩ := bnd_e hf
  refine v_callSN (pc := 155) (As := [.ref (ρ (lay tb l1 15)), .ref (ρ (lay tb l0 15))]) (rest := []) X (mt_Tt_copy ok hi (ly_7_15 ok kl1) (ly_7_15 ok kl0) er16) ml_7_87 ms_Tt_copy ⟨Nat.le_of_ble_eq_true rfl, Nat.le_of_ble_eq_true rfl⟩ rfl rfl (Nat.le_of_ble_eq_true rfl) (by decide +kernel) ?_
  change V E g tb ρ 2 158 [(0, .ref (ρ l0)), (1, .ref (ρ l1))] [] r16
  refine v_aload_n (pc := 158) (k := 1) X (by decide +kernel) 1 rfl ?_
  refine v_geta (pc := 159) X fl_7_42 kl1 fk_7_16 (by decide +kernel) ?_
  refine v_aload_n (pc := 162) (k := 0) X (by decide +kernel) 0 rfl ?_
  refine v_geta (pc := 163) X fl_7_42 kl0 fk_7_16 (by decide +kernel) ?_
  obtain ⟨r17, er17, hf⟩ := bnd_e hf
  refine v_callSN (pc := 166) (As := [.ref (ρ (lay tb l1 16)), .ref (ρ (lay tb l0 16))]) (rest := []) X (mt_Tt_copy ok hi (ly_7_16 ok kl1) (ly_7_16 ok kl0) er17) ml_7_87 ms_Tt_copy ⟨Nat.le_of_ble_eq_true rfl, Nat.le_of_ble_eq_true rfl⟩ rfl rfl (Nat.le_of_ble_eq_true rfl) (by decide +kernel) ?_
  change V E g tb ρ 2 169 [(0, .ref (ρ l0)), (1, .ref (ρ l1))] [] r17
  refine v_aload_n (pc := 169) (k := 1) X (by decide +kernel) 1 rfl ?_
  refine v_geta (pc := 170) X fl_7_45 kl1 fk_7_17 (by decide +kernel) ?_
  refine v_aload_n (pc := 173) (k := 0) X (by decide +kernel) 0 rfl ?_
  refine v_geta (pc := 174) X fl_7_45 kl0 fk_7_17 (by decide +kernel) ?_
  obtain ⟨r18, er18, hf⟩ := bnd_e hf
  refine v_callSN (pc := 177) (As := [.ref (ρ (lay tb l1 17)), .ref (ρ (lay tb l0 17))]) (rest := []) X (mt_Tt_copy ok hi (ly_7_17 ok kl1) (ly_7_17 ok kl0) er18) ml_7_87 ms_Tt_copy ⟨Nat.le_of_ble_eq_true rfl, Nat.le_of_ble_eq_true rfl⟩ rfl rfl (Nat.le_of_ble_eq_true rfl) (by decide +kernel) ?_
  change V E g tb ρ 2 180 [(0, .ref (ρ l0)), (1, .ref (ρ l1))] [] r18
  refine v_aload_n (pc := 180) (k := 1) X (by decide +kernel) 1 rfl ?_
  refine v_geta (pc := 181) X fl_7_48 kl1 fk_7_18 (by decide +kernel) ?_
  refine v_aload_n (pc := 184) (k := 0) X (by decide +kernel) 0 rfl ?_
  refine v_geta (pc := 185) X fl_7_48 kl0 fk_7_18 (by decide +kernel) ?_
  obtain ⟨r19, er19, hf⟩ := bnd_e hf
  refine v_callSN (pc := 188) (As := [.ref (ρ (lay tb l1 18)), .ref (ρ (lay tb l0 18))]) (rest := []) X (mt_Tt_copy ok hi (ly_7_18 ok kl1) (ly_7_18 ok kl0) er19) ml_7_87 ms_Tt_copy ⟨Nat.le_of_ble_eq_true rfl, Nat.le_of_ble_eq_true rfl⟩ rfl rfl (Nat.le_of_ble_eq_true rfl) (by decide +kernel) ?_
  change V E g tb ρ 2 191 [(0, .ref (ρ l0)), (1, .ref (ρ l1))] [] r19
  refine v_aload_n (pc := 191) (k := 0) X (by decide +kernel) 0 rfl ?_
  refine v_geta (pc := 192) X fl_7_54 kl0 fk_7_19 (by decide +kernel) ?_
  refine v_aload_n (pc := 195) (k := 1) X (by decide +kernel) 1 rfl ?_
  refine v_geta (pc := 196) X fl_7_54 kl1 fk_7_19 (by decide +kernel) ?_
  obtain ⟨r20, er20, hf⟩ := bnd_e hf
  refine v_callV (pc := 199) (As := [.ref (ρ (lay tb l1 19))]) (rest := []) X (mt_La_become ok hi (ly_7_19 ok kl0) (ly_7_19 ok kl1) er20) ml_7_91 mv_La_become (ly_7_19 ok kl0) cls_6 rfl ⟨Nat.le_of_ble_eq_true rfl, Nat.le_of_ble_eq_true rfl⟩ rfl rfl (Nat.le_of_ble_eq_true rfl) (by decide +kernel) ?_
  change V E g tb ρ 2 202 [(0, .ref (ρ l0)), (1, .ref (ρ l1))] [] r20
  cases hf
  exact v_vret X Y (by decide +kernel) rfl rfl
def f_Wo_begin (tb : Tb) (h : Hp) (l0 : Nat) (l1 : Nat) : Option (Hp) :=
  nmd (pI h l0 0 (0 : Int32)) fun h1 =>
  nmd (pL h1 l0 1 ((h1.1 l1 2).toInt64)) fun h2 =>
  nmd (pI h2 l0 2 (((1 : Int32) <<< ((h2.1 l1 4) &&& 31)) - (1 : Int32))) fun h3 =>
  nmd (pI h3 l0 3 (0 : Int32)) fun h4 =>
  nmd (pI h4 l0 4 (0 : Int32)) fun h5 =>
  nmd (pI h5 l0 5 (0 : Int32)) fun h6 =>
  nmd (pI h6 l0 6 (0 : Int32)) fun h7 =>
  nmd (pI h7 l0 7 (0 : Int32)) fun h8 =>
  nmd (pI h8 l0 8 (-1 : Int32)) fun h9 =>
  (f_Tt_copy tb h9 (lay tb l1 13) (lay tb l0 9)).bind fun r10 =>
  (f_Tt_copy tb r10 (lay tb l1 14) (lay tb l0 10)).bind fun r11 =>
  (f_Ar_fill tb r11 (lay tb l0 11) (0 : Int32)).bind fun r12 =>
  (f_Ar_fill tb r12 (lay tb l0 12) (-2 : Int32)).bind fun r13 =>
  (f_Ar_fill tb r13 (lay tb l0 13) (0 : Int32)).bind fun r14 =>
  (f_Tt_copy tb r14 (lay tb l1 8) (lay tb l0 14)).bind fun r15 =>
  some r15
set_option maxRecDepth 4000 in
set_option maxHeartbeats 1000000 in
theorem mt_Wo_begin {g : Gl} {tb : Tb} {ρ : Nat → Nat} (ok : TbOK tb) (hi : inj tb ρ) {h : Hp} {l0 : Nat} {l1 : Nat} (kl0 : kd tb l0 = 11) (kl1 : kd tb l1 = 7) {r : Hp} (hf : f_Wo_begin tb h l0 l1 = some r) : MT g y_Wo_begin prog_12_method_2_code 2 none 2 39 tb ρ [.ref (ρ l0), .ref (ρ l1)] h (none) r := by
  refine mt_intro (by decide +kernel) ok hi (Nat.le_of_ble_eq_true rfl) (fun E X Y => ?_)
  change V E g tb ρ 2 0 [(0, .ref (ρ l0)), (1, .ref (ρ l1))] [] h
  unfold f_Wo_begin at hf
  refine v_aload_n (pc := 0) (k := 0) X (by decide +kernel) 0 rfl ?_
  refine v_iconst (pc := 1) (n := 0) X (by decide +kernel) ic_0 ?_
  obtain ⟨h1, eh1, hf⟩ := nmd_e hf
  refine v_puti (pc := 2) X fp_11_30 kl0 rfl (by decide +kernel) eh1 ?_
  refine v_aload_n (pc := 5) (k := 0) X (by decide +kernel) 0 rfl ?_
  refine v_aload_n (pc := 6) (k := 1) X (by decide +kernel) 1 rfl ?_
  refine v_geti (pc := 7) X fl_11_34 kl1 rfl (by decide +kernel) ?_
  refine v_i2l (pc := 10) X (by decide +kernel) ?_
  obtain ⟨h2, eh2, hf⟩ := nmd_e hf
  refine v_putl (pc := 11) X fp_11_39 kl0 rfl (by decide +kernel) eh2 ?_
  refine v_aload_n (pc := 14) (k := 0) X (by decide +kernel) 0 rfl ?_
  refine v_iconst (pc := 15) (n := 1) X (by decide +kernel) ic_1 ?_
  refine v_aload_n (pc := 16) (k := 1) X (by decide +kernel) 1 rfl ?_
  refine v_geti (pc := 17) X fl_11_43 kl1 rfl (by decide +kernel) ?_
  refine v_ishl (pc := 20) X (by decide +kernel) ?_
  refine v_iconst (pc := 21) (n := 1) X (by decide +kernel) ic_1 ?_
  refine v_isub (pc := 22) X (by decide +kernel) ?_
  obtain ⟨h3, eh3, hf⟩ := nmd_e hf
  refine v_puti (pc := 23) X fp_11_46 kl0 rfl (by decide +kernel) eh3 ?_
  refine v_aload_n (pc := 26) (k := 0) X (by decide +kernel) 0 rfl ?_
  refine v_iconst (pc := 27) (n := 0) X (by decide +kernel) ic_0 ?_
  obtain ⟨h4, eh4, hf⟩ := nmd_e hf
  refine v_puti (pc := 28) X fp_11_49 kl0 rfl (by decide +kernel) eh4 ?_
  refine v_aload_n (pc := 31) (k := 0) X (by decide +kernel) 0 rfl ?_
  refine v_iconst (pc := 32) (n := 0) X (by decide +kernel) ic_0 ?_
  obtain ⟨h5, eh5, hf⟩ := nmd_e hf
  refine v_puti (pc := 33) X fp_11_52 kl0 rfl (by decide +kernel) eh5 ?_
  refine v_aload_n (pc := 36) (k := 0) X (by decide +kernel) 0 rfl ?_
  refine v_iconst (pc := 37) (n := 0) X (by decide +kernel) ic_0 ?_
  obtain ⟨h6, eh6, hf⟩ := nmd_e hf
  refine v_puti (pc := 38) X fp_11_55 kl0 rfl (by decide +kernel) eh6 ?_
  refine v_aload_n (pc := 41) (k := 0) X (by decide +kernel) 0 rfl ?_
  refine v_iconst (pc := 42) (n := 0) X (by decide +kernel) ic_0 ?_
  obtain ⟨h7, eh7, hf⟩ := nmd_e hf
  refine v_puti (pc := 43) X fp_11_58 kl0 rfl (by decide +kernel) eh7 ?_
  refine v_aload_n (pc := 46) (k := 0) X (by decide +kernel) 0 rfl ?_
  refine v_iconst (pc := 47) (n := 0) X (by decide +kernel) ic_0 ?_
  obtain ⟨h8, eh8, hf⟩ := nmd_e hf
  refine v_puti (pc := 48) X fp_11_61 kl0 rfl (by decide +kernel) eh8 ?_
  refine v_aload_n (pc := 51) (k := 0) X (by decide +kernel) 0 rfl ?_
  refine v_iconst (pc := 52) (n := -1) X (by decide +kernel) ic_m1 ?_
  obtain ⟨h9, eh9, hf⟩ := nmd_e hf
  refine v_puti (pc := 53) X fp_11_64 kl0 rfl (by decide +kernel) eh9 ?_
  refine v_aload_n (pc := 56) (k := 1) X (by decide +kernel) 1 rfl ?_
  refine v_geta (pc := 57) X fl_11_67 kl1 fk_7_13 (by decide +kernel) ?_
  refine v_aload_n (pc := 60) (k := 0) X (by decide +kernel) 0 rfl ?_
  refine v_geta (pc := 61) X fl_11_9 kl0 fk_11_9 (by decide +kernel) ?_
  obtain ⟨r10, er10, hf⟩ := bnd_e hf
  refine v_callSN (pc := 64) (As := [.ref (ρ (lay tb l1 13)), .ref (ρ (lay tb l0 9))]) (rest := []) X (mt_Tt_copy ok hi (ly_7_13 ok kl1) (ly_11_9 ok kl0) er10) ml_11_70 ms_Tt_copy ⟨Nat.le_of_ble_eq_true rfl, Nat.le_of_ble_eq_true rfl⟩ rfl rfl (Nat.le_of_ble_eq_true rfl) (by decide +kernel) ?_
  change V E g tb ρ 2 67 [(0, .ref (ρ l0)), (1, .ref (ρ l1))] [] r10
  refine v_aload_n (pc := 67) (k := 1) X (by decide +kernel) 1 rfl ?_
  refine v_geta (pc := 68) X fl_11_74 kl1 fk_7_14 (by decide +kernel) ?_
  refine v_aload_n (pc := 71) (k := 0) X (by decide +kernel) 0 rfl ?_
  refine v_geta (pc := 72) X fl_11_15 kl0 fk_11_10 (by decide +kernel) ?_
  obtain ⟨r11, er11, hf⟩ := bnd_e hf
  refine v_callSN (pc := 75) (As := [.ref (ρ (lay tb l1 14)), .ref (ρ (lay tb l0 10))]) (rest := []) X (mt_Tt_copy ok hi (ly_7_14 ok kl1) (ly_11_10 ok kl0) er11) ml_11_70 ms_Tt_copy ⟨Nat.le_of_ble_eq_true rfl, Nat.le_of_ble_eq_true rfl⟩ rfl rfl (Nat.le_of_ble_eq_true rfl) (by decide +kernel) ?_
  change V E g tb ρ 2 78 [(0, .ref (ρ l0)), (1, .ref (ρ l1))] [] r11
  refine v_aload_n (pc := 78) (k := 0) X (by decide +kernel) 0 rfl ?_
  refine v_geta (pc := 79) X fl_11_18 kl0 fk_11_11 (by decide +kernel) ?_
  refine v_iconst (pc := 82) (n := 0) X (by decide +kernel) ic_0 ?_
  obtain ⟨r12, er12, hf⟩ := bnd_e hf
  refine v_callS (pc := 83) (As := [.ref (ρ (lay tb l0 11)), .int (0 : Int32)]) (rest := []) X (mt_Ar_fill ok hi (ly_11_11 ok kl0) er12) ml_11_77 ms_Ar_fill ⟨Nat.le_of_ble_eq_true rfl, Nat.le_of_ble_eq_true rfl⟩ rfl rfl (Nat.le_of_ble_eq_true rfl) (by decide +kernel) ?_
  change V E g tb ρ 2 86 [(0, .ref (ρ l0)), (1, .ref (ρ l1))] [] r12
  refine v_aload_n (pc := 86) (k := 0) X (by decide +kernel) 0 rfl ?_
  refine v_geta (pc := 87) X fl_11_21 kl0 fk_11_12 (by decide +kernel) ?_
  refine v_bipush (pc := 90) (n := -2) X (by decide +kernel) bi_m2 ?_
  obtain ⟨r13, er13, hf⟩ := bnd_e hf
  refine v_callS (pc := 92) (As := [.ref (ρ (lay tb l0 12)), .int (-2 : Int32)]) (rest := []) X (mt_Ar_fill ok hi (ly_11_12 ok kl0) er13) ml_11_77 ms_Ar_fill ⟨Nat.le_of_ble_eq_true rfl, Nat.le_of_ble_eq_true rfl⟩ rfl rfl (Nat.le_of_ble_eq_true rfl) (by decide +kernel) ?_
  change V E g tb ρ 2 95 [(0, .ref (ρ l0)), (1, .ref (ρ l1))] [] r13
  refine v_aload_n (pc := 95) (k := 0) X (by decide +kernel) 0 rfl ?_
  refine v_geta (pc := 96) X fl_11_24 kl0 fk_11_13 (by decide +kernel) ?_
  refine v_iconst (pc := 99) (n := 0) X (by decide +kernel) ic_0 ?_
  obtain ⟨r14, er14, hf⟩ := bnd_e hf
  refine v_callS (pc := 100) (As := [.ref (ρ (lay tb l0 13)), .int (0 : Int32)]) (rest := []) X (mt_Ar_fill ok hi (ly_11_13 ok kl0) er14) ml_11_77 ms_Ar_fill ⟨Nat.le_of_ble_eq_true rfl, Nat.le_of_ble_eq_true rfl⟩ rfl rfl (Nat.le_of_ble_eq_true rfl) (by decide +kernel) ?_
  change V E g tb ρ 2 103 [(0, .ref (ρ l0)), (1, .ref (ρ l1))] [] r14
  refine v_aload_n (pc := 103) (k := 1) X (by decide +kernel) 1 rfl ?_
  refine v_geta (pc := 104) X fl_11_83 kl1 fk_7_8 (by decide +kernel) ?_
  refine v_aload_n (pc := 107) (k := 0) X (by decide +kernel) 0 rfl ?_
  refine v_geta (pc := 108) X fl_11_27 kl0 fk_11_14 (by decide +kernel) ?_
  obtain ⟨r15, er15, hf⟩ := bnd_e hf
  refine v_callSN (pc := 111) (As := [.ref (ρ (lay tb l1 8)), .ref (ρ (lay tb l0 14))]) (rest := []) X (mt_Tt_copy ok hi (ly_7_8 ok kl1) (ly_11_14 ok kl0) er15) ml_11_70 ms_Tt_copy ⟨Nat.le_of_ble_eq_true rfl, Nat.le_of_ble_eq_true rfl⟩ rfl rfl (Nat.le_of_ble_eq_true rfl) (by decide +kernel) ?_
  change V E g tb ρ 2 114 [(0, .ref (ρ l0)), (1, .ref (ρ l1))] [] r15
  cases hf
  exact v_vret X Y (by decide +kernel) rfl rfl
def f_De_forget (tb : Tb) (h : Hp) (l0 : Nat) : Hp :=
  nmd (pI h l0 0 (0 : Int32)) fun h1 =>
  h1
set_option maxRecDepth 4000 in
set_option maxHeartbeats 1000000 in
theorem mt_De_forget {g : Gl} {tb : Tb} {ρ : Nat → Nat} (ok : TbOK tb) (hi : inj tb ρ) {h : Hp} {l0 : Nat} (kl0 : kd tb l0 = 2) {r : Hp} (hf : f_De_forget tb h l0 = r) : MT g y_De_forget prog_3_method_2_code 1 none 0 0 tb ρ [.ref (ρ l0)] h (none) r := by
  refine mt_intro (by decide +kernel) ok hi (Nat.le_of_ble_eq_true rfl) (fun E X Y => ?_)
  change V E g tb ρ 1 0 [(0, .ref (ρ l0))] [] h
  unfold f_De_forget at hf
  refine v_aload_n (pc := 0) (k := 0) X (by decide +kernel) 0 rfl ?_
  refine v_iconst (pc := 1) (n := 0) X (by decide +kernel) ic_0 ?_
  obtain ⟨h1, eh1, hf⟩ := nmd_e hf
  refine v_puti (pc := 2) X fp_2_9 kl0 rfl (by decide +kernel) eh1 ?_
  cases hf
  exact v_vret X Y (by decide +kernel) rfl rfl
def f_Se_forget (tb : Tb) (h : Hp) (l0 : Nat) : Hp :=
  nmd (pI h l0 0 (0 : Int32)) fun h1 =>
  nmd (pI h1 l0 1 (-1 : Int32)) fun h2 =>
  h2
set_option maxRecDepth 4000 in
set_option maxHeartbeats 1000000 in
theorem mt_Se_forget {g : Gl} {tb : Tb} {ρ : Nat → Nat} (ok : TbOK tb) (hi : inj tb ρ) {h : Hp} {l0 : Nat} (kl0 : kd tb l0 = 9) {r : Hp} (hf : f_Se_forget tb h l0 = r) : MT g y_Se_forget prog_10_method_2_code 1 none 0 0 tb ρ [.ref (ρ l0)] h (none) r := by
  refine mt_intro (by decide +kernel) ok hi (Nat.le_of_ble_eq_true rfl) (fun E X Y => ?_)
  change V E g tb ρ 1 0 [(0, .ref (ρ l0))] [] h
  unfold f_Se_forget at hf
  refine v_aload_n (pc := 0) (k := 0) X (by decide +kernel) 0 rfl ?_
  refine v_iconst (pc := 1) (n := 0) X (by decide +kernel) ic_0 ?_
  obtain ⟨h1, eh1, hf⟩ := nmd_e hf
  refine v_puti (pc := 2) X fp_9_9 kl0 rfl (by decide +kernel) eh1 ?_
  refine v_aload_n (pc := 5) (k := 0) X (by decide +kernel) 0 rfl ?_
  refine v_iconst (pc := 6) (n := -1) X (by decide +kernel) ic_m1 ?_
  obtain ⟨h2, eh2, hf⟩ := nmd_e hf
  refine v_puti (pc := 7) X fp_9_15 kl0 rfl (by decide +kernel) eh2 ?_
  cases hf
  exact v_vret X Y (by decide +kernel) rfl rfl
def f_Tt_text (tb : Tb) (h : Hp) (l0 : Nat) (l1 : Int32) : Option (Int32 × Hp) :=
  if l1 < (0 : Int32) then (
    some ((-2 : Int32), h)
  ) else (
    if l1 ≤ (h.1 l0 1) then (
      nmd (pI h l0 1 (0 : Int32)) fun h1 =>
      (f_Tr_readText tb h1 (lay tb l0 2) l1).bind fun r2 =>
      if r2.1 = (-1 : Int32) then (
        some ((-1 : Int32), r2.2)
      ) else (
        (f_Pl_become tb r2.2 (lay tb l0 3) (lay tb (lay tb l0 2) 0)).bind fun r3 =>
        (f_Wo_begin tb r3 (lay tb l0 4) (lay tb l0 3)).bind fun r4 =>
        nmd (pI r4 l0 6 (0 : Int32)) fun h5 =>
        nmd (f_De_forget tb h5 (lay tb l0 7)) fun r6 =>
        nmd (f_Se_forget tb r6 (lay tb l0 8)) fun r7 =>
        some (r2.1, r7)
      )
    ) else (
      some ((-2 : Int32), h)
    )
  )
set_option maxRecDepth 4000 in
set_option maxHeartbeats 1000000 in
theorem mt_Tt_text {g : Gl} {tb : Tb} {ρ : Nat → Nat} (ok : TbOK tb) (hi : inj tb ρ) {h : Hp} {l0 : Nat} {l1 : Int32} (kl0 : kd tb l0 = 0) {r : Int32 × Hp} (hf : f_Tt_text tb h l0 l1 = some r) : MT g y_Tt_text prog_1_method_4_code 3 (some .int) 7 158 tb ρ [.ref (ρ l0), .int l1] h (some (.int r.1)) r.2 := by
  refine mt_intro (by decide +kernel) ok hi (Nat.le_of_ble_eq_true rfl) (fun E X Y => ?_)
  change V E g tb ρ 3 0 [(0, .ref (ρ l0)), (1, .int l1)] [] h
  unfold f_Tt_text at hf
  refine v_iload_n (pc := 0) (k := 1) X (by decide +kernel) 1 rfl ?_
  refine v_if_lt (pc := 1) (off := 11) (tgt := 12) X (by decide +kernel) (by decide) (fun q10 => ?_) (fun q10 => ?_)
  · rw [if_pos q10] at hf
    refine v_bipush (pc := 12) (n := -2) X (by decide +kernel) bi_m2 ?_
    cases hf
    exact v_iret X Y (by decide +kernel) rfl rfl
  · rw [if_neg q10] at hf
    refine v_iload_n (pc := 4) (k := 1) X (by decide +kernel) 1 rfl ?_
    refine v_aload_n (pc := 5) (k := 0) X (by decide +kernel) 0 rfl ?_
    refine v_geti (pc := 6) X fl_0_15 kl0 rfl (by decide +kernel) ?_
    refine v_icmp_le (pc := 9) (off := 6) (tgt := 15) X (by decide +kernel) (by decide) (fun q9 => ?_) (fun q9 => ?_)
    · rw [if_pos q9] at hf
      refine v_aload_n (pc := 15) (k := 0) X (by decide +kernel) 0 rfl ?_
      refine v_iconst (pc := 16) (n := 0) X (by decide +kernel) ic_0 ?_
      obtain ⟨h1, eh1, hf⟩ := nmd_e hf
      refine v_puti (pc := 17) X fp_0_15 kl0 rfl (by decide +kernel) eh1 ?_
      refine v_aload_n (pc := 20) (k := 0) X (by decide +kernel) 0 rfl ?_
      refine v_geta (pc := 21) X fl_0_24 kl0 fk_0_2 (by decide +kernel) ?_
      refine v_iload_n (pc := 24) (k := 1) X (by decide +kernel) 1 rfl ?_
      obtain ⟨r2, er2, hf⟩ := bnd_e hf
      refine v_callV (pc := 25) (As := [.int l1]) (rest := []) X (mt_Tr_readText ok hi (ly_0_2 ok kl0) er2) ml_0_97 mv_Tr_readText (ly_0_2 ok kl0) cls_10 rfl ⟨Nat.le_of_ble_eq_true rfl, Nat.le_of_ble_eq_true rfl⟩ rfl rfl (Nat.le_of_ble_eq_true rfl) (by decide +kernel) ?_
      change V E g tb ρ 3 28 [(0, .ref (ρ l0)), (1, .int l1)] [.int r2.1] r2.2
      refine v_istore_n (pc := 28) (k := 2) (lv' := [(2, .int r2.1), (0, .ref (ρ l0)), (1, .int l1)]) X (by decide +kernel) (Nat.le_of_ble_eq_true rfl) rfl ?_
      refine v_iload_n (pc := 29) (k := 2) X (by decide +kernel) 0 rfl ?_
      refine v_iconst (pc := 30) (n := -1) X (by decide +kernel) ic_m1 ?_
      refine v_icmp_ne (pc := 31) (off := 5) (tgt := 36) X (by decide +kernel) (by decide) (fun q8 => ?_) (fun q8 => ?_)
      · rw [if_neg q8] at hf
        refine v_aload_n (pc := 36) (k := 0) X (by decide +kernel) 1 rfl ?_
        refine v_geta (pc := 37) X fl_0_31 kl0 fk_0_3 (by decide +kernel) ?_
        refine v_aload_n (pc := 40) (k := 0) X (by decide +kernel) 1 rfl ?_
        refine v_geta (pc := 41) X fl_0_24 kl0 fk_0_2 (by decide +kernel) ?_
        refine v_geta (pc := 44) X fl_0_101 (ly_0_2 ok kl0) fk_10_0 (by decide +kernel) ?_
        obtain ⟨r3, er3, hf⟩ := bnd_e hf
        refine v_callV (pc := 47) (As := [.ref (ρ (lay tb (lay tb l0 2) 0))]) (rest := []) X (mt_Pl_become ok hi (ly_0_3 ok kl0) (ly_10_0 ok (ly_0_2 ok kl0)) er3) ml_0_102 mv_Pl_become (ly_0_3 ok kl0) cls_7 rfl ⟨Nat.le_of_ble_eq_true rfl, Nat.le_of_ble_eq_true rfl⟩ rfl rfl (Nat.le_of_ble_eq_true rfl) (by decide +kernel) ?_
        change V E g tb ρ 3 50 [(2, .int r2.1), (0, .ref (ρ l0)), (1, .int l1)] [] r3
        refine v_aload_n (pc := 50) (k := 0) X (by decide +kernel) 1 rfl ?_
        refine v_geta (pc := 51) X fl_0_38 kl0 fk_0_4 (by decide +kernel) ?_
        refine v_aload_n (pc := 54) (k := 0) X (by decide +kernel) 1 rfl ?_
        refine v_geta (pc := 55) X fl_0_31 kl0 fk_0_3 (by decide +kernel) ?_
        obtain ⟨r4, er4, hf⟩ := bnd_e hf
        refine v_callV (pc := 58) (As := [.ref (ρ (lay tb l0 3))]) (rest := []) X (mt_Wo_begin ok hi (ly_0_4 ok kl0) (ly_0_3 ok kl0) er4) ml_0_90 mv_Wo_begin (ly_0_4 ok kl0) cls_11 rfl ⟨Nat.le_of_ble_eq_true rfl, Nat.le_of_ble_eq_true rfl⟩ rfl rfl (Nat.le_of_ble_eq_true rfl) (by decide +kernel) ?_
        change V E g tb ρ 3 61 [(2, .int r2.1), (0, .ref (ρ l0)), (1, .int l1)] [] r4
        refine v_aload_n (pc := 61) (k := 0) X (by decide +kernel) 1 rfl ?_
        refine v_iconst (pc := 62) (n := 0) X (by decide +kernel) ic_0 ?_
        obtain ⟨h5, eh5, hf⟩ := nmd_e hf
        refine v_putz (pc := 63) X fp_0_45 kl0 rfl rfl (by decide +kernel) eh5 ?_
        refine v_aload_n (pc := 66) (k := 0) X (by decide +kernel) 1 rfl ?_
        refine v_geta (pc := 67) X fl_0_52 kl0 fk_0_7 (by decide +kernel) ?_
        obtain ⟨r6, er6, hf⟩ := nmd_e hf
        refine v_callV (pc := 70) (As := []) (rest := []) X (mt_De_forget ok hi (ly_0_7 ok kl0) er6.symm) ml_0_105 mv_De_forget (ly_0_7 ok kl0) cls_2 rfl ⟨Nat.le_of_ble_eq_true rfl, Nat.le_of_ble_eq_true rfl⟩ rfl rfl (Nat.le_of_ble_eq_true rfl) (by decide +kernel) ?_
        change V E g tb ρ 3 73 [(2, .int r2.1), (0, .ref (ρ l0)), (1, .int l1)] [] r6
        refine v_aload_n (pc := 73) (k := 0) X (by decide +kernel) 1 rfl ?_
        refine v_geta (pc := 74) X fl_0_59 kl0 fk_0_8 (by decide +kernel) ?_
        obtain ⟨r7, er7, hf⟩ := nmd_e hf
        refine v_callV (pc := 77) (As := []) (rest := []) X (mt_Se_forget ok hi (ly_0_8 ok kl0) er7.symm) ml_0_108 mv_Se_forget (ly_0_8 ok kl0) cls_9 rfl ⟨Nat.le_of_ble_eq_true rfl, Nat.le_of_ble_eq_true rfl⟩ rfl rfl (Nat.le_of_ble_eq_true rfl) (by decide +kernel) ?_
        change V E g tb ρ 3 80 [(2, .int r2.1), (0, .ref (ρ l0)), (1, .int l1)] [] r7
        refine v_iload_n (pc := 80) (k := 2) X (by decide +kernel) 0 rfl ?_
        cases hf
        exact v_iret X Y (by decide +kernel) rfl rfl
      · rw [if_pos q8] at hf
        refine v_iconst (pc := 34) (n := -1) X (by decide +kernel) ic_m1 ?_
        cases hf
        exact v_iret X Y (by decide +kernel) rfl rfl
    · rw [if_neg q9] at hf
      refine v_bipush (pc := 12) (n := -2) X (by decide +kernel) bi_m2 ?_
      cases hf
      exact v_iret X Y (by decide +kernel) rfl rfl
def f_Tt_fault (tb : Tb) (h : Hp) (l0 : Nat) (l1 : Int32) : Int32 :=
  if l1 = (0 : Int32) then (
    h.1 (lay tb l0 2) 1
  ) else (
    if l1 = (1 : Int32) then (
      h.1 (lay tb l0 2) 2
    ) else (
      (-1 : Int32)
    )
  )
set_option maxRecDepth 4000 in
set_option maxHeartbeats 1000000 in
theorem mt_Tt_fault {g : Gl} {tb : Tb} {ρ : Nat → Nat} (ok : TbOK tb) (hi : inj tb ρ) {h : Hp} {l0 : Nat} {l1 : Int32} (kl0 : kd tb l0 = 0) {r : Int32} (hf : f_Tt_fault tb h l0 l1 = r) : MT g y_Tt_fault prog_1_method_5_code 2 (some .int) 0 0 tb ρ [.ref (ρ l0), .int l1] h (some (.int r)) h := by
  refine mt_intro (by decide +kernel) ok hi (Nat.le_of_ble_eq_true rfl) (fun E X Y => ?_)
  change V E g tb ρ 2 0 [(0, .ref (ρ l0)), (1, .int l1)] [] h
  unfold f_Tt_fault at hf
  refine v_iload_n (pc := 0) (k := 1) X (by decide +kernel) 1 rfl ?_
  refine v_if_ne (pc := 1) (off := 11) (tgt := 12) X (by decide +kernel) (by decide) (fun q2 => ?_) (fun q2 => ?_)
  · rw [if_neg q2] at hf
    refine v_iload_n (pc := 12) (k := 1) X (by decide +kernel) 1 rfl ?_
    refine v_iconst (pc := 13) (n := 1) X (by decide +kernel) ic_1 ?_
    refine v_icmp_ne (pc := 14) (off := 13) (tgt := 27) X (by decide +kernel) (by decide) (fun q1 => ?_) (fun q1 => ?_)
    · rw [if_neg q1] at hf
      refine v_iconst (pc := 27) (n := -1) X (by decide +kernel) ic_m1 ?_
      cases hf
      exact v_iret X Y (by decide +kernel) rfl rfl
    · rw [if_pos q1] at hf
      refine v_aload_n (pc := 17) (k := 0) X (by decide +kernel) 0 rfl ?_
      refine v_geta (pc := 18) X fl_0_24 kl0 fk_0_2 (by decide +kernel) ?_
      refine v_geti (pc := 21) X fl_0_112 (ly_0_2 ok kl0) rfl (by decide +kernel) ?_
      refine v_goto (pc := 24) (off := 4) (tgt := 28) X (by decide +kernel) (by decide) ?_
      cases hf
      exact v_iret X Y (by decide +kernel) rfl rfl
  · rw [if_pos q2] at hf
    refine v_aload_n (pc := 4) (k := 0) X (by decide +kernel) 0 rfl ?_
    refine v_geta (pc := 5) X fl_0_24 kl0 fk_0_2 (by decide +kernel) ?_
    refine v_geti (pc := 8) X fl_0_109 (ly_0_2 ok kl0) rfl (by decide +kernel) ?_
    cases hf
    exact v_iret X Y (by decide +kernel) rfl rfl
def f_Tt_named (tb : Tb) (h : Hp) (l0 : Nat) (l1 : Int32) (l2 : Int32) : Option (Int32) :=
  if l1 = (0 : Int32) then (
    (f_Tt_find tb h (lay tb (lay tb l0 3) 6) (h.1 (lay tb l0 3) 3) l2).bind fun r3 =>
    some r3
  ) else (
    if l1 = (1 : Int32) then (
      (f_Tt_find tb h (lay tb (lay tb l0 3) 11) (h.1 (lay tb l0 3) 4) l2).bind fun r1 =>
      some r1
    ) else (
      some (-1 : Int32)
    )
  )
set_option maxRecDepth 4000 in
set_option maxHeartbeats 1000000 in
theorem mt_Tt_named {g : Gl} {tb : Tb} {ρ : Nat → Nat} (ok : TbOK tb) (hi : inj tb ρ) {h : Hp} {l0 : Nat} {l1 : Int32} {l2 : Int32} (kl0 : kd tb l0 = 0) {r : Int32} (hf : f_Tt_named tb h l0 l1 l2 = some r) : MT g y_Tt_named prog_1_method_6_code 3 (some .int) 1 23 tb ρ [.ref (ρ l0), .int l1, .int l2] h (some (.int r)) h := by
  refine mt_intro (by decide +kernel) ok hi (Nat.le_of_ble_eq_true rfl) (fun E X Y => ?_)
  change V E g tb ρ 3 0 [(0, .ref (ρ l0)), (1, .int l1), (2, .int l2)] [] h
  unfold f_Tt_named at hf
  refine v_iload_n (pc := 0) (k := 1) X (by decide +kernel) 1 rfl ?_
  refine v_if_ne (pc := 1) (off := 22) (tgt := 23) X (by decide +kernel) (by decide) (fun q4 => ?_) (fun q4 => ?_)
  · rw [if_neg q4] at hf
    refine v_iload_n (pc := 23) (k := 1) X (by decide +kernel) 1 rfl ?_
    refine v_iconst (pc := 24) (n := 1) X (by decide +kernel) ic_1 ?_
    refine v_icmp_ne (pc := 25) (off := 24) (tgt := 49) X (by decide +kernel) (by decide) (fun q2 => ?_) (fun q2 => ?_)
    · rw [if_neg q2] at hf
      refine v_iconst (pc := 49) (n := -1) X (by decide +kernel) ic_m1 ?_
      cases hf
      exact v_iret X Y (by decide +kernel) rfl rfl
    · rw [if_pos q2] at hf
      refine v_aload_n (pc := 28) (k := 0) X (by decide +kernel) 0 rfl ?_
      refine v_geta (pc := 29) X fl_0_31 kl0 fk_0_3 (by decide +kernel) ?_
      refine v_geta (pc := 32) X fl_0_126 (ly_0_3 ok kl0) fk_7_11 (by decide +kernel) ?_
      refine v_aload_n (pc := 35) (k := 0) X (by decide +kernel) 0 rfl ?_
      refine v_geta (pc := 36) X fl_0_31 kl0 fk_0_3 (by decide +kernel) ?_
      refine v_geti (pc := 39) X fl_0_129 (ly_0_3 ok kl0) rfl (by decide +kernel) ?_
      refine v_iload_n (pc := 42) (k := 2) X (by decide +kernel) 2 rfl ?_
      obtain ⟨r1, er1, hf⟩ := bnd_e hf
      refine v_callS (pc := 43) (As := [.ref (ρ (lay tb (lay tb l0 3) 11)), .int (h.1 (lay tb l0 3) 4), .int l2]) (rest := []) X (mt_Tt_find ok hi (ly_7_11 ok (ly_0_3 ok kl0)) er1) ml_0_122 ms_Tt_find ⟨Nat.le_of_ble_eq_true rfl, Nat.le_of_ble_eq_true rfl⟩ rfl rfl (Nat.le_of_ble_eq_true rfl) (by decide +kernel) ?_
      change V E g tb ρ 3 46 [(0, .ref (ρ l0)), (1, .int l1), (2, .int l2)] [.int r1] h
      refine v_goto (pc := 46) (off := 4) (tgt := 50) X (by decide +kernel) (by decide) ?_
      cases hf
      exact v_iret X Y (by decide +kernel) rfl rfl
  · rw [if_pos q4] at hf
    refine v_aload_n (pc := 4) (k := 0) X (by decide +kernel) 0 rfl ?_
    refine v_geta (pc := 5) X fl_0_31 kl0 fk_0_3 (by decide +kernel) ?_
    refine v_geta (pc := 8) X fl_0_115 (ly_0_3 ok kl0) fk_7_6 (by decide +kernel) ?_
    refine v_aload_n (pc := 11) (k := 0) X (by decide +kernel) 0 rfl ?_
    refine v_geta (pc := 12) X fl_0_31 kl0 fk_0_3 (by decide +kernel) ?_
    refine v_geti (pc := 15) X fl_0_119 (ly_0_3 ok kl0) rfl (by decide +kernel) ?_
    refine v_iload_n (pc := 18) (k := 2) X (by decide +kernel) 2 rfl ?_
    obtain ⟨r3, er3, hf⟩ := bnd_e hf
    refine v_callS (pc := 19) (As := [.ref (ρ (lay tb (lay tb l0 3) 6)), .int (h.1 (lay tb l0 3) 3), .int l2]) (rest := []) X (mt_Tt_find ok hi (ly_7_6 ok (ly_0_3 ok kl0)) er3) ml_0_122 ms_Tt_find ⟨Nat.le_of_ble_eq_true rfl, Nat.le_of_ble_eq_true rfl⟩ rfl rfl (Nat.le_of_ble_eq_true rfl) (by decide +kernel) ?_
    change V E g tb ρ 3 22 [(0, .ref (ρ l0)), (1, .int l1), (2, .int l2)] [.int r3] h
    cases hf
    exact v_iret X Y (by decide +kernel) rfl rfl
def f_Pl_hasTrough (tb : Tb) (h : Hp) (l0 : Nat) (l1 : Int32) : Int32 :=
  if l1 < (0 : Int32) then (
    (0 : Int32)
  ) else (
    if (h.1 l0 3) ≤ l1 then (
      (0 : Int32)
    ) else (
      (1 : Int32)
    )
  )
set_option maxRecDepth 4000 in
set_option maxHeartbeats 1000000 in
theorem mt_Pl_hasTrough {g : Gl} {tb : Tb} {ρ : Nat → Nat} (ok : TbOK tb) (hi : inj tb ρ) {h : Hp} {l0 : Nat} {l1 : Int32} (kl0 : kd tb l0 = 7) {r : Int32} (hf : f_Pl_hasTrough tb h l0 l1 = r) : MT g y_Pl_hasTrough prog_8_method_5_code 2 (some .boolean) 0 0 tb ρ [.ref (ρ l0), .int l1] h (some (.int r)) h := by
  refine mt_intro (by decide +kernel) ok hi (Nat.le_of_ble_eq_true rfl) (fun E X Y => ?_)
  change V E g tb ρ 2 0 [(0, .ref (ρ l0)), (1, .int l1)] [] h
  unfold f_Pl_hasTrough at hf
  refine v_iload_n (pc := 0) (k := 1) X (by decide +kernel) 1 rfl ?_
  refine v_if_lt (pc := 1) (off := 15) (tgt := 16) X (by decide +kernel) (by decide) (fun q2 => ?_) (fun q2 => ?_)
  · rw [if_pos q2] at hf
    refine v_iconst (pc := 16) (n := 0) X (by decide +kernel) ic_0 ?_
    cases hf
    exact v_zret (hz := rfl) X Y (by decide +kernel) rfl rfl
  · rw [if_neg q2] at hf
    refine v_iload_n (pc := 4) (k := 1) X (by decide +kernel) 1 rfl ?_
    refine v_aload_n (pc := 5) (k := 0) X (by decide +kernel) 0 rfl ?_
    refine v_geti (pc := 6) X fl_7_71 kl0 rfl (by decide +kernel) ?_
    refine v_icmp_ge (pc := 9) (off := 7) (tgt := 16) X (by decide +kernel) (by decide) (fun q1 => ?_) (fun q1 => ?_)
    · rw [if_pos q1] at hf
      refine v_iconst (pc := 16) (n := 0) X (by decide +kernel) ic_0 ?_
      cases hf
      exact v_zret (hz := rfl) X Y (by decide +kernel) rfl rfl
    · rw [if_neg q1] at hf
      refine v_iconst (pc := 12) (n := 1) X (by decide +kernel) ic_1 ?_
      refine v_goto (pc := 13) (off := 4) (tgt := 17) X (by decide +kernel) (by decide) ?_
      cases hf
      exact v_zret (hz := rfl) X Y (by decide +kernel) rfl rfl
def f_Wo_isOn (tb : Tb) (h : Hp) (l0 : Nat) (l1 : Int32) : Int32 :=
  if ((h.1 l0 2) &&& ((1 : Int32) <<< (l1 &&& 31))) = (0 : Int32) then (
    (0 : Int32)
  ) else (
    (1 : Int32)
  )
set_option maxRecDepth 4000 in
set_option maxHeartbeats 1000000 in
theorem mt_Wo_isOn {g : Gl} {tb : Tb} {ρ : Nat → Nat} (ok : TbOK tb) (hi : inj tb ρ) {h : Hp} {l0 : Nat} {l1 : Int32} (kl0 : kd tb l0 = 11) {r : Int32} (hf : f_Wo_isOn tb h l0 l1 = r) : MT g y_Wo_isOn prog_12_method_4_code 2 (some .boolean) 0 0 tb ρ [.ref (ρ l0), .int l1] h (some (.int r)) h := by
  refine mt_intro (by decide +kernel) ok hi (Nat.le_of_ble_eq_true rfl) (fun E X Y => ?_)
  change V E g tb ρ 2 0 [(0, .ref (ρ l0)), (1, .int l1)] [] h
  unfold f_Wo_isOn at hf
  refine v_aload_n (pc := 0) (k := 0) X (by decide +kernel) 0 rfl ?_
  refine v_geti (pc := 1) X fl_11_46 kl0 rfl (by decide +kernel) ?_
  refine v_iconst (pc := 4) (n := 1) X (by decide +kernel) ic_1 ?_
  refine v_iload_n (pc := 5) (k := 1) X (by decide +kernel) 1 rfl ?_
  refine v_ishl (pc := 6) X (by decide +kernel) ?_
  refine v_iand (pc := 7) X (by decide +kernel) ?_
  refine v_if_eq (pc := 8) (off := 7) (tgt := 15) X (by decide +kernel) (by decide) (fun q1 => ?_) (fun q1 => ?_)
  · rw [if_pos q1] at hf
    refine v_iconst (pc := 15) (n := 0) X (by decide +kernel) ic_0 ?_
    cases hf
    exact v_zret (hz := rfl) X Y (by decide +kernel) rfl rfl
  · rw [if_neg q1] at hf
    refine v_iconst (pc := 11) (n := 1) X (by decide +kernel) ic_1 ?_
    refine v_goto (pc := 12) (off := 4) (tgt := 16) X (by decide +kernel) (by decide) ?_
    cases hf
    exact v_zret (hz := rfl) X Y (by decide +kernel) rfl rfl
def jb_Tt_horsesAt_45 (tb : Tb) (c4 : Hp → Nat → Int32 → Int32 → Int32 → Option (Int32)) (h : Hp) (l0 : Nat) (l1 : Int32) (l2 : Int32) (l3 : Int32) : Option (Int32) :=
  nmd (l3 + (1 : Int32)) fun x1 =>
  c4 h l0 l1 l2 x1
def lp_Tt_horsesAt_4 (tb : Tb) : Nat → Hp → Nat → Int32 → Int32 → Int32 → Option (Int32)
  | 0, _, _, _, _, _ => none
  | n + 1, h, l0, l1, l2, l3 =>
    if (h.1 (lay tb l0 3) 4) ≤ l3 then (
      some l2
    ) else (
      nmd (f_Wo_isOn tb h (lay tb l0 4) l3) fun r1 =>
      if r1 = (0 : Int32) then (
        jb_Tt_horsesAt_45 tb (lp_Tt_horsesAt_4 tb n) h l0 l1 l2 l3
      ) else (
        (rI tb h (lay tb (lay tb l0 4) 9) l3).bind fun x2 =>
        if x2 = l1 then (
          nmd (l2 ||| ((1 : Int32) <<< (l3 &&& 31))) fun x3 =>
          jb_Tt_horsesAt_45 tb (lp_Tt_horsesAt_4 tb n) h l0 l1 x3 l3
        ) else (
          jb_Tt_horsesAt_45 tb (lp_Tt_horsesAt_4 tb n) h l0 l1 l2 l3
        )
      )
    )
def f_Tt_horsesAt (tb : Tb) (h : Hp) (l0 : Nat) (l1 : Int32) : Option (Int32) :=
  lp_Tt_horsesAt_4 tb fu h l0 l1 (0 : Int32) (0 : Int32)
set_option maxRecDepth 4000 in
set_option maxHeartbeats 1000000 in
theorem vjb_Tt_horsesAt_45 {E : En} {g : Gl} {tb : Tb} {ρ : Nat → Nat} (ok : TbOK tb) (hi : inj tb ρ) {r : Int32} (X : CX E g tb ρ prog_1_method_10_code 4 RC0 1 21) {h : Hp} (Y : CQ E g tb ρ (some .int) (some (.int r)) h) {c4 : Hp → Nat → Int32 → Int32 → Int32 → Option (Int32)} (H4 : ∀ (l0 : Nat) (l1 : Int32) (l2 : Int32) (l3 : Int32) (kl0 : kd tb l0 = 0), c4 h l0 l1 l2 l3 = some r → V E g tb ρ 4 4 [(0, .ref (ρ l0)), (1, .int l1), (2, .int l2), (3, .int l3)] [] h) (l0 : Nat) (l1 : Int32) (l2 : Int32) (l3 : Int32) (kl0 : kd tb l0 = 0) (hf : jb_Tt_horsesAt_45 tb c4 h l0 l1 l2 l3 = some r) : V E g tb ρ 4 45 [(0, .ref (ρ l0)), (1, .int l1), (2, .int l2), (3, .int l3)] [] h := by
  unfold jb_Tt_horsesAt_45 at hf
  obtain ⟨x1, ex1, hf⟩ := nmd_e hf
  refine v_iinc (pc := 45) (k := 3) (n := 1) (v := x1) (lv' := [(3, .int x1), (0, .ref (ρ l0)), (1, .int l1), (2, .int l2)]) X (by decide +kernel) 3 rfl (by rw [ic_1, ex1]) (Nat.le_of_ble_eq_true rfl) rfl ?_
  refine v_goto (pc := 48) (off := -44) (tgt := 4) X (by decide +kernel) (by decide) ?_
  refine v_sub [1, 2, 3, 0] rfl ?_
  exact H4 l0 l1 l2 x1 kl0 hf
set_option maxRecDepth 4000 in
set_option maxHeartbeats 1000000 in
theorem vlp_Tt_horsesAt_4 {E : En} {g : Gl} {tb : Tb} {ρ : Nat → Nat} (ok : TbOK tb) (hi : inj tb ρ) {r : Int32} (X : CX E g tb ρ prog_1_method_10_code 4 RC0 1 21) {h : Hp} (Y : CQ E g tb ρ (some .int) (some (.int r)) h) : ∀ (n : Nat) (l0 : Nat) (l1 : Int32) (l2 : Int32) (l3 : Int32) (kl0 : kd tb l0 = 0), lp_Tt_horsesAt_4 tb n h l0 l1 l2 l3 = some r → V E g tb ρ 4 4 [(0, .ref (ρ l0)), (1, .int l1), (2, .int l2), (3, .int l3)] [] h := by
  intro n
  induction n with
  | zero =>
    intro l0 l1 l2 l3 kl0 hf
    rw [lp_Tt_horsesAt_4] at hf
    cases hf
  | succ n ih =>
    intro l0 l1 l2 l3 kl0 hf
    rw [lp_Tt_horsesAt_4] at hf
    refine v_iload_n (pc := 4) (k := 3) X (by decide +kernel) 3 rfl ?_
    refine v_aload_n (pc := 5) (k := 0) X (by decide +kernel) 0 rfl ?_
    refine v_geta (pc := 6) X fl_0_31 kl0 fk_0_3 (by decide +kernel) ?_
    refine v_geti (pc := 9) X fl_0_129 (ly_0_3 ok kl0) rfl (by decide +kernel) ?_
    refine v_icmp_ge (pc := 12) (off := 39) (tgt := 51) X (by decide +kernel) (by decide) (fun q6 => ?_) (fun q6 => ?_)
    · rw [if_pos q6] at hf
      refine v_iload_n (pc := 51) (k := 2) X (by decide +kernel) 2 rfl ?_
      cases hf
      exact v_iret X Y (by decide +kernel) rfl rfl
    · rw [if_neg q6] at hf
      refine v_aload_n (pc := 15) (k := 0) X (by decide +kernel) 0 rfl ?_
      refine v_geta (pc := 16) X fl_0_38 kl0 fk_0_4 (by decide +kernel) ?_
      refine v_iload_n (pc := 19) (k := 3) X (by decide +kernel) 3 rfl ?_
      obtain ⟨r1, er1, hf⟩ := nmd_e hf
      refine v_callV (pc := 20) (As := [.int l3]) (rest := []) X (mt_Wo_isOn ok hi (ly_0_4 ok kl0) er1.symm) ml_0_156 mv_Wo_isOn (ly_0_4 ok kl0) cls_11 rfl ⟨Nat.le_of_ble_eq_true rfl, Nat.le_of_ble_eq_true rfl⟩ rfl rfl (Nat.le_of_ble_eq_true rfl) (by decide +kernel) ?_
      change V E g tb ρ 4 23 [(0, .ref (ρ l0)), (1, .int l1), (2, .int l2), (3, .int l3)] [.int r1] h
      refine v_if_eq (pc := 23) (off := 22) (tgt := 45) X (by decide +kernel) (by decide) (fun q5 => ?_) (fun q5 => ?_)
      · rw [if_pos q5] at hf
        exact vjb_Tt_horsesAt_45 ok hi X Y ih l0 l1 l2 l3 kl0 hf
      · rw [if_neg q5] at hf
        refine v_aload_n (pc := 26) (k := 0) X (by decide +kernel) 0 rfl ?_
        refine v_geta (pc := 27) X fl_0_38 kl0 fk_0_4 (by decide +kernel) ?_
        refine v_geta (pc := 30) X fl_0_142 (ly_0_4 ok kl0) fk_11_9 (by decide +kernel) ?_
        refine v_iload_n (pc := 33) (k := 3) X (by decide +kernel) 3 rfl ?_
        obtain ⟨x2, ex2, hf⟩ := bnd_e hf
        refine v_iald (pc := 34) X (ly_11_9 ok (ly_0_4 ok kl0)) ex2 (by decide +kernel) ?_
        refine v_iload_n (pc := 35) (k := 1) X (by decide +kernel) 1 rfl ?_
        refine v_icmp_ne (pc := 36) (off := 9) (tgt := 45) X (by decide +kernel) (by decide) (fun q4 => ?_) (fun q4 => ?_)
        · rw [if_neg q4] at hf
          exact vjb_Tt_horsesAt_45 ok hi X Y ih l0 l1 l2 l3 kl0 hf
        · rw [if_pos q4] at hf
          refine v_iload_n (pc := 39) (k := 2) X (by decide +kernel) 2 rfl ?_
          refine v_iconst (pc := 40) (n := 1) X (by decide +kernel) ic_1 ?_
          refine v_iload_n (pc := 41) (k := 3) X (by decide +kernel) 3 rfl ?_
          refine v_ishl (pc := 42) X (by decide +kernel) ?_
          refine v_ior (pc := 43) X (by decide +kernel) ?_
          obtain ⟨x3, ex3, hf⟩ := nmd_e hf
          refine v_nmi ex3 ?_
          refine v_istore_n (pc := 44) (k := 2) (lv' := [(2, .int x3), (0, .ref (ρ l0)), (1, .int l1), (3, .int l3)]) X (by decide +kernel) (Nat.le_of_ble_eq_true rfl) rfl ?_
          refine v_sub [1, 2, 0, 3] rfl ?_
          exact vjb_Tt_horsesAt_45 ok hi X Y ih l0 l1 x3 l3 kl0 hf
set_option maxRecDepth 4000 in
set_option maxHeartbeats 1000000 in
theorem mt_Tt_horsesAt {g : Gl} {tb : Tb} {ρ : Nat → Nat} (ok : TbOK tb) (hi : inj tb ρ) {h : Hp} {l0 : Nat} {l1 : Int32} (kl0 : kd tb l0 = 0) {r : Int32} (hf : f_Tt_horsesAt tb h l0 l1 = some r) : MT g y_Tt_horsesAt prog_1_method_10_code 4 (some .int) 1 21 tb ρ [.ref (ρ l0), .int l1] h (some (.int r)) h := by
  refine mt_intro (by decide +kernel) ok hi (Nat.le_of_ble_eq_true rfl) (fun E X Y => ?_)
  change V E g tb ρ 4 0 [(0, .ref (ρ l0)), (1, .int l1)] [] h
  unfold f_Tt_horsesAt at hf
  refine v_iconst (pc := 0) (n := 0) X (by decide +kernel) ic_0 ?_
  refine v_istore_n (pc := 1) (k := 2) (lv' := [(2, .int (0 : Int32)), (0, .ref (ρ l0)), (1, .int l1)]) X (by decide +kernel) (Nat.le_of_ble_eq_true rfl) rfl ?_
  refine v_iconst (pc := 2) (n := 0) X (by decide +kernel) ic_0 ?_
  refine v_istore_n (pc := 3) (k := 3) (lv' := [(3, .int (0 : Int32)), (2, .int (0 : Int32)), (0, .ref (ρ l0)), (1, .int l1)]) X (by decide +kernel) (Nat.le_of_ble_eq_true rfl) rfl ?_
  refine v_sub [2, 3, 1, 0] rfl ?_
  exact vlp_Tt_horsesAt_4 ok hi X Y fu l0 l1 (0 : Int32) (0 : Int32) kl0 hf
def f_Tt_trough (tb : Tb) (h : Hp) (l0 : Nat) (l1 : Int32) (l2 : Int32) : Option (Int32) :=
  nmd (f_Pl_hasTrough tb h (lay tb l0 3) l1) fun r1 =>
  if r1 = (0 : Int32) then (
    some (-1 : Int32)
  ) else (
    if l2 = (0 : Int32) then (
      (rI tb h (lay tb (lay tb l0 3) 7) l1).bind fun x3 =>
      some x3
    ) else (
      if l2 = (1 : Int32) then (
        (rI tb h (lay tb (lay tb l0 4) 14) l1).bind fun x5 =>
        some x5
      ) else (
        if l2 = (2 : Int32) then (
          (rI tb h (lay tb (lay tb l0 3) 9) l1).bind fun x7 =>
          some x7
        ) else (
          if l2 = (3 : Int32) then (
            (rI tb h (lay tb (lay tb l0 3) 7) l1).bind fun x9 =>
            (f_Tt_horsesAt tb h l0 x9).bind fun r10 =>
            some r10
          ) else (
            some (-1 : Int32)
          )
        )
      )
    )
  )
set_option maxRecDepth 4000 in
set_option maxHeartbeats 1000000 in
theorem mt_Tt_trough {g : Gl} {tb : Tb} {ρ : Nat → Nat} (ok : TbOK tb) (hi : inj tb ρ) {h : Hp} {l0 : Nat} {l1 : Int32} {l2 : Int32} (kl0 : kd tb l0 = 0) {r : Int32} (hf : f_Tt_trough tb h l0 l1 l2 = some r) : MT g y_Tt_trough prog_1_method_9_code 3 (some .int) 2 44 tb ρ [.ref (ρ l0), .int l1, .int l2] h (some (.int r)) h := by
  refine mt_intro (by decide +kernel) ok hi (Nat.le_of_ble_eq_true rfl) (fun E X Y => ?_)
  change V E g tb ρ 3 0 [(0, .ref (ρ l0)), (1, .int l1), (2, .int l2)] [] h
  unfold f_Tt_trough at hf
  refine v_aload_n (pc := 0) (k := 0) X (by decide +kernel) 0 rfl ?_
  refine v_geta (pc := 1) X fl_0_31 kl0 fk_0_3 (by decide +kernel) ?_
  refine v_iload_n (pc := 4) (k := 1) X (by decide +kernel) 1 rfl ?_
  obtain ⟨r1, er1, hf⟩ := nmd_e hf
  refine v_callV (pc := 5) (As := [.int l1]) (rest := []) X (mt_Pl_hasTrough ok hi (ly_0_3 ok kl0) er1.symm) ml_0_165 mv_Pl_hasTrough (ly_0_3 ok kl0) cls_7 rfl ⟨Nat.le_of_ble_eq_true rfl, Nat.le_of_ble_eq_true rfl⟩ rfl rfl (Nat.le_of_ble_eq_true rfl) (by decide +kernel) ?_
  change V E g tb ρ 3 8 [(0, .ref (ρ l0)), (1, .int l1), (2, .int l2)] [.int r1] h
  refine v_if_ne (pc := 8) (off := 5) (tgt := 13) X (by decide +kernel) (by decide) (fun q11 => ?_) (fun q11 => ?_)
  · rw [if_neg q11] at hf
    refine v_iload_n (pc := 13) (k := 2) X (by decide +kernel) 2 rfl ?_
    by_cases q2 : l2 = (0 : Int32)
    · rw [if_pos q2] at hf
      refine v_tin (pc := 14) (off := 30) (tgt := 44) X (show decode prog_1_method_9_code 14 = .ok (.tableswitch 74 0 3 #[30, 40, 50, 60], 30) from by decide +kernel) q2 (by decide) (by decide) (by decide) (by decide) ?_
      refine v_aload_n (pc := 44) (k := 0) X (by decide +kernel) 0 rfl ?_
      refine v_geta (pc := 45) X fl_0_31 kl0 fk_0_3 (by decide +kernel) ?_
      refine v_geta (pc := 48) X fl_0_168 (ly_0_3 ok kl0) fk_7_7 (by decide +kernel) ?_
      refine v_iload_n (pc := 51) (k := 1) X (by decide +kernel) 1 rfl ?_
      obtain ⟨x3, ex3, hf⟩ := bnd_e hf
      refine v_iald (pc := 52) X (ly_7_7 ok (ly_0_3 ok kl0)) ex3 (by decide +kernel) ?_
      cases hf
      exact v_iret X Y (by decide +kernel) rfl rfl
    · rw [if_neg q2] at hf
      by_cases q4 : l2 = (1 : Int32)
      · rw [if_pos q4] at hf
        refine v_tin (pc := 14) (off := 40) (tgt := 54) X (show decode prog_1_method_9_code 14 = .ok (.tableswitch 74 0 3 #[30, 40, 50, 60], 30) from by decide +kernel) q4 (by decide) (by decide) (by decide) (by decide) ?_
        refine v_aload_n (pc := 54) (k := 0) X (by decide +kernel) 0 rfl ?_
        refine v_geta (pc := 55) X fl_0_38 kl0 fk_0_4 (by decide +kernel) ?_
        refine v_geta (pc := 58) X fl_0_171 (ly_0_4 ok kl0) fk_11_14 (by decide +kernel) ?_
        refine v_iload_n (pc := 61) (k := 1) X (by decide +kernel) 1 rfl ?_
        obtain ⟨x5, ex5, hf⟩ := bnd_e hf
        refine v_iald (pc := 62) X (ly_11_14 ok (ly_0_4 ok kl0)) ex5 (by decide +kernel) ?_
        cases hf
        exact v_iret X Y (by decide +kernel) rfl rfl
      · rw [if_neg q4] at hf
        by_cases q6 : l2 = (2 : Int32)
        · rw [if_pos q6] at hf
          refine v_tin (pc := 14) (off := 50) (tgt := 64) X (show decode prog_1_method_9_code 14 = .ok (.tableswitch 74 0 3 #[30, 40, 50, 60], 30) from by decide +kernel) q6 (by decide) (by decide) (by decide) (by decide) ?_
          refine v_aload_n (pc := 64) (k := 0) X (by decide +kernel) 0 rfl ?_
          refine v_geta (pc := 65) X fl_0_31 kl0 fk_0_3 (by decide +kernel) ?_
          refine v_geta (pc := 68) X fl_0_174 (ly_0_3 ok kl0) fk_7_9 (by decide +kernel) ?_
          refine v_iload_n (pc := 71) (k := 1) X (by decide +kernel) 1 rfl ?_
          obtain ⟨x7, ex7, hf⟩ := bnd_e hf
          refine v_iald (pc := 72) X (ly_7_9 ok (ly_0_3 ok kl0)) ex7 (by decide +kernel) ?_
          cases hf
          exact v_iret X Y (by decide +kernel) rfl rfl
        · rw [if_neg q6] at hf
          by_cases q8 : l2 = (3 : Int32)
          · rw [if_pos q8] at hf
            refine v_tin (pc := 14) (off := 60) (tgt := 74) X (show decode prog_1_method_9_code 14 = .ok (.tableswitch 74 0 3 #[30, 40, 50, 60], 30) from by decide +kernel) q8 (by decide) (by decide) (by decide) (by decide) ?_
            refine v_aload_n (pc := 74) (k := 0) X (by decide +kernel) 0 rfl ?_
            refine v_aload_n (pc := 75) (k := 0) X (by decide +kernel) 0 rfl ?_
            refine v_geta (pc := 76) X fl_0_31 kl0 fk_0_3 (by decide +kernel) ?_
            refine v_geta (pc := 79) X fl_0_168 (ly_0_3 ok kl0) fk_7_7 (by decide +kernel) ?_
            refine v_iload_n (pc := 82) (k := 1) X (by decide +kernel) 1 rfl ?_
            obtain ⟨x9, ex9, hf⟩ := bnd_e hf
            refine v_iald (pc := 83) X (ly_7_7 ok (ly_0_3 ok kl0)) ex9 (by decide +kernel) ?_
            obtain ⟨r10, er10, hf⟩ := bnd_e hf
            refine v_callV (pc := 84) (As := [.int x9]) (rest := []) X (mt_Tt_horsesAt ok hi kl0 er10) ml_0_177 mv_Tt_horsesAt kl0 cls_0 rfl ⟨Nat.le_of_ble_eq_true rfl, Nat.le_of_ble_eq_true rfl⟩ rfl rfl (Nat.le_of_ble_eq_true rfl) (by decide +kernel) ?_
            change V E g tb ρ 3 87 [(0, .ref (ρ l0)), (1, .int l1), (2, .int l2)] [.int r10] h
            cases hf
            exact v_iret X Y (by decide +kernel) rfl rfl
          · rw [if_neg q8] at hf
            refine v_tout (pc := 14) (tgt := 88) X (show decode prog_1_method_9_code 14 = .ok (.tableswitch 74 0 3 #[30, 40, 50, 60], 30) from by decide +kernel) (t_out (lo := 0) (hi := 3) [(0 : Int32), (1 : Int32), (2 : Int32), (3 : Int32)] (by decide) (List.forall_mem_cons.mpr ⟨q2, List.forall_mem_cons.mpr ⟨q4, List.forall_mem_cons.mpr ⟨q6, List.forall_mem_cons.mpr ⟨q8, fun _ h => absurd h List.not_mem_nil⟩⟩⟩⟩)) (by decide) ?_
            refine v_iconst (pc := 88) (n := -1) X (by decide +kernel) ic_m1 ?_
            cases hf
            exact v_iret X Y (by decide +kernel) rfl rfl
  · rw [if_pos q11] at hf
    refine v_iconst (pc := 11) (n := -1) X (by decide +kernel) ic_m1 ?_
    cases hf
    exact v_iret X Y (by decide +kernel) rfl rfl
def f_Pl_hasHorse (tb : Tb) (h : Hp) (l0 : Nat) (l1 : Int32) : Int32 :=
  if l1 < (0 : Int32) then (
    (0 : Int32)
  ) else (
    if (h.1 l0 4) ≤ l1 then (
      (0 : Int32)
    ) else (
      (1 : Int32)
    )
  )
set_option maxRecDepth 4000 in
set_option maxHeartbeats 1000000 in
theorem mt_Pl_hasHorse {g : Gl} {tb : Tb} {ρ : Nat → Nat} (ok : TbOK tb) (hi : inj tb ρ) {h : Hp} {l0 : Nat} {l1 : Int32} (kl0 : kd tb l0 = 7) {r : Int32} (hf : f_Pl_hasHorse tb h l0 l1 = r) : MT g y_Pl_hasHorse prog_8_method_4_code 2 (some .boolean) 0 0 tb ρ [.ref (ρ l0), .int l1] h (some (.int r)) h := by
  refine mt_intro (by decide +kernel) ok hi (Nat.le_of_ble_eq_true rfl) (fun E X Y => ?_)
  change V E g tb ρ 2 0 [(0, .ref (ρ l0)), (1, .int l1)] [] h
  unfold f_Pl_hasHorse at hf
  refine v_iload_n (pc := 0) (k := 1) X (by decide +kernel) 1 rfl ?_
  refine v_if_lt (pc := 1) (off := 15) (tgt := 16) X (by decide +kernel) (by decide) (fun q2 => ?_) (fun q2 => ?_)
  · rw [if_pos q2] at hf
    refine v_iconst (pc := 16) (n := 0) X (by decide +kernel) ic_0 ?_
    cases hf
    exact v_zret (hz := rfl) X Y (by decide +kernel) rfl rfl
  · rw [if_neg q2] at hf
    refine v_iload_n (pc := 4) (k := 1) X (by decide +kernel) 1 rfl ?_
    refine v_aload_n (pc := 5) (k := 0) X (by decide +kernel) 0 rfl ?_
    refine v_geti (pc := 6) X fl_7_74 kl0 rfl (by decide +kernel) ?_
    refine v_icmp_ge (pc := 9) (off := 7) (tgt := 16) X (by decide +kernel) (by decide) (fun q1 => ?_) (fun q1 => ?_)
    · rw [if_pos q1] at hf
      refine v_iconst (pc := 16) (n := 0) X (by decide +kernel) ic_0 ?_
      cases hf
      exact v_zret (hz := rfl) X Y (by decide +kernel) rfl rfl
    · rw [if_neg q1] at hf
      refine v_iconst (pc := 12) (n := 1) X (by decide +kernel) ic_1 ?_
      refine v_goto (pc := 13) (off := 4) (tgt := 17) X (by decide +kernel) (by decide) ?_
      cases hf
      exact v_zret (hz := rfl) X Y (by decide +kernel) rfl rfl
def jb_Ho_asItGoes_19 (tb : Tb) (h : Hp) (l0 : Nat) (s0 : Nat) (s1 : Int32) : Hp :=
  nmd (pI h s0 2 s1) fun h1 =>
  nmd (pI h1 l0 3 (1 : Int32)) fun h2 =>
  nmd (pI h2 l0 4 (1 : Int32)) fun h3 =>
  h3
def f_Ho_asItGoes (tb : Tb) (h : Hp) (l0 : Nat) : Hp :=
  if (h.1 (lay tb l0 0) 1) < (50 : Int32) then (
    jb_Ho_asItGoes_19 tb h l0 l0 (0 : Int32)
  ) else (
    jb_Ho_asItGoes_19 tb h l0 l0 (100 : Int32)
  )
set_option maxRecDepth 4000 in
set_option maxHeartbeats 1000000 in
theorem vjb_Ho_asItGoes_19 {E : En} {g : Gl} {tb : Tb} {ρ : Nat → Nat} (ok : TbOK tb) (hi : inj tb ρ) {r : Hp} (X : CX E g tb ρ prog_5_method_3_code 1 RC4 0 0) (Y : CQ E g tb ρ none (none) r) (h : Hp) (l0 : Nat) (s0 : Nat) (s1 : Int32) (kl0 : kd tb l0 = 4) (ks0 : kd tb s0 = 4) (hf : jb_Ho_asItGoes_19 tb h l0 s0 s1 = r) : V E g tb ρ 1 19 [(0, .ref (ρ l0))] [.int s1, .ref (ρ s0)] h := by
  unfold jb_Ho_asItGoes_19 at hf
  obtain ⟨h1, eh1, hf⟩ := nmd_e hf
  refine v_puti (pc := 19) X fp_4_28 ks0 rfl (by decide +kernel) eh1 ?_
  refine v_aload_n (pc := 22) (k := 0) X (by decide +kernel) 0 rfl ?_
  refine v_iconst (pc := 23) (n := 1) X (by decide +kernel) ic_1 ?_
  obtain ⟨h2, eh2, hf⟩ := nmd_e hf
  refine v_putz (pc := 24) X fp_4_31 kl0 rfl rfl (by decide +kernel) eh2 ?_
  refine v_aload_n (pc := 27) (k := 0) X (by decide +kernel) 0 rfl ?_
  refine v_iconst (pc := 28) (n := 1) X (by decide +kernel) ic_1 ?_
  obtain ⟨h3, eh3, hf⟩ := nmd_e hf
  refine v_puti (pc := 29) X fp_4_35 kl0 rfl (by decide +kernel) eh3 ?_
  cases hf
  exact v_vret X Y (by decide +kernel) rfl rfl
set_option maxRecDepth 4000 in
set_option maxHeartbeats 1000000 in
theorem mt_Ho_asItGoes {g : Gl} {tb : Tb} {ρ : Nat → Nat} (ok : TbOK tb) (hi : inj tb ρ) {h : Hp} {l0 : Nat} (kl0 : kd tb l0 = 4) {r : Hp} (hf : f_Ho_asItGoes tb h l0 = r) : MT g y_Ho_asItGoes prog_5_method_3_code 1 none 0 0 tb ρ [.ref (ρ l0)] h (none) r := by
  refine mt_intro (by decide +kernel) ok hi (Nat.le_of_ble_eq_true rfl) (fun E X Y => ?_)
  change V E g tb ρ 1 0 [(0, .ref (ρ l0))] [] h
  unfold f_Ho_asItGoes at hf
  refine v_aload_n (pc := 0) (k := 0) X (by decide +kernel) 0 rfl ?_
  refine v_aload_n (pc := 1) (k := 0) X (by decide +kernel) 0 rfl ?_
  refine v_geta (pc := 2) X fl_4_15 kl0 fk_4_0 (by decide +kernel) ?_
  refine v_geti (pc := 5) X fl_4_22 (ly_4_0 ok kl0) rfl (by decide +kernel) ?_
  refine v_bipush (pc := 8) (n := 50) X (by decide +kernel) bi_50 ?_
  refine v_icmp_lt (pc := 10) (off := 8) (tgt := 18) X (by decide +kernel) (by decide) (fun q1 => ?_) (fun q1 => ?_)
  · rw [if_pos q1] at hf
    refine v_iconst (pc := 18) (n := 0) X (by decide +kernel) ic_0 ?_
    exact vjb_Ho_asItGoes_19 ok hi X Y h l0 l0 (0 : Int32) kl0 kl0 hf
  · rw [if_neg q1] at hf
    refine v_bipush (pc := 13) (n := 100) X (by decide +kernel) bi_100 ?_
    refine v_goto (pc := 15) (off := 4) (tgt := 19) X (by decide +kernel) (by decide) ?_
    exact vjb_Ho_asItGoes_19 ok hi X Y h l0 l0 (100 : Int32) kl0 kl0 hf
def jb_Ho_setNames_131 (tb : Tb) (h : Hp) (l0 : Nat) (l1 : Nat) (l2 : Int32) (s0 : Nat) (s1 : Int32) (s2 : Int32) : Option (Hp) :=
  (wI tb h s0 s1 s2).bind fun h1 =>
  (rI tb h1 (lay tb l1 11) l2).bind fun x2 =>
  (wI tb h1 (lay tb l0 1) (5 : Int32) x2).bind fun h3 =>
  (wI tb h3 (lay tb l0 1) (6 : Int32) (h3.1 l1 0)).bind fun h4 =>
  some h4
def jb_Ho_setNames_89 (tb : Tb) (h : Hp) (l0 : Nat) (l1 : Nat) (l2 : Int32) (l4 : Int32) (s0 : Nat) (s1 : Int32) (s2 : Int32) : Option (Hp) :=
  (wI tb h s0 s1 s2).bind fun h1 =>
  nmd (f_Pl_hasTrough tb h1 (lay tb l0 0) l4) fun r2 =>
  if r2 = (0 : Int32) then (
    jb_Ho_setNames_131 tb h1 l0 l1 l2 (lay tb l0 1) (4 : Int32) (0 : Int32)
  ) else (
    (rI tb h1 (lay tb (lay tb l0 0) 7) l4).bind fun x3 =>
    (rI tb h1 (lay tb l1 9) l2).bind fun x4 =>
    jb_Ho_setNames_131 tb h1 l0 l1 l2 (lay tb l0 1) (4 : Int32) (abI (x3 - x4))
  )
def f_Ho_setNames (tb : Tb) (h : Hp) (l0 : Nat) (l1 : Nat) (l2 : Int32) : Option (Hp) :=
  (rI tb h (lay tb l1 9) l2).bind fun x1 =>
  (f_Pl_troughThere tb h (lay tb l0 0) x1).bind fun r2 =>
  (rI tb h (lay tb l1 12) l2).bind fun x3 =>
  (rI tb h (lay tb l1 10) l2).bind fun x4 =>
  (wI tb h (lay tb l0 1) (0 : Int32) x4).bind fun h5 =>
  (rI tb h5 (lay tb (lay tb l0 0) 15) l2).bind fun x6 =>
  (wI tb h5 (lay tb l0 1) (1 : Int32) (x6 * (h5.1 l0 4))).bind fun h7 =>
  (rI tb h7 (lay tb (lay tb l0 0) 12) l2).bind fun x8 =>
  (wI tb h7 (lay tb l0 1) (2 : Int32) x8).bind fun h9 =>
  if r2 = (-1 : Int32) then (
    jb_Ho_setNames_89 tb h9 l0 l1 l2 x3 (lay tb l0 1) (3 : Int32) (0 : Int32)
  ) else (
    (rI tb h9 (lay tb l1 14) r2).bind fun x10 =>
    jb_Ho_setNames_89 tb h9 l0 l1 l2 x3 (lay tb l0 1) (3 : Int32) x10
  )
set_option maxRecDepth 4000 in
set_option maxHeartbeats 1000000 in
theorem vjb_Ho_setNames_131 {E : En} {g : Gl} {tb : Tb} {ρ : Nat → Nat} (ok : TbOK tb) (hi : inj tb ρ) {r : Hp} (X : CX E g tb ρ prog_5_method_16_code 5 RC4 1 21) (Y : CQ E g tb ρ none (none) r) (h : Hp) (l0 : Nat) (l1 : Nat) (l2 : Int32) (s0 : Nat) (s1 : Int32) (s2 : Int32) (kl0 : kd tb l0 = 4) (kl1 : kd tb l1 = 11) (ks0 : kd tb s0 = 20) (hf : jb_Ho_setNames_131 tb h l0 l1 l2 s0 s1 s2 = some r) : V E g tb ρ 5 131 [(0, .ref (ρ l0)), (1, .ref (ρ l1)), (2, .int l2)] [.int s2, .int s1, .ref (ρ s0)] h := by
  unfold jb_Ho_setNames_131 at hf
  obtain ⟨h1, eh1, hf⟩ := bnd_e hf
  refine v_iast (pc := 131) X ks0 eh1 (by decide +kernel) ?_
  refine v_aload_n (pc := 132) (k := 0) X (by decide +kernel) 0 rfl ?_
  refine v_geta (pc := 133) X fl_4_9 kl0 fk_4_1 (by decide +kernel) ?_
  refine v_iconst (pc := 136) (n := 5) X (by decide +kernel) ic_5 ?_
  refine v_aload_n (pc := 137) (k := 1) X (by decide +kernel) 1 rfl ?_
  refine v_geta (pc := 138) X fl_4_154 kl1 fk_11_11 (by decide +kernel) ?_
  refine v_iload_n (pc := 141) (k := 2) X (by decide +kernel) 2 rfl ?_
  obtain ⟨x2, ex2, hf⟩ := bnd_e hf
  refine v_iald (pc := 142) X (ly_11_11 ok kl1) ex2 (by decide +kernel) ?_
  obtain ⟨h3, eh3, hf⟩ := bnd_e hf
  refine v_iast (pc := 143) X (ly_4_1 ok kl0) eh3 (by decide +kernel) ?_
  refine v_aload_n (pc := 144) (k := 0) X (by decide +kernel) 0 rfl ?_
  refine v_geta (pc := 145) X fl_4_9 kl0 fk_4_1 (by decide +kernel) ?_
  refine v_bipush (pc := 148) (n := 6) X (by decide +kernel) bi_6 ?_
  refine v_aload_n (pc := 150) (k := 1) X (by decide +kernel) 1 rfl ?_
  refine v_geti (pc := 151) X fl_4_54 kl1 rfl (by decide +kernel) ?_
  obtain ⟨h4, eh4, hf⟩ := bnd_e hf
  refine v_iast (pc := 154) X (ly_4_1 ok kl0) eh4 (by decide +kernel) ?_
  cases hf
  exact v_vret X Y (by decide +kernel) rfl rfl
set_option maxRecDepth 4000 in
set_option maxHeartbeats 1000000 in
theorem vjb_Ho_setNames_89 {E : En} {g : Gl} {tb : Tb} {ρ : Nat → Nat} (ok : TbOK tb) (hi : inj tb ρ) {r : Hp} (X : CX E g tb ρ prog_5_method_16_code 5 RC4 1 21) (Y : CQ E g tb ρ none (none) r) (h : Hp) (l0 : Nat) (l1 : Nat) (l2 : Int32) (l4 : Int32) (s0 : Nat) (s1 : Int32) (s2 : Int32) (kl0 : kd tb l0 = 4) (kl1 : kd tb l1 = 11) (ks0 : kd tb s0 = 20) (hf : jb_Ho_setNames_89 tb h l0 l1 l2 l4 s0 s1 s2 = some r) : V E g tb ρ 5 89 [(0, .ref (ρ l0)), (1, .ref (ρ l1)), (2, .int l2), (4, .int l4)] [.int s2, .int s1, .ref (ρ s0)] h := by
  unfold jb_Ho_setNames_89 at hf
  obtain ⟨h1, eh1, hf⟩ := bnd_e hf
  refine v_iast (pc := 89) X ks0 eh1 (by decide +kernel) ?_
  refine v_aload_n (pc := 90) (k := 0) X (by decide +kernel) 0 rfl ?_
  refine v_geta (pc := 91) X fl_4_9 kl0 fk_4_1 (by decide +kernel) ?_
  refine v_iconst (pc := 94) (n := 4) X (by decide +kernel) ic_4 ?_
  refine v_aload_n (pc := 95) (k := 0) X (by decide +kernel) 0 rfl ?_
  refine v_geta (pc := 96) X fl_4_15 kl0 fk_4_0 (by decide +kernel) ?_
  refine v_iload (pc := 99) (k := 4) X (by decide +kernel) 3 rfl ?_
  obtain ⟨r2, er2, hf⟩ := nmd_e hf
  refine v_callV (pc := 101) (As := [.int l4]) (rest := [.int (4 : Int32), .ref (ρ (lay tb l0 1))]) X (mt_Pl_hasTrough ok hi (ly_4_0 ok kl0) er2.symm) ml_4_83 mv_Pl_hasTrough (ly_4_0 ok kl0) cls_7 rfl ⟨Nat.le_of_ble_eq_true rfl, Nat.le_of_ble_eq_true rfl⟩ rfl rfl (Nat.le_of_ble_eq_true rfl) (by decide +kernel) ?_
  change V E g tb ρ 5 104 [(0, .ref (ρ l0)), (1, .ref (ρ l1)), (2, .int l2), (4, .int l4)] [.int r2, .int (4 : Int32), .ref (ρ (lay tb l0 1))] h1
  refine v_if_eq (pc := 104) (off := 26) (tgt := 130) X (by decide +kernel) (by decide) (fun q5 => ?_) (fun q5 => ?_)
  · rw [if_pos q5] at hf
    refine v_iconst (pc := 130) (n := 0) X (by decide +kernel) ic_0 ?_
    refine v_sub [0, 1, 2] rfl ?_
    exact vjb_Ho_setNames_131 ok hi X Y h1 l0 l1 l2 (lay tb l0 1) (4 : Int32) (0 : Int32) kl0 kl1 (ly_4_1 ok kl0) hf
  · rw [if_neg q5] at hf
    refine v_aload_n (pc := 107) (k := 0) X (by decide +kernel) 0 rfl ?_
    refine v_geta (pc := 108) X fl_4_15 kl0 fk_4_0 (by decide +kernel) ?_
    refine v_geta (pc := 111) X fl_4_86 (ly_4_0 ok kl0) fk_7_7 (by decide +kernel) ?_
    refine v_iload (pc := 114) (k := 4) X (by decide +kernel) 3 rfl ?_
    obtain ⟨x3, ex3, hf⟩ := bnd_e hf
    refine v_iald (pc := 116) X (ly_7_7 ok (ly_4_0 ok kl0)) ex3 (by decide +kernel) ?_
    refine v_aload_n (pc := 117) (k := 1) X (by decide +kernel) 1 rfl ?_
    refine v_geta (pc := 118) X fl_4_89 kl1 fk_11_9 (by decide +kernel) ?_
    refine v_iload_n (pc := 121) (k := 2) X (by decide +kernel) 2 rfl ?_
    obtain ⟨x4, ex4, hf⟩ := bnd_e hf
    refine v_iald (pc := 122) X (ly_11_9 ok kl1) ex4 (by decide +kernel) ?_
    refine v_isub (pc := 123) X (by decide +kernel) ?_
    refine v_mabs (pc := 124) X mm_4_196 ms_mabs mc_mabs mi_math ⟨Nat.le_of_ble_eq_true rfl, Nat.le_of_ble_eq_true rfl⟩ (by decide +kernel) ?_
    refine v_goto (pc := 127) (off := 4) (tgt := 131) X (by decide +kernel) (by decide) ?_
    refine v_sub [0, 1, 2] rfl ?_
    exact vjb_Ho_setNames_131 ok hi X Y h1 l0 l1 l2 (lay tb l0 1) (4 : Int32) (abI (x3 - x4)) kl0 kl1 (ly_4_1 ok kl0) hf
set_option maxRecDepth 4000 in
set_option maxHeartbeats 1000000 in
theorem mt_Ho_setNames {g : Gl} {tb : Tb} {ρ : Nat → Nat} (ok : TbOK tb) (hi : inj tb ρ) {h : Hp} {l0 : Nat} {l1 : Nat} {l2 : Int32} (kl0 : kd tb l0 = 4) (kl1 : kd tb l1 = 11) {r : Hp} (hf : f_Ho_setNames tb h l0 l1 l2 = some r) : MT g y_Ho_setNames prog_5_method_16_code 5 none 1 21 tb ρ [.ref (ρ l0), .ref (ρ l1), .int l2] h (none) r := by
  refine mt_intro (by decide +kernel) ok hi (Nat.le_of_ble_eq_true rfl) (fun E X Y => ?_)
  change V E g tb ρ 5 0 [(0, .ref (ρ l0)), (1, .ref (ρ l1)), (2, .int l2)] [] h
  unfold f_Ho_setNames at hf
  refine v_aload_n (pc := 0) (k := 0) X (by decide +kernel) 0 rfl ?_
  refine v_geta (pc := 1) X fl_4_15 kl0 fk_4_0 (by decide +kernel) ?_
  refine v_aload_n (pc := 4) (k := 1) X (by decide +kernel) 1 rfl ?_
  refine v_geta (pc := 5) X fl_4_89 kl1 fk_11_9 (by decide +kernel) ?_
  refine v_iload_n (pc := 8) (k := 2) X (by decide +kernel) 2 rfl ?_
  obtain ⟨x1, ex1, hf⟩ := bnd_e hf
  refine v_iald (pc := 9) X (ly_11_9 ok kl1) ex1 (by decide +kernel) ?_
  obtain ⟨r2, er2, hf⟩ := bnd_e hf
  refine v_callV (pc := 10) (As := [.int x1]) (rest := []) X (mt_Pl_troughThere ok hi (ly_4_0 ok kl0) er2) ml_4_120 mv_Pl_troughThere (ly_4_0 ok kl0) cls_7 rfl ⟨Nat.le_of_ble_eq_true rfl, Nat.le_of_ble_eq_true rfl⟩ rfl rfl (Nat.le_of_ble_eq_true rfl) (by decide +kernel) ?_
  change V E g tb ρ 5 13 [(0, .ref (ρ l0)), (1, .ref (ρ l1)), (2, .int l2)] [.int r2] h
  refine v_istore_n (pc := 13) (k := 3) (lv' := [(3, .int r2), (0, .ref (ρ l0)), (1, .ref (ρ l1)), (2, .int l2)]) X (by decide +kernel) (Nat.le_of_ble_eq_true rfl) rfl ?_
  refine v_aload_n (pc := 14) (k := 1) X (by decide +kernel) 2 rfl ?_
  refine v_geta (pc := 15) X fl_4_67 kl1 fk_11_12 (by decide +kernel) ?_
  refine v_iload_n (pc := 18) (k := 2) X (by decide +kernel) 3 rfl ?_
  obtain ⟨x3, ex3, hf⟩ := bnd_e hf
  refine v_iald (pc := 19) X (ly_11_12 ok kl1) ex3 (by decide +kernel) ?_
  refine v_istore (pc := 20) (k := 4) (lv' := [(4, .int x3), (3, .int r2), (0, .ref (ρ l0)), (1, .ref (ρ l1)), (2, .int l2)]) X (by decide +kernel) (Nat.le_of_ble_eq_true rfl) rfl ?_
  refine v_aload_n (pc := 22) (k := 0) X (by decide +kernel) 2 rfl ?_
  refine v_geta (pc := 23) X fl_4_9 kl0 fk_4_1 (by decide +kernel) ?_
  refine v_iconst (pc := 26) (n := 0) X (by decide +kernel) ic_0 ?_
  refine v_aload_n (pc := 27) (k := 1) X (by decide +kernel) 3 rfl ?_
  refine v_geta (pc := 28) X fl_4_104 kl1 fk_11_10 (by decide +kernel) ?_
  refine v_iload_n (pc := 31) (k := 2) X (by decide +kernel) 4 rfl ?_
  obtain ⟨x4, ex4, hf⟩ := bnd_e hf
  refine v_iald (pc := 32) X (ly_11_10 ok kl1) ex4 (by decide +kernel) ?_
  obtain ⟨h5, eh5, hf⟩ := bnd_e hf
  refine v_iast (pc := 33) X (ly_4_1 ok kl0) eh5 (by decide +kernel) ?_
  refine v_aload_n (pc := 34) (k := 0) X (by decide +kernel) 2 rfl ?_
  refine v_geta (pc := 35) X fl_4_9 kl0 fk_4_1 (by decide +kernel) ?_
  refine v_iconst (pc := 38) (n := 1) X (by decide +kernel) ic_1 ?_
  refine v_aload_n (pc := 39) (k := 0) X (by decide +kernel) 2 rfl ?_
  refine v_geta (pc := 40) X fl_4_15 kl0 fk_4_0 (by decide +kernel) ?_
  refine v_geta (pc := 43) X fl_4_92 (ly_4_0 ok kl0) fk_7_15 (by decide +kernel) ?_
  refine v_iload_n (pc := 46) (k := 2) X (by decide +kernel) 4 rfl ?_
  obtain ⟨x6, ex6, hf⟩ := bnd_e hf
  refine v_iald (pc := 47) X (ly_7_15 ok (ly_4_0 ok kl0)) ex6 (by decide +kernel) ?_
  refine v_aload_n (pc := 48) (k := 0) X (by decide +kernel) 2 rfl ?_
  refine v_geti (pc := 49) X fl_4_35 kl0 rfl (by decide +kernel) ?_
  refine v_imul (pc := 52) X (by decide +kernel) ?_
  obtain ⟨h7, eh7, hf⟩ := bnd_e hf
  refine v_iast (pc := 53) X (ly_4_1 ok kl0) eh7 (by decide +kernel) ?_
  refine v_aload_n (pc := 54) (k := 0) X (by decide +kernel) 2 rfl ?_
  refine v_geta (pc := 55) X fl_4_9 kl0 fk_4_1 (by decide +kernel) ?_
  refine v_iconst (pc := 58) (n := 2) X (by decide +kernel) ic_2 ?_
  refine v_aload_n (pc := 59) (k := 0) X (by decide +kernel) 2 rfl ?_
  refine v_geta (pc := 60) X fl_4_15 kl0 fk_4_0 (by decide +kernel) ?_
  refine v_geta (pc := 63) X fl_4_137 (ly_4_0 ok kl0) fk_7_12 (by decide +kernel) ?_
  refine v_iload_n (pc := 66) (k := 2) X (by decide +kernel) 4 rfl ?_
  obtain ⟨x8, ex8, hf⟩ := bnd_e hf
  refine v_iald (pc := 67) X (ly_7_12 ok (ly_4_0 ok kl0)) ex8 (by decide +kernel) ?_
  obtain ⟨h9, eh9, hf⟩ := bnd_e hf
  refine v_iast (pc := 68) X (ly_4_1 ok kl0) eh9 (by decide +kernel) ?_
  refine v_aload_n (pc := 69) (k := 0) X (by decide +kernel) 2 rfl ?_
  refine v_geta (pc := 70) X fl_4_9 kl0 fk_4_1 (by decide +kernel) ?_
  refine v_iconst (pc := 73) (n := 3) X (by decide +kernel) ic_3 ?_
  refine v_iload_n (pc := 74) (k := 3) X (by decide +kernel) 1 rfl ?_
  refine v_iconst (pc := 75) (n := -1) X (by decide +kernel) ic_m1 ?_
  refine v_icmp_ne (pc := 76) (off := 7) (tgt := 83) X (by decide +kernel) (by decide) (fun q11 => ?_) (fun q11 => ?_)
  · rw [if_neg q11] at hf
    refine v_aload_n (pc := 83) (k := 1) X (by decide +kernel) 3 rfl ?_
    refine v_geta (pc := 84) X fl_4_124 kl1 fk_11_14 (by decide +kernel) ?_
    refine v_iload_n (pc := 87) (k := 3) X (by decide +kernel) 1 rfl ?_
    obtain ⟨x10, ex10, hf⟩ := bnd_e hf
    refine v_iald (pc := 88) X (ly_11_14 ok kl1) ex10 (by decide +kernel) ?_
    refine v_sub [2, 3, 4, 0] rfl ?_
    exact vjb_Ho_setNames_89 ok hi X Y h9 l0 l1 l2 x3 (lay tb l0 1) (3 : Int32) x10 kl0 kl1 (ly_4_1 ok kl0) hf
  · rw [if_pos q11] at hf
    refine v_iconst (pc := 79) (n := 0) X (by decide +kernel) ic_0 ?_
    refine v_goto (pc := 80) (off := 9) (tgt := 89) X (by decide +kernel) (by decide) ?_
    refine v_sub [2, 3, 4, 0] rfl ?_
    exact vjb_Ho_setNames_89 ok hi X Y h9 l0 l1 l2 x3 (lay tb l0 1) (3 : Int32) (0 : Int32) kl0 kl1 (ly_4_1 ok kl0) hf
