def f_Md_roadLine (tb : Tb) (h : Hp) (l0 : Nat) : Option (Int32 × Hp) :=
  if (h.1 l0 21) ≤ (0 : Int32) then (
    (f_Md_token tb h l0).bind fun r1 =>
    (f_Md_number tb r1 l0 (2 : Int32) (60 : Int32)).bind fun r2 =>
    if r2.1 = (0 : Int32) then (
      some ((0 : Int32), r2.2)
    ) else (
      nmd (pI r2.2 l0 20 (r2.2.1 l0 11)) fun h3 =>
      some ((1 : Int32), h3)
    )
  ) else (
    nmd (f_Md_wrong tb h l0 (1 : Int32)) fun r5 =>
    (cZ r5.1).bind fun x6 =>
    some (x6, r5.2)
  )
set_option maxRecDepth 4000 in
set_option maxHeartbeats 1000000 in
theorem mt_Md_roadLine {g : Gl} {tb : Tb} {ρ : Nat → Nat} (ok : TbOK tb) (hi : inj tb ρ) {h : Hp} {l0 : Nat} (kl0 : kd tb l0 = 12) {r : Int32 × Hp} (hf : f_Md_roadLine tb h l0 = some r) : MT g y_Md_roadLine prog_14_method_23_code 1 (some .boolean) 3 69 tb ρ [.ref (ρ l0)] h (some (.int r.1)) r.2 := by
  refine mt_intro (by decide +kernel) ok hi (Nat.le_of_ble_eq_true rfl) (fun E X Y => ?_)
  change V E g tb ρ 1 0 [(0, .ref (ρ l0))] [] h
  unfold f_Md_roadLine at hf
  refine v_aload_n (pc := 0) (k := 0) X (by decide +kernel) 0 rfl ?_
  refine v_geti (pc := 1) X fl_12_234 kl0 rfl (by decide +kernel) ?_
  refine v_if_le (pc := 4) (off := 9) (tgt := 13) X (by decide +kernel) (by decide) (fun q7 => ?_) (fun q7 => ?_)
  · rw [if_pos q7] at hf
    refine v_aload_n (pc := 13) (k := 0) X (by decide +kernel) 0 rfl ?_
    obtain ⟨r1, er1, hf⟩ := bnd_e hf
    refine v_callV (pc := 14) (As := []) (rest := []) X (mt_Md_token ok hi kl0 er1) ml_12_212 mv_Md_token kl0 cls_12 rfl ⟨Nat.le_of_ble_eq_true rfl, Nat.le_of_ble_eq_true rfl⟩ rfl rfl (Nat.le_of_ble_eq_true rfl) (by decide +kernel) ?_
    change V E g tb ρ 1 17 [(0, .ref (ρ l0))] [] r1
    refine v_aload_n (pc := 17) (k := 0) X (by decide +kernel) 0 rfl ?_
    refine v_iconst (pc := 18) (n := 2) X (by decide +kernel) ic_2 ?_
    refine v_bipush (pc := 19) (n := 60) X (by decide +kernel) bi_60 ?_
    obtain ⟨r2, er2, hf⟩ := bnd_e hf
    refine v_callV (pc := 21) (As := [.int (2 : Int32), .int (60 : Int32)]) (rest := []) X (mt_Md_number ok hi kl0 er2) ml_12_218 mv_Md_number kl0 cls_12 rfl ⟨Nat.le_of_ble_eq_true rfl, Nat.le_of_ble_eq_true rfl⟩ rfl rfl (Nat.le_of_ble_eq_true rfl) (by decide +kernel) ?_
    change V E g tb ρ 1 24 [(0, .ref (ρ l0))] [.int r2.1] r2.2
    refine v_if_ne (pc := 24) (off := 5) (tgt := 29) X (by decide +kernel) (by decide) (fun q4 => ?_) (fun q4 => ?_)
    · rw [if_neg q4] at hf
      refine v_aload_n (pc := 29) (k := 0) X (by decide +kernel) 0 rfl ?_
      refine v_aload_n (pc := 30) (k := 0) X (by decide +kernel) 0 rfl ?_
      refine v_geti (pc := 31) X fl_12_209 kl0 rfl (by decide +kernel) ?_
      obtain ⟨h3, eh3, hf⟩ := nmd_e hf
      refine v_puti (pc := 34) X fp_12_231 kl0 rfl (by decide +kernel) eh3 ?_
      refine v_iconst (pc := 37) (n := 1) X (by decide +kernel) ic_1 ?_
      cases hf
      exact v_zret (hz := rfl) X Y (by decide +kernel) rfl rfl
    · rw [if_pos q4] at hf
      refine v_iconst (pc := 27) (n := 0) X (by decide +kernel) ic_0 ?_
      cases hf
      exact v_zret (hz := rfl) X Y (by decide +kernel) rfl rfl
  · rw [if_neg q7] at hf
    refine v_aload_n (pc := 7) (k := 0) X (by decide +kernel) 0 rfl ?_
    refine v_iconst (pc := 8) (n := 1) X (by decide +kernel) ic_1 ?_
    obtain ⟨r5, er5, hf⟩ := nmd_e hf
    refine v_callV (pc := 9) (As := [.int (1 : Int32)]) (rest := []) X (mt_Md_wrong ok hi kl0 er5.symm) ml_12_202 mv_Md_wrong kl0 cls_12 rfl ⟨Nat.le_of_ble_eq_true rfl, Nat.le_of_ble_eq_true rfl⟩ rfl rfl (Nat.le_of_ble_eq_true rfl) (by decide +kernel) ?_
    change V E g tb ρ 1 12 [(0, .ref (ρ l0))] [.int r5.1] r5.2
    obtain ⟨x6, ex6, hf⟩ := bnd_e hf
    obtain ⟨bx6, rfl⟩ := cZ_e ex6
    cases hf
    exact v_zret (hz := bx6) X Y (by decide +kernel) rfl rfl
def f_Md_troughLine (tb : Tb) (h : Hp) (l0 : Nat) : Option (Int32 × Hp) :=
  if (h.1 l0 17) = (6 : Int32) then (
    nmd (f_Md_wrong tb h l0 (2 : Int32)) fun r21 =>
    (cZ r21.1).bind fun x22 =>
    some (x22, r21.2)
  ) else (
    (f_Md_token tb h l0).bind fun r1 =>
    (f_Md_newName tb r1 l0 (lay tb l0 25) (6 : Int32) (r1.1 l0 17)).bind fun r2 =>
    if r2.1 = (0 : Int32) then (
      some ((0 : Int32), r2.2)
    ) else (
      nmd ((6 : Int32) + (r2.2.1 l0 17)) fun x3 =>
      nmd (r2.2.1 l0 10) fun x4 =>
      (f_Md_number tb r2.2 l0 (0 : Int32) (r2.2.1 l0 20)).bind fun r5 =>
      if r5.1 = (0 : Int32) then (
        some ((0 : Int32), r5.2)
      ) else (
        (f_Md_find tb r5.2 (lay tb l0 26) (6 : Int32) (r5.2.1 l0 17) (r5.2.1 l0 11)).bind fun r6 =>
        if r6 < (0 : Int32) then (
          (wI tb r5.2 (lay tb l0 26) x3 (r5.2.1 l0 11)).bind fun h7 =>
          (f_Md_number tb h7 l0 (0 : Int32) (99 : Int32)).bind fun r8 =>
          if r8.1 = (0 : Int32) then (
            some ((0 : Int32), r8.2)
          ) else (
            (wI tb r8.2 (lay tb l0 27) x3 (r8.2.1 l0 11)).bind fun h9 =>
            (f_Md_number tb h9 l0 (0 : Int32) (9 : Int32)).bind fun r10 =>
            if r10.1 = (0 : Int32) then (
              some ((0 : Int32), r10.2)
            ) else (
              (wI tb r10.2 (lay tb l0 28) x3 (r10.2.1 l0 11)).bind fun h11 =>
              nmd (pI h11 l0 17 ((h11.1 l0 17) + (1 : Int32))) fun h12 =>
              some ((1 : Int32), h12)
            )
          )
        ) else (
          nmd (pI r5.2 l0 10 x4) fun h15 =>
          nmd (f_Md_wrong tb h15 l0 (3 : Int32)) fun r16 =>
          (cZ r16.1).bind fun x17 =>
          some (x17, r16.2)
        )
      )
    )
  )
set_option maxRecDepth 4000 in
set_option maxHeartbeats 1000000 in
theorem mt_Md_troughLine {g : Gl} {tb : Tb} {ρ : Nat → Nat} (ok : TbOK tb) (hi : inj tb ρ) {h : Hp} {l0 : Nat} (kl0 : kd tb l0 = 12) {r : Int32 × Hp} (hf : f_Md_troughLine tb h l0 = some r) : MT g y_Md_troughLine prog_14_method_24_code 3 (some .boolean) 3 70 tb ρ [.ref (ρ l0)] h (some (.int r.1)) r.2 := by
  refine mt_intro (by decide +kernel) ok hi (Nat.le_of_ble_eq_true rfl) (fun E X Y => ?_)
  change V E g tb ρ 3 0 [(0, .ref (ρ l0))] [] h
  unfold f_Md_troughLine at hf
  refine v_aload_n (pc := 0) (k := 0) X (by decide +kernel) 0 rfl ?_
  refine v_geti (pc := 1) X fl_12_222 kl0 rfl (by decide +kernel) ?_
  refine v_bipush (pc := 4) (n := 6) X (by decide +kernel) bi_6 ?_
  refine v_icmp_ne (pc := 6) (off := 9) (tgt := 15) X (by decide +kernel) (by decide) (fun q23 => ?_) (fun q23 => ?_)
  · rw [if_neg q23] at hf
    refine v_aload_n (pc := 15) (k := 0) X (by decide +kernel) 0 rfl ?_
    obtain ⟨r1, er1, hf⟩ := bnd_e hf
    refine v_callV (pc := 16) (As := []) (rest := []) X (mt_Md_token ok hi kl0 er1) ml_12_212 mv_Md_token kl0 cls_12 rfl ⟨Nat.le_of_ble_eq_true rfl, Nat.le_of_ble_eq_true rfl⟩ rfl rfl (Nat.le_of_ble_eq_true rfl) (by decide +kernel) ?_
    change V E g tb ρ 3 19 [(0, .ref (ρ l0))] [] r1
    refine v_aload_n (pc := 19) (k := 0) X (by decide +kernel) 0 rfl ?_
    refine v_aload_n (pc := 20) (k := 0) X (by decide +kernel) 0 rfl ?_
    refine v_geta (pc := 21) X fl_12_27 kl0 fk_12_25 (by decide +kernel) ?_
    refine v_bipush (pc := 24) (n := 6) X (by decide +kernel) bi_6 ?_
    refine v_aload_n (pc := 26) (k := 0) X (by decide +kernel) 0 rfl ?_
    refine v_geti (pc := 27) X fl_12_222 kl0 rfl (by decide +kernel) ?_
    obtain ⟨r2, er2, hf⟩ := bnd_e hf
    refine v_callV (pc := 30) (As := [.ref (ρ (lay tb l0 25)), .int (6 : Int32), .int (r1.1 l0 17)]) (rest := []) X (mt_Md_newName ok hi kl0 (ly_12_25 ok kl0) er2) ml_12_269 mv_Md_newName kl0 cls_12 rfl ⟨Nat.le_of_ble_eq_true rfl, Nat.le_of_ble_eq_true rfl⟩ rfl rfl (Nat.le_of_ble_eq_true rfl) (by decide +kernel) ?_
    change V E g tb ρ 3 33 [(0, .ref (ρ l0))] [.int r2.1] r2.2
    refine v_if_ne (pc := 33) (off := 5) (tgt := 38) X (by decide +kernel) (by decide) (fun q20 => ?_) (fun q20 => ?_)
    · rw [if_neg q20] at hf
      refine v_bipush (pc := 38) (n := 6) X (by decide +kernel) bi_6 ?_
      refine v_aload_n (pc := 40) (k := 0) X (by decide +kernel) 0 rfl ?_
      refine v_geti (pc := 41) X fl_12_222 kl0 rfl (by decide +kernel) ?_
      refine v_iadd (pc := 44) X (by decide +kernel) ?_
      obtain ⟨x3, ex3, hf⟩ := nmd_e hf
      refine v_nmi ex3 ?_
      refine v_istore_n (pc := 45) (k := 1) (lv' := [(1, .int x3), (0, .ref (ρ l0))]) X (by decide +kernel) (Nat.le_of_ble_eq_true rfl) rfl ?_
      refine v_aload_n (pc := 46) (k := 0) X (by decide +kernel) 1 rfl ?_
      refine v_geti (pc := 47) X fl_12_169 kl0 rfl (by decide +kernel) ?_
      obtain ⟨x4, ex4, hf⟩ := nmd_e hf
      refine v_nmi ex4 ?_
      refine v_istore_n (pc := 50) (k := 2) (lv' := [(2, .int x4), (1, .int x3), (0, .ref (ρ l0))]) X (by decide +kernel) (Nat.le_of_ble_eq_true rfl) rfl ?_
      refine v_aload_n (pc := 51) (k := 0) X (by decide +kernel) 2 rfl ?_
      refine v_iconst (pc := 52) (n := 0) X (by decide +kernel) ic_0 ?_
      refine v_aload_n (pc := 53) (k := 0) X (by decide +kernel) 2 rfl ?_
      refine v_geti (pc := 54) X fl_12_231 kl0 rfl (by decide +kernel) ?_
      obtain ⟨r5, er5, hf⟩ := bnd_e hf
      refine v_callV (pc := 57) (As := [.int (0 : Int32), .int (r2.2.1 l0 20)]) (rest := []) X (mt_Md_number ok hi kl0 er5) ml_12_218 mv_Md_number kl0 cls_12 rfl ⟨Nat.le_of_ble_eq_true rfl, Nat.le_of_ble_eq_true rfl⟩ rfl rfl (Nat.le_of_ble_eq_true rfl) (by decide +kernel) ?_
      change V E g tb ρ 3 60 [(2, .int x4), (1, .int x3), (0, .ref (ρ l0))] [.int r5.1] r5.2
      refine v_if_ne (pc := 60) (off := 5) (tgt := 65) X (by decide +kernel) (by decide) (fun q19 => ?_) (fun q19 => ?_)
      · rw [if_neg q19] at hf
        refine v_aload_n (pc := 65) (k := 0) X (by decide +kernel) 2 rfl ?_
        refine v_geta (pc := 66) X fl_12_30 kl0 fk_12_26 (by decide +kernel) ?_
        refine v_bipush (pc := 69) (n := 6) X (by decide +kernel) bi_6 ?_
        refine v_aload_n (pc := 71) (k := 0) X (by decide +kernel) 2 rfl ?_
        refine v_geti (pc := 72) X fl_12_222 kl0 rfl (by decide +kernel) ?_
        refine v_aload_n (pc := 75) (k := 0) X (by decide +kernel) 2 rfl ?_
        refine v_geti (pc := 76) X fl_12_209 kl0 rfl (by decide +kernel) ?_
        obtain ⟨r6, er6, hf⟩ := bnd_e hf
        refine v_callS (pc := 79) (As := [.ref (ρ (lay tb l0 26)), .int (6 : Int32), .int (r5.2.1 l0 17), .int (r5.2.1 l0 11)]) (rest := []) X (mt_Md_find ok hi (ly_12_26 ok kl0) er6) ml_12_265 ms_Md_find ⟨Nat.le_of_ble_eq_true rfl, Nat.le_of_ble_eq_true rfl⟩ rfl rfl (Nat.le_of_ble_eq_true rfl) (by decide +kernel) ?_
        change V E g tb ρ 3 82 [(2, .int x4), (1, .int x3), (0, .ref (ρ l0))] [.int r6] r5.2
        refine v_if_lt (pc := 82) (off := 14) (tgt := 96) X (by decide +kernel) (by decide) (fun q18 => ?_) (fun q18 => ?_)
        · rw [if_pos q18] at hf
          refine v_aload_n (pc := 96) (k := 0) X (by decide +kernel) 2 rfl ?_
          refine v_geta (pc := 97) X fl_12_30 kl0 fk_12_26 (by decide +kernel) ?_
          refine v_iload_n (pc := 100) (k := 1) X (by decide +kernel) 1 rfl ?_
          refine v_aload_n (pc := 101) (k := 0) X (by decide +kernel) 2 rfl ?_
          refine v_geti (pc := 102) X fl_12_209 kl0 rfl (by decide +kernel) ?_
          obtain ⟨h7, eh7, hf⟩ := bnd_e hf
          refine v_iast (pc := 105) X (ly_12_26 ok kl0) eh7 (by decide +kernel) ?_
          refine v_aload_n (pc := 106) (k := 0) X (by decide +kernel) 2 rfl ?_
          refine v_iconst (pc := 107) (n := 0) X (by decide +kernel) ic_0 ?_
          refine v_bipush (pc := 108) (n := 99) X (by decide +kernel) bi_99 ?_
          obtain ⟨r8, er8, hf⟩ := bnd_e hf
          refine v_callV (pc := 110) (As := [.int (0 : Int32), .int (99 : Int32)]) (rest := []) X (mt_Md_number ok hi kl0 er8) ml_12_218 mv_Md_number kl0 cls_12 rfl ⟨Nat.le_of_ble_eq_true rfl, Nat.le_of_ble_eq_true rfl⟩ rfl rfl (Nat.le_of_ble_eq_true rfl) (by decide +kernel) ?_
          change V E g tb ρ 3 113 [(2, .int x4), (1, .int x3), (0, .ref (ρ l0))] [.int r8.1] r8.2
          refine v_if_ne (pc := 113) (off := 5) (tgt := 118) X (by decide +kernel) (by decide) (fun q14 => ?_) (fun q14 => ?_)
          · rw [if_neg q14] at hf
            refine v_aload_n (pc := 118) (k := 0) X (by decide +kernel) 2 rfl ?_
            refine v_geta (pc := 119) X fl_12_33 kl0 fk_12_27 (by decide +kernel) ?_
            refine v_iload_n (pc := 122) (k := 1) X (by decide +kernel) 1 rfl ?_
            refine v_aload_n (pc := 123) (k := 0) X (by decide +kernel) 2 rfl ?_
            refine v_geti (pc := 124) X fl_12_209 kl0 rfl (by decide +kernel) ?_
            obtain ⟨h9, eh9, hf⟩ := bnd_e hf
            refine v_iast (pc := 127) X (ly_12_27 ok kl0) eh9 (by decide +kernel) ?_
            refine v_aload_n (pc := 128) (k := 0) X (by decide +kernel) 2 rfl ?_
            refine v_iconst (pc := 129) (n := 0) X (by decide +kernel) ic_0 ?_
            refine v_bipush (pc := 130) (n := 9) X (by decide +kernel) bi_9 ?_
            obtain ⟨r10, er10, hf⟩ := bnd_e hf
            refine v_callV (pc := 132) (As := [.int (0 : Int32), .int (9 : Int32)]) (rest := []) X (mt_Md_number ok hi kl0 er10) ml_12_218 mv_Md_number kl0 cls_12 rfl ⟨Nat.le_of_ble_eq_true rfl, Nat.le_of_ble_eq_true rfl⟩ rfl rfl (Nat.le_of_ble_eq_true rfl) (by decide +kernel) ?_
            change V E g tb ρ 3 135 [(2, .int x4), (1, .int x3), (0, .ref (ρ l0))] [.int r10.1] r10.2
            refine v_if_ne (pc := 135) (off := 5) (tgt := 140) X (by decide +kernel) (by decide) (fun q13 => ?_) (fun q13 => ?_)
            · rw [if_neg q13] at hf
              refine v_aload_n (pc := 140) (k := 0) X (by decide +kernel) 2 rfl ?_
              refine v_geta (pc := 141) X fl_12_36 kl0 fk_12_28 (by decide +kernel) ?_
              refine v_iload_n (pc := 144) (k := 1) X (by decide +kernel) 1 rfl ?_
              refine v_aload_n (pc := 145) (k := 0) X (by decide +kernel) 2 rfl ?_
              refine v_geti (pc := 146) X fl_12_209 kl0 rfl (by decide +kernel) ?_
              obtain ⟨h11, eh11, hf⟩ := bnd_e hf
              refine v_iast (pc := 149) X (ly_12_28 ok kl0) eh11 (by decide +kernel) ?_
              refine v_aload_n (pc := 150) (k := 0) X (by decide +kernel) 2 rfl ?_
              refine v_dup (pc := 151) X (by decide +kernel) rfl ?_
              refine v_geti (pc := 152) X fl_12_222 kl0 rfl (by decide +kernel) ?_
              refine v_iconst (pc := 155) (n := 1) X (by decide +kernel) ic_1 ?_
              refine v_iadd (pc := 156) X (by decide +kernel) ?_
              obtain ⟨h12, eh12, hf⟩ := nmd_e hf
              refine v_puti (pc := 157) X fp_12_222 kl0 rfl (by decide +kernel) eh12 ?_
              refine v_iconst (pc := 160) (n := 1) X (by decide +kernel) ic_1 ?_
              cases hf
              exact v_zret (hz := rfl) X Y (by decide +kernel) rfl rfl
            · rw [if_pos q13] at hf
              refine v_iconst (pc := 138) (n := 0) X (by decide +kernel) ic_0 ?_
              cases hf
              exact v_zret (hz := rfl) X Y (by decide +kernel) rfl rfl
          · rw [if_pos q14] at hf
            refine v_iconst (pc := 116) (n := 0) X (by decide +kernel) ic_0 ?_
            cases hf
            exact v_zret (hz := rfl) X Y (by decide +kernel) rfl rfl
        · rw [if_neg q18] at hf
          refine v_aload_n (pc := 85) (k := 0) X (by decide +kernel) 2 rfl ?_
          refine v_iload_n (pc := 86) (k := 2) X (by decide +kernel) 0 rfl ?_
          obtain ⟨h15, eh15, hf⟩ := nmd_e hf
          refine v_puti (pc := 87) X fp_12_169 kl0 rfl (by decide +kernel) eh15 ?_
          refine v_aload_n (pc := 90) (k := 0) X (by decide +kernel) 2 rfl ?_
          refine v_iconst (pc := 91) (n := 3) X (by decide +kernel) ic_3 ?_
          obtain ⟨r16, er16, hf⟩ := nmd_e hf
          refine v_callV (pc := 92) (As := [.int (3 : Int32)]) (rest := []) X (mt_Md_wrong ok hi kl0 er16.symm) ml_12_202 mv_Md_wrong kl0 cls_12 rfl ⟨Nat.le_of_ble_eq_true rfl, Nat.le_of_ble_eq_true rfl⟩ rfl rfl (Nat.le_of_ble_eq_true rfl) (by decide +kernel) ?_
          change V E g tb ρ 3 95 [(2, .int x4), (1, .int x3), (0, .ref (ρ l0))] [.int r16.1] r16.2
          obtain ⟨x17, ex17, hf⟩ := bnd_e hf
          obtain ⟨bx17, rfl⟩ := cZ_e ex17
          cases hf
          exact v_zret (hz := bx17) X Y (by decide +kernel) rfl rfl
      · rw [if_pos q19] at hf
        refine v_iconst (pc := 63) (n := 0) X (by decide +kernel) ic_0 ?_
        cases hf
        exact v_zret (hz := rfl) X Y (by decide +kernel) rfl rfl
    · rw [if_pos q20] at hf
      refine v_iconst (pc := 36) (n := 0) X (by decide +kernel) ic_0 ?_
      cases hf
      exact v_zret (hz := rfl) X Y (by decide +kernel) rfl rfl
  · rw [if_pos q23] at hf
    refine v_aload_n (pc := 9) (k := 0) X (by decide +kernel) 0 rfl ?_
    refine v_iconst (pc := 10) (n := 2) X (by decide +kernel) ic_2 ?_
    obtain ⟨r21, er21, hf⟩ := nmd_e hf
    refine v_callV (pc := 11) (As := [.int (2 : Int32)]) (rest := []) X (mt_Md_wrong ok hi kl0 er21.symm) ml_12_202 mv_Md_wrong kl0 cls_12 rfl ⟨Nat.le_of_ble_eq_true rfl, Nat.le_of_ble_eq_true rfl⟩ rfl rfl (Nat.le_of_ble_eq_true rfl) (by decide +kernel) ?_
    change V E g tb ρ 3 14 [(0, .ref (ρ l0))] [.int r21.1] r21.2
    obtain ⟨x22, ex22, hf⟩ := bnd_e hf
    obtain ⟨bx22, rfl⟩ := cZ_e ex22
    cases hf
    exact v_zret (hz := bx22) X Y (by decide +kernel) rfl rfl
def f_Md_horseLine (tb : Tb) (h : Hp) (l0 : Nat) : Option (Int32 × Hp) :=
  if (h.1 l0 18) = (6 : Int32) then (
    nmd (f_Md_wrong tb h l0 (2 : Int32)) fun r18 =>
    (cZ r18.1).bind fun x19 =>
    some (x19, r18.2)
  ) else (
    (f_Md_token tb h l0).bind fun r1 =>
    (f_Md_newName tb r1 l0 (lay tb l0 29) (6 : Int32) (r1.1 l0 18)).bind fun r2 =>
    if r2.1 = (0 : Int32) then (
      some ((0 : Int32), r2.2)
    ) else (
      nmd ((6 : Int32) + (r2.2.1 l0 18)) fun x3 =>
      (f_Md_number tb r2.2 l0 (0 : Int32) (3 : Int32)).bind fun r4 =>
      if r4.1 = (0 : Int32) then (
        some ((0 : Int32), r4.2)
      ) else (
        (wI tb r4.2 (lay tb l0 30) x3 (r4.2.1 l0 11)).bind fun h5 =>
        (f_Md_number tb h5 l0 (0 : Int32) (h5.1 l0 20)).bind fun r6 =>
        if r6.1 = (0 : Int32) then (
          some ((0 : Int32), r6.2)
        ) else (
          (wI tb r6.2 (lay tb l0 31) x3 (r6.2.1 l0 11)).bind fun h7 =>
          (f_Md_number tb h7 l0 (0 : Int32) (99 : Int32)).bind fun r8 =>
          if r8.1 = (0 : Int32) then (
            some ((0 : Int32), r8.2)
          ) else (
            (wI tb r8.2 (lay tb l0 32) x3 (r8.2.1 l0 11)).bind fun h9 =>
            (f_Md_number tb h9 l0 (1 : Int32) (9 : Int32)).bind fun r10 =>
            if r10.1 = (0 : Int32) then (
              some ((0 : Int32), r10.2)
            ) else (
              (wI tb r10.2 (lay tb l0 33) x3 (r10.2.1 l0 11)).bind fun h11 =>
              nmd (pI h11 l0 18 ((h11.1 l0 18) + (1 : Int32))) fun h12 =>
              some ((1 : Int32), h12)
            )
          )
        )
      )
    )
  )
set_option maxRecDepth 4000 in
set_option maxHeartbeats 1000000 in
theorem mt_Md_horseLine {g : Gl} {tb : Tb} {ρ : Nat → Nat} (ok : TbOK tb) (hi : inj tb ρ) {h : Hp} {l0 : Nat} (kl0 : kd tb l0 = 12) {r : Int32 × Hp} (hf : f_Md_horseLine tb h l0 = some r) : MT g y_Md_horseLine prog_14_method_25_code 2 (some .boolean) 3 70 tb ρ [.ref (ρ l0)] h (some (.int r.1)) r.2 := by
  refine mt_intro (by decide +kernel) ok hi (Nat.le_of_ble_eq_true rfl) (fun E X Y => ?_)
  change V E g tb ρ 2 0 [(0, .ref (ρ l0))] [] h
  unfold f_Md_horseLine at hf
  refine v_aload_n (pc := 0) (k := 0) X (by decide +kernel) 0 rfl ?_
  refine v_geti (pc := 1) X fl_12_225 kl0 rfl (by decide +kernel) ?_
  refine v_bipush (pc := 4) (n := 6) X (by decide +kernel) bi_6 ?_
  refine v_icmp_ne (pc := 6) (off := 9) (tgt := 15) X (by decide +kernel) (by decide) (fun q20 => ?_) (fun q20 => ?_)
  · rw [if_neg q20] at hf
    refine v_aload_n (pc := 15) (k := 0) X (by decide +kernel) 0 rfl ?_
    obtain ⟨r1, er1, hf⟩ := bnd_e hf
    refine v_callV (pc := 16) (As := []) (rest := []) X (mt_Md_token ok hi kl0 er1) ml_12_212 mv_Md_token kl0 cls_12 rfl ⟨Nat.le_of_ble_eq_true rfl, Nat.le_of_ble_eq_true rfl⟩ rfl rfl (Nat.le_of_ble_eq_true rfl) (by decide +kernel) ?_
    change V E g tb ρ 2 19 [(0, .ref (ρ l0))] [] r1
    refine v_aload_n (pc := 19) (k := 0) X (by decide +kernel) 0 rfl ?_
    refine v_aload_n (pc := 20) (k := 0) X (by decide +kernel) 0 rfl ?_
    refine v_geta (pc := 21) X fl_12_39 kl0 fk_12_29 (by decide +kernel) ?_
    refine v_bipush (pc := 24) (n := 6) X (by decide +kernel) bi_6 ?_
    refine v_aload_n (pc := 26) (k := 0) X (by decide +kernel) 0 rfl ?_
    refine v_geti (pc := 27) X fl_12_225 kl0 rfl (by decide +kernel) ?_
    obtain ⟨r2, er2, hf⟩ := bnd_e hf
    refine v_callV (pc := 30) (As := [.ref (ρ (lay tb l0 29)), .int (6 : Int32), .int (r1.1 l0 18)]) (rest := []) X (mt_Md_newName ok hi kl0 (ly_12_29 ok kl0) er2) ml_12_269 mv_Md_newName kl0 cls_12 rfl ⟨Nat.le_of_ble_eq_true rfl, Nat.le_of_ble_eq_true rfl⟩ rfl rfl (Nat.le_of_ble_eq_true rfl) (by decide +kernel) ?_
    change V E g tb ρ 2 33 [(0, .ref (ρ l0))] [.int r2.1] r2.2
    refine v_if_ne (pc := 33) (off := 5) (tgt := 38) X (by decide +kernel) (by decide) (fun q17 => ?_) (fun q17 => ?_)
    · rw [if_neg q17] at hf
      refine v_bipush (pc := 38) (n := 6) X (by decide +kernel) bi_6 ?_
      refine v_aload_n (pc := 40) (k := 0) X (by decide +kernel) 0 rfl ?_
      refine v_geti (pc := 41) X fl_12_225 kl0 rfl (by decide +kernel) ?_
      refine v_iadd (pc := 44) X (by decide +kernel) ?_
      obtain ⟨x3, ex3, hf⟩ := nmd_e hf
      refine v_nmi ex3 ?_
      refine v_istore_n (pc := 45) (k := 1) (lv' := [(1, .int x3), (0, .ref (ρ l0))]) X (by decide +kernel) (Nat.le_of_ble_eq_true rfl) rfl ?_
      refine v_aload_n (pc := 46) (k := 0) X (by decide +kernel) 1 rfl ?_
      refine v_iconst (pc := 47) (n := 0) X (by decide +kernel) ic_0 ?_
      refine v_iconst (pc := 48) (n := 3) X (by decide +kernel) ic_3 ?_
      obtain ⟨r4, er4, hf⟩ := bnd_e hf
      refine v_callV (pc := 49) (As := [.int (0 : Int32), .int (3 : Int32)]) (rest := []) X (mt_Md_number ok hi kl0 er4) ml_12_218 mv_Md_number kl0 cls_12 rfl ⟨Nat.le_of_ble_eq_true rfl, Nat.le_of_ble_eq_true rfl⟩ rfl rfl (Nat.le_of_ble_eq_true rfl) (by decide +kernel) ?_
      change V E g tb ρ 2 52 [(1, .int x3), (0, .ref (ρ l0))] [.int r4.1] r4.2
      refine v_if_ne (pc := 52) (off := 5) (tgt := 57) X (by decide +kernel) (by decide) (fun q16 => ?_) (fun q16 => ?_)
      · rw [if_neg q16] at hf
        refine v_aload_n (pc := 57) (k := 0) X (by decide +kernel) 1 rfl ?_
        refine v_geta (pc := 58) X fl_12_42 kl0 fk_12_30 (by decide +kernel) ?_
        refine v_iload_n (pc := 61) (k := 1) X (by decide +kernel) 0 rfl ?_
        refine v_aload_n (pc := 62) (k := 0) X (by decide +kernel) 1 rfl ?_
        refine v_geti (pc := 63) X fl_12_209 kl0 rfl (by decide +kernel) ?_
        obtain ⟨h5, eh5, hf⟩ := bnd_e hf
        refine v_iast (pc := 66) X (ly_12_30 ok kl0) eh5 (by decide +kernel) ?_
        refine v_aload_n (pc := 67) (k := 0) X (by decide +kernel) 1 rfl ?_
        refine v_iconst (pc := 68) (n := 0) X (by decide +kernel) ic_0 ?_
        refine v_aload_n (pc := 69) (k := 0) X (by decide +kernel) 1 rfl ?_
        refine v_geti (pc := 70) X fl_12_231 kl0 rfl (by decide +kernel) ?_
        obtain ⟨r6, er6, hf⟩ := bnd_e hf
        refine v_callV (pc := 73) (As := [.int (0 : Int32), .int (h5.1 l0 20)]) (rest := []) X (mt_Md_number ok hi kl0 er6) ml_12_218 mv_Md_number kl0 cls_12 rfl ⟨Nat.le_of_ble_eq_true rfl, Nat.le_of_ble_eq_true rfl⟩ rfl rfl (Nat.le_of_ble_eq_true rfl) (by decide +kernel) ?_
        change V E g tb ρ 2 76 [(1, .int x3), (0, .ref (ρ l0))] [.int r6.1] r6.2
        refine v_if_ne (pc := 76) (off := 5) (tgt := 81) X (by decide +kernel) (by decide) (fun q15 => ?_) (fun q15 => ?_)
        · rw [if_neg q15] at hf
          refine v_aload_n (pc := 81) (k := 0) X (by decide +kernel) 1 rfl ?_
          refine v_geta (pc := 82) X fl_12_45 kl0 fk_12_31 (by decide +kernel) ?_
          refine v_iload_n (pc := 85) (k := 1) X (by decide +kernel) 0 rfl ?_
          refine v_aload_n (pc := 86) (k := 0) X (by decide +kernel) 1 rfl ?_
          refine v_geti (pc := 87) X fl_12_209 kl0 rfl (by decide +kernel) ?_
          obtain ⟨h7, eh7, hf⟩ := bnd_e hf
          refine v_iast (pc := 90) X (ly_12_31 ok kl0) eh7 (by decide +kernel) ?_
          refine v_aload_n (pc := 91) (k := 0) X (by decide +kernel) 1 rfl ?_
          refine v_iconst (pc := 92) (n := 0) X (by decide +kernel) ic_0 ?_
          refine v_bipush (pc := 93) (n := 99) X (by decide +kernel) bi_99 ?_
          obtain ⟨r8, er8, hf⟩ := bnd_e hf
          refine v_callV (pc := 95) (As := [.int (0 : Int32), .int (99 : Int32)]) (rest := []) X (mt_Md_number ok hi kl0 er8) ml_12_218 mv_Md_number kl0 cls_12 rfl ⟨Nat.le_of_ble_eq_true rfl, Nat.le_of_ble_eq_true rfl⟩ rfl rfl (Nat.le_of_ble_eq_true rfl) (by decide +kernel) ?_
          change V E g tb ρ 2 98 [(1, .int x3), (0, .ref (ρ l0))] [.int r8.1] r8.2
          refine v_if_ne (pc := 98) (off := 5) (tgt := 103) X (by decide +kernel) (by decide) (fun q14 => ?_) (fun q14 => ?_)
          · rw [if_neg q14] at hf
            refine v_aload_n (pc := 103) (k := 0) X (by decide +kernel) 1 rfl ?_
            refine v_geta (pc := 104) X fl_12_48 kl0 fk_12_32 (by decide +kernel) ?_
            refine v_iload_n (pc := 107) (k := 1) X (by decide +kernel) 0 rfl ?_
            refine v_aload_n (pc := 108) (k := 0) X (by decide +kernel) 1 rfl ?_
            refine v_geti (pc := 109) X fl_12_209 kl0 rfl (by decide +kernel) ?_
            obtain ⟨h9, eh9, hf⟩ := bnd_e hf
            refine v_iast (pc := 112) X (ly_12_32 ok kl0) eh9 (by decide +kernel) ?_
            refine v_aload_n (pc := 113) (k := 0) X (by decide +kernel) 1 rfl ?_
            refine v_iconst (pc := 114) (n := 1) X (by decide +kernel) ic_1 ?_
            refine v_bipush (pc := 115) (n := 9) X (by decide +kernel) bi_9 ?_
            obtain ⟨r10, er10, hf⟩ := bnd_e hf
            refine v_callV (pc := 117) (As := [.int (1 : Int32), .int (9 : Int32)]) (rest := []) X (mt_Md_number ok hi kl0 er10) ml_12_218 mv_Md_number kl0 cls_12 rfl ⟨Nat.le_of_ble_eq_true rfl, Nat.le_of_ble_eq_true rfl⟩ rfl rfl (Nat.le_of_ble_eq_true rfl) (by decide +kernel) ?_
            change V E g tb ρ 2 120 [(1, .int x3), (0, .ref (ρ l0))] [.int r10.1] r10.2
            refine v_if_ne (pc := 120) (off := 5) (tgt := 125) X (by decide +kernel) (by decide) (fun q13 => ?_) (fun q13 => ?_)
            · rw [if_neg q13] at hf
              refine v_aload_n (pc := 125) (k := 0) X (by decide +kernel) 1 rfl ?_
              refine v_geta (pc := 126) X fl_12_51 kl0 fk_12_33 (by decide +kernel) ?_
              refine v_iload_n (pc := 129) (k := 1) X (by decide +kernel) 0 rfl ?_
              refine v_aload_n (pc := 130) (k := 0) X (by decide +kernel) 1 rfl ?_
              refine v_geti (pc := 131) X fl_12_209 kl0 rfl (by decide +kernel) ?_
              obtain ⟨h11, eh11, hf⟩ := bnd_e hf
              refine v_iast (pc := 134) X (ly_12_33 ok kl0) eh11 (by decide +kernel) ?_
              refine v_aload_n (pc := 135) (k := 0) X (by decide +kernel) 1 rfl ?_
              refine v_dup (pc := 136) X (by decide +kernel) rfl ?_
              refine v_geti (pc := 137) X fl_12_225 kl0 rfl (by decide +kernel) ?_
              refine v_iconst (pc := 140) (n := 1) X (by decide +kernel) ic_1 ?_
              refine v_iadd (pc := 141) X (by decide +kernel) ?_
              obtain ⟨h12, eh12, hf⟩ := nmd_e hf
              refine v_puti (pc := 142) X fp_12_225 kl0 rfl (by decide +kernel) eh12 ?_
              refine v_iconst (pc := 145) (n := 1) X (by decide +kernel) ic_1 ?_
              cases hf
              exact v_zret (hz := rfl) X Y (by decide +kernel) rfl rfl
            · rw [if_pos q13] at hf
              refine v_iconst (pc := 123) (n := 0) X (by decide +kernel) ic_0 ?_
              cases hf
              exact v_zret (hz := rfl) X Y (by decide +kernel) rfl rfl
          · rw [if_pos q14] at hf
            refine v_iconst (pc := 101) (n := 0) X (by decide +kernel) ic_0 ?_
            cases hf
            exact v_zret (hz := rfl) X Y (by decide +kernel) rfl rfl
        · rw [if_pos q15] at hf
          refine v_iconst (pc := 79) (n := 0) X (by decide +kernel) ic_0 ?_
          cases hf
          exact v_zret (hz := rfl) X Y (by decide +kernel) rfl rfl
      · rw [if_pos q16] at hf
        refine v_iconst (pc := 55) (n := 0) X (by decide +kernel) ic_0 ?_
        cases hf
        exact v_zret (hz := rfl) X Y (by decide +kernel) rfl rfl
    · rw [if_pos q17] at hf
      refine v_iconst (pc := 36) (n := 0) X (by decide +kernel) ic_0 ?_
      cases hf
      exact v_zret (hz := rfl) X Y (by decide +kernel) rfl rfl
  · rw [if_pos q20] at hf
    refine v_aload_n (pc := 9) (k := 0) X (by decide +kernel) 0 rfl ?_
    refine v_iconst (pc := 10) (n := 2) X (by decide +kernel) ic_2 ?_
    obtain ⟨r18, er18, hf⟩ := nmd_e hf
    refine v_callV (pc := 11) (As := [.int (2 : Int32)]) (rest := []) X (mt_Md_wrong ok hi kl0 er18.symm) ml_12_202 mv_Md_wrong kl0 cls_12 rfl ⟨Nat.le_of_ble_eq_true rfl, Nat.le_of_ble_eq_true rfl⟩ rfl rfl (Nat.le_of_ble_eq_true rfl) (by decide +kernel) ?_
    change V E g tb ρ 2 14 [(0, .ref (ρ l0))] [.int r18.1] r18.2
    obtain ⟨x19, ex19, hf⟩ := bnd_e hf
    obtain ⟨bx19, rfl⟩ := cZ_e ex19
    cases hf
    exact v_zret (hz := bx19) X Y (by decide +kernel) rfl rfl
def f_Md_lapLine (tb : Tb) (h : Hp) (l0 : Nat) : Option (Int32 × Hp) :=
  if (h.1 l0 19) = (12 : Int32) then (
    nmd (f_Md_wrong tb h l0 (2 : Int32)) fun r13 =>
    (cZ r13.1).bind fun x14 =>
    some (x14, r13.2)
  ) else (
    (f_Md_token tb h l0).bind fun r1 =>
    nmd ((12 : Int32) + (r1.1 l0 19)) fun x2 =>
    (f_Md_thereIn tb r1 l0 (lay tb l0 29) (6 : Int32) (r1.1 l0 18)).bind fun r3 =>
    if r3.1 = (0 : Int32) then (
      some ((0 : Int32), r3.2)
    ) else (
      (wI tb r3.2 (lay tb l0 34) x2 (r3.2.1 l0 11)).bind fun h4 =>
      (f_Md_thereIn tb h4 l0 (lay tb l0 25) (6 : Int32) (h4.1 l0 17)).bind fun r5 =>
      if r5.1 = (0 : Int32) then (
        some ((0 : Int32), r5.2)
      ) else (
        (wI tb r5.2 (lay tb l0 35) x2 (r5.2.1 l0 11)).bind fun h6 =>
        (f_Md_number tb h6 l0 (0 : Int32) (99 : Int32)).bind fun r7 =>
        if r7.1 = (0 : Int32) then (
          some ((0 : Int32), r7.2)
        ) else (
          (wI tb r7.2 (lay tb l0 36) x2 (r7.2.1 l0 11)).bind fun h8 =>
          nmd (pI h8 l0 19 ((h8.1 l0 19) + (1 : Int32))) fun h9 =>
          some ((1 : Int32), h9)
        )
      )
    )
  )
set_option maxRecDepth 4000 in
set_option maxHeartbeats 1000000 in
theorem mt_Md_lapLine {g : Gl} {tb : Tb} {ρ : Nat → Nat} (ok : TbOK tb) (hi : inj tb ρ) {h : Hp} {l0 : Nat} (kl0 : kd tb l0 = 12) {r : Int32 × Hp} (hf : f_Md_lapLine tb h l0 = some r) : MT g y_Md_lapLine prog_14_method_26_code 2 (some .boolean) 3 71 tb ρ [.ref (ρ l0)] h (some (.int r.1)) r.2 := by
  refine mt_intro (by decide +kernel) ok hi (Nat.le_of_ble_eq_true rfl) (fun E X Y => ?_)
  change V E g tb ρ 2 0 [(0, .ref (ρ l0))] [] h
  unfold f_Md_lapLine at hf
  refine v_aload_n (pc := 0) (k := 0) X (by decide +kernel) 0 rfl ?_
  refine v_geti (pc := 1) X fl_12_228 kl0 rfl (by decide +kernel) ?_
  refine v_bipush (pc := 4) (n := 12) X (by decide +kernel) bi_12 ?_
  refine v_icmp_ne (pc := 6) (off := 9) (tgt := 15) X (by decide +kernel) (by decide) (fun q15 => ?_) (fun q15 => ?_)
  · rw [if_neg q15] at hf
    refine v_aload_n (pc := 15) (k := 0) X (by decide +kernel) 0 rfl ?_
    obtain ⟨r1, er1, hf⟩ := bnd_e hf
    refine v_callV (pc := 16) (As := []) (rest := []) X (mt_Md_token ok hi kl0 er1) ml_12_212 mv_Md_token kl0 cls_12 rfl ⟨Nat.le_of_ble_eq_true rfl, Nat.le_of_ble_eq_true rfl⟩ rfl rfl (Nat.le_of_ble_eq_true rfl) (by decide +kernel) ?_
    change V E g tb ρ 2 19 [(0, .ref (ρ l0))] [] r1
    refine v_bipush (pc := 19) (n := 12) X (by decide +kernel) bi_12 ?_
    refine v_aload_n (pc := 21) (k := 0) X (by decide +kernel) 0 rfl ?_
    refine v_geti (pc := 22) X fl_12_228 kl0 rfl (by decide +kernel) ?_
    refine v_iadd (pc := 25) X (by decide +kernel) ?_
    obtain ⟨x2, ex2, hf⟩ := nmd_e hf
    refine v_nmi ex2 ?_
    refine v_istore_n (pc := 26) (k := 1) (lv' := [(1, .int x2), (0, .ref (ρ l0))]) X (by decide +kernel) (Nat.le_of_ble_eq_true rfl) rfl ?_
    refine v_aload_n (pc := 27) (k := 0) X (by decide +kernel) 1 rfl ?_
    refine v_aload_n (pc := 28) (k := 0) X (by decide +kernel) 1 rfl ?_
    refine v_geta (pc := 29) X fl_12_39 kl0 fk_12_29 (by decide +kernel) ?_
    refine v_bipush (pc := 32) (n := 6) X (by decide +kernel) bi_6 ?_
    refine v_aload_n (pc := 34) (k := 0) X (by decide +kernel) 1 rfl ?_
    refine v_geti (pc := 35) X fl_12_225 kl0 rfl (by decide +kernel) ?_
    obtain ⟨r3, er3, hf⟩ := bnd_e hf
    refine v_callV (pc := 38) (As := [.ref (ρ (lay tb l0 29)), .int (6 : Int32), .int (r1.1 l0 18)]) (rest := []) X (mt_Md_thereIn ok hi kl0 (ly_12_29 ok kl0) er3) ml_12_273 mv_Md_thereIn kl0 cls_12 rfl ⟨Nat.le_of_ble_eq_true rfl, Nat.le_of_ble_eq_true rfl⟩ rfl rfl (Nat.le_of_ble_eq_true rfl) (by decide +kernel) ?_
    change V E g tb ρ 2 41 [(1, .int x2), (0, .ref (ρ l0))] [.int r3.1] r3.2
    refine v_if_ne (pc := 41) (off := 5) (tgt := 46) X (by decide +kernel) (by decide) (fun q12 => ?_) (fun q12 => ?_)
    · rw [if_neg q12] at hf
      refine v_aload_n (pc := 46) (k := 0) X (by decide +kernel) 1 rfl ?_
      refine v_geta (pc := 47) X fl_12_54 kl0 fk_12_34 (by decide +kernel) ?_
      refine v_iload_n (pc := 50) (k := 1) X (by decide +kernel) 0 rfl ?_
      refine v_aload_n (pc := 51) (k := 0) X (by decide +kernel) 1 rfl ?_
      refine v_geti (pc := 52) X fl_12_209 kl0 rfl (by decide +kernel) ?_
      obtain ⟨h4, eh4, hf⟩ := bnd_e hf
      refine v_iast (pc := 55) X (ly_12_34 ok kl0) eh4 (by decide +kernel) ?_
      refine v_aload_n (pc := 56) (k := 0) X (by decide +kernel) 1 rfl ?_
      refine v_aload_n (pc := 57) (k := 0) X (by decide +kernel) 1 rfl ?_
      refine v_geta (pc := 58) X fl_12_27 kl0 fk_12_25 (by decide +kernel) ?_
      refine v_bipush (pc := 61) (n := 6) X (by decide +kernel) bi_6 ?_
      refine v_aload_n (pc := 63) (k := 0) X (by decide +kernel) 1 rfl ?_
      refine v_geti (pc := 64) X fl_12_222 kl0 rfl (by decide +kernel) ?_
      obtain ⟨r5, er5, hf⟩ := bnd_e hf
      refine v_callV (pc := 67) (As := [.ref (ρ (lay tb l0 25)), .int (6 : Int32), .int (h4.1 l0 17)]) (rest := []) X (mt_Md_thereIn ok hi kl0 (ly_12_25 ok kl0) er5) ml_12_273 mv_Md_thereIn kl0 cls_12 rfl ⟨Nat.le_of_ble_eq_true rfl, Nat.le_of_ble_eq_true rfl⟩ rfl rfl (Nat.le_of_ble_eq_true rfl) (by decide +kernel) ?_
      change V E g tb ρ 2 70 [(1, .int x2), (0, .ref (ρ l0))] [.int r5.1] r5.2
      refine v_if_ne (pc := 70) (off := 5) (tgt := 75) X (by decide +kernel) (by decide) (fun q11 => ?_) (fun q11 => ?_)
      · rw [if_neg q11] at hf
        refine v_aload_n (pc := 75) (k := 0) X (by decide +kernel) 1 rfl ?_
        refine v_geta (pc := 76) X fl_12_57 kl0 fk_12_35 (by decide +kernel) ?_
        refine v_iload_n (pc := 79) (k := 1) X (by decide +kernel) 0 rfl ?_
        refine v_aload_n (pc := 80) (k := 0) X (by decide +kernel) 1 rfl ?_
        refine v_geti (pc := 81) X fl_12_209 kl0 rfl (by decide +kernel) ?_
        obtain ⟨h6, eh6, hf⟩ := bnd_e hf
        refine v_iast (pc := 84) X (ly_12_35 ok kl0) eh6 (by decide +kernel) ?_
        refine v_aload_n (pc := 85) (k := 0) X (by decide +kernel) 1 rfl ?_
        refine v_iconst (pc := 86) (n := 0) X (by decide +kernel) ic_0 ?_
        refine v_bipush (pc := 87) (n := 99) X (by decide +kernel) bi_99 ?_
        obtain ⟨r7, er7, hf⟩ := bnd_e hf
        refine v_callV (pc := 89) (As := [.int (0 : Int32), .int (99 : Int32)]) (rest := []) X (mt_Md_number ok hi kl0 er7) ml_12_218 mv_Md_number kl0 cls_12 rfl ⟨Nat.le_of_ble_eq_true rfl, Nat.le_of_ble_eq_true rfl⟩ rfl rfl (Nat.le_of_ble_eq_true rfl) (by decide +kernel) ?_
        change V E g tb ρ 2 92 [(1, .int x2), (0, .ref (ρ l0))] [.int r7.1] r7.2
        refine v_if_ne (pc := 92) (off := 5) (tgt := 97) X (by decide +kernel) (by decide) (fun q10 => ?_) (fun q10 => ?_)
        · rw [if_neg q10] at hf
          refine v_aload_n (pc := 97) (k := 0) X (by decide +kernel) 1 rfl ?_
          refine v_geta (pc := 98) X fl_12_60 kl0 fk_12_36 (by decide +kernel) ?_
          refine v_iload_n (pc := 101) (k := 1) X (by decide +kernel) 0 rfl ?_
          refine v_aload_n (pc := 102) (k := 0) X (by decide +kernel) 1 rfl ?_
          refine v_geti (pc := 103) X fl_12_209 kl0 rfl (by decide +kernel) ?_
          obtain ⟨h8, eh8, hf⟩ := bnd_e hf
          refine v_iast (pc := 106) X (ly_12_36 ok kl0) eh8 (by decide +kernel) ?_
          refine v_aload_n (pc := 107) (k := 0) X (by decide +kernel) 1 rfl ?_
          refine v_dup (pc := 108) X (by decide +kernel) rfl ?_
          refine v_geti (pc := 109) X fl_12_228 kl0 rfl (by decide +kernel) ?_
          refine v_iconst (pc := 112) (n := 1) X (by decide +kernel) ic_1 ?_
          refine v_iadd (pc := 113) X (by decide +kernel) ?_
          obtain ⟨h9, eh9, hf⟩ := nmd_e hf
          refine v_puti (pc := 114) X fp_12_228 kl0 rfl (by decide +kernel) eh9 ?_
          refine v_iconst (pc := 117) (n := 1) X (by decide +kernel) ic_1 ?_
          cases hf
          exact v_zret (hz := rfl) X Y (by decide +kernel) rfl rfl
        · rw [if_pos q10] at hf
          refine v_iconst (pc := 95) (n := 0) X (by decide +kernel) ic_0 ?_
          cases hf
          exact v_zret (hz := rfl) X Y (by decide +kernel) rfl rfl
      · rw [if_pos q11] at hf
        refine v_iconst (pc := 73) (n := 0) X (by decide +kernel) ic_0 ?_
        cases hf
        exact v_zret (hz := rfl) X Y (by decide +kernel) rfl rfl
    · rw [if_pos q12] at hf
      refine v_iconst (pc := 44) (n := 0) X (by decide +kernel) ic_0 ?_
      cases hf
      exact v_zret (hz := rfl) X Y (by decide +kernel) rfl rfl
  · rw [if_pos q15] at hf
    refine v_aload_n (pc := 9) (k := 0) X (by decide +kernel) 0 rfl ?_
    refine v_iconst (pc := 10) (n := 2) X (by decide +kernel) ic_2 ?_
    obtain ⟨r13, er13, hf⟩ := nmd_e hf
    refine v_callV (pc := 11) (As := [.int (2 : Int32)]) (rest := []) X (mt_Md_wrong ok hi kl0 er13.symm) ml_12_202 mv_Md_wrong kl0 cls_12 rfl ⟨Nat.le_of_ble_eq_true rfl, Nat.le_of_ble_eq_true rfl⟩ rfl rfl (Nat.le_of_ble_eq_true rfl) (by decide +kernel) ?_
    change V E g tb ρ 2 14 [(0, .ref (ρ l0))] [.int r13.1] r13.2
    obtain ⟨x14, ex14, hf⟩ := bnd_e hf
    obtain ⟨bx14, rfl⟩ := cZ_e ex14
    cases hf
    exact v_zret (hz := bx14) X Y (by decide +kernel) rfl rfl
def f_Md_onceLine (tb : Tb) (h : Hp) (l0 : Nat) (l1 : Int32) (l2 : Int32) : Option (Int32 × Hp) :=
  (rI tb h (lay tb l0 23) l1).bind fun x1 =>
  if x1 = (0 : Int32) then (
    (wZ tb h (lay tb l0 23) l1 (1 : Int32)).bind fun h2 =>
    (f_Md_token tb h2 l0).bind fun r3 =>
    (f_Md_number tb r3 l0 (0 : Int32) l2).bind fun r4 =>
    if r4.1 = (0 : Int32) then (
      some ((0 : Int32), r4.2)
    ) else (
      (wI tb r4.2 (lay tb l0 24) ((2 : Int32) + l1) (r4.2.1 l0 11)).bind fun h5 =>
      some ((1 : Int32), h5)
    )
  ) else (
    nmd (f_Md_wrong tb h l0 (3 : Int32)) fun r7 =>
    (cZ r7.1).bind fun x8 =>
    some (x8, r7.2)
  )
set_option maxRecDepth 4000 in
set_option maxHeartbeats 1000000 in
theorem mt_Md_onceLine {g : Gl} {tb : Tb} {ρ : Nat → Nat} (ok : TbOK tb) (hi : inj tb ρ) {h : Hp} {l0 : Nat} {l1 : Int32} {l2 : Int32} (kl0 : kd tb l0 = 12) {r : Int32 × Hp} (hf : f_Md_onceLine tb h l0 l1 l2 = some r) : MT g y_Md_onceLine prog_14_method_27_code 3 (some .boolean) 3 69 tb ρ [.ref (ρ l0), .int l1, .int l2] h (some (.int r.1)) r.2 := by
  refine mt_intro (by decide +kernel) ok hi (Nat.le_of_ble_eq_true rfl) (fun E X Y => ?_)
  change V E g tb ρ 3 0 [(0, .ref (ρ l0)), (1, .int l1), (2, .int l2)] [] h
  unfold f_Md_onceLine at hf
  refine v_aload_n (pc := 0) (k := 0) X (by decide +kernel) 0 rfl ?_
  refine v_geta (pc := 1) X fl_12_20 kl0 fk_12_23 (by decide +kernel) ?_
  refine v_iload_n (pc := 4) (k := 1) X (by decide +kernel) 1 rfl ?_
  obtain ⟨x1, ex1, hf⟩ := bnd_e hf
  refine v_zald (pc := 5) X (ly_12_23 ok kl0) ex1 (by decide +kernel) ?_
  refine v_if_eq (pc := 6) (off := 9) (tgt := 15) X (by decide +kernel) (by decide) (fun q9 => ?_) (fun q9 => ?_)
  · rw [if_pos q9] at hf
    refine v_aload_n (pc := 15) (k := 0) X (by decide +kernel) 0 rfl ?_
    refine v_geta (pc := 16) X fl_12_20 kl0 fk_12_23 (by decide +kernel) ?_
    refine v_iload_n (pc := 19) (k := 1) X (by decide +kernel) 1 rfl ?_
    refine v_iconst (pc := 20) (n := 1) X (by decide +kernel) ic_1 ?_
    obtain ⟨h2, eh2, hf⟩ := bnd_e hf
    refine v_zast (pc := 21) X (ly_12_23 ok kl0) eh2 (by decide +kernel) ?_
    refine v_aload_n (pc := 22) (k := 0) X (by decide +kernel) 0 rfl ?_
    obtain ⟨r3, er3, hf⟩ := bnd_e hf
    refine v_callV (pc := 23) (As := []) (rest := []) X (mt_Md_token ok hi kl0 er3) ml_12_212 mv_Md_token kl0 cls_12 rfl ⟨Nat.le_of_ble_eq_true rfl, Nat.le_of_ble_eq_true rfl⟩ rfl rfl (Nat.le_of_ble_eq_true rfl) (by decide +kernel) ?_
    change V E g tb ρ 3 26 [(0, .ref (ρ l0)), (1, .int l1), (2, .int l2)] [] r3
    refine v_aload_n (pc := 26) (k := 0) X (by decide +kernel) 0 rfl ?_
    refine v_iconst (pc := 27) (n := 0) X (by decide +kernel) ic_0 ?_
    refine v_iload_n (pc := 28) (k := 2) X (by decide +kernel) 2 rfl ?_
    obtain ⟨r4, er4, hf⟩ := bnd_e hf
    refine v_callV (pc := 29) (As := [.int (0 : Int32), .int l2]) (rest := []) X (mt_Md_number ok hi kl0 er4) ml_12_218 mv_Md_number kl0 cls_12 rfl ⟨Nat.le_of_ble_eq_true rfl, Nat.le_of_ble_eq_true rfl⟩ rfl rfl (Nat.le_of_ble_eq_true rfl) (by decide +kernel) ?_
    change V E g tb ρ 3 32 [(0, .ref (ρ l0)), (1, .int l1), (2, .int l2)] [.int r4.1] r4.2
    refine v_if_ne (pc := 32) (off := 5) (tgt := 37) X (by decide +kernel) (by decide) (fun q6 => ?_) (fun q6 => ?_)
    · rw [if_neg q6] at hf
      refine v_aload_n (pc := 37) (k := 0) X (by decide +kernel) 0 rfl ?_
      refine v_geta (pc := 38) X fl_12_24 kl0 fk_12_24 (by decide +kernel) ?_
      refine v_iconst (pc := 41) (n := 2) X (by decide +kernel) ic_2 ?_
      refine v_iload_n (pc := 42) (k := 1) X (by decide +kernel) 1 rfl ?_
      refine v_iadd (pc := 43) X (by decide +kernel) ?_
      refine v_aload_n (pc := 44) (k := 0) X (by decide +kernel) 0 rfl ?_
      refine v_geti (pc := 45) X fl_12_209 kl0 rfl (by decide +kernel) ?_
      obtain ⟨h5, eh5, hf⟩ := bnd_e hf
      refine v_iast (pc := 48) X (ly_12_24 ok kl0) eh5 (by decide +kernel) ?_
      refine v_iconst (pc := 49) (n := 1) X (by decide +kernel) ic_1 ?_
      cases hf
      exact v_zret (hz := rfl) X Y (by decide +kernel) rfl rfl
    · rw [if_pos q6] at hf
      refine v_iconst (pc := 35) (n := 0) X (by decide +kernel) ic_0 ?_
      cases hf
      exact v_zret (hz := rfl) X Y (by decide +kernel) rfl rfl
  · rw [if_neg q9] at hf
    refine v_aload_n (pc := 9) (k := 0) X (by decide +kernel) 0 rfl ?_
    refine v_iconst (pc := 10) (n := 3) X (by decide +kernel) ic_3 ?_
    obtain ⟨r7, er7, hf⟩ := nmd_e hf
    refine v_callV (pc := 11) (As := [.int (3 : Int32)]) (rest := []) X (mt_Md_wrong ok hi kl0 er7.symm) ml_12_202 mv_Md_wrong kl0 cls_12 rfl ⟨Nat.le_of_ble_eq_true rfl, Nat.le_of_ble_eq_true rfl⟩ rfl rfl (Nat.le_of_ble_eq_true rfl) (by decide +kernel) ?_
    change V E g tb ρ 3 14 [(0, .ref (ρ l0)), (1, .int l1), (2, .int l2)] [.int r7.1] r7.2
    obtain ⟨x8, ex8, hf⟩ := bnd_e hf
    obtain ⟨bx8, rfl⟩ := cZ_e ex8
    cases hf
    exact v_zret (hz := bx8) X Y (by decide +kernel) rfl rfl
def f_Md_waitsFor (tb : Tb) (h : Hp) (l0 : Nat) (l1 : Int32) : Option (Hp) :=
  (wI tb h (lay tb l0 43) (h.1 l0 45) l1).bind fun h1 =>
  nmd (pI h1 l0 45 ((h1.1 l0 45) + (1 : Int32))) fun h2 =>
  some h2
set_option maxRecDepth 4000 in
set_option maxHeartbeats 1000000 in
theorem mt_Md_waitsFor {g : Gl} {tb : Tb} {ρ : Nat → Nat} (ok : TbOK tb) (hi : inj tb ρ) {h : Hp} {l0 : Nat} {l1 : Int32} (kl0 : kd tb l0 = 12) {r : Hp} (hf : f_Md_waitsFor tb h l0 l1 = some r) : MT g y_Md_waitsFor prog_14_method_37_code 2 none 0 0 tb ρ [.ref (ρ l0), .int l1] h (none) r := by
  refine mt_intro (by decide +kernel) ok hi (Nat.le_of_ble_eq_true rfl) (fun E X Y => ?_)
  change V E g tb ρ 2 0 [(0, .ref (ρ l0)), (1, .int l1)] [] h
  unfold f_Md_waitsFor at hf
  refine v_aload_n (pc := 0) (k := 0) X (by decide +kernel) 0 rfl ?_
  refine v_geta (pc := 1) X fl_12_81 kl0 fk_12_43 (by decide +kernel) ?_
  refine v_aload_n (pc := 4) (k := 0) X (by decide +kernel) 0 rfl ?_
  refine v_geti (pc := 5) X fl_12_301 kl0 rfl (by decide +kernel) ?_
  refine v_iload_n (pc := 8) (k := 1) X (by decide +kernel) 1 rfl ?_
  obtain ⟨h1, eh1, hf⟩ := bnd_e hf
  refine v_iast (pc := 9) X (ly_12_43 ok kl0) eh1 (by decide +kernel) ?_
  refine v_aload_n (pc := 10) (k := 0) X (by decide +kernel) 0 rfl ?_
  refine v_dup (pc := 11) X (by decide +kernel) rfl ?_
  refine v_geti (pc := 12) X fl_12_301 kl0 rfl (by decide +kernel) ?_
  refine v_iconst (pc := 15) (n := 1) X (by decide +kernel) ic_1 ?_
  refine v_iadd (pc := 16) X (by decide +kernel) ?_
  obtain ⟨h2, eh2, hf⟩ := nmd_e hf
  refine v_puti (pc := 17) X fp_12_301 kl0 rfl (by decide +kernel) eh2 ?_
  cases hf
  exact v_vret X Y (by decide +kernel) rfl rfl
def f_Md_isCounted (tb : Tb) (h : Hp) (l0 : Nat) : Option (Int32 × Hp) :=
  if (h.1 l0 48) = (64 : Int32) then (
    nmd (f_Md_wrong tb h l0 (2 : Int32)) fun r2 =>
    (cZ r2.1).bind fun x3 =>
    some (x3, r2.2)
  ) else (
    nmd (pI h l0 48 ((h.1 l0 48) + (1 : Int32))) fun h1 =>
    some ((1 : Int32), h1)
  )
set_option maxRecDepth 4000 in
set_option maxHeartbeats 1000000 in
theorem mt_Md_isCounted {g : Gl} {tb : Tb} {ρ : Nat → Nat} (ok : TbOK tb) (hi : inj tb ρ) {h : Hp} {l0 : Nat} (kl0 : kd tb l0 = 12) {r : Int32 × Hp} (hf : f_Md_isCounted tb h l0 = some r) : MT g y_Md_isCounted prog_14_method_36_code 1 (some .boolean) 1 21 tb ρ [.ref (ρ l0)] h (some (.int r.1)) r.2 := by
  refine mt_intro (by decide +kernel) ok hi (Nat.le_of_ble_eq_true rfl) (fun E X Y => ?_)
  change V E g tb ρ 1 0 [(0, .ref (ρ l0))] [] h
  unfold f_Md_isCounted at hf
  refine v_aload_n (pc := 0) (k := 0) X (by decide +kernel) 0 rfl ?_
  refine v_geti (pc := 1) X fl_12_240 kl0 rfl (by decide +kernel) ?_
  refine v_bipush (pc := 4) (n := 64) X (by decide +kernel) bi_64 ?_
  refine v_icmp_ne (pc := 6) (off := 9) (tgt := 15) X (by decide +kernel) (by decide) (fun q4 => ?_) (fun q4 => ?_)
  · rw [if_neg q4] at hf
    refine v_aload_n (pc := 15) (k := 0) X (by decide +kernel) 0 rfl ?_
    refine v_dup (pc := 16) X (by decide +kernel) rfl ?_
    refine v_geti (pc := 17) X fl_12_240 kl0 rfl (by decide +kernel) ?_
    refine v_iconst (pc := 20) (n := 1) X (by decide +kernel) ic_1 ?_
    refine v_iadd (pc := 21) X (by decide +kernel) ?_
    obtain ⟨h1, eh1, hf⟩ := nmd_e hf
    refine v_puti (pc := 22) X fp_12_240 kl0 rfl (by decide +kernel) eh1 ?_
    refine v_iconst (pc := 25) (n := 1) X (by decide +kernel) ic_1 ?_
    cases hf
    exact v_zret (hz := rfl) X Y (by decide +kernel) rfl rfl
  · rw [if_pos q4] at hf
    refine v_aload_n (pc := 9) (k := 0) X (by decide +kernel) 0 rfl ?_
    refine v_iconst (pc := 10) (n := 2) X (by decide +kernel) ic_2 ?_
    obtain ⟨r2, er2, hf⟩ := nmd_e hf
    refine v_callV (pc := 11) (As := [.int (2 : Int32)]) (rest := []) X (mt_Md_wrong ok hi kl0 er2.symm) ml_12_202 mv_Md_wrong kl0 cls_12 rfl ⟨Nat.le_of_ble_eq_true rfl, Nat.le_of_ble_eq_true rfl⟩ rfl rfl (Nat.le_of_ble_eq_true rfl) (by decide +kernel) ?_
    change V E g tb ρ 1 14 [(0, .ref (ρ l0))] [.int r2.1] r2.2
    obtain ⟨x3, ex3, hf⟩ := bnd_e hf
    obtain ⟨bx3, rfl⟩ := cZ_e ex3
    cases hf
    exact v_zret (hz := bx3) X Y (by decide +kernel) rfl rfl
def f_Md_nameMet (tb : Tb) (h : Hp) (l0 : Nat) : Int32 :=
  if (h.1 l0 8) = (1 : Int32) then (
    if (h.1 l0 9) < (13 : Int32) then (
      (-1 : Int32)
    ) else (
      (h.1 l0 9) - (13 : Int32)
    )
  ) else (
    (-1 : Int32)
  )
set_option maxRecDepth 4000 in
set_option maxHeartbeats 1000000 in
theorem mt_Md_nameMet {g : Gl} {tb : Tb} {ρ : Nat → Nat} (ok : TbOK tb) (hi : inj tb ρ) {h : Hp} {l0 : Nat} (kl0 : kd tb l0 = 12) {r : Int32} (hf : f_Md_nameMet tb h l0 = r) : MT g y_Md_nameMet prog_14_method_38_code 1 (some .int) 0 0 tb ρ [.ref (ρ l0)] h (some (.int r)) h := by
  refine mt_intro (by decide +kernel) ok hi (Nat.le_of_ble_eq_true rfl) (fun E X Y => ?_)
  change V E g tb ρ 1 0 [(0, .ref (ρ l0))] [] h
  unfold f_Md_nameMet at hf
  refine v_aload_n (pc := 0) (k := 0) X (by decide +kernel) 0 rfl ?_
  refine v_geti (pc := 1) X fl_12_178 kl0 rfl (by decide +kernel) ?_
  refine v_iconst (pc := 4) (n := 1) X (by decide +kernel) ic_1 ?_
  refine v_icmp_ne (pc := 5) (off := 22) (tgt := 27) X (by decide +kernel) (by decide) (fun q2 => ?_) (fun q2 => ?_)
  · rw [if_neg q2] at hf
    refine v_iconst (pc := 27) (n := -1) X (by decide +kernel) ic_m1 ?_
    cases hf
    exact v_iret X Y (by decide +kernel) rfl rfl
  · rw [if_pos q2] at hf
    refine v_aload_n (pc := 8) (k := 0) X (by decide +kernel) 0 rfl ?_
    refine v_geti (pc := 9) X fl_12_189 kl0 rfl (by decide +kernel) ?_
    refine v_bipush (pc := 12) (n := 13) X (by decide +kernel) bi_13 ?_
    refine v_icmp_lt (pc := 14) (off := 13) (tgt := 27) X (by decide +kernel) (by decide) (fun q1 => ?_) (fun q1 => ?_)
    · rw [if_pos q1] at hf
      refine v_iconst (pc := 27) (n := -1) X (by decide +kernel) ic_m1 ?_
      cases hf
      exact v_iret X Y (by decide +kernel) rfl rfl
    · rw [if_neg q1] at hf
      refine v_aload_n (pc := 17) (k := 0) X (by decide +kernel) 0 rfl ?_
      refine v_geti (pc := 18) X fl_12_189 kl0 rfl (by decide +kernel) ?_
      refine v_bipush (pc := 21) (n := 13) X (by decide +kernel) bi_13 ?_
      refine v_isub (pc := 23) X (by decide +kernel) ?_
      refine v_goto (pc := 24) (off := 4) (tgt := 28) X (by decide +kernel) (by decide) ?_
      cases hf
      exact v_iret X Y (by decide +kernel) rfl rfl
def f_Md_grown (tb : Tb) (h : Hp) (l0 : Nat) (l1 : Int32) (l2 : Int32) (l3 : Int32) : Option (Hp) :=
  (wI tb h (lay tb l0 40) ((64 : Int32) + (h.1 l0 22)) l1).bind fun h1 =>
  (wI tb h1 (lay tb l0 41) ((64 : Int32) + (h1.1 l0 22)) l2).bind fun h2 =>
  (wI tb h2 (lay tb l0 42) ((64 : Int32) + (h2.1 l0 22)) l3).bind fun h3 =>
  (wI tb h3 (lay tb l0 44) (h3.1 l0 46) (h3.1 l0 22)).bind fun h4 =>
  nmd (pI h4 l0 46 ((h4.1 l0 46) + (1 : Int32))) fun h5 =>
  nmd (pI h5 l0 22 ((h5.1 l0 22) + (1 : Int32))) fun h6 =>
  some h6
set_option maxRecDepth 4000 in
set_option maxHeartbeats 1000000 in
theorem mt_Md_grown {g : Gl} {tb : Tb} {ρ : Nat → Nat} (ok : TbOK tb) (hi : inj tb ρ) {h : Hp} {l0 : Nat} {l1 : Int32} {l2 : Int32} {l3 : Int32} (kl0 : kd tb l0 = 12) {r : Hp} (hf : f_Md_grown tb h l0 l1 l2 l3 = some r) : MT g y_Md_grown prog_14_method_33_code 4 none 0 0 tb ρ [.ref (ρ l0), .int l1, .int l2, .int l3] h (none) r := by
  refine mt_intro (by decide +kernel) ok hi (Nat.le_of_ble_eq_true rfl) (fun E X Y => ?_)
  change V E g tb ρ 4 0 [(0, .ref (ρ l0)), (1, .int l1), (2, .int l2), (3, .int l3)] [] h
  unfold f_Md_grown at hf
  refine v_aload_n (pc := 0) (k := 0) X (by decide +kernel) 0 rfl ?_
  refine v_geta (pc := 1) X fl_12_72 kl0 fk_12_40 (by decide +kernel) ?_
  refine v_bipush (pc := 4) (n := 64) X (by decide +kernel) bi_64 ?_
  refine v_aload_n (pc := 6) (k := 0) X (by decide +kernel) 0 rfl ?_
  refine v_geti (pc := 7) X fl_12_237 kl0 rfl (by decide +kernel) ?_
  refine v_iadd (pc := 10) X (by decide +kernel) ?_
  refine v_iload_n (pc := 11) (k := 1) X (by decide +kernel) 1 rfl ?_
  obtain ⟨h1, eh1, hf⟩ := bnd_e hf
  refine v_iast (pc := 12) X (ly_12_40 ok kl0) eh1 (by decide +kernel) ?_
  refine v_aload_n (pc := 13) (k := 0) X (by decide +kernel) 0 rfl ?_
  refine v_geta (pc := 14) X fl_12_75 kl0 fk_12_41 (by decide +kernel) ?_
  refine v_bipush (pc := 17) (n := 64) X (by decide +kernel) bi_64 ?_
  refine v_aload_n (pc := 19) (k := 0) X (by decide +kernel) 0 rfl ?_
  refine v_geti (pc := 20) X fl_12_237 kl0 rfl (by decide +kernel) ?_
  refine v_iadd (pc := 23) X (by decide +kernel) ?_
  refine v_iload_n (pc := 24) (k := 2) X (by decide +kernel) 2 rfl ?_
  obtain ⟨h2, eh2, hf⟩ := bnd_e hf
  refine v_iast (pc := 25) X (ly_12_41 ok kl0) eh2 (by decide +kernel) ?_
  refine v_aload_n (pc := 26) (k := 0) X (by decide +kernel) 0 rfl ?_
  refine v_geta (pc := 27) X fl_12_78 kl0 fk_12_42 (by decide +kernel) ?_
  refine v_bipush (pc := 30) (n := 64) X (by decide +kernel) bi_64 ?_
  refine v_aload_n (pc := 32) (k := 0) X (by decide +kernel) 0 rfl ?_
  refine v_geti (pc := 33) X fl_12_237 kl0 rfl (by decide +kernel) ?_
  refine v_iadd (pc := 36) X (by decide +kernel) ?_
  refine v_iload_n (pc := 37) (k := 3) X (by decide +kernel) 3 rfl ?_
  obtain ⟨h3, eh3, hf⟩ := bnd_e hf
  refine v_iast (pc := 38) X (ly_12_42 ok kl0) eh3 (by decide +kernel) ?_
  refine v_aload_n (pc := 39) (k := 0) X (by decide +kernel) 0 rfl ?_
  refine v_geta (pc := 40) X fl_12_84 kl0 fk_12_44 (by decide +kernel) ?_
  refine v_aload_n (pc := 43) (k := 0) X (by decide +kernel) 0 rfl ?_
  refine v_geti (pc := 44) X fl_12_298 kl0 rfl (by decide +kernel) ?_
  refine v_aload_n (pc := 47) (k := 0) X (by decide +kernel) 0 rfl ?_
  refine v_geti (pc := 48) X fl_12_237 kl0 rfl (by decide +kernel) ?_
  obtain ⟨h4, eh4, hf⟩ := bnd_e hf
  refine v_iast (pc := 51) X (ly_12_44 ok kl0) eh4 (by decide +kernel) ?_
  refine v_aload_n (pc := 52) (k := 0) X (by decide +kernel) 0 rfl ?_
  refine v_dup (pc := 53) X (by decide +kernel) rfl ?_
  refine v_geti (pc := 54) X fl_12_298 kl0 rfl (by decide +kernel) ?_
  refine v_iconst (pc := 57) (n := 1) X (by decide +kernel) ic_1 ?_
  refine v_iadd (pc := 58) X (by decide +kernel) ?_
  obtain ⟨h5, eh5, hf⟩ := nmd_e hf
  refine v_puti (pc := 59) X fp_12_298 kl0 rfl (by decide +kernel) eh5 ?_
  refine v_aload_n (pc := 62) (k := 0) X (by decide +kernel) 0 rfl ?_
  refine v_dup (pc := 63) X (by decide +kernel) rfl ?_
  refine v_geti (pc := 64) X fl_12_237 kl0 rfl (by decide +kernel) ?_
  refine v_iconst (pc := 67) (n := 1) X (by decide +kernel) ic_1 ?_
  refine v_iadd (pc := 68) X (by decide +kernel) ?_
  obtain ⟨h6, eh6, hf⟩ := nmd_e hf
  refine v_puti (pc := 69) X fp_12_237 kl0 rfl (by decide +kernel) eh6 ?_
  cases hf
  exact v_vret X Y (by decide +kernel) rfl rfl
def jb_Md_leafRead_160 (tb : Tb) (h : Hp) (l0 : Nat) (s0 : Nat) (s1 : Int32) (s2 : Int32) : Option (Int32 × Hp) :=
  (f_Md_grown tb h s0 s1 s2 (0 : Int32)).bind fun r1 =>
  nmd (pI r1 l0 49 (0 : Int32)) fun h2 =>
  (f_Md_token tb h2 l0).bind fun r3 =>
  some ((1 : Int32), r3)
def jb_Md_leafRead_148 (tb : Tb) (h : Hp) (l0 : Nat) (l1 : Int32) (s0 : Nat) (s1 : Int32) : Option (Int32 × Hp) :=
  if l1 < (0 : Int32) then (
    jb_Md_leafRead_160 tb h l0 s0 s1 (h.1 l0 9)
  ) else (
    jb_Md_leafRead_160 tb h l0 s0 s1 l1
  )
def jb_Md_leafRead_129 (tb : Tb) (h : Hp) (l0 : Nat) (l1 : Int32) : Option (Int32 × Hp) :=
  (f_Md_isCounted tb h l0).bind fun r1 =>
  if r1.1 = (0 : Int32) then (
    some ((0 : Int32), r1.2)
  ) else (
    if l1 < (0 : Int32) then (
      jb_Md_leafRead_148 tb r1.2 l0 l1 l0 (0 : Int32)
    ) else (
      jb_Md_leafRead_148 tb r1.2 l0 l1 l0 (1 : Int32)
    )
  )
def jb_Md_leafRead_109 (tb : Tb) (h : Hp) (l0 : Nat) (l1 : Int32) : Option (Int32 × Hp) :=
  if (0 : Int32) ≤ l1 then (
    jb_Md_leafRead_129 tb h l0 l1
  ) else (
    if (h.1 l0 9) ≤ (9999 : Int32) then (
      jb_Md_leafRead_129 tb h l0 l1
    ) else (
      nmd (f_Md_wrong tb h l0 (2 : Int32)) fun r1 =>
      (cZ r1.1).bind fun x2 =>
      some (x2, r1.2)
    )
  )
def jb_Md_leafRead_86 (tb : Tb) (h : Hp) (l0 : Nat) : Option (Int32 × Hp) :=
  nmd (f_Md_nameMet tb h l0) fun r1 =>
  if (0 : Int32) ≤ r1 then (
    jb_Md_leafRead_109 tb h l0 r1
  ) else (
    if (h.1 l0 8) = (3 : Int32) then (
      jb_Md_leafRead_109 tb h l0 r1
    ) else (
      nmd (f_Md_wrong tb h l0 (1 : Int32)) fun r2 =>
      (cZ r2.1).bind fun x3 =>
      some (x3, r2.2)
    )
  )
def f_Md_leafRead (tb : Tb) (h : Hp) (l0 : Nat) : Option (Int32 × Hp) :=
  nmd (f_Md_isSign tb h l0 (40 : Int32)) fun r1 =>
  if r1 = (0 : Int32) then (
    nmd (f_Md_isKey tb h l0 (12 : Int32)) fun r2 =>
    if r2 = (0 : Int32) then (
      jb_Md_leafRead_86 tb h l0
    ) else (
      if (h.1 l0 50) = (0 : Int32) then (
        jb_Md_leafRead_86 tb h l0
      ) else (
        (f_Md_isCounted tb h l0).bind fun r3 =>
        if r3.1 = (0 : Int32) then (
          some ((0 : Int32), r3.2)
        ) else (
          (f_Md_waitsFor tb r3.2 l0 (2 : Int32)).bind fun r4 =>
          (f_Md_token tb r4 l0).bind fun r5 =>
          some ((1 : Int32), r5)
        )
      )
    )
  ) else (
    if (h.1 l0 47) = (8 : Int32) then (
      nmd (f_Md_wrong tb h l0 (2 : Int32)) fun r13 =>
      (cZ r13.1).bind fun x14 =>
      some (x14, r13.2)
    ) else (
      nmd (pI h l0 47 ((h.1 l0 47) + (1 : Int32))) fun h9 =>
      (f_Md_waitsFor tb h9 l0 (0 : Int32)).bind fun r10 =>
      nmd (pI r10 l0 50 (1 : Int32)) fun h11 =>
      (f_Md_token tb h11 l0).bind fun r12 =>
      some ((1 : Int32), r12)
    )
  )
set_option maxRecDepth 4000 in
set_option maxHeartbeats 1000000 in
theorem vjb_Md_leafRead_160 {E : En} {g : Gl} {tb : Tb} {ρ : Nat → Nat} (ok : TbOK tb) (hi : inj tb ρ) {r : Int32 × Hp} (X : CX E g tb ρ prog_14_method_39_code 2 RC12 2 47) (Y : CQ E g tb ρ (some .boolean) (some (.int r.1)) r.2) (h : Hp) (l0 : Nat) (s0 : Nat) (s1 : Int32) (s2 : Int32) (kl0 : kd tb l0 = 12) (ks0 : kd tb s0 = 12) (hf : jb_Md_leafRead_160 tb h l0 s0 s1 s2 = some r) : V E g tb ρ 2 160 [(0, .ref (ρ l0))] [.int s2, .int s1, .ref (ρ s0)] h := by
  unfold jb_Md_leafRead_160 at hf
  refine v_iconst (pc := 160) (n := 0) X (by decide +kernel) ic_0 ?_
  obtain ⟨r1, er1, hf⟩ := bnd_e hf
  refine v_callV (pc := 161) (As := [.int s1, .int s2, .int (0 : Int32)]) (rest := []) X (mt_Md_grown ok hi ks0 er1) ml_12_312 mv_Md_grown ks0 cls_12 rfl ⟨Nat.le_of_ble_eq_true rfl, Nat.le_of_ble_eq_true rfl⟩ rfl rfl (Nat.le_of_ble_eq_true rfl) (by decide +kernel) ?_
  change V E g tb ρ 2 164 [(0, .ref (ρ l0))] [] r1
  refine v_aload_n (pc := 164) (k := 0) X (by decide +kernel) 0 rfl ?_
  refine v_iconst (pc := 165) (n := 0) X (by decide +kernel) ic_0 ?_
  obtain ⟨h2, eh2, hf⟩ := nmd_e hf
  refine v_putz (pc := 166) X fp_12_336 kl0 rfl rfl (by decide +kernel) eh2 ?_
  refine v_aload_n (pc := 169) (k := 0) X (by decide +kernel) 0 rfl ?_
  obtain ⟨r3, er3, hf⟩ := bnd_e hf
  refine v_callV (pc := 170) (As := []) (rest := []) X (mt_Md_token ok hi kl0 er3) ml_12_212 mv_Md_token kl0 cls_12 rfl ⟨Nat.le_of_ble_eq_true rfl, Nat.le_of_ble_eq_true rfl⟩ rfl rfl (Nat.le_of_ble_eq_true rfl) (by decide +kernel) ?_
  change V E g tb ρ 2 173 [(0, .ref (ρ l0))] [] r3
  refine v_iconst (pc := 173) (n := 1) X (by decide +kernel) ic_1 ?_
  cases hf
  exact v_zret (hz := rfl) X Y (by decide +kernel) rfl rfl
set_option maxRecDepth 4000 in
set_option maxHeartbeats 1000000 in
theorem vjb_Md_leafRead_148 {E : En} {g : Gl} {tb : Tb} {ρ : Nat → Nat} (ok : TbOK tb) (hi : inj tb ρ) {r : Int32 × Hp} (X : CX E g tb ρ prog_14_method_39_code 2 RC12 2 47) (Y : CQ E g tb ρ (some .boolean) (some (.int r.1)) r.2) (h : Hp) (l0 : Nat) (l1 : Int32) (s0 : Nat) (s1 : Int32) (kl0 : kd tb l0 = 12) (ks0 : kd tb s0 = 12) (hf : jb_Md_leafRead_148 tb h l0 l1 s0 s1 = some r) : V E g tb ρ 2 148 [(0, .ref (ρ l0)), (1, .int l1)] [.int s1, .ref (ρ s0)] h := by
  unfold jb_Md_leafRead_148 at hf
  refine v_iload_n (pc := 148) (k := 1) X (by decide +kernel) 1 rfl ?_
  refine v_if_lt (pc := 149) (off := 7) (tgt := 156) X (by decide +kernel) (by decide) (fun q1 => ?_) (fun q1 => ?_)
  · rw [if_pos q1] at hf
    refine v_aload_n (pc := 156) (k := 0) X (by decide +kernel) 0 rfl ?_
    refine v_geti (pc := 157) X fl_12_189 kl0 rfl (by decide +kernel) ?_
    refine v_sub [0] rfl ?_
    exact vjb_Md_leafRead_160 ok hi X Y h l0 s0 s1 (h.1 l0 9) kl0 ks0 hf
  · rw [if_neg q1] at hf
    refine v_iload_n (pc := 152) (k := 1) X (by decide +kernel) 1 rfl ?_
    refine v_goto (pc := 153) (off := 7) (tgt := 160) X (by decide +kernel) (by decide) ?_
    refine v_sub [0] rfl ?_
    exact vjb_Md_leafRead_160 ok hi X Y h l0 s0 s1 l1 kl0 ks0 hf
set_option maxRecDepth 4000 in
set_option maxHeartbeats 1000000 in
theorem vjb_Md_leafRead_129 {E : En} {g : Gl} {tb : Tb} {ρ : Nat → Nat} (ok : TbOK tb) (hi : inj tb ρ) {r : Int32 × Hp} (X : CX E g tb ρ prog_14_method_39_code 2 RC12 2 47) (Y : CQ E g tb ρ (some .boolean) (some (.int r.1)) r.2) (h : Hp) (l0 : Nat) (l1 : Int32) (kl0 : kd tb l0 = 12) (hf : jb_Md_leafRead_129 tb h l0 l1 = some r) : V E g tb ρ 2 129 [(0, .ref (ρ l0)), (1, .int l1)] [] h := by
  unfold jb_Md_leafRead_129 at hf
  refine v_aload_n (pc := 129) (k := 0) X (by decide +kernel) 0 rfl ?_
  obtain ⟨r1, er1, hf⟩ := bnd_e hf
  refine v_callV (pc := 130) (As := []) (rest := []) X (mt_Md_isCounted ok hi kl0 er1) ml_12_330 mv_Md_isCounted kl0 cls_12 rfl ⟨Nat.le_of_ble_eq_true rfl, Nat.le_of_ble_eq_true rfl⟩ rfl rfl (Nat.le_of_ble_eq_true rfl) (by decide +kernel) ?_
  change V E g tb ρ 2 133 [(0, .ref (ρ l0)), (1, .int l1)] [.int r1.1] r1.2
  refine v_if_ne (pc := 133) (off := 5) (tgt := 138) X (by decide +kernel) (by decide) (fun q3 => ?_) (fun q3 => ?_)
  · rw [if_neg q3] at hf
    refine v_aload_n (pc := 138) (k := 0) X (by decide +kernel) 0 rfl ?_
    refine v_iload_n (pc := 139) (k := 1) X (by decide +kernel) 1 rfl ?_
    refine v_if_lt (pc := 140) (off := 7) (tgt := 147) X (by decide +kernel) (by decide) (fun q2 => ?_) (fun q2 => ?_)
    · rw [if_pos q2] at hf
      refine v_iconst (pc := 147) (n := 0) X (by decide +kernel) ic_0 ?_
      exact vjb_Md_leafRead_148 ok hi X Y r1.2 l0 l1 l0 (0 : Int32) kl0 kl0 hf
    · rw [if_neg q2] at hf
      refine v_iconst (pc := 143) (n := 1) X (by decide +kernel) ic_1 ?_
      refine v_goto (pc := 144) (off := 4) (tgt := 148) X (by decide +kernel) (by decide) ?_
      exact vjb_Md_leafRead_148 ok hi X Y r1.2 l0 l1 l0 (1 : Int32) kl0 kl0 hf
  · rw [if_pos q3] at hf
    refine v_iconst (pc := 136) (n := 0) X (by decide +kernel) ic_0 ?_
    cases hf
    exact v_zret (hz := rfl) X Y (by decide +kernel) rfl rfl
set_option maxRecDepth 4000 in
set_option maxHeartbeats 1000000 in
theorem vjb_Md_leafRead_109 {E : En} {g : Gl} {tb : Tb} {ρ : Nat → Nat} (ok : TbOK tb) (hi : inj tb ρ) {r : Int32 × Hp} (X : CX E g tb ρ prog_14_method_39_code 2 RC12 2 47) (Y : CQ E g tb ρ (some .boolean) (some (.int r.1)) r.2) (h : Hp) (l0 : Nat) (l1 : Int32) (kl0 : kd tb l0 = 12) (hf : jb_Md_leafRead_109 tb h l0 l1 = some r) : V E g tb ρ 2 109 [(0, .ref (ρ l0)), (1, .int l1)] [] h := by
  unfold jb_Md_leafRead_109 at hf
  refine v_iload_n (pc := 109) (k := 1) X (by decide +kernel) 1 rfl ?_
  refine v_if_ge (pc := 110) (off := 19) (tgt := 129) X (by decide +kernel) (by decide) (fun q4 => ?_) (fun q4 => ?_)
  · rw [if_pos q4] at hf
    exact vjb_Md_leafRead_129 ok hi X Y h l0 l1 kl0 hf
  · rw [if_neg q4] at hf
    refine v_aload_n (pc := 113) (k := 0) X (by decide +kernel) 0 rfl ?_
    refine v_geti (pc := 114) X fl_12_189 kl0 rfl (by decide +kernel) ?_
    refine v_sipush (pc := 117) (n := 9999) X (by decide +kernel) si_9999 ?_
    refine v_icmp_le (pc := 120) (off := 9) (tgt := 129) X (by decide +kernel) (by decide) (fun q3 => ?_) (fun q3 => ?_)
    · rw [if_pos q3] at hf
      exact vjb_Md_leafRead_129 ok hi X Y h l0 l1 kl0 hf
    · rw [if_neg q3] at hf
      refine v_aload_n (pc := 123) (k := 0) X (by decide +kernel) 0 rfl ?_
      refine v_iconst (pc := 124) (n := 2) X (by decide +kernel) ic_2 ?_
      obtain ⟨r1, er1, hf⟩ := nmd_e hf
      refine v_callV (pc := 125) (As := [.int (2 : Int32)]) (rest := []) X (mt_Md_wrong ok hi kl0 er1.symm) ml_12_202 mv_Md_wrong kl0 cls_12 rfl ⟨Nat.le_of_ble_eq_true rfl, Nat.le_of_ble_eq_true rfl⟩ rfl rfl (Nat.le_of_ble_eq_true rfl) (by decide +kernel) ?_
      change V E g tb ρ 2 128 [(0, .ref (ρ l0)), (1, .int l1)] [.int r1.1] r1.2
      obtain ⟨x2, ex2, hf⟩ := bnd_e hf
      obtain ⟨bx2, rfl⟩ := cZ_e ex2
      cases hf
      exact v_zret (hz := bx2) X Y (by decide +kernel) rfl rfl
set_option maxRecDepth 4000 in
set_option maxHeartbeats 1000000 in
theorem vjb_Md_leafRead_86 {E : En} {g : Gl} {tb : Tb} {ρ : Nat → Nat} (ok : TbOK tb) (hi : inj tb ρ) {r : Int32 × Hp} (X : CX E g tb ρ prog_14_method_39_code 2 RC12 2 47) (Y : CQ E g tb ρ (some .boolean) (some (.int r.1)) r.2) (h : Hp) (l0 : Nat) (kl0 : kd tb l0 = 12) (hf : jb_Md_leafRead_86 tb h l0 = some r) : V E g tb ρ 2 86 [(0, .ref (ρ l0))] [] h := by
  unfold jb_Md_leafRead_86 at hf
  refine v_aload_n (pc := 86) (k := 0) X (by decide +kernel) 0 rfl ?_
  obtain ⟨r1, er1, hf⟩ := nmd_e hf
  refine v_callV (pc := 87) (As := []) (rest := []) X (mt_Md_nameMet ok hi kl0 er1.symm) ml_12_333 mv_Md_nameMet kl0 cls_12 rfl ⟨Nat.le_of_ble_eq_true rfl, Nat.le_of_ble_eq_true rfl⟩ rfl rfl (Nat.le_of_ble_eq_true rfl) (by decide +kernel) ?_
  change V E g tb ρ 2 90 [(0, .ref (ρ l0))] [.int r1] h
  refine v_istore_n (pc := 90) (k := 1) (lv' := [(1, .int r1), (0, .ref (ρ l0))]) X (by decide +kernel) (Nat.le_of_ble_eq_true rfl) rfl ?_
  refine v_iload_n (pc := 91) (k := 1) X (by decide +kernel) 0 rfl ?_
  refine v_if_ge (pc := 92) (off := 17) (tgt := 109) X (by decide +kernel) (by decide) (fun q5 => ?_) (fun q5 => ?_)
  · rw [if_pos q5] at hf
    refine v_sub [1, 0] rfl ?_
    exact vjb_Md_leafRead_109 ok hi X Y h l0 r1 kl0 hf
  · rw [if_neg q5] at hf
    refine v_aload_n (pc := 95) (k := 0) X (by decide +kernel) 1 rfl ?_
    refine v_geti (pc := 96) X fl_12_178 kl0 rfl (by decide +kernel) ?_
    refine v_iconst (pc := 99) (n := 3) X (by decide +kernel) ic_3 ?_
    refine v_icmp_eq (pc := 100) (off := 9) (tgt := 109) X (by decide +kernel) (by decide) (fun q4 => ?_) (fun q4 => ?_)
    · rw [if_pos q4] at hf
      refine v_sub [1, 0] rfl ?_
      exact vjb_Md_leafRead_109 ok hi X Y h l0 r1 kl0 hf
    · rw [if_neg q4] at hf
      refine v_aload_n (pc := 103) (k := 0) X (by decide +kernel) 1 rfl ?_
      refine v_iconst (pc := 104) (n := 1) X (by decide +kernel) ic_1 ?_
      obtain ⟨r2, er2, hf⟩ := nmd_e hf
      refine v_callV (pc := 105) (As := [.int (1 : Int32)]) (rest := []) X (mt_Md_wrong ok hi kl0 er2.symm) ml_12_202 mv_Md_wrong kl0 cls_12 rfl ⟨Nat.le_of_ble_eq_true rfl, Nat.le_of_ble_eq_true rfl⟩ rfl rfl (Nat.le_of_ble_eq_true rfl) (by decide +kernel) ?_
      change V E g tb ρ 2 108 [(1, .int r1), (0, .ref (ρ l0))] [.int r2.1] r2.2
      obtain ⟨x3, ex3, hf⟩ := bnd_e hf
      obtain ⟨bx3, rfl⟩ := cZ_e ex3
      cases hf
      exact v_zret (hz := bx3) X Y (by decide +kernel) rfl rfl
set_option maxRecDepth 4000 in
set_option maxHeartbeats 1000000 in
theorem mt_Md_leafRead {g : Gl} {tb : Tb} {ρ : Nat → Nat} (ok : TbOK tb) (hi : inj tb ρ) {h : Hp} {l0 : Nat} (kl0 : kd tb l0 = 12) {r : Int32 × Hp} (hf : f_Md_leafRead tb h l0 = some r) : MT g y_Md_leafRead prog_14_method_39_code 2 (some .boolean) 2 47 tb ρ [.ref (ρ l0)] h (some (.int r.1)) r.2 := by
  refine mt_intro (by decide +kernel) ok hi (Nat.le_of_ble_eq_true rfl) (fun E X Y => ?_)
  change V E g tb ρ 2 0 [(0, .ref (ρ l0))] [] h
  unfold f_Md_leafRead at hf
  refine v_aload_n (pc := 0) (k := 0) X (by decide +kernel) 0 rfl ?_
  refine v_bipush (pc := 1) (n := 40) X (by decide +kernel) bi_40 ?_
  obtain ⟨r1, er1, hf⟩ := nmd_e hf
  refine v_callV (pc := 3) (As := [.int (40 : Int32)]) (rest := []) X (mt_Md_isSign ok hi kl0 er1.symm) ml_12_215 mv_Md_isSign kl0 cls_12 rfl ⟨Nat.le_of_ble_eq_true rfl, Nat.le_of_ble_eq_true rfl⟩ rfl rfl (Nat.le_of_ble_eq_true rfl) (by decide +kernel) ?_
  change V E g tb ρ 2 6 [(0, .ref (ρ l0))] [.int r1] h
  refine v_if_eq (pc := 6) (off := 44) (tgt := 50) X (by decide +kernel) (by decide) (fun q16 => ?_) (fun q16 => ?_)
  · rw [if_pos q16] at hf
    refine v_aload_n (pc := 50) (k := 0) X (by decide +kernel) 0 rfl ?_
    refine v_bipush (pc := 51) (n := 12) X (by decide +kernel) bi_12 ?_
    obtain ⟨r2, er2, hf⟩ := nmd_e hf
    refine v_callV (pc := 53) (As := [.int (12 : Int32)]) (rest := []) X (mt_Md_isKey ok hi kl0 er2.symm) ml_12_327 mv_Md_isKey kl0 cls_12 rfl ⟨Nat.le_of_ble_eq_true rfl, Nat.le_of_ble_eq_true rfl⟩ rfl rfl (Nat.le_of_ble_eq_true rfl) (by decide +kernel) ?_
    change V E g tb ρ 2 56 [(0, .ref (ρ l0))] [.int r2] h
    refine v_if_eq (pc := 56) (off := 30) (tgt := 86) X (by decide +kernel) (by decide) (fun q8 => ?_) (fun q8 => ?_)
    · rw [if_pos q8] at hf
      exact vjb_Md_leafRead_86 ok hi X Y h l0 kl0 hf
    · rw [if_neg q8] at hf
      refine v_aload_n (pc := 59) (k := 0) X (by decide +kernel) 0 rfl ?_
      refine v_geti (pc := 60) X fl_12_323 kl0 rfl (by decide +kernel) ?_
      refine v_if_eq (pc := 63) (off := 23) (tgt := 86) X (by decide +kernel) (by decide) (fun q7 => ?_) (fun q7 => ?_)
      · rw [if_pos q7] at hf
        exact vjb_Md_leafRead_86 ok hi X Y h l0 kl0 hf
      · rw [if_neg q7] at hf
        refine v_aload_n (pc := 66) (k := 0) X (by decide +kernel) 0 rfl ?_
        obtain ⟨r3, er3, hf⟩ := bnd_e hf
        refine v_callV (pc := 67) (As := []) (rest := []) X (mt_Md_isCounted ok hi kl0 er3) ml_12_330 mv_Md_isCounted kl0 cls_12 rfl ⟨Nat.le_of_ble_eq_true rfl, Nat.le_of_ble_eq_true rfl⟩ rfl rfl (Nat.le_of_ble_eq_true rfl) (by decide +kernel) ?_
        change V E g tb ρ 2 70 [(0, .ref (ρ l0))] [.int r3.1] r3.2
        refine v_if_ne (pc := 70) (off := 5) (tgt := 75) X (by decide +kernel) (by decide) (fun q6 => ?_) (fun q6 => ?_)
        · rw [if_neg q6] at hf
          refine v_aload_n (pc := 75) (k := 0) X (by decide +kernel) 0 rfl ?_
          refine v_iconst (pc := 76) (n := 2) X (by decide +kernel) ic_2 ?_
          obtain ⟨r4, er4, hf⟩ := bnd_e hf
          refine v_callV (pc := 77) (As := [.int (2 : Int32)]) (rest := []) X (mt_Md_waitsFor ok hi kl0 er4) ml_12_319 mv_Md_waitsFor kl0 cls_12 rfl ⟨Nat.le_of_ble_eq_true rfl, Nat.le_of_ble_eq_true rfl⟩ rfl rfl (Nat.le_of_ble_eq_true rfl) (by decide +kernel) ?_
          change V E g tb ρ 2 80 [(0, .ref (ρ l0))] [] r4
          refine v_aload_n (pc := 80) (k := 0) X (by decide +kernel) 0 rfl ?_
          obtain ⟨r5, er5, hf⟩ := bnd_e hf
          refine v_callV (pc := 81) (As := []) (rest := []) X (mt_Md_token ok hi kl0 er5) ml_12_212 mv_Md_token kl0 cls_12 rfl ⟨Nat.le_of_ble_eq_true rfl, Nat.le_of_ble_eq_true rfl⟩ rfl rfl (Nat.le_of_ble_eq_true rfl) (by decide +kernel) ?_
          change V E g tb ρ 2 84 [(0, .ref (ρ l0))] [] r5
          refine v_iconst (pc := 84) (n := 1) X (by decide +kernel) ic_1 ?_
          cases hf
          exact v_zret (hz := rfl) X Y (by decide +kernel) rfl rfl
        · rw [if_pos q6] at hf
          refine v_iconst (pc := 73) (n := 0) X (by decide +kernel) ic_0 ?_
          cases hf
          exact v_zret (hz := rfl) X Y (by decide +kernel) rfl rfl
  · rw [if_neg q16] at hf
    refine v_aload_n (pc := 9) (k := 0) X (by decide +kernel) 0 rfl ?_
    refine v_geti (pc := 10) X fl_12_316 kl0 rfl (by decide +kernel) ?_
    refine v_bipush (pc := 13) (n := 8) X (by decide +kernel) bi_8 ?_
    refine v_icmp_ne (pc := 15) (off := 9) (tgt := 24) X (by decide +kernel) (by decide) (fun q15 => ?_) (fun q15 => ?_)
    · rw [if_neg q15] at hf
      refine v_aload_n (pc := 24) (k := 0) X (by decide +kernel) 0 rfl ?_
      refine v_dup (pc := 25) X (by decide +kernel) rfl ?_
      refine v_geti (pc := 26) X fl_12_316 kl0 rfl (by decide +kernel) ?_
      refine v_iconst (pc := 29) (n := 1) X (by decide +kernel) ic_1 ?_
      refine v_iadd (pc := 30) X (by decide +kernel) ?_
      obtain ⟨h9, eh9, hf⟩ := nmd_e hf
      refine v_puti (pc := 31) X fp_12_316 kl0 rfl (by decide +kernel) eh9 ?_
      refine v_aload_n (pc := 34) (k := 0) X (by decide +kernel) 0 rfl ?_
      refine v_iconst (pc := 35) (n := 0) X (by decide +kernel) ic_0 ?_
      obtain ⟨r10, er10, hf⟩ := bnd_e hf
      refine v_callV (pc := 36) (As := [.int (0 : Int32)]) (rest := []) X (mt_Md_waitsFor ok hi kl0 er10) ml_12_319 mv_Md_waitsFor kl0 cls_12 rfl ⟨Nat.le_of_ble_eq_true rfl, Nat.le_of_ble_eq_true rfl⟩ rfl rfl (Nat.le_of_ble_eq_true rfl) (by decide +kernel) ?_
      change V E g tb ρ 2 39 [(0, .ref (ρ l0))] [] r10
      refine v_aload_n (pc := 39) (k := 0) X (by decide +kernel) 0 rfl ?_
      refine v_iconst (pc := 40) (n := 1) X (by decide +kernel) ic_1 ?_
      obtain ⟨h11, eh11, hf⟩ := nmd_e hf
      refine v_putz (pc := 41) X fp_12_323 kl0 rfl rfl (by decide +kernel) eh11 ?_
      refine v_aload_n (pc := 44) (k := 0) X (by decide +kernel) 0 rfl ?_
      obtain ⟨r12, er12, hf⟩ := bnd_e hf
      refine v_callV (pc := 45) (As := []) (rest := []) X (mt_Md_token ok hi kl0 er12) ml_12_212 mv_Md_token kl0 cls_12 rfl ⟨Nat.le_of_ble_eq_true rfl, Nat.le_of_ble_eq_true rfl⟩ rfl rfl (Nat.le_of_ble_eq_true rfl) (by decide +kernel) ?_
      change V E g tb ρ 2 48 [(0, .ref (ρ l0))] [] r12
      refine v_iconst (pc := 48) (n := 1) X (by decide +kernel) ic_1 ?_
      cases hf
      exact v_zret (hz := rfl) X Y (by decide +kernel) rfl rfl
    · rw [if_pos q15] at hf
      refine v_aload_n (pc := 18) (k := 0) X (by decide +kernel) 0 rfl ?_
      refine v_iconst (pc := 19) (n := 2) X (by decide +kernel) ic_2 ?_
      obtain ⟨r13, er13, hf⟩ := nmd_e hf
      refine v_callV (pc := 20) (As := [.int (2 : Int32)]) (rest := []) X (mt_Md_wrong ok hi kl0 er13.symm) ml_12_202 mv_Md_wrong kl0 cls_12 rfl ⟨Nat.le_of_ble_eq_true rfl, Nat.le_of_ble_eq_true rfl⟩ rfl rfl (Nat.le_of_ble_eq_true rfl) (by decide +kernel) ?_
      change V E g tb ρ 2 23 [(0, .ref (ρ l0))] [.int r13.1] r13.2
      obtain ⟨x14, ex14, hf⟩ := bnd_e hf
      obtain ⟨bx14, rfl⟩ := cZ_e ex14
      cases hf
      exact v_zret (hz := bx14) X Y (by decide +kernel) rfl rfl
def f_Md_rank (tb : Tb) (h : Hp) (l0 : Int32) : Int32 :=
  if l0 < (13 : Int32) then (
    if l0 < (11 : Int32) then (
      if l0 < (5 : Int32) then (
        if l0 = (2 : Int32) then (
          (3 : Int32)
        ) else (
          if l0 = (3 : Int32) then (
            (2 : Int32)
          ) else (
            if l0 = (4 : Int32) then (
              (1 : Int32)
            ) else (
              (0 : Int32)
            )
          )
        )
      ) else (
        (4 : Int32)
      )
    ) else (
      (5 : Int32)
    )
  ) else (
    (6 : Int32)
  )
set_option maxRecDepth 4000 in
set_option maxHeartbeats 1000000 in
theorem mt_Md_rank {g : Gl} {tb : Tb} {ρ : Nat → Nat} (ok : TbOK tb) (hi : inj tb ρ) {h : Hp} {l0 : Int32}  {r : Int32} (hf : f_Md_rank tb h l0 = r) : MT g y_Md_rank prog_14_method_32_code 1 (some .int) 0 0 tb ρ [.int l0] h (some (.int r)) h := by
  refine mt_intro (by decide +kernel) ok hi (Nat.le_of_ble_eq_true rfl) (fun E X Y => ?_)
  change V E g tb ρ 1 0 [(0, .int l0)] [] h
  unfold f_Md_rank at hf
  refine v_iload_n (pc := 0) (k := 0) X (by decide +kernel) 0 rfl ?_
  refine v_bipush (pc := 1) (n := 13) X (by decide +kernel) bi_13 ?_
  refine v_icmp_lt (pc := 3) (off := 8) (tgt := 11) X (by decide +kernel) (by decide) (fun q6 => ?_) (fun q6 => ?_)
  · rw [if_pos q6] at hf
    refine v_iload_n (pc := 11) (k := 0) X (by decide +kernel) 0 rfl ?_
    refine v_bipush (pc := 12) (n := 11) X (by decide +kernel) bi_11 ?_
    refine v_icmp_lt (pc := 14) (off := 7) (tgt := 21) X (by decide +kernel) (by decide) (fun q5 => ?_) (fun q5 => ?_)
    · rw [if_pos q5] at hf
      refine v_iload_n (pc := 21) (k := 0) X (by decide +kernel) 0 rfl ?_
      refine v_iconst (pc := 22) (n := 5) X (by decide +kernel) ic_5 ?_
      refine v_icmp_lt (pc := 23) (off := 7) (tgt := 30) X (by decide +kernel) (by decide) (fun q4 => ?_) (fun q4 => ?_)
      · rw [if_pos q4] at hf
        refine v_iload_n (pc := 30) (k := 0) X (by decide +kernel) 0 rfl ?_
        refine v_iconst (pc := 31) (n := 2) X (by decide +kernel) ic_2 ?_
        refine v_icmp_ne (pc := 32) (off := 7) (tgt := 39) X (by decide +kernel) (by decide) (fun q3 => ?_) (fun q3 => ?_)
        · rw [if_neg q3] at hf
          refine v_iload_n (pc := 39) (k := 0) X (by decide +kernel) 0 rfl ?_
          refine v_iconst (pc := 40) (n := 3) X (by decide +kernel) ic_3 ?_
          refine v_icmp_ne (pc := 41) (off := 7) (tgt := 48) X (by decide +kernel) (by decide) (fun q2 => ?_) (fun q2 => ?_)
          · rw [if_neg q2] at hf
            refine v_iload_n (pc := 48) (k := 0) X (by decide +kernel) 0 rfl ?_
            refine v_iconst (pc := 49) (n := 4) X (by decide +kernel) ic_4 ?_
            refine v_icmp_ne (pc := 50) (off := 7) (tgt := 57) X (by decide +kernel) (by decide) (fun q1 => ?_) (fun q1 => ?_)
            · rw [if_neg q1] at hf
              refine v_iconst (pc := 57) (n := 0) X (by decide +kernel) ic_0 ?_
              cases hf
              exact v_iret X Y (by decide +kernel) rfl rfl
            · rw [if_pos q1] at hf
              refine v_iconst (pc := 53) (n := 1) X (by decide +kernel) ic_1 ?_
              refine v_goto (pc := 54) (off := 4) (tgt := 58) X (by decide +kernel) (by decide) ?_
              cases hf
              exact v_iret X Y (by decide +kernel) rfl rfl
          · rw [if_pos q2] at hf
            refine v_iconst (pc := 44) (n := 2) X (by decide +kernel) ic_2 ?_
            refine v_goto (pc := 45) (off := 13) (tgt := 58) X (by decide +kernel) (by decide) ?_
            cases hf
            exact v_iret X Y (by decide +kernel) rfl rfl
        · rw [if_pos q3] at hf
          refine v_iconst (pc := 35) (n := 3) X (by decide +kernel) ic_3 ?_
          refine v_goto (pc := 36) (off := 22) (tgt := 58) X (by decide +kernel) (by decide) ?_
          cases hf
          exact v_iret X Y (by decide +kernel) rfl rfl
      · rw [if_neg q4] at hf
        refine v_iconst (pc := 26) (n := 4) X (by decide +kernel) ic_4 ?_
        refine v_goto (pc := 27) (off := 31) (tgt := 58) X (by decide +kernel) (by decide) ?_
        cases hf
        exact v_iret X Y (by decide +kernel) rfl rfl
    · rw [if_neg q5] at hf
      refine v_iconst (pc := 17) (n := 5) X (by decide +kernel) ic_5 ?_
      refine v_goto (pc := 18) (off := 40) (tgt := 58) X (by decide +kernel) (by decide) ?_
      cases hf
      exact v_iret X Y (by decide +kernel) rfl rfl
  · rw [if_neg q6] at hf
    refine v_bipush (pc := 6) (n := 6) X (by decide +kernel) bi_6 ?_
    refine v_goto (pc := 8) (off := 50) (tgt := 58) X (by decide +kernel) (by decide) ?_
    cases hf
    exact v_iret X Y (by decide +kernel) rfl rfl
def f_Md_dropHeld (tb : Tb) (h : Hp) (l0 : Nat) : Option (Int32 × Hp) :=
  nmd (pI h l0 46 ((h.1 l0 46) - (1 : Int32))) fun h1 =>
  (rI tb h1 (lay tb l0 44) (h1.1 l0 46)).bind fun x2 =>
  some (x2, h1)
set_option maxRecDepth 4000 in
set_option maxHeartbeats 1000000 in
theorem mt_Md_dropHeld {g : Gl} {tb : Tb} {ρ : Nat → Nat} (ok : TbOK tb) (hi : inj tb ρ) {h : Hp} {l0 : Nat} (kl0 : kd tb l0 = 12) {r : Int32 × Hp} (hf : f_Md_dropHeld tb h l0 = some r) : MT g y_Md_dropHeld prog_14_method_34_code 1 (some .int) 0 0 tb ρ [.ref (ρ l0)] h (some (.int r.1)) r.2 := by
  refine mt_intro (by decide +kernel) ok hi (Nat.le_of_ble_eq_true rfl) (fun E X Y => ?_)
  change V E g tb ρ 1 0 [(0, .ref (ρ l0))] [] h
  unfold f_Md_dropHeld at hf
  refine v_aload_n (pc := 0) (k := 0) X (by decide +kernel) 0 rfl ?_
  refine v_dup (pc := 1) X (by decide +kernel) rfl ?_
  refine v_geti (pc := 2) X fl_12_298 kl0 rfl (by decide +kernel) ?_
  refine v_iconst (pc := 5) (n := 1) X (by decide +kernel) ic_1 ?_
  refine v_isub (pc := 6) X (by decide +kernel) ?_
  obtain ⟨h1, eh1, hf⟩ := nmd_e hf
  refine v_puti (pc := 7) X fp_12_298 kl0 rfl (by decide +kernel) eh1 ?_
  refine v_aload_n (pc := 10) (k := 0) X (by decide +kernel) 0 rfl ?_
  refine v_geta (pc := 11) X fl_12_84 kl0 fk_12_44 (by decide +kernel) ?_
  refine v_aload_n (pc := 14) (k := 0) X (by decide +kernel) 0 rfl ?_
  refine v_geti (pc := 15) X fl_12_298 kl0 rfl (by decide +kernel) ?_
  obtain ⟨x2, ex2, hf⟩ := bnd_e hf
  refine v_iald (pc := 18) X (ly_12_44 ok kl0) ex2 (by decide +kernel) ?_
  cases hf
  exact v_iret X Y (by decide +kernel) rfl rfl
def jb_Md_bind_58 (tb : Tb) (c0 : Hp → Nat → Int32 → Option (Hp)) (h : Hp) (l0 : Nat) (l1 : Int32) (l2 : Int32) (s0 : Int32) : Option (Hp) :=
  (f_Md_dropHeld tb h l0).bind fun r1 =>
  (f_Md_grown tb r1.2 l0 l2 r1.1 s0).bind fun r2 =>
  c0 r2 l0 l1
def lp_Md_bind_0 (tb : Tb) : Nat → Hp → Nat → Int32 → Option (Hp)
  | 0, _, _, _ => none
  | n + 1, h, l0, l1 =>
    if (h.1 l0 45) ≤ (0 : Int32) then (
      some h
    ) else (
      (rI tb h (lay tb l0 43) ((h.1 l0 45) - (1 : Int32))).bind fun x1 =>
      nmd (f_Md_rank tb h x1) fun r2 =>
      if r2 < l1 then (
        some h
      ) else (
        nmd (pI h l0 45 ((h.1 l0 45) - (1 : Int32))) fun h3 =>
        (rI tb h3 (lay tb l0 43) (h3.1 l0 45)).bind fun x4 =>
        if x4 = (2 : Int32) then (
          jb_Md_bind_58 tb (lp_Md_bind_0 tb n) h3 l0 l1 x4 (-1 : Int32)
        ) else (
          (f_Md_dropHeld tb h3 l0).bind fun r5 =>
          jb_Md_bind_58 tb (lp_Md_bind_0 tb n) r5.2 l0 l1 x4 r5.1
        )
      )
    )
def f_Md_bind (tb : Tb) (h : Hp) (l0 : Nat) (l1 : Int32) : Option (Hp) :=
  lp_Md_bind_0 tb fu h l0 l1
set_option maxRecDepth 4000 in
set_option maxHeartbeats 1000000 in
theorem vjb_Md_bind_58 {E : En} {g : Gl} {tb : Tb} {ρ : Nat → Nat} (ok : TbOK tb) (hi : inj tb ρ) {r : Hp} (X : CX E g tb ρ prog_14_method_35_code 5 RC12 1 23) (Y : CQ E g tb ρ none (none) r) {c0 : Hp → Nat → Int32 → Option (Hp)} (H0 : ∀ (h : Hp) (l0 : Nat) (l1 : Int32) (kl0 : kd tb l0 = 12), c0 h l0 l1 = some r → V E g tb ρ 5 0 [(0, .ref (ρ l0)), (1, .int l1)] [] h) (h : Hp) (l0 : Nat) (l1 : Int32) (l2 : Int32) (s0 : Int32) (kl0 : kd tb l0 = 12) (hf : jb_Md_bind_58 tb c0 h l0 l1 l2 s0 = some r) : V E g tb ρ 5 58 [(0, .ref (ρ l0)), (1, .int l1), (2, .int l2)] [.int s0] h := by
  unfold jb_Md_bind_58 at hf
  refine v_istore_n (pc := 58) (k := 3) (lv' := [(3, .int s0), (0, .ref (ρ l0)), (1, .int l1), (2, .int l2)]) X (by decide +kernel) (Nat.le_of_ble_eq_true rfl) rfl ?_
  refine v_aload_n (pc := 59) (k := 0) X (by decide +kernel) 1 rfl ?_
  obtain ⟨r1, er1, hf⟩ := bnd_e hf
  refine v_callV (pc := 60) (As := []) (rest := []) X (mt_Md_dropHeld ok hi kl0 er1) ml_12_308 mv_Md_dropHeld kl0 cls_12 rfl ⟨Nat.le_of_ble_eq_true rfl, Nat.le_of_ble_eq_true rfl⟩ rfl rfl (Nat.le_of_ble_eq_true rfl) (by decide +kernel) ?_
  change V E g tb ρ 5 63 [(3, .int s0), (0, .ref (ρ l0)), (1, .int l1), (2, .int l2)] [.int r1.1] r1.2
  refine v_istore (pc := 63) (k := 4) (lv' := [(4, .int r1.1), (3, .int s0), (0, .ref (ρ l0)), (1, .int l1), (2, .int l2)]) X (by decide +kernel) (Nat.le_of_ble_eq_true rfl) rfl ?_
  refine v_aload_n (pc := 65) (k := 0) X (by decide +kernel) 2 rfl ?_
  refine v_iload_n (pc := 66) (k := 2) X (by decide +kernel) 4 rfl ?_
  refine v_iload (pc := 67) (k := 4) X (by decide +kernel) 0 rfl ?_
  refine v_iload_n (pc := 69) (k := 3) X (by decide +kernel) 1 rfl ?_
  obtain ⟨r2, er2, hf⟩ := bnd_e hf
  refine v_callV (pc := 70) (As := [.int l2, .int r1.1, .int s0]) (rest := []) X (mt_Md_grown ok hi kl0 er2) ml_12_312 mv_Md_grown kl0 cls_12 rfl ⟨Nat.le_of_ble_eq_true rfl, Nat.le_of_ble_eq_true rfl⟩ rfl rfl (Nat.le_of_ble_eq_true rfl) (by decide +kernel) ?_
  change V E g tb ρ 5 73 [(4, .int r1.1), (3, .int s0), (0, .ref (ρ l0)), (1, .int l1), (2, .int l2)] [] r2
  refine v_goto (pc := 73) (off := -73) (tgt := 0) X (by decide +kernel) (by decide) ?_
  refine v_sub [2, 3] rfl ?_
  exact H0 r2 l0 l1 kl0 hf
set_option maxRecDepth 4000 in
set_option maxHeartbeats 1000000 in
theorem vlp_Md_bind_0 {E : En} {g : Gl} {tb : Tb} {ρ : Nat → Nat} (ok : TbOK tb) (hi : inj tb ρ) {r : Hp} (X : CX E g tb ρ prog_14_method_35_code 5 RC12 1 23) (Y : CQ E g tb ρ none (none) r) : ∀ (n : Nat) (h : Hp) (l0 : Nat) (l1 : Int32) (kl0 : kd tb l0 = 12), lp_Md_bind_0 tb n h l0 l1 = some r → V E g tb ρ 5 0 [(0, .ref (ρ l0)), (1, .int l1)] [] h := by
  intro n
  induction n with
  | zero =>
    intro h l0 l1 kl0 hf
    rw [lp_Md_bind_0] at hf
    cases hf
  | succ n ih =>
    intro h l0 l1 kl0 hf
    rw [lp_Md_bind_0] at hf
    refine v_aload_n (pc := 0) (k := 0) X (by decide +kernel) 0 rfl ?_
    refine v_geti (pc := 1) X fl_12_301 kl0 rfl (by decide +kernel) ?_
    refine v_if_le (pc := 4) (off := 72) (tgt := 76) X (by decide +kernel) (by decide) (fun q8 => ?_) (fun q8 => ?_)
    · rw [if_pos q8] at hf
      cases hf
      exact v_vret X Y (by decide +kernel) rfl rfl
    · rw [if_neg q8] at hf
      refine v_aload_n (pc := 7) (k := 0) X (by decide +kernel) 0 rfl ?_
      refine v_geta (pc := 8) X fl_12_81 kl0 fk_12_43 (by decide +kernel) ?_
      refine v_aload_n (pc := 11) (k := 0) X (by decide +kernel) 0 rfl ?_
      refine v_geti (pc := 12) X fl_12_301 kl0 rfl (by decide +kernel) ?_
      refine v_iconst (pc := 15) (n := 1) X (by decide +kernel) ic_1 ?_
      refine v_isub (pc := 16) X (by decide +kernel) ?_
      obtain ⟨x1, ex1, hf⟩ := bnd_e hf
      refine v_iald (pc := 17) X (ly_12_43 ok kl0) ex1 (by decide +kernel) ?_
      obtain ⟨r2, er2, hf⟩ := nmd_e hf
      refine v_callS (pc := 18) (As := [.int x1]) (rest := []) X (mt_Md_rank ok hi er2.symm) ml_12_304 ms_Md_rank ⟨Nat.le_of_ble_eq_true rfl, Nat.le_of_ble_eq_true rfl⟩ rfl rfl (Nat.le_of_ble_eq_true rfl) (by decide +kernel) ?_
      change V E g tb ρ 5 21 [(0, .ref (ρ l0)), (1, .int l1)] [.int r2] h
      refine v_iload_n (pc := 21) (k := 1) X (by decide +kernel) 1 rfl ?_
      refine v_icmp_lt (pc := 22) (off := 54) (tgt := 76) X (by decide +kernel) (by decide) (fun q7 => ?_) (fun q7 => ?_)
      · rw [if_pos q7] at hf
        cases hf
        exact v_vret X Y (by decide +kernel) rfl rfl
      · rw [if_neg q7] at hf
        refine v_aload_n (pc := 25) (k := 0) X (by decide +kernel) 0 rfl ?_
        refine v_dup (pc := 26) X (by decide +kernel) rfl ?_
        refine v_geti (pc := 27) X fl_12_301 kl0 rfl (by decide +kernel) ?_
        refine v_iconst (pc := 30) (n := 1) X (by decide +kernel) ic_1 ?_
        refine v_isub (pc := 31) X (by decide +kernel) ?_
        obtain ⟨h3, eh3, hf⟩ := nmd_e hf
        refine v_puti (pc := 32) X fp_12_301 kl0 rfl (by decide +kernel) eh3 ?_
        refine v_aload_n (pc := 35) (k := 0) X (by decide +kernel) 0 rfl ?_
        refine v_geta (pc := 36) X fl_12_81 kl0 fk_12_43 (by decide +kernel) ?_
        refine v_aload_n (pc := 39) (k := 0) X (by decide +kernel) 0 rfl ?_
        refine v_geti (pc := 40) X fl_12_301 kl0 rfl (by decide +kernel) ?_
        obtain ⟨x4, ex4, hf⟩ := bnd_e hf
        refine v_iald (pc := 43) X (ly_12_43 ok kl0) ex4 (by decide +kernel) ?_
        refine v_istore_n (pc := 44) (k := 2) (lv' := [(2, .int x4), (0, .ref (ρ l0)), (1, .int l1)]) X (by decide +kernel) (Nat.le_of_ble_eq_true rfl) rfl ?_
        refine v_iload_n (pc := 45) (k := 2) X (by decide +kernel) 0 rfl ?_
        refine v_iconst (pc := 46) (n := 2) X (by decide +kernel) ic_2 ?_
        refine v_icmp_ne (pc := 47) (off := 7) (tgt := 54) X (by decide +kernel) (by decide) (fun q6 => ?_) (fun q6 => ?_)
        · rw [if_neg q6] at hf
          refine v_aload_n (pc := 54) (k := 0) X (by decide +kernel) 1 rfl ?_
          obtain ⟨r5, er5, hf⟩ := bnd_e hf
          refine v_callV (pc := 55) (As := []) (rest := []) X (mt_Md_dropHeld ok hi kl0 er5) ml_12_308 mv_Md_dropHeld kl0 cls_12 rfl ⟨Nat.le_of_ble_eq_true rfl, Nat.le_of_ble_eq_true rfl⟩ rfl rfl (Nat.le_of_ble_eq_true rfl) (by decide +kernel) ?_
          change V E g tb ρ 5 58 [(2, .int x4), (0, .ref (ρ l0)), (1, .int l1)] [.int r5.1] r5.2
          refine v_sub [1, 2, 0] rfl ?_
          exact vjb_Md_bind_58 ok hi X Y ih r5.2 l0 l1 x4 r5.1 kl0 hf
        · rw [if_pos q6] at hf
          refine v_iconst (pc := 50) (n := -1) X (by decide +kernel) ic_m1 ?_
          refine v_goto (pc := 51) (off := 7) (tgt := 58) X (by decide +kernel) (by decide) ?_
          refine v_sub [1, 2, 0] rfl ?_
          exact vjb_Md_bind_58 ok hi X Y ih h3 l0 l1 x4 (-1 : Int32) kl0 hf
set_option maxRecDepth 4000 in
set_option maxHeartbeats 1000000 in
theorem mt_Md_bind {g : Gl} {tb : Tb} {ρ : Nat → Nat} (ok : TbOK tb) (hi : inj tb ρ) {h : Hp} {l0 : Nat} {l1 : Int32} (kl0 : kd tb l0 = 12) {r : Hp} (hf : f_Md_bind tb h l0 l1 = some r) : MT g y_Md_bind prog_14_method_35_code 5 none 1 23 tb ρ [.ref (ρ l0), .int l1] h (none) r := by
  refine mt_intro (by decide +kernel) ok hi (Nat.le_of_ble_eq_true rfl) (fun E X Y => ?_)
  change V E g tb ρ 5 0 [(0, .ref (ρ l0)), (1, .int l1)] [] h
  unfold f_Md_bind at hf
  exact vlp_Md_bind_0 ok hi X Y fu h l0 l1 kl0 hf
def jb_Md_signs_250 (tb : Tb) (h : Hp) (l0 : Nat) (s0 : Nat) (s1 : Int32) : Option (Int32 × Hp) :=
  (pZ h s0 50 s1).bind fun h1 =>
  (f_Md_token tb h1 l0).bind fun r2 =>
  some ((1 : Int32), r2)
def jb_Md_signs_217 (tb : Tb) (h : Hp) (l0 : Nat) (l1 : Int32) : Option (Int32 × Hp) :=
  (f_Md_isCounted tb h l0).bind fun r1 =>
  if r1.1 = (0 : Int32) then (
    some ((0 : Int32), r1.2)
  ) else (
    (f_Md_waitsFor tb r1.2 l0 l1).bind fun r2 =>
    nmd (pI r2 l0 49 (1 : Int32)) fun h3 =>
    nmd (f_Md_rank tb h3 l1) fun r4 =>
    if (3 : Int32) ≤ r4 then (
      jb_Md_signs_250 tb h3 l0 l0 (0 : Int32)
    ) else (
      jb_Md_signs_250 tb h3 l0 l0 (1 : Int32)
    )
  )
def jb_Md_signs_175 (tb : Tb) (h : Hp) (l0 : Nat) (l1 : Int32) (s0 : Nat) (s1 : Int32) : Option (Int32 × Hp) :=
  (f_Md_bind tb h s0 s1).bind fun r1 =>
  nmd (f_Md_rank tb r1 l1) fun r2 =>
  if r2 = (4 : Int32) then (
    if (r1.1 l0 45) ≤ (0 : Int32) then (
      jb_Md_signs_217 tb r1 l0 l1
    ) else (
      (rI tb r1 (lay tb l0 43) ((r1.1 l0 45) - (1 : Int32))).bind fun x3 =>
      nmd (f_Md_rank tb r1 x3) fun r4 =>
      if r4 = (4 : Int32) then (
        nmd (f_Md_wrong tb r1 l0 (1 : Int32)) fun r5 =>
        (cZ r5.1).bind fun x6 =>
        some (x6, r5.2)
      ) else (
        jb_Md_signs_217 tb r1 l0 l1
      )
    )
  ) else (
    jb_Md_signs_217 tb r1 l0 l1
  )
def jb_Md_signs_147 (tb : Tb) (h : Hp) (l0 : Nat) (s0 : Int32) : Option (Int32 × Hp) :=
  if s0 = (0 : Int32) then (
    nmd (f_Md_wrong tb h l0 (1 : Int32)) fun r4 =>
    (cZ r4.1).bind fun x5 =>
    some (x5, r4.2)
  ) else (
    nmd (f_Md_rank tb h s0) fun r1 =>
    if r1 = (4 : Int32) then (
      jb_Md_signs_175 tb h l0 s0 l0 (5 : Int32)
    ) else (
      nmd (f_Md_rank tb h s0) fun r2 =>
      jb_Md_signs_175 tb h l0 s0 l0 r2
    )
  )
def jb_Md_signs_47 (tb : Tb) (h : Hp) (l0 : Nat) : Option (Int32 × Hp) :=
  nmd (f_Md_isKey tb h l0 (10 : Int32)) fun r1 =>
  if r1 = (0 : Int32) then (
    nmd (f_Md_isKey tb h l0 (11 : Int32)) fun r2 =>
    if r2 = (0 : Int32) then (
      if (h.1 l0 8) = (5 : Int32) then (
        jb_Md_signs_147 tb h l0 ((5 : Int32) + (h.1 l0 9))
      ) else (
        nmd (f_Md_isSign tb h l0 (43 : Int32)) fun r3 =>
        if r3 = (0 : Int32) then (
          nmd (f_Md_isSign tb h l0 (45 : Int32)) fun r4 =>
          if r4 = (0 : Int32) then (
            nmd (f_Md_isSign tb h l0 (42 : Int32)) fun r5 =>
            if r5 = (0 : Int32) then (
              nmd (f_Md_isSign tb h l0 (47 : Int32)) fun r6 =>
              if r6 = (0 : Int32) then (
                jb_Md_signs_147 tb h l0 (0 : Int32)
              ) else (
                jb_Md_signs_147 tb h l0 (14 : Int32)
              )
            ) else (
              jb_Md_signs_147 tb h l0 (13 : Int32)
            )
          ) else (
            jb_Md_signs_147 tb h l0 (12 : Int32)
          )
        ) else (
          jb_Md_signs_147 tb h l0 (11 : Int32)
        )
      )
    ) else (
      jb_Md_signs_147 tb h l0 (4 : Int32)
    )
  ) else (
    jb_Md_signs_147 tb h l0 (3 : Int32)
  )
def f_Md_signs (tb : Tb) (h : Hp) (l0 : Nat) : Option (Int32 × Hp) :=
  nmd (f_Md_isSign tb h l0 (41 : Int32)) fun r1 =>
  if r1 = (0 : Int32) then (
    jb_Md_signs_47 tb h l0
  ) else (
    if (h.1 l0 47) ≤ (0 : Int32) then (
      jb_Md_signs_47 tb h l0
    ) else (
      (f_Md_bind tb h l0 (1 : Int32)).bind fun r2 =>
      nmd (pI r2 l0 45 ((r2.1 l0 45) - (1 : Int32))) fun h3 =>
      nmd (pI h3 l0 47 ((h3.1 l0 47) - (1 : Int32))) fun h4 =>
      (f_Md_token tb h4 l0).bind fun r5 =>
      some ((1 : Int32), r5)
    )
  )
set_option maxRecDepth 4000 in
set_option maxHeartbeats 1000000 in
theorem vjb_Md_signs_250 {E : En} {g : Gl} {tb : Tb} {ρ : Nat → Nat} (ok : TbOK tb) (hi : inj tb ρ) {r : Int32 × Hp} (X : CX E g tb ρ prog_14_method_40_code 2 RC12 2 47) (Y : CQ E g tb ρ (some .boolean) (some (.int r.1)) r.2) (h : Hp) (l0 : Nat) (s0 : Nat) (s1 : Int32) (kl0 : kd tb l0 = 12) (ks0 : kd tb s0 = 12) (hf : jb_Md_signs_250 tb h l0 s0 s1 = some r) : V E g tb ρ 2 250 [(0, .ref (ρ l0))] [.int s1, .ref (ρ s0)] h := by
  unfold jb_Md_signs_250 at hf
  obtain ⟨h1, eh1, hf⟩ := bnd_e hf
  refine v_putz (pc := 250) X fp_12_323 ks0 rfl (pZ_b eh1) (by decide +kernel) (pZ_e eh1) ?_
  refine v_aload_n (pc := 253) (k := 0) X (by decide +kernel) 0 rfl ?_
  obtain ⟨r2, er2, hf⟩ := bnd_e hf
  refine v_callV (pc := 254) (As := []) (rest := []) X (mt_Md_token ok hi kl0 er2) ml_12_212 mv_Md_token kl0 cls_12 rfl ⟨Nat.le_of_ble_eq_true rfl, Nat.le_of_ble_eq_true rfl⟩ rfl rfl (Nat.le_of_ble_eq_true rfl) (by decide +kernel) ?_
  change V E g tb ρ 2 257 [(0, .ref (ρ l0))] [] r2
  refine v_iconst (pc := 257) (n := 1) X (by decide +kernel) ic_1 ?_
  cases hf
  exact v_zret (hz := rfl) X Y (by decide +kernel) rfl rfl
set_option maxRecDepth 4000 in
set_option maxHeartbeats 1000000 in
theorem vjb_Md_signs_217 {E : En} {g : Gl} {tb : Tb} {ρ : Nat → Nat} (ok : TbOK tb) (hi : inj tb ρ) {r : Int32 × Hp} (X : CX E g tb ρ prog_14_method_40_code 2 RC12 2 47) (Y : CQ E g tb ρ (some .boolean) (some (.int r.1)) r.2) (h : Hp) (l0 : Nat) (l1 : Int32) (kl0 : kd tb l0 = 12) (hf : jb_Md_signs_217 tb h l0 l1 = some r) : V E g tb ρ 2 217 [(0, .ref (ρ l0)), (1, .int l1)] [] h := by
  unfold jb_Md_signs_217 at hf
  refine v_aload_n (pc := 217) (k := 0) X (by decide +kernel) 0 rfl ?_
  obtain ⟨r1, er1, hf⟩ := bnd_e hf
  refine v_callV (pc := 218) (As := []) (rest := []) X (mt_Md_isCounted ok hi kl0 er1) ml_12_330 mv_Md_isCounted kl0 cls_12 rfl ⟨Nat.le_of_ble_eq_true rfl, Nat.le_of_ble_eq_true rfl⟩ rfl rfl (Nat.le_of_ble_eq_true rfl) (by decide +kernel) ?_
  change V E g tb ρ 2 221 [(0, .ref (ρ l0)), (1, .int l1)] [.int r1.1] r1.2
  refine v_if_ne (pc := 221) (off := 5) (tgt := 226) X (by decide +kernel) (by decide) (fun q6 => ?_) (fun q6 => ?_)
  · rw [if_neg q6] at hf
    refine v_aload_n (pc := 226) (k := 0) X (by decide +kernel) 0 rfl ?_
    refine v_iload_n (pc := 227) (k := 1) X (by decide +kernel) 1 rfl ?_
    obtain ⟨r2, er2, hf⟩ := bnd_e hf
    refine v_callV (pc := 228) (As := [.int l1]) (rest := []) X (mt_Md_waitsFor ok hi kl0 er2) ml_12_319 mv_Md_waitsFor kl0 cls_12 rfl ⟨Nat.le_of_ble_eq_true rfl, Nat.le_of_ble_eq_true rfl⟩ rfl rfl (Nat.le_of_ble_eq_true rfl) (by decide +kernel) ?_
    change V E g tb ρ 2 231 [(0, .ref (ρ l0)), (1, .int l1)] [] r2
    refine v_aload_n (pc := 231) (k := 0) X (by decide +kernel) 0 rfl ?_
    refine v_iconst (pc := 232) (n := 1) X (by decide +kernel) ic_1 ?_
    obtain ⟨h3, eh3, hf⟩ := nmd_e hf
    refine v_putz (pc := 233) X fp_12_336 kl0 rfl rfl (by decide +kernel) eh3 ?_
    refine v_aload_n (pc := 236) (k := 0) X (by decide +kernel) 0 rfl ?_
    refine v_iload_n (pc := 237) (k := 1) X (by decide +kernel) 1 rfl ?_
    obtain ⟨r4, er4, hf⟩ := nmd_e hf
    refine v_callS (pc := 238) (As := [.int l1]) (rest := [.ref (ρ l0)]) X (mt_Md_rank ok hi er4.symm) ml_12_304 ms_Md_rank ⟨Nat.le_of_ble_eq_true rfl, Nat.le_of_ble_eq_true rfl⟩ rfl rfl (Nat.le_of_ble_eq_true rfl) (by decide +kernel) ?_
    change V E g tb ρ 2 241 [(0, .ref (ρ l0)), (1, .int l1)] [.int r4, .ref (ρ l0)] h3
    refine v_iconst (pc := 241) (n := 3) X (by decide +kernel) ic_3 ?_
    refine v_icmp_ge (pc := 242) (off := 7) (tgt := 249) X (by decide +kernel) (by decide) (fun q5 => ?_) (fun q5 => ?_)
    · rw [if_pos q5] at hf
      refine v_iconst (pc := 249) (n := 0) X (by decide +kernel) ic_0 ?_
      refine v_sub [0] rfl ?_
      exact vjb_Md_signs_250 ok hi X Y h3 l0 l0 (0 : Int32) kl0 kl0 hf
    · rw [if_neg q5] at hf
      refine v_iconst (pc := 245) (n := 1) X (by decide +kernel) ic_1 ?_
      refine v_goto (pc := 246) (off := 4) (tgt := 250) X (by decide +kernel) (by decide) ?_
      refine v_sub [0] rfl ?_
      exact vjb_Md_signs_250 ok hi X Y h3 l0 l0 (1 : Int32) kl0 kl0 hf
  · rw [if_pos q6] at hf
    refine v_iconst (pc := 224) (n := 0) X (by decide +kernel) ic_0 ?_
    cases hf
    exact v_zret (hz := rfl) X Y (by decide +kernel) rfl rfl
set_option maxRecDepth 4000 in
set_option maxHeartbeats 1000000 in
theorem vjb_Md_signs_175 {E : En} {g : Gl} {tb : Tb} {ρ : Nat → Nat} (ok : TbOK tb) (hi : inj tb ρ) {r : Int32 × Hp} (X : CX E g tb ρ prog_14_method_40_code 2 RC12 2 47) (Y : CQ E g tb ρ (some .boolean) (some (.int r.1)) r.2) (h : Hp) (l0 : Nat) (l1 : Int32) (s0 : Nat) (s1 : Int32) (kl0 : kd tb l0 = 12) (ks0 : kd tb s0 = 12) (hf : jb_Md_signs_175 tb h l0 l1 s0 s1 = some r) : V E g tb ρ 2 175 [(0, .ref (ρ l0)), (1, .int l1)] [.int s1, .ref (ρ s0)] h := by
  unfold jb_Md_signs_175 at hf
  obtain ⟨r1, er1, hf⟩ := bnd_e hf
  refine v_callV (pc := 175) (As := [.int s1]) (rest := []) X (mt_Md_bind ok hi ks0 er1) ml_12_339 mv_Md_bind ks0 cls_12 rfl ⟨Nat.le_of_ble_eq_true rfl, Nat.le_of_ble_eq_true rfl⟩ rfl rfl (Nat.le_of_ble_eq_true rfl) (by decide +kernel) ?_
  change V E g tb ρ 2 178 [(0, .ref (ρ l0)), (1, .int l1)] [] r1
  refine v_iload_n (pc := 178) (k := 1) X (by decide +kernel) 1 rfl ?_
  obtain ⟨r2, er2, hf⟩ := nmd_e hf
  refine v_callS (pc := 179) (As := [.int l1]) (rest := []) X (mt_Md_rank ok hi er2.symm) ml_12_304 ms_Md_rank ⟨Nat.le_of_ble_eq_true rfl, Nat.le_of_ble_eq_true rfl⟩ rfl rfl (Nat.le_of_ble_eq_true rfl) (by decide +kernel) ?_
  change V E g tb ρ 2 182 [(0, .ref (ρ l0)), (1, .int l1)] [.int r2] r1
  refine v_iconst (pc := 182) (n := 4) X (by decide +kernel) ic_4 ?_
  refine v_icmp_ne (pc := 183) (off := 34) (tgt := 217) X (by decide +kernel) (by decide) (fun q9 => ?_) (fun q9 => ?_)
  · rw [if_neg q9] at hf
    exact vjb_Md_signs_217 ok hi X Y r1 l0 l1 kl0 hf
  · rw [if_pos q9] at hf
    refine v_aload_n (pc := 186) (k := 0) X (by decide +kernel) 0 rfl ?_
    refine v_geti (pc := 187) X fl_12_301 kl0 rfl (by decide +kernel) ?_
    refine v_if_le (pc := 190) (off := 27) (tgt := 217) X (by decide +kernel) (by decide) (fun q8 => ?_) (fun q8 => ?_)
    · rw [if_pos q8] at hf
      exact vjb_Md_signs_217 ok hi X Y r1 l0 l1 kl0 hf
    · rw [if_neg q8] at hf
      refine v_aload_n (pc := 193) (k := 0) X (by decide +kernel) 0 rfl ?_
      refine v_geta (pc := 194) X fl_12_81 kl0 fk_12_43 (by decide +kernel) ?_
      refine v_aload_n (pc := 197) (k := 0) X (by decide +kernel) 0 rfl ?_
      refine v_geti (pc := 198) X fl_12_301 kl0 rfl (by decide +kernel) ?_
      refine v_iconst (pc := 201) (n := 1) X (by decide +kernel) ic_1 ?_
      refine v_isub (pc := 202) X (by decide +kernel) ?_
      obtain ⟨x3, ex3, hf⟩ := bnd_e hf
      refine v_iald (pc := 203) X (ly_12_43 ok kl0) ex3 (by decide +kernel) ?_
      obtain ⟨r4, er4, hf⟩ := nmd_e hf
      refine v_callS (pc := 204) (As := [.int x3]) (rest := []) X (mt_Md_rank ok hi er4.symm) ml_12_304 ms_Md_rank ⟨Nat.le_of_ble_eq_true rfl, Nat.le_of_ble_eq_true rfl⟩ rfl rfl (Nat.le_of_ble_eq_true rfl) (by decide +kernel) ?_
      change V E g tb ρ 2 207 [(0, .ref (ρ l0)), (1, .int l1)] [.int r4] r1
      refine v_iconst (pc := 207) (n := 4) X (by decide +kernel) ic_4 ?_
      refine v_icmp_ne (pc := 208) (off := 9) (tgt := 217) X (by decide +kernel) (by decide) (fun q7 => ?_) (fun q7 => ?_)
      · rw [if_neg q7] at hf
        exact vjb_Md_signs_217 ok hi X Y r1 l0 l1 kl0 hf
      · rw [if_pos q7] at hf
        refine v_aload_n (pc := 211) (k := 0) X (by decide +kernel) 0 rfl ?_
        refine v_iconst (pc := 212) (n := 1) X (by decide +kernel) ic_1 ?_
        obtain ⟨r5, er5, hf⟩ := nmd_e hf
        refine v_callV (pc := 213) (As := [.int (1 : Int32)]) (rest := []) X (mt_Md_wrong ok hi kl0 er5.symm) ml_12_202 mv_Md_wrong kl0 cls_12 rfl ⟨Nat.le_of_ble_eq_true rfl, Nat.le_of_ble_eq_true rfl⟩ rfl rfl (Nat.le_of_ble_eq_true rfl) (by decide +kernel) ?_
        change V E g tb ρ 2 216 [(0, .ref (ρ l0)), (1, .int l1)] [.int r5.1] r5.2
        obtain ⟨x6, ex6, hf⟩ := bnd_e hf
        obtain ⟨bx6, rfl⟩ := cZ_e ex6
        cases hf
        exact v_zret (hz := bx6) X Y (by decide +kernel) rfl rfl
set_option maxRecDepth 4000 in
set_option maxHeartbeats 1000000 in
theorem vjb_Md_signs_147 {E : En} {g : Gl} {tb : Tb} {ρ : Nat → Nat} (ok : TbOK tb) (hi : inj tb ρ) {r : Int32 × Hp} (X : CX E g tb ρ prog_14_method_40_code 2 RC12 2 47) (Y : CQ E g tb ρ (some .boolean) (some (.int r.1)) r.2) (h : Hp) (l0 : Nat) (s0 : Int32) (kl0 : kd tb l0 = 12) (hf : jb_Md_signs_147 tb h l0 s0 = some r) : V E g tb ρ 2 147 [(0, .ref (ρ l0))] [.int s0] h := by
  unfold jb_Md_signs_147 at hf
  refine v_istore_n (pc := 147) (k := 1) (lv' := [(1, .int s0), (0, .ref (ρ l0))]) X (by decide +kernel) (Nat.le_of_ble_eq_true rfl) rfl ?_
  refine v_iload_n (pc := 148) (k := 1) X (by decide +kernel) 0 rfl ?_
  refine v_if_ne (pc := 149) (off := 9) (tgt := 158) X (by decide +kernel) (by decide) (fun q6 => ?_) (fun q6 => ?_)
  · rw [if_neg q6] at hf
    refine v_aload_n (pc := 158) (k := 0) X (by decide +kernel) 1 rfl ?_
    refine v_iload_n (pc := 159) (k := 1) X (by decide +kernel) 0 rfl ?_
    obtain ⟨r1, er1, hf⟩ := nmd_e hf
    refine v_callS (pc := 160) (As := [.int s0]) (rest := [.ref (ρ l0)]) X (mt_Md_rank ok hi er1.symm) ml_12_304 ms_Md_rank ⟨Nat.le_of_ble_eq_true rfl, Nat.le_of_ble_eq_true rfl⟩ rfl rfl (Nat.le_of_ble_eq_true rfl) (by decide +kernel) ?_
    change V E g tb ρ 2 163 [(1, .int s0), (0, .ref (ρ l0))] [.int r1, .ref (ρ l0)] h
    refine v_iconst (pc := 163) (n := 4) X (by decide +kernel) ic_4 ?_
    refine v_icmp_ne (pc := 164) (off := 7) (tgt := 171) X (by decide +kernel) (by decide) (fun q3 => ?_) (fun q3 => ?_)
    · rw [if_neg q3] at hf
      refine v_iload_n (pc := 171) (k := 1) X (by decide +kernel) 0 rfl ?_
      obtain ⟨r2, er2, hf⟩ := nmd_e hf
      refine v_callS (pc := 172) (As := [.int s0]) (rest := [.ref (ρ l0)]) X (mt_Md_rank ok hi er2.symm) ml_12_304 ms_Md_rank ⟨Nat.le_of_ble_eq_true rfl, Nat.le_of_ble_eq_true rfl⟩ rfl rfl (Nat.le_of_ble_eq_true rfl) (by decide +kernel) ?_
      change V E g tb ρ 2 175 [(1, .int s0), (0, .ref (ρ l0))] [.int r2, .ref (ρ l0)] h
      refine v_sub [1, 0] rfl ?_
      exact vjb_Md_signs_175 ok hi X Y h l0 s0 l0 r2 kl0 kl0 hf
    · rw [if_pos q3] at hf
      refine v_iconst (pc := 167) (n := 5) X (by decide +kernel) ic_5 ?_
      refine v_goto (pc := 168) (off := 7) (tgt := 175) X (by decide +kernel) (by decide) ?_
      refine v_sub [1, 0] rfl ?_
      exact vjb_Md_signs_175 ok hi X Y h l0 s0 l0 (5 : Int32) kl0 kl0 hf
  · rw [if_pos q6] at hf
    refine v_aload_n (pc := 152) (k := 0) X (by decide +kernel) 1 rfl ?_
    refine v_iconst (pc := 153) (n := 1) X (by decide +kernel) ic_1 ?_
    obtain ⟨r4, er4, hf⟩ := nmd_e hf
    refine v_callV (pc := 154) (As := [.int (1 : Int32)]) (rest := []) X (mt_Md_wrong ok hi kl0 er4.symm) ml_12_202 mv_Md_wrong kl0 cls_12 rfl ⟨Nat.le_of_ble_eq_true rfl, Nat.le_of_ble_eq_true rfl⟩ rfl rfl (Nat.le_of_ble_eq_true rfl) (by decide +kernel) ?_
    change V E g tb ρ 2 157 [(1, .int s0), (0, .ref (ρ l0))] [.int r4.1] r4.2
    obtain ⟨x5, ex5, hf⟩ := bnd_e hf
    obtain ⟨bx5, rfl⟩ := cZ_e ex5
    cases hf
    exact v_zret (hz := bx5) X Y (by decide +kernel) rfl rfl
set_option maxRecDepth 4000 in
set_option maxHeartbeats 1000000 in
theorem vjb_Md_signs_47 {E : En} {g : Gl} {tb : Tb} {ρ : Nat → Nat} (ok : TbOK tb) (hi : inj tb ρ) {r : Int32 × Hp} (X : CX E g tb ρ prog_14_method_40_code 2 RC12 2 47) (Y : CQ E g tb ρ (some .boolean) (some (.int r.1)) r.2) (h : Hp) (l0 : Nat) (kl0 : kd tb l0 = 12) (hf : jb_Md_signs_47 tb h l0 = some r) : V E g tb ρ 2 47 [(0, .ref (ρ l0))] [] h := by
  unfold jb_Md_signs_47 at hf
  refine v_aload_n (pc := 47) (k := 0) X (by decide +kernel) 0 rfl ?_
  refine v_bipush (pc := 48) (n := 10) X (by decide +kernel) bi_10 ?_
  obtain ⟨r1, er1, hf⟩ := nmd_e hf
  refine v_callV (pc := 50) (As := [.int (10 : Int32)]) (rest := []) X (mt_Md_isKey ok hi kl0 er1.symm) ml_12_327 mv_Md_isKey kl0 cls_12 rfl ⟨Nat.le_of_ble_eq_true rfl, Nat.le_of_ble_eq_true rfl⟩ rfl rfl (Nat.le_of_ble_eq_true rfl) (by decide +kernel) ?_
  change V E g tb ρ 2 53 [(0, .ref (ρ l0))] [.int r1] h
  refine v_if_eq (pc := 53) (off := 7) (tgt := 60) X (by decide +kernel) (by decide) (fun q13 => ?_) (fun q13 => ?_)
  · rw [if_pos q13] at hf
    refine v_aload_n (pc := 60) (k := 0) X (by decide +kernel) 0 rfl ?_
    refine v_bipush (pc := 61) (n := 11) X (by decide +kernel) bi_11 ?_
    obtain ⟨r2, er2, hf⟩ := nmd_e hf
    refine v_callV (pc := 63) (As := [.int (11 : Int32)]) (rest := []) X (mt_Md_isKey ok hi kl0 er2.symm) ml_12_327 mv_Md_isKey kl0 cls_12 rfl ⟨Nat.le_of_ble_eq_true rfl, Nat.le_of_ble_eq_true rfl⟩ rfl rfl (Nat.le_of_ble_eq_true rfl) (by decide +kernel) ?_
    change V E g tb ρ 2 66 [(0, .ref (ρ l0))] [.int r2] h
    refine v_if_eq (pc := 66) (off := 7) (tgt := 73) X (by decide +kernel) (by decide) (fun q12 => ?_) (fun q12 => ?_)
    · rw [if_pos q12] at hf
      refine v_aload_n (pc := 73) (k := 0) X (by decide +kernel) 0 rfl ?_
      refine v_geti (pc := 74) X fl_12_178 kl0 rfl (by decide +kernel) ?_
      refine v_iconst (pc := 77) (n := 5) X (by decide +kernel) ic_5 ?_
      refine v_icmp_ne (pc := 78) (off := 12) (tgt := 90) X (by decide +kernel) (by decide) (fun q11 => ?_) (fun q11 => ?_)
      · rw [if_neg q11] at hf
        refine v_aload_n (pc := 90) (k := 0) X (by decide +kernel) 0 rfl ?_
        refine v_bipush (pc := 91) (n := 43) X (by decide +kernel) bi_43 ?_
        obtain ⟨r3, er3, hf⟩ := nmd_e hf
        refine v_callV (pc := 93) (As := [.int (43 : Int32)]) (rest := []) X (mt_Md_isSign ok hi kl0 er3.symm) ml_12_215 mv_Md_isSign kl0 cls_12 rfl ⟨Nat.le_of_ble_eq_true rfl, Nat.le_of_ble_eq_true rfl⟩ rfl rfl (Nat.le_of_ble_eq_true rfl) (by decide +kernel) ?_
        change V E g tb ρ 2 96 [(0, .ref (ρ l0))] [.int r3] h
        refine v_if_eq (pc := 96) (off := 8) (tgt := 104) X (by decide +kernel) (by decide) (fun q10 => ?_) (fun q10 => ?_)
        · rw [if_pos q10] at hf
          refine v_aload_n (pc := 104) (k := 0) X (by decide +kernel) 0 rfl ?_
          refine v_bipush (pc := 105) (n := 45) X (by decide +kernel) bi_45 ?_
          obtain ⟨r4, er4, hf⟩ := nmd_e hf
          refine v_callV (pc := 107) (As := [.int (45 : Int32)]) (rest := []) X (mt_Md_isSign ok hi kl0 er4.symm) ml_12_215 mv_Md_isSign kl0 cls_12 rfl ⟨Nat.le_of_ble_eq_true rfl, Nat.le_of_ble_eq_true rfl⟩ rfl rfl (Nat.le_of_ble_eq_true rfl) (by decide +kernel) ?_
          change V E g tb ρ 2 110 [(0, .ref (ρ l0))] [.int r4] h
          refine v_if_eq (pc := 110) (off := 8) (tgt := 118) X (by decide +kernel) (by decide) (fun q9 => ?_) (fun q9 => ?_)
          · rw [if_pos q9] at hf
            refine v_aload_n (pc := 118) (k := 0) X (by decide +kernel) 0 rfl ?_
            refine v_bipush (pc := 119) (n := 42) X (by decide +kernel) bi_42 ?_
            obtain ⟨r5, er5, hf⟩ := nmd_e hf
            refine v_callV (pc := 121) (As := [.int (42 : Int32)]) (rest := []) X (mt_Md_isSign ok hi kl0 er5.symm) ml_12_215 mv_Md_isSign kl0 cls_12 rfl ⟨Nat.le_of_ble_eq_true rfl, Nat.le_of_ble_eq_true rfl⟩ rfl rfl (Nat.le_of_ble_eq_true rfl) (by decide +kernel) ?_
            change V E g tb ρ 2 124 [(0, .ref (ρ l0))] [.int r5] h
            refine v_if_eq (pc := 124) (off := 8) (tgt := 132) X (by decide +kernel) (by decide) (fun q8 => ?_) (fun q8 => ?_)
            · rw [if_pos q8] at hf
              refine v_aload_n (pc := 132) (k := 0) X (by decide +kernel) 0 rfl ?_
              refine v_bipush (pc := 133) (n := 47) X (by decide +kernel) bi_47 ?_
              obtain ⟨r6, er6, hf⟩ := nmd_e hf
              refine v_callV (pc := 135) (As := [.int (47 : Int32)]) (rest := []) X (mt_Md_isSign ok hi kl0 er6.symm) ml_12_215 mv_Md_isSign kl0 cls_12 rfl ⟨Nat.le_of_ble_eq_true rfl, Nat.le_of_ble_eq_true rfl⟩ rfl rfl (Nat.le_of_ble_eq_true rfl) (by decide +kernel) ?_
              change V E g tb ρ 2 138 [(0, .ref (ρ l0))] [.int r6] h
              refine v_if_eq (pc := 138) (off := 8) (tgt := 146) X (by decide +kernel) (by decide) (fun q7 => ?_) (fun q7 => ?_)
              · rw [if_pos q7] at hf
                refine v_iconst (pc := 146) (n := 0) X (by decide +kernel) ic_0 ?_
                exact vjb_Md_signs_147 ok hi X Y h l0 (0 : Int32) kl0 hf
              · rw [if_neg q7] at hf
                refine v_bipush (pc := 141) (n := 14) X (by decide +kernel) bi_14 ?_
                refine v_goto (pc := 143) (off := 4) (tgt := 147) X (by decide +kernel) (by decide) ?_
                exact vjb_Md_signs_147 ok hi X Y h l0 (14 : Int32) kl0 hf
            · rw [if_neg q8] at hf
              refine v_bipush (pc := 127) (n := 13) X (by decide +kernel) bi_13 ?_
              refine v_goto (pc := 129) (off := 18) (tgt := 147) X (by decide +kernel) (by decide) ?_
              exact vjb_Md_signs_147 ok hi X Y h l0 (13 : Int32) kl0 hf
          · rw [if_neg q9] at hf
            refine v_bipush (pc := 113) (n := 12) X (by decide +kernel) bi_12 ?_
            refine v_goto (pc := 115) (off := 32) (tgt := 147) X (by decide +kernel) (by decide) ?_
            exact vjb_Md_signs_147 ok hi X Y h l0 (12 : Int32) kl0 hf
        · rw [if_neg q10] at hf
          refine v_bipush (pc := 99) (n := 11) X (by decide +kernel) bi_11 ?_
          refine v_goto (pc := 101) (off := 46) (tgt := 147) X (by decide +kernel) (by decide) ?_
          exact vjb_Md_signs_147 ok hi X Y h l0 (11 : Int32) kl0 hf
      · rw [if_pos q11] at hf
        refine v_iconst (pc := 81) (n := 5) X (by decide +kernel) ic_5 ?_
        refine v_aload_n (pc := 82) (k := 0) X (by decide +kernel) 0 rfl ?_
        refine v_geti (pc := 83) X fl_12_189 kl0 rfl (by decide +kernel) ?_
        refine v_iadd (pc := 86) X (by decide +kernel) ?_
        refine v_goto (pc := 87) (off := 60) (tgt := 147) X (by decide +kernel) (by decide) ?_
        exact vjb_Md_signs_147 ok hi X Y h l0 ((5 : Int32) + (h.1 l0 9)) kl0 hf
    · rw [if_neg q12] at hf
      refine v_iconst (pc := 69) (n := 4) X (by decide +kernel) ic_4 ?_
      refine v_goto (pc := 70) (off := 77) (tgt := 147) X (by decide +kernel) (by decide) ?_
      exact vjb_Md_signs_147 ok hi X Y h l0 (4 : Int32) kl0 hf
  · rw [if_neg q13] at hf
    refine v_iconst (pc := 56) (n := 3) X (by decide +kernel) ic_3 ?_
    refine v_goto (pc := 57) (off := 90) (tgt := 147) X (by decide +kernel) (by decide) ?_
    exact vjb_Md_signs_147 ok hi X Y h l0 (3 : Int32) kl0 hf
set_option maxRecDepth 4000 in
set_option maxHeartbeats 1000000 in
theorem mt_Md_signs {g : Gl} {tb : Tb} {ρ : Nat → Nat} (ok : TbOK tb) (hi : inj tb ρ) {h : Hp} {l0 : Nat} (kl0 : kd tb l0 = 12) {r : Int32 × Hp} (hf : f_Md_signs tb h l0 = some r) : MT g y_Md_signs prog_14_method_40_code 2 (some .boolean) 2 47 tb ρ [.ref (ρ l0)] h (some (.int r.1)) r.2 := by
  refine mt_intro (by decide +kernel) ok hi (Nat.le_of_ble_eq_true rfl) (fun E X Y => ?_)
  change V E g tb ρ 2 0 [(0, .ref (ρ l0))] [] h
  unfold f_Md_signs at hf
  refine v_aload_n (pc := 0) (k := 0) X (by decide +kernel) 0 rfl ?_
  refine v_bipush (pc := 1) (n := 41) X (by decide +kernel) bi_41 ?_
  obtain ⟨r1, er1, hf⟩ := nmd_e hf
  refine v_callV (pc := 3) (As := [.int (41 : Int32)]) (rest := []) X (mt_Md_isSign ok hi kl0 er1.symm) ml_12_215 mv_Md_isSign kl0 cls_12 rfl ⟨Nat.le_of_ble_eq_true rfl, Nat.le_of_ble_eq_true rfl⟩ rfl rfl (Nat.le_of_ble_eq_true rfl) (by decide +kernel) ?_
  change V E g tb ρ 2 6 [(0, .ref (ρ l0))] [.int r1] h
  refine v_if_eq (pc := 6) (off := 41) (tgt := 47) X (by decide +kernel) (by decide) (fun q7 => ?_) (fun q7 => ?_)
  · rw [if_pos q7] at hf
    exact vjb_Md_signs_47 ok hi X Y h l0 kl0 hf
  · rw [if_neg q7] at hf
    refine v_aload_n (pc := 9) (k := 0) X (by decide +kernel) 0 rfl ?_
    refine v_geti (pc := 10) X fl_12_316 kl0 rfl (by decide +kernel) ?_
    refine v_if_le (pc := 13) (off := 34) (tgt := 47) X (by decide +kernel) (by decide) (fun q6 => ?_) (fun q6 => ?_)
    · rw [if_pos q6] at hf
      exact vjb_Md_signs_47 ok hi X Y h l0 kl0 hf
    · rw [if_neg q6] at hf
      refine v_aload_n (pc := 16) (k := 0) X (by decide +kernel) 0 rfl ?_
      refine v_iconst (pc := 17) (n := 1) X (by decide +kernel) ic_1 ?_
      obtain ⟨r2, er2, hf⟩ := bnd_e hf
      refine v_callV (pc := 18) (As := [.int (1 : Int32)]) (rest := []) X (mt_Md_bind ok hi kl0 er2) ml_12_339 mv_Md_bind kl0 cls_12 rfl ⟨Nat.le_of_ble_eq_true rfl, Nat.le_of_ble_eq_true rfl⟩ rfl rfl (Nat.le_of_ble_eq_true rfl) (by decide +kernel) ?_
      change V E g tb ρ 2 21 [(0, .ref (ρ l0))] [] r2
      refine v_aload_n (pc := 21) (k := 0) X (by decide +kernel) 0 rfl ?_
      refine v_dup (pc := 22) X (by decide +kernel) rfl ?_
      refine v_geti (pc := 23) X fl_12_301 kl0 rfl (by decide +kernel) ?_
      refine v_iconst (pc := 26) (n := 1) X (by decide +kernel) ic_1 ?_
      refine v_isub (pc := 27) X (by decide +kernel) ?_
      obtain ⟨h3, eh3, hf⟩ := nmd_e hf
      refine v_puti (pc := 28) X fp_12_301 kl0 rfl (by decide +kernel) eh3 ?_
      refine v_aload_n (pc := 31) (k := 0) X (by decide +kernel) 0 rfl ?_
      refine v_dup (pc := 32) X (by decide +kernel) rfl ?_
      refine v_geti (pc := 33) X fl_12_316 kl0 rfl (by decide +kernel) ?_
      refine v_iconst (pc := 36) (n := 1) X (by decide +kernel) ic_1 ?_
      refine v_isub (pc := 37) X (by decide +kernel) ?_
      obtain ⟨h4, eh4, hf⟩ := nmd_e hf
      refine v_puti (pc := 38) X fp_12_316 kl0 rfl (by decide +kernel) eh4 ?_
      refine v_aload_n (pc := 41) (k := 0) X (by decide +kernel) 0 rfl ?_
      obtain ⟨r5, er5, hf⟩ := bnd_e hf
      refine v_callV (pc := 42) (As := []) (rest := []) X (mt_Md_token ok hi kl0 er5) ml_12_212 mv_Md_token kl0 cls_12 rfl ⟨Nat.le_of_ble_eq_true rfl, Nat.le_of_ble_eq_true rfl⟩ rfl rfl (Nat.le_of_ble_eq_true rfl) (by decide +kernel) ?_
      change V E g tb ρ 2 45 [(0, .ref (ρ l0))] [] r5
      refine v_iconst (pc := 45) (n := 1) X (by decide +kernel) ic_1 ?_
      cases hf
      exact v_zret (hz := rfl) X Y (by decide +kernel) rfl rfl
