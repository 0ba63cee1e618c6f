def jb_Tt_ahead_51 (tb : Tb) (h : Hp) (l0 : Nat) (l1 : Int32) (l2 : Int32) (l3 : Int32) (s0 : Int32) : Option (Int32 × Hp) :=
  if l1 < (0 : Int32) then (
    some ((-1 : Int32), h)
  ) else (
    if (200 : Int32) < l1 then (
      some ((-1 : Int32), h)
    ) else (
      if s0 = (0 : Int32) then (
        some ((-1 : Int32), h)
      ) else (
        (f_Fo_behind tb h (lay tb l0 10) l1).bind fun r1 =>
        if l2 = (0 : Int32) then (
          some ((r1.1 (lay tb (lay tb l0 10) 3) 3) - (r1.1 (lay tb l0 4) 3), r1)
        ) else (
          if l2 = (1 : Int32) then (
            some ((r1.1 (lay tb (lay tb l0 10) 3) 4) - (r1.1 (lay tb l0 4) 4), r1)
          ) else (
            if l2 = (2 : Int32) then (
              (rI tb r1 (lay tb (lay tb (lay tb l0 10) 3) 10) l3).bind fun x5 =>
              some (x5, r1)
            ) else (
              if l2 = (3 : Int32) then (
                (rI tb r1 (lay tb (lay tb (lay tb l0 10) 3) 14) l3).bind fun x7 =>
                some (x7, r1)
              ) else (
                nmd (f_In_bitCount tb r1 (r1.1 (lay tb (lay tb l0 10) 3) 2)) fun r8 =>
                some (r8, r1)
              )
            )
          )
        )
      )
    )
  )
def jb_Tt_ahead_50 (tb : Tb) (h : Hp) (l0 : Nat) (l1 : Int32) (l2 : Int32) (l3 : Int32) : Option (Int32 × Hp) :=
  jb_Tt_ahead_51 tb h l0 l1 l2 l3 (0 : Int32)
def jb_Tt_ahead_46 (tb : Tb) (h : Hp) (l0 : Nat) (l1 : Int32) (l2 : Int32) (l3 : Int32) : Option (Int32 × Hp) :=
  jb_Tt_ahead_51 tb h l0 l1 l2 l3 (1 : Int32)
def jb_Tt_ahead_30 (tb : Tb) (h : Hp) (l0 : Nat) (l1 : Int32) (l2 : Int32) (l3 : Int32) : Option (Int32 × Hp) :=
  if l2 = (3 : Int32) then (
    nmd (f_Pl_hasTrough tb h (lay tb l0 3) l3) fun r1 =>
    if r1 = (0 : Int32) then (
      jb_Tt_ahead_50 tb h l0 l1 l2 l3
    ) else (
      jb_Tt_ahead_46 tb h l0 l1 l2 l3
    )
  ) else (
    jb_Tt_ahead_50 tb h l0 l1 l2 l3
  )
def f_Tt_ahead (tb : Tb) (h : Hp) (l0 : Nat) (l1 : Int32) (l2 : Int32) (l3 : Int32) : Option (Int32 × Hp) :=
  if l2 = (0 : Int32) then (
    jb_Tt_ahead_46 tb h l0 l1 l2 l3
  ) else (
    if l2 = (1 : Int32) then (
      jb_Tt_ahead_46 tb h l0 l1 l2 l3
    ) else (
      if l2 = (4 : Int32) then (
        jb_Tt_ahead_46 tb h l0 l1 l2 l3
      ) else (
        if l2 = (2 : Int32) then (
          nmd (f_Pl_hasHorse tb h (lay tb l0 3) l3) fun r1 =>
          if r1 = (0 : Int32) then (
            jb_Tt_ahead_30 tb h l0 l1 l2 l3
          ) else (
            jb_Tt_ahead_46 tb h l0 l1 l2 l3
          )
        ) else (
          jb_Tt_ahead_30 tb h l0 l1 l2 l3
        )
      )
    )
  )
set_option maxRecDepth 4000 in
set_option maxHeartbeats 1000000 in
theorem vjb_Tt_ahead_51 {E : En} {g : Gl} {tb : Tb} {ρ : Nat → Nat} (ok : TbOK tb) (hi : inj tb ρ) {r : Int32 × Hp} (X : CX E g tb ρ prog_1_method_16_code 6 RC0 7 172) (Y : CQ E g tb ρ (some .int) (some (.int r.1)) r.2) (h : Hp) (l0 : Nat) (l1 : Int32) (l2 : Int32) (l3 : Int32) (s0 : Int32) (kl0 : kd tb l0 = 0) (hf : jb_Tt_ahead_51 tb h l0 l1 l2 l3 s0 = some r) : V E g tb ρ 6 51 [(0, .ref (ρ l0)), (1, .int l1), (2, .int l2), (3, .int l3)] [.int s0] h := by
  unfold jb_Tt_ahead_51 at hf
  refine v_istore (pc := 51) (k := 4) (lv' := [(4, .int s0), (0, .ref (ρ l0)), (1, .int l1), (2, .int l2), (3, .int l3)]) X (by decide +kernel) (Nat.le_of_ble_eq_true rfl) rfl ?_
  refine v_iload_n (pc := 53) (k := 1) X (by decide +kernel) 2 rfl ?_
  refine v_if_lt (pc := 54) (off := 15) (tgt := 69) X (by decide +kernel) (by decide) (fun q11 => ?_) (fun q11 => ?_)
  · rw [if_pos q11] at hf
    refine v_iconst (pc := 69) (n := -1) X (by decide +kernel) ic_m1 ?_
    cases hf
    exact v_iret X Y (by decide +kernel) rfl rfl
  · rw [if_neg q11] at hf
    refine v_iload_n (pc := 57) (k := 1) X (by decide +kernel) 2 rfl ?_
    refine v_sipush (pc := 58) (n := 200) X (by decide +kernel) si_200 ?_
    refine v_icmp_gt (pc := 61) (off := 8) (tgt := 69) X (by decide +kernel) (by decide) (fun q10 => ?_) (fun q10 => ?_)
    · rw [if_pos q10] at hf
      refine v_iconst (pc := 69) (n := -1) X (by decide +kernel) ic_m1 ?_
      cases hf
      exact v_iret X Y (by decide +kernel) rfl rfl
    · rw [if_neg q10] at hf
      refine v_iload (pc := 64) (k := 4) X (by decide +kernel) 0 rfl ?_
      refine v_if_ne (pc := 66) (off := 5) (tgt := 71) X (by decide +kernel) (by decide) (fun q9 => ?_) (fun q9 => ?_)
      · rw [if_neg q9] at hf
        refine v_aload_n (pc := 71) (k := 0) X (by decide +kernel) 1 rfl ?_
        refine v_geta (pc := 72) X fl_0_77 kl0 fk_0_10 (by decide +kernel) ?_
        refine v_iload_n (pc := 75) (k := 1) X (by decide +kernel) 2 rfl ?_
        obtain ⟨r1, er1, hf⟩ := bnd_e hf
        refine v_callV (pc := 76) (As := [.int l1]) (rest := []) X (mt_Fo_behind ok hi (ly_0_10 ok kl0) er1) ml_0_218 mv_Fo_behind (ly_0_10 ok kl0) cls_3 rfl ⟨Nat.le_of_ble_eq_true rfl, Nat.le_of_ble_eq_true rfl⟩ rfl rfl (Nat.le_of_ble_eq_true rfl) (by decide +kernel) ?_
        change V E g tb ρ 6 79 [(4, .int s0), (0, .ref (ρ l0)), (1, .int l1), (2, .int l2), (3, .int l3)] [.ref (ρ (lay tb (lay tb l0 10) 3))] r1
        refine v_astore (pc := 79) (k := 5) (lv' := [(5, .ref (ρ (lay tb (lay tb l0 10) 3))), (4, .int s0), (0, .ref (ρ l0)), (1, .int l1), (2, .int l2), (3, .int l3)]) X (by decide +kernel) (Nat.le_of_ble_eq_true rfl) rfl ?_
        refine v_iload_n (pc := 81) (k := 2) X (by decide +kernel) 4 rfl ?_
        by_cases q2 : l2 = (0 : Int32)
        · rw [if_pos q2] at hf
          refine v_tin (pc := 82) (off := 30) (tgt := 112) X (show decode prog_1_method_16_code 82 = .ok (.tableswitch 74 0 3 #[30, 44, 58, 66], 30) from by decide +kernel) q2 (by decide) (by decide) (by decide) (by decide) ?_
          refine v_aload (pc := 112) (k := 5) X (by decide +kernel) 0 rfl ?_
          refine v_geti (pc := 114) X fl_0_222 (ly_3_3 ok (ly_0_10 ok kl0)) rfl (by decide +kernel) ?_
          refine v_aload_n (pc := 117) (k := 0) X (by decide +kernel) 2 rfl ?_
          refine v_geta (pc := 118) X fl_0_38 kl0 fk_0_4 (by decide +kernel) ?_
          refine v_geti (pc := 121) X fl_0_222 (ly_0_4 ok kl0) rfl (by decide +kernel) ?_
          refine v_isub (pc := 124) X (by decide +kernel) ?_
          cases hf
          exact v_iret X Y (by decide +kernel) rfl rfl
        · rw [if_neg q2] at hf
          by_cases q3 : l2 = (1 : Int32)
          · rw [if_pos q3] at hf
            refine v_tin (pc := 82) (off := 44) (tgt := 126) X (show decode prog_1_method_16_code 82 = .ok (.tableswitch 74 0 3 #[30, 44, 58, 66], 30) from by decide +kernel) q3 (by decide) (by decide) (by decide) (by decide) ?_
            refine v_aload (pc := 126) (k := 5) X (by decide +kernel) 0 rfl ?_
            refine v_geti (pc := 128) X fl_0_225 (ly_3_3 ok (ly_0_10 ok kl0)) rfl (by decide +kernel) ?_
            refine v_aload_n (pc := 131) (k := 0) X (by decide +kernel) 2 rfl ?_
            refine v_geta (pc := 132) X fl_0_38 kl0 fk_0_4 (by decide +kernel) ?_
            refine v_geti (pc := 135) X fl_0_225 (ly_0_4 ok kl0) rfl (by decide +kernel) ?_
            refine v_isub (pc := 138) X (by decide +kernel) ?_
            cases hf
            exact v_iret X Y (by decide +kernel) rfl rfl
          · rw [if_neg q3] at hf
            by_cases q4 : l2 = (2 : Int32)
            · rw [if_pos q4] at hf
              refine v_tin (pc := 82) (off := 58) (tgt := 140) X (show decode prog_1_method_16_code 82 = .ok (.tableswitch 74 0 3 #[30, 44, 58, 66], 30) from by decide +kernel) q4 (by decide) (by decide) (by decide) (by decide) ?_
              refine v_aload (pc := 140) (k := 5) X (by decide +kernel) 0 rfl ?_
              refine v_geta (pc := 142) X fl_0_144 (ly_3_3 ok (ly_0_10 ok kl0)) fk_11_10 (by decide +kernel) ?_
              refine v_iload_n (pc := 145) (k := 3) X (by decide +kernel) 5 rfl ?_
              obtain ⟨x5, ex5, hf⟩ := bnd_e hf
              refine v_iald (pc := 146) X (ly_11_10 ok (ly_3_3 ok (ly_0_10 ok kl0))) ex5 (by decide +kernel) ?_
              cases hf
              exact v_iret X Y (by decide +kernel) rfl rfl
            · rw [if_neg q4] at hf
              by_cases q6 : l2 = (3 : Int32)
              · rw [if_pos q6] at hf
                refine v_tin (pc := 82) (off := 66) (tgt := 148) X (show decode prog_1_method_16_code 82 = .ok (.tableswitch 74 0 3 #[30, 44, 58, 66], 30) from by decide +kernel) q6 (by decide) (by decide) (by decide) (by decide) ?_
                refine v_aload (pc := 148) (k := 5) X (by decide +kernel) 0 rfl ?_
                refine v_geta (pc := 150) X fl_0_171 (ly_3_3 ok (ly_0_10 ok kl0)) fk_11_14 (by decide +kernel) ?_
                refine v_iload_n (pc := 153) (k := 3) X (by decide +kernel) 5 rfl ?_
                obtain ⟨x7, ex7, hf⟩ := bnd_e hf
                refine v_iald (pc := 154) X (ly_11_14 ok (ly_3_3 ok (ly_0_10 ok kl0))) ex7 (by decide +kernel) ?_
                cases hf
                exact v_iret X Y (by decide +kernel) rfl rfl
              · rw [if_neg q6] at hf
                refine v_tout (pc := 82) (tgt := 156) X (show decode prog_1_method_16_code 82 = .ok (.tableswitch 74 0 3 #[30, 44, 58, 66], 30) from by decide +kernel) (t_out (lo := 0) (hi := 3) [(0 : Int32), (1 : Int32), (2 : Int32), (3 : Int32)] (by decide) (List.forall_mem_cons.mpr ⟨q2, List.forall_mem_cons.mpr ⟨q3, List.forall_mem_cons.mpr ⟨q4, List.forall_mem_cons.mpr ⟨q6, fun _ h => absurd h List.not_mem_nil⟩⟩⟩⟩)) (by decide) ?_
                refine v_aload (pc := 156) (k := 5) X (by decide +kernel) 0 rfl ?_
                refine v_geti (pc := 158) X fl_0_228 (ly_3_3 ok (ly_0_10 ok kl0)) rfl (by decide +kernel) ?_
                obtain ⟨r8, er8, hf⟩ := nmd_e hf
                refine v_callS (pc := 161) (As := [.int (r1.1 (lay tb (lay tb l0 10) 3) 2)]) (rest := []) X (mt_In_bitCount ok hi er8.symm) ml_0_231 ms_In_bitCount ⟨Nat.le_of_ble_eq_true rfl, Nat.le_of_ble_eq_true rfl⟩ rfl rfl (Nat.le_of_ble_eq_true rfl) (by decide +kernel) ?_
                change V E g tb ρ 6 164 [(5, .ref (ρ (lay tb (lay tb l0 10) 3))), (4, .int s0), (0, .ref (ρ l0)), (1, .int l1), (2, .int l2), (3, .int l3)] [.int r8] r1
                cases hf
                exact v_iret X Y (by decide +kernel) rfl rfl
      · rw [if_pos q9] at hf
        refine v_iconst (pc := 69) (n := -1) X (by decide +kernel) ic_m1 ?_
        cases hf
        exact v_iret X Y (by decide +kernel) rfl rfl
set_option maxRecDepth 4000 in
set_option maxHeartbeats 1000000 in
theorem vjb_Tt_ahead_50 {E : En} {g : Gl} {tb : Tb} {ρ : Nat → Nat} (ok : TbOK tb) (hi : inj tb ρ) {r : Int32 × Hp} (X : CX E g tb ρ prog_1_method_16_code 6 RC0 7 172) (Y : CQ E g tb ρ (some .int) (some (.int r.1)) r.2) (h : Hp) (l0 : Nat) (l1 : Int32) (l2 : Int32) (l3 : Int32) (kl0 : kd tb l0 = 0) (hf : jb_Tt_ahead_50 tb h l0 l1 l2 l3 = some r) : V E g tb ρ 6 50 [(0, .ref (ρ l0)), (1, .int l1), (2, .int l2), (3, .int l3)] [] h := by
  unfold jb_Tt_ahead_50 at hf
  refine v_iconst (pc := 50) (n := 0) X (by decide +kernel) ic_0 ?_
  exact vjb_Tt_ahead_51 ok hi X Y h l0 l1 l2 l3 (0 : Int32) kl0 hf
set_option maxRecDepth 4000 in
set_option maxHeartbeats 1000000 in
theorem vjb_Tt_ahead_46 {E : En} {g : Gl} {tb : Tb} {ρ : Nat → Nat} (ok : TbOK tb) (hi : inj tb ρ) {r : Int32 × Hp} (X : CX E g tb ρ prog_1_method_16_code 6 RC0 7 172) (Y : CQ E g tb ρ (some .int) (some (.int r.1)) r.2) (h : Hp) (l0 : Nat) (l1 : Int32) (l2 : Int32) (l3 : Int32) (kl0 : kd tb l0 = 0) (hf : jb_Tt_ahead_46 tb h l0 l1 l2 l3 = some r) : V E g tb ρ 6 46 [(0, .ref (ρ l0)), (1, .int l1), (2, .int l2), (3, .int l3)] [] h := by
  unfold jb_Tt_ahead_46 at hf
  refine v_iconst (pc := 46) (n := 1) X (by decide +kernel) ic_1 ?_
  refine v_goto (pc := 47) (off := 4) (tgt := 51) X (by decide +kernel) (by decide) ?_
  exact vjb_Tt_ahead_51 ok hi X Y h l0 l1 l2 l3 (1 : Int32) kl0 hf
set_option maxRecDepth 4000 in
set_option maxHeartbeats 1000000 in
theorem vjb_Tt_ahead_30 {E : En} {g : Gl} {tb : Tb} {ρ : Nat → Nat} (ok : TbOK tb) (hi : inj tb ρ) {r : Int32 × Hp} (X : CX E g tb ρ prog_1_method_16_code 6 RC0 7 172) (Y : CQ E g tb ρ (some .int) (some (.int r.1)) r.2) (h : Hp) (l0 : Nat) (l1 : Int32) (l2 : Int32) (l3 : Int32) (kl0 : kd tb l0 = 0) (hf : jb_Tt_ahead_30 tb h l0 l1 l2 l3 = some r) : V E g tb ρ 6 30 [(0, .ref (ρ l0)), (1, .int l1), (2, .int l2), (3, .int l3)] [] h := by
  unfold jb_Tt_ahead_30 at hf
  refine v_iload_n (pc := 30) (k := 2) X (by decide +kernel) 2 rfl ?_
  refine v_iconst (pc := 31) (n := 3) X (by decide +kernel) ic_3 ?_
  refine v_icmp_ne (pc := 32) (off := 18) (tgt := 50) X (by decide +kernel) (by decide) (fun q3 => ?_) (fun q3 => ?_)
  · rw [if_neg q3] at hf
    exact vjb_Tt_ahead_50 ok hi X Y h l0 l1 l2 l3 kl0 hf
  · rw [if_pos q3] at hf
    refine v_aload_n (pc := 35) (k := 0) X (by decide +kernel) 0 rfl ?_
    refine v_geta (pc := 36) X fl_0_31 kl0 fk_0_3 (by decide +kernel) ?_
    refine v_iload_n (pc := 39) (k := 3) X (by decide +kernel) 3 rfl ?_
    obtain ⟨r1, er1, hf⟩ := nmd_e hf
    refine v_callV (pc := 40) (As := [.int l3]) (rest := []) X (mt_Pl_hasTrough ok hi (ly_0_3 ok kl0) er1.symm) ml_0_165 mv_Pl_hasTrough (ly_0_3 ok kl0) cls_7 rfl ⟨Nat.le_of_ble_eq_true rfl, Nat.le_of_ble_eq_true rfl⟩ rfl rfl (Nat.le_of_ble_eq_true rfl) (by decide +kernel) ?_
    change V E g tb ρ 6 43 [(0, .ref (ρ l0)), (1, .int l1), (2, .int l2), (3, .int l3)] [.int r1] h
    refine v_if_eq (pc := 43) (off := 7) (tgt := 50) X (by decide +kernel) (by decide) (fun q2 => ?_) (fun q2 => ?_)
    · rw [if_pos q2] at hf
      exact vjb_Tt_ahead_50 ok hi X Y h l0 l1 l2 l3 kl0 hf
    · rw [if_neg q2] at hf
      exact vjb_Tt_ahead_46 ok hi X Y h l0 l1 l2 l3 kl0 hf
set_option maxRecDepth 4000 in
set_option maxHeartbeats 1000000 in
theorem mt_Tt_ahead {g : Gl} {tb : Tb} {ρ : Nat → Nat} (ok : TbOK tb) (hi : inj tb ρ) {h : Hp} {l0 : Nat} {l1 : Int32} {l2 : Int32} {l3 : Int32} (kl0 : kd tb l0 = 0) {r : Int32 × Hp} (hf : f_Tt_ahead tb h l0 l1 l2 l3 = some r) : MT g y_Tt_ahead prog_1_method_16_code 6 (some .int) 7 172 tb ρ [.ref (ρ l0), .int l1, .int l2, .int l3] h (some (.int r.1)) r.2 := by
  refine mt_intro (by decide +kernel) ok hi (Nat.le_of_ble_eq_true rfl) (fun E X Y => ?_)
  change V E g tb ρ 6 0 [(0, .ref (ρ l0)), (1, .int l1), (2, .int l2), (3, .int l3)] [] h
  unfold f_Tt_ahead at hf
  refine v_iload_n (pc := 0) (k := 2) X (by decide +kernel) 2 rfl ?_
  refine v_if_eq (pc := 1) (off := 45) (tgt := 46) X (by decide +kernel) (by decide) (fun q6 => ?_) (fun q6 => ?_)
  · rw [if_pos q6] at hf
    exact vjb_Tt_ahead_46 ok hi X Y h l0 l1 l2 l3 kl0 hf
  · rw [if_neg q6] at hf
    refine v_iload_n (pc := 4) (k := 2) X (by decide +kernel) 2 rfl ?_
    refine v_iconst (pc := 5) (n := 1) X (by decide +kernel) ic_1 ?_
    refine v_icmp_eq (pc := 6) (off := 40) (tgt := 46) X (by decide +kernel) (by decide) (fun q5 => ?_) (fun q5 => ?_)
    · rw [if_pos q5] at hf
      exact vjb_Tt_ahead_46 ok hi X Y h l0 l1 l2 l3 kl0 hf
    · rw [if_neg q5] at hf
      refine v_iload_n (pc := 9) (k := 2) X (by decide +kernel) 2 rfl ?_
      refine v_iconst (pc := 10) (n := 4) X (by decide +kernel) ic_4 ?_
      refine v_icmp_eq (pc := 11) (off := 35) (tgt := 46) X (by decide +kernel) (by decide) (fun q4 => ?_) (fun q4 => ?_)
      · rw [if_pos q4] at hf
        exact vjb_Tt_ahead_46 ok hi X Y h l0 l1 l2 l3 kl0 hf
      · rw [if_neg q4] at hf
        refine v_iload_n (pc := 14) (k := 2) X (by decide +kernel) 2 rfl ?_
        refine v_iconst (pc := 15) (n := 2) X (by decide +kernel) ic_2 ?_
        refine v_icmp_ne (pc := 16) (off := 14) (tgt := 30) X (by decide +kernel) (by decide) (fun q3 => ?_) (fun q3 => ?_)
        · rw [if_neg q3] at hf
          exact vjb_Tt_ahead_30 ok hi X Y h l0 l1 l2 l3 kl0 hf
        · rw [if_pos q3] at hf
          refine v_aload_n (pc := 19) (k := 0) X (by decide +kernel) 0 rfl ?_
          refine v_geta (pc := 20) X fl_0_31 kl0 fk_0_3 (by decide +kernel) ?_
          refine v_iload_n (pc := 23) (k := 3) X (by decide +kernel) 3 rfl ?_
          obtain ⟨r1, er1, hf⟩ := nmd_e hf
          refine v_callV (pc := 24) (As := [.int l3]) (rest := []) X (mt_Pl_hasHorse ok hi (ly_0_3 ok kl0) er1.symm) ml_0_132 mv_Pl_hasHorse (ly_0_3 ok kl0) cls_7 rfl ⟨Nat.le_of_ble_eq_true rfl, Nat.le_of_ble_eq_true rfl⟩ rfl rfl (Nat.le_of_ble_eq_true rfl) (by decide +kernel) ?_
          change V E g tb ρ 6 27 [(0, .ref (ρ l0)), (1, .int l1), (2, .int l2), (3, .int l3)] [.int r1] h
          refine v_if_ne (pc := 27) (off := 19) (tgt := 46) X (by decide +kernel) (by decide) (fun q2 => ?_) (fun q2 => ?_)
          · rw [if_neg q2] at hf
            exact vjb_Tt_ahead_46 ok hi X Y h l0 l1 l2 l3 kl0 hf
          · rw [if_pos q2] at hf
            exact vjb_Tt_ahead_30 ok hi X Y h l0 l1 l2 l3 kl0 hf
def lp_Fo_hoursToFall_6 (tb : Tb) : Nat → Hp → Nat → Int32 → Int32 → Option (Int32 × Hp)
  | 0, _, _, _, _ => none
  | n + 1, h, l0, l1, l2 =>
    if (199 : Int32) < l2 then (
      some ((-2 : Int32), h)
    ) else (
      nmd (f_Wo_isOn tb h (lay tb l0 3) l1) fun r1 =>
      if r1 = (0 : Int32) then (
        some (l2, h)
      ) else (
        (f_Ho_pass tb h (lay tb l0 2) (lay tb l0 3) (1 : Int32)).bind fun r2 =>
        nmd (l2 + (1 : Int32)) fun x3 =>
        lp_Fo_hoursToFall_6 tb n r2 l0 l1 x3
      )
    )
def f_Fo_hoursToFall (tb : Tb) (h : Hp) (l0 : Nat) (l1 : Int32) : Option (Int32 × Hp) :=
  (f_Fo_beginTrial tb h l0).bind fun r1 =>
  lp_Fo_hoursToFall_6 tb fu r1 l0 l1 (0 : Int32)
set_option maxRecDepth 4000 in
set_option maxHeartbeats 1000000 in
theorem vlp_Fo_hoursToFall_6 {E : En} {g : Gl} {tb : Tb} {ρ : Nat → Nat} (ok : TbOK tb) (hi : inj tb ρ) {r : Int32 × Hp} (X : CX E g tb ρ prog_4_method_4_code 3 RC3 6 151) (Y : CQ E g tb ρ (some .int) (some (.int r.1)) r.2) : ∀ (n : Nat) (h : Hp) (l0 : Nat) (l1 : Int32) (l2 : Int32) (kl0 : kd tb l0 = 3), lp_Fo_hoursToFall_6 tb n h l0 l1 l2 = some r → V E g tb ρ 3 6 [(0, .ref (ρ l0)), (1, .int l1), (2, .int l2)] [] h := by
  intro n
  induction n with
  | zero =>
    intro h l0 l1 l2 kl0 hf
    rw [lp_Fo_hoursToFall_6] at hf
    cases hf
  | succ n ih =>
    intro h l0 l1 l2 kl0 hf
    rw [lp_Fo_hoursToFall_6] at hf
    refine v_iload_n (pc := 6) (k := 2) X (by decide +kernel) 2 rfl ?_
    refine v_sipush (pc := 7) (n := 199) X (by decide +kernel) si_199 ?_
    refine v_icmp_gt (pc := 10) (off := 34) (tgt := 44) X (by decide +kernel) (by decide) (fun q5 => ?_) (fun q5 => ?_)
    · rw [if_pos q5] at hf
      refine v_bipush (pc := 44) (n := -2) X (by decide +kernel) bi_m2 ?_
      cases hf
      exact v_iret X Y (by decide +kernel) rfl rfl
    · rw [if_neg q5] at hf
      refine v_aload_n (pc := 13) (k := 0) X (by decide +kernel) 0 rfl ?_
      refine v_geta (pc := 14) X fl_3_12 kl0 fk_3_3 (by decide +kernel) ?_
      refine v_iload_n (pc := 17) (k := 1) X (by decide +kernel) 1 rfl ?_
      obtain ⟨r1, er1, hf⟩ := nmd_e hf
      refine v_callV (pc := 18) (As := [.int l1]) (rest := []) X (mt_Wo_isOn ok hi (ly_3_3 ok kl0) er1.symm) ml_3_52 mv_Wo_isOn (ly_3_3 ok kl0) cls_11 rfl ⟨Nat.le_of_ble_eq_true rfl, Nat.le_of_ble_eq_true rfl⟩ rfl rfl (Nat.le_of_ble_eq_true rfl) (by decide +kernel) ?_
      change V E g tb ρ 3 21 [(0, .ref (ρ l0)), (1, .int l1), (2, .int l2)] [.int r1] h
      refine v_if_ne (pc := 21) (off := 5) (tgt := 26) X (by decide +kernel) (by decide) (fun q4 => ?_) (fun q4 => ?_)
      · rw [if_neg q4] at hf
        refine v_aload_n (pc := 26) (k := 0) X (by decide +kernel) 0 rfl ?_
        refine v_geta (pc := 27) X fl_3_32 kl0 fk_3_2 (by decide +kernel) ?_
        refine v_aload_n (pc := 30) (k := 0) X (by decide +kernel) 0 rfl ?_
        refine v_geta (pc := 31) X fl_3_12 kl0 fk_3_3 (by decide +kernel) ?_
        refine v_iconst (pc := 34) (n := 1) X (by decide +kernel) ic_1 ?_
        obtain ⟨r2, er2, hf⟩ := bnd_e hf
        refine v_callV (pc := 35) (As := [.ref (ρ (lay tb l0 3)), .int (1 : Int32)]) (rest := []) X (mt_Ho_pass ok hi (ly_3_2 ok kl0) (ly_3_3 ok kl0) er2) ml_3_48 mv_Ho_pass (ly_3_2 ok kl0) cls_4 rfl ⟨Nat.le_of_ble_eq_true rfl, Nat.le_of_ble_eq_true rfl⟩ rfl rfl (Nat.le_of_ble_eq_true rfl) (by decide +kernel) ?_
        change V E g tb ρ 3 38 [(0, .ref (ρ l0)), (1, .int l1), (2, .int l2)] [] r2
        obtain ⟨x3, ex3, hf⟩ := nmd_e hf
        refine v_iinc (pc := 38) (k := 2) (n := 1) (v := x3) (lv' := [(2, .int x3), (0, .ref (ρ l0)), (1, .int l1)]) X (by decide +kernel) 2 rfl (by rw [ic_1, ex3]) (Nat.le_of_ble_eq_true rfl) rfl ?_
        refine v_goto (pc := 41) (off := -35) (tgt := 6) X (by decide +kernel) (by decide) ?_
        refine v_sub [1, 2, 0] rfl ?_
        exact ih r2 l0 l1 x3 kl0 hf
      · rw [if_pos q4] at hf
        refine v_iload_n (pc := 24) (k := 2) X (by decide +kernel) 2 rfl ?_
        cases hf
        exact v_iret X Y (by decide +kernel) rfl rfl
set_option maxRecDepth 4000 in
set_option maxHeartbeats 1000000 in
theorem mt_Fo_hoursToFall {g : Gl} {tb : Tb} {ρ : Nat → Nat} (ok : TbOK tb) (hi : inj tb ρ) {h : Hp} {l0 : Nat} {l1 : Int32} (kl0 : kd tb l0 = 3) {r : Int32 × Hp} (hf : f_Fo_hoursToFall tb h l0 l1 = some r) : MT g y_Fo_hoursToFall prog_4_method_4_code 3 (some .int) 6 151 tb ρ [.ref (ρ l0), .int l1] h (some (.int r.1)) r.2 := by
  refine mt_intro (by decide +kernel) ok hi (Nat.le_of_ble_eq_true rfl) (fun E X Y => ?_)
  change V E g tb ρ 3 0 [(0, .ref (ρ l0)), (1, .int l1)] [] h
  unfold f_Fo_hoursToFall at hf
  refine v_aload_n (pc := 0) (k := 0) X (by decide +kernel) 0 rfl ?_
  obtain ⟨r1, er1, hf⟩ := bnd_e hf
  refine v_callV (pc := 1) (As := []) (rest := []) X (mt_Fo_beginTrial ok hi kl0 er1) ml_3_45 mv_Fo_beginTrial kl0 cls_3 rfl ⟨Nat.le_of_ble_eq_true rfl, Nat.le_of_ble_eq_true rfl⟩ rfl rfl (Nat.le_of_ble_eq_true rfl) (by decide +kernel) ?_
  change V E g tb ρ 3 4 [(0, .ref (ρ l0)), (1, .int l1)] [] r1
  refine v_iconst (pc := 4) (n := 0) X (by decide +kernel) ic_0 ?_
  refine v_istore_n (pc := 5) (k := 2) (lv' := [(2, .int (0 : Int32)), (0, .ref (ρ l0)), (1, .int l1)]) X (by decide +kernel) (Nat.le_of_ble_eq_true rfl) rfl ?_
  refine v_sub [1, 2, 0] rfl ?_
  exact vlp_Fo_hoursToFall_6 ok hi X Y fu r1 l0 l1 (0 : Int32) kl0 hf
def f_Tt_falls (tb : Tb) (h : Hp) (l0 : Nat) (l1 : Int32) : Option (Int32 × Hp) :=
  nmd (f_Pl_hasHorse tb h (lay tb l0 3) l1) fun r1 =>
  if r1 = (0 : Int32) then (
    some ((-1 : Int32), h)
  ) else (
    (f_Fo_hoursToFall tb h (lay tb l0 10) l1).bind fun r2 =>
    some (r2.1, r2.2)
  )
set_option maxRecDepth 4000 in
set_option maxHeartbeats 1000000 in
theorem mt_Tt_falls {g : Gl} {tb : Tb} {ρ : Nat → Nat} (ok : TbOK tb) (hi : inj tb ρ) {h : Hp} {l0 : Nat} {l1 : Int32} (kl0 : kd tb l0 = 0) {r : Int32 × Hp} (hf : f_Tt_falls tb h l0 l1 = some r) : MT g y_Tt_falls prog_1_method_17_code 2 (some .int) 7 173 tb ρ [.ref (ρ l0), .int l1] h (some (.int r.1)) r.2 := by
  refine mt_intro (by decide +kernel) ok hi (Nat.le_of_ble_eq_true rfl) (fun E X Y => ?_)
  change V E g tb ρ 2 0 [(0, .ref (ρ l0)), (1, .int l1)] [] h
  unfold f_Tt_falls at hf
  refine v_aload_n (pc := 0) (k := 0) X (by decide +kernel) 0 rfl ?_
  refine v_geta (pc := 1) X fl_0_31 kl0 fk_0_3 (by decide +kernel) ?_
  refine v_iload_n (pc := 4) (k := 1) X (by decide +kernel) 1 rfl ?_
  obtain ⟨r1, er1, hf⟩ := nmd_e hf
  refine v_callV (pc := 5) (As := [.int l1]) (rest := []) X (mt_Pl_hasHorse ok hi (ly_0_3 ok kl0) er1.symm) ml_0_132 mv_Pl_hasHorse (ly_0_3 ok kl0) cls_7 rfl ⟨Nat.le_of_ble_eq_true rfl, Nat.le_of_ble_eq_true rfl⟩ rfl rfl (Nat.le_of_ble_eq_true rfl) (by decide +kernel) ?_
  change V E g tb ρ 2 8 [(0, .ref (ρ l0)), (1, .int l1)] [.int r1] h
  refine v_if_eq (pc := 8) (off := 14) (tgt := 22) X (by decide +kernel) (by decide) (fun q3 => ?_) (fun q3 => ?_)
  · rw [if_pos q3] at hf
    refine v_iconst (pc := 22) (n := -1) X (by decide +kernel) ic_m1 ?_
    cases hf
    exact v_iret X Y (by decide +kernel) rfl rfl
  · rw [if_neg q3] at hf
    refine v_aload_n (pc := 11) (k := 0) X (by decide +kernel) 0 rfl ?_
    refine v_geta (pc := 12) X fl_0_77 kl0 fk_0_10 (by decide +kernel) ?_
    refine v_iload_n (pc := 15) (k := 1) X (by decide +kernel) 1 rfl ?_
    obtain ⟨r2, er2, hf⟩ := bnd_e hf
    refine v_callV (pc := 16) (As := [.int l1]) (rest := []) X (mt_Fo_hoursToFall ok hi (ly_0_10 ok kl0) er2) ml_0_236 mv_Fo_hoursToFall (ly_0_10 ok kl0) cls_3 rfl ⟨Nat.le_of_ble_eq_true rfl, Nat.le_of_ble_eq_true rfl⟩ rfl rfl (Nat.le_of_ble_eq_true rfl) (by decide +kernel) ?_
    change V E g tb ρ 2 19 [(0, .ref (ρ l0)), (1, .int l1)] [.int r2.1] r2.2
    refine v_goto (pc := 19) (off := 4) (tgt := 23) X (by decide +kernel) (by decide) ?_
    cases hf
    exact v_iret X Y (by decide +kernel) rfl rfl
def lp_Fo_hoursToFight_6 (tb : Tb) : Nat → Hp → Nat → Int32 → Int32 → Option (Int32 × Hp)
  | 0, _, _, _, _ => none
  | n + 1, h, l0, l1, l2 =>
    if (199 : Int32) < l2 then (
      some ((-2 : Int32), h)
    ) else (
      (f_Ho_pass tb h (lay tb l0 2) (lay tb l0 3) (1 : Int32)).bind fun r1 =>
      if (r1.1 (lay tb l0 3) 8) = (-1 : Int32) then (
        nmd (l2 + (1 : Int32)) fun x2 =>
        lp_Fo_hoursToFight_6 tb n r1 l0 l1 x2
      ) else (
        if l1 = (0 : Int32) then (
          some (l2, r1)
        ) else (
          some (r1.1 (lay tb l0 3) 8, r1)
        )
      )
    )
def f_Fo_hoursToFight (tb : Tb) (h : Hp) (l0 : Nat) (l1 : Int32) : Option (Int32 × Hp) :=
  (f_Fo_beginTrial tb h l0).bind fun r1 =>
  lp_Fo_hoursToFight_6 tb fu r1 l0 l1 (1 : Int32)
set_option maxRecDepth 4000 in
set_option maxHeartbeats 1000000 in
theorem vlp_Fo_hoursToFight_6 {E : En} {g : Gl} {tb : Tb} {ρ : Nat → Nat} (ok : TbOK tb) (hi : inj tb ρ) {r : Int32 × Hp} (X : CX E g tb ρ prog_4_method_5_code 3 RC3 6 151) (Y : CQ E g tb ρ (some .int) (some (.int r.1)) r.2) : ∀ (n : Nat) (h : Hp) (l0 : Nat) (l1 : Int32) (l2 : Int32) (kl0 : kd tb l0 = 3), lp_Fo_hoursToFight_6 tb n h l0 l1 l2 = some r → V E g tb ρ 3 6 [(0, .ref (ρ l0)), (1, .int l1), (2, .int l2)] [] h := by
  intro n
  induction n with
  | zero =>
    intro h l0 l1 l2 kl0 hf
    rw [lp_Fo_hoursToFight_6] at hf
    cases hf
  | succ n ih =>
    intro h l0 l1 l2 kl0 hf
    rw [lp_Fo_hoursToFight_6] at hf
    refine v_iload_n (pc := 6) (k := 2) X (by decide +kernel) 2 rfl ?_
    refine v_sipush (pc := 7) (n := 199) X (by decide +kernel) si_199 ?_
    refine v_icmp_gt (pc := 10) (off := 48) (tgt := 58) X (by decide +kernel) (by decide) (fun q5 => ?_) (fun q5 => ?_)
    · rw [if_pos q5] at hf
      refine v_bipush (pc := 58) (n := -2) X (by decide +kernel) bi_m2 ?_
      cases hf
      exact v_iret X Y (by decide +kernel) rfl rfl
    · rw [if_neg q5] at hf
      refine v_aload_n (pc := 13) (k := 0) X (by decide +kernel) 0 rfl ?_
      refine v_geta (pc := 14) X fl_3_32 kl0 fk_3_2 (by decide +kernel) ?_
      refine v_aload_n (pc := 17) (k := 0) X (by decide +kernel) 0 rfl ?_
      refine v_geta (pc := 18) X fl_3_12 kl0 fk_3_3 (by decide +kernel) ?_
      refine v_iconst (pc := 21) (n := 1) X (by decide +kernel) ic_1 ?_
      obtain ⟨r1, er1, hf⟩ := bnd_e hf
      refine v_callV (pc := 22) (As := [.ref (ρ (lay tb l0 3)), .int (1 : Int32)]) (rest := []) X (mt_Ho_pass ok hi (ly_3_2 ok kl0) (ly_3_3 ok kl0) er1) ml_3_48 mv_Ho_pass (ly_3_2 ok kl0) cls_4 rfl ⟨Nat.le_of_ble_eq_true rfl, Nat.le_of_ble_eq_true rfl⟩ rfl rfl (Nat.le_of_ble_eq_true rfl) (by decide +kernel) ?_
      change V E g tb ρ 3 25 [(0, .ref (ρ l0)), (1, .int l1), (2, .int l2)] [] r1
      refine v_aload_n (pc := 25) (k := 0) X (by decide +kernel) 0 rfl ?_
      refine v_geta (pc := 26) X fl_3_12 kl0 fk_3_3 (by decide +kernel) ?_
      refine v_geti (pc := 29) X fl_3_56 (ly_3_3 ok kl0) rfl (by decide +kernel) ?_
      refine v_iconst (pc := 32) (n := -1) X (by decide +kernel) ic_m1 ?_
      refine v_icmp_eq (pc := 33) (off := 19) (tgt := 52) X (by decide +kernel) (by decide) (fun q4 => ?_) (fun q4 => ?_)
      · rw [if_pos q4] at hf
        obtain ⟨x2, ex2, hf⟩ := nmd_e hf
        refine v_iinc (pc := 52) (k := 2) (n := 1) (v := x2) (lv' := [(2, .int x2), (0, .ref (ρ l0)), (1, .int l1)]) X (by decide +kernel) 2 rfl (by rw [ic_1, ex2]) (Nat.le_of_ble_eq_true rfl) rfl ?_
        refine v_goto (pc := 55) (off := -49) (tgt := 6) X (by decide +kernel) (by decide) ?_
        refine v_sub [1, 2, 0] rfl ?_
        exact ih r1 l0 l1 x2 kl0 hf
      · rw [if_neg q4] at hf
        refine v_iload_n (pc := 36) (k := 1) X (by decide +kernel) 1 rfl ?_
        refine v_if_eq (pc := 37) (off := 13) (tgt := 50) X (by decide +kernel) (by decide) (fun q3 => ?_) (fun q3 => ?_)
        · rw [if_pos q3] at hf
          refine v_iload_n (pc := 50) (k := 2) X (by decide +kernel) 2 rfl ?_
          cases hf
          exact v_iret X Y (by decide +kernel) rfl rfl
        · rw [if_neg q3] at hf
          refine v_aload_n (pc := 40) (k := 0) X (by decide +kernel) 0 rfl ?_
          refine v_geta (pc := 41) X fl_3_12 kl0 fk_3_3 (by decide +kernel) ?_
          refine v_geti (pc := 44) X fl_3_56 (ly_3_3 ok kl0) rfl (by decide +kernel) ?_
          refine v_goto (pc := 47) (off := 4) (tgt := 51) X (by decide +kernel) (by decide) ?_
          cases hf
          exact v_iret X Y (by decide +kernel) rfl rfl
set_option maxRecDepth 4000 in
set_option maxHeartbeats 1000000 in
theorem mt_Fo_hoursToFight {g : Gl} {tb : Tb} {ρ : Nat → Nat} (ok : TbOK tb) (hi : inj tb ρ) {h : Hp} {l0 : Nat} {l1 : Int32} (kl0 : kd tb l0 = 3) {r : Int32 × Hp} (hf : f_Fo_hoursToFight tb h l0 l1 = some r) : MT g y_Fo_hoursToFight prog_4_method_5_code 3 (some .int) 6 151 tb ρ [.ref (ρ l0), .int l1] h (some (.int r.1)) r.2 := by
  refine mt_intro (by decide +kernel) ok hi (Nat.le_of_ble_eq_true rfl) (fun E X Y => ?_)
  change V E g tb ρ 3 0 [(0, .ref (ρ l0)), (1, .int l1)] [] h
  unfold f_Fo_hoursToFight at hf
  refine v_aload_n (pc := 0) (k := 0) X (by decide +kernel) 0 rfl ?_
  obtain ⟨r1, er1, hf⟩ := bnd_e hf
  refine v_callV (pc := 1) (As := []) (rest := []) X (mt_Fo_beginTrial ok hi kl0 er1) ml_3_45 mv_Fo_beginTrial kl0 cls_3 rfl ⟨Nat.le_of_ble_eq_true rfl, Nat.le_of_ble_eq_true rfl⟩ rfl rfl (Nat.le_of_ble_eq_true rfl) (by decide +kernel) ?_
  change V E g tb ρ 3 4 [(0, .ref (ρ l0)), (1, .int l1)] [] r1
  refine v_iconst (pc := 4) (n := 1) X (by decide +kernel) ic_1 ?_
  refine v_istore_n (pc := 5) (k := 2) (lv' := [(2, .int (1 : Int32)), (0, .ref (ρ l0)), (1, .int l1)]) X (by decide +kernel) (Nat.le_of_ble_eq_true rfl) rfl ?_
  refine v_sub [1, 2, 0] rfl ?_
  exact vlp_Fo_hoursToFight_6 ok hi X Y fu r1 l0 l1 (1 : Int32) kl0 hf
def jb_Tt_nextFight_23 (tb : Tb) (h : Hp) (s0 : Nat) (s1 : Int32) : Option (Int32 × Hp) :=
  (f_Fo_hoursToFight tb h s0 s1).bind fun r1 =>
  some (r1.1, r1.2)
def jb_Tt_nextFight_9 (tb : Tb) (h : Hp) (l0 : Nat) (l1 : Int32) : Option (Int32 × Hp) :=
  if l1 = (1 : Int32) then (
    jb_Tt_nextFight_23 tb h (lay tb l0 10) (1 : Int32)
  ) else (
    jb_Tt_nextFight_23 tb h (lay tb l0 10) (0 : Int32)
  )
def f_Tt_nextFight (tb : Tb) (h : Hp) (l0 : Nat) (l1 : Int32) : Option (Int32 × Hp) :=
  if l1 = (0 : Int32) then (
    jb_Tt_nextFight_9 tb h l0 l1
  ) else (
    if l1 = (1 : Int32) then (
      jb_Tt_nextFight_9 tb h l0 l1
    ) else (
      some ((-1 : Int32), h)
    )
  )
set_option maxRecDepth 4000 in
set_option maxHeartbeats 1000000 in
theorem vjb_Tt_nextFight_23 {E : En} {g : Gl} {tb : Tb} {ρ : Nat → Nat} (ok : TbOK tb) (hi : inj tb ρ) {r : Int32 × Hp} (X : CX E g tb ρ prog_1_method_18_code 2 RC0 7 173) (Y : CQ E g tb ρ (some .int) (some (.int r.1)) r.2) (h : Hp) (s0 : Nat) (s1 : Int32) (ks0 : kd tb s0 = 3) (hf : jb_Tt_nextFight_23 tb h s0 s1 = some r) : V E g tb ρ 2 23 [] [.int s1, .ref (ρ s0)] h := by
  unfold jb_Tt_nextFight_23 at hf
  obtain ⟨r1, er1, hf⟩ := bnd_e hf
  refine v_callV (pc := 23) (As := [.int s1]) (rest := []) X (mt_Fo_hoursToFight ok hi ks0 er1) ml_0_239 mv_Fo_hoursToFight ks0 cls_3 rfl ⟨Nat.le_of_ble_eq_true rfl, Nat.le_of_ble_eq_true rfl⟩ rfl rfl (Nat.le_of_ble_eq_true rfl) (by decide +kernel) ?_
  change V E g tb ρ 2 26 [] [.int r1.1] r1.2
  refine v_goto (pc := 26) (off := 4) (tgt := 30) X (by decide +kernel) (by decide) ?_
  cases hf
  exact v_iret X Y (by decide +kernel) rfl rfl
set_option maxRecDepth 4000 in
set_option maxHeartbeats 1000000 in
theorem vjb_Tt_nextFight_9 {E : En} {g : Gl} {tb : Tb} {ρ : Nat → Nat} (ok : TbOK tb) (hi : inj tb ρ) {r : Int32 × Hp} (X : CX E g tb ρ prog_1_method_18_code 2 RC0 7 173) (Y : CQ E g tb ρ (some .int) (some (.int r.1)) r.2) (h : Hp) (l0 : Nat) (l1 : Int32) (kl0 : kd tb l0 = 0) (hf : jb_Tt_nextFight_9 tb h l0 l1 = some r) : V E g tb ρ 2 9 [(0, .ref (ρ l0)), (1, .int l1)] [] h := by
  unfold jb_Tt_nextFight_9 at hf
  refine v_aload_n (pc := 9) (k := 0) X (by decide +kernel) 0 rfl ?_
  refine v_geta (pc := 10) X fl_0_77 kl0 fk_0_10 (by decide +kernel) ?_
  refine v_iload_n (pc := 13) (k := 1) X (by decide +kernel) 1 rfl ?_
  refine v_iconst (pc := 14) (n := 1) X (by decide +kernel) ic_1 ?_
  refine v_icmp_ne (pc := 15) (off := 7) (tgt := 22) X (by decide +kernel) (by decide) (fun q1 => ?_) (fun q1 => ?_)
  · rw [if_neg q1] at hf
    refine v_iconst (pc := 22) (n := 0) X (by decide +kernel) ic_0 ?_
    refine v_sub [] rfl ?_
    exact vjb_Tt_nextFight_23 ok hi X Y h (lay tb l0 10) (0 : Int32) (ly_0_10 ok kl0) hf
  · rw [if_pos q1] at hf
    refine v_iconst (pc := 18) (n := 1) X (by decide +kernel) ic_1 ?_
    refine v_goto (pc := 19) (off := 4) (tgt := 23) X (by decide +kernel) (by decide) ?_
    refine v_sub [] rfl ?_
    exact vjb_Tt_nextFight_23 ok hi X Y h (lay tb l0 10) (1 : Int32) (ly_0_10 ok kl0) hf
set_option maxRecDepth 4000 in
set_option maxHeartbeats 1000000 in
theorem mt_Tt_nextFight {g : Gl} {tb : Tb} {ρ : Nat → Nat} (ok : TbOK tb) (hi : inj tb ρ) {h : Hp} {l0 : Nat} {l1 : Int32} (kl0 : kd tb l0 = 0) {r : Int32 × Hp} (hf : f_Tt_nextFight tb h l0 l1 = some r) : MT g y_Tt_nextFight prog_1_method_18_code 2 (some .int) 7 173 tb ρ [.ref (ρ l0), .int l1] h (some (.int r.1)) r.2 := by
  refine mt_intro (by decide +kernel) ok hi (Nat.le_of_ble_eq_true rfl) (fun E X Y => ?_)
  change V E g tb ρ 2 0 [(0, .ref (ρ l0)), (1, .int l1)] [] h
  unfold f_Tt_nextFight at hf
  refine v_iload_n (pc := 0) (k := 1) X (by decide +kernel) 1 rfl ?_
  refine v_if_eq (pc := 1) (off := 8) (tgt := 9) X (by decide +kernel) (by decide) (fun q2 => ?_) (fun q2 => ?_)
  · rw [if_pos q2] at hf
    exact vjb_Tt_nextFight_9 ok hi X Y h l0 l1 kl0 hf
  · rw [if_neg q2] at hf
    refine v_iload_n (pc := 4) (k := 1) X (by decide +kernel) 1 rfl ?_
    refine v_iconst (pc := 5) (n := 1) X (by decide +kernel) ic_1 ?_
    refine v_icmp_ne (pc := 6) (off := 23) (tgt := 29) X (by decide +kernel) (by decide) (fun q1 => ?_) (fun q1 => ?_)
    · rw [if_neg q1] at hf
      refine v_iconst (pc := 29) (n := -1) X (by decide +kernel) ic_m1 ?_
      cases hf
      exact v_iret X Y (by decide +kernel) rfl rfl
    · rw [if_pos q1] at hf
      exact vjb_Tt_nextFight_9 ok hi X Y h l0 l1 kl0 hf
def jb_Fo_bestSending_114 (tb : Tb) (c29 : Hp → Nat → Int32 → Int32 → Int32 → Int32 → Int32 → Int32 → Option (Int32 × Hp)) (h : Hp) (l0 : Nat) (l1 : Int32) (l2 : Int32) (l3 : Int32) (l4 : Int32) (l5 : Int32) (l6 : Int32) : Option (Int32 × Hp) :=
  (f_Ho_pass tb h (lay tb l0 2) (lay tb l0 4) (1 : Int32)).bind fun r1 =>
  nmd (l6 + (1 : Int32)) fun x2 =>
  c29 r1 l0 l1 l2 l3 l4 l5 x2
def lp_Fo_bestSending_29 (tb : Tb) : Nat → Hp → Nat → Int32 → Int32 → Int32 → Int32 → Int32 → Int32 → Option (Int32 × Hp)
  | 0, _, _, _, _, _, _, _, _ => none
  | n + 1, h, l0, l1, l2, l3, l4, l5, l6 =>
    if (20 : Int32) < l6 then (
      if l3 = (0 : Int32) then (
        some (l4, h)
      ) else (
        some (l5, h)
      )
    ) else (
      (f_Wo_become tb h (lay tb l0 3) (lay tb l0 4)).bind fun r2 =>
      (wI tb r2 (lay tb (lay tb l0 3) 12) l1 l2).bind fun h3 =>
      (f_Ho_pass tb h3 (lay tb l0 2) (lay tb l0 3) ((40 : Int32) - l6)).bind fun r4 =>
      if l5 ≤ ((r4.1 (lay tb l0 3) 3) - (r4.1 (lay tb l0 1) 3)) then (
        jb_Fo_bestSending_114 tb (lp_Fo_bestSending_29 tb n) r4 l0 l1 l2 l3 l4 l5 l6
      ) else (
        nmd ((r4.1 (lay tb l0 3) 3) - (r4.1 (lay tb l0 1) 3)) fun x5 =>
        jb_Fo_bestSending_114 tb (lp_Fo_bestSending_29 tb n) r4 l0 l1 l2 l3 l6 x5 l6
      )
    )
def f_Fo_bestSending (tb : Tb) (h : Hp) (l0 : Nat) (l1 : Int32) (l2 : Int32) (l3 : Int32) : Option (Int32 × Hp) :=
  nmd (f_Ho_asItGoes tb h (lay tb l0 2)) fun r1 =>
  (f_Wo_become tb r1 (lay tb l0 4) (lay tb l0 1)).bind fun r2 =>
  lp_Fo_bestSending_29 tb fu r2 l0 l1 l2 l3 (-2 : Int32) (2147483647 : Int32) (0 : Int32)
set_option maxRecDepth 4000 in
set_option maxHeartbeats 1000000 in
theorem vjb_Fo_bestSending_114 {E : En} {g : Gl} {tb : Tb} {ρ : Nat → Nat} (ok : TbOK tb) (hi : inj tb ρ) {r : Int32 × Hp} (X : CX E g tb ρ prog_4_method_8_code 7 RC3 6 151) (Y : CQ E g tb ρ (some .int) (some (.int r.1)) r.2) {c29 : Hp → Nat → Int32 → Int32 → Int32 → Int32 → Int32 → Int32 → Option (Int32 × Hp)} (H29 : ∀ (h : Hp) (l0 : Nat) (l1 : Int32) (l2 : Int32) (l3 : Int32) (l4 : Int32) (l5 : Int32) (l6 : Int32) (kl0 : kd tb l0 = 3), c29 h l0 l1 l2 l3 l4 l5 l6 = some r → V E g tb ρ 7 29 [(0, .ref (ρ l0)), (1, .int l1), (2, .int l2), (3, .int l3), (4, .int l4), (5, .int l5), (6, .int l6)] [] h) (h : Hp) (l0 : Nat) (l1 : Int32) (l2 : Int32) (l3 : Int32) (l4 : Int32) (l5 : Int32) (l6 : Int32) (kl0 : kd tb l0 = 3) (hf : jb_Fo_bestSending_114 tb c29 h l0 l1 l2 l3 l4 l5 l6 = some r) : V E g tb ρ 7 114 [(0, .ref (ρ l0)), (1, .int l1), (2, .int l2), (3, .int l3), (4, .int l4), (5, .int l5), (6, .int l6)] [] h := by
  unfold jb_Fo_bestSending_114 at hf
  refine v_aload_n (pc := 114) (k := 0) X (by decide +kernel) 0 rfl ?_
  refine v_geta (pc := 115) X fl_3_32 kl0 fk_3_2 (by decide +kernel) ?_
  refine v_aload_n (pc := 118) (k := 0) X (by decide +kernel) 0 rfl ?_
  refine v_geta (pc := 119) X fl_3_18 kl0 fk_3_4 (by decide +kernel) ?_
  refine v_iconst (pc := 122) (n := 1) X (by decide +kernel) ic_1 ?_
  obtain ⟨r1, er1, hf⟩ := bnd_e hf
  refine v_callV (pc := 123) (As := [.ref (ρ (lay tb l0 4)), .int (1 : Int32)]) (rest := []) X (mt_Ho_pass ok hi (ly_3_2 ok kl0) (ly_3_4 ok kl0) er1) ml_3_48 mv_Ho_pass (ly_3_2 ok kl0) cls_4 rfl ⟨Nat.le_of_ble_eq_true rfl, Nat.le_of_ble_eq_true rfl⟩ rfl rfl (Nat.le_of_ble_eq_true rfl) (by decide +kernel) ?_
  change V E g tb ρ 7 126 [(0, .ref (ρ l0)), (1, .int l1), (2, .int l2), (3, .int l3), (4, .int l4), (5, .int l5), (6, .int l6)] [] r1
  obtain ⟨x2, ex2, hf⟩ := nmd_e hf
  refine v_iinc (pc := 126) (k := 6) (n := 1) (v := x2) (lv' := [(6, .int x2), (0, .ref (ρ l0)), (1, .int l1), (2, .int l2), (3, .int l3), (4, .int l4), (5, .int l5)]) X (by decide +kernel) 6 rfl (by rw [ic_1, ex2]) (Nat.le_of_ble_eq_true rfl) rfl ?_
  refine v_goto (pc := 129) (off := -100) (tgt := 29) X (by decide +kernel) (by decide) ?_
  refine v_sub [1, 2, 3, 4, 5, 6, 0] rfl ?_
  exact H29 r1 l0 l1 l2 l3 l4 l5 x2 kl0 hf
set_option maxRecDepth 4000 in
set_option maxHeartbeats 1000000 in
theorem vlp_Fo_bestSending_29 {E : En} {g : Gl} {tb : Tb} {ρ : Nat → Nat} (ok : TbOK tb) (hi : inj tb ρ) {r : Int32 × Hp} (X : CX E g tb ρ prog_4_method_8_code 7 RC3 6 151) (Y : CQ E g tb ρ (some .int) (some (.int r.1)) r.2) : ∀ (n : Nat) (h : Hp) (l0 : Nat) (l1 : Int32) (l2 : Int32) (l3 : Int32) (l4 : Int32) (l5 : Int32) (l6 : Int32) (kl0 : kd tb l0 = 3), lp_Fo_bestSending_29 tb n h l0 l1 l2 l3 l4 l5 l6 = some r → V E g tb ρ 7 29 [(0, .ref (ρ l0)), (1, .int l1), (2, .int l2), (3, .int l3), (4, .int l4), (5, .int l5), (6, .int l6)] [] h := by
  intro n
  induction n with
  | zero =>
    intro h l0 l1 l2 l3 l4 l5 l6 kl0 hf
    rw [lp_Fo_bestSending_29] at hf
    cases hf
  | succ n ih =>
    intro h l0 l1 l2 l3 l4 l5 l6 kl0 hf
    rw [lp_Fo_bestSending_29] at hf
    refine v_iload (pc := 29) (k := 6) X (by decide +kernel) 6 rfl ?_
    refine v_bipush (pc := 31) (n := 20) X (by decide +kernel) bi_20 ?_
    refine v_icmp_gt (pc := 33) (off := 99) (tgt := 132) X (by decide +kernel) (by decide) (fun q7 => ?_) (fun q7 => ?_)
    · rw [if_pos q7] at hf
      refine v_iload_n (pc := 132) (k := 3) X (by decide +kernel) 3 rfl ?_
      refine v_if_eq (pc := 133) (off := 8) (tgt := 141) X (by decide +kernel) (by decide) (fun q1 => ?_) (fun q1 => ?_)
      · rw [if_pos q1] at hf
        refine v_iload (pc := 141) (k := 4) X (by decide +kernel) 4 rfl ?_
        cases hf
        exact v_iret X Y (by decide +kernel) rfl rfl
      · rw [if_neg q1] at hf
        refine v_iload (pc := 136) (k := 5) X (by decide +kernel) 5 rfl ?_
        refine v_goto (pc := 138) (off := 5) (tgt := 143) X (by decide +kernel) (by decide) ?_
        cases hf
        exact v_iret X Y (by decide +kernel) rfl rfl
    · rw [if_neg q7] at hf
      refine v_aload_n (pc := 36) (k := 0) X (by decide +kernel) 0 rfl ?_
      refine v_geta (pc := 37) X fl_3_12 kl0 fk_3_3 (by decide +kernel) ?_
      refine v_aload_n (pc := 40) (k := 0) X (by decide +kernel) 0 rfl ?_
      refine v_geta (pc := 41) X fl_3_18 kl0 fk_3_4 (by decide +kernel) ?_
      obtain ⟨r2, er2, hf⟩ := bnd_e hf
      refine v_callV (pc := 44) (As := [.ref (ρ (lay tb l0 4))]) (rest := []) X (mt_Wo_become ok hi (ly_3_3 ok kl0) (ly_3_4 ok kl0) er2) ml_3_36 mv_Wo_become (ly_3_3 ok kl0) cls_11 rfl ⟨Nat.le_of_ble_eq_true rfl, Nat.le_of_ble_eq_true rfl⟩ rfl rfl (Nat.le_of_ble_eq_true rfl) (by decide +kernel) ?_
      change V E g tb ρ 7 47 [(0, .ref (ρ l0)), (1, .int l1), (2, .int l2), (3, .int l3), (4, .int l4), (5, .int l5), (6, .int l6)] [] r2
      refine v_aload_n (pc := 47) (k := 0) X (by decide +kernel) 0 rfl ?_
      refine v_geta (pc := 48) X fl_3_12 kl0 fk_3_3 (by decide +kernel) ?_
      refine v_geta (pc := 51) X fl_3_69 (ly_3_3 ok kl0) fk_11_12 (by decide +kernel) ?_
      refine v_iload_n (pc := 54) (k := 1) X (by decide +kernel) 1 rfl ?_
      refine v_iload_n (pc := 55) (k := 2) X (by decide +kernel) 2 rfl ?_
      obtain ⟨h3, eh3, hf⟩ := bnd_e hf
      refine v_iast (pc := 56) X (ly_11_12 ok (ly_3_3 ok kl0)) eh3 (by decide +kernel) ?_
      refine v_aload_n (pc := 57) (k := 0) X (by decide +kernel) 0 rfl ?_
      refine v_geta (pc := 58) X fl_3_32 kl0 fk_3_2 (by decide +kernel) ?_
      refine v_aload_n (pc := 61) (k := 0) X (by decide +kernel) 0 rfl ?_
      refine v_geta (pc := 62) X fl_3_12 kl0 fk_3_3 (by decide +kernel) ?_
      refine v_bipush (pc := 65) (n := 40) X (by decide +kernel) bi_40 ?_
      refine v_iload (pc := 67) (k := 6) X (by decide +kernel) 6 rfl ?_
      refine v_isub (pc := 69) X (by decide +kernel) ?_
      obtain ⟨r4, er4, hf⟩ := bnd_e hf
      refine v_callV (pc := 70) (As := [.ref (ρ (lay tb l0 3)), .int ((40 : Int32) - l6)]) (rest := []) X (mt_Ho_pass ok hi (ly_3_2 ok kl0) (ly_3_3 ok kl0) er4) ml_3_48 mv_Ho_pass (ly_3_2 ok kl0) cls_4 rfl ⟨Nat.le_of_ble_eq_true rfl, Nat.le_of_ble_eq_true rfl⟩ rfl rfl (Nat.le_of_ble_eq_true rfl) (by decide +kernel) ?_
      change V E g tb ρ 7 73 [(0, .ref (ρ l0)), (1, .int l1), (2, .int l2), (3, .int l3), (4, .int l4), (5, .int l5), (6, .int l6)] [] r4
      refine v_aload_n (pc := 73) (k := 0) X (by decide +kernel) 0 rfl ?_
      refine v_geta (pc := 74) X fl_3_12 kl0 fk_3_3 (by decide +kernel) ?_
      refine v_geti (pc := 77) X fl_3_72 (ly_3_3 ok kl0) rfl (by decide +kernel) ?_
      refine v_aload_n (pc := 80) (k := 0) X (by decide +kernel) 0 rfl ?_
      refine v_geta (pc := 81) X fl_3_29 kl0 fk_3_1 (by decide +kernel) ?_
      refine v_geti (pc := 84) X fl_3_72 (ly_3_1 ok kl0) rfl (by decide +kernel) ?_
      refine v_isub (pc := 87) X (by decide +kernel) ?_
      refine v_iload (pc := 88) (k := 5) X (by decide +kernel) 5 rfl ?_
      refine v_icmp_ge (pc := 90) (off := 24) (tgt := 114) X (by decide +kernel) (by decide) (fun q6 => ?_) (fun q6 => ?_)
      · rw [if_pos q6] at hf
        exact vjb_Fo_bestSending_114 ok hi X Y ih r4 l0 l1 l2 l3 l4 l5 l6 kl0 hf
      · rw [if_neg q6] at hf
        refine v_aload_n (pc := 93) (k := 0) X (by decide +kernel) 0 rfl ?_
        refine v_geta (pc := 94) X fl_3_12 kl0 fk_3_3 (by decide +kernel) ?_
        refine v_geti (pc := 97) X fl_3_72 (ly_3_3 ok kl0) rfl (by decide +kernel) ?_
        refine v_aload_n (pc := 100) (k := 0) X (by decide +kernel) 0 rfl ?_
        refine v_geta (pc := 101) X fl_3_29 kl0 fk_3_1 (by decide +kernel) ?_
        refine v_geti (pc := 104) X fl_3_72 (ly_3_1 ok kl0) rfl (by decide +kernel) ?_
        refine v_isub (pc := 107) X (by decide +kernel) ?_
        obtain ⟨x5, ex5, hf⟩ := nmd_e hf
        refine v_nmi ex5 ?_
        refine v_istore (pc := 108) (k := 5) (lv' := [(5, .int x5), (0, .ref (ρ l0)), (1, .int l1), (2, .int l2), (3, .int l3), (4, .int l4), (6, .int l6)]) X (by decide +kernel) (Nat.le_of_ble_eq_true rfl) rfl ?_
        refine v_iload (pc := 110) (k := 6) X (by decide +kernel) 6 rfl ?_
        refine v_istore (pc := 112) (k := 4) (lv' := [(4, .int l6), (5, .int x5), (0, .ref (ρ l0)), (1, .int l1), (2, .int l2), (3, .int l3), (6, .int l6)]) X (by decide +kernel) (Nat.le_of_ble_eq_true rfl) rfl ?_
        refine v_sub [2, 3, 4, 5, 0, 1, 6] rfl ?_
        exact vjb_Fo_bestSending_114 ok hi X Y ih r4 l0 l1 l2 l3 l6 x5 l6 kl0 hf
set_option maxRecDepth 4000 in
set_option maxHeartbeats 1000000 in
theorem mt_Fo_bestSending {g : Gl} {tb : Tb} {ρ : Nat → Nat} (ok : TbOK tb) (hi : inj tb ρ) {h : Hp} {l0 : Nat} {l1 : Int32} {l2 : Int32} {l3 : Int32} (kl0 : kd tb l0 = 3) {r : Int32 × Hp} (hf : f_Fo_bestSending tb h l0 l1 l2 l3 = some r) : MT g y_Fo_bestSending prog_4_method_8_code 7 (some .int) 6 151 tb ρ [.ref (ρ l0), .int l1, .int l2, .int l3] h (some (.int r.1)) r.2 := by
  refine mt_intro (by decide +kernel) ok hi (Nat.le_of_ble_eq_true rfl) (fun E X Y => ?_)
  change V E g tb ρ 7 0 [(0, .ref (ρ l0)), (1, .int l1), (2, .int l2), (3, .int l3)] [] h
  unfold f_Fo_bestSending at hf
  refine v_aload_n (pc := 0) (k := 0) X (by decide +kernel) 0 rfl ?_
  refine v_geta (pc := 1) X fl_3_32 kl0 fk_3_2 (by decide +kernel) ?_
  obtain ⟨r1, er1, hf⟩ := nmd_e hf
  refine v_callV (pc := 4) (As := []) (rest := []) X (mt_Ho_asItGoes ok hi (ly_3_2 ok kl0) er1.symm) ml_3_40 mv_Ho_asItGoes (ly_3_2 ok kl0) cls_4 rfl ⟨Nat.le_of_ble_eq_true rfl, Nat.le_of_ble_eq_true rfl⟩ rfl rfl (Nat.le_of_ble_eq_true rfl) (by decide +kernel) ?_
  change V E g tb ρ 7 7 [(0, .ref (ρ l0)), (1, .int l1), (2, .int l2), (3, .int l3)] [] r1
  refine v_aload_n (pc := 7) (k := 0) X (by decide +kernel) 0 rfl ?_
  refine v_geta (pc := 8) X fl_3_18 kl0 fk_3_4 (by decide +kernel) ?_
  refine v_aload_n (pc := 11) (k := 0) X (by decide +kernel) 0 rfl ?_
  refine v_geta (pc := 12) X fl_3_29 kl0 fk_3_1 (by decide +kernel) ?_
  obtain ⟨r2, er2, hf⟩ := bnd_e hf
  refine v_callV (pc := 15) (As := [.ref (ρ (lay tb l0 1))]) (rest := []) X (mt_Wo_become ok hi (ly_3_4 ok kl0) (ly_3_1 ok kl0) er2) ml_3_36 mv_Wo_become (ly_3_4 ok kl0) cls_11 rfl ⟨Nat.le_of_ble_eq_true rfl, Nat.le_of_ble_eq_true rfl⟩ rfl rfl (Nat.le_of_ble_eq_true rfl) (by decide +kernel) ?_
  change V E g tb ρ 7 18 [(0, .ref (ρ l0)), (1, .int l1), (2, .int l2), (3, .int l3)] [] r2
  refine v_bipush (pc := 18) (n := -2) X (by decide +kernel) bi_m2 ?_
  refine v_istore (pc := 20) (k := 4) (lv' := [(4, .int (-2 : Int32)), (0, .ref (ρ l0)), (1, .int l1), (2, .int l2), (3, .int l3)]) X (by decide +kernel) (Nat.le_of_ble_eq_true rfl) rfl ?_
  refine v_ldc (pc := 22) X (by decide +kernel) kc_3_68 ?_
  refine v_istore (pc := 24) (k := 5) (lv' := [(5, .int (2147483647 : Int32)), (4, .int (-2 : Int32)), (0, .ref (ρ l0)), (1, .int l1), (2, .int l2), (3, .int l3)]) X (by decide +kernel) (Nat.le_of_ble_eq_true rfl) rfl ?_
  refine v_iconst (pc := 26) (n := 0) X (by decide +kernel) ic_0 ?_
  refine v_istore (pc := 27) (k := 6) (lv' := [(6, .int (0 : Int32)), (5, .int (2147483647 : Int32)), (4, .int (-2 : Int32)), (0, .ref (ρ l0)), (1, .int l1), (2, .int l2), (3, .int l3)]) X (by decide +kernel) (Nat.le_of_ble_eq_true rfl) rfl ?_
  refine v_sub [3, 4, 5, 6, 2, 1, 0] rfl ?_
  exact vlp_Fo_bestSending_29 ok hi X Y fu r2 l0 l1 l2 l3 (-2 : Int32) (2147483647 : Int32) (0 : Int32) kl0 hf
def jb_Tt_sendIn_63 (tb : Tb) (h : Hp) (s0 : Nat) (s1 : Int32) (s2 : Int32) (s3 : Int32) : Option (Int32 × Hp) :=
  (f_Fo_bestSending tb h s0 s1 s2 s3).bind fun r1 =>
  some (r1.1, r1.2)
def f_Tt_sendIn (tb : Tb) (h : Hp) (l0 : Nat) (l1 : Int32) (l2 : Int32) (l3 : Int32) : Option (Int32 × Hp) :=
  nmd (f_Pl_hasHorse tb h (lay tb l0 3) l1) fun r1 =>
  if r1 = (0 : Int32) then (
    some ((-1 : Int32), h)
  ) else (
    nmd (f_Pl_hasTrough tb h (lay tb l0 3) l2) fun r2 =>
    if r2 = (0 : Int32) then (
      some ((-1 : Int32), h)
    ) else (
      if l3 < (0 : Int32) then (
        some ((-1 : Int32), h)
      ) else (
        if l3 ≤ (1 : Int32) then (
          nmd (f_Wo_isOn tb h (lay tb l0 4) l1) fun r3 =>
          if r3 = (0 : Int32) then (
            some ((-2 : Int32), h)
          ) else (
            if l3 = (1 : Int32) then (
              jb_Tt_sendIn_63 tb h (lay tb l0 10) l1 l2 (1 : Int32)
            ) else (
              jb_Tt_sendIn_63 tb h (lay tb l0 10) l1 l2 (0 : Int32)
            )
          )
        ) else (
          some ((-1 : Int32), h)
        )
      )
    )
  )
set_option maxRecDepth 4000 in
set_option maxHeartbeats 1000000 in
theorem vjb_Tt_sendIn_63 {E : En} {g : Gl} {tb : Tb} {ρ : Nat → Nat} (ok : TbOK tb) (hi : inj tb ρ) {r : Int32 × Hp} (X : CX E g tb ρ prog_1_method_19_code 4 RC0 7 177) (Y : CQ E g tb ρ (some .int) (some (.int r.1)) r.2) (h : Hp) (s0 : Nat) (s1 : Int32) (s2 : Int32) (s3 : Int32) (ks0 : kd tb s0 = 3) (hf : jb_Tt_sendIn_63 tb h s0 s1 s2 s3 = some r) : V E g tb ρ 4 63 [] [.int s3, .int s2, .int s1, .ref (ρ s0)] h := by
  unfold jb_Tt_sendIn_63 at hf
  obtain ⟨r1, er1, hf⟩ := bnd_e hf
  refine v_callV (pc := 63) (As := [.int s1, .int s2, .int s3]) (rest := []) X (mt_Fo_bestSending ok hi ks0 er1) ml_0_243 mv_Fo_bestSending ks0 cls_3 rfl ⟨Nat.le_of_ble_eq_true rfl, Nat.le_of_ble_eq_true rfl⟩ rfl rfl (Nat.le_of_ble_eq_true rfl) (by decide +kernel) ?_
  change V E g tb ρ 4 66 [] [.int r1.1] r1.2
  cases hf
  exact v_iret X Y (by decide +kernel) rfl rfl
set_option maxRecDepth 4000 in
set_option maxHeartbeats 1000000 in
theorem mt_Tt_sendIn {g : Gl} {tb : Tb} {ρ : Nat → Nat} (ok : TbOK tb) (hi : inj tb ρ) {h : Hp} {l0 : Nat} {l1 : Int32} {l2 : Int32} {l3 : Int32} (kl0 : kd tb l0 = 0) {r : Int32 × Hp} (hf : f_Tt_sendIn tb h l0 l1 l2 l3 = some r) : MT g y_Tt_sendIn prog_1_method_19_code 4 (some .int) 7 177 tb ρ [.ref (ρ l0), .int l1, .int l2, .int l3] h (some (.int r.1)) r.2 := by
  refine mt_intro (by decide +kernel) ok hi (Nat.le_of_ble_eq_true rfl) (fun E X Y => ?_)
  change V E g tb ρ 4 0 [(0, .ref (ρ l0)), (1, .int l1), (2, .int l2), (3, .int l3)] [] h
  unfold f_Tt_sendIn at hf
  refine v_aload_n (pc := 0) (k := 0) X (by decide +kernel) 0 rfl ?_
  refine v_geta (pc := 1) X fl_0_31 kl0 fk_0_3 (by decide +kernel) ?_
  refine v_iload_n (pc := 4) (k := 1) X (by decide +kernel) 1 rfl ?_
  obtain ⟨r1, er1, hf⟩ := nmd_e hf
  refine v_callV (pc := 5) (As := [.int l1]) (rest := []) X (mt_Pl_hasHorse ok hi (ly_0_3 ok kl0) er1.symm) ml_0_132 mv_Pl_hasHorse (ly_0_3 ok kl0) cls_7 rfl ⟨Nat.le_of_ble_eq_true rfl, Nat.le_of_ble_eq_true rfl⟩ rfl rfl (Nat.le_of_ble_eq_true rfl) (by decide +kernel) ?_
  change V E g tb ρ 4 8 [(0, .ref (ρ l0)), (1, .int l1), (2, .int l2), (3, .int l3)] [.int r1] h
  refine v_if_eq (pc := 8) (off := 23) (tgt := 31) X (by decide +kernel) (by decide) (fun q9 => ?_) (fun q9 => ?_)
  · rw [if_pos q9] at hf
    refine v_iconst (pc := 31) (n := -1) X (by decide +kernel) ic_m1 ?_
    cases hf
    exact v_iret X Y (by decide +kernel) rfl rfl
  · rw [if_neg q9] at hf
    refine v_aload_n (pc := 11) (k := 0) X (by decide +kernel) 0 rfl ?_
    refine v_geta (pc := 12) X fl_0_31 kl0 fk_0_3 (by decide +kernel) ?_
    refine v_iload_n (pc := 15) (k := 2) X (by decide +kernel) 2 rfl ?_
    obtain ⟨r2, er2, hf⟩ := nmd_e hf
    refine v_callV (pc := 16) (As := [.int l2]) (rest := []) X (mt_Pl_hasTrough ok hi (ly_0_3 ok kl0) er2.symm) ml_0_165 mv_Pl_hasTrough (ly_0_3 ok kl0) cls_7 rfl ⟨Nat.le_of_ble_eq_true rfl, Nat.le_of_ble_eq_true rfl⟩ rfl rfl (Nat.le_of_ble_eq_true rfl) (by decide +kernel) ?_
    change V E g tb ρ 4 19 [(0, .ref (ρ l0)), (1, .int l1), (2, .int l2), (3, .int l3)] [.int r2] h
    refine v_if_eq (pc := 19) (off := 12) (tgt := 31) X (by decide +kernel) (by decide) (fun q8 => ?_) (fun q8 => ?_)
    · rw [if_pos q8] at hf
      refine v_iconst (pc := 31) (n := -1) X (by decide +kernel) ic_m1 ?_
      cases hf
      exact v_iret X Y (by decide +kernel) rfl rfl
    · rw [if_neg q8] at hf
      refine v_iload_n (pc := 22) (k := 3) X (by decide +kernel) 3 rfl ?_
      refine v_if_lt (pc := 23) (off := 8) (tgt := 31) X (by decide +kernel) (by decide) (fun q7 => ?_) (fun q7 => ?_)
      · rw [if_pos q7] at hf
        refine v_iconst (pc := 31) (n := -1) X (by decide +kernel) ic_m1 ?_
        cases hf
        exact v_iret X Y (by decide +kernel) rfl rfl
      · rw [if_neg q7] at hf
        refine v_iload_n (pc := 26) (k := 3) X (by decide +kernel) 3 rfl ?_
        refine v_iconst (pc := 27) (n := 1) X (by decide +kernel) ic_1 ?_
        refine v_icmp_le (pc := 28) (off := 5) (tgt := 33) X (by decide +kernel) (by decide) (fun q6 => ?_) (fun q6 => ?_)
        · rw [if_pos q6] at hf
          refine v_aload_n (pc := 33) (k := 0) X (by decide +kernel) 0 rfl ?_
          refine v_geta (pc := 34) X fl_0_38 kl0 fk_0_4 (by decide +kernel) ?_
          refine v_iload_n (pc := 37) (k := 1) X (by decide +kernel) 1 rfl ?_
          obtain ⟨r3, er3, hf⟩ := nmd_e hf
          refine v_callV (pc := 38) (As := [.int l1]) (rest := []) X (mt_Wo_isOn ok hi (ly_0_4 ok kl0) er3.symm) ml_0_156 mv_Wo_isOn (ly_0_4 ok kl0) cls_11 rfl ⟨Nat.le_of_ble_eq_true rfl, Nat.le_of_ble_eq_true rfl⟩ rfl rfl (Nat.le_of_ble_eq_true rfl) (by decide +kernel) ?_
          change V E g tb ρ 4 41 [(0, .ref (ρ l0)), (1, .int l1), (2, .int l2), (3, .int l3)] [.int r3] h
          refine v_if_ne (pc := 41) (off := 6) (tgt := 47) X (by decide +kernel) (by decide) (fun q5 => ?_) (fun q5 => ?_)
          · rw [if_neg q5] at hf
            refine v_aload_n (pc := 47) (k := 0) X (by decide +kernel) 0 rfl ?_
            refine v_geta (pc := 48) X fl_0_77 kl0 fk_0_10 (by decide +kernel) ?_
            refine v_iload_n (pc := 51) (k := 1) X (by decide +kernel) 1 rfl ?_
            refine v_iload_n (pc := 52) (k := 2) X (by decide +kernel) 2 rfl ?_
            refine v_iload_n (pc := 53) (k := 3) X (by decide +kernel) 3 rfl ?_
            refine v_iconst (pc := 54) (n := 1) X (by decide +kernel) ic_1 ?_
            refine v_icmp_ne (pc := 55) (off := 7) (tgt := 62) X (by decide +kernel) (by decide) (fun q4 => ?_) (fun q4 => ?_)
            · rw [if_neg q4] at hf
              refine v_iconst (pc := 62) (n := 0) X (by decide +kernel) ic_0 ?_
              refine v_sub [] rfl ?_
              exact vjb_Tt_sendIn_63 ok hi X Y h (lay tb l0 10) l1 l2 (0 : Int32) (ly_0_10 ok kl0) hf
            · rw [if_pos q4] at hf
              refine v_iconst (pc := 58) (n := 1) X (by decide +kernel) ic_1 ?_
              refine v_goto (pc := 59) (off := 4) (tgt := 63) X (by decide +kernel) (by decide) ?_
              refine v_sub [] rfl ?_
              exact vjb_Tt_sendIn_63 ok hi X Y h (lay tb l0 10) l1 l2 (1 : Int32) (ly_0_10 ok kl0) hf
          · rw [if_pos q5] at hf
            refine v_bipush (pc := 44) (n := -2) X (by decide +kernel) bi_m2 ?_
            cases hf
            exact v_iret X Y (by decide +kernel) rfl rfl
        · rw [if_neg q6] at hf
          refine v_iconst (pc := 31) (n := -1) X (by decide +kernel) ic_m1 ?_
          cases hf
          exact v_iret X Y (by decide +kernel) rfl rfl
def jb_Fo_canHelp_52 (tb : Tb) (c2 : Hp → Nat → Int32 → Int32 → Option (Int32 × Hp)) (h : Hp) (l0 : Nat) (l1 : Int32) (l2 : Int32) : Option (Int32 × Hp) :=
  nmd (l2 + (1 : Int32)) fun x1 =>
  c2 h l0 l1 x1
def lp_Fo_canHelp_2 (tb : Tb) : Nat → Hp → Nat → Int32 → Int32 → Option (Int32 × Hp)
  | 0, _, _, _, _ => none
  | n + 1, h, l0, l1, l2 =>
    if (h.1 (lay tb l0 0) 3) ≤ l2 then (
      some ((1 : Int32), h)
    ) else (
      nmd ((1 : Int32) <<< (l2 &&& 31)) fun x1 =>
      if (l1 &&& x1) = (0 : Int32) then (
        jb_Fo_canHelp_52 tb (lp_Fo_canHelp_2 tb n) h l0 l1 l2
      ) else (
        (rI tb h (lay tb l0 5) (l1 ^^^ x1)).bind fun x2 =>
        if (x2 &&& x1) = (0 : Int32) then (
          (rI tb h (lay tb l0 5) (l1 ^^^ x1)).bind fun x3 =>
          (wI tb h (lay tb l0 5) l1 x3).bind fun h4 =>
          some ((0 : Int32), h4)
        ) else (
          jb_Fo_canHelp_52 tb (lp_Fo_canHelp_2 tb n) h l0 l1 l2
        )
      )
    )
def f_Fo_canHelp (tb : Tb) (h : Hp) (l0 : Nat) (l1 : Int32) : Option (Int32 × Hp) :=
  lp_Fo_canHelp_2 tb fu h l0 l1 (0 : Int32)
set_option maxRecDepth 4000 in
set_option maxHeartbeats 1000000 in
theorem vjb_Fo_canHelp_52 {E : En} {g : Gl} {tb : Tb} {ρ : Nat → Nat} (ok : TbOK tb) (hi : inj tb ρ) {r : Int32 × Hp} (X : CX E g tb ρ prog_4_method_9_code 4 RC3 0 0) (Y : CQ E g tb ρ (some .boolean) (some (.int r.1)) r.2) {c2 : Hp → Nat → Int32 → Int32 → Option (Int32 × Hp)} (H2 : ∀ (h : Hp) (l0 : Nat) (l1 : Int32) (l2 : Int32) (kl0 : kd tb l0 = 3), c2 h l0 l1 l2 = some r → V E g tb ρ 4 2 [(0, .ref (ρ l0)), (1, .int l1), (2, .int l2)] [] h) (h : Hp) (l0 : Nat) (l1 : Int32) (l2 : Int32) (kl0 : kd tb l0 = 3) (hf : jb_Fo_canHelp_52 tb c2 h l0 l1 l2 = some r) : V E g tb ρ 4 52 [(0, .ref (ρ l0)), (1, .int l1), (2, .int l2)] [] h := by
  unfold jb_Fo_canHelp_52 at hf
  obtain ⟨x1, ex1, hf⟩ := nmd_e hf
  refine v_iinc (pc := 52) (k := 2) (n := 1) (v := x1) (lv' := [(2, .int x1), (0, .ref (ρ l0)), (1, .int l1)]) X (by decide +kernel) 2 rfl (by rw [ic_1, ex1]) (Nat.le_of_ble_eq_true rfl) rfl ?_
  refine v_goto (pc := 55) (off := -53) (tgt := 2) X (by decide +kernel) (by decide) ?_
  refine v_sub [1, 2, 0] rfl ?_
  exact H2 h l0 l1 x1 kl0 hf
set_option maxRecDepth 4000 in
set_option maxHeartbeats 1000000 in
theorem vlp_Fo_canHelp_2 {E : En} {g : Gl} {tb : Tb} {ρ : Nat → Nat} (ok : TbOK tb) (hi : inj tb ρ) {r : Int32 × Hp} (X : CX E g tb ρ prog_4_method_9_code 4 RC3 0 0) (Y : CQ E g tb ρ (some .boolean) (some (.int r.1)) r.2) : ∀ (n : Nat) (h : Hp) (l0 : Nat) (l1 : Int32) (l2 : Int32) (kl0 : kd tb l0 = 3), lp_Fo_canHelp_2 tb n h l0 l1 l2 = some r → V E g tb ρ 4 2 [(0, .ref (ρ l0)), (1, .int l1), (2, .int l2)] [] h := by
  intro n
  induction n with
  | zero =>
    intro h l0 l1 l2 kl0 hf
    rw [lp_Fo_canHelp_2] at hf
    cases hf
  | succ n ih =>
    intro h l0 l1 l2 kl0 hf
    rw [lp_Fo_canHelp_2] at hf
    refine v_iload_n (pc := 2) (k := 2) X (by decide +kernel) 2 rfl ?_
    refine v_aload_n (pc := 3) (k := 0) X (by decide +kernel) 0 rfl ?_
    refine v_geta (pc := 4) X fl_3_25 kl0 fk_3_0 (by decide +kernel) ?_
    refine v_geti (pc := 7) X fl_3_75 (ly_3_0 ok kl0) rfl (by decide +kernel) ?_
    refine v_icmp_ge (pc := 10) (off := 48) (tgt := 58) X (by decide +kernel) (by decide) (fun q7 => ?_) (fun q7 => ?_)
    · rw [if_pos q7] at hf
      refine v_iconst (pc := 58) (n := 1) X (by decide +kernel) ic_1 ?_
      cases hf
      exact v_zret (hz := rfl) X Y (by decide +kernel) rfl rfl
    · rw [if_neg q7] at hf
      refine v_iconst (pc := 13) (n := 1) X (by decide +kernel) ic_1 ?_
      refine v_iload_n (pc := 14) (k := 2) X (by decide +kernel) 2 rfl ?_
      refine v_ishl (pc := 15) X (by decide +kernel) ?_
      obtain ⟨x1, ex1, hf⟩ := nmd_e hf
      refine v_nmi ex1 ?_
      refine v_istore_n (pc := 16) (k := 3) (lv' := [(3, .int x1), (0, .ref (ρ l0)), (1, .int l1), (2, .int l2)]) X (by decide +kernel) (Nat.le_of_ble_eq_true rfl) rfl ?_
      refine v_iload_n (pc := 17) (k := 1) X (by decide +kernel) 2 rfl ?_
      refine v_iload_n (pc := 18) (k := 3) X (by decide +kernel) 0 rfl ?_
      refine v_iand (pc := 19) X (by decide +kernel) ?_
      refine v_if_eq (pc := 20) (off := 32) (tgt := 52) X (by decide +kernel) (by decide) (fun q6 => ?_) (fun q6 => ?_)
      · rw [if_pos q6] at hf
        refine v_sub [1, 2, 3] rfl ?_
        exact vjb_Fo_canHelp_52 ok hi X Y ih h l0 l1 l2 kl0 hf
      · rw [if_neg q6] at hf
        refine v_aload_n (pc := 23) (k := 0) X (by decide +kernel) 1 rfl ?_
        refine v_geta (pc := 24) X fl_3_21 kl0 fk_3_5 (by decide +kernel) ?_
        refine v_iload_n (pc := 27) (k := 1) X (by decide +kernel) 2 rfl ?_
        refine v_iload_n (pc := 28) (k := 3) X (by decide +kernel) 0 rfl ?_
        refine v_ixor (pc := 29) X (by decide +kernel) ?_
        obtain ⟨x2, ex2, hf⟩ := bnd_e hf
        refine v_iald (pc := 30) X (ly_3_5 ok kl0) ex2 (by decide +kernel) ?_
        refine v_iload_n (pc := 31) (k := 3) X (by decide +kernel) 0 rfl ?_
        refine v_iand (pc := 32) X (by decide +kernel) ?_
        refine v_if_ne (pc := 33) (off := 19) (tgt := 52) X (by decide +kernel) (by decide) (fun q5 => ?_) (fun q5 => ?_)
        · rw [if_neg q5] at hf
          refine v_sub [1, 2, 3] rfl ?_
          exact vjb_Fo_canHelp_52 ok hi X Y ih h l0 l1 l2 kl0 hf
        · rw [if_pos q5] at hf
          refine v_aload_n (pc := 36) (k := 0) X (by decide +kernel) 1 rfl ?_
          refine v_geta (pc := 37) X fl_3_21 kl0 fk_3_5 (by decide +kernel) ?_
          refine v_iload_n (pc := 40) (k := 1) X (by decide +kernel) 2 rfl ?_
          refine v_aload_n (pc := 41) (k := 0) X (by decide +kernel) 1 rfl ?_
          refine v_geta (pc := 42) X fl_3_21 kl0 fk_3_5 (by decide +kernel) ?_
          refine v_iload_n (pc := 45) (k := 1) X (by decide +kernel) 2 rfl ?_
          refine v_iload_n (pc := 46) (k := 3) X (by decide +kernel) 0 rfl ?_
          refine v_ixor (pc := 47) X (by decide +kernel) ?_
          obtain ⟨x3, ex3, hf⟩ := bnd_e hf
          refine v_iald (pc := 48) X (ly_3_5 ok kl0) ex3 (by decide +kernel) ?_
          obtain ⟨h4, eh4, hf⟩ := bnd_e hf
          refine v_iast (pc := 49) X (ly_3_5 ok kl0) eh4 (by decide +kernel) ?_
          refine v_iconst (pc := 50) (n := 0) X (by decide +kernel) ic_0 ?_
          cases hf
          exact v_zret (hz := rfl) X Y (by decide +kernel) rfl rfl
set_option maxRecDepth 4000 in
set_option maxHeartbeats 1000000 in
theorem mt_Fo_canHelp {g : Gl} {tb : Tb} {ρ : Nat → Nat} (ok : TbOK tb) (hi : inj tb ρ) {h : Hp} {l0 : Nat} {l1 : Int32} (kl0 : kd tb l0 = 3) {r : Int32 × Hp} (hf : f_Fo_canHelp tb h l0 l1 = some r) : MT g y_Fo_canHelp prog_4_method_9_code 4 (some .boolean) 0 0 tb ρ [.ref (ρ l0), .int l1] h (some (.int r.1)) r.2 := by
  refine mt_intro (by decide +kernel) ok hi (Nat.le_of_ble_eq_true rfl) (fun E X Y => ?_)
  change V E g tb ρ 4 0 [(0, .ref (ρ l0)), (1, .int l1)] [] h
  unfold f_Fo_canHelp at hf
  refine v_iconst (pc := 0) (n := 0) X (by decide +kernel) ic_0 ?_
  refine v_istore_n (pc := 1) (k := 2) (lv' := [(2, .int (0 : Int32)), (0, .ref (ρ l0)), (1, .int l1)]) X (by decide +kernel) (Nat.le_of_ble_eq_true rfl) rfl ?_
  refine v_sub [1, 2, 0] rfl ?_
  exact vlp_Fo_canHelp_2 ok hi X Y fu h l0 l1 (0 : Int32) kl0 hf
def jb_Fo_troughsOf_54 (tb : Tb) (c4 : Hp → Nat → Int32 → Int32 → Int32 → Option (Int32)) (h : Hp) (l0 : Nat) (l1 : Int32) (l2 : Int32) (l3 : Int32) : Option (Int32) :=
  nmd (l3 + (1 : Int32)) fun x1 =>
  c4 h l0 l1 l2 x1
def lp_Fo_troughsOf_4 (tb : Tb) : Nat → Hp → Nat → Int32 → Int32 → Int32 → Option (Int32)
  | 0, _, _, _, _, _ => none
  | n + 1, h, l0, l1, l2, l3 =>
    if (h.1 (lay tb l0 0) 4) ≤ l3 then (
      some l2
    ) else (
      (rI tb h (lay tb (lay tb l0 3) 9) l3).bind fun x1 =>
      (f_Pl_troughThere tb h (lay tb l0 0) x1).bind fun r2 =>
      if (l1 &&& ((1 : Int32) <<< (l3 &&& 31))) = (0 : Int32) then (
        jb_Fo_troughsOf_54 tb (lp_Fo_troughsOf_4 tb n) h l0 l1 l2 l3
      ) else (
        if r2 = (-1 : Int32) then (
          jb_Fo_troughsOf_54 tb (lp_Fo_troughsOf_4 tb n) h l0 l1 l2 l3
        ) else (
          nmd (l2 ||| ((1 : Int32) <<< (r2 &&& 31))) fun x3 =>
          jb_Fo_troughsOf_54 tb (lp_Fo_troughsOf_4 tb n) h l0 l1 x3 l3
        )
      )
    )
def f_Fo_troughsOf (tb : Tb) (h : Hp) (l0 : Nat) (l1 : Int32) : Option (Int32) :=
  lp_Fo_troughsOf_4 tb fu h l0 l1 (0 : Int32) (0 : Int32)
set_option maxRecDepth 4000 in
set_option maxHeartbeats 1000000 in
theorem vjb_Fo_troughsOf_54 {E : En} {g : Gl} {tb : Tb} {ρ : Nat → Nat} (ok : TbOK tb) (hi : inj tb ρ) {r : Int32} (X : CX E g tb ρ prog_4_method_11_code 5 RC3 1 21) {h : Hp} (Y : CQ E g tb ρ (some .int) (some (.int r)) h) {c4 : Hp → Nat → Int32 → Int32 → Int32 → Option (Int32)} (H4 : ∀ (l0 : Nat) (l1 : Int32) (l2 : Int32) (l3 : Int32) (kl0 : kd tb l0 = 3), c4 h l0 l1 l2 l3 = some r → V E g tb ρ 5 4 [(0, .ref (ρ l0)), (1, .int l1), (2, .int l2), (3, .int l3)] [] h) (l0 : Nat) (l1 : Int32) (l2 : Int32) (l3 : Int32) (kl0 : kd tb l0 = 3) (hf : jb_Fo_troughsOf_54 tb c4 h l0 l1 l2 l3 = some r) : V E g tb ρ 5 54 [(0, .ref (ρ l0)), (1, .int l1), (2, .int l2), (3, .int l3)] [] h := by
  unfold jb_Fo_troughsOf_54 at hf
  obtain ⟨x1, ex1, hf⟩ := nmd_e hf
  refine v_iinc (pc := 54) (k := 3) (n := 1) (v := x1) (lv' := [(3, .int x1), (0, .ref (ρ l0)), (1, .int l1), (2, .int l2)]) X (by decide +kernel) 3 rfl (by rw [ic_1, ex1]) (Nat.le_of_ble_eq_true rfl) rfl ?_
  refine v_goto (pc := 57) (off := -53) (tgt := 4) X (by decide +kernel) (by decide) ?_
  refine v_sub [1, 2, 3, 0] rfl ?_
  exact H4 l0 l1 l2 x1 kl0 hf
set_option maxRecDepth 4000 in
set_option maxHeartbeats 1000000 in
theorem vlp_Fo_troughsOf_4 {E : En} {g : Gl} {tb : Tb} {ρ : Nat → Nat} (ok : TbOK tb) (hi : inj tb ρ) {r : Int32} (X : CX E g tb ρ prog_4_method_11_code 5 RC3 1 21) {h : Hp} (Y : CQ E g tb ρ (some .int) (some (.int r)) h) : ∀ (n : Nat) (l0 : Nat) (l1 : Int32) (l2 : Int32) (l3 : Int32) (kl0 : kd tb l0 = 3), lp_Fo_troughsOf_4 tb n h l0 l1 l2 l3 = some r → V E g tb ρ 5 4 [(0, .ref (ρ l0)), (1, .int l1), (2, .int l2), (3, .int l3)] [] h := by
  intro n
  induction n with
  | zero =>
    intro l0 l1 l2 l3 kl0 hf
    rw [lp_Fo_troughsOf_4] at hf
    cases hf
  | succ n ih =>
    intro l0 l1 l2 l3 kl0 hf
    rw [lp_Fo_troughsOf_4] at hf
    refine v_iload_n (pc := 4) (k := 3) X (by decide +kernel) 3 rfl ?_
    refine v_aload_n (pc := 5) (k := 0) X (by decide +kernel) 0 rfl ?_
    refine v_geta (pc := 6) X fl_3_25 kl0 fk_3_0 (by decide +kernel) ?_
    refine v_geti (pc := 9) X fl_3_87 (ly_3_0 ok kl0) rfl (by decide +kernel) ?_
    refine v_icmp_ge (pc := 12) (off := 48) (tgt := 60) X (by decide +kernel) (by decide) (fun q6 => ?_) (fun q6 => ?_)
    · rw [if_pos q6] at hf
      refine v_iload_n (pc := 60) (k := 2) X (by decide +kernel) 2 rfl ?_
      cases hf
      exact v_iret X Y (by decide +kernel) rfl rfl
    · rw [if_neg q6] at hf
      refine v_aload_n (pc := 15) (k := 0) X (by decide +kernel) 0 rfl ?_
      refine v_geta (pc := 16) X fl_3_25 kl0 fk_3_0 (by decide +kernel) ?_
      refine v_aload_n (pc := 19) (k := 0) X (by decide +kernel) 0 rfl ?_
      refine v_geta (pc := 20) X fl_3_12 kl0 fk_3_3 (by decide +kernel) ?_
      refine v_geta (pc := 23) X fl_3_60 (ly_3_3 ok kl0) fk_11_9 (by decide +kernel) ?_
      refine v_iload_n (pc := 26) (k := 3) X (by decide +kernel) 3 rfl ?_
      obtain ⟨x1, ex1, hf⟩ := bnd_e hf
      refine v_iald (pc := 27) X (ly_11_9 ok (ly_3_3 ok kl0)) ex1 (by decide +kernel) ?_
      obtain ⟨r2, er2, hf⟩ := bnd_e hf
      refine v_callV (pc := 28) (As := [.int x1]) (rest := []) X (mt_Pl_troughThere ok hi (ly_3_0 ok kl0) er2) ml_3_90 mv_Pl_troughThere (ly_3_0 ok kl0) cls_7 rfl ⟨Nat.le_of_ble_eq_true rfl, Nat.le_of_ble_eq_true rfl⟩ rfl rfl (Nat.le_of_ble_eq_true rfl) (by decide +kernel) ?_
      change V E g tb ρ 5 31 [(0, .ref (ρ l0)), (1, .int l1), (2, .int l2), (3, .int l3)] [.int r2] h
      refine v_istore (pc := 31) (k := 4) (lv' := [(4, .int r2), (0, .ref (ρ l0)), (1, .int l1), (2, .int l2), (3, .int l3)]) X (by decide +kernel) (Nat.le_of_ble_eq_true rfl) rfl ?_
      refine v_iload_n (pc := 33) (k := 1) X (by decide +kernel) 2 rfl ?_
      refine v_iconst (pc := 34) (n := 1) X (by decide +kernel) ic_1 ?_
      refine v_iload_n (pc := 35) (k := 3) X (by decide +kernel) 4 rfl ?_
      refine v_ishl (pc := 36) X (by decide +kernel) ?_
      refine v_iand (pc := 37) X (by decide +kernel) ?_
      refine v_if_eq (pc := 38) (off := 16) (tgt := 54) X (by decide +kernel) (by decide) (fun q5 => ?_) (fun q5 => ?_)
      · rw [if_pos q5] at hf
        refine v_sub [1, 2, 3, 4] rfl ?_
        exact vjb_Fo_troughsOf_54 ok hi X Y ih l0 l1 l2 l3 kl0 hf
      · rw [if_neg q5] at hf
        refine v_iload (pc := 41) (k := 4) X (by decide +kernel) 0 rfl ?_
        refine v_iconst (pc := 43) (n := -1) X (by decide +kernel) ic_m1 ?_
        refine v_icmp_eq (pc := 44) (off := 10) (tgt := 54) X (by decide +kernel) (by decide) (fun q4 => ?_) (fun q4 => ?_)
        · rw [if_pos q4] at hf
          refine v_sub [1, 2, 3, 4] rfl ?_
          exact vjb_Fo_troughsOf_54 ok hi X Y ih l0 l1 l2 l3 kl0 hf
        · rw [if_neg q4] at hf
          refine v_iload_n (pc := 47) (k := 2) X (by decide +kernel) 3 rfl ?_
          refine v_iconst (pc := 48) (n := 1) X (by decide +kernel) ic_1 ?_
          refine v_iload (pc := 49) (k := 4) X (by decide +kernel) 0 rfl ?_
          refine v_ishl (pc := 51) X (by decide +kernel) ?_
          refine v_ior (pc := 52) X (by decide +kernel) ?_
          obtain ⟨x3, ex3, hf⟩ := nmd_e hf
          refine v_nmi ex3 ?_
          refine v_istore_n (pc := 53) (k := 2) (lv' := [(2, .int x3), (4, .int r2), (0, .ref (ρ l0)), (1, .int l1), (3, .int l3)]) X (by decide +kernel) (Nat.le_of_ble_eq_true rfl) rfl ?_
          refine v_sub [2, 3, 0, 4] rfl ?_
          exact vjb_Fo_troughsOf_54 ok hi X Y ih l0 l1 x3 l3 kl0 hf
set_option maxRecDepth 4000 in
set_option maxHeartbeats 1000000 in
theorem mt_Fo_troughsOf {g : Gl} {tb : Tb} {ρ : Nat → Nat} (ok : TbOK tb) (hi : inj tb ρ) {h : Hp} {l0 : Nat} {l1 : Int32} (kl0 : kd tb l0 = 3) {r : Int32} (hf : f_Fo_troughsOf tb h l0 l1 = some r) : MT g y_Fo_troughsOf prog_4_method_11_code 5 (some .int) 1 21 tb ρ [.ref (ρ l0), .int l1] h (some (.int r)) h := by
  refine mt_intro (by decide +kernel) ok hi (Nat.le_of_ble_eq_true rfl) (fun E X Y => ?_)
  change V E g tb ρ 5 0 [(0, .ref (ρ l0)), (1, .int l1)] [] h
  unfold f_Fo_troughsOf at hf
  refine v_iconst (pc := 0) (n := 0) X (by decide +kernel) ic_0 ?_
  refine v_istore_n (pc := 1) (k := 2) (lv' := [(2, .int (0 : Int32)), (0, .ref (ρ l0)), (1, .int l1)]) X (by decide +kernel) (Nat.le_of_ble_eq_true rfl) rfl ?_
  refine v_iconst (pc := 2) (n := 0) X (by decide +kernel) ic_0 ?_
  refine v_istore_n (pc := 3) (k := 3) (lv' := [(3, .int (0 : Int32)), (2, .int (0 : Int32)), (0, .ref (ρ l0)), (1, .int l1)]) X (by decide +kernel) (Nat.le_of_ble_eq_true rfl) rfl ?_
  refine v_sub [2, 3, 1, 0] rfl ?_
  exact vlp_Fo_troughsOf_4 ok hi X Y fu l0 l1 (0 : Int32) (0 : Int32) kl0 hf
def jb_Fo_noneFalls_111 (tb : Tb) (h : Hp) (l0 : Nat) : Option (Int32 × Hp) :=
  if (h.1 (lay tb l0 3) 2) = (h.1 (lay tb l0 1) 2) then (
    some ((1 : Int32), h)
  ) else (
    some ((0 : Int32), h)
  )
def lp_Fo_noneFalls_51 (tb : Tb) : Nat → Hp → Nat → Int32 → Int32 → Int32 → Option (Int32 × Hp)
  | 0, _, _, _, _, _ => none
  | n + 1, h, l0, l1, l2, l3 =>
    if l2 ≤ l3 then (
      jb_Fo_noneFalls_111 tb h l0
    ) else (
      if (h.1 (lay tb l0 3) 2) = (h.1 (lay tb l0 1) 2) then (
        (f_Ho_pass tb h (lay tb l0 2) (lay tb l0 3) (1 : Int32)).bind fun r1 =>
        (rI tb r1 (lay tb l0 5) l1).bind fun x2 =>
        (f_Fo_troughsOf tb r1 l0 (r1.1 (lay tb l0 1) 2)).bind fun r3 =>
        (wI tb r1 (lay tb l0 5) l1 (x2 ||| r3)).bind fun h4 =>
        nmd (l3 + (1 : Int32)) fun x5 =>
        lp_Fo_noneFalls_51 tb n h4 l0 l1 l2 x5
      ) else (
        jb_Fo_noneFalls_111 tb h l0
      )
    )
def jb_Fo_noneFalls_36 (tb : Tb) (c6 : Hp → Nat → Int32 → Int32 → Int32 → Option (Int32 × Hp)) (h : Hp) (l0 : Nat) (l1 : Int32) (l2 : Int32) (l3 : Int32) : Option (Int32 × Hp) :=
  nmd (l3 + (1 : Int32)) fun x1 =>
  c6 h l0 l1 l2 x1
def lp_Fo_noneFalls_6 (tb : Tb) : Nat → Hp → Nat → Int32 → Int32 → Int32 → Option (Int32 × Hp)
  | 0, _, _, _, _, _ => none
  | n + 1, h, l0, l1, l2, l3 =>
    if (h.1 (lay tb l0 0) 3) ≤ l3 then (
      (wI tb h (lay tb l0 5) l1 (0 : Int32)).bind fun h1 =>
      lp_Fo_noneFalls_51 tb fu h1 l0 l1 l2 (0 : Int32)
    ) else (
      if (l1 &&& ((1 : Int32) <<< (l3 &&& 31))) = (0 : Int32) then (
        jb_Fo_noneFalls_36 tb (lp_Fo_noneFalls_6 tb n) h l0 l1 l2 l3
      ) else (
        (wI tb h (lay tb (lay tb l0 3) 14) l3 (99 : Int32)).bind fun h2 =>
        jb_Fo_noneFalls_36 tb (lp_Fo_noneFalls_6 tb n) h2 l0 l1 l2 l3
      )
    )
def f_Fo_noneFalls (tb : Tb) (h : Hp) (l0 : Nat) (l1 : Int32) (l2 : Int32) : Option (Int32 × Hp) :=
  (f_Fo_beginTrial tb h l0).bind fun r1 =>
  lp_Fo_noneFalls_6 tb fu r1 l0 l1 l2 (0 : Int32)
set_option maxRecDepth 4000 in
set_option maxHeartbeats 1000000 in
theorem vjb_Fo_noneFalls_111 {E : En} {g : Gl} {tb : Tb} {ρ : Nat → Nat} (ok : TbOK tb) (hi : inj tb ρ) {r : Int32 × Hp} (X : CX E g tb ρ prog_4_method_10_code 4 RC3 6 151) (Y : CQ E g tb ρ (some .boolean) (some (.int r.1)) r.2) (h : Hp) (l0 : Nat) (kl0 : kd tb l0 = 3) (hf : jb_Fo_noneFalls_111 tb h l0 = some r) : V E g tb ρ 4 111 [(0, .ref (ρ l0))] [] h := by
  unfold jb_Fo_noneFalls_111 at hf
  refine v_aload_n (pc := 111) (k := 0) X (by decide +kernel) 0 rfl ?_
  refine v_geta (pc := 112) X fl_3_12 kl0 fk_3_3 (by decide +kernel) ?_
  refine v_geti (pc := 115) X fl_3_80 (ly_3_3 ok kl0) rfl (by decide +kernel) ?_
  refine v_aload_n (pc := 118) (k := 0) X (by decide +kernel) 0 rfl ?_
  refine v_geta (pc := 119) X fl_3_29 kl0 fk_3_1 (by decide +kernel) ?_
  refine v_geti (pc := 122) X fl_3_80 (ly_3_1 ok kl0) rfl (by decide +kernel) ?_
  refine v_icmp_ne (pc := 125) (off := 7) (tgt := 132) X (by decide +kernel) (by decide) (fun q1 => ?_) (fun q1 => ?_)
  · rw [if_neg q1] at hf
    refine v_iconst (pc := 132) (n := 0) X (by decide +kernel) ic_0 ?_
    cases hf
    exact v_zret (hz := rfl) X Y (by decide +kernel) rfl rfl
  · rw [if_pos q1] at hf
    refine v_iconst (pc := 128) (n := 1) X (by decide +kernel) ic_1 ?_
    refine v_goto (pc := 129) (off := 4) (tgt := 133) X (by decide +kernel) (by decide) ?_
    cases hf
    exact v_zret (hz := rfl) X Y (by decide +kernel) rfl rfl
set_option maxRecDepth 4000 in
set_option maxHeartbeats 1000000 in
theorem vlp_Fo_noneFalls_51 {E : En} {g : Gl} {tb : Tb} {ρ : Nat → Nat} (ok : TbOK tb) (hi : inj tb ρ) {r : Int32 × Hp} (X : CX E g tb ρ prog_4_method_10_code 4 RC3 6 151) (Y : CQ E g tb ρ (some .boolean) (some (.int r.1)) r.2) : ∀ (n : Nat) (h : Hp) (l0 : Nat) (l1 : Int32) (l2 : Int32) (l3 : Int32) (kl0 : kd tb l0 = 3), lp_Fo_noneFalls_51 tb n h l0 l1 l2 l3 = some r → V E g tb ρ 4 51 [(0, .ref (ρ l0)), (1, .int l1), (2, .int l2), (3, .int l3)] [] h := by
  intro n
  induction n with
  | zero =>
    intro h l0 l1 l2 l3 kl0 hf
    rw [lp_Fo_noneFalls_51] at hf
    cases hf
  | succ n ih =>
    intro h l0 l1 l2 l3 kl0 hf
    rw [lp_Fo_noneFalls_51] at hf
    refine v_iload_n (pc := 51) (k := 3) X (by decide +kernel) 3 rfl ?_
    refine v_iload_n (pc := 52) (k := 2) X (by decide +kernel) 2 rfl ?_
    refine v_icmp_ge (pc := 53) (off := 58) (tgt := 111) X (by decide +kernel) (by decide) (fun q7 => ?_) (fun q7 => ?_)
    · rw [if_pos q7] at hf
      refine v_sub [0] rfl ?_
      exact vjb_Fo_noneFalls_111 ok hi X Y h l0 kl0 hf
    · rw [if_neg q7] at hf
      refine v_aload_n (pc := 56) (k := 0) X (by decide +kernel) 0 rfl ?_
      refine v_geta (pc := 57) X fl_3_12 kl0 fk_3_3 (by decide +kernel) ?_
      refine v_geti (pc := 60) X fl_3_80 (ly_3_3 ok kl0) rfl (by decide +kernel) ?_
      refine v_aload_n (pc := 63) (k := 0) X (by decide +kernel) 0 rfl ?_
      refine v_geta (pc := 64) X fl_3_29 kl0 fk_3_1 (by decide +kernel) ?_
      refine v_geti (pc := 67) X fl_3_80 (ly_3_1 ok kl0) rfl (by decide +kernel) ?_
      refine v_icmp_ne (pc := 70) (off := 41) (tgt := 111) X (by decide +kernel) (by decide) (fun q6 => ?_) (fun q6 => ?_)
      · rw [if_neg q6] at hf
        refine v_sub [0] rfl ?_
        exact vjb_Fo_noneFalls_111 ok hi X Y h l0 kl0 hf
      · rw [if_pos q6] at hf
        refine v_aload_n (pc := 73) (k := 0) X (by decide +kernel) 0 rfl ?_
        refine v_geta (pc := 74) X fl_3_32 kl0 fk_3_2 (by decide +kernel) ?_
        refine v_aload_n (pc := 77) (k := 0) X (by decide +kernel) 0 rfl ?_
        refine v_geta (pc := 78) X fl_3_12 kl0 fk_3_3 (by decide +kernel) ?_
        refine v_iconst (pc := 81) (n := 1) X (by decide +kernel) ic_1 ?_
        obtain ⟨r1, er1, hf⟩ := bnd_e hf
        refine v_callV (pc := 82) (As := [.ref (ρ (lay tb l0 3)), .int (1 : Int32)]) (rest := []) X (mt_Ho_pass ok hi (ly_3_2 ok kl0) (ly_3_3 ok kl0) er1) ml_3_48 mv_Ho_pass (ly_3_2 ok kl0) cls_4 rfl ⟨Nat.le_of_ble_eq_true rfl, Nat.le_of_ble_eq_true rfl⟩ rfl rfl (Nat.le_of_ble_eq_true rfl) (by decide +kernel) ?_
        change V E g tb ρ 4 85 [(0, .ref (ρ l0)), (1, .int l1), (2, .int l2), (3, .int l3)] [] r1
        refine v_aload_n (pc := 85) (k := 0) X (by decide +kernel) 0 rfl ?_
        refine v_geta (pc := 86) X fl_3_21 kl0 fk_3_5 (by decide +kernel) ?_
        refine v_iload_n (pc := 89) (k := 1) X (by decide +kernel) 1 rfl ?_
        refine v_dup2 (pc := 90) X (by decide +kernel) rfl rfl ?_
        obtain ⟨x2, ex2, hf⟩ := bnd_e hf
        refine v_iald (pc := 91) X (ly_3_5 ok kl0) ex2 (by decide +kernel) ?_
        refine v_aload_n (pc := 92) (k := 0) X (by decide +kernel) 0 rfl ?_
        refine v_aload_n (pc := 93) (k := 0) X (by decide +kernel) 0 rfl ?_
        refine v_geta (pc := 94) X fl_3_29 kl0 fk_3_1 (by decide +kernel) ?_
        refine v_geti (pc := 97) X fl_3_80 (ly_3_1 ok kl0) rfl (by decide +kernel) ?_
        obtain ⟨r3, er3, hf⟩ := bnd_e hf
        refine v_callV (pc := 100) (As := [.int (r1.1 (lay tb l0 1) 2)]) (rest := [.int x2, .int l1, .ref (ρ (lay tb l0 5))]) X (mt_Fo_troughsOf ok hi kl0 er3) ml_3_83 mv_Fo_troughsOf kl0 cls_3 rfl ⟨Nat.le_of_ble_eq_true rfl, Nat.le_of_ble_eq_true rfl⟩ rfl rfl (Nat.le_of_ble_eq_true rfl) (by decide +kernel) ?_
        change V E g tb ρ 4 103 [(0, .ref (ρ l0)), (1, .int l1), (2, .int l2), (3, .int l3)] [.int r3, .int x2, .int l1, .ref (ρ (lay tb l0 5))] r1
        refine v_ior (pc := 103) X (by decide +kernel) ?_
        obtain ⟨h4, eh4, hf⟩ := bnd_e hf
        refine v_iast (pc := 104) X (ly_3_5 ok kl0) eh4 (by decide +kernel) ?_
        obtain ⟨x5, ex5, hf⟩ := nmd_e hf
        refine v_iinc (pc := 105) (k := 3) (n := 1) (v := x5) (lv' := [(3, .int x5), (0, .ref (ρ l0)), (1, .int l1), (2, .int l2)]) X (by decide +kernel) 3 rfl (by rw [ic_1, ex5]) (Nat.le_of_ble_eq_true rfl) rfl ?_
        refine v_goto (pc := 108) (off := -57) (tgt := 51) X (by decide +kernel) (by decide) ?_
        refine v_sub [1, 2, 3, 0] rfl ?_
        exact ih h4 l0 l1 l2 x5 kl0 hf
set_option maxRecDepth 4000 in
set_option maxHeartbeats 1000000 in
theorem vjb_Fo_noneFalls_36 {E : En} {g : Gl} {tb : Tb} {ρ : Nat → Nat} (ok : TbOK tb) (hi : inj tb ρ) {r : Int32 × Hp} (X : CX E g tb ρ prog_4_method_10_code 4 RC3 6 151) (Y : CQ E g tb ρ (some .boolean) (some (.int r.1)) r.2) {c6 : Hp → Nat → Int32 → Int32 → Int32 → Option (Int32 × Hp)} (H6 : ∀ (h : Hp) (l0 : Nat) (l1 : Int32) (l2 : Int32) (l3 : Int32) (kl0 : kd tb l0 = 3), c6 h l0 l1 l2 l3 = some r → V E g tb ρ 4 6 [(0, .ref (ρ l0)), (1, .int l1), (2, .int l2), (3, .int l3)] [] h) (h : Hp) (l0 : Nat) (l1 : Int32) (l2 : Int32) (l3 : Int32) (kl0 : kd tb l0 = 3) (hf : jb_Fo_noneFalls_36 tb c6 h l0 l1 l2 l3 = some r) : V E g tb ρ 4 36 [(0, .ref (ρ l0)), (1, .int l1), (2, .int l2), (3, .int l3)] [] h := by
  unfold jb_Fo_noneFalls_36 at hf
  obtain ⟨x1, ex1, hf⟩ := nmd_e hf
  refine v_iinc (pc := 36) (k := 3) (n := 1) (v := x1) (lv' := [(3, .int x1), (0, .ref (ρ l0)), (1, .int l1), (2, .int l2)]) X (by decide +kernel) 3 rfl (by rw [ic_1, ex1]) (Nat.le_of_ble_eq_true rfl) rfl ?_
  refine v_goto (pc := 39) (off := -33) (tgt := 6) X (by decide +kernel) (by decide) ?_
  refine v_sub [1, 2, 3, 0] rfl ?_
  exact H6 h l0 l1 l2 x1 kl0 hf
set_option maxRecDepth 4000 in
set_option maxHeartbeats 1000000 in
theorem vlp_Fo_noneFalls_6 {E : En} {g : Gl} {tb : Tb} {ρ : Nat → Nat} (ok : TbOK tb) (hi : inj tb ρ) {r : Int32 × Hp} (X : CX E g tb ρ prog_4_method_10_code 4 RC3 6 151) (Y : CQ E g tb ρ (some .boolean) (some (.int r.1)) r.2) : ∀ (n : Nat) (h : Hp) (l0 : Nat) (l1 : Int32) (l2 : Int32) (l3 : Int32) (kl0 : kd tb l0 = 3), lp_Fo_noneFalls_6 tb n h l0 l1 l2 l3 = some r → V E g tb ρ 4 6 [(0, .ref (ρ l0)), (1, .int l1), (2, .int l2), (3, .int l3)] [] h := by
  intro n
  induction n with
  | zero =>
    intro h l0 l1 l2 l3 kl0 hf
    rw [lp_Fo_noneFalls_6] at hf
    cases hf
  | succ n ih =>
    intro h l0 l1 l2 l3 kl0 hf
    rw [lp_Fo_noneFalls_6] at hf
    refine v_iload_n (pc := 6) (k := 3) X (by decide +kernel) 3 rfl ?_
    refine v_aload_n (pc := 7) (k := 0) X (by decide +kernel) 0 rfl ?_
    refine v_geta (pc := 8) X fl_3_25 kl0 fk_3_0 (by decide +kernel) ?_
    refine v_geti (pc := 11) X fl_3_75 (ly_3_0 ok kl0) rfl (by decide +kernel) ?_
    refine v_icmp_ge (pc := 14) (off := 28) (tgt := 42) X (by decide +kernel) (by decide) (fun q4 => ?_) (fun q4 => ?_)
    · rw [if_pos q4] at hf
      refine v_aload_n (pc := 42) (k := 0) X (by decide +kernel) 0 rfl ?_
      refine v_geta (pc := 43) X fl_3_21 kl0 fk_3_5 (by decide +kernel) ?_
      refine v_iload_n (pc := 46) (k := 1) X (by decide +kernel) 1 rfl ?_
      refine v_iconst (pc := 47) (n := 0) X (by decide +kernel) ic_0 ?_
      obtain ⟨h1, eh1, hf⟩ := bnd_e hf
      refine v_iast (pc := 48) X (ly_3_5 ok kl0) eh1 (by decide +kernel) ?_
      refine v_iconst (pc := 49) (n := 0) X (by decide +kernel) ic_0 ?_
      refine v_istore_n (pc := 50) (k := 3) (lv' := [(3, .int (0 : Int32)), (0, .ref (ρ l0)), (1, .int l1), (2, .int l2)]) X (by decide +kernel) (Nat.le_of_ble_eq_true rfl) rfl ?_
      refine v_sub [1, 2, 3, 0] rfl ?_
      exact vlp_Fo_noneFalls_51 ok hi X Y fu h1 l0 l1 l2 (0 : Int32) kl0 hf
    · rw [if_neg q4] at hf
      refine v_iload_n (pc := 17) (k := 1) X (by decide +kernel) 1 rfl ?_
      refine v_iconst (pc := 18) (n := 1) X (by decide +kernel) ic_1 ?_
      refine v_iload_n (pc := 19) (k := 3) X (by decide +kernel) 3 rfl ?_
      refine v_ishl (pc := 20) X (by decide +kernel) ?_
      refine v_iand (pc := 21) X (by decide +kernel) ?_
      refine v_if_eq (pc := 22) (off := 14) (tgt := 36) X (by decide +kernel) (by decide) (fun q3 => ?_) (fun q3 => ?_)
      · rw [if_pos q3] at hf
        exact vjb_Fo_noneFalls_36 ok hi X Y ih h l0 l1 l2 l3 kl0 hf
      · rw [if_neg q3] at hf
        refine v_aload_n (pc := 25) (k := 0) X (by decide +kernel) 0 rfl ?_
        refine v_geta (pc := 26) X fl_3_12 kl0 fk_3_3 (by decide +kernel) ?_
        refine v_geta (pc := 29) X fl_3_63 (ly_3_3 ok kl0) fk_11_14 (by decide +kernel) ?_
        refine v_iload_n (pc := 32) (k := 3) X (by decide +kernel) 3 rfl ?_
        refine v_bipush (pc := 33) (n := 99) X (by decide +kernel) bi_99 ?_
        obtain ⟨h2, eh2, hf⟩ := bnd_e hf
        refine v_iast (pc := 35) X (ly_11_14 ok (ly_3_3 ok kl0)) eh2 (by decide +kernel) ?_
        exact vjb_Fo_noneFalls_36 ok hi X Y ih h2 l0 l1 l2 l3 kl0 hf
set_option maxRecDepth 4000 in
set_option maxHeartbeats 1000000 in
theorem mt_Fo_noneFalls {g : Gl} {tb : Tb} {ρ : Nat → Nat} (ok : TbOK tb) (hi : inj tb ρ) {h : Hp} {l0 : Nat} {l1 : Int32} {l2 : Int32} (kl0 : kd tb l0 = 3) {r : Int32 × Hp} (hf : f_Fo_noneFalls tb h l0 l1 l2 = some r) : MT g y_Fo_noneFalls prog_4_method_10_code 4 (some .boolean) 6 151 tb ρ [.ref (ρ l0), .int l1, .int l2] h (some (.int r.1)) r.2 := by
  refine mt_intro (by decide +kernel) ok hi (Nat.le_of_ble_eq_true rfl) (fun E X Y => ?_)
  change V E g tb ρ 4 0 [(0, .ref (ρ l0)), (1, .int l1), (2, .int l2)] [] h
  unfold f_Fo_noneFalls at hf
  refine v_aload_n (pc := 0) (k := 0) X (by decide +kernel) 0 rfl ?_
  obtain ⟨r1, er1, hf⟩ := bnd_e hf
  refine v_callV (pc := 1) (As := []) (rest := []) X (mt_Fo_beginTrial ok hi kl0 er1) ml_3_45 mv_Fo_beginTrial kl0 cls_3 rfl ⟨Nat.le_of_ble_eq_true rfl, Nat.le_of_ble_eq_true rfl⟩ rfl rfl (Nat.le_of_ble_eq_true rfl) (by decide +kernel) ?_
  change V E g tb ρ 4 4 [(0, .ref (ρ l0)), (1, .int l1), (2, .int l2)] [] r1
  refine v_iconst (pc := 4) (n := 0) X (by decide +kernel) ic_0 ?_
  refine v_istore_n (pc := 5) (k := 3) (lv' := [(3, .int (0 : Int32)), (0, .ref (ρ l0)), (1, .int l1), (2, .int l2)]) X (by decide +kernel) (Nat.le_of_ble_eq_true rfl) rfl ?_
  refine v_sub [1, 2, 3, 0] rfl ?_
  exact vlp_Fo_noneFalls_6 ok hi X Y fu r1 l0 l1 l2 (0 : Int32) kl0 hf
def jb_Tt_pump_74 (tb : Tb) (c15 : Hp → Nat → Int32 → Int32 → Option (Int32 × Hp)) (c28 : Hp → Nat → Int32 → Int32 → Int32 → Option (Int32 × Hp)) (h : Hp) (l0 : Nat) (l1 : Int32) (l2 : Int32) (l3 : Int32) : Option (Int32 × Hp) :=
  nmd (l3 + (1 : Int32)) fun x1 =>
  c28 h l0 l1 l2 x1
def lp_Tt_pump_28 (tb : Tb) (c15 : Hp → Nat → Int32 → Int32 → Option (Int32 × Hp)) : Nat → Hp → Nat → Int32 → Int32 → Int32 → Option (Int32 × Hp)
  | 0, _, _, _, _, _ => none
  | n + 1, h, l0, l1, l2, l3 =>
    if ((1 : Int32) <<< ((h.1 (lay tb l0 3) 3) &&& 31)) ≤ l3 then (
      nmd (l2 + (1 : Int32)) fun x1 =>
      c15 h l0 l1 x1
    ) else (
      nmd (f_In_bitCount tb h l3) fun r2 =>
      if r2 = l2 then (
        (f_Fo_canHelp tb h (lay tb l0 10) l3).bind fun r3 =>
        if r3.1 = (0 : Int32) then (
          jb_Tt_pump_74 tb c15 (lp_Tt_pump_28 tb c15 n) r3.2 l0 l1 l2 l3
        ) else (
          (f_Fo_noneFalls tb r3.2 (lay tb l0 10) l3 l1).bind fun r4 =>
          if r4.1 = (0 : Int32) then (
            jb_Tt_pump_74 tb c15 (lp_Tt_pump_28 tb c15 n) r4.2 l0 l1 l2 l3
          ) else (
            some (l3, r4.2)
          )
        )
      ) else (
        jb_Tt_pump_74 tb c15 (lp_Tt_pump_28 tb c15 n) h l0 l1 l2 l3
      )
    )
def lp_Tt_pump_15 (tb : Tb) : Nat → Hp → Nat → Int32 → Int32 → Option (Int32 × Hp)
  | 0, _, _, _, _ => none
  | n + 1, h, l0, l1, l2 =>
    if (h.1 (lay tb l0 3) 3) < l2 then (
      some ((-2 : Int32), h)
    ) else (
      lp_Tt_pump_28 tb (lp_Tt_pump_15 tb n) fu h l0 l1 l2 (0 : Int32)
    )
def f_Tt_pump (tb : Tb) (h : Hp) (l0 : Nat) (l1 : Int32) : Option (Int32 × Hp) :=
  if l1 < (1 : Int32) then (
    some ((-1 : Int32), h)
  ) else (
    if l1 ≤ (60 : Int32) then (
      lp_Tt_pump_15 tb fu h l0 l1 (0 : Int32)
    ) else (
      some ((-1 : Int32), h)
    )
  )
set_option maxRecDepth 4000 in
set_option maxHeartbeats 1000000 in
theorem vjb_Tt_pump_74 {E : En} {g : Gl} {tb : Tb} {ρ : Nat → Nat} (ok : TbOK tb) (hi : inj tb ρ) {r : Int32 × Hp} (X : CX E g tb ρ prog_1_method_20_code 4 RC0 7 174) (Y : CQ E g tb ρ (some .int) (some (.int r.1)) r.2) {c15 : Hp → Nat → Int32 → Int32 → Option (Int32 × Hp)} (H15 : ∀ (h : Hp) (l0 : Nat) (l1 : Int32) (l2 : Int32) (kl0 : kd tb l0 = 0), c15 h l0 l1 l2 = some r → V E g tb ρ 4 15 [(0, .ref (ρ l0)), (1, .int l1), (2, .int l2)] [] h) {c28 : Hp → Nat → Int32 → Int32 → Int32 → Option (Int32 × Hp)} (H28 : ∀ (h : Hp) (l0 : Nat) (l1 : Int32) (l2 : Int32) (l3 : Int32) (kl0 : kd tb l0 = 0), c28 h l0 l1 l2 l3 = some r → V E g tb ρ 4 28 [(0, .ref (ρ l0)), (1, .int l1), (2, .int l2), (3, .int l3)] [] h) (h : Hp) (l0 : Nat) (l1 : Int32) (l2 : Int32) (l3 : Int32) (kl0 : kd tb l0 = 0) (hf : jb_Tt_pump_74 tb c15 c28 h l0 l1 l2 l3 = some r) : V E g tb ρ 4 74 [(0, .ref (ρ l0)), (1, .int l1), (2, .int l2), (3, .int l3)] [] h := by
  unfold jb_Tt_pump_74 at hf
  obtain ⟨x1, ex1, hf⟩ := nmd_e hf
  refine v_iinc (pc := 74) (k := 3) (n := 1) (v := x1) (lv' := [(3, .int x1), (0, .ref (ρ l0)), (1, .int l1), (2, .int l2)]) X (by decide +kernel) 3 rfl (by rw [ic_1, ex1]) (Nat.le_of_ble_eq_true rfl) rfl ?_
  refine v_goto (pc := 77) (off := -49) (tgt := 28) X (by decide +kernel) (by decide) ?_
  refine v_sub [1, 2, 3, 0] rfl ?_
  exact H28 h l0 l1 l2 x1 kl0 hf
set_option maxRecDepth 4000 in
set_option maxHeartbeats 1000000 in
theorem vlp_Tt_pump_28 {E : En} {g : Gl} {tb : Tb} {ρ : Nat → Nat} (ok : TbOK tb) (hi : inj tb ρ) {r : Int32 × Hp} (X : CX E g tb ρ prog_1_method_20_code 4 RC0 7 174) (Y : CQ E g tb ρ (some .int) (some (.int r.1)) r.2) {c15 : Hp → Nat → Int32 → Int32 → Option (Int32 × Hp)} (H15 : ∀ (h : Hp) (l0 : Nat) (l1 : Int32) (l2 : Int32) (kl0 : kd tb l0 = 0), c15 h l0 l1 l2 = some r → V E g tb ρ 4 15 [(0, .ref (ρ l0)), (1, .int l1), (2, .int l2)] [] h) : ∀ (n : Nat) (h : Hp) (l0 : Nat) (l1 : Int32) (l2 : Int32) (l3 : Int32) (kl0 : kd tb l0 = 0), lp_Tt_pump_28 tb c15 n h l0 l1 l2 l3 = some r → V E g tb ρ 4 28 [(0, .ref (ρ l0)), (1, .int l1), (2, .int l2), (3, .int l3)] [] h := by
  intro n
  induction n with
  | zero =>
    intro h l0 l1 l2 l3 kl0 hf
    rw [lp_Tt_pump_28] at hf
    cases hf
  | succ n ih =>
    intro h l0 l1 l2 l3 kl0 hf
    rw [lp_Tt_pump_28] at hf
    refine v_iload_n (pc := 28) (k := 3) X (by decide +kernel) 3 rfl ?_
    refine v_iconst (pc := 29) (n := 1) X (by decide +kernel) ic_1 ?_
    refine v_aload_n (pc := 30) (k := 0) X (by decide +kernel) 0 rfl ?_
    refine v_geta (pc := 31) X fl_0_31 kl0 fk_0_3 (by decide +kernel) ?_
    refine v_geti (pc := 34) X fl_0_119 (ly_0_3 ok kl0) rfl (by decide +kernel) ?_
    refine v_ishl (pc := 37) X (by decide +kernel) ?_
    refine v_icmp_ge (pc := 38) (off := 42) (tgt := 80) X (by decide +kernel) (by decide) (fun q8 => ?_) (fun q8 => ?_)
    · rw [if_pos q8] at hf
      obtain ⟨x1, ex1, hf⟩ := nmd_e hf
      refine v_iinc (pc := 80) (k := 2) (n := 1) (v := x1) (lv' := [(2, .int x1), (0, .ref (ρ l0)), (1, .int l1), (3, .int l3)]) X (by decide +kernel) 2 rfl (by rw [ic_1, ex1]) (Nat.le_of_ble_eq_true rfl) rfl ?_
      refine v_goto (pc := 83) (off := -68) (tgt := 15) X (by decide +kernel) (by decide) ?_
      refine v_sub [1, 2, 0] rfl ?_
      exact H15 h l0 l1 x1 kl0 hf
    · rw [if_neg q8] at hf
      refine v_iload_n (pc := 41) (k := 3) X (by decide +kernel) 3 rfl ?_
      obtain ⟨r2, er2, hf⟩ := nmd_e hf
      refine v_callS (pc := 42) (As := [.int l3]) (rest := []) X (mt_In_bitCount ok hi er2.symm) ml_0_231 ms_In_bitCount ⟨Nat.le_of_ble_eq_true rfl, Nat.le_of_ble_eq_true rfl⟩ rfl rfl (Nat.le_of_ble_eq_true rfl) (by decide +kernel) ?_
      change V E g tb ρ 4 45 [(0, .ref (ρ l0)), (1, .int l1), (2, .int l2), (3, .int l3)] [.int r2] h
      refine v_iload_n (pc := 45) (k := 2) X (by decide +kernel) 2 rfl ?_
      refine v_icmp_ne (pc := 46) (off := 28) (tgt := 74) X (by decide +kernel) (by decide) (fun q7 => ?_) (fun q7 => ?_)
      · rw [if_neg q7] at hf
        exact vjb_Tt_pump_74 ok hi X Y H15 ih h l0 l1 l2 l3 kl0 hf
      · rw [if_pos q7] at hf
        refine v_aload_n (pc := 49) (k := 0) X (by decide +kernel) 0 rfl ?_
        refine v_geta (pc := 50) X fl_0_77 kl0 fk_0_10 (by decide +kernel) ?_
        refine v_iload_n (pc := 53) (k := 3) X (by decide +kernel) 3 rfl ?_
        obtain ⟨r3, er3, hf⟩ := bnd_e hf
        refine v_callV (pc := 54) (As := [.int l3]) (rest := []) X (mt_Fo_canHelp ok hi (ly_0_10 ok kl0) er3) ml_0_247 mv_Fo_canHelp (ly_0_10 ok kl0) cls_3 rfl ⟨Nat.le_of_ble_eq_true rfl, Nat.le_of_ble_eq_true rfl⟩ rfl rfl (Nat.le_of_ble_eq_true rfl) (by decide +kernel) ?_
        change V E g tb ρ 4 57 [(0, .ref (ρ l0)), (1, .int l1), (2, .int l2), (3, .int l3)] [.int r3.1] r3.2
        refine v_if_eq (pc := 57) (off := 17) (tgt := 74) X (by decide +kernel) (by decide) (fun q6 => ?_) (fun q6 => ?_)
        · rw [if_pos q6] at hf
          exact vjb_Tt_pump_74 ok hi X Y H15 ih r3.2 l0 l1 l2 l3 kl0 hf
        · rw [if_neg q6] at hf
          refine v_aload_n (pc := 60) (k := 0) X (by decide +kernel) 0 rfl ?_
          refine v_geta (pc := 61) X fl_0_77 kl0 fk_0_10 (by decide +kernel) ?_
          refine v_iload_n (pc := 64) (k := 3) X (by decide +kernel) 3 rfl ?_
          refine v_iload_n (pc := 65) (k := 1) X (by decide +kernel) 1 rfl ?_
          obtain ⟨r4, er4, hf⟩ := bnd_e hf
          refine v_callV (pc := 66) (As := [.int l3, .int l1]) (rest := []) X (mt_Fo_noneFalls ok hi (ly_0_10 ok kl0) er4) ml_0_250 mv_Fo_noneFalls (ly_0_10 ok kl0) cls_3 rfl ⟨Nat.le_of_ble_eq_true rfl, Nat.le_of_ble_eq_true rfl⟩ rfl rfl (Nat.le_of_ble_eq_true rfl) (by decide +kernel) ?_
          change V E g tb ρ 4 69 [(0, .ref (ρ l0)), (1, .int l1), (2, .int l2), (3, .int l3)] [.int r4.1] r4.2
          refine v_if_eq (pc := 69) (off := 5) (tgt := 74) X (by decide +kernel) (by decide) (fun q5 => ?_) (fun q5 => ?_)
          · rw [if_pos q5] at hf
            exact vjb_Tt_pump_74 ok hi X Y H15 ih r4.2 l0 l1 l2 l3 kl0 hf
          · rw [if_neg q5] at hf
            refine v_iload_n (pc := 72) (k := 3) X (by decide +kernel) 3 rfl ?_
            cases hf
            exact v_iret X Y (by decide +kernel) rfl rfl
set_option maxRecDepth 4000 in
set_option maxHeartbeats 1000000 in
theorem vlp_Tt_pump_15 {E : En} {g : Gl} {tb : Tb} {ρ : Nat → Nat} (ok : TbOK tb) (hi : inj tb ρ) {r : Int32 × Hp} (X : CX E g tb ρ prog_1_method_20_code 4 RC0 7 174) (Y : CQ E g tb ρ (some .int) (some (.int r.1)) r.2) : ∀ (n : Nat) (h : Hp) (l0 : Nat) (l1 : Int32) (l2 : Int32) (kl0 : kd tb l0 = 0), lp_Tt_pump_15 tb n h l0 l1 l2 = some r → V E g tb ρ 4 15 [(0, .ref (ρ l0)), (1, .int l1), (2, .int l2)] [] h := by
  intro n
  induction n with
  | zero =>
    intro h l0 l1 l2 kl0 hf
    rw [lp_Tt_pump_15] at hf
    cases hf
  | succ n ih =>
    intro h l0 l1 l2 kl0 hf
    rw [lp_Tt_pump_15] at hf
    refine v_iload_n (pc := 15) (k := 2) X (by decide +kernel) 2 rfl ?_
    refine v_aload_n (pc := 16) (k := 0) X (by decide +kernel) 0 rfl ?_
    refine v_geta (pc := 17) X fl_0_31 kl0 fk_0_3 (by decide +kernel) ?_
    refine v_geti (pc := 20) X fl_0_119 (ly_0_3 ok kl0) rfl (by decide +kernel) ?_
    refine v_icmp_gt (pc := 23) (off := 63) (tgt := 86) X (by decide +kernel) (by decide) (fun q1 => ?_) (fun q1 => ?_)
    · rw [if_pos q1] at hf
      refine v_bipush (pc := 86) (n := -2) X (by decide +kernel) bi_m2 ?_
      cases hf
      exact v_iret X Y (by decide +kernel) rfl rfl
    · rw [if_neg q1] at hf
      refine v_iconst (pc := 26) (n := 0) X (by decide +kernel) ic_0 ?_
      refine v_istore_n (pc := 27) (k := 3) (lv' := [(3, .int (0 : Int32)), (0, .ref (ρ l0)), (1, .int l1), (2, .int l2)]) X (by decide +kernel) (Nat.le_of_ble_eq_true rfl) rfl ?_
      refine v_sub [1, 2, 3, 0] rfl ?_
      exact vlp_Tt_pump_28 ok hi X Y ih fu h l0 l1 l2 (0 : Int32) kl0 hf
set_option maxRecDepth 4000 in
set_option maxHeartbeats 1000000 in
theorem mt_Tt_pump {g : Gl} {tb : Tb} {ρ : Nat → Nat} (ok : TbOK tb) (hi : inj tb ρ) {h : Hp} {l0 : Nat} {l1 : Int32} (kl0 : kd tb l0 = 0) {r : Int32 × Hp} (hf : f_Tt_pump tb h l0 l1 = some r) : MT g y_Tt_pump prog_1_method_20_code 4 (some .int) 7 174 tb ρ [.ref (ρ l0), .int l1] h (some (.int r.1)) r.2 := by
  refine mt_intro (by decide +kernel) ok hi (Nat.le_of_ble_eq_true rfl) (fun E X Y => ?_)
  change V E g tb ρ 4 0 [(0, .ref (ρ l0)), (1, .int l1)] [] h
  unfold f_Tt_pump at hf
  refine v_iload_n (pc := 0) (k := 1) X (by decide +kernel) 1 rfl ?_
  refine v_iconst (pc := 1) (n := 1) X (by decide +kernel) ic_1 ?_
  refine v_icmp_lt (pc := 2) (off := 9) (tgt := 11) X (by decide +kernel) (by decide) (fun q2 => ?_) (fun q2 => ?_)
  · rw [if_pos q2] at hf
    refine v_iconst (pc := 11) (n := -1) X (by decide +kernel) ic_m1 ?_
    cases hf
    exact v_iret X Y (by decide +kernel) rfl rfl
  · rw [if_neg q2] at hf
    refine v_iload_n (pc := 5) (k := 1) X (by decide +kernel) 1 rfl ?_
    refine v_bipush (pc := 6) (n := 60) X (by decide +kernel) bi_60 ?_
    refine v_icmp_le (pc := 8) (off := 5) (tgt := 13) X (by decide +kernel) (by decide) (fun q1 => ?_) (fun q1 => ?_)
    · rw [if_pos q1] at hf
      refine v_iconst (pc := 13) (n := 0) X (by decide +kernel) ic_0 ?_
      refine v_istore_n (pc := 14) (k := 2) (lv' := [(2, .int (0 : Int32)), (0, .ref (ρ l0)), (1, .int l1)]) X (by decide +kernel) (Nat.le_of_ble_eq_true rfl) rfl ?_
      refine v_sub [1, 2, 0] rfl ?_
      exact vlp_Tt_pump_15 ok hi X Y fu h l0 l1 (0 : Int32) kl0 hf
    · rw [if_neg q1] at hf
      refine v_iconst (pc := 11) (n := -1) X (by decide +kernel) ic_m1 ?_
      cases hf
      exact v_iret X Y (by decide +kernel) rfl rfl
def f_Pl_hoursFor (tb : Tb) (h : Hp) (l0 : Nat) (l1 : Int32) (l2 : Int32) : Option (Int32) :=
  (rI tb h (lay tb l0 15) l1).bind fun x1 =>
  nmd (mxI (1 : Int32) x1) fun x2 =>
  (dI ((l2 + x2) - (1 : Int32)) x2).bind fun x3 =>
  some x3
set_option maxRecDepth 4000 in
set_option maxHeartbeats 1000000 in
theorem mt_Pl_hoursFor {g : Gl} {tb : Tb} {ρ : Nat → Nat} (ok : TbOK tb) (hi : inj tb ρ) {h : Hp} {l0 : Nat} {l1 : Int32} {l2 : Int32} (kl0 : kd tb l0 = 7) {r : Int32} (hf : f_Pl_hoursFor tb h l0 l1 l2 = some r) : MT g y_Pl_hoursFor prog_8_method_8_code 4 (some .int) 1 13 tb ρ [.ref (ρ l0), .int l1, .int l2] h (some (.int r)) h := by
  refine mt_intro (by decide +kernel) ok hi (Nat.le_of_ble_eq_true rfl) (fun E X Y => ?_)
  change V E g tb ρ 4 0 [(0, .ref (ρ l0)), (1, .int l1), (2, .int l2)] [] h
  unfold f_Pl_hoursFor at hf
  refine v_iconst (pc := 0) (n := 1) X (by decide +kernel) ic_1 ?_
  refine v_aload_n (pc := 1) (k := 0) X (by decide +kernel) 0 rfl ?_
  refine v_geta (pc := 2) X fl_7_39 kl0 fk_7_15 (by decide +kernel) ?_
  refine v_iload_n (pc := 5) (k := 1) X (by decide +kernel) 1 rfl ?_
  obtain ⟨x1, ex1, hf⟩ := bnd_e hf
  refine v_iald (pc := 6) X (ly_7_15 ok kl0) ex1 (by decide +kernel) ?_
  refine v_mmax (pc := 7) X mm_7_104 ms_mmax mc_mmax mi_math ⟨Nat.le_of_ble_eq_true rfl, Nat.le_of_ble_eq_true rfl⟩ (by decide +kernel) ?_
  obtain ⟨x2, ex2, hf⟩ := nmd_e hf
  refine v_nmi ex2 ?_
  refine v_istore_n (pc := 10) (k := 3) (lv' := [(3, .int x2), (0, .ref (ρ l0)), (1, .int l1), (2, .int l2)]) X (by decide +kernel) (Nat.le_of_ble_eq_true rfl) rfl ?_
  refine v_iload_n (pc := 11) (k := 2) X (by decide +kernel) 3 rfl ?_
  refine v_iload_n (pc := 12) (k := 3) X (by decide +kernel) 0 rfl ?_
  refine v_iadd (pc := 13) X (by decide +kernel) ?_
  refine v_iconst (pc := 14) (n := 1) X (by decide +kernel) ic_1 ?_
  refine v_isub (pc := 15) X (by decide +kernel) ?_
  refine v_iload_n (pc := 16) (k := 3) X (by decide +kernel) 0 rfl ?_
  obtain ⟨x3, ex3, hf⟩ := bnd_e hf
  refine v_idiv (pc := 17) X ex3 (by decide +kernel) ?_
  cases hf
  exact v_iret X Y (by decide +kernel) rfl rfl
def f_Cn_thirstBehind (tb : Tb) (h : Hp) (l0 : Nat) (l1 : Int32) (l2 : Int32) (l3 : Int32) (l4 : Int32) : Option (Int32) :=
  (rI tb h (lay tb (lay tb l0 0) 7) l4).bind fun x1 =>
  (f_Pl_hoursFor tb h (lay tb l0 0) l1 (abI (x1 - l3))).bind fun r2 =>
  some (l2 + r2)
set_option maxRecDepth 4000 in
set_option maxHeartbeats 1000000 in
theorem mt_Cn_thirstBehind {g : Gl} {tb : Tb} {ρ : Nat → Nat} (ok : TbOK tb) (hi : inj tb ρ) {h : Hp} {l0 : Nat} {l1 : Int32} {l2 : Int32} {l3 : Int32} {l4 : Int32} (kl0 : kd tb l0 = 1) {r : Int32} (hf : f_Cn_thirstBehind tb h l0 l1 l2 l3 l4 = some r) : MT g y_Cn_thirstBehind prog_2_method_2_code 5 (some .int) 2 36 tb ρ [.ref (ρ l0), .int l1, .int l2, .int l3, .int l4] h (some (.int r)) h := by
  refine mt_intro (by decide +kernel) ok hi (Nat.le_of_ble_eq_true rfl) (fun E X Y => ?_)
  change V E g tb ρ 5 0 [(0, .ref (ρ l0)), (1, .int l1), (2, .int l2), (3, .int l3), (4, .int l4)] [] h
  unfold f_Cn_thirstBehind at hf
  refine v_iload_n (pc := 0) (k := 2) X (by decide +kernel) 2 rfl ?_
  refine v_aload_n (pc := 1) (k := 0) X (by decide +kernel) 0 rfl ?_
  refine v_geta (pc := 2) X fl_1_18 kl0 fk_1_0 (by decide +kernel) ?_
  refine v_iload_n (pc := 5) (k := 1) X (by decide +kernel) 1 rfl ?_
  refine v_aload_n (pc := 6) (k := 0) X (by decide +kernel) 0 rfl ?_
  refine v_geta (pc := 7) X fl_1_18 kl0 fk_1_0 (by decide +kernel) ?_
  refine v_geta (pc := 10) X fl_1_26 (ly_1_0 ok kl0) fk_7_7 (by decide +kernel) ?_
  refine v_iload (pc := 13) (k := 4) X (by decide +kernel) 4 rfl ?_
  obtain ⟨x1, ex1, hf⟩ := bnd_e hf
  refine v_iald (pc := 15) X (ly_7_7 ok (ly_1_0 ok kl0)) ex1 (by decide +kernel) ?_
  refine v_iload_n (pc := 16) (k := 3) X (by decide +kernel) 3 rfl ?_
  refine v_isub (pc := 17) X (by decide +kernel) ?_
  refine v_mabs (pc := 18) X mm_1_31 ms_mabs mc_mabs mi_math ⟨Nat.le_of_ble_eq_true rfl, Nat.le_of_ble_eq_true rfl⟩ (by decide +kernel) ?_
  obtain ⟨r2, er2, hf⟩ := bnd_e hf
  refine v_callV (pc := 21) (As := [.int l1, .int (abI (x1 - l3))]) (rest := [.int l2]) X (mt_Pl_hoursFor ok hi (ly_1_0 ok kl0) er2) ml_1_37 mv_Pl_hoursFor (ly_1_0 ok kl0) cls_7 rfl ⟨Nat.le_of_ble_eq_true rfl, Nat.le_of_ble_eq_true rfl⟩ rfl rfl (Nat.le_of_ble_eq_true rfl) (by decide +kernel) ?_
  change V E g tb ρ 5 24 [(0, .ref (ρ l0)), (1, .int l1), (2, .int l2), (3, .int l3), (4, .int l4)] [.int r2, .int l2] h
  refine v_iadd (pc := 24) X (by decide +kernel) ?_
  cases hf
  exact v_iret X Y (by decide +kernel) rfl rfl
def jb_Cn_legsFrom_73 (tb : Tb) (c3 : Hp → Nat → Int32 → Int32 → Int32 → Int32 → Option (Hp)) (h : Hp) (l0 : Nat) (l1 : Int32) (l2 : Int32) (l3 : Int32) (l4 : Int32) : Option (Hp) :=
  nmd (l4 + (1 : Int32)) fun x1 =>
  c3 h l0 l1 l2 l3 x1
def jb_Cn_legsFrom_52 (tb : Tb) (c3 : Hp → Nat → Int32 → Int32 → Int32 → Int32 → Option (Hp)) (h : Hp) (l0 : Nat) (l1 : Int32) (l2 : Int32) (l3 : Int32) (l4 : Int32) (s0 : Int32) : Option (Hp) :=
  (rI tb h (lay tb l0 3) l4).bind fun x1 =>
  (wI tb h (lay tb l0 3) l4 (mnI x1 s0)).bind fun h2 =>
  jb_Cn_legsFrom_73 tb c3 h2 l0 l1 l2 l3 l4
def lp_Cn_legsFrom_3 (tb : Tb) : Nat → Hp → Nat → Int32 → Int32 → Int32 → Int32 → Option (Hp)
  | 0, _, _, _, _, _, _ => none
  | n + 1, h, l0, l1, l2, l3, l4 =>
    if (h.1 (lay tb l0 0) 3) ≤ l4 then (
      some h
    ) else (
      (f_Cn_thirstBehind tb h l0 l1 l2 l3 l4).bind fun r1 =>
      if (100 : Int32) ≤ r1 then (
        jb_Cn_legsFrom_73 tb (lp_Cn_legsFrom_3 tb n) h l0 l1 l2 l3 l4
      ) else (
        (rI tb h (lay tb (lay tb l0 1) 14) l4).bind fun x2 =>
        if x2 ≤ (0 : Int32) then (
          jb_Cn_legsFrom_52 tb (lp_Cn_legsFrom_3 tb n) h l0 l1 l2 l3 l4 r1
        ) else (
          jb_Cn_legsFrom_52 tb (lp_Cn_legsFrom_3 tb n) h l0 l1 l2 l3 l4 (0 : Int32)
        )
      )
    )
def f_Cn_legsFrom (tb : Tb) (h : Hp) (l0 : Nat) (l1 : Int32) (l2 : Int32) (l3 : Int32) : Option (Hp) :=
  lp_Cn_legsFrom_3 tb fu h l0 l1 l2 l3 (0 : Int32)
set_option maxRecDepth 4000 in
set_option maxHeartbeats 1000000 in
theorem vjb_Cn_legsFrom_73 {E : En} {g : Gl} {tb : Tb} {ρ : Nat → Nat} (ok : TbOK tb) (hi : inj tb ρ) {r : Hp} (X : CX E g tb ρ prog_2_method_5_code 7 RC1 3 60) (Y : CQ E g tb ρ none (none) r) {c3 : Hp → Nat → Int32 → Int32 → Int32 → Int32 → Option (Hp)} (H3 : ∀ (h : Hp) (l0 : Nat) (l1 : Int32) (l2 : Int32) (l3 : Int32) (l4 : Int32) (kl0 : kd tb l0 = 1), c3 h l0 l1 l2 l3 l4 = some r → V E g tb ρ 7 3 [(0, .ref (ρ l0)), (1, .int l1), (2, .int l2), (3, .int l3), (4, .int l4)] [] h) (h : Hp) (l0 : Nat) (l1 : Int32) (l2 : Int32) (l3 : Int32) (l4 : Int32) (kl0 : kd tb l0 = 1) (hf : jb_Cn_legsFrom_73 tb c3 h l0 l1 l2 l3 l4 = some r) : V E g tb ρ 7 73 [(0, .ref (ρ l0)), (1, .int l1), (2, .int l2), (3, .int l3), (4, .int l4)] [] h := by
  unfold jb_Cn_legsFrom_73 at hf
  obtain ⟨x1, ex1, hf⟩ := nmd_e hf
  refine v_iinc (pc := 73) (k := 4) (n := 1) (v := x1) (lv' := [(4, .int x1), (0, .ref (ρ l0)), (1, .int l1), (2, .int l2), (3, .int l3)]) X (by decide +kernel) 4 rfl (by rw [ic_1, ex1]) (Nat.le_of_ble_eq_true rfl) rfl ?_
  refine v_goto (pc := 76) (off := -73) (tgt := 3) X (by decide +kernel) (by decide) ?_
  refine v_sub [1, 2, 3, 4, 0] rfl ?_
  exact H3 h l0 l1 l2 l3 x1 kl0 hf
set_option maxRecDepth 4000 in
set_option maxHeartbeats 1000000 in
theorem vjb_Cn_legsFrom_52 {E : En} {g : Gl} {tb : Tb} {ρ : Nat → Nat} (ok : TbOK tb) (hi : inj tb ρ) {r : Hp} (X : CX E g tb ρ prog_2_method_5_code 7 RC1 3 60) (Y : CQ E g tb ρ none (none) r) {c3 : Hp → Nat → Int32 → Int32 → Int32 → Int32 → Option (Hp)} (H3 : ∀ (h : Hp) (l0 : Nat) (l1 : Int32) (l2 : Int32) (l3 : Int32) (l4 : Int32) (kl0 : kd tb l0 = 1), c3 h l0 l1 l2 l3 l4 = some r → V E g tb ρ 7 3 [(0, .ref (ρ l0)), (1, .int l1), (2, .int l2), (3, .int l3), (4, .int l4)] [] h) (h : Hp) (l0 : Nat) (l1 : Int32) (l2 : Int32) (l3 : Int32) (l4 : Int32) (s0 : Int32) (kl0 : kd tb l0 = 1) (hf : jb_Cn_legsFrom_52 tb c3 h l0 l1 l2 l3 l4 s0 = some r) : V E g tb ρ 7 52 [(0, .ref (ρ l0)), (1, .int l1), (2, .int l2), (3, .int l3), (4, .int l4)] [.int s0] h := by
  unfold jb_Cn_legsFrom_52 at hf
  refine v_istore (pc := 52) (k := 6) (lv' := [(6, .int s0), (0, .ref (ρ l0)), (1, .int l1), (2, .int l2), (3, .int l3), (4, .int l4)]) X (by decide +kernel) (Nat.le_of_ble_eq_true rfl) rfl ?_
  refine v_aload_n (pc := 54) (k := 0) X (by decide +kernel) 1 rfl ?_
  refine v_geta (pc := 55) X fl_1_15 kl0 fk_1_3 (by decide +kernel) ?_
  refine v_iload (pc := 58) (k := 4) X (by decide +kernel) 5 rfl ?_
  refine v_aload_n (pc := 60) (k := 0) X (by decide +kernel) 1 rfl ?_
  refine v_geta (pc := 61) X fl_1_15 kl0 fk_1_3 (by decide +kernel) ?_
  refine v_iload (pc := 64) (k := 4) X (by decide +kernel) 5 rfl ?_
  obtain ⟨x1, ex1, hf⟩ := bnd_e hf
  refine v_iald (pc := 66) X (ly_1_3 ok kl0) ex1 (by decide +kernel) ?_
  refine v_iload (pc := 67) (k := 6) X (by decide +kernel) 0 rfl ?_
  refine v_mmin (pc := 69) X mm_1_74 ms_mmin mc_mmin mi_math ⟨Nat.le_of_ble_eq_true rfl, Nat.le_of_ble_eq_true rfl⟩ (by decide +kernel) ?_
  obtain ⟨h2, eh2, hf⟩ := bnd_e hf
  refine v_iast (pc := 72) X (ly_1_3 ok kl0) eh2 (by decide +kernel) ?_
  refine v_sub [1, 2, 3, 4, 5] rfl ?_
  exact vjb_Cn_legsFrom_73 ok hi X Y H3 h2 l0 l1 l2 l3 l4 kl0 hf
set_option maxRecDepth 4000 in
set_option maxHeartbeats 1000000 in
theorem vlp_Cn_legsFrom_3 {E : En} {g : Gl} {tb : Tb} {ρ : Nat → Nat} (ok : TbOK tb) (hi : inj tb ρ) {r : Hp} (X : CX E g tb ρ prog_2_method_5_code 7 RC1 3 60) (Y : CQ E g tb ρ none (none) r) : ∀ (n : Nat) (h : Hp) (l0 : Nat) (l1 : Int32) (l2 : Int32) (l3 : Int32) (l4 : Int32) (kl0 : kd tb l0 = 1), lp_Cn_legsFrom_3 tb n h l0 l1 l2 l3 l4 = some r → V E g tb ρ 7 3 [(0, .ref (ρ l0)), (1, .int l1), (2, .int l2), (3, .int l3), (4, .int l4)] [] h := by
  intro n
  induction n with
  | zero =>
    intro h l0 l1 l2 l3 l4 kl0 hf
    rw [lp_Cn_legsFrom_3] at hf
    cases hf
  | succ n ih =>
    intro h l0 l1 l2 l3 l4 kl0 hf
    rw [lp_Cn_legsFrom_3] at hf
    refine v_iload (pc := 3) (k := 4) X (by decide +kernel) 4 rfl ?_
    refine v_aload_n (pc := 5) (k := 0) X (by decide +kernel) 0 rfl ?_
    refine v_geta (pc := 6) X fl_1_18 kl0 fk_1_0 (by decide +kernel) ?_
    refine v_geti (pc := 9) X fl_1_41 (ly_1_0 ok kl0) rfl (by decide +kernel) ?_
    refine v_icmp_ge (pc := 12) (off := 67) (tgt := 79) X (by decide +kernel) (by decide) (fun q5 => ?_) (fun q5 => ?_)
    · rw [if_pos q5] at hf
      cases hf
      exact v_vret X Y (by decide +kernel) rfl rfl
    · rw [if_neg q5] at hf
      refine v_aload_n (pc := 15) (k := 0) X (by decide +kernel) 0 rfl ?_
      refine v_iload_n (pc := 16) (k := 1) X (by decide +kernel) 1 rfl ?_
      refine v_iload_n (pc := 17) (k := 2) X (by decide +kernel) 2 rfl ?_
      refine v_iload_n (pc := 18) (k := 3) X (by decide +kernel) 3 rfl ?_
      refine v_iload (pc := 19) (k := 4) X (by decide +kernel) 4 rfl ?_
      obtain ⟨r1, er1, hf⟩ := bnd_e hf
      refine v_callV (pc := 21) (As := [.int l1, .int l2, .int l3, .int l4]) (rest := []) X (mt_Cn_thirstBehind ok hi kl0 er1) ml_1_53 mv_Cn_thirstBehind kl0 cls_1 rfl ⟨Nat.le_of_ble_eq_true rfl, Nat.le_of_ble_eq_true rfl⟩ rfl rfl (Nat.le_of_ble_eq_true rfl) (by decide +kernel) ?_
      change V E g tb ρ 7 24 [(0, .ref (ρ l0)), (1, .int l1), (2, .int l2), (3, .int l3), (4, .int l4)] [.int r1] h
      refine v_istore (pc := 24) (k := 5) (lv' := [(5, .int r1), (0, .ref (ρ l0)), (1, .int l1), (2, .int l2), (3, .int l3), (4, .int l4)]) X (by decide +kernel) (Nat.le_of_ble_eq_true rfl) rfl ?_
      refine v_iload (pc := 26) (k := 5) X (by decide +kernel) 0 rfl ?_
      refine v_bipush (pc := 28) (n := 100) X (by decide +kernel) bi_100 ?_
      refine v_icmp_ge (pc := 30) (off := 43) (tgt := 73) X (by decide +kernel) (by decide) (fun q4 => ?_) (fun q4 => ?_)
      · rw [if_pos q4] at hf
        refine v_sub [1, 2, 3, 4, 5] rfl ?_
        exact vjb_Cn_legsFrom_73 ok hi X Y ih h l0 l1 l2 l3 l4 kl0 hf
      · rw [if_neg q4] at hf
        refine v_aload_n (pc := 33) (k := 0) X (by decide +kernel) 1 rfl ?_
        refine v_geta (pc := 34) X fl_1_22 kl0 fk_1_1 (by decide +kernel) ?_
        refine v_geta (pc := 37) X fl_1_71 (ly_1_1 ok kl0) fk_11_14 (by decide +kernel) ?_
        refine v_iload (pc := 40) (k := 4) X (by decide +kernel) 5 rfl ?_
        obtain ⟨x2, ex2, hf⟩ := bnd_e hf
        refine v_iald (pc := 42) X (ly_11_14 ok (ly_1_1 ok kl0)) ex2 (by decide +kernel) ?_
        refine v_if_le (pc := 43) (off := 7) (tgt := 50) X (by decide +kernel) (by decide) (fun q3 => ?_) (fun q3 => ?_)
        · rw [if_pos q3] at hf
          refine v_iload (pc := 50) (k := 5) X (by decide +kernel) 0 rfl ?_
          refine v_sub [1, 2, 3, 4, 5] rfl ?_
          exact vjb_Cn_legsFrom_52 ok hi X Y ih h l0 l1 l2 l3 l4 r1 kl0 hf
        · rw [if_neg q3] at hf
          refine v_iconst (pc := 46) (n := 0) X (by decide +kernel) ic_0 ?_
          refine v_goto (pc := 47) (off := 5) (tgt := 52) X (by decide +kernel) (by decide) ?_
          refine v_sub [1, 2, 3, 4, 5] rfl ?_
          exact vjb_Cn_legsFrom_52 ok hi X Y ih h l0 l1 l2 l3 l4 (0 : Int32) kl0 hf
set_option maxRecDepth 4000 in
set_option maxHeartbeats 1000000 in
theorem mt_Cn_legsFrom {g : Gl} {tb : Tb} {ρ : Nat → Nat} (ok : TbOK tb) (hi : inj tb ρ) {h : Hp} {l0 : Nat} {l1 : Int32} {l2 : Int32} {l3 : Int32} (kl0 : kd tb l0 = 1) {r : Hp} (hf : f_Cn_legsFrom tb h l0 l1 l2 l3 = some r) : MT g y_Cn_legsFrom prog_2_method_5_code 7 none 3 60 tb ρ [.ref (ρ l0), .int l1, .int l2, .int l3] h (none) r := by
  refine mt_intro (by decide +kernel) ok hi (Nat.le_of_ble_eq_true rfl) (fun E X Y => ?_)
  change V E g tb ρ 7 0 [(0, .ref (ρ l0)), (1, .int l1), (2, .int l2), (3, .int l3)] [] h
  unfold f_Cn_legsFrom at hf
  refine v_iconst (pc := 0) (n := 0) X (by decide +kernel) ic_0 ?_
  refine v_istore (pc := 1) (k := 4) (lv' := [(4, .int (0 : Int32)), (0, .ref (ρ l0)), (1, .int l1), (2, .int l2), (3, .int l3)]) X (by decide +kernel) (Nat.le_of_ble_eq_true rfl) rfl ?_
  refine v_sub [1, 2, 3, 4, 0] rfl ?_
  exact vlp_Cn_legsFrom_3 ok hi X Y fu h l0 l1 l2 l3 (0 : Int32) kl0 hf
def jb_Cn_fewestLegs_136 (tb : Tb) (c57 : Hp → Nat → Int32 → Int32 → Int32 → Option (Int32 × Hp)) (c90 : Hp → Nat → Int32 → Int32 → Int32 → Int32 → Option (Int32 × Hp)) (h : Hp) (l0 : Nat) (l1 : Int32) (l2 : Int32) (l3 : Int32) (l4 : Int32) : Option (Int32 × Hp) :=
  nmd (l4 + (1 : Int32)) fun x1 =>
  c90 h l0 l1 l2 l3 x1
def lp_Cn_fewestLegs_90 (tb : Tb) (c57 : Hp → Nat → Int32 → Int32 → Int32 → Option (Int32 × Hp)) : Nat → Hp → Nat → Int32 → Int32 → Int32 → Int32 → Option (Int32 × Hp)
  | 0, _, _, _, _, _, _ => none
  | n + 1, h, l0, l1, l2, l3, l4 =>
    if (h.1 (lay tb l0 0) 3) ≤ l4 then (
      nmd (l3 + (1 : Int32)) fun x1 =>
      c57 h l0 l1 l2 x1
    ) else (
      (rI tb h (lay tb l0 2) l4).bind fun x2 =>
      if (100 : Int32) ≤ x2 then (
        jb_Cn_fewestLegs_136 tb c57 (lp_Cn_fewestLegs_90 tb c57 n) h l0 l1 l2 l3 l4
      ) else (
        (rI tb h (lay tb l0 2) l4).bind fun x3 =>
        (rI tb h (lay tb (lay tb l0 0) 7) l4).bind fun x4 =>
        (f_Cn_legsFrom tb h l0 l1 x3 x4).bind fun r5 =>
        jb_Cn_fewestLegs_136 tb c57 (lp_Cn_fewestLegs_90 tb c57 n) r5 l0 l1 l2 l3 l4
      )
    )
def lp_Cn_fewestLegs_57 (tb : Tb) : Nat → Hp → Nat → Int32 → Int32 → Int32 → Option (Int32 × Hp)
  | 0, _, _, _, _, _ => none
  | n + 1, h, l0, l1, l2, l3 =>
    if (6 : Int32) < l3 then (
      some ((-2 : Int32), h)
    ) else (
      (rI tb h (lay tb l0 3) l2).bind fun x1 =>
      if (100 : Int32) ≤ x1 then (
        (f_Tt_copy tb h (lay tb l0 3) (lay tb l0 2)).bind fun r2 =>
        lp_Cn_fewestLegs_90 tb (lp_Cn_fewestLegs_57 tb n) fu r2 l0 l1 l2 l3 (0 : Int32)
      ) else (
        some (l3, h)
      )
    )
def f_Cn_fewestLegs (tb : Tb) (h : Hp) (l0 : Nat) (l1 : Int32) (l2 : Int32) : Option (Int32 × Hp) :=
  (rI tb h (lay tb (lay tb l0 1) 9) l1).bind fun x1 =>
  (rI tb h (lay tb (lay tb l0 0) 7) l2).bind fun x2 =>
  if x1 = x2 then (
    some ((0 : Int32), h)
  ) else (
    (f_Ar_fill tb h (lay tb l0 3) (100 : Int32)).bind fun r3 =>
    (rI tb r3 (lay tb (lay tb l0 1) 10) l1).bind fun x4 =>
    (rI tb r3 (lay tb (lay tb l0 1) 9) l1).bind fun x5 =>
    (f_Cn_legsFrom tb r3 l0 l1 x4 x5).bind fun r6 =>
    lp_Cn_fewestLegs_57 tb fu r6 l0 l1 l2 (1 : Int32)
  )
set_option maxRecDepth 4000 in
set_option maxHeartbeats 1000000 in
theorem vjb_Cn_fewestLegs_136 {E : En} {g : Gl} {tb : Tb} {ρ : Nat → Nat} (ok : TbOK tb) (hi : inj tb ρ) {r : Int32 × Hp} (X : CX E g tb ρ prog_2_method_4_code 5 RC1 4 86) (Y : CQ E g tb ρ (some .int) (some (.int r.1)) r.2) {c57 : Hp → Nat → Int32 → Int32 → Int32 → Option (Int32 × Hp)} (H57 : ∀ (h : Hp) (l0 : Nat) (l1 : Int32) (l2 : Int32) (l3 : Int32) (kl0 : kd tb l0 = 1), c57 h l0 l1 l2 l3 = some r → V E g tb ρ 5 57 [(0, .ref (ρ l0)), (1, .int l1), (2, .int l2), (3, .int l3)] [] h) {c90 : Hp → Nat → Int32 → Int32 → Int32 → Int32 → Option (Int32 × Hp)} (H90 : ∀ (h : Hp) (l0 : Nat) (l1 : Int32) (l2 : Int32) (l3 : Int32) (l4 : Int32) (kl0 : kd tb l0 = 1), c90 h l0 l1 l2 l3 l4 = some r → V E g tb ρ 5 90 [(0, .ref (ρ l0)), (1, .int l1), (2, .int l2), (3, .int l3), (4, .int l4)] [] h) (h : Hp) (l0 : Nat) (l1 : Int32) (l2 : Int32) (l3 : Int32) (l4 : Int32) (kl0 : kd tb l0 = 1) (hf : jb_Cn_fewestLegs_136 tb c57 c90 h l0 l1 l2 l3 l4 = some r) : V E g tb ρ 5 136 [(0, .ref (ρ l0)), (1, .int l1), (2, .int l2), (3, .int l3), (4, .int l4)] [] h := by
  unfold jb_Cn_fewestLegs_136 at hf
  obtain ⟨x1, ex1, hf⟩ := nmd_e hf
  refine v_iinc (pc := 136) (k := 4) (n := 1) (v := x1) (lv' := [(4, .int x1), (0, .ref (ρ l0)), (1, .int l1), (2, .int l2), (3, .int l3)]) X (by decide +kernel) 4 rfl (by rw [ic_1, ex1]) (Nat.le_of_ble_eq_true rfl) rfl ?_
  refine v_goto (pc := 139) (off := -49) (tgt := 90) X (by decide +kernel) (by decide) ?_
  refine v_sub [1, 2, 3, 4, 0] rfl ?_
  exact H90 h l0 l1 l2 l3 x1 kl0 hf
set_option maxRecDepth 4000 in
set_option maxHeartbeats 1000000 in
theorem vlp_Cn_fewestLegs_90 {E : En} {g : Gl} {tb : Tb} {ρ : Nat → Nat} (ok : TbOK tb) (hi : inj tb ρ) {r : Int32 × Hp} (X : CX E g tb ρ prog_2_method_4_code 5 RC1 4 86) (Y : CQ E g tb ρ (some .int) (some (.int r.1)) r.2) {c57 : Hp → Nat → Int32 → Int32 → Int32 → Option (Int32 × Hp)} (H57 : ∀ (h : Hp) (l0 : Nat) (l1 : Int32) (l2 : Int32) (l3 : Int32) (kl0 : kd tb l0 = 1), c57 h l0 l1 l2 l3 = some r → V E g tb ρ 5 57 [(0, .ref (ρ l0)), (1, .int l1), (2, .int l2), (3, .int l3)] [] h) : ∀ (n : Nat) (h : Hp) (l0 : Nat) (l1 : Int32) (l2 : Int32) (l3 : Int32) (l4 : Int32) (kl0 : kd tb l0 = 1), lp_Cn_fewestLegs_90 tb c57 n h l0 l1 l2 l3 l4 = some r → V E g tb ρ 5 90 [(0, .ref (ρ l0)), (1, .int l1), (2, .int l2), (3, .int l3), (4, .int l4)] [] h := by
  intro n
  induction n with
  | zero =>
    intro h l0 l1 l2 l3 l4 kl0 hf
    rw [lp_Cn_fewestLegs_90] at hf
    cases hf
  | succ n ih =>
    intro h l0 l1 l2 l3 l4 kl0 hf
    rw [lp_Cn_fewestLegs_90] at hf
    refine v_iload (pc := 90) (k := 4) X (by decide +kernel) 4 rfl ?_
    refine v_aload_n (pc := 92) (k := 0) X (by decide +kernel) 0 rfl ?_
    refine v_geta (pc := 93) X fl_1_18 kl0 fk_1_0 (by decide +kernel) ?_
    refine v_geti (pc := 96) X fl_1_41 (ly_1_0 ok kl0) rfl (by decide +kernel) ?_
    refine v_icmp_ge (pc := 99) (off := 43) (tgt := 142) X (by decide +kernel) (by decide) (fun q7 => ?_) (fun q7 => ?_)
    · rw [if_pos q7] at hf
      obtain ⟨x1, ex1, hf⟩ := nmd_e hf
      refine v_iinc (pc := 142) (k := 3) (n := 1) (v := x1) (lv' := [(3, .int x1), (0, .ref (ρ l0)), (1, .int l1), (2, .int l2), (4, .int l4)]) X (by decide +kernel) 3 rfl (by rw [ic_1, ex1]) (Nat.le_of_ble_eq_true rfl) rfl ?_
      refine v_goto (pc := 145) (off := -88) (tgt := 57) X (by decide +kernel) (by decide) ?_
      refine v_sub [1, 2, 3, 0] rfl ?_
      exact H57 h l0 l1 l2 x1 kl0 hf
    · rw [if_neg q7] at hf
      refine v_aload_n (pc := 102) (k := 0) X (by decide +kernel) 0 rfl ?_
      refine v_geta (pc := 103) X fl_1_9 kl0 fk_1_2 (by decide +kernel) ?_
      refine v_iload (pc := 106) (k := 4) X (by decide +kernel) 4 rfl ?_
      obtain ⟨x2, ex2, hf⟩ := bnd_e hf
      refine v_iald (pc := 108) X (ly_1_2 ok kl0) ex2 (by decide +kernel) ?_
      refine v_bipush (pc := 109) (n := 100) X (by decide +kernel) bi_100 ?_
      refine v_icmp_ge (pc := 111) (off := 25) (tgt := 136) X (by decide +kernel) (by decide) (fun q6 => ?_) (fun q6 => ?_)
      · rw [if_pos q6] at hf
        exact vjb_Cn_fewestLegs_136 ok hi X Y H57 ih h l0 l1 l2 l3 l4 kl0 hf
      · rw [if_neg q6] at hf
        refine v_aload_n (pc := 114) (k := 0) X (by decide +kernel) 0 rfl ?_
        refine v_iload_n (pc := 115) (k := 1) X (by decide +kernel) 1 rfl ?_
        refine v_aload_n (pc := 116) (k := 0) X (by decide +kernel) 0 rfl ?_
        refine v_geta (pc := 117) X fl_1_9 kl0 fk_1_2 (by decide +kernel) ?_
        refine v_iload (pc := 120) (k := 4) X (by decide +kernel) 4 rfl ?_
        obtain ⟨x3, ex3, hf⟩ := bnd_e hf
        refine v_iald (pc := 122) X (ly_1_2 ok kl0) ex3 (by decide +kernel) ?_
        refine v_aload_n (pc := 123) (k := 0) X (by decide +kernel) 0 rfl ?_
        refine v_geta (pc := 124) X fl_1_18 kl0 fk_1_0 (by decide +kernel) ?_
        refine v_geta (pc := 127) X fl_1_26 (ly_1_0 ok kl0) fk_7_7 (by decide +kernel) ?_
        refine v_iload (pc := 130) (k := 4) X (by decide +kernel) 4 rfl ?_
        obtain ⟨x4, ex4, hf⟩ := bnd_e hf
        refine v_iald (pc := 132) X (ly_7_7 ok (ly_1_0 ok kl0)) ex4 (by decide +kernel) ?_
        obtain ⟨r5, er5, hf⟩ := bnd_e hf
        refine v_callV (pc := 133) (As := [.int l1, .int x3, .int x4]) (rest := []) X (mt_Cn_legsFrom ok hi kl0 er5) ml_1_63 mv_Cn_legsFrom kl0 cls_1 rfl ⟨Nat.le_of_ble_eq_true rfl, Nat.le_of_ble_eq_true rfl⟩ rfl rfl (Nat.le_of_ble_eq_true rfl) (by decide +kernel) ?_
        change V E g tb ρ 5 136 [(0, .ref (ρ l0)), (1, .int l1), (2, .int l2), (3, .int l3), (4, .int l4)] [] r5
        exact vjb_Cn_fewestLegs_136 ok hi X Y H57 ih r5 l0 l1 l2 l3 l4 kl0 hf
set_option maxRecDepth 4000 in
set_option maxHeartbeats 1000000 in
theorem vlp_Cn_fewestLegs_57 {E : En} {g : Gl} {tb : Tb} {ρ : Nat → Nat} (ok : TbOK tb) (hi : inj tb ρ) {r : Int32 × Hp} (X : CX E g tb ρ prog_2_method_4_code 5 RC1 4 86) (Y : CQ E g tb ρ (some .int) (some (.int r.1)) r.2) : ∀ (n : Nat) (h : Hp) (l0 : Nat) (l1 : Int32) (l2 : Int32) (l3 : Int32) (kl0 : kd tb l0 = 1), lp_Cn_fewestLegs_57 tb n h l0 l1 l2 l3 = some r → V E g tb ρ 5 57 [(0, .ref (ρ l0)), (1, .int l1), (2, .int l2), (3, .int l3)] [] h := by
  intro n
  induction n with
  | zero =>
    intro h l0 l1 l2 l3 kl0 hf
    rw [lp_Cn_fewestLegs_57] at hf
    cases hf
  | succ n ih =>
    intro h l0 l1 l2 l3 kl0 hf
    rw [lp_Cn_fewestLegs_57] at hf
    refine v_iload_n (pc := 57) (k := 3) X (by decide +kernel) 3 rfl ?_
    refine v_bipush (pc := 58) (n := 6) X (by decide +kernel) bi_6 ?_
    refine v_icmp_gt (pc := 60) (off := 88) (tgt := 148) X (by decide +kernel) (by decide) (fun q4 => ?_) (fun q4 => ?_)
    · rw [if_pos q4] at hf
      refine v_bipush (pc := 148) (n := -2) X (by decide +kernel) bi_m2 ?_
      cases hf
      exact v_iret X Y (by decide +kernel) rfl rfl
    · rw [if_neg q4] at hf
      refine v_aload_n (pc := 63) (k := 0) X (by decide +kernel) 0 rfl ?_
      refine v_geta (pc := 64) X fl_1_15 kl0 fk_1_3 (by decide +kernel) ?_
      refine v_iload_n (pc := 67) (k := 2) X (by decide +kernel) 2 rfl ?_
      obtain ⟨x1, ex1, hf⟩ := bnd_e hf
      refine v_iald (pc := 68) X (ly_1_3 ok kl0) ex1 (by decide +kernel) ?_
      refine v_bipush (pc := 69) (n := 100) X (by decide +kernel) bi_100 ?_
      refine v_icmp_ge (pc := 71) (off := 5) (tgt := 76) X (by decide +kernel) (by decide) (fun q3 => ?_) (fun q3 => ?_)
      · rw [if_pos q3] at hf
        refine v_aload_n (pc := 76) (k := 0) X (by decide +kernel) 0 rfl ?_
        refine v_geta (pc := 77) X fl_1_15 kl0 fk_1_3 (by decide +kernel) ?_
        refine v_aload_n (pc := 80) (k := 0) X (by decide +kernel) 0 rfl ?_
        refine v_geta (pc := 81) X fl_1_9 kl0 fk_1_2 (by decide +kernel) ?_
        obtain ⟨r2, er2, hf⟩ := bnd_e hf
        refine v_callSN (pc := 84) (As := [.ref (ρ (lay tb l0 3)), .ref (ρ (lay tb l0 2))]) (rest := []) X (mt_Tt_copy ok hi (ly_1_3 ok kl0) (ly_1_2 ok kl0) er2) ml_1_67 ms_Tt_copy ⟨Nat.le_of_ble_eq_true rfl, Nat.le_of_ble_eq_true rfl⟩ rfl rfl (Nat.le_of_ble_eq_true rfl) (by decide +kernel) ?_
        change V E g tb ρ 5 87 [(0, .ref (ρ l0)), (1, .int l1), (2, .int l2), (3, .int l3)] [] r2
        refine v_iconst (pc := 87) (n := 0) X (by decide +kernel) ic_0 ?_
        refine v_istore (pc := 88) (k := 4) (lv' := [(4, .int (0 : Int32)), (0, .ref (ρ l0)), (1, .int l1), (2, .int l2), (3, .int l3)]) X (by decide +kernel) (Nat.le_of_ble_eq_true rfl) rfl ?_
        refine v_sub [1, 2, 3, 4, 0] rfl ?_
        exact vlp_Cn_fewestLegs_90 ok hi X Y ih fu r2 l0 l1 l2 l3 (0 : Int32) kl0 hf
      · rw [if_neg q3] at hf
        refine v_iload_n (pc := 74) (k := 3) X (by decide +kernel) 3 rfl ?_
        cases hf
        exact v_iret X Y (by decide +kernel) rfl rfl
set_option maxRecDepth 4000 in
set_option maxHeartbeats 1000000 in
theorem mt_Cn_fewestLegs {g : Gl} {tb : Tb} {ρ : Nat → Nat} (ok : TbOK tb) (hi : inj tb ρ) {h : Hp} {l0 : Nat} {l1 : Int32} {l2 : Int32} (kl0 : kd tb l0 = 1) {r : Int32 × Hp} (hf : f_Cn_fewestLegs tb h l0 l1 l2 = some r) : MT g y_Cn_fewestLegs prog_2_method_4_code 5 (some .int) 4 86 tb ρ [.ref (ρ l0), .int l1, .int l2] h (some (.int r.1)) r.2 := by
  refine mt_intro (by decide +kernel) ok hi (Nat.le_of_ble_eq_true rfl) (fun E X Y => ?_)
  change V E g tb ρ 5 0 [(0, .ref (ρ l0)), (1, .int l1), (2, .int l2)] [] h
  unfold f_Cn_fewestLegs at hf
  refine v_aload_n (pc := 0) (k := 0) X (by decide +kernel) 0 rfl ?_
  refine v_geta (pc := 1) X fl_1_22 kl0 fk_1_1 (by decide +kernel) ?_
  refine v_geta (pc := 4) X fl_1_50 (ly_1_1 ok kl0) fk_11_9 (by decide +kernel) ?_
  refine v_iload_n (pc := 7) (k := 1) X (by decide +kernel) 1 rfl ?_
  obtain ⟨x1, ex1, hf⟩ := bnd_e hf
  refine v_iald (pc := 8) X (ly_11_9 ok (ly_1_1 ok kl0)) ex1 (by decide +kernel) ?_
  refine v_aload_n (pc := 9) (k := 0) X (by decide +kernel) 0 rfl ?_
  refine v_geta (pc := 10) X fl_1_18 kl0 fk_1_0 (by decide +kernel) ?_
  refine v_geta (pc := 13) X fl_1_26 (ly_1_0 ok kl0) fk_7_7 (by decide +kernel) ?_
  refine v_iload_n (pc := 16) (k := 2) X (by decide +kernel) 2 rfl ?_
  obtain ⟨x2, ex2, hf⟩ := bnd_e hf
  refine v_iald (pc := 17) X (ly_7_7 ok (ly_1_0 ok kl0)) ex2 (by decide +kernel) ?_
  refine v_icmp_ne (pc := 18) (off := 5) (tgt := 23) X (by decide +kernel) (by decide) (fun q7 => ?_) (fun q7 => ?_)
  · rw [if_neg q7] at hf
    refine v_aload_n (pc := 23) (k := 0) X (by decide +kernel) 0 rfl ?_
    refine v_geta (pc := 24) X fl_1_15 kl0 fk_1_3 (by decide +kernel) ?_
    refine v_bipush (pc := 27) (n := 100) X (by decide +kernel) bi_100 ?_
    obtain ⟨r3, er3, hf⟩ := bnd_e hf
    refine v_callS (pc := 29) (As := [.ref (ρ (lay tb l0 3)), .int (100 : Int32)]) (rest := []) X (mt_Ar_fill ok hi (ly_1_3 ok kl0) er3) ml_1_57 ms_Ar_fill ⟨Nat.le_of_ble_eq_true rfl, Nat.le_of_ble_eq_true rfl⟩ rfl rfl (Nat.le_of_ble_eq_true rfl) (by decide +kernel) ?_
    change V E g tb ρ 5 32 [(0, .ref (ρ l0)), (1, .int l1), (2, .int l2)] [] r3
    refine v_aload_n (pc := 32) (k := 0) X (by decide +kernel) 0 rfl ?_
    refine v_iload_n (pc := 33) (k := 1) X (by decide +kernel) 1 rfl ?_
    refine v_aload_n (pc := 34) (k := 0) X (by decide +kernel) 0 rfl ?_
    refine v_geta (pc := 35) X fl_1_22 kl0 fk_1_1 (by decide +kernel) ?_
    refine v_geta (pc := 38) X fl_1_45 (ly_1_1 ok kl0) fk_11_10 (by decide +kernel) ?_
    refine v_iload_n (pc := 41) (k := 1) X (by decide +kernel) 1 rfl ?_
    obtain ⟨x4, ex4, hf⟩ := bnd_e hf
    refine v_iald (pc := 42) X (ly_11_10 ok (ly_1_1 ok kl0)) ex4 (by decide +kernel) ?_
    refine v_aload_n (pc := 43) (k := 0) X (by decide +kernel) 0 rfl ?_
    refine v_geta (pc := 44) X fl_1_22 kl0 fk_1_1 (by decide +kernel) ?_
    refine v_geta (pc := 47) X fl_1_50 (ly_1_1 ok kl0) fk_11_9 (by decide +kernel) ?_
    refine v_iload_n (pc := 50) (k := 1) X (by decide +kernel) 1 rfl ?_
    obtain ⟨x5, ex5, hf⟩ := bnd_e hf
    refine v_iald (pc := 51) X (ly_11_9 ok (ly_1_1 ok kl0)) ex5 (by decide +kernel) ?_
    obtain ⟨r6, er6, hf⟩ := bnd_e hf
    refine v_callV (pc := 52) (As := [.int l1, .int x4, .int x5]) (rest := []) X (mt_Cn_legsFrom ok hi kl0 er6) ml_1_63 mv_Cn_legsFrom kl0 cls_1 rfl ⟨Nat.le_of_ble_eq_true rfl, Nat.le_of_ble_eq_true rfl⟩ rfl rfl (Nat.le_of_ble_eq_true rfl) (by decide +kernel) ?_
    change V E g tb ρ 5 55 [(0, .ref (ρ l0)), (1, .int l1), (2, .int l2)] [] r6
    refine v_iconst (pc := 55) (n := 1) X (by decide +kernel) ic_1 ?_
    refine v_istore_n (pc := 56) (k := 3) (lv' := [(3, .int (1 : Int32)), (0, .ref (ρ l0)), (1, .int l1), (2, .int l2)]) X (by decide +kernel) (Nat.le_of_ble_eq_true rfl) rfl ?_
    refine v_sub [1, 2, 3, 0] rfl ?_
    exact vlp_Cn_fewestLegs_57 ok hi X Y fu r6 l0 l1 l2 (1 : Int32) kl0 hf
  · rw [if_pos q7] at hf
    refine v_iconst (pc := 21) (n := 0) X (by decide +kernel) ic_0 ?_
    cases hf
    exact v_iret X Y (by decide +kernel) rfl rfl
