def f_La_within (tb : Tb) (h : Hp) (l0 : Int64) : Int64 :=
  if (0 : Int32) < (lg_cmp l0 (1000000000000 : Int64)) then (
    (-9223372036854775808 : Int64)
  ) else (
    if (0 : Int32) ≤ (lg_cmp l0 (-1000000000000 : Int64)) then (
      l0
    ) else (
      (-9223372036854775808 : Int64)
    )
  )
set_option maxRecDepth 4000 in
set_option maxHeartbeats 1000000 in
theorem mt_La_within {g : Gl} {tb : Tb} {ρ : Nat → Nat} (ok : TbOK tb) (hi : inj tb ρ) {h : Hp} {l0 : Int64}  {r : Int64} (hf : f_La_within tb h l0 = r) : MT g y_La_within prog_7_method_11_code 2 (some .long) 0 0 tb ρ [.long l0] h (some (.long r)) h := by
  refine mt_intro (by decide +kernel) ok hi (Nat.le_of_ble_eq_true rfl) (fun E X Y => ?_)
  change V E g tb ρ 2 0 [(0, .long l0)] [] h
  unfold f_La_within at hf
  refine v_lload_n (pc := 0) (k := 0) X (by decide +kernel) 0 rfl ?_
  refine v_ldc2 (pc := 1) X (by decide +kernel) kl_6_60 ?_
  refine v_lcmp (pc := 4) X (by decide +kernel) ?_
  refine v_if_gt (pc := 5) (off := 11) (tgt := 16) X (by decide +kernel) (by decide) (fun q2 => ?_) (fun q2 => ?_)
  · rw [if_pos q2] at hf
    refine v_ldc2 (pc := 16) X (by decide +kernel) kl_6_46 ?_
    refine v_goto (pc := 19) (off := 4) (tgt := 23) X (by decide +kernel) (by decide) ?_
    cases hf
    exact v_lret X Y (by decide +kernel) rfl rfl
  · rw [if_neg q2] at hf
    refine v_lload_n (pc := 8) (k := 0) X (by decide +kernel) 0 rfl ?_
    refine v_ldc2 (pc := 9) X (by decide +kernel) kl_6_62 ?_
    refine v_lcmp (pc := 12) X (by decide +kernel) ?_
    refine v_if_ge (pc := 13) (off := 9) (tgt := 22) X (by decide +kernel) (by decide) (fun q1 => ?_) (fun q1 => ?_)
    · rw [if_pos q1] at hf
      refine v_lload_n (pc := 22) (k := 0) X (by decide +kernel) 0 rfl ?_
      cases hf
      exact v_lret X Y (by decide +kernel) rfl rfl
    · rw [if_neg q1] at hf
      refine v_ldc2 (pc := 16) X (by decide +kernel) kl_6_46 ?_
      refine v_goto (pc := 19) (off := 4) (tgt := 23) X (by decide +kernel) (by decide) ?_
      cases hf
      exact v_lret X Y (by decide +kernel) rfl rfl
def jb_La_isTooBig_33 (tb : Tb) (h : Hp) (l4 : Int64) (s0 : Int64) : Option (Int32) :=
  (dL (1000000000000 : Int64) l4).bind fun x1 =>
  if (lg_cmp s0 x1) ≤ (0 : Int32) then (
    some (0 : Int32)
  ) else (
    some (1 : Int32)
  )
def jb_La_isTooBig_12 (tb : Tb) (h : Hp) (l2 : Int64) (s0 : Int64) : Option (Int32) :=
  if (lg_cmp s0 (0 : Int64)) = (0 : Int32) then (
    some (0 : Int32)
  ) else (
    if (0 : Int32) ≤ (lg_cmp l2 (0 : Int64)) then (
      jb_La_isTooBig_33 tb h s0 l2
    ) else (
      jb_La_isTooBig_33 tb h s0 (-l2)
    )
  )
def f_La_isTooBig (tb : Tb) (h : Hp) (l0 : Int64) (l2 : Int64) : Option (Int32) :=
  if (0 : Int32) ≤ (lg_cmp l0 (0 : Int64)) then (
    jb_La_isTooBig_12 tb h l2 l0
  ) else (
    jb_La_isTooBig_12 tb h l2 (-l0)
  )
set_option maxRecDepth 4000 in
set_option maxHeartbeats 1000000 in
theorem vjb_La_isTooBig_33 {E : En} {g : Gl} {tb : Tb} {ρ : Nat → Nat} (ok : TbOK tb) (hi : inj tb ρ) {r : Int32} (X : CX E g tb ρ prog_7_method_10_code 6 RC6 0 0) {h : Hp} (Y : CQ E g tb ρ (some .boolean) (some (.int r)) h) (l4 : Int64) (s0 : Int64) (hf : jb_La_isTooBig_33 tb h l4 s0 = some r) : V E g tb ρ 6 33 [(4, .long l4)] [.long s0] h := by
  unfold jb_La_isTooBig_33 at hf
  refine v_ldc2 (pc := 33) X (by decide +kernel) kl_6_60 ?_
  refine v_lload (pc := 36) (k := 4) X (by decide +kernel) 0 rfl ?_
  obtain ⟨x1, ex1, hf⟩ := bnd_e hf
  refine v_ldiv (pc := 38) X ex1 (by decide +kernel) ?_
  refine v_lcmp (pc := 39) X (by decide +kernel) ?_
  refine v_if_le (pc := 40) (off := 7) (tgt := 47) X (by decide +kernel) (by decide) (fun q2 => ?_) (fun q2 => ?_)
  · rw [if_pos q2] at hf
    refine v_iconst (pc := 47) (n := 0) X (by decide +kernel) ic_0 ?_
    cases hf
    exact v_zret (hz := rfl) X Y (by decide +kernel) rfl rfl
  · rw [if_neg q2] at hf
    refine v_iconst (pc := 43) (n := 1) X (by decide +kernel) ic_1 ?_
    refine v_goto (pc := 44) (off := 4) (tgt := 48) X (by decide +kernel) (by decide) ?_
    cases hf
    exact v_zret (hz := rfl) X Y (by decide +kernel) rfl rfl
set_option maxRecDepth 4000 in
set_option maxHeartbeats 1000000 in
theorem vjb_La_isTooBig_12 {E : En} {g : Gl} {tb : Tb} {ρ : Nat → Nat} (ok : TbOK tb) (hi : inj tb ρ) {r : Int32} (X : CX E g tb ρ prog_7_method_10_code 6 RC6 0 0) {h : Hp} (Y : CQ E g tb ρ (some .boolean) (some (.int r)) h) (l2 : Int64) (s0 : Int64) (hf : jb_La_isTooBig_12 tb h l2 s0 = some r) : V E g tb ρ 6 12 [(2, .long l2)] [.long s0] h := by
  unfold jb_La_isTooBig_12 at hf
  refine v_lstore (pc := 12) (k := 4) (lv' := [(4, .long s0), (2, .long l2)]) X (by decide +kernel) (Nat.le_of_ble_eq_true rfl) rfl ?_
  refine v_lload (pc := 14) (k := 4) X (by decide +kernel) 0 rfl ?_
  refine v_lconst (pc := 16) (n := 0) X (by decide +kernel) lc_0 ?_
  refine v_lcmp (pc := 17) X (by decide +kernel) ?_
  refine v_if_eq (pc := 18) (off := 29) (tgt := 47) X (by decide +kernel) (by decide) (fun q2 => ?_) (fun q2 => ?_)
  · rw [if_pos q2] at hf
    refine v_iconst (pc := 47) (n := 0) X (by decide +kernel) ic_0 ?_
    cases hf
    exact v_zret (hz := rfl) X Y (by decide +kernel) rfl rfl
  · rw [if_neg q2] at hf
    refine v_lload_n (pc := 21) (k := 2) X (by decide +kernel) 1 rfl ?_
    refine v_lconst (pc := 22) (n := 0) X (by decide +kernel) lc_0 ?_
    refine v_lcmp (pc := 23) X (by decide +kernel) ?_
    refine v_if_ge (pc := 24) (off := 8) (tgt := 32) X (by decide +kernel) (by decide) (fun q1 => ?_) (fun q1 => ?_)
    · rw [if_pos q1] at hf
      refine v_lload_n (pc := 32) (k := 2) X (by decide +kernel) 1 rfl ?_
      refine v_sub [0] rfl ?_
      exact vjb_La_isTooBig_33 ok hi X Y s0 l2 hf
    · rw [if_neg q1] at hf
      refine v_lload_n (pc := 27) (k := 2) X (by decide +kernel) 1 rfl ?_
      refine v_lneg (pc := 28) X (by decide +kernel) ?_
      refine v_goto (pc := 29) (off := 4) (tgt := 33) X (by decide +kernel) (by decide) ?_
      refine v_sub [0] rfl ?_
      exact vjb_La_isTooBig_33 ok hi X Y s0 (-l2) hf
set_option maxRecDepth 4000 in
set_option maxHeartbeats 1000000 in
theorem mt_La_isTooBig {g : Gl} {tb : Tb} {ρ : Nat → Nat} (ok : TbOK tb) (hi : inj tb ρ) {h : Hp} {l0 : Int64} {l2 : Int64}  {r : Int32} (hf : f_La_isTooBig tb h l0 l2 = some r) : MT g y_La_isTooBig prog_7_method_10_code 6 (some .boolean) 0 0 tb ρ [.long l0, .long l2] h (some (.int r)) h := by
  refine mt_intro (by decide +kernel) ok hi (Nat.le_of_ble_eq_true rfl) (fun E X Y => ?_)
  change V E g tb ρ 6 0 [(0, .long l0), (2, .long l2)] [] h
  unfold f_La_isTooBig at hf
  refine v_lload_n (pc := 0) (k := 0) X (by decide +kernel) 0 rfl ?_
  refine v_lconst (pc := 1) (n := 0) X (by decide +kernel) lc_0 ?_
  refine v_lcmp (pc := 2) X (by decide +kernel) ?_
  refine v_if_ge (pc := 3) (off := 8) (tgt := 11) X (by decide +kernel) (by decide) (fun q1 => ?_) (fun q1 => ?_)
  · rw [if_pos q1] at hf
    refine v_lload_n (pc := 11) (k := 0) X (by decide +kernel) 0 rfl ?_
    refine v_sub [1] rfl ?_
    exact vjb_La_isTooBig_12 ok hi X Y l2 l0 hf
  · rw [if_neg q1] at hf
    refine v_lload_n (pc := 6) (k := 0) X (by decide +kernel) 0 rfl ?_
    refine v_lneg (pc := 7) X (by decide +kernel) ?_
    refine v_goto (pc := 8) (off := 4) (tgt := 12) X (by decide +kernel) (by decide) ?_
    refine v_sub [1] rfl ?_
    exact vjb_La_isTooBig_12 ok hi X Y l2 (-l0) hf
def f_La_join (tb : Tb) (h : Hp) (l0 : Int32) (l1 : Int64) (l3 : Int64) : Option (Int64) :=
  if l0 = (20 : Int32) then (
    if (lg_cmp l1 (0 : Int64)) = (0 : Int32) then (
      some (0 : Int64)
    ) else (
      if (lg_cmp l3 (0 : Int64)) = (0 : Int32) then (
        some (0 : Int64)
      ) else (
        some (1 : Int64)
      )
    )
  ) else (
    if l0 = (21 : Int32) then (
      if (lg_cmp l1 (0 : Int64)) = (0 : Int32) then (
        if (lg_cmp l3 (0 : Int64)) = (0 : Int32) then (
          some (0 : Int64)
        ) else (
          some (1 : Int64)
        )
      ) else (
        some (1 : Int64)
      )
    ) else (
      if l0 = (22 : Int32) then (
        some (-9223372036854775808 : Int64)
      ) else (
        if l0 = (23 : Int32) then (
          some (-9223372036854775808 : Int64)
        ) else (
          if l0 = (24 : Int32) then (
            some (-9223372036854775808 : Int64)
          ) else (
            if l0 = (25 : Int32) then (
              some (-9223372036854775808 : Int64)
            ) else (
              if l0 = (26 : Int32) then (
                some (-9223372036854775808 : Int64)
              ) else (
                if l0 = (27 : Int32) then (
                  some (-9223372036854775808 : Int64)
                ) else (
                  if l0 = (28 : Int32) then (
                    some (-9223372036854775808 : Int64)
                  ) else (
                    if l0 = (29 : Int32) then (
                      some (-9223372036854775808 : Int64)
                    ) else (
                      if l0 = (30 : Int32) then (
                        some (-9223372036854775808 : Int64)
                      ) else (
                        if l0 = (31 : Int32) then (
                          some (-9223372036854775808 : Int64)
                        ) else (
                          if l0 = (32 : Int32) then (
                            some (-9223372036854775808 : Int64)
                          ) else (
                            if l0 = (33 : Int32) then (
                              if (0 : Int32) ≤ (lg_cmp l1 l3) then (
                                some (0 : Int64)
                              ) else (
                                some (1 : Int64)
                              )
                            ) else (
                              if l0 = (34 : Int32) then (
                                if (0 : Int32) < (lg_cmp l1 l3) then (
                                  some (0 : Int64)
                                ) else (
                                  some (1 : Int64)
                                )
                              ) else (
                                if l0 = (35 : Int32) then (
                                  if (lg_cmp l1 l3) = (0 : Int32) then (
                                    some (1 : Int64)
                                  ) else (
                                    some (0 : Int64)
                                  )
                                ) else (
                                  if l0 = (36 : Int32) then (
                                    if (lg_cmp l1 l3) = (0 : Int32) then (
                                      some (0 : Int64)
                                    ) else (
                                      some (1 : Int64)
                                    )
                                  ) else (
                                    if l0 = (37 : Int32) then (
                                      if (lg_cmp l1 l3) < (0 : Int32) then (
                                        some (0 : Int64)
                                      ) else (
                                        some (1 : Int64)
                                      )
                                    ) else (
                                      if l0 = (38 : Int32) then (
                                        if (lg_cmp l1 l3) ≤ (0 : Int32) then (
                                          some (0 : Int64)
                                        ) else (
                                          some (1 : Int64)
                                        )
                                      ) else (
                                        if l0 = (39 : Int32) then (
                                          nmd (f_La_within tb h (l1 + l3)) fun r31 =>
                                          some r31
                                        ) else (
                                          if l0 = (40 : Int32) then (
                                            nmd (f_La_within tb h (l1 - l3)) fun r33 =>
                                            some r33
                                          ) else (
                                            if l0 = (41 : Int32) then (
                                              (f_La_isTooBig tb h l1 l3).bind fun r35 =>
                                              if r35 = (0 : Int32) then (
                                                some (l1 * l3)
                                              ) else (
                                                some (-9223372036854775808 : Int64)
                                              )
                                            ) else (
                                              if l0 = (42 : Int32) then (
                                                if (lg_cmp l3 (0 : Int64)) = (0 : Int32) then (
                                                  some (-9223372036854775808 : Int64)
                                                ) else (
                                                  (dL l1 l3).bind fun x38 =>
                                                  some x38
                                                )
                                              ) else (
                                                some (-9223372036854775808 : Int64)
                                              )
                                            )
                                          )
                                        )
                                      )
                                    )
                                  )
                                )
                              )
                            )
                          )
                        )
                      )
                    )
                  )
                )
              )
            )
          )
        )
      )
    )
  )
set_option maxRecDepth 4000 in
set_option maxHeartbeats 1000000 in
theorem mt_La_join {g : Gl} {tb : Tb} {ρ : Nat → Nat} (ok : TbOK tb) (hi : inj tb ρ) {h : Hp} {l0 : Int32} {l1 : Int64} {l3 : Int64}  {r : Int64} (hf : f_La_join tb h l0 l1 l3 = some r) : MT g y_La_join prog_7_method_9_code 5 (some .long) 1 25 tb ρ [.int l0, .long l1, .long l3] h (some (.long r)) h := by
  refine mt_intro (by decide +kernel) ok hi (Nat.le_of_ble_eq_true rfl) (fun E X Y => ?_)
  change V E g tb ρ 5 0 [(0, .int l0), (1, .long l1), (3, .long l3)] [] h
  unfold f_La_join at hf
  refine v_iload_n (pc := 0) (k := 0) X (by decide +kernel) 0 rfl ?_
  by_cases q1 : l0 = (20 : Int32)
  · rw [if_pos q1] at hf
    refine v_tin (pc := 1) (off := 227) (tgt := 228) X (show decode prog_7_method_9_code 1 = .ok (.tableswitch 263 20 42 #[227, 245, 263, 263, 263, 263, 263, 263, 263, 263, 263, 263, 263, 155, 167, 179, 191, 203, 215, 107, 114, 121, 139], 107) from by decide +kernel) q1 (by decide) (by decide) (by decide) (by decide) ?_
    refine v_lload_n (pc := 228) (k := 1) X (by decide +kernel) 1 rfl ?_
    refine v_lconst (pc := 229) (n := 0) X (by decide +kernel) lc_0 ?_
    refine v_lcmp (pc := 230) X (by decide +kernel) ?_
    refine v_if_eq (pc := 231) (off := 13) (tgt := 244) X (by decide +kernel) (by decide) (fun q3 => ?_) (fun q3 => ?_)
    · rw [if_pos q3] at hf
      refine v_lconst (pc := 244) (n := 0) X (by decide +kernel) lc_0 ?_
      cases hf
      exact v_lret X Y (by decide +kernel) rfl rfl
    · rw [if_neg q3] at hf
      refine v_lload_n (pc := 234) (k := 3) X (by decide +kernel) 2 rfl ?_
      refine v_lconst (pc := 235) (n := 0) X (by decide +kernel) lc_0 ?_
      refine v_lcmp (pc := 236) X (by decide +kernel) ?_
      refine v_if_eq (pc := 237) (off := 7) (tgt := 244) X (by decide +kernel) (by decide) (fun q2 => ?_) (fun q2 => ?_)
      · rw [if_pos q2] at hf
        refine v_lconst (pc := 244) (n := 0) X (by decide +kernel) lc_0 ?_
        cases hf
        exact v_lret X Y (by decide +kernel) rfl rfl
      · rw [if_neg q2] at hf
        refine v_lconst (pc := 240) (n := 1) X (by decide +kernel) lc_1 ?_
        refine v_goto (pc := 241) (off := 4) (tgt := 245) X (by decide +kernel) (by decide) ?_
        cases hf
        exact v_lret X Y (by decide +kernel) rfl rfl
  · rw [if_neg q1] at hf
    by_cases q4 : l0 = (21 : Int32)
    · rw [if_pos q4] at hf
      refine v_tin (pc := 1) (off := 245) (tgt := 246) X (show decode prog_7_method_9_code 1 = .ok (.tableswitch 263 20 42 #[227, 245, 263, 263, 263, 263, 263, 263, 263, 263, 263, 263, 263, 155, 167, 179, 191, 203, 215, 107, 114, 121, 139], 107) from by decide +kernel) q4 (by decide) (by decide) (by decide) (by decide) ?_
      refine v_lload_n (pc := 246) (k := 1) X (by decide +kernel) 1 rfl ?_
      refine v_lconst (pc := 247) (n := 0) X (by decide +kernel) lc_0 ?_
      refine v_lcmp (pc := 248) X (by decide +kernel) ?_
      refine v_if_ne (pc := 249) (off := 9) (tgt := 258) X (by decide +kernel) (by decide) (fun q6 => ?_) (fun q6 => ?_)
      · rw [if_neg q6] at hf
        refine v_lconst (pc := 258) (n := 1) X (by decide +kernel) lc_1 ?_
        refine v_goto (pc := 259) (off := 4) (tgt := 263) X (by decide +kernel) (by decide) ?_
        cases hf
        exact v_lret X Y (by decide +kernel) rfl rfl
      · rw [if_pos q6] at hf
        refine v_lload_n (pc := 252) (k := 3) X (by decide +kernel) 2 rfl ?_
        refine v_lconst (pc := 253) (n := 0) X (by decide +kernel) lc_0 ?_
        refine v_lcmp (pc := 254) X (by decide +kernel) ?_
        refine v_if_eq (pc := 255) (off := 7) (tgt := 262) X (by decide +kernel) (by decide) (fun q5 => ?_) (fun q5 => ?_)
        · rw [if_pos q5] at hf
          refine v_lconst (pc := 262) (n := 0) X (by decide +kernel) lc_0 ?_
          cases hf
          exact v_lret X Y (by decide +kernel) rfl rfl
        · rw [if_neg q5] at hf
          refine v_lconst (pc := 258) (n := 1) X (by decide +kernel) lc_1 ?_
          refine v_goto (pc := 259) (off := 4) (tgt := 263) X (by decide +kernel) (by decide) ?_
          cases hf
          exact v_lret X Y (by decide +kernel) rfl rfl
    · rw [if_neg q4] at hf
      by_cases q7 : l0 = (22 : Int32)
      · rw [if_pos q7] at hf
        refine v_tin (pc := 1) (off := 263) (tgt := 264) X (show decode prog_7_method_9_code 1 = .ok (.tableswitch 263 20 42 #[227, 245, 263, 263, 263, 263, 263, 263, 263, 263, 263, 263, 263, 155, 167, 179, 191, 203, 215, 107, 114, 121, 139], 107) from by decide +kernel) q7 (by decide) (by decide) (by decide) (by decide) ?_
        refine v_ldc2 (pc := 264) X (by decide +kernel) kl_6_46 ?_
        cases hf
        exact v_lret X Y (by decide +kernel) rfl rfl
      · rw [if_neg q7] at hf
        by_cases q8 : l0 = (23 : Int32)
        · rw [if_pos q8] at hf
          refine v_tin (pc := 1) (off := 263) (tgt := 264) X (show decode prog_7_method_9_code 1 = .ok (.tableswitch 263 20 42 #[227, 245, 263, 263, 263, 263, 263, 263, 263, 263, 263, 263, 263, 155, 167, 179, 191, 203, 215, 107, 114, 121, 139], 107) from by decide +kernel) q8 (by decide) (by decide) (by decide) (by decide) ?_
          refine v_ldc2 (pc := 264) X (by decide +kernel) kl_6_46 ?_
          cases hf
          exact v_lret X Y (by decide +kernel) rfl rfl
        · rw [if_neg q8] at hf
          by_cases q9 : l0 = (24 : Int32)
          · rw [if_pos q9] at hf
            refine v_tin (pc := 1) (off := 263) (tgt := 264) X (show decode prog_7_method_9_code 1 = .ok (.tableswitch 263 20 42 #[227, 245, 263, 263, 263, 263, 263, 263, 263, 263, 263, 263, 263, 155, 167, 179, 191, 203, 215, 107, 114, 121, 139], 107) from by decide +kernel) q9 (by decide) (by decide) (by decide) (by decide) ?_
            refine v_ldc2 (pc := 264) X (by decide +kernel) kl_6_46 ?_
            cases hf
            exact v_lret X Y (by decide +kernel) rfl rfl
          · rw [if_neg q9] at hf
            by_cases q10 : l0 = (25 : Int32)
            · rw [if_pos q10] at hf
              refine v_tin (pc := 1) (off := 263) (tgt := 264) X (show decode prog_7_method_9_code 1 = .ok (.tableswitch 263 20 42 #[227, 245, 263, 263, 263, 263, 263, 263, 263, 263, 263, 263, 263, 155, 167, 179, 191, 203, 215, 107, 114, 121, 139], 107) from by decide +kernel) q10 (by decide) (by decide) (by decide) (by decide) ?_
              refine v_ldc2 (pc := 264) X (by decide +kernel) kl_6_46 ?_
              cases hf
              exact v_lret X Y (by decide +kernel) rfl rfl
            · rw [if_neg q10] at hf
              by_cases q11 : l0 = (26 : Int32)
              · rw [if_pos q11] at hf
                refine v_tin (pc := 1) (off := 263) (tgt := 264) X (show decode prog_7_method_9_code 1 = .ok (.tableswitch 263 20 42 #[227, 245, 263, 263, 263, 263, 263, 263, 263, 263, 263, 263, 263, 155, 167, 179, 191, 203, 215, 107, 114, 121, 139], 107) from by decide +kernel) q11 (by decide) (by decide) (by decide) (by decide) ?_
                refine v_ldc2 (pc := 264) X (by decide +kernel) kl_6_46 ?_
                cases hf
                exact v_lret X Y (by decide +kernel) rfl rfl
              · rw [if_neg q11] at hf
                by_cases q12 : l0 = (27 : Int32)
                · rw [if_pos q12] at hf
                  refine v_tin (pc := 1) (off := 263) (tgt := 264) X (show decode prog_7_method_9_code 1 = .ok (.tableswitch 263 20 42 #[227, 245, 263, 263, 263, 263, 263, 263, 263, 263, 263, 263, 263, 155, 167, 179, 191, 203, 215, 107, 114, 121, 139], 107) from by decide +kernel) q12 (by decide) (by decide) (by decide) (by decide) ?_
                  refine v_ldc2 (pc := 264) X (by decide +kernel) kl_6_46 ?_
                  cases hf
                  exact v_lret X Y (by decide +kernel) rfl rfl
                · rw [if_neg q12] at hf
                  by_cases q13 : l0 = (28 : Int32)
                  · rw [if_pos q13] at hf
                    refine v_tin (pc := 1) (off := 263) (tgt := 264) X (show decode prog_7_method_9_code 1 = .ok (.tableswitch 263 20 42 #[227, 245, 263, 263, 263, 263, 263, 263, 263, 263, 263, 263, 263, 155, 167, 179, 191, 203, 215, 107, 114, 121, 139], 107) from by decide +kernel) q13 (by decide) (by decide) (by decide) (by decide) ?_
                    refine v_ldc2 (pc := 264) X (by decide +kernel) kl_6_46 ?_
                    cases hf
                    exact v_lret X Y (by decide +kernel) rfl rfl
                  · rw [if_neg q13] at hf
                    by_cases q14 : l0 = (29 : Int32)
                    · rw [if_pos q14] at hf
                      refine v_tin (pc := 1) (off := 263) (tgt := 264) X (show decode prog_7_method_9_code 1 = .ok (.tableswitch 263 20 42 #[227, 245, 263, 263, 263, 263, 263, 263, 263, 263, 263, 263, 263, 155, 167, 179, 191, 203, 215, 107, 114, 121, 139], 107) from by decide +kernel) q14 (by decide) (by decide) (by decide) (by decide) ?_
                      refine v_ldc2 (pc := 264) X (by decide +kernel) kl_6_46 ?_
                      cases hf
                      exact v_lret X Y (by decide +kernel) rfl rfl
                    · rw [if_neg q14] at hf
                      by_cases q15 : l0 = (30 : Int32)
                      · rw [if_pos q15] at hf
                        refine v_tin (pc := 1) (off := 263) (tgt := 264) X (show decode prog_7_method_9_code 1 = .ok (.tableswitch 263 20 42 #[227, 245, 263, 263, 263, 263, 263, 263, 263, 263, 263, 263, 263, 155, 167, 179, 191, 203, 215, 107, 114, 121, 139], 107) from by decide +kernel) q15 (by decide) (by decide) (by decide) (by decide) ?_
                        refine v_ldc2 (pc := 264) X (by decide +kernel) kl_6_46 ?_
                        cases hf
                        exact v_lret X Y (by decide +kernel) rfl rfl
                      · rw [if_neg q15] at hf
                        by_cases q16 : l0 = (31 : Int32)
                        · rw [if_pos q16] at hf
                          refine v_tin (pc := 1) (off := 263) (tgt := 264) X (show decode prog_7_method_9_code 1 = .ok (.tableswitch 263 20 42 #[227, 245, 263, 263, 263, 263, 263, 263, 263, 263, 263, 263, 263, 155, 167, 179, 191, 203, 215, 107, 114, 121, 139], 107) from by decide +kernel) q16 (by decide) (by decide) (by decide) (by decide) ?_
                          refine v_ldc2 (pc := 264) X (by decide +kernel) kl_6_46 ?_
                          cases hf
                          exact v_lret X Y (by decide +kernel) rfl rfl
                        · rw [if_neg q16] at hf
                          by_cases q17 : l0 = (32 : Int32)
                          · rw [if_pos q17] at hf
                            refine v_tin (pc := 1) (off := 263) (tgt := 264) X (show decode prog_7_method_9_code 1 = .ok (.tableswitch 263 20 42 #[227, 245, 263, 263, 263, 263, 263, 263, 263, 263, 263, 263, 263, 155, 167, 179, 191, 203, 215, 107, 114, 121, 139], 107) from by decide +kernel) q17 (by decide) (by decide) (by decide) (by decide) ?_
                            refine v_ldc2 (pc := 264) X (by decide +kernel) kl_6_46 ?_
                            cases hf
                            exact v_lret X Y (by decide +kernel) rfl rfl
                          · rw [if_neg q17] at hf
                            by_cases q18 : l0 = (33 : Int32)
                            · rw [if_pos q18] at hf
                              refine v_tin (pc := 1) (off := 155) (tgt := 156) X (show decode prog_7_method_9_code 1 = .ok (.tableswitch 263 20 42 #[227, 245, 263, 263, 263, 263, 263, 263, 263, 263, 263, 263, 263, 155, 167, 179, 191, 203, 215, 107, 114, 121, 139], 107) from by decide +kernel) q18 (by decide) (by decide) (by decide) (by decide) ?_
                              refine v_lload_n (pc := 156) (k := 1) X (by decide +kernel) 1 rfl ?_
                              refine v_lload_n (pc := 157) (k := 3) X (by decide +kernel) 2 rfl ?_
                              refine v_lcmp (pc := 158) X (by decide +kernel) ?_
                              refine v_if_ge (pc := 159) (off := 7) (tgt := 166) X (by decide +kernel) (by decide) (fun q19 => ?_) (fun q19 => ?_)
                              · rw [if_pos q19] at hf
                                refine v_lconst (pc := 166) (n := 0) X (by decide +kernel) lc_0 ?_
                                cases hf
                                exact v_lret X Y (by decide +kernel) rfl rfl
                              · rw [if_neg q19] at hf
                                refine v_lconst (pc := 162) (n := 1) X (by decide +kernel) lc_1 ?_
                                refine v_goto (pc := 163) (off := 4) (tgt := 167) X (by decide +kernel) (by decide) ?_
                                cases hf
                                exact v_lret X Y (by decide +kernel) rfl rfl
                            · rw [if_neg q18] at hf
                              by_cases q20 : l0 = (34 : Int32)
                              · rw [if_pos q20] at hf
                                refine v_tin (pc := 1) (off := 167) (tgt := 168) X (show decode prog_7_method_9_code 1 = .ok (.tableswitch 263 20 42 #[227, 245, 263, 263, 263, 263, 263, 263, 263, 263, 263, 263, 263, 155, 167, 179, 191, 203, 215, 107, 114, 121, 139], 107) from by decide +kernel) q20 (by decide) (by decide) (by decide) (by decide) ?_
                                refine v_lload_n (pc := 168) (k := 1) X (by decide +kernel) 1 rfl ?_
                                refine v_lload_n (pc := 169) (k := 3) X (by decide +kernel) 2 rfl ?_
                                refine v_lcmp (pc := 170) X (by decide +kernel) ?_
                                refine v_if_gt (pc := 171) (off := 7) (tgt := 178) X (by decide +kernel) (by decide) (fun q21 => ?_) (fun q21 => ?_)
                                · rw [if_pos q21] at hf
                                  refine v_lconst (pc := 178) (n := 0) X (by decide +kernel) lc_0 ?_
                                  cases hf
                                  exact v_lret X Y (by decide +kernel) rfl rfl
                                · rw [if_neg q21] at hf
                                  refine v_lconst (pc := 174) (n := 1) X (by decide +kernel) lc_1 ?_
                                  refine v_goto (pc := 175) (off := 4) (tgt := 179) X (by decide +kernel) (by decide) ?_
                                  cases hf
                                  exact v_lret X Y (by decide +kernel) rfl rfl
                              · rw [if_neg q20] at hf
                                by_cases q22 : l0 = (35 : Int32)
                                · rw [if_pos q22] at hf
                                  refine v_tin (pc := 1) (off := 179) (tgt := 180) X (show decode prog_7_method_9_code 1 = .ok (.tableswitch 263 20 42 #[227, 245, 263, 263, 263, 263, 263, 263, 263, 263, 263, 263, 263, 155, 167, 179, 191, 203, 215, 107, 114, 121, 139], 107) from by decide +kernel) q22 (by decide) (by decide) (by decide) (by decide) ?_
                                  refine v_lload_n (pc := 180) (k := 1) X (by decide +kernel) 1 rfl ?_
                                  refine v_lload_n (pc := 181) (k := 3) X (by decide +kernel) 2 rfl ?_
                                  refine v_lcmp (pc := 182) X (by decide +kernel) ?_
                                  refine v_if_ne (pc := 183) (off := 7) (tgt := 190) X (by decide +kernel) (by decide) (fun q23 => ?_) (fun q23 => ?_)
                                  · rw [if_neg q23] at hf
                                    refine v_lconst (pc := 190) (n := 0) X (by decide +kernel) lc_0 ?_
                                    cases hf
                                    exact v_lret X Y (by decide +kernel) rfl rfl
                                  · rw [if_pos q23] at hf
                                    refine v_lconst (pc := 186) (n := 1) X (by decide +kernel) lc_1 ?_
                                    refine v_goto (pc := 187) (off := 4) (tgt := 191) X (by decide +kernel) (by decide) ?_
                                    cases hf
                                    exact v_lret X Y (by decide +kernel) rfl rfl
                                · rw [if_neg q22] at hf
                                  by_cases q24 : l0 = (36 : Int32)
                                  · rw [if_pos q24] at hf
                                    refine v_tin (pc := 1) (off := 191) (tgt := 192) X (show decode prog_7_method_9_code 1 = .ok (.tableswitch 263 20 42 #[227, 245, 263, 263, 263, 263, 263, 263, 263, 263, 263, 263, 263, 155, 167, 179, 191, 203, 215, 107, 114, 121, 139], 107) from by decide +kernel) q24 (by decide) (by decide) (by decide) (by decide) ?_
                                    refine v_lload_n (pc := 192) (k := 1) X (by decide +kernel) 1 rfl ?_
                                    refine v_lload_n (pc := 193) (k := 3) X (by decide +kernel) 2 rfl ?_
                                    refine v_lcmp (pc := 194) X (by decide +kernel) ?_
                                    refine v_if_eq (pc := 195) (off := 7) (tgt := 202) X (by decide +kernel) (by decide) (fun q25 => ?_) (fun q25 => ?_)
                                    · rw [if_pos q25] at hf
                                      refine v_lconst (pc := 202) (n := 0) X (by decide +kernel) lc_0 ?_
                                      cases hf
                                      exact v_lret X Y (by decide +kernel) rfl rfl
                                    · rw [if_neg q25] at hf
                                      refine v_lconst (pc := 198) (n := 1) X (by decide +kernel) lc_1 ?_
                                      refine v_goto (pc := 199) (off := 4) (tgt := 203) X (by decide +kernel) (by decide) ?_
                                      cases hf
                                      exact v_lret X Y (by decide +kernel) rfl rfl
                                  · rw [if_neg q24] at hf
                                    by_cases q26 : l0 = (37 : Int32)
                                    · rw [if_pos q26] at hf
                                      refine v_tin (pc := 1) (off := 203) (tgt := 204) X (show decode prog_7_method_9_code 1 = .ok (.tableswitch 263 20 42 #[227, 245, 263, 263, 263, 263, 263, 263, 263, 263, 263, 263, 263, 155, 167, 179, 191, 203, 215, 107, 114, 121, 139], 107) from by decide +kernel) q26 (by decide) (by decide) (by decide) (by decide) ?_
                                      refine v_lload_n (pc := 204) (k := 1) X (by decide +kernel) 1 rfl ?_
                                      refine v_lload_n (pc := 205) (k := 3) X (by decide +kernel) 2 rfl ?_
                                      refine v_lcmp (pc := 206) X (by decide +kernel) ?_
                                      refine v_if_lt (pc := 207) (off := 7) (tgt := 214) X (by decide +kernel) (by decide) (fun q27 => ?_) (fun q27 => ?_)
                                      · rw [if_pos q27] at hf
                                        refine v_lconst (pc := 214) (n := 0) X (by decide +kernel) lc_0 ?_
                                        cases hf
                                        exact v_lret X Y (by decide +kernel) rfl rfl
                                      · rw [if_neg q27] at hf
                                        refine v_lconst (pc := 210) (n := 1) X (by decide +kernel) lc_1 ?_
                                        refine v_goto (pc := 211) (off := 4) (tgt := 215) X (by decide +kernel) (by decide) ?_
                                        cases hf
                                        exact v_lret X Y (by decide +kernel) rfl rfl
                                    · rw [if_neg q26] at hf
                                      by_cases q28 : l0 = (38 : Int32)
                                      · rw [if_pos q28] at hf
                                        refine v_tin (pc := 1) (off := 215) (tgt := 216) X (show decode prog_7_method_9_code 1 = .ok (.tableswitch 263 20 42 #[227, 245, 263, 263, 263, 263, 263, 263, 263, 263, 263, 263, 263, 155, 167, 179, 191, 203, 215, 107, 114, 121, 139], 107) from by decide +kernel) q28 (by decide) (by decide) (by decide) (by decide) ?_
                                        refine v_lload_n (pc := 216) (k := 1) X (by decide +kernel) 1 rfl ?_
                                        refine v_lload_n (pc := 217) (k := 3) X (by decide +kernel) 2 rfl ?_
                                        refine v_lcmp (pc := 218) X (by decide +kernel) ?_
                                        refine v_if_le (pc := 219) (off := 7) (tgt := 226) X (by decide +kernel) (by decide) (fun q29 => ?_) (fun q29 => ?_)
                                        · rw [if_pos q29] at hf
                                          refine v_lconst (pc := 226) (n := 0) X (by decide +kernel) lc_0 ?_
                                          cases hf
                                          exact v_lret X Y (by decide +kernel) rfl rfl
                                        · rw [if_neg q29] at hf
                                          refine v_lconst (pc := 222) (n := 1) X (by decide +kernel) lc_1 ?_
                                          refine v_goto (pc := 223) (off := 4) (tgt := 227) X (by decide +kernel) (by decide) ?_
                                          cases hf
                                          exact v_lret X Y (by decide +kernel) rfl rfl
                                      · rw [if_neg q28] at hf
                                        by_cases q30 : l0 = (39 : Int32)
                                        · rw [if_pos q30] at hf
                                          refine v_tin (pc := 1) (off := 107) (tgt := 108) X (show decode prog_7_method_9_code 1 = .ok (.tableswitch 263 20 42 #[227, 245, 263, 263, 263, 263, 263, 263, 263, 263, 263, 263, 263, 155, 167, 179, 191, 203, 215, 107, 114, 121, 139], 107) from by decide +kernel) q30 (by decide) (by decide) (by decide) (by decide) ?_
                                          refine v_lload_n (pc := 108) (k := 1) X (by decide +kernel) 1 rfl ?_
                                          refine v_lload_n (pc := 109) (k := 3) X (by decide +kernel) 2 rfl ?_
                                          refine v_ladd (pc := 110) X (by decide +kernel) ?_
                                          obtain ⟨r31, er31, hf⟩ := nmd_e hf
                                          refine v_callS (pc := 111) (As := [.long (l1 + l3)]) (rest := []) X (mt_La_within ok hi er31.symm) ml_6_52 ms_La_within ⟨Nat.le_of_ble_eq_true rfl, Nat.le_of_ble_eq_true rfl⟩ rfl rfl (Nat.le_of_ble_eq_true rfl) (by decide +kernel) ?_
                                          change V E g tb ρ 5 114 [(0, .int l0), (1, .long l1), (3, .long l3)] [.long r31] h
                                          cases hf
                                          exact v_lret X Y (by decide +kernel) rfl rfl
                                        · rw [if_neg q30] at hf
                                          by_cases q32 : l0 = (40 : Int32)
                                          · rw [if_pos q32] at hf
                                            refine v_tin (pc := 1) (off := 114) (tgt := 115) X (show decode prog_7_method_9_code 1 = .ok (.tableswitch 263 20 42 #[227, 245, 263, 263, 263, 263, 263, 263, 263, 263, 263, 263, 263, 155, 167, 179, 191, 203, 215, 107, 114, 121, 139], 107) from by decide +kernel) q32 (by decide) (by decide) (by decide) (by decide) ?_
                                            refine v_lload_n (pc := 115) (k := 1) X (by decide +kernel) 1 rfl ?_
                                            refine v_lload_n (pc := 116) (k := 3) X (by decide +kernel) 2 rfl ?_
                                            refine v_lsub (pc := 117) X (by decide +kernel) ?_
                                            obtain ⟨r33, er33, hf⟩ := nmd_e hf
                                            refine v_callS (pc := 118) (As := [.long (l1 - l3)]) (rest := []) X (mt_La_within ok hi er33.symm) ml_6_52 ms_La_within ⟨Nat.le_of_ble_eq_true rfl, Nat.le_of_ble_eq_true rfl⟩ rfl rfl (Nat.le_of_ble_eq_true rfl) (by decide +kernel) ?_
                                            change V E g tb ρ 5 121 [(0, .int l0), (1, .long l1), (3, .long l3)] [.long r33] h
                                            cases hf
                                            exact v_lret X Y (by decide +kernel) rfl rfl
                                          · rw [if_neg q32] at hf
                                            by_cases q34 : l0 = (41 : Int32)
                                            · rw [if_pos q34] at hf
                                              refine v_tin (pc := 1) (off := 121) (tgt := 122) X (show decode prog_7_method_9_code 1 = .ok (.tableswitch 263 20 42 #[227, 245, 263, 263, 263, 263, 263, 263, 263, 263, 263, 263, 263, 155, 167, 179, 191, 203, 215, 107, 114, 121, 139], 107) from by decide +kernel) q34 (by decide) (by decide) (by decide) (by decide) ?_
                                              refine v_lload_n (pc := 122) (k := 1) X (by decide +kernel) 1 rfl ?_
                                              refine v_lload_n (pc := 123) (k := 3) X (by decide +kernel) 2 rfl ?_
                                              obtain ⟨r35, er35, hf⟩ := bnd_e hf
                                              refine v_callS (pc := 124) (As := [.long l1, .long l3]) (rest := []) X (mt_La_isTooBig ok hi er35) ml_6_56 ms_La_isTooBig ⟨Nat.le_of_ble_eq_true rfl, Nat.le_of_ble_eq_true rfl⟩ rfl rfl (Nat.le_of_ble_eq_true rfl) (by decide +kernel) ?_
                                              change V E g tb ρ 5 127 [(0, .int l0), (1, .long l1), (3, .long l3)] [.int r35] h
                                              refine v_if_eq (pc := 127) (off := 9) (tgt := 136) X (by decide +kernel) (by decide) (fun q36 => ?_) (fun q36 => ?_)
                                              · rw [if_pos q36] at hf
                                                refine v_lload_n (pc := 136) (k := 1) X (by decide +kernel) 1 rfl ?_
                                                refine v_lload_n (pc := 137) (k := 3) X (by decide +kernel) 2 rfl ?_
                                                refine v_lmul (pc := 138) X (by decide +kernel) ?_
                                                cases hf
                                                exact v_lret X Y (by decide +kernel) rfl rfl
                                              · rw [if_neg q36] at hf
                                                refine v_ldc2 (pc := 130) X (by decide +kernel) kl_6_46 ?_
                                                refine v_goto (pc := 133) (off := 6) (tgt := 139) X (by decide +kernel) (by decide) ?_
                                                cases hf
                                                exact v_lret X Y (by decide +kernel) rfl rfl
                                            · rw [if_neg q34] at hf
                                              by_cases q37 : l0 = (42 : Int32)
                                              · rw [if_pos q37] at hf
                                                refine v_tin (pc := 1) (off := 139) (tgt := 140) X (show decode prog_7_method_9_code 1 = .ok (.tableswitch 263 20 42 #[227, 245, 263, 263, 263, 263, 263, 263, 263, 263, 263, 263, 263, 155, 167, 179, 191, 203, 215, 107, 114, 121, 139], 107) from by decide +kernel) q37 (by decide) (by decide) (by decide) (by decide) ?_
                                                refine v_lload_n (pc := 140) (k := 3) X (by decide +kernel) 2 rfl ?_
                                                refine v_lconst (pc := 141) (n := 0) X (by decide +kernel) lc_0 ?_
                                                refine v_lcmp (pc := 142) X (by decide +kernel) ?_
                                                refine v_if_ne (pc := 143) (off := 9) (tgt := 152) X (by decide +kernel) (by decide) (fun q39 => ?_) (fun q39 => ?_)
                                                · rw [if_neg q39] at hf
                                                  refine v_lload_n (pc := 152) (k := 1) X (by decide +kernel) 1 rfl ?_
                                                  refine v_lload_n (pc := 153) (k := 3) X (by decide +kernel) 2 rfl ?_
                                                  obtain ⟨x38, ex38, hf⟩ := bnd_e hf
                                                  refine v_ldiv (pc := 154) X ex38 (by decide +kernel) ?_
                                                  cases hf
                                                  exact v_lret X Y (by decide +kernel) rfl rfl
                                                · rw [if_pos q39] at hf
                                                  refine v_ldc2 (pc := 146) X (by decide +kernel) kl_6_46 ?_
                                                  refine v_goto (pc := 149) (off := 6) (tgt := 155) X (by decide +kernel) (by decide) ?_
                                                  cases hf
                                                  exact v_lret X Y (by decide +kernel) rfl rfl
                                              · rw [if_neg q37] at hf
                                                refine v_tout (pc := 1) (tgt := 264) X (show decode prog_7_method_9_code 1 = .ok (.tableswitch 263 20 42 #[227, 245, 263, 263, 263, 263, 263, 263, 263, 263, 263, 263, 263, 155, 167, 179, 191, 203, 215, 107, 114, 121, 139], 107) from by decide +kernel) (t_out (lo := 20) (hi := 42) [(20 : Int32), (21 : Int32), (22 : Int32), (23 : Int32), (24 : Int32), (25 : Int32), (26 : Int32), (27 : Int32), (28 : Int32), (29 : Int32), (30 : Int32), (31 : Int32), (32 : Int32), (33 : Int32), (34 : Int32), (35 : Int32), (36 : Int32), (37 : Int32), (38 : Int32), (39 : Int32), (40 : Int32), (41 : Int32), (42 : Int32)] (by decide) (List.forall_mem_cons.mpr ⟨q1, List.forall_mem_cons.mpr ⟨q4, List.forall_mem_cons.mpr ⟨q7, List.forall_mem_cons.mpr ⟨q8, List.forall_mem_cons.mpr ⟨q9, List.forall_mem_cons.mpr ⟨q10, List.forall_mem_cons.mpr ⟨q11, List.forall_mem_cons.mpr ⟨q12, List.forall_mem_cons.mpr ⟨q13, List.forall_mem_cons.mpr ⟨q14, List.forall_mem_cons.mpr ⟨q15, List.forall_mem_cons.mpr ⟨q16, List.forall_mem_cons.mpr ⟨q17, List.forall_mem_cons.mpr ⟨q18, List.forall_mem_cons.mpr ⟨q20, List.forall_mem_cons.mpr ⟨q22, List.forall_mem_cons.mpr ⟨q24, List.forall_mem_cons.mpr ⟨q26, List.forall_mem_cons.mpr ⟨q28, List.forall_mem_cons.mpr ⟨q30, List.forall_mem_cons.mpr ⟨q32, List.forall_mem_cons.mpr ⟨q34, List.forall_mem_cons.mpr ⟨q37, fun _ h => absurd h List.not_mem_nil⟩⟩⟩⟩⟩⟩⟩⟩⟩⟩⟩⟩⟩⟩⟩⟩⟩⟩⟩⟩⟩⟩⟩)) (by decide) ?_
                                                refine v_ldc2 (pc := 264) X (by decide +kernel) kl_6_46 ?_
                                                cases hf
                                                exact v_lret X Y (by decide +kernel) rfl rfl
def jb_La_worthOf_193 (tb : Tb) (c10 : Hp → Nat → Int32 → Nat → Int32 → Int32 → Option (Int64 × Hp)) (h : Hp) (l0 : Nat) (l1 : Int32) (l2 : Nat) (l3 : Int32) (l4 : Int32) : Option (Int64 × Hp) :=
  nmd (l4 + (1 : Int32)) fun x1 =>
  c10 h l0 l1 l2 l3 x1
def jb_La_worthOf_133 (tb : Tb) (c10 : Hp → Nat → Int32 → Nat → Int32 → Int32 → Option (Int64 × Hp)) (h : Hp) (l0 : Nat) (l1 : Int32) (l2 : Nat) (l3 : Int32) (l4 : Int32) (s0 : Nat) (s1 : Int32) (s2 : Int64) : Option (Int64 × Hp) :=
  (wL tb h s0 s1 s2).bind fun h1 =>
  jb_La_worthOf_193 tb c10 h1 l0 l1 l2 l3 l4
def jb_La_worthOf_85 (tb : Tb) (c10 : Hp → Nat → Int32 → Nat → Int32 → Int32 → Option (Int64 × Hp)) (h : Hp) (l0 : Nat) (l1 : Int32) (l2 : Nat) (l3 : Int32) (l4 : Int32) (s0 : Nat) (s1 : Int32) (s2 : Int64) : Option (Int64 × Hp) :=
  (wL tb h s0 s1 s2).bind fun h1 =>
  nmd (l3 + (1 : Int32)) fun x2 =>
  jb_La_worthOf_193 tb c10 h1 l0 l1 l2 x2 l4
def jb_La_worthOf_48 (tb : Tb) (c10 : Hp → Nat → Int32 → Nat → Int32 → Int32 → Option (Int64 × Hp)) (h : Hp) (l0 : Nat) (l1 : Int32) (l2 : Nat) (l3 : Int32) (l4 : Int32) (l5 : Int32) (l6 : Int32) : Option (Int64 × Hp) :=
  if l3 < (Int32.ofNat (al tb (lay tb l0 5))) then (
    if l5 < (0 : Int32) then (
      (rI tb h l2 (l6 - (23 : Int32))).bind fun x1 =>
      jb_La_worthOf_85 tb c10 h l0 l1 l2 l3 l4 (lay tb l0 5) l3 (x1.toInt64)
    ) else (
      jb_La_worthOf_85 tb c10 h l0 l1 l2 l3 l4 (lay tb l0 5) l3 (l5.toInt64)
    )
  ) else (
    some ((-9223372036854775808 : Int64), h)
  )
def lp_La_worthOf_10 (tb : Tb) : Nat → Hp → Nat → Int32 → Nat → Int32 → Int32 → Option (Int64 × Hp)
  | 0, _, _, _, _, _, _ => none
  | n + 1, h, l0, l1, l2, l3, l4 =>
    (rI tb h (lay tb l0 4) l1).bind fun x1 =>
    if x1 ≤ l4 then (
      if l3 = (1 : Int32) then (
        (rL tb h (lay tb l0 5) (0 : Int32)).bind fun x2 =>
        some (x2, h)
      ) else (
        some ((-9223372036854775808 : Int64), h)
      )
    ) else (
      (rI tb h (lay tb l0 2) l4).bind fun x4 =>
      nmd (-x4) fun x5 =>
      if (0 : Int32) ≤ x4 then (
        jb_La_worthOf_48 tb (lp_La_worthOf_10 tb n) h l0 l1 l2 l3 l4 x4 x5
      ) else (
        nmd (f_Tt_isName tb h x5) fun r6 =>
        if r6 = (0 : Int32) then (
          if x5 = (22 : Int32) then (
            if (1 : Int32) ≤ l3 then (
              (rL tb h (lay tb l0 5) (l3 - (1 : Int32))).bind fun x14 =>
              if (lg_cmp x14 (0 : Int64)) = (0 : Int32) then (
                jb_La_worthOf_133 tb (lp_La_worthOf_10 tb n) h l0 l1 l2 l3 l4 (lay tb l0 5) (l3 - (1 : Int32)) (1 : Int64)
              ) else (
                jb_La_worthOf_133 tb (lp_La_worthOf_10 tb n) h l0 l1 l2 l3 l4 (lay tb l0 5) (l3 - (1 : Int32)) (0 : Int64)
              )
            ) else (
              some ((-9223372036854775808 : Int64), h)
            )
          ) else (
            if (2 : Int32) ≤ l3 then (
              nmd (l3 + (-1 : Int32)) fun x7 =>
              (rL tb h (lay tb l0 5) (x7 - (1 : Int32))).bind fun x8 =>
              (rL tb h (lay tb l0 5) x7).bind fun x9 =>
              (f_La_join tb h x5 x8 x9).bind fun r10 =>
              if (lg_cmp r10 (-9223372036854775808 : Int64)) = (0 : Int32) then (
                some ((-9223372036854775808 : Int64), h)
              ) else (
                (wL tb h (lay tb l0 5) (x7 - (1 : Int32)) r10).bind fun h11 =>
                jb_La_worthOf_193 tb (lp_La_worthOf_10 tb n) h11 l0 l1 l2 x7 l4
              )
            ) else (
              some ((-9223372036854775808 : Int64), h)
            )
          )
        ) else (
          jb_La_worthOf_48 tb (lp_La_worthOf_10 tb n) h l0 l1 l2 l3 l4 x4 x5
        )
      )
    )
def f_La_worthOf (tb : Tb) (h : Hp) (l0 : Nat) (l1 : Int32) (l2 : Nat) : Option (Int64 × Hp) :=
  (rI tb h (lay tb l0 3) l1).bind fun x1 =>
  lp_La_worthOf_10 tb fu h l0 l1 l2 (0 : Int32) x1
set_option maxRecDepth 4000 in
set_option maxHeartbeats 1000000 in
theorem vjb_La_worthOf_193 {E : En} {g : Gl} {tb : Tb} {ρ : Nat → Nat} (ok : TbOK tb) (hi : inj tb ρ) {r : Int64 × Hp} (X : CX E g tb ρ prog_7_method_8_code 9 RC6 2 49) (Y : CQ E g tb ρ (some .long) (some (.long r.1)) r.2) {c10 : Hp → Nat → Int32 → Nat → Int32 → Int32 → Option (Int64 × Hp)} (H10 : ∀ (h : Hp) (l0 : Nat) (l1 : Int32) (l2 : Nat) (l3 : Int32) (l4 : Int32) (kl0 : kd tb l0 = 6) (kl2 : kd tb l2 = 20), c10 h l0 l1 l2 l3 l4 = some r → V E g tb ρ 9 10 [(0, .ref (ρ l0)), (1, .int l1), (2, .ref (ρ l2)), (3, .int l3), (4, .int l4)] [] h) (h : Hp) (l0 : Nat) (l1 : Int32) (l2 : Nat) (l3 : Int32) (l4 : Int32) (kl0 : kd tb l0 = 6) (kl2 : kd tb l2 = 20) (hf : jb_La_worthOf_193 tb c10 h l0 l1 l2 l3 l4 = some r) : V E g tb ρ 9 193 [(0, .ref (ρ l0)), (1, .int l1), (2, .ref (ρ l2)), (3, .int l3), (4, .int l4)] [] h := by
  unfold jb_La_worthOf_193 at hf
  obtain ⟨x1, ex1, hf⟩ := nmd_e hf
  refine v_iinc (pc := 193) (k := 4) (n := 1) (v := x1) (lv' := [(4, .int x1), (0, .ref (ρ l0)), (1, .int l1), (2, .ref (ρ l2)), (3, .int l3)]) X (by decide +kernel) 4 rfl (by rw [ic_1, ex1]) (Nat.le_of_ble_eq_true rfl) rfl ?_
  refine v_goto (pc := 196) (off := -186) (tgt := 10) X (by decide +kernel) (by decide) ?_
  refine v_sub [1, 2, 3, 4, 0] rfl ?_
  exact H10 h l0 l1 l2 l3 x1 kl0 kl2 hf
set_option maxRecDepth 4000 in
set_option maxHeartbeats 1000000 in
theorem vjb_La_worthOf_133 {E : En} {g : Gl} {tb : Tb} {ρ : Nat → Nat} (ok : TbOK tb) (hi : inj tb ρ) {r : Int64 × Hp} (X : CX E g tb ρ prog_7_method_8_code 9 RC6 2 49) (Y : CQ E g tb ρ (some .long) (some (.long r.1)) r.2) {c10 : Hp → Nat → Int32 → Nat → Int32 → Int32 → Option (Int64 × Hp)} (H10 : ∀ (h : Hp) (l0 : Nat) (l1 : Int32) (l2 : Nat) (l3 : Int32) (l4 : Int32) (kl0 : kd tb l0 = 6) (kl2 : kd tb l2 = 20), c10 h l0 l1 l2 l3 l4 = some r → V E g tb ρ 9 10 [(0, .ref (ρ l0)), (1, .int l1), (2, .ref (ρ l2)), (3, .int l3), (4, .int l4)] [] h) (h : Hp) (l0 : Nat) (l1 : Int32) (l2 : Nat) (l3 : Int32) (l4 : Int32) (s0 : Nat) (s1 : Int32) (s2 : Int64) (kl0 : kd tb l0 = 6) (kl2 : kd tb l2 = 20) (ks0 : kd tb s0 = 23) (hf : jb_La_worthOf_133 tb c10 h l0 l1 l2 l3 l4 s0 s1 s2 = some r) : V E g tb ρ 9 133 [(0, .ref (ρ l0)), (1, .int l1), (2, .ref (ρ l2)), (3, .int l3), (4, .int l4)] [.long s2, .int s1, .ref (ρ s0)] h := by
  unfold jb_La_worthOf_133 at hf
  obtain ⟨h1, eh1, hf⟩ := bnd_e hf
  refine v_last (pc := 133) X ks0 eh1 (by decide +kernel) ?_
  refine v_goto (pc := 134) (off := 59) (tgt := 193) X (by decide +kernel) (by decide) ?_
  exact vjb_La_worthOf_193 ok hi X Y H10 h1 l0 l1 l2 l3 l4 kl0 kl2 hf
set_option maxRecDepth 4000 in
set_option maxHeartbeats 1000000 in
theorem vjb_La_worthOf_85 {E : En} {g : Gl} {tb : Tb} {ρ : Nat → Nat} (ok : TbOK tb) (hi : inj tb ρ) {r : Int64 × Hp} (X : CX E g tb ρ prog_7_method_8_code 9 RC6 2 49) (Y : CQ E g tb ρ (some .long) (some (.long r.1)) r.2) {c10 : Hp → Nat → Int32 → Nat → Int32 → Int32 → Option (Int64 × Hp)} (H10 : ∀ (h : Hp) (l0 : Nat) (l1 : Int32) (l2 : Nat) (l3 : Int32) (l4 : Int32) (kl0 : kd tb l0 = 6) (kl2 : kd tb l2 = 20), c10 h l0 l1 l2 l3 l4 = some r → V E g tb ρ 9 10 [(0, .ref (ρ l0)), (1, .int l1), (2, .ref (ρ l2)), (3, .int l3), (4, .int l4)] [] h) (h : Hp) (l0 : Nat) (l1 : Int32) (l2 : Nat) (l3 : Int32) (l4 : Int32) (s0 : Nat) (s1 : Int32) (s2 : Int64) (kl0 : kd tb l0 = 6) (kl2 : kd tb l2 = 20) (ks0 : kd tb s0 = 23) (hf : jb_La_worthOf_85 tb c10 h l0 l1 l2 l3 l4 s0 s1 s2 = some r) : V E g tb ρ 9 85 [(0, .ref (ρ l0)), (1, .int l1), (2, .ref (ρ l2)), (3, .int l3), (4, .int l4)] [.long s2, .int s1, .ref (ρ s0)] h := by
  unfold jb_La_worthOf_85 at hf
  obtain ⟨h1, eh1, hf⟩ := bnd_e hf
  refine v_last (pc := 85) X ks0 eh1 (by decide +kernel) ?_
  obtain ⟨x2, ex2, hf⟩ := nmd_e hf
  refine v_iinc (pc := 86) (k := 3) (n := 1) (v := x2) (lv' := [(3, .int x2), (0, .ref (ρ l0)), (1, .int l1), (2, .ref (ρ l2)), (4, .int l4)]) X (by decide +kernel) 3 rfl (by rw [ic_1, ex2]) (Nat.le_of_ble_eq_true rfl) rfl ?_
  refine v_goto (pc := 89) (off := 104) (tgt := 193) X (by decide +kernel) (by decide) ?_
  refine v_sub [1, 2, 3, 0, 4] rfl ?_
  exact vjb_La_worthOf_193 ok hi X Y H10 h1 l0 l1 l2 x2 l4 kl0 kl2 hf
set_option maxRecDepth 4000 in
set_option maxHeartbeats 1000000 in
theorem vjb_La_worthOf_48 {E : En} {g : Gl} {tb : Tb} {ρ : Nat → Nat} (ok : TbOK tb) (hi : inj tb ρ) {r : Int64 × Hp} (X : CX E g tb ρ prog_7_method_8_code 9 RC6 2 49) (Y : CQ E g tb ρ (some .long) (some (.long r.1)) r.2) {c10 : Hp → Nat → Int32 → Nat → Int32 → Int32 → Option (Int64 × Hp)} (H10 : ∀ (h : Hp) (l0 : Nat) (l1 : Int32) (l2 : Nat) (l3 : Int32) (l4 : Int32) (kl0 : kd tb l0 = 6) (kl2 : kd tb l2 = 20), c10 h l0 l1 l2 l3 l4 = some r → V E g tb ρ 9 10 [(0, .ref (ρ l0)), (1, .int l1), (2, .ref (ρ l2)), (3, .int l3), (4, .int l4)] [] h) (h : Hp) (l0 : Nat) (l1 : Int32) (l2 : Nat) (l3 : Int32) (l4 : Int32) (l5 : Int32) (l6 : Int32) (kl0 : kd tb l0 = 6) (kl2 : kd tb l2 = 20) (hf : jb_La_worthOf_48 tb c10 h l0 l1 l2 l3 l4 l5 l6 = some r) : V E g tb ρ 9 48 [(0, .ref (ρ l0)), (1, .int l1), (2, .ref (ρ l2)), (3, .int l3), (4, .int l4), (5, .int l5), (6, .int l6)] [] h := by
  unfold jb_La_worthOf_48 at hf
  refine v_iload_n (pc := 48) (k := 3) X (by decide +kernel) 3 rfl ?_
  refine v_aload_n (pc := 49) (k := 0) X (by decide +kernel) 0 rfl ?_
  refine v_geta (pc := 50) X fl_6_21 kl0 fk_6_5 (by decide +kernel) ?_
  refine v_alen (pc := 53) X (by rw [(ly_6_5 ok kl0)]; decide) (by decide +kernel) ?_
  refine v_icmp_lt (pc := 54) (off := 7) (tgt := 61) X (by decide +kernel) (by decide) (fun q3 => ?_) (fun q3 => ?_)
  · rw [if_pos q3] at hf
    refine v_aload_n (pc := 61) (k := 0) X (by decide +kernel) 0 rfl ?_
    refine v_geta (pc := 62) X fl_6_21 kl0 fk_6_5 (by decide +kernel) ?_
    refine v_iload_n (pc := 65) (k := 3) X (by decide +kernel) 3 rfl ?_
    refine v_iload (pc := 66) (k := 5) X (by decide +kernel) 5 rfl ?_
    refine v_if_lt (pc := 68) (off := 9) (tgt := 77) X (by decide +kernel) (by decide) (fun q2 => ?_) (fun q2 => ?_)
    · rw [if_pos q2] at hf
      refine v_aload_n (pc := 77) (k := 2) X (by decide +kernel) 2 rfl ?_
      refine v_iload (pc := 78) (k := 6) X (by decide +kernel) 6 rfl ?_
      refine v_bipush (pc := 80) (n := 23) X (by decide +kernel) bi_23 ?_
      refine v_isub (pc := 82) X (by decide +kernel) ?_
      obtain ⟨x1, ex1, hf⟩ := bnd_e hf
      refine v_iald (pc := 83) X kl2 ex1 (by decide +kernel) ?_
      refine v_i2l (pc := 84) X (by decide +kernel) ?_
      refine v_sub [0, 1, 2, 3, 4] rfl ?_
      exact vjb_La_worthOf_85 ok hi X Y H10 h l0 l1 l2 l3 l4 (lay tb l0 5) l3 (x1.toInt64) kl0 kl2 (ly_6_5 ok kl0) hf
    · rw [if_neg q2] at hf
      refine v_iload (pc := 71) (k := 5) X (by decide +kernel) 5 rfl ?_
      refine v_i2l (pc := 73) X (by decide +kernel) ?_
      refine v_goto (pc := 74) (off := 11) (tgt := 85) X (by decide +kernel) (by decide) ?_
      refine v_sub [0, 1, 2, 3, 4] rfl ?_
      exact vjb_La_worthOf_85 ok hi X Y H10 h l0 l1 l2 l3 l4 (lay tb l0 5) l3 (l5.toInt64) kl0 kl2 (ly_6_5 ok kl0) hf
  · rw [if_neg q3] at hf
    refine v_ldc2 (pc := 57) X (by decide +kernel) kl_6_46 ?_
    cases hf
    exact v_lret X Y (by decide +kernel) rfl rfl
set_option maxRecDepth 4000 in
set_option maxHeartbeats 1000000 in
theorem vlp_La_worthOf_10 {E : En} {g : Gl} {tb : Tb} {ρ : Nat → Nat} (ok : TbOK tb) (hi : inj tb ρ) {r : Int64 × Hp} (X : CX E g tb ρ prog_7_method_8_code 9 RC6 2 49) (Y : CQ E g tb ρ (some .long) (some (.long r.1)) r.2) : ∀ (n : Nat) (h : Hp) (l0 : Nat) (l1 : Int32) (l2 : Nat) (l3 : Int32) (l4 : Int32) (kl0 : kd tb l0 = 6) (kl2 : kd tb l2 = 20), lp_La_worthOf_10 tb n h l0 l1 l2 l3 l4 = some r → V E g tb ρ 9 10 [(0, .ref (ρ l0)), (1, .int l1), (2, .ref (ρ l2)), (3, .int l3), (4, .int l4)] [] h := by
  intro n
  induction n with
  | zero =>
    intro h l0 l1 l2 l3 l4 kl0 kl2 hf
    rw [lp_La_worthOf_10] at hf
    cases hf
  | succ n ih =>
    intro h l0 l1 l2 l3 l4 kl0 kl2 hf
    rw [lp_La_worthOf_10] at hf
    refine v_iload (pc := 10) (k := 4) X (by decide +kernel) 4 rfl ?_
    refine v_aload_n (pc := 12) (k := 0) X (by decide +kernel) 0 rfl ?_
    refine v_geta (pc := 13) X fl_6_18 kl0 fk_6_4 (by decide +kernel) ?_
    refine v_iload_n (pc := 16) (k := 1) X (by decide +kernel) 1 rfl ?_
    obtain ⟨x1, ex1, hf⟩ := bnd_e hf
    refine v_iald (pc := 17) X (ly_6_4 ok kl0) ex1 (by decide +kernel) ?_
    refine v_icmp_ge (pc := 18) (off := 181) (tgt := 199) X (by decide +kernel) (by decide) (fun q20 => ?_) (fun q20 => ?_)
    · rw [if_pos q20] at hf
      refine v_iload_n (pc := 199) (k := 3) X (by decide +kernel) 3 rfl ?_
      refine v_iconst (pc := 200) (n := 1) X (by decide +kernel) ic_1 ?_
      refine v_icmp_ne (pc := 201) (off := 12) (tgt := 213) X (by decide +kernel) (by decide) (fun q3 => ?_) (fun q3 => ?_)
      · rw [if_neg q3] at hf
        refine v_ldc2 (pc := 213) X (by decide +kernel) kl_6_46 ?_
        cases hf
        exact v_lret X Y (by decide +kernel) rfl rfl
      · rw [if_pos q3] at hf
        refine v_aload_n (pc := 204) (k := 0) X (by decide +kernel) 0 rfl ?_
        refine v_geta (pc := 205) X fl_6_21 kl0 fk_6_5 (by decide +kernel) ?_
        refine v_iconst (pc := 208) (n := 0) X (by decide +kernel) ic_0 ?_
        obtain ⟨x2, ex2, hf⟩ := bnd_e hf
        refine v_lald (pc := 209) X (ly_6_5 ok kl0) ex2 (by decide +kernel) ?_
        refine v_goto (pc := 210) (off := 6) (tgt := 216) X (by decide +kernel) (by decide) ?_
        cases hf
        exact v_lret X Y (by decide +kernel) rfl rfl
    · rw [if_neg q20] at hf
      refine v_aload_n (pc := 21) (k := 0) X (by decide +kernel) 0 rfl ?_
      refine v_geta (pc := 22) X fl_6_9 kl0 fk_6_2 (by decide +kernel) ?_
      refine v_iload (pc := 25) (k := 4) X (by decide +kernel) 4 rfl ?_
      obtain ⟨x4, ex4, hf⟩ := bnd_e hf
      refine v_iald (pc := 27) X (ly_6_2 ok kl0) ex4 (by decide +kernel) ?_
      refine v_istore (pc := 28) (k := 5) (lv' := [(5, .int x4), (0, .ref (ρ l0)), (1, .int l1), (2, .ref (ρ l2)), (3, .int l3), (4, .int l4)]) X (by decide +kernel) (Nat.le_of_ble_eq_true rfl) rfl ?_
      refine v_iload (pc := 30) (k := 5) X (by decide +kernel) 0 rfl ?_
      refine v_ineg (pc := 32) X (by decide +kernel) ?_
      obtain ⟨x5, ex5, hf⟩ := nmd_e hf
      refine v_nmi ex5 ?_
      refine v_istore (pc := 33) (k := 6) (lv' := [(6, .int x5), (5, .int x4), (0, .ref (ρ l0)), (1, .int l1), (2, .ref (ρ l2)), (3, .int l3), (4, .int l4)]) X (by decide +kernel) (Nat.le_of_ble_eq_true rfl) rfl ?_
      refine v_iload (pc := 35) (k := 5) X (by decide +kernel) 1 rfl ?_
      refine v_if_ge (pc := 37) (off := 11) (tgt := 48) X (by decide +kernel) (by decide) (fun q19 => ?_) (fun q19 => ?_)
      · rw [if_pos q19] at hf
        refine v_sub [2, 3, 4, 5, 6, 1, 0] rfl ?_
        exact vjb_La_worthOf_48 ok hi X Y ih h l0 l1 l2 l3 l4 x4 x5 kl0 kl2 hf
      · rw [if_neg q19] at hf
        refine v_iload (pc := 40) (k := 6) X (by decide +kernel) 0 rfl ?_
        obtain ⟨r6, er6, hf⟩ := nmd_e hf
        refine v_callSN (pc := 42) (As := [.int x5]) (rest := []) X (mt_Tt_isName ok hi er6.symm) ml_6_42 ms_Tt_isName ⟨Nat.le_of_ble_eq_true rfl, Nat.le_of_ble_eq_true rfl⟩ rfl rfl (Nat.le_of_ble_eq_true rfl) (by decide +kernel) ?_
        change V E g tb ρ 9 45 [(6, .int x5), (5, .int x4), (0, .ref (ρ l0)), (1, .int l1), (2, .ref (ρ l2)), (3, .int l3), (4, .int l4)] [.int r6] h
        refine v_if_eq (pc := 45) (off := 47) (tgt := 92) X (by decide +kernel) (by decide) (fun q18 => ?_) (fun q18 => ?_)
        · rw [if_pos q18] at hf
          refine v_iload (pc := 92) (k := 6) X (by decide +kernel) 0 rfl ?_
          refine v_bipush (pc := 94) (n := 22) X (by decide +kernel) bi_22 ?_
          refine v_icmp_ne (pc := 96) (off := 41) (tgt := 137) X (by decide +kernel) (by decide) (fun q17 => ?_) (fun q17 => ?_)
          · rw [if_neg q17] at hf
            refine v_iload_n (pc := 137) (k := 3) X (by decide +kernel) 5 rfl ?_
            refine v_iconst (pc := 138) (n := 2) X (by decide +kernel) ic_2 ?_
            refine v_icmp_ge (pc := 139) (off := 7) (tgt := 146) X (by decide +kernel) (by decide) (fun q13 => ?_) (fun q13 => ?_)
            · rw [if_pos q13] at hf
              obtain ⟨x7, ex7, hf⟩ := nmd_e hf
              refine v_iinc (pc := 146) (k := 3) (n := -1) (v := x7) (lv' := [(3, .int x7), (6, .int x5), (5, .int x4), (0, .ref (ρ l0)), (1, .int l1), (2, .ref (ρ l2)), (4, .int l4)]) X (by decide +kernel) 5 rfl (by rw [ic_m1, ex7]) (Nat.le_of_ble_eq_true rfl) rfl ?_
              refine v_iload (pc := 149) (k := 6) X (by decide +kernel) 1 rfl ?_
              refine v_aload_n (pc := 151) (k := 0) X (by decide +kernel) 3 rfl ?_
              refine v_geta (pc := 152) X fl_6_21 kl0 fk_6_5 (by decide +kernel) ?_
              refine v_iload_n (pc := 155) (k := 3) X (by decide +kernel) 0 rfl ?_
              refine v_iconst (pc := 156) (n := 1) X (by decide +kernel) ic_1 ?_
              refine v_isub (pc := 157) X (by decide +kernel) ?_
              obtain ⟨x8, ex8, hf⟩ := bnd_e hf
              refine v_lald (pc := 158) X (ly_6_5 ok kl0) ex8 (by decide +kernel) ?_
              refine v_aload_n (pc := 159) (k := 0) X (by decide +kernel) 3 rfl ?_
              refine v_geta (pc := 160) X fl_6_21 kl0 fk_6_5 (by decide +kernel) ?_
              refine v_iload_n (pc := 163) (k := 3) X (by decide +kernel) 0 rfl ?_
              obtain ⟨x9, ex9, hf⟩ := bnd_e hf
              refine v_lald (pc := 164) X (ly_6_5 ok kl0) ex9 (by decide +kernel) ?_
              obtain ⟨r10, er10, hf⟩ := bnd_e hf
              refine v_callS (pc := 165) (As := [.int x5, .long x8, .long x9]) (rest := []) X (mt_La_join ok hi er10) ml_6_48 ms_La_join ⟨Nat.le_of_ble_eq_true rfl, Nat.le_of_ble_eq_true rfl⟩ rfl rfl (Nat.le_of_ble_eq_true rfl) (by decide +kernel) ?_
              change V E g tb ρ 9 168 [(3, .int x7), (6, .int x5), (5, .int x4), (0, .ref (ρ l0)), (1, .int l1), (2, .ref (ρ l2)), (4, .int l4)] [.long r10] h
              refine v_lstore (pc := 168) (k := 7) (lv' := [(7, .long r10), (3, .int x7), (6, .int x5), (5, .int x4), (0, .ref (ρ l0)), (1, .int l1), (2, .ref (ρ l2)), (4, .int l4)]) X (by decide +kernel) (Nat.le_of_ble_eq_true rfl) rfl ?_
              refine v_lload (pc := 170) (k := 7) X (by decide +kernel) 0 rfl ?_
              refine v_ldc2 (pc := 172) X (by decide +kernel) kl_6_46 ?_
              refine v_lcmp (pc := 175) X (by decide +kernel) ?_
              refine v_if_ne (pc := 176) (off := 7) (tgt := 183) X (by decide +kernel) (by decide) (fun q12 => ?_) (fun q12 => ?_)
              · rw [if_neg q12] at hf
                refine v_aload_n (pc := 183) (k := 0) X (by decide +kernel) 4 rfl ?_
                refine v_geta (pc := 184) X fl_6_21 kl0 fk_6_5 (by decide +kernel) ?_
                refine v_iload_n (pc := 187) (k := 3) X (by decide +kernel) 1 rfl ?_
                refine v_iconst (pc := 188) (n := 1) X (by decide +kernel) ic_1 ?_
                refine v_isub (pc := 189) X (by decide +kernel) ?_
                refine v_lload (pc := 190) (k := 7) X (by decide +kernel) 0 rfl ?_
                obtain ⟨h11, eh11, hf⟩ := bnd_e hf
                refine v_last (pc := 192) X (ly_6_5 ok kl0) eh11 (by decide +kernel) ?_
                refine v_sub [4, 5, 6, 1, 7] rfl ?_
                exact vjb_La_worthOf_193 ok hi X Y ih h11 l0 l1 l2 x7 l4 kl0 kl2 hf
              · rw [if_pos q12] at hf
                refine v_ldc2 (pc := 179) X (by decide +kernel) kl_6_46 ?_
                cases hf
                exact v_lret X Y (by decide +kernel) rfl rfl
            · rw [if_neg q13] at hf
              refine v_ldc2 (pc := 142) X (by decide +kernel) kl_6_46 ?_
              cases hf
              exact v_lret X Y (by decide +kernel) rfl rfl
          · rw [if_pos q17] at hf
            refine v_iload_n (pc := 99) (k := 3) X (by decide +kernel) 5 rfl ?_
            refine v_iconst (pc := 100) (n := 1) X (by decide +kernel) ic_1 ?_
            refine v_icmp_ge (pc := 101) (off := 7) (tgt := 108) X (by decide +kernel) (by decide) (fun q16 => ?_) (fun q16 => ?_)
            · rw [if_pos q16] at hf
              refine v_aload_n (pc := 108) (k := 0) X (by decide +kernel) 2 rfl ?_
              refine v_geta (pc := 109) X fl_6_21 kl0 fk_6_5 (by decide +kernel) ?_
              refine v_iload_n (pc := 112) (k := 3) X (by decide +kernel) 5 rfl ?_
              refine v_iconst (pc := 113) (n := 1) X (by decide +kernel) ic_1 ?_
              refine v_isub (pc := 114) X (by decide +kernel) ?_
              refine v_aload_n (pc := 115) (k := 0) X (by decide +kernel) 2 rfl ?_
              refine v_geta (pc := 116) X fl_6_21 kl0 fk_6_5 (by decide +kernel) ?_
              refine v_iload_n (pc := 119) (k := 3) X (by decide +kernel) 5 rfl ?_
              refine v_iconst (pc := 120) (n := 1) X (by decide +kernel) ic_1 ?_
              refine v_isub (pc := 121) X (by decide +kernel) ?_
              obtain ⟨x14, ex14, hf⟩ := bnd_e hf
              refine v_lald (pc := 122) X (ly_6_5 ok kl0) ex14 (by decide +kernel) ?_
              refine v_lconst (pc := 123) (n := 0) X (by decide +kernel) lc_0 ?_
              refine v_lcmp (pc := 124) X (by decide +kernel) ?_
              refine v_if_ne (pc := 125) (off := 7) (tgt := 132) X (by decide +kernel) (by decide) (fun q15 => ?_) (fun q15 => ?_)
              · rw [if_neg q15] at hf
                refine v_lconst (pc := 132) (n := 0) X (by decide +kernel) lc_0 ?_
                refine v_sub [2, 3, 4, 5, 6] rfl ?_
                exact vjb_La_worthOf_133 ok hi X Y ih h l0 l1 l2 l3 l4 (lay tb l0 5) (l3 - (1 : Int32)) (0 : Int64) kl0 kl2 (ly_6_5 ok kl0) hf
              · rw [if_pos q15] at hf
                refine v_lconst (pc := 128) (n := 1) X (by decide +kernel) lc_1 ?_
                refine v_goto (pc := 129) (off := 4) (tgt := 133) X (by decide +kernel) (by decide) ?_
                refine v_sub [2, 3, 4, 5, 6] rfl ?_
                exact vjb_La_worthOf_133 ok hi X Y ih h l0 l1 l2 l3 l4 (lay tb l0 5) (l3 - (1 : Int32)) (1 : Int64) kl0 kl2 (ly_6_5 ok kl0) hf
            · rw [if_neg q16] at hf
              refine v_ldc2 (pc := 104) X (by decide +kernel) kl_6_46 ?_
              cases hf
              exact v_lret X Y (by decide +kernel) rfl rfl
        · rw [if_neg q18] at hf
          refine v_sub [2, 3, 4, 5, 6, 1, 0] rfl ?_
          exact vjb_La_worthOf_48 ok hi X Y ih h l0 l1 l2 l3 l4 x4 x5 kl0 kl2 hf
set_option maxRecDepth 4000 in
set_option maxHeartbeats 1000000 in
theorem mt_La_worthOf {g : Gl} {tb : Tb} {ρ : Nat → Nat} (ok : TbOK tb) (hi : inj tb ρ) {h : Hp} {l0 : Nat} {l1 : Int32} {l2 : Nat} (kl0 : kd tb l0 = 6) (kl2 : kd tb l2 = 20) {r : Int64 × Hp} (hf : f_La_worthOf tb h l0 l1 l2 = some r) : MT g y_La_worthOf prog_7_method_8_code 9 (some .long) 2 49 tb ρ [.ref (ρ l0), .int l1, .ref (ρ l2)] h (some (.long r.1)) r.2 := by
  refine mt_intro (by decide +kernel) ok hi (Nat.le_of_ble_eq_true rfl) (fun E X Y => ?_)
  change V E g tb ρ 9 0 [(0, .ref (ρ l0)), (1, .int l1), (2, .ref (ρ l2))] [] h
  unfold f_La_worthOf at hf
  refine v_iconst (pc := 0) (n := 0) X (by decide +kernel) ic_0 ?_
  refine v_istore_n (pc := 1) (k := 3) (lv' := [(3, .int (0 : Int32)), (0, .ref (ρ l0)), (1, .int l1), (2, .ref (ρ l2))]) X (by decide +kernel) (Nat.le_of_ble_eq_true rfl) rfl ?_
  refine v_aload_n (pc := 2) (k := 0) X (by decide +kernel) 1 rfl ?_
  refine v_geta (pc := 3) X fl_6_15 kl0 fk_6_3 (by decide +kernel) ?_
  refine v_iload_n (pc := 6) (k := 1) X (by decide +kernel) 2 rfl ?_
  obtain ⟨x1, ex1, hf⟩ := bnd_e hf
  refine v_iald (pc := 7) X (ly_6_3 ok kl0) ex1 (by decide +kernel) ?_
  refine v_istore (pc := 8) (k := 4) (lv' := [(4, .int x1), (3, .int (0 : Int32)), (0, .ref (ρ l0)), (1, .int l1), (2, .ref (ρ l2))]) X (by decide +kernel) (Nat.le_of_ble_eq_true rfl) rfl ?_
  refine v_sub [2, 3, 4, 1, 0] rfl ?_
  exact vlp_La_worthOf_10 ok hi X Y fu h l0 l1 l2 (0 : Int32) x1 kl0 kl2 hf
def f_Ho_worth (tb : Tb) (h : Hp) (l0 : Nat) (l1 : Nat) (l2 : Int32) (l3 : Int32) : Option (Int64 × Hp) :=
  (f_Ho_setNames tb h l0 l1 l3).bind fun r1 =>
  (f_La_worthOf tb r1 (lay tb (lay tb l0 0) 19) l2 (lay tb l0 1)).bind fun r2 =>
  some (r2.1, r2.2)
set_option maxRecDepth 4000 in
set_option maxHeartbeats 1000000 in
theorem mt_Ho_worth {g : Gl} {tb : Tb} {ρ : Nat → Nat} (ok : TbOK tb) (hi : inj tb ρ) {h : Hp} {l0 : Nat} {l1 : Nat} {l2 : Int32} {l3 : Int32} (kl0 : kd tb l0 = 4) (kl1 : kd tb l1 = 11) {r : Int64 × Hp} (hf : f_Ho_worth tb h l0 l1 l2 l3 = some r) : MT g y_Ho_worth prog_5_method_15_code 4 (some .long) 3 77 tb ρ [.ref (ρ l0), .ref (ρ l1), .int l2, .int l3] h (some (.long r.1)) r.2 := by
  refine mt_intro (by decide +kernel) ok hi (Nat.le_of_ble_eq_true rfl) (fun E X Y => ?_)
  change V E g tb ρ 4 0 [(0, .ref (ρ l0)), (1, .ref (ρ l1)), (2, .int l2), (3, .int l3)] [] h
  unfold f_Ho_worth at hf
  refine v_aload_n (pc := 0) (k := 0) X (by decide +kernel) 0 rfl ?_
  refine v_aload_n (pc := 1) (k := 1) X (by decide +kernel) 1 rfl ?_
  refine v_iload_n (pc := 2) (k := 3) X (by decide +kernel) 3 rfl ?_
  obtain ⟨r1, er1, hf⟩ := bnd_e hf
  refine v_callV (pc := 3) (As := [.ref (ρ l1), .int l3]) (rest := []) X (mt_Ho_setNames ok hi kl0 kl1 er1) ml_4_179 mv_Ho_setNames kl0 cls_4 rfl ⟨Nat.le_of_ble_eq_true rfl, Nat.le_of_ble_eq_true rfl⟩ rfl rfl (Nat.le_of_ble_eq_true rfl) (by decide +kernel) ?_
  change V E g tb ρ 4 6 [(0, .ref (ρ l0)), (1, .ref (ρ l1)), (2, .int l2), (3, .int l3)] [] r1
  refine v_aload_n (pc := 6) (k := 0) X (by decide +kernel) 0 rfl ?_
  refine v_geta (pc := 7) X fl_4_15 kl0 fk_4_0 (by decide +kernel) ?_
  refine v_geta (pc := 10) X fl_4_170 (ly_4_0 ok kl0) fk_7_19 (by decide +kernel) ?_
  refine v_iload_n (pc := 13) (k := 2) X (by decide +kernel) 2 rfl ?_
  refine v_aload_n (pc := 14) (k := 0) X (by decide +kernel) 0 rfl ?_
  refine v_geta (pc := 15) X fl_4_9 kl0 fk_4_1 (by decide +kernel) ?_
  obtain ⟨r2, er2, hf⟩ := bnd_e hf
  refine v_callV (pc := 18) (As := [.int l2, .ref (ρ (lay tb l0 1))]) (rest := []) X (mt_La_worthOf ok hi (ly_7_19 ok (ly_4_0 ok kl0)) (ly_4_1 ok kl0) er2) ml_4_183 mv_La_worthOf (ly_7_19 ok (ly_4_0 ok kl0)) cls_6 rfl ⟨Nat.le_of_ble_eq_true rfl, Nat.le_of_ble_eq_true rfl⟩ rfl rfl (Nat.le_of_ble_eq_true rfl) (by decide +kernel) ?_
  change V E g tb ρ 4 21 [(0, .ref (ρ l0)), (1, .ref (ρ l1)), (2, .int l2), (3, .int l3)] [.long r2.1] r2.2
  cases hf
  exact v_lret X Y (by decide +kernel) rfl rfl
def f_Tt_law (tb : Tb) (h : Hp) (l0 : Nat) (l1 : Int32) (l2 : Int32) : Option (Int64 × Hp) :=
  if l1 < (0 : Int32) then (
    some ((-9223372036854775808 : Int64), h)
  ) else (
    if (3 : Int32) ≤ l1 then (
      some ((-9223372036854775808 : Int64), h)
    ) else (
      nmd (f_Pl_hasHorse tb h (lay tb l0 3) l2) fun r1 =>
      if r1 = (0 : Int32) then (
        some ((-9223372036854775808 : Int64), h)
      ) else (
        nmd (f_Ho_asItGoes tb h (lay tb l0 9)) fun r2 =>
        (f_Ho_worth tb r2 (lay tb l0 9) (lay tb l0 4) l1 l2).bind fun r3 =>
        some (r3.1, r3.2)
      )
    )
  )
set_option maxRecDepth 4000 in
set_option maxHeartbeats 1000000 in
theorem mt_Tt_law {g : Gl} {tb : Tb} {ρ : Nat → Nat} (ok : TbOK tb) (hi : inj tb ρ) {h : Hp} {l0 : Nat} {l1 : Int32} {l2 : Int32} (kl0 : kd tb l0 = 0) {r : Int64 × Hp} (hf : f_Tt_law tb h l0 l1 l2 = some r) : MT g y_Tt_law prog_1_method_11_code 3 (some .long) 4 100 tb ρ [.ref (ρ l0), .int l1, .int l2] h (some (.long r.1)) r.2 := by
  refine mt_intro (by decide +kernel) ok hi (Nat.le_of_ble_eq_true rfl) (fun E X Y => ?_)
  change V E g tb ρ 3 0 [(0, .ref (ρ l0)), (1, .int l1), (2, .int l2)] [] h
  unfold f_Tt_law at hf
  refine v_iload_n (pc := 0) (k := 1) X (by decide +kernel) 1 rfl ?_
  refine v_if_lt (pc := 1) (off := 19) (tgt := 20) X (by decide +kernel) (by decide) (fun q6 => ?_) (fun q6 => ?_)
  · rw [if_pos q6] at hf
    refine v_ldc2 (pc := 20) X (by decide +kernel) kl_0_180 ?_
    cases hf
    exact v_lret X Y (by decide +kernel) rfl rfl
  · rw [if_neg q6] at hf
    refine v_iload_n (pc := 4) (k := 1) X (by decide +kernel) 1 rfl ?_
    refine v_iconst (pc := 5) (n := 3) X (by decide +kernel) ic_3 ?_
    refine v_icmp_ge (pc := 6) (off := 14) (tgt := 20) X (by decide +kernel) (by decide) (fun q5 => ?_) (fun q5 => ?_)
    · rw [if_pos q5] at hf
      refine v_ldc2 (pc := 20) X (by decide +kernel) kl_0_180 ?_
      cases hf
      exact v_lret X Y (by decide +kernel) rfl rfl
    · rw [if_neg q5] at hf
      refine v_aload_n (pc := 9) (k := 0) X (by decide +kernel) 0 rfl ?_
      refine v_geta (pc := 10) X fl_0_31 kl0 fk_0_3 (by decide +kernel) ?_
      refine v_iload_n (pc := 13) (k := 2) X (by decide +kernel) 2 rfl ?_
      obtain ⟨r1, er1, hf⟩ := nmd_e hf
      refine v_callV (pc := 14) (As := [.int l2]) (rest := []) X (mt_Pl_hasHorse ok hi (ly_0_3 ok kl0) er1.symm) ml_0_132 mv_Pl_hasHorse (ly_0_3 ok kl0) cls_7 rfl ⟨Nat.le_of_ble_eq_true rfl, Nat.le_of_ble_eq_true rfl⟩ rfl rfl (Nat.le_of_ble_eq_true rfl) (by decide +kernel) ?_
      change V E g tb ρ 3 17 [(0, .ref (ρ l0)), (1, .int l1), (2, .int l2)] [.int r1] h
      refine v_if_ne (pc := 17) (off := 7) (tgt := 24) X (by decide +kernel) (by decide) (fun q4 => ?_) (fun q4 => ?_)
      · rw [if_neg q4] at hf
        refine v_aload_n (pc := 24) (k := 0) X (by decide +kernel) 0 rfl ?_
        refine v_geta (pc := 25) X fl_0_68 kl0 fk_0_9 (by decide +kernel) ?_
        obtain ⟨r2, er2, hf⟩ := nmd_e hf
        refine v_callV (pc := 28) (As := []) (rest := []) X (mt_Ho_asItGoes ok hi (ly_0_9 ok kl0) er2.symm) ml_0_182 mv_Ho_asItGoes (ly_0_9 ok kl0) cls_4 rfl ⟨Nat.le_of_ble_eq_true rfl, Nat.le_of_ble_eq_true rfl⟩ rfl rfl (Nat.le_of_ble_eq_true rfl) (by decide +kernel) ?_
        change V E g tb ρ 3 31 [(0, .ref (ρ l0)), (1, .int l1), (2, .int l2)] [] r2
        refine v_aload_n (pc := 31) (k := 0) X (by decide +kernel) 0 rfl ?_
        refine v_geta (pc := 32) X fl_0_68 kl0 fk_0_9 (by decide +kernel) ?_
        refine v_aload_n (pc := 35) (k := 0) X (by decide +kernel) 0 rfl ?_
        refine v_geta (pc := 36) X fl_0_38 kl0 fk_0_4 (by decide +kernel) ?_
        refine v_iload_n (pc := 39) (k := 1) X (by decide +kernel) 1 rfl ?_
        refine v_iload_n (pc := 40) (k := 2) X (by decide +kernel) 2 rfl ?_
        obtain ⟨r3, er3, hf⟩ := bnd_e hf
        refine v_callV (pc := 41) (As := [.ref (ρ (lay tb l0 4)), .int l1, .int l2]) (rest := []) X (mt_Ho_worth ok hi (ly_0_9 ok kl0) (ly_0_4 ok kl0) er3) ml_0_185 mv_Ho_worth (ly_0_9 ok kl0) cls_4 rfl ⟨Nat.le_of_ble_eq_true rfl, Nat.le_of_ble_eq_true rfl⟩ rfl rfl (Nat.le_of_ble_eq_true rfl) (by decide +kernel) ?_
        change V E g tb ρ 3 44 [(0, .ref (ρ l0)), (1, .int l1), (2, .int l2)] [.long r3.1] r3.2
        cases hf
        exact v_lret X Y (by decide +kernel) rfl rfl
      · rw [if_pos q4] at hf
        refine v_ldc2 (pc := 20) X (by decide +kernel) kl_0_180 ?_
        cases hf
        exact v_lret X Y (by decide +kernel) rfl rfl
def f_De_shift (tb : Tb) (h : Hp) (l0 : Nat) : Option (Hp) :=
  (cpI tb h l0 (1 : Int32) l0 (0 : Int32) ((Int32.ofNat (al tb l0)) - (1 : Int32))).bind fun h1 =>
  some h1
set_option maxRecDepth 4000 in
set_option maxHeartbeats 1000000 in
theorem mt_De_shift {g : Gl} {tb : Tb} {ρ : Nat → Nat} (ok : TbOK tb) (hi : inj tb ρ) {h : Hp} {l0 : Nat} (kl0 : kd tb l0 = 20) {r : Hp} (hf : f_De_shift tb h l0 = some r) : MT g y_De_shift prog_3_method_6_code 1 none 1 18 tb ρ [.ref (ρ l0)] h (none) r := by
  refine mt_intro (by decide +kernel) ok hi (Nat.le_of_ble_eq_true rfl) (fun E X Y => ?_)
  change V E g tb ρ 1 0 [(0, .ref (ρ l0))] [] h
  unfold f_De_shift at hf
  refine v_aload_n (pc := 0) (k := 0) X (by decide +kernel) 0 rfl ?_
  refine v_iconst (pc := 1) (n := 1) X (by decide +kernel) ic_1 ?_
  refine v_aload_n (pc := 2) (k := 0) X (by decide +kernel) 0 rfl ?_
  refine v_iconst (pc := 3) (n := 0) X (by decide +kernel) ic_0 ?_
  refine v_aload_n (pc := 4) (k := 0) X (by decide +kernel) 0 rfl ?_
  refine v_alen (pc := 5) X (by rw [kl0]; decide) (by decide +kernel) ?_
  refine v_iconst (pc := 6) (n := 1) X (by decide +kernel) ic_1 ?_
  refine v_isub (pc := 7) X (by decide +kernel) ?_
  obtain ⟨h1, eh1, hf⟩ := bnd_e hf
  refine v_copy (pc := 8) X kl0 kl0 eh1 ma_2_43 mn_copy ms_copy mi_sys ⟨Nat.le_of_ble_eq_true rfl, Nat.le_of_ble_eq_true rfl⟩ (by decide +kernel) ?_
  cases hf
  exact v_vret X Y (by decide +kernel) rfl rfl
def f_De_makeRoom (tb : Tb) (h : Hp) (l0 : Nat) : Option (Hp) :=
  if (h.1 l0 0) < (20 : Int32) then (
    some h
  ) else (
    nmd (pI h l0 0 (19 : Int32)) fun h1 =>
    (f_De_shift tb h1 (lay tb l0 1)).bind fun r2 =>
    (f_De_shift tb r2 (lay tb l0 2)).bind fun r3 =>
    (f_De_shift tb r3 (lay tb l0 3)).bind fun r4 =>
    (f_De_shift tb r4 (lay tb l0 4)).bind fun r5 =>
    (f_De_shift tb r5 (lay tb l0 5)).bind fun r6 =>
    some r6
  )
set_option maxRecDepth 4000 in
set_option maxHeartbeats 1000000 in
theorem mt_De_makeRoom {g : Gl} {tb : Tb} {ρ : Nat → Nat} (ok : TbOK tb) (hi : inj tb ρ) {h : Hp} {l0 : Nat} (kl0 : kd tb l0 = 2) {r : Hp} (hf : f_De_makeRoom tb h l0 = some r) : MT g y_De_makeRoom prog_3_method_5_code 1 none 2 38 tb ρ [.ref (ρ l0)] h (none) r := by
  refine mt_intro (by decide +kernel) ok hi (Nat.le_of_ble_eq_true rfl) (fun E X Y => ?_)
  change V E g tb ρ 1 0 [(0, .ref (ρ l0))] [] h
  unfold f_De_makeRoom at hf
  refine v_aload_n (pc := 0) (k := 0) X (by decide +kernel) 0 rfl ?_
  refine v_geti (pc := 1) X fl_2_9 kl0 rfl (by decide +kernel) ?_
  refine v_bipush (pc := 4) (n := 20) X (by decide +kernel) bi_20 ?_
  refine v_icmp_lt (pc := 6) (off := 44) (tgt := 50) X (by decide +kernel) (by decide) (fun q7 => ?_) (fun q7 => ?_)
  · rw [if_pos q7] at hf
    cases hf
    exact v_vret X Y (by decide +kernel) rfl rfl
  · rw [if_neg q7] at hf
    refine v_aload_n (pc := 9) (k := 0) X (by decide +kernel) 0 rfl ?_
    refine v_bipush (pc := 10) (n := 19) X (by decide +kernel) bi_19 ?_
    obtain ⟨h1, eh1, hf⟩ := nmd_e hf
    refine v_puti (pc := 12) X fp_2_9 kl0 rfl (by decide +kernel) eh1 ?_
    refine v_aload_n (pc := 15) (k := 0) X (by decide +kernel) 0 rfl ?_
    refine v_geta (pc := 16) X fl_2_15 kl0 fk_2_1 (by decide +kernel) ?_
    obtain ⟨r2, er2, hf⟩ := bnd_e hf
    refine v_callS (pc := 19) (As := [.ref (ρ (lay tb l0 1))]) (rest := []) X (mt_De_shift ok hi (ly_2_1 ok kl0) er2) ml_2_39 ms_De_shift ⟨Nat.le_of_ble_eq_true rfl, Nat.le_of_ble_eq_true rfl⟩ rfl rfl (Nat.le_of_ble_eq_true rfl) (by decide +kernel) ?_
    change V E g tb ρ 1 22 [(0, .ref (ρ l0))] [] r2
    refine v_aload_n (pc := 22) (k := 0) X (by decide +kernel) 0 rfl ?_
    refine v_geta (pc := 23) X fl_2_19 kl0 fk_2_2 (by decide +kernel) ?_
    obtain ⟨r3, er3, hf⟩ := bnd_e hf
    refine v_callS (pc := 26) (As := [.ref (ρ (lay tb l0 2))]) (rest := []) X (mt_De_shift ok hi (ly_2_2 ok kl0) er3) ml_2_39 ms_De_shift ⟨Nat.le_of_ble_eq_true rfl, Nat.le_of_ble_eq_true rfl⟩ rfl rfl (Nat.le_of_ble_eq_true rfl) (by decide +kernel) ?_
    change V E g tb ρ 1 29 [(0, .ref (ρ l0))] [] r3
    refine v_aload_n (pc := 29) (k := 0) X (by decide +kernel) 0 rfl ?_
    refine v_geta (pc := 30) X fl_2_22 kl0 fk_2_3 (by decide +kernel) ?_
    obtain ⟨r4, er4, hf⟩ := bnd_e hf
    refine v_callS (pc := 33) (As := [.ref (ρ (lay tb l0 3))]) (rest := []) X (mt_De_shift ok hi (ly_2_3 ok kl0) er4) ml_2_39 ms_De_shift ⟨Nat.le_of_ble_eq_true rfl, Nat.le_of_ble_eq_true rfl⟩ rfl rfl (Nat.le_of_ble_eq_true rfl) (by decide +kernel) ?_
    change V E g tb ρ 1 36 [(0, .ref (ρ l0))] [] r4
    refine v_aload_n (pc := 36) (k := 0) X (by decide +kernel) 0 rfl ?_
    refine v_geta (pc := 37) X fl_2_25 kl0 fk_2_4 (by decide +kernel) ?_
    obtain ⟨r5, er5, hf⟩ := bnd_e hf
    refine v_callS (pc := 40) (As := [.ref (ρ (lay tb l0 4))]) (rest := []) X (mt_De_shift ok hi (ly_2_4 ok kl0) er5) ml_2_39 ms_De_shift ⟨Nat.le_of_ble_eq_true rfl, Nat.le_of_ble_eq_true rfl⟩ rfl rfl (Nat.le_of_ble_eq_true rfl) (by decide +kernel) ?_
    change V E g tb ρ 1 43 [(0, .ref (ρ l0))] [] r5
    refine v_aload_n (pc := 43) (k := 0) X (by decide +kernel) 0 rfl ?_
    refine v_geta (pc := 44) X fl_2_28 kl0 fk_2_5 (by decide +kernel) ?_
    obtain ⟨r6, er6, hf⟩ := bnd_e hf
    refine v_callS (pc := 47) (As := [.ref (ρ (lay tb l0 5))]) (rest := []) X (mt_De_shift ok hi (ly_2_5 ok kl0) er6) ml_2_39 ms_De_shift ⟨Nat.le_of_ble_eq_true rfl, Nat.le_of_ble_eq_true rfl⟩ rfl rfl (Nat.le_of_ble_eq_true rfl) (by decide +kernel) ?_
    change V E g tb ρ 1 50 [(0, .ref (ρ l0))] [] r6
    cases hf
    exact v_vret X Y (by decide +kernel) rfl rfl
def f_De_rememberHorse (tb : Tb) (h : Hp) (l0 : Nat) (l1 : Int32) (l2 : Nat) : Option (Hp) :=
  (f_De_makeRoom tb h l0).bind fun r1 =>
  (wI tb r1 (lay tb l0 1) (r1.1 l0 0) l1).bind fun h2 =>
  (wI tb h2 (lay tb l0 2) (h2.1 l0 0) (-1 : Int32)).bind fun h3 =>
  (rI tb h3 (lay tb l2 9) l1).bind fun x4 =>
  (wI tb h3 (lay tb l0 3) (h3.1 l0 0) x4).bind fun h5 =>
  (rI tb h5 (lay tb l2 12) l1).bind fun x6 =>
  (wI tb h5 (lay tb l0 4) (h5.1 l0 0) x6).bind fun h7 =>
  nmd (pI h7 l0 0 ((h7.1 l0 0) + (1 : Int32))) fun h8 =>
  some h8
set_option maxRecDepth 4000 in
set_option maxHeartbeats 1000000 in
theorem mt_De_rememberHorse {g : Gl} {tb : Tb} {ρ : Nat → Nat} (ok : TbOK tb) (hi : inj tb ρ) {h : Hp} {l0 : Nat} {l1 : Int32} {l2 : Nat} (kl0 : kd tb l0 = 2) (kl2 : kd tb l2 = 11) {r : Hp} (hf : f_De_rememberHorse tb h l0 l1 l2 = some r) : MT g y_De_rememberHorse prog_3_method_3_code 3 none 3 58 tb ρ [.ref (ρ l0), .int l1, .ref (ρ l2)] h (none) r := by
  refine mt_intro (by decide +kernel) ok hi (Nat.le_of_ble_eq_true rfl) (fun E X Y => ?_)
  change V E g tb ρ 3 0 [(0, .ref (ρ l0)), (1, .int l1), (2, .ref (ρ l2))] [] h
  unfold f_De_rememberHorse at hf
  refine v_aload_n (pc := 0) (k := 0) X (by decide +kernel) 0 rfl ?_
  obtain ⟨r1, er1, hf⟩ := bnd_e hf
  refine v_callV (pc := 1) (As := []) (rest := []) X (mt_De_makeRoom ok hi kl0 er1) ml_2_31 mv_De_makeRoom kl0 cls_2 rfl ⟨Nat.le_of_ble_eq_true rfl, Nat.le_of_ble_eq_true rfl⟩ rfl rfl (Nat.le_of_ble_eq_true rfl) (by decide +kernel) ?_
  change V E g tb ρ 3 4 [(0, .ref (ρ l0)), (1, .int l1), (2, .ref (ρ l2))] [] r1
  refine v_aload_n (pc := 4) (k := 0) X (by decide +kernel) 0 rfl ?_
  refine v_geta (pc := 5) X fl_2_15 kl0 fk_2_1 (by decide +kernel) ?_
  refine v_aload_n (pc := 8) (k := 0) X (by decide +kernel) 0 rfl ?_
  refine v_geti (pc := 9) X fl_2_9 kl0 rfl (by decide +kernel) ?_
  refine v_iload_n (pc := 12) (k := 1) X (by decide +kernel) 1 rfl ?_
  obtain ⟨h2, eh2, hf⟩ := bnd_e hf
  refine v_iast (pc := 13) X (ly_2_1 ok kl0) eh2 (by decide +kernel) ?_
  refine v_aload_n (pc := 14) (k := 0) X (by decide +kernel) 0 rfl ?_
  refine v_geta (pc := 15) X fl_2_19 kl0 fk_2_2 (by decide +kernel) ?_
  refine v_aload_n (pc := 18) (k := 0) X (by decide +kernel) 0 rfl ?_
  refine v_geti (pc := 19) X fl_2_9 kl0 rfl (by decide +kernel) ?_
  refine v_iconst (pc := 22) (n := -1) X (by decide +kernel) ic_m1 ?_
  obtain ⟨h3, eh3, hf⟩ := bnd_e hf
  refine v_iast (pc := 23) X (ly_2_2 ok kl0) eh3 (by decide +kernel) ?_
  refine v_aload_n (pc := 24) (k := 0) X (by decide +kernel) 0 rfl ?_
  refine v_geta (pc := 25) X fl_2_22 kl0 fk_2_3 (by decide +kernel) ?_
  refine v_aload_n (pc := 28) (k := 0) X (by decide +kernel) 0 rfl ?_
  refine v_geti (pc := 29) X fl_2_9 kl0 rfl (by decide +kernel) ?_
  refine v_aload_n (pc := 32) (k := 2) X (by decide +kernel) 2 rfl ?_
  refine v_geta (pc := 33) X fl_2_34 kl2 fk_11_9 (by decide +kernel) ?_
  refine v_iload_n (pc := 36) (k := 1) X (by decide +kernel) 1 rfl ?_
  obtain ⟨x4, ex4, hf⟩ := bnd_e hf
  refine v_iald (pc := 37) X (ly_11_9 ok kl2) ex4 (by decide +kernel) ?_
  obtain ⟨h5, eh5, hf⟩ := bnd_e hf
  refine v_iast (pc := 38) X (ly_2_3 ok kl0) eh5 (by decide +kernel) ?_
  refine v_aload_n (pc := 39) (k := 0) X (by decide +kernel) 0 rfl ?_
  refine v_geta (pc := 40) X fl_2_25 kl0 fk_2_4 (by decide +kernel) ?_
  refine v_aload_n (pc := 43) (k := 0) X (by decide +kernel) 0 rfl ?_
  refine v_geti (pc := 44) X fl_2_9 kl0 rfl (by decide +kernel) ?_
  refine v_aload_n (pc := 47) (k := 2) X (by decide +kernel) 2 rfl ?_
  refine v_geta (pc := 48) X fl_2_37 kl2 fk_11_12 (by decide +kernel) ?_
  refine v_iload_n (pc := 51) (k := 1) X (by decide +kernel) 1 rfl ?_
  obtain ⟨x6, ex6, hf⟩ := bnd_e hf
  refine v_iald (pc := 52) X (ly_11_12 ok kl2) ex6 (by decide +kernel) ?_
  obtain ⟨h7, eh7, hf⟩ := bnd_e hf
  refine v_iast (pc := 53) X (ly_2_4 ok kl0) eh7 (by decide +kernel) ?_
  refine v_aload_n (pc := 54) (k := 0) X (by decide +kernel) 0 rfl ?_
  refine v_dup (pc := 55) X (by decide +kernel) rfl ?_
  refine v_geti (pc := 56) X fl_2_9 kl0 rfl (by decide +kernel) ?_
  refine v_iconst (pc := 59) (n := 1) X (by decide +kernel) ic_1 ?_
  refine v_iadd (pc := 60) X (by decide +kernel) ?_
  obtain ⟨h8, eh8, hf⟩ := nmd_e hf
  refine v_puti (pc := 61) X fp_2_9 kl0 rfl (by decide +kernel) eh8 ?_
  cases hf
  exact v_vret X Y (by decide +kernel) rfl rfl
def f_Tt_send (tb : Tb) (h : Hp) (l0 : Nat) (l1 : Int32) (l2 : Int32) : Option (Int32 × Hp) :=
  nmd (f_Pl_hasHorse tb h (lay tb l0 3) l1) fun r1 =>
  if r1 = (0 : Int32) then (
    some ((-1 : Int32), h)
  ) else (
    nmd (f_Pl_hasTrough tb h (lay tb l0 3) l2) fun r2 =>
    if r2 = (0 : Int32) then (
      some ((-1 : Int32), h)
    ) else (
      nmd (f_Wo_isOn tb h (lay tb l0 4) l1) fun r3 =>
      if r3 = (0 : Int32) then (
        some ((-1 : Int32), h)
      ) else (
        (rI tb h (lay tb (lay tb l0 4) 12) l1).bind fun x4 =>
        if x4 = l2 then (
          some ((-2 : Int32), h)
        ) else (
          (f_De_rememberHorse tb h (lay tb l0 7) l1 (lay tb l0 4)).bind fun r5 =>
          (wI tb r5 (lay tb (lay tb l0 4) 12) l1 l2).bind fun h6 =>
          (rI tb h6 (lay tb (lay tb l0 3) 7) l2).bind fun x7 =>
          (rI tb h6 (lay tb (lay tb l0 4) 9) l1).bind fun x8 =>
          some (abI (x7 - x8), h6)
        )
      )
    )
  )
set_option maxRecDepth 4000 in
set_option maxHeartbeats 1000000 in
theorem mt_Tt_send {g : Gl} {tb : Tb} {ρ : Nat → Nat} (ok : TbOK tb) (hi : inj tb ρ) {h : Hp} {l0 : Nat} {l1 : Int32} {l2 : Int32} (kl0 : kd tb l0 = 0) {r : Int32 × Hp} (hf : f_Tt_send tb h l0 l1 l2 = some r) : MT g y_Tt_send prog_1_method_12_code 3 (some .int) 4 80 tb ρ [.ref (ρ l0), .int l1, .int l2] h (some (.int r.1)) r.2 := by
  refine mt_intro (by decide +kernel) ok hi (Nat.le_of_ble_eq_true rfl) (fun E X Y => ?_)
  change V E g tb ρ 3 0 [(0, .ref (ρ l0)), (1, .int l1), (2, .int l2)] [] h
  unfold f_Tt_send at hf
  refine v_aload_n (pc := 0) (k := 0) X (by decide +kernel) 0 rfl ?_
  refine v_geta (pc := 1) X fl_0_31 kl0 fk_0_3 (by decide +kernel) ?_
  refine v_iload_n (pc := 4) (k := 1) X (by decide +kernel) 1 rfl ?_
  obtain ⟨r1, er1, hf⟩ := nmd_e hf
  refine v_callV (pc := 5) (As := [.int l1]) (rest := []) X (mt_Pl_hasHorse ok hi (ly_0_3 ok kl0) er1.symm) ml_0_132 mv_Pl_hasHorse (ly_0_3 ok kl0) cls_7 rfl ⟨Nat.le_of_ble_eq_true rfl, Nat.le_of_ble_eq_true rfl⟩ rfl rfl (Nat.le_of_ble_eq_true rfl) (by decide +kernel) ?_
  change V E g tb ρ 3 8 [(0, .ref (ρ l0)), (1, .int l1), (2, .int l2)] [.int r1] h
  refine v_if_eq (pc := 8) (off := 25) (tgt := 33) X (by decide +kernel) (by decide) (fun q12 => ?_) (fun q12 => ?_)
  · rw [if_pos q12] at hf
    refine v_iconst (pc := 33) (n := -1) X (by decide +kernel) ic_m1 ?_
    cases hf
    exact v_iret X Y (by decide +kernel) rfl rfl
  · rw [if_neg q12] at hf
    refine v_aload_n (pc := 11) (k := 0) X (by decide +kernel) 0 rfl ?_
    refine v_geta (pc := 12) X fl_0_31 kl0 fk_0_3 (by decide +kernel) ?_
    refine v_iload_n (pc := 15) (k := 2) X (by decide +kernel) 2 rfl ?_
    obtain ⟨r2, er2, hf⟩ := nmd_e hf
    refine v_callV (pc := 16) (As := [.int l2]) (rest := []) X (mt_Pl_hasTrough ok hi (ly_0_3 ok kl0) er2.symm) ml_0_165 mv_Pl_hasTrough (ly_0_3 ok kl0) cls_7 rfl ⟨Nat.le_of_ble_eq_true rfl, Nat.le_of_ble_eq_true rfl⟩ rfl rfl (Nat.le_of_ble_eq_true rfl) (by decide +kernel) ?_
    change V E g tb ρ 3 19 [(0, .ref (ρ l0)), (1, .int l1), (2, .int l2)] [.int r2] h
    refine v_if_eq (pc := 19) (off := 14) (tgt := 33) X (by decide +kernel) (by decide) (fun q11 => ?_) (fun q11 => ?_)
    · rw [if_pos q11] at hf
      refine v_iconst (pc := 33) (n := -1) X (by decide +kernel) ic_m1 ?_
      cases hf
      exact v_iret X Y (by decide +kernel) rfl rfl
    · rw [if_neg q11] at hf
      refine v_aload_n (pc := 22) (k := 0) X (by decide +kernel) 0 rfl ?_
      refine v_geta (pc := 23) X fl_0_38 kl0 fk_0_4 (by decide +kernel) ?_
      refine v_iload_n (pc := 26) (k := 1) X (by decide +kernel) 1 rfl ?_
      obtain ⟨r3, er3, hf⟩ := nmd_e hf
      refine v_callV (pc := 27) (As := [.int l1]) (rest := []) X (mt_Wo_isOn ok hi (ly_0_4 ok kl0) er3.symm) ml_0_156 mv_Wo_isOn (ly_0_4 ok kl0) cls_11 rfl ⟨Nat.le_of_ble_eq_true rfl, Nat.le_of_ble_eq_true rfl⟩ rfl rfl (Nat.le_of_ble_eq_true rfl) (by decide +kernel) ?_
      change V E g tb ρ 3 30 [(0, .ref (ρ l0)), (1, .int l1), (2, .int l2)] [.int r3] h
      refine v_if_ne (pc := 30) (off := 5) (tgt := 35) X (by decide +kernel) (by decide) (fun q10 => ?_) (fun q10 => ?_)
      · rw [if_neg q10] at hf
        refine v_aload_n (pc := 35) (k := 0) X (by decide +kernel) 0 rfl ?_
        refine v_geta (pc := 36) X fl_0_38 kl0 fk_0_4 (by decide +kernel) ?_
        refine v_geta (pc := 39) X fl_0_150 (ly_0_4 ok kl0) fk_11_12 (by decide +kernel) ?_
        refine v_iload_n (pc := 42) (k := 1) X (by decide +kernel) 1 rfl ?_
        obtain ⟨x4, ex4, hf⟩ := bnd_e hf
        refine v_iald (pc := 43) X (ly_11_12 ok (ly_0_4 ok kl0)) ex4 (by decide +kernel) ?_
        refine v_iload_n (pc := 44) (k := 2) X (by decide +kernel) 2 rfl ?_
        refine v_icmp_ne (pc := 45) (off := 6) (tgt := 51) X (by decide +kernel) (by decide) (fun q9 => ?_) (fun q9 => ?_)
        · rw [if_neg q9] at hf
          refine v_aload_n (pc := 51) (k := 0) X (by decide +kernel) 0 rfl ?_
          refine v_geta (pc := 52) X fl_0_52 kl0 fk_0_7 (by decide +kernel) ?_
          refine v_iload_n (pc := 55) (k := 1) X (by decide +kernel) 1 rfl ?_
          refine v_aload_n (pc := 56) (k := 0) X (by decide +kernel) 0 rfl ?_
          refine v_geta (pc := 57) X fl_0_38 kl0 fk_0_4 (by decide +kernel) ?_
          obtain ⟨r5, er5, hf⟩ := bnd_e hf
          refine v_callV (pc := 60) (As := [.int l1, .ref (ρ (lay tb l0 4))]) (rest := []) X (mt_De_rememberHorse ok hi (ly_0_7 ok kl0) (ly_0_4 ok kl0) er5) ml_0_189 mv_De_rememberHorse (ly_0_7 ok kl0) cls_2 rfl ⟨Nat.le_of_ble_eq_true rfl, Nat.le_of_ble_eq_true rfl⟩ rfl rfl (Nat.le_of_ble_eq_true rfl) (by decide +kernel) ?_
          change V E g tb ρ 3 63 [(0, .ref (ρ l0)), (1, .int l1), (2, .int l2)] [] r5
          refine v_aload_n (pc := 63) (k := 0) X (by decide +kernel) 0 rfl ?_
          refine v_geta (pc := 64) X fl_0_38 kl0 fk_0_4 (by decide +kernel) ?_
          refine v_geta (pc := 67) X fl_0_150 (ly_0_4 ok kl0) fk_11_12 (by decide +kernel) ?_
          refine v_iload_n (pc := 70) (k := 1) X (by decide +kernel) 1 rfl ?_
          refine v_iload_n (pc := 71) (k := 2) X (by decide +kernel) 2 rfl ?_
          obtain ⟨h6, eh6, hf⟩ := bnd_e hf
          refine v_iast (pc := 72) X (ly_11_12 ok (ly_0_4 ok kl0)) eh6 (by decide +kernel) ?_
          refine v_aload_n (pc := 73) (k := 0) X (by decide +kernel) 0 rfl ?_
          refine v_geta (pc := 74) X fl_0_31 kl0 fk_0_3 (by decide +kernel) ?_
          refine v_geta (pc := 77) X fl_0_168 (ly_0_3 ok kl0) fk_7_7 (by decide +kernel) ?_
          refine v_iload_n (pc := 80) (k := 2) X (by decide +kernel) 2 rfl ?_
          obtain ⟨x7, ex7, hf⟩ := bnd_e hf
          refine v_iald (pc := 81) X (ly_7_7 ok (ly_0_3 ok kl0)) ex7 (by decide +kernel) ?_
          refine v_aload_n (pc := 82) (k := 0) X (by decide +kernel) 0 rfl ?_
          refine v_geta (pc := 83) X fl_0_38 kl0 fk_0_4 (by decide +kernel) ?_
          refine v_geta (pc := 86) X fl_0_142 (ly_0_4 ok kl0) fk_11_9 (by decide +kernel) ?_
          refine v_iload_n (pc := 89) (k := 1) X (by decide +kernel) 1 rfl ?_
          obtain ⟨x8, ex8, hf⟩ := bnd_e hf
          refine v_iald (pc := 90) X (ly_11_9 ok (ly_0_4 ok kl0)) ex8 (by decide +kernel) ?_
          refine v_isub (pc := 91) X (by decide +kernel) ?_
          refine v_mabs (pc := 92) X mm_0_193 ms_mabs mc_mabs mi_math ⟨Nat.le_of_ble_eq_true rfl, Nat.le_of_ble_eq_true rfl⟩ (by decide +kernel) ?_
          cases hf
          exact v_iret X Y (by decide +kernel) rfl rfl
        · rw [if_pos q9] at hf
          refine v_bipush (pc := 48) (n := -2) X (by decide +kernel) bi_m2 ?_
          cases hf
          exact v_iret X Y (by decide +kernel) rfl rfl
      · rw [if_pos q10] at hf
        refine v_iconst (pc := 33) (n := -1) X (by decide +kernel) ic_m1 ?_
        cases hf
        exact v_iret X Y (by decide +kernel) rfl rfl
def f_De_rememberTrough (tb : Tb) (h : Hp) (l0 : Nat) (l1 : Int32) (l2 : Nat) : Option (Hp) :=
  (f_De_makeRoom tb h l0).bind fun r1 =>
  (wI tb r1 (lay tb l0 1) (r1.1 l0 0) (-1 : Int32)).bind fun h2 =>
  (wI tb h2 (lay tb l0 2) (h2.1 l0 0) l1).bind fun h3 =>
  (rI tb h3 (lay tb l2 14) l1).bind fun x4 =>
  (wI tb h3 (lay tb l0 5) (h3.1 l0 0) x4).bind fun h5 =>
  nmd (pI h5 l0 0 ((h5.1 l0 0) + (1 : Int32))) fun h6 =>
  some h6
set_option maxRecDepth 4000 in
set_option maxHeartbeats 1000000 in
theorem mt_De_rememberTrough {g : Gl} {tb : Tb} {ρ : Nat → Nat} (ok : TbOK tb) (hi : inj tb ρ) {h : Hp} {l0 : Nat} {l1 : Int32} {l2 : Nat} (kl0 : kd tb l0 = 2) (kl2 : kd tb l2 = 11) {r : Hp} (hf : f_De_rememberTrough tb h l0 l1 l2 = some r) : MT g y_De_rememberTrough prog_3_method_4_code 3 none 3 58 tb ρ [.ref (ρ l0), .int l1, .ref (ρ l2)] h (none) r := by
  refine mt_intro (by decide +kernel) ok hi (Nat.le_of_ble_eq_true rfl) (fun E X Y => ?_)
  change V E g tb ρ 3 0 [(0, .ref (ρ l0)), (1, .int l1), (2, .ref (ρ l2))] [] h
  unfold f_De_rememberTrough at hf
  refine v_aload_n (pc := 0) (k := 0) X (by decide +kernel) 0 rfl ?_
  obtain ⟨r1, er1, hf⟩ := bnd_e hf
  refine v_callV (pc := 1) (As := []) (rest := []) X (mt_De_makeRoom ok hi kl0 er1) ml_2_31 mv_De_makeRoom kl0 cls_2 rfl ⟨Nat.le_of_ble_eq_true rfl, Nat.le_of_ble_eq_true rfl⟩ rfl rfl (Nat.le_of_ble_eq_true rfl) (by decide +kernel) ?_
  change V E g tb ρ 3 4 [(0, .ref (ρ l0)), (1, .int l1), (2, .ref (ρ l2))] [] r1
  refine v_aload_n (pc := 4) (k := 0) X (by decide +kernel) 0 rfl ?_
  refine v_geta (pc := 5) X fl_2_15 kl0 fk_2_1 (by decide +kernel) ?_
  refine v_aload_n (pc := 8) (k := 0) X (by decide +kernel) 0 rfl ?_
  refine v_geti (pc := 9) X fl_2_9 kl0 rfl (by decide +kernel) ?_
  refine v_iconst (pc := 12) (n := -1) X (by decide +kernel) ic_m1 ?_
  obtain ⟨h2, eh2, hf⟩ := bnd_e hf
  refine v_iast (pc := 13) X (ly_2_1 ok kl0) eh2 (by decide +kernel) ?_
  refine v_aload_n (pc := 14) (k := 0) X (by decide +kernel) 0 rfl ?_
  refine v_geta (pc := 15) X fl_2_19 kl0 fk_2_2 (by decide +kernel) ?_
  refine v_aload_n (pc := 18) (k := 0) X (by decide +kernel) 0 rfl ?_
  refine v_geti (pc := 19) X fl_2_9 kl0 rfl (by decide +kernel) ?_
  refine v_iload_n (pc := 22) (k := 1) X (by decide +kernel) 1 rfl ?_
  obtain ⟨h3, eh3, hf⟩ := bnd_e hf
  refine v_iast (pc := 23) X (ly_2_2 ok kl0) eh3 (by decide +kernel) ?_
  refine v_aload_n (pc := 24) (k := 0) X (by decide +kernel) 0 rfl ?_
  refine v_geta (pc := 25) X fl_2_28 kl0 fk_2_5 (by decide +kernel) ?_
  refine v_aload_n (pc := 28) (k := 0) X (by decide +kernel) 0 rfl ?_
  refine v_geti (pc := 29) X fl_2_9 kl0 rfl (by decide +kernel) ?_
  refine v_aload_n (pc := 32) (k := 2) X (by decide +kernel) 2 rfl ?_
  refine v_geta (pc := 33) X fl_2_38 kl2 fk_11_14 (by decide +kernel) ?_
  refine v_iload_n (pc := 36) (k := 1) X (by decide +kernel) 1 rfl ?_
  obtain ⟨x4, ex4, hf⟩ := bnd_e hf
  refine v_iald (pc := 37) X (ly_11_14 ok kl2) ex4 (by decide +kernel) ?_
  obtain ⟨h5, eh5, hf⟩ := bnd_e hf
  refine v_iast (pc := 38) X (ly_2_5 ok kl0) eh5 (by decide +kernel) ?_
  refine v_aload_n (pc := 39) (k := 0) X (by decide +kernel) 0 rfl ?_
  refine v_dup (pc := 40) X (by decide +kernel) rfl ?_
  refine v_geti (pc := 41) X fl_2_9 kl0 rfl (by decide +kernel) ?_
  refine v_iconst (pc := 44) (n := 1) X (by decide +kernel) ic_1 ?_
  refine v_iadd (pc := 45) X (by decide +kernel) ?_
  obtain ⟨h6, eh6, hf⟩ := nmd_e hf
  refine v_puti (pc := 46) X fp_2_9 kl0 rfl (by decide +kernel) eh6 ?_
  cases hf
  exact v_vret X Y (by decide +kernel) rfl rfl
def f_Tt_fill (tb : Tb) (h : Hp) (l0 : Nat) (l1 : Int32) (l2 : Int32) : Option (Int32 × Hp) :=
  nmd (f_Pl_hasTrough tb h (lay tb l0 3) l1) fun r1 =>
  if r1 = (0 : Int32) then (
    some ((-1 : Int32), h)
  ) else (
    if l2 < (1 : Int32) then (
      some ((-1 : Int32), h)
    ) else (
      if l2 ≤ (99 : Int32) then (
        (f_De_rememberTrough tb h (lay tb l0 7) l1 (lay tb l0 4)).bind fun r2 =>
        (rI tb r2 (lay tb (lay tb l0 4) 14) l1).bind fun x3 =>
        (wI tb r2 (lay tb (lay tb l0 4) 14) l1 (mnI (99 : Int32) (x3 + l2))).bind fun h4 =>
        (rI tb h4 (lay tb (lay tb l0 4) 14) l1).bind fun x5 =>
        some (x5, h4)
      ) else (
        some ((-1 : Int32), h)
      )
    )
  )
set_option maxRecDepth 4000 in
set_option maxHeartbeats 1000000 in
theorem mt_Tt_fill {g : Gl} {tb : Tb} {ρ : Nat → Nat} (ok : TbOK tb) (hi : inj tb ρ) {h : Hp} {l0 : Nat} {l1 : Int32} {l2 : Int32} (kl0 : kd tb l0 = 0) {r : Int32 × Hp} (hf : f_Tt_fill tb h l0 l1 l2 = some r) : MT g y_Tt_fill prog_1_method_13_code 3 (some .int) 4 80 tb ρ [.ref (ρ l0), .int l1, .int l2] h (some (.int r.1)) r.2 := by
  refine mt_intro (by decide +kernel) ok hi (Nat.le_of_ble_eq_true rfl) (fun E X Y => ?_)
  change V E g tb ρ 3 0 [(0, .ref (ρ l0)), (1, .int l1), (2, .int l2)] [] h
  unfold f_Tt_fill at hf
  refine v_aload_n (pc := 0) (k := 0) X (by decide +kernel) 0 rfl ?_
  refine v_geta (pc := 1) X fl_0_31 kl0 fk_0_3 (by decide +kernel) ?_
  refine v_iload_n (pc := 4) (k := 1) X (by decide +kernel) 1 rfl ?_
  obtain ⟨r1, er1, hf⟩ := nmd_e hf
  refine v_callV (pc := 5) (As := [.int l1]) (rest := []) X (mt_Pl_hasTrough ok hi (ly_0_3 ok kl0) er1.symm) ml_0_165 mv_Pl_hasTrough (ly_0_3 ok kl0) cls_7 rfl ⟨Nat.le_of_ble_eq_true rfl, Nat.le_of_ble_eq_true rfl⟩ rfl rfl (Nat.le_of_ble_eq_true rfl) (by decide +kernel) ?_
  change V E g tb ρ 3 8 [(0, .ref (ρ l0)), (1, .int l1), (2, .int l2)] [.int r1] h
  refine v_if_eq (pc := 8) (off := 14) (tgt := 22) X (by decide +kernel) (by decide) (fun q8 => ?_) (fun q8 => ?_)
  · rw [if_pos q8] at hf
    refine v_iconst (pc := 22) (n := -1) X (by decide +kernel) ic_m1 ?_
    cases hf
    exact v_iret X Y (by decide +kernel) rfl rfl
  · rw [if_neg q8] at hf
    refine v_iload_n (pc := 11) (k := 2) X (by decide +kernel) 2 rfl ?_
    refine v_iconst (pc := 12) (n := 1) X (by decide +kernel) ic_1 ?_
    refine v_icmp_lt (pc := 13) (off := 9) (tgt := 22) X (by decide +kernel) (by decide) (fun q7 => ?_) (fun q7 => ?_)
    · rw [if_pos q7] at hf
      refine v_iconst (pc := 22) (n := -1) X (by decide +kernel) ic_m1 ?_
      cases hf
      exact v_iret X Y (by decide +kernel) rfl rfl
    · rw [if_neg q7] at hf
      refine v_iload_n (pc := 16) (k := 2) X (by decide +kernel) 2 rfl ?_
      refine v_bipush (pc := 17) (n := 99) X (by decide +kernel) bi_99 ?_
      refine v_icmp_le (pc := 19) (off := 5) (tgt := 24) X (by decide +kernel) (by decide) (fun q6 => ?_) (fun q6 => ?_)
      · rw [if_pos q6] at hf
        refine v_aload_n (pc := 24) (k := 0) X (by decide +kernel) 0 rfl ?_
        refine v_geta (pc := 25) X fl_0_52 kl0 fk_0_7 (by decide +kernel) ?_
        refine v_iload_n (pc := 28) (k := 1) X (by decide +kernel) 1 rfl ?_
        refine v_aload_n (pc := 29) (k := 0) X (by decide +kernel) 0 rfl ?_
        refine v_geta (pc := 30) X fl_0_38 kl0 fk_0_4 (by decide +kernel) ?_
        obtain ⟨r2, er2, hf⟩ := bnd_e hf
        refine v_callV (pc := 33) (As := [.int l1, .ref (ρ (lay tb l0 4))]) (rest := []) X (mt_De_rememberTrough ok hi (ly_0_7 ok kl0) (ly_0_4 ok kl0) er2) ml_0_198 mv_De_rememberTrough (ly_0_7 ok kl0) cls_2 rfl ⟨Nat.le_of_ble_eq_true rfl, Nat.le_of_ble_eq_true rfl⟩ rfl rfl (Nat.le_of_ble_eq_true rfl) (by decide +kernel) ?_
        change V E g tb ρ 3 36 [(0, .ref (ρ l0)), (1, .int l1), (2, .int l2)] [] r2
        refine v_aload_n (pc := 36) (k := 0) X (by decide +kernel) 0 rfl ?_
        refine v_geta (pc := 37) X fl_0_38 kl0 fk_0_4 (by decide +kernel) ?_
        refine v_geta (pc := 40) X fl_0_171 (ly_0_4 ok kl0) fk_11_14 (by decide +kernel) ?_
        refine v_iload_n (pc := 43) (k := 1) X (by decide +kernel) 1 rfl ?_
        refine v_bipush (pc := 44) (n := 99) X (by decide +kernel) bi_99 ?_
        refine v_aload_n (pc := 46) (k := 0) X (by decide +kernel) 0 rfl ?_
        refine v_geta (pc := 47) X fl_0_38 kl0 fk_0_4 (by decide +kernel) ?_
        refine v_geta (pc := 50) X fl_0_171 (ly_0_4 ok kl0) fk_11_14 (by decide +kernel) ?_
        refine v_iload_n (pc := 53) (k := 1) X (by decide +kernel) 1 rfl ?_
        obtain ⟨x3, ex3, hf⟩ := bnd_e hf
        refine v_iald (pc := 54) X (ly_11_14 ok (ly_0_4 ok kl0)) ex3 (by decide +kernel) ?_
        refine v_iload_n (pc := 55) (k := 2) X (by decide +kernel) 2 rfl ?_
        refine v_iadd (pc := 56) X (by decide +kernel) ?_
        refine v_mmin (pc := 57) X mm_0_201 ms_mmin mc_mmin mi_math ⟨Nat.le_of_ble_eq_true rfl, Nat.le_of_ble_eq_true rfl⟩ (by decide +kernel) ?_
        obtain ⟨h4, eh4, hf⟩ := bnd_e hf
        refine v_iast (pc := 60) X (ly_11_14 ok (ly_0_4 ok kl0)) eh4 (by decide +kernel) ?_
        refine v_aload_n (pc := 61) (k := 0) X (by decide +kernel) 0 rfl ?_
        refine v_geta (pc := 62) X fl_0_38 kl0 fk_0_4 (by decide +kernel) ?_
        refine v_geta (pc := 65) X fl_0_171 (ly_0_4 ok kl0) fk_11_14 (by decide +kernel) ?_
        refine v_iload_n (pc := 68) (k := 1) X (by decide +kernel) 1 rfl ?_
        obtain ⟨x5, ex5, hf⟩ := bnd_e hf
        refine v_iald (pc := 69) X (ly_11_14 ok (ly_0_4 ok kl0)) ex5 (by decide +kernel) ?_
        cases hf
        exact v_iret X Y (by decide +kernel) rfl rfl
      · rw [if_neg q6] at hf
        refine v_iconst (pc := 22) (n := -1) X (by decide +kernel) ic_m1 ?_
        cases hf
        exact v_iret X Y (by decide +kernel) rfl rfl
def jb_Tt_lead_68 (tb : Tb) (h : Hp) (l0 : Nat) (l1 : Int32) (l2 : Int32) : Option (Int32 × Hp) :=
  (f_De_rememberHorse tb h (lay tb l0 7) l1 (lay tb l0 4)).bind fun r1 =>
  (wI tb r1 (lay tb (lay tb l0 4) 9) l1 l2).bind fun h2 =>
  (wI tb h2 (lay tb (lay tb l0 4) 12) l1 (-2 : Int32)).bind fun h3 =>
  some ((1 : Int32), h3)
def f_Tt_lead (tb : Tb) (h : Hp) (l0 : Nat) (l1 : Int32) (l2 : Int32) : Option (Int32 × Hp) :=
  nmd (f_Pl_hasHorse tb h (lay tb l0 3) l1) fun r1 =>
  if r1 = (0 : Int32) then (
    some ((0 : Int32), h)
  ) else (
    if l2 < (0 : Int32) then (
      some ((0 : Int32), h)
    ) else (
      if (h.1 (lay tb l0 3) 0) < l2 then (
        some ((0 : Int32), h)
      ) else (
        nmd (f_Wo_isOn tb h (lay tb l0 4) l1) fun r2 =>
        if r2 = (0 : Int32) then (
          some ((0 : Int32), h)
        ) else (
          (rI tb h (lay tb (lay tb l0 4) 9) l1).bind fun x3 =>
          if x3 = l2 then (
            (rI tb h (lay tb (lay tb l0 4) 12) l1).bind fun x4 =>
            if x4 = (-2 : Int32) then (
              some ((0 : Int32), h)
            ) else (
              jb_Tt_lead_68 tb h l0 l1 l2
            )
          ) else (
            jb_Tt_lead_68 tb h l0 l1 l2
          )
        )
      )
    )
  )
set_option maxRecDepth 4000 in
set_option maxHeartbeats 1000000 in
theorem vjb_Tt_lead_68 {E : En} {g : Gl} {tb : Tb} {ρ : Nat → Nat} (ok : TbOK tb) (hi : inj tb ρ) {r : Int32 × Hp} (X : CX E g tb ρ prog_1_method_14_code 3 RC0 4 80) (Y : CQ E g tb ρ (some .boolean) (some (.int r.1)) r.2) (h : Hp) (l0 : Nat) (l1 : Int32) (l2 : Int32) (kl0 : kd tb l0 = 0) (hf : jb_Tt_lead_68 tb h l0 l1 l2 = some r) : V E g tb ρ 3 68 [(0, .ref (ρ l0)), (1, .int l1), (2, .int l2)] [] h := by
  unfold jb_Tt_lead_68 at hf
  refine v_aload_n (pc := 68) (k := 0) X (by decide +kernel) 0 rfl ?_
  refine v_geta (pc := 69) X fl_0_52 kl0 fk_0_7 (by decide +kernel) ?_
  refine v_iload_n (pc := 72) (k := 1) X (by decide +kernel) 1 rfl ?_
  refine v_aload_n (pc := 73) (k := 0) X (by decide +kernel) 0 rfl ?_
  refine v_geta (pc := 74) X fl_0_38 kl0 fk_0_4 (by decide +kernel) ?_
  obtain ⟨r1, er1, hf⟩ := bnd_e hf
  refine v_callV (pc := 77) (As := [.int l1, .ref (ρ (lay tb l0 4))]) (rest := []) X (mt_De_rememberHorse ok hi (ly_0_7 ok kl0) (ly_0_4 ok kl0) er1) ml_0_189 mv_De_rememberHorse (ly_0_7 ok kl0) cls_2 rfl ⟨Nat.le_of_ble_eq_true rfl, Nat.le_of_ble_eq_true rfl⟩ rfl rfl (Nat.le_of_ble_eq_true rfl) (by decide +kernel) ?_
  change V E g tb ρ 3 80 [(0, .ref (ρ l0)), (1, .int l1), (2, .int l2)] [] r1
  refine v_aload_n (pc := 80) (k := 0) X (by decide +kernel) 0 rfl ?_
  refine v_geta (pc := 81) X fl_0_38 kl0 fk_0_4 (by decide +kernel) ?_
  refine v_geta (pc := 84) X fl_0_142 (ly_0_4 ok kl0) fk_11_9 (by decide +kernel) ?_
  refine v_iload_n (pc := 87) (k := 1) X (by decide +kernel) 1 rfl ?_
  refine v_iload_n (pc := 88) (k := 2) X (by decide +kernel) 2 rfl ?_
  obtain ⟨h2, eh2, hf⟩ := bnd_e hf
  refine v_iast (pc := 89) X (ly_11_9 ok (ly_0_4 ok kl0)) eh2 (by decide +kernel) ?_
  refine v_aload_n (pc := 90) (k := 0) X (by decide +kernel) 0 rfl ?_
  refine v_geta (pc := 91) X fl_0_38 kl0 fk_0_4 (by decide +kernel) ?_
  refine v_geta (pc := 94) X fl_0_150 (ly_0_4 ok kl0) fk_11_12 (by decide +kernel) ?_
  refine v_iload_n (pc := 97) (k := 1) X (by decide +kernel) 1 rfl ?_
  refine v_bipush (pc := 98) (n := -2) X (by decide +kernel) bi_m2 ?_
  obtain ⟨h3, eh3, hf⟩ := bnd_e hf
  refine v_iast (pc := 100) X (ly_11_12 ok (ly_0_4 ok kl0)) eh3 (by decide +kernel) ?_
  refine v_iconst (pc := 101) (n := 1) X (by decide +kernel) ic_1 ?_
  cases hf
  exact v_zret (hz := rfl) X Y (by decide +kernel) rfl rfl
set_option maxRecDepth 4000 in
set_option maxHeartbeats 1000000 in
theorem mt_Tt_lead {g : Gl} {tb : Tb} {ρ : Nat → Nat} (ok : TbOK tb) (hi : inj tb ρ) {h : Hp} {l0 : Nat} {l1 : Int32} {l2 : Int32} (kl0 : kd tb l0 = 0) {r : Int32 × Hp} (hf : f_Tt_lead tb h l0 l1 l2 = some r) : MT g y_Tt_lead prog_1_method_14_code 3 (some .boolean) 4 80 tb ρ [.ref (ρ l0), .int l1, .int l2] h (some (.int r.1)) r.2 := by
  refine mt_intro (by decide +kernel) ok hi (Nat.le_of_ble_eq_true rfl) (fun E X Y => ?_)
  change V E g tb ρ 3 0 [(0, .ref (ρ l0)), (1, .int l1), (2, .int l2)] [] h
  unfold f_Tt_lead at hf
  refine v_aload_n (pc := 0) (k := 0) X (by decide +kernel) 0 rfl ?_
  refine v_geta (pc := 1) X fl_0_31 kl0 fk_0_3 (by decide +kernel) ?_
  refine v_iload_n (pc := 4) (k := 1) X (by decide +kernel) 1 rfl ?_
  obtain ⟨r1, er1, hf⟩ := nmd_e hf
  refine v_callV (pc := 5) (As := [.int l1]) (rest := []) X (mt_Pl_hasHorse ok hi (ly_0_3 ok kl0) er1.symm) ml_0_132 mv_Pl_hasHorse (ly_0_3 ok kl0) cls_7 rfl ⟨Nat.le_of_ble_eq_true rfl, Nat.le_of_ble_eq_true rfl⟩ rfl rfl (Nat.le_of_ble_eq_true rfl) (by decide +kernel) ?_
  change V E g tb ρ 3 8 [(0, .ref (ρ l0)), (1, .int l1), (2, .int l2)] [.int r1] h
  refine v_if_eq (pc := 8) (off := 29) (tgt := 37) X (by decide +kernel) (by decide) (fun q10 => ?_) (fun q10 => ?_)
  · rw [if_pos q10] at hf
    refine v_iconst (pc := 37) (n := 0) X (by decide +kernel) ic_0 ?_
    cases hf
    exact v_zret (hz := rfl) X Y (by decide +kernel) rfl rfl
  · rw [if_neg q10] at hf
    refine v_iload_n (pc := 11) (k := 2) X (by decide +kernel) 2 rfl ?_
    refine v_if_lt (pc := 12) (off := 25) (tgt := 37) X (by decide +kernel) (by decide) (fun q9 => ?_) (fun q9 => ?_)
    · rw [if_pos q9] at hf
      refine v_iconst (pc := 37) (n := 0) X (by decide +kernel) ic_0 ?_
      cases hf
      exact v_zret (hz := rfl) X Y (by decide +kernel) rfl rfl
    · rw [if_neg q9] at hf
      refine v_iload_n (pc := 15) (k := 2) X (by decide +kernel) 2 rfl ?_
      refine v_aload_n (pc := 16) (k := 0) X (by decide +kernel) 0 rfl ?_
      refine v_geta (pc := 17) X fl_0_31 kl0 fk_0_3 (by decide +kernel) ?_
      refine v_geti (pc := 20) X fl_0_205 (ly_0_3 ok kl0) rfl (by decide +kernel) ?_
      refine v_icmp_gt (pc := 23) (off := 14) (tgt := 37) X (by decide +kernel) (by decide) (fun q8 => ?_) (fun q8 => ?_)
      · rw [if_pos q8] at hf
        refine v_iconst (pc := 37) (n := 0) X (by decide +kernel) ic_0 ?_
        cases hf
        exact v_zret (hz := rfl) X Y (by decide +kernel) rfl rfl
      · rw [if_neg q8] at hf
        refine v_aload_n (pc := 26) (k := 0) X (by decide +kernel) 0 rfl ?_
        refine v_geta (pc := 27) X fl_0_38 kl0 fk_0_4 (by decide +kernel) ?_
        refine v_iload_n (pc := 30) (k := 1) X (by decide +kernel) 1 rfl ?_
        obtain ⟨r2, er2, hf⟩ := nmd_e hf
        refine v_callV (pc := 31) (As := [.int l1]) (rest := []) X (mt_Wo_isOn ok hi (ly_0_4 ok kl0) er2.symm) ml_0_156 mv_Wo_isOn (ly_0_4 ok kl0) cls_11 rfl ⟨Nat.le_of_ble_eq_true rfl, Nat.le_of_ble_eq_true rfl⟩ rfl rfl (Nat.le_of_ble_eq_true rfl) (by decide +kernel) ?_
        change V E g tb ρ 3 34 [(0, .ref (ρ l0)), (1, .int l1), (2, .int l2)] [.int r2] h
        refine v_if_ne (pc := 34) (off := 5) (tgt := 39) X (by decide +kernel) (by decide) (fun q7 => ?_) (fun q7 => ?_)
        · rw [if_neg q7] at hf
          refine v_aload_n (pc := 39) (k := 0) X (by decide +kernel) 0 rfl ?_
          refine v_geta (pc := 40) X fl_0_38 kl0 fk_0_4 (by decide +kernel) ?_
          refine v_geta (pc := 43) X fl_0_142 (ly_0_4 ok kl0) fk_11_9 (by decide +kernel) ?_
          refine v_iload_n (pc := 46) (k := 1) X (by decide +kernel) 1 rfl ?_
          obtain ⟨x3, ex3, hf⟩ := bnd_e hf
          refine v_iald (pc := 47) X (ly_11_9 ok (ly_0_4 ok kl0)) ex3 (by decide +kernel) ?_
          refine v_iload_n (pc := 48) (k := 2) X (by decide +kernel) 2 rfl ?_
          refine v_icmp_ne (pc := 49) (off := 19) (tgt := 68) X (by decide +kernel) (by decide) (fun q6 => ?_) (fun q6 => ?_)
          · rw [if_neg q6] at hf
            exact vjb_Tt_lead_68 ok hi X Y h l0 l1 l2 kl0 hf
          · rw [if_pos q6] at hf
            refine v_aload_n (pc := 52) (k := 0) X (by decide +kernel) 0 rfl ?_
            refine v_geta (pc := 53) X fl_0_38 kl0 fk_0_4 (by decide +kernel) ?_
            refine v_geta (pc := 56) X fl_0_150 (ly_0_4 ok kl0) fk_11_12 (by decide +kernel) ?_
            refine v_iload_n (pc := 59) (k := 1) X (by decide +kernel) 1 rfl ?_
            obtain ⟨x4, ex4, hf⟩ := bnd_e hf
            refine v_iald (pc := 60) X (ly_11_12 ok (ly_0_4 ok kl0)) ex4 (by decide +kernel) ?_
            refine v_bipush (pc := 61) (n := -2) X (by decide +kernel) bi_m2 ?_
            refine v_icmp_ne (pc := 63) (off := 5) (tgt := 68) X (by decide +kernel) (by decide) (fun q5 => ?_) (fun q5 => ?_)
            · rw [if_neg q5] at hf
              exact vjb_Tt_lead_68 ok hi X Y h l0 l1 l2 kl0 hf
            · rw [if_pos q5] at hf
              refine v_iconst (pc := 66) (n := 0) X (by decide +kernel) ic_0 ?_
              cases hf
              exact v_zret (hz := rfl) X Y (by decide +kernel) rfl rfl
        · rw [if_pos q7] at hf
          refine v_iconst (pc := 37) (n := 0) X (by decide +kernel) ic_0 ?_
          cases hf
          exact v_zret (hz := rfl) X Y (by decide +kernel) rfl rfl
def f_Ho_byChance (tb : Tb) (h : Hp) (l0 : Nat) : Hp :=
  nmd (pI h l0 2 (h.1 (lay tb l0 0) 1)) fun h1 =>
  nmd (pI h1 l0 3 (1 : Int32)) fun h2 =>
  nmd (pI h2 l0 4 (1 : Int32)) fun h3 =>
  h3
set_option maxRecDepth 4000 in
set_option maxHeartbeats 1000000 in
theorem mt_Ho_byChance {g : Gl} {tb : Tb} {ρ : Nat → Nat} (ok : TbOK tb) (hi : inj tb ρ) {h : Hp} {l0 : Nat} (kl0 : kd tb l0 = 4) {r : Hp} (hf : f_Ho_byChance tb h l0 = r) : MT g y_Ho_byChance prog_5_method_2_code 1 none 0 0 tb ρ [.ref (ρ l0)] h (none) r := by
  refine mt_intro (by decide +kernel) ok hi (Nat.le_of_ble_eq_true rfl) (fun E X Y => ?_)
  change V E g tb ρ 1 0 [(0, .ref (ρ l0))] [] h
  unfold f_Ho_byChance at hf
  refine v_aload_n (pc := 0) (k := 0) X (by decide +kernel) 0 rfl ?_
  refine v_aload_n (pc := 1) (k := 0) X (by decide +kernel) 0 rfl ?_
  refine v_geta (pc := 2) X fl_4_15 kl0 fk_4_0 (by decide +kernel) ?_
  refine v_geti (pc := 5) X fl_4_22 (ly_4_0 ok kl0) rfl (by decide +kernel) ?_
  obtain ⟨h1, eh1, hf⟩ := nmd_e hf
  refine v_puti (pc := 8) X fp_4_28 kl0 rfl (by decide +kernel) eh1 ?_
  refine v_aload_n (pc := 11) (k := 0) X (by decide +kernel) 0 rfl ?_
  refine v_iconst (pc := 12) (n := 1) X (by decide +kernel) ic_1 ?_
  obtain ⟨h2, eh2, hf⟩ := nmd_e hf
  refine v_putz (pc := 13) X fp_4_31 kl0 rfl rfl (by decide +kernel) eh2 ?_
  refine v_aload_n (pc := 16) (k := 0) X (by decide +kernel) 0 rfl ?_
  refine v_iconst (pc := 17) (n := 1) X (by decide +kernel) ic_1 ?_
  obtain ⟨h3, eh3, hf⟩ := nmd_e hf
  refine v_puti (pc := 18) X fp_4_35 kl0 rfl (by decide +kernel) eh3 ?_
  cases hf
  exact v_vret X Y (by decide +kernel) rfl rfl
def jb_Ho_startLaps_52 (tb : Tb) (c2 : Hp → Nat → Nat → Int32 → Option (Hp)) (h : Hp) (l0 : Nat) (l1 : Nat) (l2 : Int32) : Option (Hp) :=
  nmd (l2 + (1 : Int32)) fun x1 =>
  c2 h l0 l1 x1
def lp_Ho_startLaps_2 (tb : Tb) : Nat → Hp → Nat → Nat → Int32 → Option (Hp)
  | 0, _, _, _, _ => none
  | n + 1, h, l0, l1, l2 =>
    if (h.1 (lay tb l0 0) 5) ≤ l2 then (
      some h
    ) else (
      (rI tb h (lay tb (lay tb l0 0) 18) l2).bind fun x1 =>
      if x1 = (h.1 l1 0) then (
        (rI tb h (lay tb (lay tb l0 0) 16) l2).bind fun x2 =>
        (rI tb h (lay tb (lay tb l0 0) 17) l2).bind fun x3 =>
        (wI tb h (lay tb l1 12) x2 x3).bind fun h4 =>
        jb_Ho_startLaps_52 tb (lp_Ho_startLaps_2 tb n) h4 l0 l1 l2
      ) else (
        jb_Ho_startLaps_52 tb (lp_Ho_startLaps_2 tb n) h l0 l1 l2
      )
    )
def f_Ho_startLaps (tb : Tb) (h : Hp) (l0 : Nat) (l1 : Nat) : Option (Hp) :=
  lp_Ho_startLaps_2 tb fu h l0 l1 (0 : Int32)
set_option maxRecDepth 4000 in
set_option maxHeartbeats 1000000 in
theorem vjb_Ho_startLaps_52 {E : En} {g : Gl} {tb : Tb} {ρ : Nat → Nat} (ok : TbOK tb) (hi : inj tb ρ) {r : Hp} (X : CX E g tb ρ prog_5_method_8_code 3 RC4 0 0) (Y : CQ E g tb ρ none (none) r) {c2 : Hp → Nat → Nat → Int32 → Option (Hp)} (H2 : ∀ (h : Hp) (l0 : Nat) (l1 : Nat) (l2 : Int32) (kl0 : kd tb l0 = 4) (kl1 : kd tb l1 = 11), c2 h l0 l1 l2 = some r → V E g tb ρ 3 2 [(0, .ref (ρ l0)), (1, .ref (ρ l1)), (2, .int l2)] [] h) (h : Hp) (l0 : Nat) (l1 : Nat) (l2 : Int32) (kl0 : kd tb l0 = 4) (kl1 : kd tb l1 = 11) (hf : jb_Ho_startLaps_52 tb c2 h l0 l1 l2 = some r) : V E g tb ρ 3 52 [(0, .ref (ρ l0)), (1, .ref (ρ l1)), (2, .int l2)] [] h := by
  unfold jb_Ho_startLaps_52 at hf
  obtain ⟨x1, ex1, hf⟩ := nmd_e hf
  refine v_iinc (pc := 52) (k := 2) (n := 1) (v := x1) (lv' := [(2, .int x1), (0, .ref (ρ l0)), (1, .ref (ρ l1))]) X (by decide +kernel) 2 rfl (by rw [ic_1, ex1]) (Nat.le_of_ble_eq_true rfl) rfl ?_
  refine v_goto (pc := 55) (off := -53) (tgt := 2) X (by decide +kernel) (by decide) ?_
  refine v_sub [1, 2, 0] rfl ?_
  exact H2 h l0 l1 x1 kl0 kl1 hf
set_option maxRecDepth 4000 in
set_option maxHeartbeats 1000000 in
theorem vlp_Ho_startLaps_2 {E : En} {g : Gl} {tb : Tb} {ρ : Nat → Nat} (ok : TbOK tb) (hi : inj tb ρ) {r : Hp} (X : CX E g tb ρ prog_5_method_8_code 3 RC4 0 0) (Y : CQ E g tb ρ none (none) r) : ∀ (n : Nat) (h : Hp) (l0 : Nat) (l1 : Nat) (l2 : Int32) (kl0 : kd tb l0 = 4) (kl1 : kd tb l1 = 11), lp_Ho_startLaps_2 tb n h l0 l1 l2 = some r → V E g tb ρ 3 2 [(0, .ref (ρ l0)), (1, .ref (ρ l1)), (2, .int l2)] [] h := by
  intro n
  induction n with
  | zero =>
    intro h l0 l1 l2 kl0 kl1 hf
    rw [lp_Ho_startLaps_2] at hf
    cases hf
  | succ n ih =>
    intro h l0 l1 l2 kl0 kl1 hf
    rw [lp_Ho_startLaps_2] at hf
    refine v_iload_n (pc := 2) (k := 2) X (by decide +kernel) 2 rfl ?_
    refine v_aload_n (pc := 3) (k := 0) X (by decide +kernel) 0 rfl ?_
    refine v_geta (pc := 4) X fl_4_15 kl0 fk_4_0 (by decide +kernel) ?_
    refine v_geti (pc := 7) X fl_4_61 (ly_4_0 ok kl0) rfl (by decide +kernel) ?_
    refine v_icmp_ge (pc := 10) (off := 48) (tgt := 58) X (by decide +kernel) (by decide) (fun q6 => ?_) (fun q6 => ?_)
    · rw [if_pos q6] at hf
      cases hf
      exact v_vret X Y (by decide +kernel) rfl rfl
    · rw [if_neg q6] at hf
      refine v_aload_n (pc := 13) (k := 0) X (by decide +kernel) 0 rfl ?_
      refine v_geta (pc := 14) X fl_4_15 kl0 fk_4_0 (by decide +kernel) ?_
      refine v_geta (pc := 17) X fl_4_64 (ly_4_0 ok kl0) fk_7_18 (by decide +kernel) ?_
      refine v_iload_n (pc := 20) (k := 2) X (by decide +kernel) 2 rfl ?_
      obtain ⟨x1, ex1, hf⟩ := bnd_e hf
      refine v_iald (pc := 21) X (ly_7_18 ok (ly_4_0 ok kl0)) ex1 (by decide +kernel) ?_
      refine v_aload_n (pc := 22) (k := 1) X (by decide +kernel) 1 rfl ?_
      refine v_geti (pc := 23) X fl_4_54 kl1 rfl (by decide +kernel) ?_
      refine v_icmp_ne (pc := 26) (off := 26) (tgt := 52) X (by decide +kernel) (by decide) (fun q5 => ?_) (fun q5 => ?_)
      · rw [if_neg q5] at hf
        exact vjb_Ho_startLaps_52 ok hi X Y ih h l0 l1 l2 kl0 kl1 hf
      · rw [if_pos q5] at hf
        refine v_aload_n (pc := 29) (k := 1) X (by decide +kernel) 1 rfl ?_
        refine v_geta (pc := 30) X fl_4_67 kl1 fk_11_12 (by decide +kernel) ?_
        refine v_aload_n (pc := 33) (k := 0) X (by decide +kernel) 0 rfl ?_
        refine v_geta (pc := 34) X fl_4_15 kl0 fk_4_0 (by decide +kernel) ?_
        refine v_geta (pc := 37) X fl_4_70 (ly_4_0 ok kl0) fk_7_16 (by decide +kernel) ?_
        refine v_iload_n (pc := 40) (k := 2) X (by decide +kernel) 2 rfl ?_
        obtain ⟨x2, ex2, hf⟩ := bnd_e hf
        refine v_iald (pc := 41) X (ly_7_16 ok (ly_4_0 ok kl0)) ex2 (by decide +kernel) ?_
        refine v_aload_n (pc := 42) (k := 0) X (by decide +kernel) 0 rfl ?_
        refine v_geta (pc := 43) X fl_4_15 kl0 fk_4_0 (by decide +kernel) ?_
        refine v_geta (pc := 46) X fl_4_73 (ly_4_0 ok kl0) fk_7_17 (by decide +kernel) ?_
        refine v_iload_n (pc := 49) (k := 2) X (by decide +kernel) 2 rfl ?_
        obtain ⟨x3, ex3, hf⟩ := bnd_e hf
        refine v_iald (pc := 50) X (ly_7_17 ok (ly_4_0 ok kl0)) ex3 (by decide +kernel) ?_
        obtain ⟨h4, eh4, hf⟩ := bnd_e hf
        refine v_iast (pc := 51) X (ly_11_12 ok kl1) eh4 (by decide +kernel) ?_
        exact vjb_Ho_startLaps_52 ok hi X Y ih h4 l0 l1 l2 kl0 kl1 hf
set_option maxRecDepth 4000 in
set_option maxHeartbeats 1000000 in
theorem mt_Ho_startLaps {g : Gl} {tb : Tb} {ρ : Nat → Nat} (ok : TbOK tb) (hi : inj tb ρ) {h : Hp} {l0 : Nat} {l1 : Nat} (kl0 : kd tb l0 = 4) (kl1 : kd tb l1 = 11) {r : Hp} (hf : f_Ho_startLaps tb h l0 l1 = some r) : MT g y_Ho_startLaps prog_5_method_8_code 3 none 0 0 tb ρ [.ref (ρ l0), .ref (ρ l1)] h (none) r := by
  refine mt_intro (by decide +kernel) ok hi (Nat.le_of_ble_eq_true rfl) (fun E X Y => ?_)
  change V E g tb ρ 3 0 [(0, .ref (ρ l0)), (1, .ref (ρ l1))] [] h
  unfold f_Ho_startLaps at hf
  refine v_iconst (pc := 0) (n := 0) X (by decide +kernel) ic_0 ?_
  refine v_istore_n (pc := 1) (k := 2) (lv' := [(2, .int (0 : Int32)), (0, .ref (ρ l0)), (1, .ref (ρ l1))]) X (by decide +kernel) (Nat.le_of_ble_eq_true rfl) rfl ?_
  refine v_sub [1, 2, 0] rfl ?_
  exact vlp_Ho_startLaps_2 ok hi X Y fu h l0 l1 (0 : Int32) kl0 kl1 hf
def f_Ho_amount (tb : Tb) (h : Hp) (l0 : Nat) (l1 : Nat) (l2 : Int32) (l3 : Int32) (l4 : Int32) : Option (Int32 × Hp) :=
  (f_La_isTold tb h (lay tb (lay tb l0 0) 19) l2).bind fun r1 =>
  if r1 = (0 : Int32) then (
    some (l4, h)
  ) else (
    (f_Ho_setNames tb h l0 l1 l3).bind fun r2 =>
    (f_La_worthOf tb r2 (lay tb (lay tb l0 0) 19) l2 (lay tb l0 1)).bind fun r3 =>
    if (lg_cmp r3.1 (-9223372036854775808 : Int64)) = (0 : Int32) then (
      some (l4, r3.2)
    ) else (
      some ((mxL (0 : Int64) (mnL (99 : Int64) r3.1)).toInt32, r3.2)
    )
  )
set_option maxRecDepth 4000 in
set_option maxHeartbeats 1000000 in
theorem mt_Ho_amount {g : Gl} {tb : Tb} {ρ : Nat → Nat} (ok : TbOK tb) (hi : inj tb ρ) {h : Hp} {l0 : Nat} {l1 : Nat} {l2 : Int32} {l3 : Int32} {l4 : Int32} (kl0 : kd tb l0 = 4) (kl1 : kd tb l1 = 11) {r : Int32 × Hp} (hf : f_Ho_amount tb h l0 l1 l2 l3 l4 = some r) : MT g y_Ho_amount prog_5_method_14_code 7 (some .int) 3 77 tb ρ [.ref (ρ l0), .ref (ρ l1), .int l2, .int l3, .int l4] h (some (.int r.1)) r.2 := by
  refine mt_intro (by decide +kernel) ok hi (Nat.le_of_ble_eq_true rfl) (fun E X Y => ?_)
  change V E g tb ρ 7 0 [(0, .ref (ρ l0)), (1, .ref (ρ l1)), (2, .int l2), (3, .int l3), (4, .int l4)] [] h
  unfold f_Ho_amount at hf
  refine v_aload_n (pc := 0) (k := 0) X (by decide +kernel) 0 rfl ?_
  refine v_geta (pc := 1) X fl_4_15 kl0 fk_4_0 (by decide +kernel) ?_
  refine v_geta (pc := 4) X fl_4_170 (ly_4_0 ok kl0) fk_7_19 (by decide +kernel) ?_
  refine v_iload_n (pc := 7) (k := 2) X (by decide +kernel) 2 rfl ?_
  obtain ⟨r1, er1, hf⟩ := bnd_e hf
  refine v_callV (pc := 8) (As := [.int l2]) (rest := []) X (mt_La_isTold ok hi (ly_7_19 ok (ly_4_0 ok kl0)) er1) ml_4_174 mv_La_isTold (ly_7_19 ok (ly_4_0 ok kl0)) cls_6 rfl ⟨Nat.le_of_ble_eq_true rfl, Nat.le_of_ble_eq_true rfl⟩ rfl rfl (Nat.le_of_ble_eq_true rfl) (by decide +kernel) ?_
  change V E g tb ρ 7 11 [(0, .ref (ρ l0)), (1, .ref (ρ l1)), (2, .int l2), (3, .int l3), (4, .int l4)] [.int r1] h
  refine v_if_ne (pc := 11) (off := 6) (tgt := 17) X (by decide +kernel) (by decide) (fun q5 => ?_) (fun q5 => ?_)
  · rw [if_neg q5] at hf
    refine v_aload_n (pc := 17) (k := 0) X (by decide +kernel) 0 rfl ?_
    refine v_aload_n (pc := 18) (k := 1) X (by decide +kernel) 1 rfl ?_
    refine v_iload_n (pc := 19) (k := 3) X (by decide +kernel) 3 rfl ?_
    obtain ⟨r2, er2, hf⟩ := bnd_e hf
    refine v_callV (pc := 20) (As := [.ref (ρ l1), .int l3]) (rest := []) X (mt_Ho_setNames ok hi kl0 kl1 er2) ml_4_179 mv_Ho_setNames kl0 cls_4 rfl ⟨Nat.le_of_ble_eq_true rfl, Nat.le_of_ble_eq_true rfl⟩ rfl rfl (Nat.le_of_ble_eq_true rfl) (by decide +kernel) ?_
    change V E g tb ρ 7 23 [(0, .ref (ρ l0)), (1, .ref (ρ l1)), (2, .int l2), (3, .int l3), (4, .int l4)] [] r2
    refine v_aload_n (pc := 23) (k := 0) X (by decide +kernel) 0 rfl ?_
    refine v_geta (pc := 24) X fl_4_15 kl0 fk_4_0 (by decide +kernel) ?_
    refine v_geta (pc := 27) X fl_4_170 (ly_4_0 ok kl0) fk_7_19 (by decide +kernel) ?_
    refine v_iload_n (pc := 30) (k := 2) X (by decide +kernel) 2 rfl ?_
    refine v_aload_n (pc := 31) (k := 0) X (by decide +kernel) 0 rfl ?_
    refine v_geta (pc := 32) X fl_4_9 kl0 fk_4_1 (by decide +kernel) ?_
    obtain ⟨r3, er3, hf⟩ := bnd_e hf
    refine v_callV (pc := 35) (As := [.int l2, .ref (ρ (lay tb l0 1))]) (rest := []) X (mt_La_worthOf ok hi (ly_7_19 ok (ly_4_0 ok kl0)) (ly_4_1 ok kl0) er3) ml_4_183 mv_La_worthOf (ly_7_19 ok (ly_4_0 ok kl0)) cls_6 rfl ⟨Nat.le_of_ble_eq_true rfl, Nat.le_of_ble_eq_true rfl⟩ rfl rfl (Nat.le_of_ble_eq_true rfl) (by decide +kernel) ?_
    change V E g tb ρ 7 38 [(0, .ref (ρ l0)), (1, .ref (ρ l1)), (2, .int l2), (3, .int l3), (4, .int l4)] [.long r3.1] r3.2
    refine v_lstore (pc := 38) (k := 5) (lv' := [(5, .long r3.1), (0, .ref (ρ l0)), (1, .ref (ρ l1)), (2, .int l2), (3, .int l3), (4, .int l4)]) X (by decide +kernel) (Nat.le_of_ble_eq_true rfl) rfl ?_
    refine v_lload (pc := 40) (k := 5) X (by decide +kernel) 0 rfl ?_
    refine v_ldc2 (pc := 42) X (by decide +kernel) kl_4_187 ?_
    refine v_lcmp (pc := 45) X (by decide +kernel) ?_
    refine v_if_ne (pc := 46) (off := 8) (tgt := 54) X (by decide +kernel) (by decide) (fun q4 => ?_) (fun q4 => ?_)
    · rw [if_neg q4] at hf
      refine v_lconst (pc := 54) (n := 0) X (by decide +kernel) lc_0 ?_
      refine v_ldc2 (pc := 55) X (by decide +kernel) kl_4_189 ?_
      refine v_lload (pc := 58) (k := 5) X (by decide +kernel) 0 rfl ?_
      refine v_mmin_long (pc := 60) X mm_4_191 ms_mmin_long mc_mmin_long mi_math ⟨Nat.le_of_ble_eq_true rfl, Nat.le_of_ble_eq_true rfl⟩ (by decide +kernel) ?_
      refine v_mmax_long (pc := 63) X mm_4_194 ms_mmax_long mc_mmax_long mi_math ⟨Nat.le_of_ble_eq_true rfl, Nat.le_of_ble_eq_true rfl⟩ (by decide +kernel) ?_
      refine v_l2i (pc := 66) X (by decide +kernel) ?_
      cases hf
      exact v_iret X Y (by decide +kernel) rfl rfl
    · rw [if_pos q4] at hf
      refine v_iload (pc := 49) (k := 4) X (by decide +kernel) 5 rfl ?_
      refine v_goto (pc := 51) (off := 16) (tgt := 67) X (by decide +kernel) (by decide) ?_
      cases hf
      exact v_iret X Y (by decide +kernel) rfl rfl
  · rw [if_pos q5] at hf
    refine v_iload (pc := 14) (k := 4) X (by decide +kernel) 4 rfl ?_
    cases hf
    exact v_iret X Y (by decide +kernel) rfl rfl
