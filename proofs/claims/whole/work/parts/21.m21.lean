def jb_Md_sumRead_48 (tb : Tb) (c25 : Hp → Nat → Option (Int32 × Hp)) (h : Hp) (l0 : Nat) : Option (Int32 × Hp) :=
  if (h.1 l0 49) = (0 : Int32) then (
    (f_Md_signs tb h l0).bind fun r1 =>
    if r1.1 = (0 : Int32) then (
      some ((0 : Int32), r1.2)
    ) else (
      c25 r1.2 l0
    )
  ) else (
    (f_Md_leafRead tb h l0).bind fun r3 =>
    if r3.1 = (0 : Int32) then (
      some ((0 : Int32), r3.2)
    ) else (
      c25 r3.2 l0
    )
  )
def lp_Md_sumRead_25 (tb : Tb) : Nat → Hp → Nat → Option (Int32 × Hp)
  | 0, _, _ => none
  | n + 1, h, l0 =>
    nmd (f_Md_isSign tb h l0 (59 : Int32)) fun r1 =>
    if r1 = (0 : Int32) then (
      jb_Md_sumRead_48 tb (lp_Md_sumRead_25 tb n) h l0
    ) else (
      if (h.1 l0 49) = (0 : Int32) then (
        if (h.1 l0 47) ≤ (0 : Int32) then (
          (f_Md_bind tb h l0 (1 : Int32)).bind fun r2 =>
          some ((1 : Int32), r2)
        ) else (
          jb_Md_sumRead_48 tb (lp_Md_sumRead_25 tb n) h l0
        )
      ) else (
        jb_Md_sumRead_48 tb (lp_Md_sumRead_25 tb n) h l0
      )
    )
def f_Md_sumRead (tb : Tb) (h : Hp) (l0 : Nat) : Option (Int32 × Hp) :=
  nmd (pI h l0 45 (0 : Int32)) fun h1 =>
  nmd (pI h1 l0 46 (0 : Int32)) fun h2 =>
  nmd (pI h2 l0 47 (0 : Int32)) fun h3 =>
  nmd (pI h3 l0 49 (1 : Int32)) fun h4 =>
  nmd (pI h4 l0 50 (1 : Int32)) fun h5 =>
  lp_Md_sumRead_25 tb fu h5 l0
set_option maxRecDepth 4000 in
set_option maxHeartbeats 1000000 in
theorem vjb_Md_sumRead_48 {E : En} {g : Gl} {tb : Tb} {ρ : Nat → Nat} (ok : TbOK tb) (hi : inj tb ρ) {r : Int32 × Hp} (X : CX E g tb ρ prog_14_method_41_code 1 RC12 3 68) (Y : CQ E g tb ρ (some .boolean) (some (.int r.1)) r.2) {c25 : Hp → Nat → Option (Int32 × Hp)} (H25 : ∀ (h : Hp) (l0 : Nat) (kl0 : kd tb l0 = 12), c25 h l0 = some r → V E g tb ρ 1 25 [(0, .ref (ρ l0))] [] h) (h : Hp) (l0 : Nat) (kl0 : kd tb l0 = 12) (hf : jb_Md_sumRead_48 tb c25 h l0 = some r) : V E g tb ρ 1 48 [(0, .ref (ρ l0))] [] h := by
  unfold jb_Md_sumRead_48 at hf
  refine v_aload_n (pc := 48) (k := 0) X (by decide +kernel) 0 rfl ?_
  refine v_geti (pc := 49) X fl_12_336 kl0 rfl (by decide +kernel) ?_
  refine v_if_eq (pc := 52) (off := 13) (tgt := 65) X (by decide +kernel) (by decide) (fun q5 => ?_) (fun q5 => ?_)
  · rw [if_pos q5] at hf
    refine v_aload_n (pc := 65) (k := 0) X (by decide +kernel) 0 rfl ?_
    obtain ⟨r1, er1, hf⟩ := bnd_e hf
    refine v_callV (pc := 66) (As := []) (rest := []) X (mt_Md_signs ok hi kl0 er1) ml_12_345 mv_Md_signs kl0 cls_12 rfl ⟨Nat.le_of_ble_eq_true rfl, Nat.le_of_ble_eq_true rfl⟩ rfl rfl (Nat.le_of_ble_eq_true rfl) (by decide +kernel) ?_
    change V E g tb ρ 1 69 [(0, .ref (ρ l0))] [.int r1.1] r1.2
    refine v_if_ne (pc := 69) (off := -44) (tgt := 25) X (by decide +kernel) (by decide) (fun q2 => ?_) (fun q2 => ?_)
    · rw [if_neg q2] at hf
      exact H25 r1.2 l0 kl0 hf
    · rw [if_pos q2] at hf
      refine v_iconst (pc := 72) (n := 0) X (by decide +kernel) ic_0 ?_
      cases hf
      exact v_zret (hz := rfl) X Y (by decide +kernel) rfl rfl
  · rw [if_neg q5] at hf
    refine v_aload_n (pc := 55) (k := 0) X (by decide +kernel) 0 rfl ?_
    obtain ⟨r3, er3, hf⟩ := bnd_e hf
    refine v_callV (pc := 56) (As := []) (rest := []) X (mt_Md_leafRead ok hi kl0 er3) ml_12_342 mv_Md_leafRead kl0 cls_12 rfl ⟨Nat.le_of_ble_eq_true rfl, Nat.le_of_ble_eq_true rfl⟩ rfl rfl (Nat.le_of_ble_eq_true rfl) (by decide +kernel) ?_
    change V E g tb ρ 1 59 [(0, .ref (ρ l0))] [.int r3.1] r3.2
    refine v_if_eq (pc := 59) (off := 13) (tgt := 72) X (by decide +kernel) (by decide) (fun q4 => ?_) (fun q4 => ?_)
    · rw [if_pos q4] at hf
      refine v_iconst (pc := 72) (n := 0) X (by decide +kernel) ic_0 ?_
      cases hf
      exact v_zret (hz := rfl) X Y (by decide +kernel) rfl rfl
    · rw [if_neg q4] at hf
      refine v_goto (pc := 62) (off := -37) (tgt := 25) X (by decide +kernel) (by decide) ?_
      exact H25 r3.2 l0 kl0 hf
set_option maxRecDepth 4000 in
set_option maxHeartbeats 1000000 in
theorem vlp_Md_sumRead_25 {E : En} {g : Gl} {tb : Tb} {ρ : Nat → Nat} (ok : TbOK tb) (hi : inj tb ρ) {r : Int32 × Hp} (X : CX E g tb ρ prog_14_method_41_code 1 RC12 3 68) (Y : CQ E g tb ρ (some .boolean) (some (.int r.1)) r.2) : ∀ (n : Nat) (h : Hp) (l0 : Nat) (kl0 : kd tb l0 = 12), lp_Md_sumRead_25 tb n h l0 = some r → V E g tb ρ 1 25 [(0, .ref (ρ l0))] [] h := by
  intro n
  induction n with
  | zero =>
    intro h l0 kl0 hf
    rw [lp_Md_sumRead_25] at hf
    cases hf
  | succ n ih =>
    intro h l0 kl0 hf
    rw [lp_Md_sumRead_25] at hf
    refine v_aload_n (pc := 25) (k := 0) X (by decide +kernel) 0 rfl ?_
    refine v_bipush (pc := 26) (n := 59) X (by decide +kernel) bi_59 ?_
    obtain ⟨r1, er1, hf⟩ := nmd_e hf
    refine v_callV (pc := 28) (As := [.int (59 : Int32)]) (rest := []) X (mt_Md_isSign ok hi kl0 er1.symm) ml_12_215 mv_Md_isSign kl0 cls_12 rfl ⟨Nat.le_of_ble_eq_true rfl, Nat.le_of_ble_eq_true rfl⟩ rfl rfl (Nat.le_of_ble_eq_true rfl) (by decide +kernel) ?_
    change V E g tb ρ 1 31 [(0, .ref (ρ l0))] [.int r1] h
    refine v_if_eq (pc := 31) (off := 17) (tgt := 48) X (by decide +kernel) (by decide) (fun q5 => ?_) (fun q5 => ?_)
    · rw [if_pos q5] at hf
      exact vjb_Md_sumRead_48 ok hi X Y ih h l0 kl0 hf
    · rw [if_neg q5] at hf
      refine v_aload_n (pc := 34) (k := 0) X (by decide +kernel) 0 rfl ?_
      refine v_geti (pc := 35) X fl_12_336 kl0 rfl (by decide +kernel) ?_
      refine v_if_ne (pc := 38) (off := 10) (tgt := 48) X (by decide +kernel) (by decide) (fun q4 => ?_) (fun q4 => ?_)
      · rw [if_neg q4] at hf
        exact vjb_Md_sumRead_48 ok hi X Y ih h l0 kl0 hf
      · rw [if_pos q4] at hf
        refine v_aload_n (pc := 41) (k := 0) X (by decide +kernel) 0 rfl ?_
        refine v_geti (pc := 42) X fl_12_316 kl0 rfl (by decide +kernel) ?_
        refine v_if_le (pc := 45) (off := 29) (tgt := 74) X (by decide +kernel) (by decide) (fun q3 => ?_) (fun q3 => ?_)
        · rw [if_pos q3] at hf
          refine v_aload_n (pc := 74) (k := 0) X (by decide +kernel) 0 rfl ?_
          refine v_iconst (pc := 75) (n := 1) X (by decide +kernel) ic_1 ?_
          obtain ⟨r2, er2, hf⟩ := bnd_e hf
          refine v_callV (pc := 76) (As := [.int (1 : Int32)]) (rest := []) X (mt_Md_bind ok hi kl0 er2) ml_12_339 mv_Md_bind kl0 cls_12 rfl ⟨Nat.le_of_ble_eq_true rfl, Nat.le_of_ble_eq_true rfl⟩ rfl rfl (Nat.le_of_ble_eq_true rfl) (by decide +kernel) ?_
          change V E g tb ρ 1 79 [(0, .ref (ρ l0))] [] r2
          refine v_iconst (pc := 79) (n := 1) X (by decide +kernel) ic_1 ?_
          cases hf
          exact v_zret (hz := rfl) X Y (by decide +kernel) rfl rfl
        · rw [if_neg q3] at hf
          exact vjb_Md_sumRead_48 ok hi X Y ih h l0 kl0 hf
set_option maxRecDepth 4000 in
set_option maxHeartbeats 1000000 in
theorem mt_Md_sumRead {g : Gl} {tb : Tb} {ρ : Nat → Nat} (ok : TbOK tb) (hi : inj tb ρ) {h : Hp} {l0 : Nat} (kl0 : kd tb l0 = 12) {r : Int32 × Hp} (hf : f_Md_sumRead tb h l0 = some r) : MT g y_Md_sumRead prog_14_method_41_code 1 (some .boolean) 3 68 tb ρ [.ref (ρ l0)] h (some (.int r.1)) r.2 := by
  refine mt_intro (by decide +kernel) ok hi (Nat.le_of_ble_eq_true rfl) (fun E X Y => ?_)
  change V E g tb ρ 1 0 [(0, .ref (ρ l0))] [] h
  unfold f_Md_sumRead at hf
  refine v_aload_n (pc := 0) (k := 0) X (by decide +kernel) 0 rfl ?_
  refine v_iconst (pc := 1) (n := 0) X (by decide +kernel) ic_0 ?_
  obtain ⟨h1, eh1, hf⟩ := nmd_e hf
  refine v_puti (pc := 2) X fp_12_301 kl0 rfl (by decide +kernel) eh1 ?_
  refine v_aload_n (pc := 5) (k := 0) X (by decide +kernel) 0 rfl ?_
  refine v_iconst (pc := 6) (n := 0) X (by decide +kernel) ic_0 ?_
  obtain ⟨h2, eh2, hf⟩ := nmd_e hf
  refine v_puti (pc := 7) X fp_12_298 kl0 rfl (by decide +kernel) eh2 ?_
  refine v_aload_n (pc := 10) (k := 0) X (by decide +kernel) 0 rfl ?_
  refine v_iconst (pc := 11) (n := 0) X (by decide +kernel) ic_0 ?_
  obtain ⟨h3, eh3, hf⟩ := nmd_e hf
  refine v_puti (pc := 12) X fp_12_316 kl0 rfl (by decide +kernel) eh3 ?_
  refine v_aload_n (pc := 15) (k := 0) X (by decide +kernel) 0 rfl ?_
  refine v_iconst (pc := 16) (n := 1) X (by decide +kernel) ic_1 ?_
  obtain ⟨h4, eh4, hf⟩ := nmd_e hf
  refine v_putz (pc := 17) X fp_12_336 kl0 rfl rfl (by decide +kernel) eh4 ?_
  refine v_aload_n (pc := 20) (k := 0) X (by decide +kernel) 0 rfl ?_
  refine v_iconst (pc := 21) (n := 1) X (by decide +kernel) ic_1 ?_
  obtain ⟨h5, eh5, hf⟩ := nmd_e hf
  refine v_putz (pc := 22) X fp_12_323 kl0 rfl rfl (by decide +kernel) eh5 ?_
  exact vlp_Md_sumRead_25 ok hi X Y fu h5 l0 kl0 hf
def jb_Md_lineRead_215 (tb : Tb) (h : Hp) (l0 : Nat) (l1 : Int32) : Option (Int32 × Hp) :=
  if l1 = (0 : Int32) then (
    some ((0 : Int32), h)
  ) else (
    nmd (f_Md_isSign tb h l0 (59 : Int32)) fun r1 =>
    if r1 = (0 : Int32) then (
      nmd (f_Md_wrong tb h l0 (1 : Int32)) fun r3 =>
      (cZ r3.1).bind fun x4 =>
      some (x4, r3.2)
    ) else (
      (f_Md_token tb h l0).bind fun r2 =>
      some ((1 : Int32), r2)
    )
  )
def jb_Md_lineRead_148 (tb : Tb) (h : Hp) (l0 : Nat) : Option (Int32 × Hp) :=
  nmd (f_Md_wrong tb h l0 (1 : Int32)) fun r1 =>
  (cZ r1.1).bind fun x2 =>
  some (x2, r1.2)
def jb_Md_lineRead_17 (tb : Tb) (h : Hp) (l0 : Nat) : Option (Int32 × Hp) :=
  nmd (f_Md_wrong tb h l0 (1 : Int32)) fun r1 =>
  (cZ r1.1).bind fun x2 =>
  some (x2, r1.2)
def f_Md_lineRead (tb : Tb) (h : Hp) (l0 : Nat) : Option (Int32 × Hp) :=
  if (h.1 l0 8) = (1 : Int32) then (
    if (h.1 l0 9) ≤ (6 : Int32) then (
      nmd (h.1 l0 9) fun x1 =>
      if x1 = (0 : Int32) then (
        (f_Md_roadLine tb h l0).bind fun r3 =>
        jb_Md_lineRead_215 tb r3.2 l0 r3.1
      ) else (
        if x1 = (1 : Int32) then (
          (f_Md_troughLine tb h l0).bind fun r5 =>
          jb_Md_lineRead_215 tb r5.2 l0 r5.1
        ) else (
          if x1 = (2 : Int32) then (
            (f_Md_horseLine tb h l0).bind fun r7 =>
            jb_Md_lineRead_215 tb r7.2 l0 r7.1
          ) else (
            if x1 = (3 : Int32) then (
              (f_Md_lapLine tb h l0).bind fun r9 =>
              jb_Md_lineRead_215 tb r9.2 l0 r9.1
            ) else (
              if x1 = (4 : Int32) then (
                (f_Md_onceLine tb h l0 (0 : Int32) (100 : Int32)).bind fun r11 =>
                jb_Md_lineRead_215 tb r11.2 l0 r11.1
              ) else (
                if x1 = (5 : Int32) then (
                  (f_Md_onceLine tb h l0 (1 : Int32) (99999 : Int32)).bind fun r13 =>
                  jb_Md_lineRead_215 tb r13.2 l0 r13.1
                ) else (
                  (f_Md_token tb h l0).bind fun r14 =>
                  if (r14.1 l0 8) = (1 : Int32) then (
                    if (r14.1 l0 9) < (7 : Int32) then (
                      jb_Md_lineRead_148 tb r14 l0
                    ) else (
                      if (r14.1 l0 9) ≤ (9 : Int32) then (
                        nmd (((3 : Int32) + (r14.1 l0 9)) - (7 : Int32)) fun x15 =>
                        (rI tb r14 (lay tb l0 37) x15).bind fun x16 =>
                        if x16 = (0 : Int32) then (
                          (wZ tb r14 (lay tb l0 37) x15 (1 : Int32)).bind fun h17 =>
                          (f_Md_token tb h17 l0).bind fun r18 =>
                          (wI tb r18 (lay tb l0 38) x15 (r18.1 l0 22)).bind fun h19 =>
                          (f_Md_sumRead tb h19 l0).bind fun r20 =>
                          (wI tb r20.2 (lay tb l0 39) x15 (r20.2.1 l0 22)).bind fun h21 =>
                          jb_Md_lineRead_215 tb h21 l0 r20.1
                        ) else (
                          nmd (f_Md_wrong tb r14 l0 (3 : Int32)) fun r22 =>
                          (cZ r22.1).bind fun x23 =>
                          some (x23, r22.2)
                        )
                      ) else (
                        jb_Md_lineRead_148 tb r14 l0
                      )
                    )
                  ) else (
                    jb_Md_lineRead_148 tb r14 l0
                  )
                )
              )
            )
          )
        )
      )
    ) else (
      jb_Md_lineRead_17 tb h l0
    )
  ) else (
    jb_Md_lineRead_17 tb h l0
  )
set_option maxRecDepth 4000 in
set_option maxHeartbeats 1000000 in
theorem vjb_Md_lineRead_215 {E : En} {g : Gl} {tb : Tb} {ρ : Nat → Nat} (ok : TbOK tb) (hi : inj tb ρ) {r : Int32 × Hp} (X : CX E g tb ρ prog_14_method_28_code 3 RC12 4 92) (Y : CQ E g tb ρ (some .boolean) (some (.int r.1)) r.2) (h : Hp) (l0 : Nat) (l1 : Int32) (kl0 : kd tb l0 = 12) (hf : jb_Md_lineRead_215 tb h l0 l1 = some r) : V E g tb ρ 3 215 [(0, .ref (ρ l0)), (1, .int l1)] [] h := by
  unfold jb_Md_lineRead_215 at hf
  refine v_iload_n (pc := 215) (k := 1) X (by decide +kernel) 1 rfl ?_
  refine v_if_ne (pc := 216) (off := 5) (tgt := 221) X (by decide +kernel) (by decide) (fun q6 => ?_) (fun q6 => ?_)
  · rw [if_neg q6] at hf
    refine v_aload_n (pc := 221) (k := 0) X (by decide +kernel) 0 rfl ?_
    refine v_bipush (pc := 222) (n := 59) X (by decide +kernel) bi_59 ?_
    obtain ⟨r1, er1, hf⟩ := nmd_e hf
    refine v_callV (pc := 224) (As := [.int (59 : Int32)]) (rest := []) X (mt_Md_isSign ok hi kl0 er1.symm) ml_12_215 mv_Md_isSign kl0 cls_12 rfl ⟨Nat.le_of_ble_eq_true rfl, Nat.le_of_ble_eq_true rfl⟩ rfl rfl (Nat.le_of_ble_eq_true rfl) (by decide +kernel) ?_
    change V E g tb ρ 3 227 [(0, .ref (ρ l0)), (1, .int l1)] [.int r1] h
    refine v_if_ne (pc := 227) (off := 9) (tgt := 236) X (by decide +kernel) (by decide) (fun q5 => ?_) (fun q5 => ?_)
    · rw [if_neg q5] at hf
      refine v_aload_n (pc := 236) (k := 0) X (by decide +kernel) 0 rfl ?_
      obtain ⟨r2, er2, hf⟩ := bnd_e hf
      refine v_callV (pc := 237) (As := []) (rest := []) X (mt_Md_token ok hi kl0 er2) ml_12_212 mv_Md_token kl0 cls_12 rfl ⟨Nat.le_of_ble_eq_true rfl, Nat.le_of_ble_eq_true rfl⟩ rfl rfl (Nat.le_of_ble_eq_true rfl) (by decide +kernel) ?_
      change V E g tb ρ 3 240 [(0, .ref (ρ l0)), (1, .int l1)] [] r2
      refine v_iconst (pc := 240) (n := 1) X (by decide +kernel) ic_1 ?_
      cases hf
      exact v_zret (hz := rfl) X Y (by decide +kernel) rfl rfl
    · rw [if_pos q5] at hf
      refine v_aload_n (pc := 230) (k := 0) X (by decide +kernel) 0 rfl ?_
      refine v_iconst (pc := 231) (n := 1) X (by decide +kernel) ic_1 ?_
      obtain ⟨r3, er3, hf⟩ := nmd_e hf
      refine v_callV (pc := 232) (As := [.int (1 : Int32)]) (rest := []) X (mt_Md_wrong ok hi kl0 er3.symm) ml_12_202 mv_Md_wrong kl0 cls_12 rfl ⟨Nat.le_of_ble_eq_true rfl, Nat.le_of_ble_eq_true rfl⟩ rfl rfl (Nat.le_of_ble_eq_true rfl) (by decide +kernel) ?_
      change V E g tb ρ 3 235 [(0, .ref (ρ l0)), (1, .int l1)] [.int r3.1] r3.2
      obtain ⟨x4, ex4, hf⟩ := bnd_e hf
      obtain ⟨bx4, rfl⟩ := cZ_e ex4
      cases hf
      exact v_zret (hz := bx4) X Y (by decide +kernel) rfl rfl
  · rw [if_pos q6] at hf
    refine v_iconst (pc := 219) (n := 0) X (by decide +kernel) ic_0 ?_
    cases hf
    exact v_zret (hz := rfl) X Y (by decide +kernel) rfl rfl
set_option maxRecDepth 4000 in
set_option maxHeartbeats 1000000 in
theorem vjb_Md_lineRead_148 {E : En} {g : Gl} {tb : Tb} {ρ : Nat → Nat} (ok : TbOK tb) (hi : inj tb ρ) {r : Int32 × Hp} (X : CX E g tb ρ prog_14_method_28_code 3 RC12 4 92) (Y : CQ E g tb ρ (some .boolean) (some (.int r.1)) r.2) (h : Hp) (l0 : Nat) (kl0 : kd tb l0 = 12) (hf : jb_Md_lineRead_148 tb h l0 = some r) : V E g tb ρ 3 148 [(0, .ref (ρ l0))] [] h := by
  unfold jb_Md_lineRead_148 at hf
  refine v_aload_n (pc := 148) (k := 0) X (by decide +kernel) 0 rfl ?_
  refine v_iconst (pc := 149) (n := 1) X (by decide +kernel) ic_1 ?_
  obtain ⟨r1, er1, hf⟩ := nmd_e hf
  refine v_callV (pc := 150) (As := [.int (1 : Int32)]) (rest := []) X (mt_Md_wrong ok hi kl0 er1.symm) ml_12_202 mv_Md_wrong kl0 cls_12 rfl ⟨Nat.le_of_ble_eq_true rfl, Nat.le_of_ble_eq_true rfl⟩ rfl rfl (Nat.le_of_ble_eq_true rfl) (by decide +kernel) ?_
  change V E g tb ρ 3 153 [(0, .ref (ρ l0))] [.int r1.1] r1.2
  obtain ⟨x2, ex2, hf⟩ := bnd_e hf
  obtain ⟨bx2, rfl⟩ := cZ_e ex2
  cases hf
  exact v_zret (hz := bx2) X Y (by decide +kernel) rfl rfl
set_option maxRecDepth 4000 in
set_option maxHeartbeats 1000000 in
theorem vjb_Md_lineRead_17 {E : En} {g : Gl} {tb : Tb} {ρ : Nat → Nat} (ok : TbOK tb) (hi : inj tb ρ) {r : Int32 × Hp} (X : CX E g tb ρ prog_14_method_28_code 3 RC12 4 92) (Y : CQ E g tb ρ (some .boolean) (some (.int r.1)) r.2) (h : Hp) (l0 : Nat) (kl0 : kd tb l0 = 12) (hf : jb_Md_lineRead_17 tb h l0 = some r) : V E g tb ρ 3 17 [(0, .ref (ρ l0))] [] h := by
  unfold jb_Md_lineRead_17 at hf
  refine v_aload_n (pc := 17) (k := 0) X (by decide +kernel) 0 rfl ?_
  refine v_iconst (pc := 18) (n := 1) X (by decide +kernel) ic_1 ?_
  obtain ⟨r1, er1, hf⟩ := nmd_e hf
  refine v_callV (pc := 19) (As := [.int (1 : Int32)]) (rest := []) X (mt_Md_wrong ok hi kl0 er1.symm) ml_12_202 mv_Md_wrong kl0 cls_12 rfl ⟨Nat.le_of_ble_eq_true rfl, Nat.le_of_ble_eq_true rfl⟩ rfl rfl (Nat.le_of_ble_eq_true rfl) (by decide +kernel) ?_
  change V E g tb ρ 3 22 [(0, .ref (ρ l0))] [.int r1.1] r1.2
  obtain ⟨x2, ex2, hf⟩ := bnd_e hf
  obtain ⟨bx2, rfl⟩ := cZ_e ex2
  cases hf
  exact v_zret (hz := bx2) X Y (by decide +kernel) rfl rfl
set_option maxRecDepth 4000 in
set_option maxHeartbeats 1000000 in
theorem mt_Md_lineRead {g : Gl} {tb : Tb} {ρ : Nat → Nat} (ok : TbOK tb) (hi : inj tb ρ) {h : Hp} {l0 : Nat} (kl0 : kd tb l0 = 12) {r : Int32 × Hp} (hf : f_Md_lineRead tb h l0 = some r) : MT g y_Md_lineRead prog_14_method_28_code 3 (some .boolean) 4 92 tb ρ [.ref (ρ l0)] h (some (.int r.1)) r.2 := by
  refine mt_intro (by decide +kernel) ok hi (Nat.le_of_ble_eq_true rfl) (fun E X Y => ?_)
  change V E g tb ρ 3 0 [(0, .ref (ρ l0))] [] h
  unfold f_Md_lineRead at hf
  refine v_aload_n (pc := 0) (k := 0) X (by decide +kernel) 0 rfl ?_
  refine v_geti (pc := 1) X fl_12_178 kl0 rfl (by decide +kernel) ?_
  refine v_iconst (pc := 4) (n := 1) X (by decide +kernel) ic_1 ?_
  refine v_icmp_ne (pc := 5) (off := 12) (tgt := 17) X (by decide +kernel) (by decide) (fun q29 => ?_) (fun q29 => ?_)
  · rw [if_neg q29] at hf
    exact vjb_Md_lineRead_17 ok hi X Y h l0 kl0 hf
  · rw [if_pos q29] at hf
    refine v_aload_n (pc := 8) (k := 0) X (by decide +kernel) 0 rfl ?_
    refine v_geti (pc := 9) X fl_12_189 kl0 rfl (by decide +kernel) ?_
    refine v_bipush (pc := 12) (n := 6) X (by decide +kernel) bi_6 ?_
    refine v_icmp_le (pc := 14) (off := 9) (tgt := 23) X (by decide +kernel) (by decide) (fun q28 => ?_) (fun q28 => ?_)
    · rw [if_pos q28] at hf
      refine v_aload_n (pc := 23) (k := 0) X (by decide +kernel) 0 rfl ?_
      refine v_geti (pc := 24) X fl_12_189 kl0 rfl (by decide +kernel) ?_
      obtain ⟨x1, ex1, hf⟩ := nmd_e hf
      refine v_nmi ex1 ?_
      by_cases q2 : x1 = (0 : Int32)
      · rw [if_pos q2] at hf
        refine v_tin (pc := 27) (off := 37) (tgt := 64) X (show decode prog_14_method_28_code 27 = .ok (.tableswitch 91 0 5 #[37, 45, 53, 61, 69, 80], 37) from by decide +kernel) q2 (by decide) (by decide) (by decide) (by decide) ?_
        refine v_aload_n (pc := 64) (k := 0) X (by decide +kernel) 0 rfl ?_
        obtain ⟨r3, er3, hf⟩ := bnd_e hf
        refine v_callV (pc := 65) (As := []) (rest := []) X (mt_Md_roadLine ok hi kl0 er3) ml_12_276 mv_Md_roadLine kl0 cls_12 rfl ⟨Nat.le_of_ble_eq_true rfl, Nat.le_of_ble_eq_true rfl⟩ rfl rfl (Nat.le_of_ble_eq_true rfl) (by decide +kernel) ?_
        change V E g tb ρ 3 68 [(0, .ref (ρ l0))] [.int r3.1] r3.2
        refine v_istore_n (pc := 68) (k := 1) (lv' := [(1, .int r3.1), (0, .ref (ρ l0))]) X (by decide +kernel) (Nat.le_of_ble_eq_true rfl) rfl ?_
        refine v_goto (pc := 69) (off := 146) (tgt := 215) X (by decide +kernel) (by decide) ?_
        refine v_sub [1, 0] rfl ?_
        exact vjb_Md_lineRead_215 ok hi X Y r3.2 l0 r3.1 kl0 hf
      · rw [if_neg q2] at hf
        by_cases q4 : x1 = (1 : Int32)
        · rw [if_pos q4] at hf
          refine v_tin (pc := 27) (off := 45) (tgt := 72) X (show decode prog_14_method_28_code 27 = .ok (.tableswitch 91 0 5 #[37, 45, 53, 61, 69, 80], 37) from by decide +kernel) q4 (by decide) (by decide) (by decide) (by decide) ?_
          refine v_aload_n (pc := 72) (k := 0) X (by decide +kernel) 0 rfl ?_
          obtain ⟨r5, er5, hf⟩ := bnd_e hf
          refine v_callV (pc := 73) (As := []) (rest := []) X (mt_Md_troughLine ok hi kl0 er5) ml_12_280 mv_Md_troughLine kl0 cls_12 rfl ⟨Nat.le_of_ble_eq_true rfl, Nat.le_of_ble_eq_true rfl⟩ rfl rfl (Nat.le_of_ble_eq_true rfl) (by decide +kernel) ?_
          change V E g tb ρ 3 76 [(0, .ref (ρ l0))] [.int r5.1] r5.2
          refine v_istore_n (pc := 76) (k := 1) (lv' := [(1, .int r5.1), (0, .ref (ρ l0))]) X (by decide +kernel) (Nat.le_of_ble_eq_true rfl) rfl ?_
          refine v_goto (pc := 77) (off := 138) (tgt := 215) X (by decide +kernel) (by decide) ?_
          refine v_sub [1, 0] rfl ?_
          exact vjb_Md_lineRead_215 ok hi X Y r5.2 l0 r5.1 kl0 hf
        · rw [if_neg q4] at hf
          by_cases q6 : x1 = (2 : Int32)
          · rw [if_pos q6] at hf
            refine v_tin (pc := 27) (off := 53) (tgt := 80) X (show decode prog_14_method_28_code 27 = .ok (.tableswitch 91 0 5 #[37, 45, 53, 61, 69, 80], 37) from by decide +kernel) q6 (by decide) (by decide) (by decide) (by decide) ?_
            refine v_aload_n (pc := 80) (k := 0) X (by decide +kernel) 0 rfl ?_
            obtain ⟨r7, er7, hf⟩ := bnd_e hf
            refine v_callV (pc := 81) (As := []) (rest := []) X (mt_Md_horseLine ok hi kl0 er7) ml_12_283 mv_Md_horseLine kl0 cls_12 rfl ⟨Nat.le_of_ble_eq_true rfl, Nat.le_of_ble_eq_true rfl⟩ rfl rfl (Nat.le_of_ble_eq_true rfl) (by decide +kernel) ?_
            change V E g tb ρ 3 84 [(0, .ref (ρ l0))] [.int r7.1] r7.2
            refine v_istore_n (pc := 84) (k := 1) (lv' := [(1, .int r7.1), (0, .ref (ρ l0))]) X (by decide +kernel) (Nat.le_of_ble_eq_true rfl) rfl ?_
            refine v_goto (pc := 85) (off := 130) (tgt := 215) X (by decide +kernel) (by decide) ?_
            refine v_sub [1, 0] rfl ?_
            exact vjb_Md_lineRead_215 ok hi X Y r7.2 l0 r7.1 kl0 hf
          · rw [if_neg q6] at hf
            by_cases q8 : x1 = (3 : Int32)
            · rw [if_pos q8] at hf
              refine v_tin (pc := 27) (off := 61) (tgt := 88) X (show decode prog_14_method_28_code 27 = .ok (.tableswitch 91 0 5 #[37, 45, 53, 61, 69, 80], 37) from by decide +kernel) q8 (by decide) (by decide) (by decide) (by decide) ?_
              refine v_aload_n (pc := 88) (k := 0) X (by decide +kernel) 0 rfl ?_
              obtain ⟨r9, er9, hf⟩ := bnd_e hf
              refine v_callV (pc := 89) (As := []) (rest := []) X (mt_Md_lapLine ok hi kl0 er9) ml_12_286 mv_Md_lapLine kl0 cls_12 rfl ⟨Nat.le_of_ble_eq_true rfl, Nat.le_of_ble_eq_true rfl⟩ rfl rfl (Nat.le_of_ble_eq_true rfl) (by decide +kernel) ?_
              change V E g tb ρ 3 92 [(0, .ref (ρ l0))] [.int r9.1] r9.2
              refine v_istore_n (pc := 92) (k := 1) (lv' := [(1, .int r9.1), (0, .ref (ρ l0))]) X (by decide +kernel) (Nat.le_of_ble_eq_true rfl) rfl ?_
              refine v_goto (pc := 93) (off := 122) (tgt := 215) X (by decide +kernel) (by decide) ?_
              refine v_sub [1, 0] rfl ?_
              exact vjb_Md_lineRead_215 ok hi X Y r9.2 l0 r9.1 kl0 hf
            · rw [if_neg q8] at hf
              by_cases q10 : x1 = (4 : Int32)
              · rw [if_pos q10] at hf
                refine v_tin (pc := 27) (off := 69) (tgt := 96) X (show decode prog_14_method_28_code 27 = .ok (.tableswitch 91 0 5 #[37, 45, 53, 61, 69, 80], 37) from by decide +kernel) q10 (by decide) (by decide) (by decide) (by decide) ?_
                refine v_aload_n (pc := 96) (k := 0) X (by decide +kernel) 0 rfl ?_
                refine v_iconst (pc := 97) (n := 0) X (by decide +kernel) ic_0 ?_
                refine v_bipush (pc := 98) (n := 100) X (by decide +kernel) bi_100 ?_
                obtain ⟨r11, er11, hf⟩ := bnd_e hf
                refine v_callV (pc := 100) (As := [.int (0 : Int32), .int (100 : Int32)]) (rest := []) X (mt_Md_onceLine ok hi kl0 er11) ml_12_289 mv_Md_onceLine kl0 cls_12 rfl ⟨Nat.le_of_ble_eq_true rfl, Nat.le_of_ble_eq_true rfl⟩ rfl rfl (Nat.le_of_ble_eq_true rfl) (by decide +kernel) ?_
                change V E g tb ρ 3 103 [(0, .ref (ρ l0))] [.int r11.1] r11.2
                refine v_istore_n (pc := 103) (k := 1) (lv' := [(1, .int r11.1), (0, .ref (ρ l0))]) X (by decide +kernel) (Nat.le_of_ble_eq_true rfl) rfl ?_
                refine v_goto (pc := 104) (off := 111) (tgt := 215) X (by decide +kernel) (by decide) ?_
                refine v_sub [1, 0] rfl ?_
                exact vjb_Md_lineRead_215 ok hi X Y r11.2 l0 r11.1 kl0 hf
              · rw [if_neg q10] at hf
                by_cases q12 : x1 = (5 : Int32)
                · rw [if_pos q12] at hf
                  refine v_tin (pc := 27) (off := 80) (tgt := 107) X (show decode prog_14_method_28_code 27 = .ok (.tableswitch 91 0 5 #[37, 45, 53, 61, 69, 80], 37) from by decide +kernel) q12 (by decide) (by decide) (by decide) (by decide) ?_
                  refine v_aload_n (pc := 107) (k := 0) X (by decide +kernel) 0 rfl ?_
                  refine v_iconst (pc := 108) (n := 1) X (by decide +kernel) ic_1 ?_
                  refine v_ldc (pc := 109) X (by decide +kernel) kc_12_198 ?_
                  obtain ⟨r13, er13, hf⟩ := bnd_e hf
                  refine v_callV (pc := 111) (As := [.int (1 : Int32), .int (99999 : Int32)]) (rest := []) X (mt_Md_onceLine ok hi kl0 er13) ml_12_289 mv_Md_onceLine kl0 cls_12 rfl ⟨Nat.le_of_ble_eq_true rfl, Nat.le_of_ble_eq_true rfl⟩ rfl rfl (Nat.le_of_ble_eq_true rfl) (by decide +kernel) ?_
                  change V E g tb ρ 3 114 [(0, .ref (ρ l0))] [.int r13.1] r13.2
                  refine v_istore_n (pc := 114) (k := 1) (lv' := [(1, .int r13.1), (0, .ref (ρ l0))]) X (by decide +kernel) (Nat.le_of_ble_eq_true rfl) rfl ?_
                  refine v_goto (pc := 115) (off := 100) (tgt := 215) X (by decide +kernel) (by decide) ?_
                  refine v_sub [1, 0] rfl ?_
                  exact vjb_Md_lineRead_215 ok hi X Y r13.2 l0 r13.1 kl0 hf
                · rw [if_neg q12] at hf
                  refine v_tout (pc := 27) (tgt := 118) X (show decode prog_14_method_28_code 27 = .ok (.tableswitch 91 0 5 #[37, 45, 53, 61, 69, 80], 37) from by decide +kernel) (t_out (lo := 0) (hi := 5) [(0 : Int32), (1 : Int32), (2 : Int32), (3 : Int32), (4 : Int32), (5 : Int32)] (by decide) (List.forall_mem_cons.mpr ⟨q2, List.forall_mem_cons.mpr ⟨q4, List.forall_mem_cons.mpr ⟨q6, List.forall_mem_cons.mpr ⟨q8, List.forall_mem_cons.mpr ⟨q10, List.forall_mem_cons.mpr ⟨q12, fun _ h => absurd h List.not_mem_nil⟩⟩⟩⟩⟩⟩)) (by decide) ?_
                  refine v_aload_n (pc := 118) (k := 0) X (by decide +kernel) 0 rfl ?_
                  obtain ⟨r14, er14, hf⟩ := bnd_e hf
                  refine v_callV (pc := 119) (As := []) (rest := []) X (mt_Md_token ok hi kl0 er14) ml_12_212 mv_Md_token kl0 cls_12 rfl ⟨Nat.le_of_ble_eq_true rfl, Nat.le_of_ble_eq_true rfl⟩ rfl rfl (Nat.le_of_ble_eq_true rfl) (by decide +kernel) ?_
                  change V E g tb ρ 3 122 [(0, .ref (ρ l0))] [] r14
                  refine v_aload_n (pc := 122) (k := 0) X (by decide +kernel) 0 rfl ?_
                  refine v_geti (pc := 123) X fl_12_178 kl0 rfl (by decide +kernel) ?_
                  refine v_iconst (pc := 126) (n := 1) X (by decide +kernel) ic_1 ?_
                  refine v_icmp_ne (pc := 127) (off := 21) (tgt := 148) X (by decide +kernel) (by decide) (fun q27 => ?_) (fun q27 => ?_)
                  · rw [if_neg q27] at hf
                    exact vjb_Md_lineRead_148 ok hi X Y r14 l0 kl0 hf
                  · rw [if_pos q27] at hf
                    refine v_aload_n (pc := 130) (k := 0) X (by decide +kernel) 0 rfl ?_
                    refine v_geti (pc := 131) X fl_12_189 kl0 rfl (by decide +kernel) ?_
                    refine v_bipush (pc := 134) (n := 7) X (by decide +kernel) bi_7 ?_
                    refine v_icmp_lt (pc := 136) (off := 12) (tgt := 148) X (by decide +kernel) (by decide) (fun q26 => ?_) (fun q26 => ?_)
                    · rw [if_pos q26] at hf
                      exact vjb_Md_lineRead_148 ok hi X Y r14 l0 kl0 hf
                    · rw [if_neg q26] at hf
                      refine v_aload_n (pc := 139) (k := 0) X (by decide +kernel) 0 rfl ?_
                      refine v_geti (pc := 140) X fl_12_189 kl0 rfl (by decide +kernel) ?_
                      refine v_bipush (pc := 143) (n := 9) X (by decide +kernel) bi_9 ?_
                      refine v_icmp_le (pc := 145) (off := 9) (tgt := 154) X (by decide +kernel) (by decide) (fun q25 => ?_) (fun q25 => ?_)
                      · rw [if_pos q25] at hf
                        refine v_iconst (pc := 154) (n := 3) X (by decide +kernel) ic_3 ?_
                        refine v_aload_n (pc := 155) (k := 0) X (by decide +kernel) 0 rfl ?_
                        refine v_geti (pc := 156) X fl_12_189 kl0 rfl (by decide +kernel) ?_
                        refine v_iadd (pc := 159) X (by decide +kernel) ?_
                        refine v_bipush (pc := 160) (n := 7) X (by decide +kernel) bi_7 ?_
                        refine v_isub (pc := 162) X (by decide +kernel) ?_
                        obtain ⟨x15, ex15, hf⟩ := nmd_e hf
                        refine v_nmi ex15 ?_
                        refine v_istore_n (pc := 163) (k := 2) (lv' := [(2, .int x15), (0, .ref (ρ l0))]) X (by decide +kernel) (Nat.le_of_ble_eq_true rfl) rfl ?_
                        refine v_aload_n (pc := 164) (k := 0) X (by decide +kernel) 1 rfl ?_
                        refine v_geta (pc := 165) X fl_12_63 kl0 fk_12_37 (by decide +kernel) ?_
                        refine v_iload_n (pc := 168) (k := 2) X (by decide +kernel) 0 rfl ?_
                        obtain ⟨x16, ex16, hf⟩ := bnd_e hf
                        refine v_zald (pc := 169) X (ly_12_37 ok kl0) ex16 (by decide +kernel) ?_
                        refine v_if_eq (pc := 170) (off := 9) (tgt := 179) X (by decide +kernel) (by decide) (fun q24 => ?_) (fun q24 => ?_)
                        · rw [if_pos q24] at hf
                          refine v_aload_n (pc := 179) (k := 0) X (by decide +kernel) 1 rfl ?_
                          refine v_geta (pc := 180) X fl_12_63 kl0 fk_12_37 (by decide +kernel) ?_
                          refine v_iload_n (pc := 183) (k := 2) X (by decide +kernel) 0 rfl ?_
                          refine v_iconst (pc := 184) (n := 1) X (by decide +kernel) ic_1 ?_
                          obtain ⟨h17, eh17, hf⟩ := bnd_e hf
                          refine v_zast (pc := 185) X (ly_12_37 ok kl0) eh17 (by decide +kernel) ?_
                          refine v_aload_n (pc := 186) (k := 0) X (by decide +kernel) 1 rfl ?_
                          obtain ⟨r18, er18, hf⟩ := bnd_e hf
                          refine v_callV (pc := 187) (As := []) (rest := []) X (mt_Md_token ok hi kl0 er18) ml_12_212 mv_Md_token kl0 cls_12 rfl ⟨Nat.le_of_ble_eq_true rfl, Nat.le_of_ble_eq_true rfl⟩ rfl rfl (Nat.le_of_ble_eq_true rfl) (by decide +kernel) ?_
                          change V E g tb ρ 3 190 [(2, .int x15), (0, .ref (ρ l0))] [] r18
                          refine v_aload_n (pc := 190) (k := 0) X (by decide +kernel) 1 rfl ?_
                          refine v_geta (pc := 191) X fl_12_66 kl0 fk_12_38 (by decide +kernel) ?_
                          refine v_iload_n (pc := 194) (k := 2) X (by decide +kernel) 0 rfl ?_
                          refine v_aload_n (pc := 195) (k := 0) X (by decide +kernel) 1 rfl ?_
                          refine v_geti (pc := 196) X fl_12_237 kl0 rfl (by decide +kernel) ?_
                          obtain ⟨h19, eh19, hf⟩ := bnd_e hf
                          refine v_iast (pc := 199) X (ly_12_38 ok kl0) eh19 (by decide +kernel) ?_
                          refine v_aload_n (pc := 200) (k := 0) X (by decide +kernel) 1 rfl ?_
                          obtain ⟨r20, er20, hf⟩ := bnd_e hf
                          refine v_callV (pc := 201) (As := []) (rest := []) X (mt_Md_sumRead ok hi kl0 er20) ml_12_292 mv_Md_sumRead kl0 cls_12 rfl ⟨Nat.le_of_ble_eq_true rfl, Nat.le_of_ble_eq_true rfl⟩ rfl rfl (Nat.le_of_ble_eq_true rfl) (by decide +kernel) ?_
                          change V E g tb ρ 3 204 [(2, .int x15), (0, .ref (ρ l0))] [.int r20.1] r20.2
                          refine v_istore_n (pc := 204) (k := 1) (lv' := [(1, .int r20.1), (2, .int x15), (0, .ref (ρ l0))]) X (by decide +kernel) (Nat.le_of_ble_eq_true rfl) rfl ?_
                          refine v_aload_n (pc := 205) (k := 0) X (by decide +kernel) 2 rfl ?_
                          refine v_geta (pc := 206) X fl_12_69 kl0 fk_12_39 (by decide +kernel) ?_
                          refine v_iload_n (pc := 209) (k := 2) X (by decide +kernel) 1 rfl ?_
                          refine v_aload_n (pc := 210) (k := 0) X (by decide +kernel) 2 rfl ?_
                          refine v_geti (pc := 211) X fl_12_237 kl0 rfl (by decide +kernel) ?_
                          obtain ⟨h21, eh21, hf⟩ := bnd_e hf
                          refine v_iast (pc := 214) X (ly_12_39 ok kl0) eh21 (by decide +kernel) ?_
                          refine v_sub [2, 0] rfl ?_
                          exact vjb_Md_lineRead_215 ok hi X Y h21 l0 r20.1 kl0 hf
                        · rw [if_neg q24] at hf
                          refine v_aload_n (pc := 173) (k := 0) X (by decide +kernel) 1 rfl ?_
                          refine v_iconst (pc := 174) (n := 3) X (by decide +kernel) ic_3 ?_
                          obtain ⟨r22, er22, hf⟩ := nmd_e hf
                          refine v_callV (pc := 175) (As := [.int (3 : Int32)]) (rest := []) X (mt_Md_wrong ok hi kl0 er22.symm) ml_12_202 mv_Md_wrong kl0 cls_12 rfl ⟨Nat.le_of_ble_eq_true rfl, Nat.le_of_ble_eq_true rfl⟩ rfl rfl (Nat.le_of_ble_eq_true rfl) (by decide +kernel) ?_
                          change V E g tb ρ 3 178 [(2, .int x15), (0, .ref (ρ l0))] [.int r22.1] r22.2
                          obtain ⟨x23, ex23, hf⟩ := bnd_e hf
                          obtain ⟨bx23, rfl⟩ := cZ_e ex23
                          cases hf
                          exact v_zret (hz := bx23) X Y (by decide +kernel) rfl rfl
                      · rw [if_neg q25] at hf
                        exact vjb_Md_lineRead_148 ok hi X Y r14 l0 kl0 hf
    · rw [if_neg q28] at hf
      exact vjb_Md_lineRead_17 ok hi X Y h l0 kl0 hf
def lp_Md_text_53 (tb : Tb) : Nat → Hp → Nat → Option (Int32 × Hp)
  | 0, _, _ => none
  | n + 1, h, l0 =>
    if (h.1 l0 8) = (0 : Int32) then (
      (f_Md_keepText tb h l0).bind fun r1 =>
      some (r1.1 l0 21, r1)
    ) else (
      (f_Md_lineRead tb h l0).bind fun r2 =>
      if r2.1 = (0 : Int32) then (
        some ((-1 : Int32), r2.2)
      ) else (
        nmd (pI r2.2 l0 21 ((r2.2.1 l0 21) + (1 : Int32))) fun h3 =>
        lp_Md_text_53 tb n h3 l0
      )
    )
def f_Md_text (tb : Tb) (h : Hp) (l0 : Nat) (l1 : Int32) : Option (Int32 × Hp) :=
  nmd (pI h l0 2 (0 : Int32)) fun h1 =>
  if l1 < (0 : Int32) then (
    some ((-2 : Int32), h1)
  ) else (
    if l1 ≤ (h1.1 l0 1) then (
      nmd (pI h1 l0 6 l1) fun h2 =>
      nmd (pI h2 l0 1 (0 : Int32)) fun h3 =>
      nmd (pI h3 l0 4 (0 : Int32)) fun h4 =>
      nmd (pI h4 l0 5 (-1 : Int32)) fun h5 =>
      nmd (pI h5 l0 7 (0 : Int32)) fun h6 =>
      (f_Md_plain tb h6 l0).bind fun r7 =>
      (f_Md_token tb r7 l0).bind fun r8 =>
      lp_Md_text_53 tb fu r8 l0
    ) else (
      some ((-2 : Int32), h1)
    )
  )
set_option maxRecDepth 4000 in
set_option maxHeartbeats 1000000 in
theorem vlp_Md_text_53 {E : En} {g : Gl} {tb : Tb} {ρ : Nat → Nat} (ok : TbOK tb) (hi : inj tb ρ) {r : Int32 × Hp} (X : CX E g tb ρ prog_14_method_29_code 2 RC12 5 114) (Y : CQ E g tb ρ (some .int) (some (.int r.1)) r.2) : ∀ (n : Nat) (h : Hp) (l0 : Nat) (kl0 : kd tb l0 = 12), lp_Md_text_53 tb n h l0 = some r → V E g tb ρ 2 53 [(0, .ref (ρ l0))] [] h := by
  intro n
  induction n with
  | zero =>
    intro h l0 kl0 hf
    rw [lp_Md_text_53] at hf
    cases hf
  | succ n ih =>
    intro h l0 kl0 hf
    rw [lp_Md_text_53] at hf
    refine v_aload_n (pc := 53) (k := 0) X (by decide +kernel) 0 rfl ?_
    refine v_geti (pc := 54) X fl_12_178 kl0 rfl (by decide +kernel) ?_
    refine v_if_eq (pc := 57) (off := 25) (tgt := 82) X (by decide +kernel) (by decide) (fun q5 => ?_) (fun q5 => ?_)
    · rw [if_pos q5] at hf
      refine v_aload_n (pc := 82) (k := 0) X (by decide +kernel) 0 rfl ?_
      obtain ⟨r1, er1, hf⟩ := bnd_e hf
      refine v_callV (pc := 83) (As := []) (rest := []) X (mt_Md_keepText ok hi kl0 er1) ml_12_157 mv_Md_keepText kl0 cls_12 rfl ⟨Nat.le_of_ble_eq_true rfl, Nat.le_of_ble_eq_true rfl⟩ rfl rfl (Nat.le_of_ble_eq_true rfl) (by decide +kernel) ?_
      change V E g tb ρ 2 86 [(0, .ref (ρ l0))] [] r1
      refine v_aload_n (pc := 86) (k := 0) X (by decide +kernel) 0 rfl ?_
      refine v_geti (pc := 87) X fl_12_234 kl0 rfl (by decide +kernel) ?_
      cases hf
      exact v_iret X Y (by decide +kernel) rfl rfl
    · rw [if_neg q5] at hf
      refine v_aload_n (pc := 60) (k := 0) X (by decide +kernel) 0 rfl ?_
      obtain ⟨r2, er2, hf⟩ := bnd_e hf
      refine v_callV (pc := 61) (As := []) (rest := []) X (mt_Md_lineRead ok hi kl0 er2) ml_12_295 mv_Md_lineRead kl0 cls_12 rfl ⟨Nat.le_of_ble_eq_true rfl, Nat.le_of_ble_eq_true rfl⟩ rfl rfl (Nat.le_of_ble_eq_true rfl) (by decide +kernel) ?_
      change V E g tb ρ 2 64 [(0, .ref (ρ l0))] [.int r2.1] r2.2
      refine v_if_ne (pc := 64) (off := 5) (tgt := 69) X (by decide +kernel) (by decide) (fun q4 => ?_) (fun q4 => ?_)
      · rw [if_neg q4] at hf
        refine v_aload_n (pc := 69) (k := 0) X (by decide +kernel) 0 rfl ?_
        refine v_dup (pc := 70) X (by decide +kernel) rfl ?_
        refine v_geti (pc := 71) X fl_12_234 kl0 rfl (by decide +kernel) ?_
        refine v_iconst (pc := 74) (n := 1) X (by decide +kernel) ic_1 ?_
        refine v_iadd (pc := 75) X (by decide +kernel) ?_
        obtain ⟨h3, eh3, hf⟩ := nmd_e hf
        refine v_puti (pc := 76) X fp_12_234 kl0 rfl (by decide +kernel) eh3 ?_
        refine v_goto (pc := 79) (off := -26) (tgt := 53) X (by decide +kernel) (by decide) ?_
        exact ih h3 l0 kl0 hf
      · rw [if_pos q4] at hf
        refine v_iconst (pc := 67) (n := -1) X (by decide +kernel) ic_m1 ?_
        cases hf
        exact v_iret X Y (by decide +kernel) rfl rfl
set_option maxRecDepth 4000 in
set_option maxHeartbeats 1000000 in
theorem mt_Md_text {g : Gl} {tb : Tb} {ρ : Nat → Nat} (ok : TbOK tb) (hi : inj tb ρ) {h : Hp} {l0 : Nat} {l1 : Int32} (kl0 : kd tb l0 = 12) {r : Int32 × Hp} (hf : f_Md_text tb h l0 l1 = some r) : MT g y_Md_text prog_14_method_29_code 2 (some .int) 5 114 tb ρ [.ref (ρ l0), .int l1] h (some (.int r.1)) r.2 := by
  refine mt_intro (by decide +kernel) ok hi (Nat.le_of_ble_eq_true rfl) (fun E X Y => ?_)
  change V E g tb ρ 2 0 [(0, .ref (ρ l0)), (1, .int l1)] [] h
  unfold f_Md_text at hf
  refine v_aload_n (pc := 0) (k := 0) X (by decide +kernel) 0 rfl ?_
  refine v_iconst (pc := 1) (n := 0) X (by decide +kernel) ic_0 ?_
  obtain ⟨h1, eh1, hf⟩ := nmd_e hf
  refine v_puti (pc := 2) X fp_12_160 kl0 rfl (by decide +kernel) eh1 ?_
  refine v_iload_n (pc := 5) (k := 1) X (by decide +kernel) 1 rfl ?_
  refine v_if_lt (pc := 6) (off := 11) (tgt := 17) X (by decide +kernel) (by decide) (fun q10 => ?_) (fun q10 => ?_)
  · rw [if_pos q10] at hf
    refine v_bipush (pc := 17) (n := -2) X (by decide +kernel) bi_m2 ?_
    cases hf
    exact v_iret X Y (by decide +kernel) rfl rfl
  · rw [if_neg q10] at hf
    refine v_iload_n (pc := 9) (k := 1) X (by decide +kernel) 1 rfl ?_
    refine v_aload_n (pc := 10) (k := 0) X (by decide +kernel) 0 rfl ?_
    refine v_geti (pc := 11) X fl_12_163 kl0 rfl (by decide +kernel) ?_
    refine v_icmp_le (pc := 14) (off := 6) (tgt := 20) X (by decide +kernel) (by decide) (fun q9 => ?_) (fun q9 => ?_)
    · rw [if_pos q9] at hf
      refine v_aload_n (pc := 20) (k := 0) X (by decide +kernel) 0 rfl ?_
      refine v_iload_n (pc := 21) (k := 1) X (by decide +kernel) 1 rfl ?_
      obtain ⟨h2, eh2, hf⟩ := nmd_e hf
      refine v_puti (pc := 22) X fp_12_172 kl0 rfl (by decide +kernel) eh2 ?_
      refine v_aload_n (pc := 25) (k := 0) X (by decide +kernel) 0 rfl ?_
      refine v_iconst (pc := 26) (n := 0) X (by decide +kernel) ic_0 ?_
      obtain ⟨h3, eh3, hf⟩ := nmd_e hf
      refine v_puti (pc := 27) X fp_12_163 kl0 rfl (by decide +kernel) eh3 ?_
      refine v_aload_n (pc := 30) (k := 0) X (by decide +kernel) 0 rfl ?_
      refine v_iconst (pc := 31) (n := 0) X (by decide +kernel) ic_0 ?_
      obtain ⟨h4, eh4, hf⟩ := nmd_e hf
      refine v_puti (pc := 32) X fp_12_166 kl0 rfl (by decide +kernel) eh4 ?_
      refine v_aload_n (pc := 35) (k := 0) X (by decide +kernel) 0 rfl ?_
      refine v_iconst (pc := 36) (n := -1) X (by decide +kernel) ic_m1 ?_
      obtain ⟨h5, eh5, hf⟩ := nmd_e hf
      refine v_puti (pc := 37) X fp_12_16 kl0 rfl (by decide +kernel) eh5 ?_
      refine v_aload_n (pc := 40) (k := 0) X (by decide +kernel) 0 rfl ?_
      refine v_iconst (pc := 41) (n := 0) X (by decide +kernel) ic_0 ?_
      obtain ⟨h6, eh6, hf⟩ := nmd_e hf
      refine v_puti (pc := 42) X fp_12_175 kl0 rfl (by decide +kernel) eh6 ?_
      refine v_aload_n (pc := 45) (k := 0) X (by decide +kernel) 0 rfl ?_
      obtain ⟨r7, er7, hf⟩ := bnd_e hf
      refine v_callV (pc := 46) (As := []) (rest := []) X (mt_Md_plain ok hi kl0 er7) ml_12_154 mv_Md_plain kl0 cls_12 rfl ⟨Nat.le_of_ble_eq_true rfl, Nat.le_of_ble_eq_true rfl⟩ rfl rfl (Nat.le_of_ble_eq_true rfl) (by decide +kernel) ?_
      change V E g tb ρ 2 49 [(0, .ref (ρ l0)), (1, .int l1)] [] r7
      refine v_aload_n (pc := 49) (k := 0) X (by decide +kernel) 0 rfl ?_
      obtain ⟨r8, er8, hf⟩ := bnd_e hf
      refine v_callV (pc := 50) (As := []) (rest := []) X (mt_Md_token ok hi kl0 er8) ml_12_212 mv_Md_token kl0 cls_12 rfl ⟨Nat.le_of_ble_eq_true rfl, Nat.le_of_ble_eq_true rfl⟩ rfl rfl (Nat.le_of_ble_eq_true rfl) (by decide +kernel) ?_
      change V E g tb ρ 2 53 [(0, .ref (ρ l0)), (1, .int l1)] [] r8
      refine v_sub [0] rfl ?_
      exact vlp_Md_text_53 ok hi X Y fu r8 l0 kl0 hf
    · rw [if_neg q9] at hf
      refine v_bipush (pc := 17) (n := -2) X (by decide +kernel) bi_m2 ?_
      cases hf
      exact v_iret X Y (by decide +kernel) rfl rfl
def f_Md_fault (tb : Tb) (h : Hp) (l0 : Nat) (l1 : Int32) : Int32 × Hp :=
  nmd (pI h l0 2 (0 : Int32)) fun h1 =>
  if l1 = (0 : Int32) then (
    (h1.1 l0 4, h1)
  ) else (
    if l1 = (1 : Int32) then (
      (h1.1 l0 5, h1)
    ) else (
      ((-1 : Int32), h1)
    )
  )
set_option maxRecDepth 4000 in
set_option maxHeartbeats 1000000 in
theorem mt_Md_fault {g : Gl} {tb : Tb} {ρ : Nat → Nat} (ok : TbOK tb) (hi : inj tb ρ) {h : Hp} {l0 : Nat} {l1 : Int32} (kl0 : kd tb l0 = 12) {r : Int32 × Hp} (hf : f_Md_fault tb h l0 l1 = r) : MT g y_Md_fault prog_14_method_30_code 2 (some .int) 0 0 tb ρ [.ref (ρ l0), .int l1] h (some (.int r.1)) r.2 := by
  refine mt_intro (by decide +kernel) ok hi (Nat.le_of_ble_eq_true rfl) (fun E X Y => ?_)
  change V E g tb ρ 2 0 [(0, .ref (ρ l0)), (1, .int l1)] [] h
  unfold f_Md_fault at hf
  refine v_aload_n (pc := 0) (k := 0) X (by decide +kernel) 0 rfl ?_
  refine v_iconst (pc := 1) (n := 0) X (by decide +kernel) ic_0 ?_
  obtain ⟨h1, eh1, hf⟩ := nmd_e hf
  refine v_puti (pc := 2) X fp_12_160 kl0 rfl (by decide +kernel) eh1 ?_
  refine v_iload_n (pc := 5) (k := 1) X (by decide +kernel) 1 rfl ?_
  refine v_if_ne (pc := 6) (off := 10) (tgt := 16) X (by decide +kernel) (by decide) (fun q3 => ?_) (fun q3 => ?_)
  · rw [if_neg q3] at hf
    refine v_iload_n (pc := 16) (k := 1) X (by decide +kernel) 1 rfl ?_
    refine v_iconst (pc := 17) (n := 1) X (by decide +kernel) ic_1 ?_
    refine v_icmp_ne (pc := 18) (off := 10) (tgt := 28) X (by decide +kernel) (by decide) (fun q2 => ?_) (fun q2 => ?_)
    · rw [if_neg q2] at hf
      refine v_iconst (pc := 28) (n := -1) X (by decide +kernel) ic_m1 ?_
      cases hf
      exact v_iret X Y (by decide +kernel) rfl rfl
    · rw [if_pos q2] at hf
      refine v_aload_n (pc := 21) (k := 0) X (by decide +kernel) 0 rfl ?_
      refine v_geti (pc := 22) X fl_12_16 kl0 rfl (by decide +kernel) ?_
      refine v_goto (pc := 25) (off := 4) (tgt := 29) X (by decide +kernel) (by decide) ?_
      cases hf
      exact v_iret X Y (by decide +kernel) rfl rfl
  · rw [if_pos q3] at hf
    refine v_aload_n (pc := 9) (k := 0) X (by decide +kernel) 0 rfl ?_
    refine v_geti (pc := 10) X fl_12_166 kl0 rfl (by decide +kernel) ?_
    refine v_goto (pc := 13) (off := 16) (tgt := 29) X (by decide +kernel) (by decide) ?_
    cases hf
    exact v_iret X Y (by decide +kernel) rfl rfl
def f_Md_named (tb : Tb) (h : Hp) (l0 : Nat) (l1 : Int32) (l2 : Int32) : Option (Int32 × Hp) :=
  nmd (pI h l0 2 (0 : Int32)) fun h1 =>
  if l1 = (0 : Int32) then (
    (f_Md_find tb h1 (lay tb l0 25) (0 : Int32) (h1.1 l0 12) l2).bind fun r4 =>
    some (r4, h1)
  ) else (
    if l1 = (1 : Int32) then (
      (f_Md_find tb h1 (lay tb l0 29) (0 : Int32) (h1.1 l0 13) l2).bind fun r2 =>
      some (r2, h1)
    ) else (
      some ((-1 : Int32), h1)
    )
  )
set_option maxRecDepth 4000 in
set_option maxHeartbeats 1000000 in
theorem mt_Md_named {g : Gl} {tb : Tb} {ρ : Nat → Nat} (ok : TbOK tb) (hi : inj tb ρ) {h : Hp} {l0 : Nat} {l1 : Int32} {l2 : Int32} (kl0 : kd tb l0 = 12) {r : Int32 × Hp} (hf : f_Md_named tb h l0 l1 l2 = some r) : MT g y_Md_named prog_14_method_31_code 3 (some .int) 1 24 tb ρ [.ref (ρ l0), .int l1, .int l2] h (some (.int r.1)) r.2 := by
  refine mt_intro (by decide +kernel) ok hi (Nat.le_of_ble_eq_true rfl) (fun E X Y => ?_)
  change V E g tb ρ 3 0 [(0, .ref (ρ l0)), (1, .int l1), (2, .int l2)] [] h
  unfold f_Md_named at hf
  refine v_aload_n (pc := 0) (k := 0) X (by decide +kernel) 0 rfl ?_
  refine v_iconst (pc := 1) (n := 0) X (by decide +kernel) ic_0 ?_
  obtain ⟨h1, eh1, hf⟩ := nmd_e hf
  refine v_puti (pc := 2) X fp_12_160 kl0 rfl (by decide +kernel) eh1 ?_
  refine v_iload_n (pc := 5) (k := 1) X (by decide +kernel) 1 rfl ?_
  refine v_if_ne (pc := 6) (off := 19) (tgt := 25) X (by decide +kernel) (by decide) (fun q5 => ?_) (fun q5 => ?_)
  · rw [if_neg q5] at hf
    refine v_iload_n (pc := 25) (k := 1) X (by decide +kernel) 1 rfl ?_
    refine v_iconst (pc := 26) (n := 1) X (by decide +kernel) ic_1 ?_
    refine v_icmp_ne (pc := 27) (off := 19) (tgt := 46) X (by decide +kernel) (by decide) (fun q3 => ?_) (fun q3 => ?_)
    · rw [if_neg q3] at hf
      refine v_iconst (pc := 46) (n := -1) X (by decide +kernel) ic_m1 ?_
      cases hf
      exact v_iret X Y (by decide +kernel) rfl rfl
    · rw [if_pos q3] at hf
      refine v_aload_n (pc := 30) (k := 0) X (by decide +kernel) 0 rfl ?_
      refine v_geta (pc := 31) X fl_12_39 kl0 fk_12_29 (by decide +kernel) ?_
      refine v_iconst (pc := 34) (n := 0) X (by decide +kernel) ic_0 ?_
      refine v_aload_n (pc := 35) (k := 0) X (by decide +kernel) 0 rfl ?_
      refine v_geti (pc := 36) X fl_12_246 kl0 rfl (by decide +kernel) ?_
      refine v_iload_n (pc := 39) (k := 2) X (by decide +kernel) 2 rfl ?_
      obtain ⟨r2, er2, hf⟩ := bnd_e hf
      refine v_callS (pc := 40) (As := [.ref (ρ (lay tb l0 29)), .int (0 : Int32), .int (h1.1 l0 13), .int l2]) (rest := []) X (mt_Md_find ok hi (ly_12_29 ok kl0) er2) ml_12_265 ms_Md_find ⟨Nat.le_of_ble_eq_true rfl, Nat.le_of_ble_eq_true rfl⟩ rfl rfl (Nat.le_of_ble_eq_true rfl) (by decide +kernel) ?_
      change V E g tb ρ 3 43 [(0, .ref (ρ l0)), (1, .int l1), (2, .int l2)] [.int r2] h1
      refine v_goto (pc := 43) (off := 4) (tgt := 47) X (by decide +kernel) (by decide) ?_
      cases hf
      exact v_iret X Y (by decide +kernel) rfl rfl
  · rw [if_pos q5] at hf
    refine v_aload_n (pc := 9) (k := 0) X (by decide +kernel) 0 rfl ?_
    refine v_geta (pc := 10) X fl_12_27 kl0 fk_12_25 (by decide +kernel) ?_
    refine v_iconst (pc := 13) (n := 0) X (by decide +kernel) ic_0 ?_
    refine v_aload_n (pc := 14) (k := 0) X (by decide +kernel) 0 rfl ?_
    refine v_geti (pc := 15) X fl_12_243 kl0 rfl (by decide +kernel) ?_
    refine v_iload_n (pc := 18) (k := 2) X (by decide +kernel) 2 rfl ?_
    obtain ⟨r4, er4, hf⟩ := bnd_e hf
    refine v_callS (pc := 19) (As := [.ref (ρ (lay tb l0 25)), .int (0 : Int32), .int (h1.1 l0 12), .int l2]) (rest := []) X (mt_Md_find ok hi (ly_12_25 ok kl0) er4) ml_12_265 ms_Md_find ⟨Nat.le_of_ble_eq_true rfl, Nat.le_of_ble_eq_true rfl⟩ rfl rfl (Nat.le_of_ble_eq_true rfl) (by decide +kernel) ?_
    change V E g tb ρ 3 22 [(0, .ref (ρ l0)), (1, .int l1), (2, .int l2)] [.int r4] h1
    refine v_goto (pc := 22) (off := 25) (tgt := 47) X (by decide +kernel) (by decide) ?_
    cases hf
    exact v_iret X Y (by decide +kernel) rfl rfl
def jb_Md_bounded_29 (tb : Tb) (h : Hp) (l0 : Nat) (l1 : Int64) (s0 : Nat) (s1 : Int32) : Option (Int64 × Hp) :=
  (pZ h s0 53 s1).bind fun h1 =>
  if (h1.1 l0 53) = (0 : Int32) then (
    some (l1, h1)
  ) else (
    some ((0 : Int64), h1)
  )
def jb_Md_bounded_24 (tb : Tb) (h : Hp) (l0 : Nat) (l1 : Int64) (s0 : Nat) : Option (Int64 × Hp) :=
  jb_Md_bounded_29 tb h l0 l1 s0 (1 : Int32)
def f_Md_bounded (tb : Tb) (h : Hp) (l0 : Nat) (l1 : Int64) : Option (Int64 × Hp) :=
  if (h.1 l0 53) = (0 : Int32) then (
    if (0 : Int32) < (lg_cmp l1 (1000000000000 : Int64)) then (
      jb_Md_bounded_24 tb h l0 l1 l0
    ) else (
      if (0 : Int32) ≤ (lg_cmp l1 (-1000000000000 : Int64)) then (
        jb_Md_bounded_29 tb h l0 l1 l0 (0 : Int32)
      ) else (
        jb_Md_bounded_24 tb h l0 l1 l0
      )
    )
  ) else (
    jb_Md_bounded_24 tb h l0 l1 l0
  )
set_option maxRecDepth 4000 in
set_option maxHeartbeats 1000000 in
theorem vjb_Md_bounded_29 {E : En} {g : Gl} {tb : Tb} {ρ : Nat → Nat} (ok : TbOK tb) (hi : inj tb ρ) {r : Int64 × Hp} (X : CX E g tb ρ prog_14_method_42_code 3 RC12 0 0) (Y : CQ E g tb ρ (some .long) (some (.long r.1)) r.2) (h : Hp) (l0 : Nat) (l1 : Int64) (s0 : Nat) (s1 : Int32) (kl0 : kd tb l0 = 12) (ks0 : kd tb s0 = 12) (hf : jb_Md_bounded_29 tb h l0 l1 s0 s1 = some r) : V E g tb ρ 3 29 [(0, .ref (ρ l0)), (1, .long l1)] [.int s1, .ref (ρ s0)] h := by
  unfold jb_Md_bounded_29 at hf
  obtain ⟨h1, eh1, hf⟩ := bnd_e hf
  refine v_putz (pc := 29) X fp_12_348 ks0 rfl (pZ_b eh1) (by decide +kernel) (pZ_e eh1) ?_
  refine v_aload_n (pc := 32) (k := 0) X (by decide +kernel) 0 rfl ?_
  refine v_geti (pc := 33) X fl_12_348 kl0 rfl (by decide +kernel) ?_
  refine v_if_eq (pc := 36) (off := 7) (tgt := 43) X (by decide +kernel) (by decide) (fun q2 => ?_) (fun q2 => ?_)
  · rw [if_pos q2] at hf
    refine v_lload_n (pc := 43) (k := 1) X (by decide +kernel) 1 rfl ?_
    cases hf
    exact v_lret X Y (by decide +kernel) rfl rfl
  · rw [if_neg q2] at hf
    refine v_lconst (pc := 39) (n := 0) X (by decide +kernel) lc_0 ?_
    refine v_goto (pc := 40) (off := 4) (tgt := 44) X (by decide +kernel) (by decide) ?_
    cases hf
    exact v_lret X Y (by decide +kernel) rfl rfl
set_option maxRecDepth 4000 in
set_option maxHeartbeats 1000000 in
theorem vjb_Md_bounded_24 {E : En} {g : Gl} {tb : Tb} {ρ : Nat → Nat} (ok : TbOK tb) (hi : inj tb ρ) {r : Int64 × Hp} (X : CX E g tb ρ prog_14_method_42_code 3 RC12 0 0) (Y : CQ E g tb ρ (some .long) (some (.long r.1)) r.2) (h : Hp) (l0 : Nat) (l1 : Int64) (s0 : Nat) (kl0 : kd tb l0 = 12) (ks0 : kd tb s0 = 12) (hf : jb_Md_bounded_24 tb h l0 l1 s0 = some r) : V E g tb ρ 3 24 [(0, .ref (ρ l0)), (1, .long l1)] [.ref (ρ s0)] h := by
  unfold jb_Md_bounded_24 at hf
  refine v_iconst (pc := 24) (n := 1) X (by decide +kernel) ic_1 ?_
  refine v_goto (pc := 25) (off := 4) (tgt := 29) X (by decide +kernel) (by decide) ?_
  exact vjb_Md_bounded_29 ok hi X Y h l0 l1 s0 (1 : Int32) kl0 ks0 hf
set_option maxRecDepth 4000 in
set_option maxHeartbeats 1000000 in
theorem mt_Md_bounded {g : Gl} {tb : Tb} {ρ : Nat → Nat} (ok : TbOK tb) (hi : inj tb ρ) {h : Hp} {l0 : Nat} {l1 : Int64} (kl0 : kd tb l0 = 12) {r : Int64 × Hp} (hf : f_Md_bounded tb h l0 l1 = some r) : MT g y_Md_bounded prog_14_method_42_code 3 (some .long) 0 0 tb ρ [.ref (ρ l0), .long l1] h (some (.long r.1)) r.2 := by
  refine mt_intro (by decide +kernel) ok hi (Nat.le_of_ble_eq_true rfl) (fun E X Y => ?_)
  change V E g tb ρ 3 0 [(0, .ref (ρ l0)), (1, .long l1)] [] h
  unfold f_Md_bounded at hf
  refine v_aload_n (pc := 0) (k := 0) X (by decide +kernel) 0 rfl ?_
  refine v_aload_n (pc := 1) (k := 0) X (by decide +kernel) 0 rfl ?_
  refine v_geti (pc := 2) X fl_12_348 kl0 rfl (by decide +kernel) ?_
  refine v_if_ne (pc := 5) (off := 19) (tgt := 24) X (by decide +kernel) (by decide) (fun q3 => ?_) (fun q3 => ?_)
  · rw [if_neg q3] at hf
    exact vjb_Md_bounded_24 ok hi X Y h l0 l1 l0 kl0 kl0 hf
  · rw [if_pos q3] at hf
    refine v_lload_n (pc := 8) (k := 1) X (by decide +kernel) 1 rfl ?_
    refine v_ldc2 (pc := 9) X (by decide +kernel) kl_12_351 ?_
    refine v_lcmp (pc := 12) X (by decide +kernel) ?_
    refine v_if_gt (pc := 13) (off := 11) (tgt := 24) X (by decide +kernel) (by decide) (fun q2 => ?_) (fun q2 => ?_)
    · rw [if_pos q2] at hf
      exact vjb_Md_bounded_24 ok hi X Y h l0 l1 l0 kl0 kl0 hf
    · rw [if_neg q2] at hf
      refine v_lload_n (pc := 16) (k := 1) X (by decide +kernel) 1 rfl ?_
      refine v_ldc2 (pc := 17) X (by decide +kernel) kl_12_353 ?_
      refine v_lcmp (pc := 20) X (by decide +kernel) ?_
      refine v_if_ge (pc := 21) (off := 7) (tgt := 28) X (by decide +kernel) (by decide) (fun q1 => ?_) (fun q1 => ?_)
      · rw [if_pos q1] at hf
        refine v_iconst (pc := 28) (n := 0) X (by decide +kernel) ic_0 ?_
        exact vjb_Md_bounded_29 ok hi X Y h l0 l1 l0 (0 : Int32) kl0 kl0 hf
      · rw [if_neg q1] at hf
        exact vjb_Md_bounded_24 ok hi X Y h l0 l1 l0 kl0 kl0 hf
def f_Md_compares (tb : Tb) (h : Hp) (l0 : Int32) (l1 : Int64) (l3 : Int64) : Int32 :=
  if l0 = (5 : Int32) then (
    if (0 : Int32) ≤ (lg_cmp l1 l3) then (
      (0 : Int32)
    ) else (
      (1 : Int32)
    )
  ) else (
    if l0 = (6 : Int32) then (
      if (0 : Int32) < (lg_cmp l1 l3) then (
        (0 : Int32)
      ) else (
        (1 : Int32)
      )
    ) else (
      if l0 = (7 : Int32) then (
        if (lg_cmp l1 l3) = (0 : Int32) then (
          (1 : Int32)
        ) else (
          (0 : Int32)
        )
      ) else (
        if l0 = (8 : Int32) then (
          if (lg_cmp l1 l3) = (0 : Int32) then (
            (0 : Int32)
          ) else (
            (1 : Int32)
          )
        ) else (
          if l0 = (9 : Int32) then (
            if (lg_cmp l1 l3) < (0 : Int32) then (
              (0 : Int32)
            ) else (
              (1 : Int32)
            )
          ) else (
            if (lg_cmp l1 l3) ≤ (0 : Int32) then (
              (0 : Int32)
            ) else (
              (1 : Int32)
            )
          )
        )
      )
    )
  )
set_option maxRecDepth 4000 in
set_option maxHeartbeats 1000000 in
theorem mt_Md_compares {g : Gl} {tb : Tb} {ρ : Nat → Nat} (ok : TbOK tb) (hi : inj tb ρ) {h : Hp} {l0 : Int32} {l1 : Int64} {l3 : Int64}  {r : Int32} (hf : f_Md_compares tb h l0 l1 l3 = r) : MT g y_Md_compares prog_14_method_43_code 5 (some .boolean) 0 0 tb ρ [.int l0, .long l1, .long l3] h (some (.int r)) h := by
  refine mt_intro (by decide +kernel) ok hi (Nat.le_of_ble_eq_true rfl) (fun E X Y => ?_)
  change V E g tb ρ 5 0 [(0, .int l0), (1, .long l1), (3, .long l3)] [] h
  unfold f_Md_compares at hf
  refine v_iload_n (pc := 0) (k := 0) X (by decide +kernel) 0 rfl ?_
  by_cases q1 : l0 = (5 : Int32)
  · rw [if_pos q1] at hf
    refine v_tin (pc := 1) (off := 35) (tgt := 36) X (show decode prog_14_method_43_code 1 = .ok (.tableswitch 95 5 9 #[35, 47, 59, 71, 83], 35) from by decide +kernel) q1 (by decide) (by decide) (by decide) (by decide) ?_
    refine v_lload_n (pc := 36) (k := 1) X (by decide +kernel) 1 rfl ?_
    refine v_lload_n (pc := 37) (k := 3) X (by decide +kernel) 2 rfl ?_
    refine v_lcmp (pc := 38) X (by decide +kernel) ?_
    refine v_if_ge (pc := 39) (off := 7) (tgt := 46) X (by decide +kernel) (by decide) (fun q2 => ?_) (fun q2 => ?_)
    · rw [if_pos q2] at hf
      refine v_iconst (pc := 46) (n := 0) X (by decide +kernel) ic_0 ?_
      cases hf
      exact v_zret (hz := rfl) X Y (by decide +kernel) rfl rfl
    · rw [if_neg q2] at hf
      refine v_iconst (pc := 42) (n := 1) X (by decide +kernel) ic_1 ?_
      refine v_goto (pc := 43) (off := 4) (tgt := 47) X (by decide +kernel) (by decide) ?_
      cases hf
      exact v_zret (hz := rfl) X Y (by decide +kernel) rfl rfl
  · rw [if_neg q1] at hf
    by_cases q3 : l0 = (6 : Int32)
    · rw [if_pos q3] at hf
      refine v_tin (pc := 1) (off := 47) (tgt := 48) X (show decode prog_14_method_43_code 1 = .ok (.tableswitch 95 5 9 #[35, 47, 59, 71, 83], 35) from by decide +kernel) q3 (by decide) (by decide) (by decide) (by decide) ?_
      refine v_lload_n (pc := 48) (k := 1) X (by decide +kernel) 1 rfl ?_
      refine v_lload_n (pc := 49) (k := 3) X (by decide +kernel) 2 rfl ?_
      refine v_lcmp (pc := 50) X (by decide +kernel) ?_
      refine v_if_gt (pc := 51) (off := 7) (tgt := 58) X (by decide +kernel) (by decide) (fun q4 => ?_) (fun q4 => ?_)
      · rw [if_pos q4] at hf
        refine v_iconst (pc := 58) (n := 0) X (by decide +kernel) ic_0 ?_
        cases hf
        exact v_zret (hz := rfl) X Y (by decide +kernel) rfl rfl
      · rw [if_neg q4] at hf
        refine v_iconst (pc := 54) (n := 1) X (by decide +kernel) ic_1 ?_
        refine v_goto (pc := 55) (off := 4) (tgt := 59) X (by decide +kernel) (by decide) ?_
        cases hf
        exact v_zret (hz := rfl) X Y (by decide +kernel) rfl rfl
    · rw [if_neg q3] at hf
      by_cases q5 : l0 = (7 : Int32)
      · rw [if_pos q5] at hf
        refine v_tin (pc := 1) (off := 59) (tgt := 60) X (show decode prog_14_method_43_code 1 = .ok (.tableswitch 95 5 9 #[35, 47, 59, 71, 83], 35) from by decide +kernel) q5 (by decide) (by decide) (by decide) (by decide) ?_
        refine v_lload_n (pc := 60) (k := 1) X (by decide +kernel) 1 rfl ?_
        refine v_lload_n (pc := 61) (k := 3) X (by decide +kernel) 2 rfl ?_
        refine v_lcmp (pc := 62) X (by decide +kernel) ?_
        refine v_if_ne (pc := 63) (off := 7) (tgt := 70) X (by decide +kernel) (by decide) (fun q6 => ?_) (fun q6 => ?_)
        · rw [if_neg q6] at hf
          refine v_iconst (pc := 70) (n := 0) X (by decide +kernel) ic_0 ?_
          cases hf
          exact v_zret (hz := rfl) X Y (by decide +kernel) rfl rfl
        · rw [if_pos q6] at hf
          refine v_iconst (pc := 66) (n := 1) X (by decide +kernel) ic_1 ?_
          refine v_goto (pc := 67) (off := 4) (tgt := 71) X (by decide +kernel) (by decide) ?_
          cases hf
          exact v_zret (hz := rfl) X Y (by decide +kernel) rfl rfl
      · rw [if_neg q5] at hf
        by_cases q7 : l0 = (8 : Int32)
        · rw [if_pos q7] at hf
          refine v_tin (pc := 1) (off := 71) (tgt := 72) X (show decode prog_14_method_43_code 1 = .ok (.tableswitch 95 5 9 #[35, 47, 59, 71, 83], 35) from by decide +kernel) q7 (by decide) (by decide) (by decide) (by decide) ?_
          refine v_lload_n (pc := 72) (k := 1) X (by decide +kernel) 1 rfl ?_
          refine v_lload_n (pc := 73) (k := 3) X (by decide +kernel) 2 rfl ?_
          refine v_lcmp (pc := 74) X (by decide +kernel) ?_
          refine v_if_eq (pc := 75) (off := 7) (tgt := 82) X (by decide +kernel) (by decide) (fun q8 => ?_) (fun q8 => ?_)
          · rw [if_pos q8] at hf
            refine v_iconst (pc := 82) (n := 0) X (by decide +kernel) ic_0 ?_
            cases hf
            exact v_zret (hz := rfl) X Y (by decide +kernel) rfl rfl
          · rw [if_neg q8] at hf
            refine v_iconst (pc := 78) (n := 1) X (by decide +kernel) ic_1 ?_
            refine v_goto (pc := 79) (off := 4) (tgt := 83) X (by decide +kernel) (by decide) ?_
            cases hf
            exact v_zret (hz := rfl) X Y (by decide +kernel) rfl rfl
        · rw [if_neg q7] at hf
          by_cases q9 : l0 = (9 : Int32)
          · rw [if_pos q9] at hf
            refine v_tin (pc := 1) (off := 83) (tgt := 84) X (show decode prog_14_method_43_code 1 = .ok (.tableswitch 95 5 9 #[35, 47, 59, 71, 83], 35) from by decide +kernel) q9 (by decide) (by decide) (by decide) (by decide) ?_
            refine v_lload_n (pc := 84) (k := 1) X (by decide +kernel) 1 rfl ?_
            refine v_lload_n (pc := 85) (k := 3) X (by decide +kernel) 2 rfl ?_
            refine v_lcmp (pc := 86) X (by decide +kernel) ?_
            refine v_if_lt (pc := 87) (off := 7) (tgt := 94) X (by decide +kernel) (by decide) (fun q10 => ?_) (fun q10 => ?_)
            · rw [if_pos q10] at hf
              refine v_iconst (pc := 94) (n := 0) X (by decide +kernel) ic_0 ?_
              cases hf
              exact v_zret (hz := rfl) X Y (by decide +kernel) rfl rfl
            · rw [if_neg q10] at hf
              refine v_iconst (pc := 90) (n := 1) X (by decide +kernel) ic_1 ?_
              refine v_goto (pc := 91) (off := 4) (tgt := 95) X (by decide +kernel) (by decide) ?_
              cases hf
              exact v_zret (hz := rfl) X Y (by decide +kernel) rfl rfl
          · rw [if_neg q9] at hf
            refine v_tout (pc := 1) (tgt := 96) X (show decode prog_14_method_43_code 1 = .ok (.tableswitch 95 5 9 #[35, 47, 59, 71, 83], 35) from by decide +kernel) (t_out (lo := 5) (hi := 9) [(5 : Int32), (6 : Int32), (7 : Int32), (8 : Int32), (9 : Int32)] (by decide) (List.forall_mem_cons.mpr ⟨q1, List.forall_mem_cons.mpr ⟨q3, List.forall_mem_cons.mpr ⟨q5, List.forall_mem_cons.mpr ⟨q7, List.forall_mem_cons.mpr ⟨q9, fun _ h => absurd h List.not_mem_nil⟩⟩⟩⟩⟩)) (by decide) ?_
            refine v_lload_n (pc := 96) (k := 1) X (by decide +kernel) 1 rfl ?_
            refine v_lload_n (pc := 97) (k := 3) X (by decide +kernel) 2 rfl ?_
            refine v_lcmp (pc := 98) X (by decide +kernel) ?_
            refine v_if_le (pc := 99) (off := 7) (tgt := 106) X (by decide +kernel) (by decide) (fun q11 => ?_) (fun q11 => ?_)
            · rw [if_pos q11] at hf
              refine v_iconst (pc := 106) (n := 0) X (by decide +kernel) ic_0 ?_
              cases hf
              exact v_zret (hz := rfl) X Y (by decide +kernel) rfl rfl
            · rw [if_neg q11] at hf
              refine v_iconst (pc := 102) (n := 1) X (by decide +kernel) ic_1 ?_
              refine v_goto (pc := 103) (off := 4) (tgt := 107) X (by decide +kernel) (by decide) ?_
              cases hf
              exact v_zret (hz := rfl) X Y (by decide +kernel) rfl rfl
def jb_Md_times_69 (tb : Tb) (h : Hp) (l0 : Nat) (l1 : Int64) (l3 : Int64) (s0 : Nat) (s1 : Int32) : Option (Int64 × Hp) :=
  (pZ h s0 53 s1).bind fun h1 =>
  if (h1.1 l0 53) = (0 : Int32) then (
    some (l1 * l3, h1)
  ) else (
    some ((0 : Int64), h1)
  )
def jb_Md_times_64 (tb : Tb) (h : Hp) (l0 : Nat) (l1 : Int64) (l3 : Int64) (s0 : Nat) : Option (Int64 × Hp) :=
  jb_Md_times_69 tb h l0 l1 l3 s0 (1 : Int32)
def jb_Md_times_49 (tb : Tb) (h : Hp) (l0 : Nat) (l1 : Int64) (l3 : Int64) (s0 : Int32) : Option (Int64 × Hp) :=
  if (h.1 l0 53) = (0 : Int32) then (
    if s0 = (0 : Int32) then (
      jb_Md_times_69 tb h l0 l1 l3 l0 (0 : Int32)
    ) else (
      jb_Md_times_64 tb h l0 l1 l3 l0
    )
  ) else (
    jb_Md_times_64 tb h l0 l1 l3 l0
  )
def jb_Md_times_48 (tb : Tb) (h : Hp) (l0 : Nat) (l1 : Int64) (l3 : Int64) : Option (Int64 × Hp) :=
  jb_Md_times_49 tb h l0 l1 l3 (0 : Int32)
def jb_Md_times_39 (tb : Tb) (h : Hp) (l0 : Nat) (l1 : Int64) (l3 : Int64) (s0 : Int64) (s1 : Int64) (s2 : Int64) : Option (Int64 × Hp) :=
  (dL s1 s2).bind fun x1 =>
  if (lg_cmp s0 x1) ≤ (0 : Int32) then (
    jb_Md_times_48 tb h l0 l1 l3
  ) else (
    jb_Md_times_49 tb h l0 l1 l3 (1 : Int32)
  )
def jb_Md_times_24 (tb : Tb) (h : Hp) (l0 : Nat) (l1 : Int64) (l3 : Int64) (s0 : Int64) : Option (Int64 × Hp) :=
  if (0 : Int32) ≤ (lg_cmp l1 (0 : Int64)) then (
    jb_Md_times_39 tb h l0 l1 l3 s0 (1000000000000 : Int64) l1
  ) else (
    jb_Md_times_39 tb h l0 l1 l3 s0 (1000000000000 : Int64) (-l1)
  )
def f_Md_times (tb : Tb) (h : Hp) (l0 : Nat) (l1 : Int64) (l3 : Int64) : Option (Int64 × Hp) :=
  if (lg_cmp l1 (0 : Int64)) = (0 : Int32) then (
    jb_Md_times_48 tb h l0 l1 l3
  ) else (
    if (lg_cmp l3 (0 : Int64)) = (0 : Int32) then (
      jb_Md_times_48 tb h l0 l1 l3
    ) else (
      if (0 : Int32) ≤ (lg_cmp l3 (0 : Int64)) then (
        jb_Md_times_24 tb h l0 l1 l3 l3
      ) else (
        jb_Md_times_24 tb h l0 l1 l3 (-l3)
      )
    )
  )
set_option maxRecDepth 4000 in
set_option maxHeartbeats 1000000 in
theorem vjb_Md_times_69 {E : En} {g : Gl} {tb : Tb} {ρ : Nat → Nat} (ok : TbOK tb) (hi : inj tb ρ) {r : Int64 × Hp} (X : CX E g tb ρ prog_14_method_44_code 6 RC12 0 0) (Y : CQ E g tb ρ (some .long) (some (.long r.1)) r.2) (h : Hp) (l0 : Nat) (l1 : Int64) (l3 : Int64) (s0 : Nat) (s1 : Int32) (kl0 : kd tb l0 = 12) (ks0 : kd tb s0 = 12) (hf : jb_Md_times_69 tb h l0 l1 l3 s0 s1 = some r) : V E g tb ρ 6 69 [(0, .ref (ρ l0)), (1, .long l1), (3, .long l3)] [.int s1, .ref (ρ s0)] h := by
  unfold jb_Md_times_69 at hf
  obtain ⟨h1, eh1, hf⟩ := bnd_e hf
  refine v_putz (pc := 69) X fp_12_348 ks0 rfl (pZ_b eh1) (by decide +kernel) (pZ_e eh1) ?_
  refine v_aload_n (pc := 72) (k := 0) X (by decide +kernel) 0 rfl ?_
  refine v_geti (pc := 73) X fl_12_348 kl0 rfl (by decide +kernel) ?_
  refine v_if_eq (pc := 76) (off := 7) (tgt := 83) X (by decide +kernel) (by decide) (fun q2 => ?_) (fun q2 => ?_)
  · rw [if_pos q2] at hf
    refine v_lload_n (pc := 83) (k := 1) X (by decide +kernel) 1 rfl ?_
    refine v_lload_n (pc := 84) (k := 3) X (by decide +kernel) 2 rfl ?_
    refine v_lmul (pc := 85) X (by decide +kernel) ?_
    cases hf
    exact v_lret X Y (by decide +kernel) rfl rfl
  · rw [if_neg q2] at hf
    refine v_lconst (pc := 79) (n := 0) X (by decide +kernel) lc_0 ?_
    refine v_goto (pc := 80) (off := 6) (tgt := 86) X (by decide +kernel) (by decide) ?_
    cases hf
    exact v_lret X Y (by decide +kernel) rfl rfl
set_option maxRecDepth 4000 in
set_option maxHeartbeats 1000000 in
theorem vjb_Md_times_64 {E : En} {g : Gl} {tb : Tb} {ρ : Nat → Nat} (ok : TbOK tb) (hi : inj tb ρ) {r : Int64 × Hp} (X : CX E g tb ρ prog_14_method_44_code 6 RC12 0 0) (Y : CQ E g tb ρ (some .long) (some (.long r.1)) r.2) (h : Hp) (l0 : Nat) (l1 : Int64) (l3 : Int64) (s0 : Nat) (kl0 : kd tb l0 = 12) (ks0 : kd tb s0 = 12) (hf : jb_Md_times_64 tb h l0 l1 l3 s0 = some r) : V E g tb ρ 6 64 [(0, .ref (ρ l0)), (1, .long l1), (3, .long l3)] [.ref (ρ s0)] h := by
  unfold jb_Md_times_64 at hf
  refine v_iconst (pc := 64) (n := 1) X (by decide +kernel) ic_1 ?_
  refine v_goto (pc := 65) (off := 4) (tgt := 69) X (by decide +kernel) (by decide) ?_
  exact vjb_Md_times_69 ok hi X Y h l0 l1 l3 s0 (1 : Int32) kl0 ks0 hf
set_option maxRecDepth 4000 in
set_option maxHeartbeats 1000000 in
theorem vjb_Md_times_49 {E : En} {g : Gl} {tb : Tb} {ρ : Nat → Nat} (ok : TbOK tb) (hi : inj tb ρ) {r : Int64 × Hp} (X : CX E g tb ρ prog_14_method_44_code 6 RC12 0 0) (Y : CQ E g tb ρ (some .long) (some (.long r.1)) r.2) (h : Hp) (l0 : Nat) (l1 : Int64) (l3 : Int64) (s0 : Int32) (kl0 : kd tb l0 = 12) (hf : jb_Md_times_49 tb h l0 l1 l3 s0 = some r) : V E g tb ρ 6 49 [(0, .ref (ρ l0)), (1, .long l1), (3, .long l3)] [.int s0] h := by
  unfold jb_Md_times_49 at hf
  refine v_istore (pc := 49) (k := 5) (lv' := [(5, .int s0), (0, .ref (ρ l0)), (1, .long l1), (3, .long l3)]) X (by decide +kernel) (Nat.le_of_ble_eq_true rfl) rfl ?_
  refine v_aload_n (pc := 51) (k := 0) X (by decide +kernel) 1 rfl ?_
  refine v_aload_n (pc := 52) (k := 0) X (by decide +kernel) 1 rfl ?_
  refine v_geti (pc := 53) X fl_12_348 kl0 rfl (by decide +kernel) ?_
  refine v_if_ne (pc := 56) (off := 8) (tgt := 64) X (by decide +kernel) (by decide) (fun q2 => ?_) (fun q2 => ?_)
  · rw [if_neg q2] at hf
    refine v_sub [1, 2, 3] rfl ?_
    exact vjb_Md_times_64 ok hi X Y h l0 l1 l3 l0 kl0 kl0 hf
  · rw [if_pos q2] at hf
    refine v_iload (pc := 59) (k := 5) X (by decide +kernel) 0 rfl ?_
    refine v_if_eq (pc := 61) (off := 7) (tgt := 68) X (by decide +kernel) (by decide) (fun q1 => ?_) (fun q1 => ?_)
    · rw [if_pos q1] at hf
      refine v_iconst (pc := 68) (n := 0) X (by decide +kernel) ic_0 ?_
      refine v_sub [1, 2, 3] rfl ?_
      exact vjb_Md_times_69 ok hi X Y h l0 l1 l3 l0 (0 : Int32) kl0 kl0 hf
    · rw [if_neg q1] at hf
      refine v_sub [1, 2, 3] rfl ?_
      exact vjb_Md_times_64 ok hi X Y h l0 l1 l3 l0 kl0 kl0 hf
set_option maxRecDepth 4000 in
set_option maxHeartbeats 1000000 in
theorem vjb_Md_times_48 {E : En} {g : Gl} {tb : Tb} {ρ : Nat → Nat} (ok : TbOK tb) (hi : inj tb ρ) {r : Int64 × Hp} (X : CX E g tb ρ prog_14_method_44_code 6 RC12 0 0) (Y : CQ E g tb ρ (some .long) (some (.long r.1)) r.2) (h : Hp) (l0 : Nat) (l1 : Int64) (l3 : Int64) (kl0 : kd tb l0 = 12) (hf : jb_Md_times_48 tb h l0 l1 l3 = some r) : V E g tb ρ 6 48 [(0, .ref (ρ l0)), (1, .long l1), (3, .long l3)] [] h := by
  unfold jb_Md_times_48 at hf
  refine v_iconst (pc := 48) (n := 0) X (by decide +kernel) ic_0 ?_
  exact vjb_Md_times_49 ok hi X Y h l0 l1 l3 (0 : Int32) kl0 hf
set_option maxRecDepth 4000 in
set_option maxHeartbeats 1000000 in
theorem vjb_Md_times_39 {E : En} {g : Gl} {tb : Tb} {ρ : Nat → Nat} (ok : TbOK tb) (hi : inj tb ρ) {r : Int64 × Hp} (X : CX E g tb ρ prog_14_method_44_code 6 RC12 0 0) (Y : CQ E g tb ρ (some .long) (some (.long r.1)) r.2) (h : Hp) (l0 : Nat) (l1 : Int64) (l3 : Int64) (s0 : Int64) (s1 : Int64) (s2 : Int64) (kl0 : kd tb l0 = 12) (hf : jb_Md_times_39 tb h l0 l1 l3 s0 s1 s2 = some r) : V E g tb ρ 6 39 [(0, .ref (ρ l0)), (1, .long l1), (3, .long l3)] [.long s2, .long s1, .long s0] h := by
  unfold jb_Md_times_39 at hf
  obtain ⟨x1, ex1, hf⟩ := bnd_e hf
  refine v_ldiv (pc := 39) X ex1 (by decide +kernel) ?_
  refine v_lcmp (pc := 40) X (by decide +kernel) ?_
  refine v_if_le (pc := 41) (off := 7) (tgt := 48) X (by decide +kernel) (by decide) (fun q2 => ?_) (fun q2 => ?_)
  · rw [if_pos q2] at hf
    exact vjb_Md_times_48 ok hi X Y h l0 l1 l3 kl0 hf
  · rw [if_neg q2] at hf
    refine v_iconst (pc := 44) (n := 1) X (by decide +kernel) ic_1 ?_
    refine v_goto (pc := 45) (off := 4) (tgt := 49) X (by decide +kernel) (by decide) ?_
    exact vjb_Md_times_49 ok hi X Y h l0 l1 l3 (1 : Int32) kl0 hf
set_option maxRecDepth 4000 in
set_option maxHeartbeats 1000000 in
theorem vjb_Md_times_24 {E : En} {g : Gl} {tb : Tb} {ρ : Nat → Nat} (ok : TbOK tb) (hi : inj tb ρ) {r : Int64 × Hp} (X : CX E g tb ρ prog_14_method_44_code 6 RC12 0 0) (Y : CQ E g tb ρ (some .long) (some (.long r.1)) r.2) (h : Hp) (l0 : Nat) (l1 : Int64) (l3 : Int64) (s0 : Int64) (kl0 : kd tb l0 = 12) (hf : jb_Md_times_24 tb h l0 l1 l3 s0 = some r) : V E g tb ρ 6 24 [(0, .ref (ρ l0)), (1, .long l1), (3, .long l3)] [.long s0] h := by
  unfold jb_Md_times_24 at hf
  refine v_ldc2 (pc := 24) X (by decide +kernel) kl_12_351 ?_
  refine v_lload_n (pc := 27) (k := 1) X (by decide +kernel) 1 rfl ?_
  refine v_lconst (pc := 28) (n := 0) X (by decide +kernel) lc_0 ?_
  refine v_lcmp (pc := 29) X (by decide +kernel) ?_
  refine v_if_ge (pc := 30) (off := 8) (tgt := 38) X (by decide +kernel) (by decide) (fun q1 => ?_) (fun q1 => ?_)
  · rw [if_pos q1] at hf
    refine v_lload_n (pc := 38) (k := 1) X (by decide +kernel) 1 rfl ?_
    exact vjb_Md_times_39 ok hi X Y h l0 l1 l3 s0 (1000000000000 : Int64) l1 kl0 hf
  · rw [if_neg q1] at hf
    refine v_lload_n (pc := 33) (k := 1) X (by decide +kernel) 1 rfl ?_
    refine v_lneg (pc := 34) X (by decide +kernel) ?_
    refine v_goto (pc := 35) (off := 4) (tgt := 39) X (by decide +kernel) (by decide) ?_
    exact vjb_Md_times_39 ok hi X Y h l0 l1 l3 s0 (1000000000000 : Int64) (-l1) kl0 hf
set_option maxRecDepth 4000 in
set_option maxHeartbeats 1000000 in
theorem mt_Md_times {g : Gl} {tb : Tb} {ρ : Nat → Nat} (ok : TbOK tb) (hi : inj tb ρ) {h : Hp} {l0 : Nat} {l1 : Int64} {l3 : Int64} (kl0 : kd tb l0 = 12) {r : Int64 × Hp} (hf : f_Md_times tb h l0 l1 l3 = some r) : MT g y_Md_times prog_14_method_44_code 6 (some .long) 0 0 tb ρ [.ref (ρ l0), .long l1, .long l3] h (some (.long r.1)) r.2 := by
  refine mt_intro (by decide +kernel) ok hi (Nat.le_of_ble_eq_true rfl) (fun E X Y => ?_)
  change V E g tb ρ 6 0 [(0, .ref (ρ l0)), (1, .long l1), (3, .long l3)] [] h
  unfold f_Md_times at hf
  refine v_lload_n (pc := 0) (k := 1) X (by decide +kernel) 1 rfl ?_
  refine v_lconst (pc := 1) (n := 0) X (by decide +kernel) lc_0 ?_
  refine v_lcmp (pc := 2) X (by decide +kernel) ?_
  refine v_if_eq (pc := 3) (off := 45) (tgt := 48) X (by decide +kernel) (by decide) (fun q3 => ?_) (fun q3 => ?_)
  · rw [if_pos q3] at hf
    exact vjb_Md_times_48 ok hi X Y h l0 l1 l3 kl0 hf
  · rw [if_neg q3] at hf
    refine v_lload_n (pc := 6) (k := 3) X (by decide +kernel) 2 rfl ?_
    refine v_lconst (pc := 7) (n := 0) X (by decide +kernel) lc_0 ?_
    refine v_lcmp (pc := 8) X (by decide +kernel) ?_
    refine v_if_eq (pc := 9) (off := 39) (tgt := 48) X (by decide +kernel) (by decide) (fun q2 => ?_) (fun q2 => ?_)
    · rw [if_pos q2] at hf
      exact vjb_Md_times_48 ok hi X Y h l0 l1 l3 kl0 hf
    · rw [if_neg q2] at hf
      refine v_lload_n (pc := 12) (k := 3) X (by decide +kernel) 2 rfl ?_
      refine v_lconst (pc := 13) (n := 0) X (by decide +kernel) lc_0 ?_
      refine v_lcmp (pc := 14) X (by decide +kernel) ?_
      refine v_if_ge (pc := 15) (off := 8) (tgt := 23) X (by decide +kernel) (by decide) (fun q1 => ?_) (fun q1 => ?_)
      · rw [if_pos q1] at hf
        refine v_lload_n (pc := 23) (k := 3) X (by decide +kernel) 2 rfl ?_
        exact vjb_Md_times_24 ok hi X Y h l0 l1 l3 l3 kl0 hf
      · rw [if_neg q1] at hf
        refine v_lload_n (pc := 18) (k := 3) X (by decide +kernel) 2 rfl ?_
        refine v_lneg (pc := 19) X (by decide +kernel) ?_
        refine v_goto (pc := 20) (off := 4) (tgt := 24) X (by decide +kernel) (by decide) ?_
        exact vjb_Md_times_24 ok hi X Y h l0 l1 l3 (-l3) kl0 hf
def jb_Md_valueOf_240 (tb : Tb) (h : Hp) (l0 : Nat) (l2 : Int64) (l4 : Int64) (s0 : Nat) (s1 : Int32) : Option (Int64 × Hp) :=
  (pZ h s0 53 s1).bind fun h1 =>
  if (h1.1 l0 53) = (0 : Int32) then (
    (dL l2 l4).bind fun x2 =>
    some (x2, h1)
  ) else (
    some ((0 : Int64), h1)
  )
def jb_Md_valueOf_235 (tb : Tb) (h : Hp) (l0 : Nat) (l2 : Int64) (l4 : Int64) (s0 : Nat) : Option (Int64 × Hp) :=
  jb_Md_valueOf_240 tb h l0 l2 l4 s0 (1 : Int32)
def f_Md_valueOf (tb : Tb) (h : Hp) (l0 : Nat) (l1 : Int32) : Option (Int64 × Hp) :=
  (rI tb h (lay tb l0 40) l1).bind fun x1 =>
  if x1 = (0 : Int32) then (
    (rI tb h (lay tb l0 41) l1).bind fun x56 =>
    some (x56.toInt64, h)
  ) else (
    (rI tb h (lay tb l0 40) l1).bind fun x2 =>
    if x2 = (1 : Int32) then (
      (rI tb h (lay tb l0 41) l1).bind fun x53 =>
      (rL tb h (lay tb l0 51) x53).bind fun x54 =>
      some (x54, h)
    ) else (
      (rI tb h (lay tb l0 41) l1).bind fun x3 =>
      (rL tb h (lay tb l0 52) x3).bind fun x4 =>
      (rI tb h (lay tb l0 40) l1).bind fun x5 =>
      if x5 = (2 : Int32) then (
        if (lg_cmp x4 (0 : Int64)) = (0 : Int32) then (
          some ((1 : Int64), h)
        ) else (
          some ((0 : Int64), h)
        )
      ) else (
        (rI tb h (lay tb l0 42) l1).bind fun x6 =>
        (rL tb h (lay tb l0 52) x6).bind fun x7 =>
        (rI tb h (lay tb l0 40) l1).bind fun x8 =>
        if x8 = (3 : Int32) then (
          if (lg_cmp x4 (0 : Int64)) = (0 : Int32) then (
            some ((0 : Int64), h)
          ) else (
            if (lg_cmp x7 (0 : Int64)) = (0 : Int32) then (
              some ((0 : Int64), h)
            ) else (
              some ((1 : Int64), h)
            )
          )
        ) else (
          if x8 = (4 : Int32) then (
            if (lg_cmp x4 (0 : Int64)) = (0 : Int32) then (
              if (lg_cmp x7 (0 : Int64)) = (0 : Int32) then (
                some ((0 : Int64), h)
              ) else (
                some ((1 : Int64), h)
              )
            ) else (
              some ((1 : Int64), h)
            )
          ) else (
            if x8 = (5 : Int32) then (
              (rI tb h (lay tb l0 40) l1).bind fun x16 =>
              nmd (f_Md_compares tb h x16 x4 x7) fun r17 =>
              if r17 = (0 : Int32) then (
                some ((0 : Int64), h)
              ) else (
                some ((1 : Int64), h)
              )
            ) else (
              if x8 = (6 : Int32) then (
                (rI tb h (lay tb l0 40) l1).bind fun x20 =>
                nmd (f_Md_compares tb h x20 x4 x7) fun r21 =>
                if r21 = (0 : Int32) then (
                  some ((0 : Int64), h)
                ) else (
                  some ((1 : Int64), h)
                )
              ) else (
                if x8 = (7 : Int32) then (
                  (rI tb h (lay tb l0 40) l1).bind fun x24 =>
                  nmd (f_Md_compares tb h x24 x4 x7) fun r25 =>
                  if r25 = (0 : Int32) then (
                    some ((0 : Int64), h)
                  ) else (
                    some ((1 : Int64), h)
                  )
                ) else (
                  if x8 = (8 : Int32) then (
                    (rI tb h (lay tb l0 40) l1).bind fun x28 =>
                    nmd (f_Md_compares tb h x28 x4 x7) fun r29 =>
                    if r29 = (0 : Int32) then (
                      some ((0 : Int64), h)
                    ) else (
                      some ((1 : Int64), h)
                    )
                  ) else (
                    if x8 = (9 : Int32) then (
                      (rI tb h (lay tb l0 40) l1).bind fun x32 =>
                      nmd (f_Md_compares tb h x32 x4 x7) fun r33 =>
                      if r33 = (0 : Int32) then (
                        some ((0 : Int64), h)
                      ) else (
                        some ((1 : Int64), h)
                      )
                    ) else (
                      if x8 = (10 : Int32) then (
                        (rI tb h (lay tb l0 40) l1).bind fun x36 =>
                        nmd (f_Md_compares tb h x36 x4 x7) fun r37 =>
                        if r37 = (0 : Int32) then (
                          some ((0 : Int64), h)
                        ) else (
                          some ((1 : Int64), h)
                        )
                      ) else (
                        if x8 = (11 : Int32) then (
                          (f_Md_bounded tb h l0 (x4 + x7)).bind fun r40 =>
                          some (r40.1, r40.2)
                        ) else (
                          if x8 = (12 : Int32) then (
                            (f_Md_bounded tb h l0 (x4 - x7)).bind fun r42 =>
                            some (r42.1, r42.2)
                          ) else (
                            if x8 = (13 : Int32) then (
                              (f_Md_times tb h l0 x4 x7).bind fun r44 =>
                              some (r44.1, r44.2)
                            ) else (
                              if x8 = (14 : Int32) then (
                                if (h.1 l0 53) = (0 : Int32) then (
                                  if (lg_cmp x7 (0 : Int64)) = (0 : Int32) then (
                                    jb_Md_valueOf_235 tb h l0 x4 x7 l0
                                  ) else (
                                    jb_Md_valueOf_240 tb h l0 x4 x7 l0 (0 : Int32)
                                  )
                                ) else (
                                  jb_Md_valueOf_235 tb h l0 x4 x7 l0
                                )
                              ) else (
                                (rI tb h (lay tb l0 40) l1).bind fun x48 =>
                                nmd (f_Md_compares tb h x48 x4 x7) fun r49 =>
                                if r49 = (0 : Int32) then (
                                  some ((0 : Int64), h)
                                ) else (
                                  some ((1 : Int64), h)
                                )
                              )
                            )
                          )
                        )
                      )
                    )
                  )
                )
              )
            )
          )
        )
      )
    )
  )
set_option maxRecDepth 4000 in
set_option maxHeartbeats 1000000 in
theorem vjb_Md_valueOf_240 {E : En} {g : Gl} {tb : Tb} {ρ : Nat → Nat} (ok : TbOK tb) (hi : inj tb ρ) {r : Int64 × Hp} (X : CX E g tb ρ prog_14_method_45_code 6 RC12 1 25) (Y : CQ E g tb ρ (some .long) (some (.long r.1)) r.2) (h : Hp) (l0 : Nat) (l2 : Int64) (l4 : Int64) (s0 : Nat) (s1 : Int32) (kl0 : kd tb l0 = 12) (ks0 : kd tb s0 = 12) (hf : jb_Md_valueOf_240 tb h l0 l2 l4 s0 s1 = some r) : V E g tb ρ 6 240 [(0, .ref (ρ l0)), (2, .long l2), (4, .long l4)] [.int s1, .ref (ρ s0)] h := by
  unfold jb_Md_valueOf_240 at hf
  obtain ⟨h1, eh1, hf⟩ := bnd_e hf
  refine v_putz (pc := 240) X fp_12_348 ks0 rfl (pZ_b eh1) (by decide +kernel) (pZ_e eh1) ?_
  refine v_aload_n (pc := 243) (k := 0) X (by decide +kernel) 0 rfl ?_
  refine v_geti (pc := 244) X fl_12_348 kl0 rfl (by decide +kernel) ?_
  refine v_if_eq (pc := 247) (off := 7) (tgt := 254) X (by decide +kernel) (by decide) (fun q3 => ?_) (fun q3 => ?_)
  · rw [if_pos q3] at hf
    refine v_lload_n (pc := 254) (k := 2) X (by decide +kernel) 1 rfl ?_
    refine v_lload (pc := 255) (k := 4) X (by decide +kernel) 2 rfl ?_
    obtain ⟨x2, ex2, hf⟩ := bnd_e hf
    refine v_ldiv (pc := 257) X ex2 (by decide +kernel) ?_
    cases hf
    exact v_lret X Y (by decide +kernel) rfl rfl
  · rw [if_neg q3] at hf
    refine v_lconst (pc := 250) (n := 0) X (by decide +kernel) lc_0 ?_
    refine v_goto (pc := 251) (off := 7) (tgt := 258) X (by decide +kernel) (by decide) ?_
    cases hf
    exact v_lret X Y (by decide +kernel) rfl rfl
set_option maxRecDepth 4000 in
set_option maxHeartbeats 1000000 in
theorem vjb_Md_valueOf_235 {E : En} {g : Gl} {tb : Tb} {ρ : Nat → Nat} (ok : TbOK tb) (hi : inj tb ρ) {r : Int64 × Hp} (X : CX E g tb ρ prog_14_method_45_code 6 RC12 1 25) (Y : CQ E g tb ρ (some .long) (some (.long r.1)) r.2) (h : Hp) (l0 : Nat) (l2 : Int64) (l4 : Int64) (s0 : Nat) (kl0 : kd tb l0 = 12) (ks0 : kd tb s0 = 12) (hf : jb_Md_valueOf_235 tb h l0 l2 l4 s0 = some r) : V E g tb ρ 6 235 [(0, .ref (ρ l0)), (2, .long l2), (4, .long l4)] [.ref (ρ s0)] h := by
  unfold jb_Md_valueOf_235 at hf
  refine v_iconst (pc := 235) (n := 1) X (by decide +kernel) ic_1 ?_
  refine v_goto (pc := 236) (off := 4) (tgt := 240) X (by decide +kernel) (by decide) ?_
  exact vjb_Md_valueOf_240 ok hi X Y h l0 l2 l4 s0 (1 : Int32) kl0 ks0 hf
set_option maxRecDepth 4000 in
set_option maxHeartbeats 1000000 in
theorem mt_Md_valueOf {g : Gl} {tb : Tb} {ρ : Nat → Nat} (ok : TbOK tb) (hi : inj tb ρ) {h : Hp} {l0 : Nat} {l1 : Int32} (kl0 : kd tb l0 = 12) {r : Int64 × Hp} (hf : f_Md_valueOf tb h l0 l1 = some r) : MT g y_Md_valueOf prog_14_method_45_code 6 (some .long) 1 25 tb ρ [.ref (ρ l0), .int l1] h (some (.long r.1)) r.2 := by
  refine mt_intro (by decide +kernel) ok hi (Nat.le_of_ble_eq_true rfl) (fun E X Y => ?_)
  change V E g tb ρ 6 0 [(0, .ref (ρ l0)), (1, .int l1)] [] h
  unfold f_Md_valueOf at hf
  refine v_aload_n (pc := 0) (k := 0) X (by decide +kernel) 0 rfl ?_
  refine v_geta (pc := 1) X fl_12_72 kl0 fk_12_40 (by decide +kernel) ?_
  refine v_iload_n (pc := 4) (k := 1) X (by decide +kernel) 1 rfl ?_
  obtain ⟨x1, ex1, hf⟩ := bnd_e hf
  refine v_iald (pc := 5) X (ly_12_40 ok kl0) ex1 (by decide +kernel) ?_
  refine v_if_ne (pc := 6) (off := 11) (tgt := 17) X (by decide +kernel) (by decide) (fun q57 => ?_) (fun q57 => ?_)
  · rw [if_neg q57] at hf
    refine v_aload_n (pc := 17) (k := 0) X (by decide +kernel) 0 rfl ?_
    refine v_geta (pc := 18) X fl_12_72 kl0 fk_12_40 (by decide +kernel) ?_
    refine v_iload_n (pc := 21) (k := 1) X (by decide +kernel) 1 rfl ?_
    obtain ⟨x2, ex2, hf⟩ := bnd_e hf
    refine v_iald (pc := 22) X (ly_12_40 ok kl0) ex2 (by decide +kernel) ?_
    refine v_iconst (pc := 23) (n := 1) X (by decide +kernel) ic_1 ?_
    refine v_icmp_ne (pc := 24) (off := 15) (tgt := 39) X (by decide +kernel) (by decide) (fun q55 => ?_) (fun q55 => ?_)
    · rw [if_neg q55] at hf
      refine v_aload_n (pc := 39) (k := 0) X (by decide +kernel) 0 rfl ?_
      refine v_geta (pc := 40) X fl_12_91 kl0 fk_12_52 (by decide +kernel) ?_
      refine v_aload_n (pc := 43) (k := 0) X (by decide +kernel) 0 rfl ?_
      refine v_geta (pc := 44) X fl_12_75 kl0 fk_12_41 (by decide +kernel) ?_
      refine v_iload_n (pc := 47) (k := 1) X (by decide +kernel) 1 rfl ?_
      obtain ⟨x3, ex3, hf⟩ := bnd_e hf
      refine v_iald (pc := 48) X (ly_12_41 ok kl0) ex3 (by decide +kernel) ?_
      obtain ⟨x4, ex4, hf⟩ := bnd_e hf
      refine v_lald (pc := 49) X (ly_12_52 ok kl0) ex4 (by decide +kernel) ?_
      refine v_lstore_n (pc := 50) (k := 2) (lv' := [(2, .long x4), (0, .ref (ρ l0)), (1, .int l1)]) X (by decide +kernel) (Nat.le_of_ble_eq_true rfl) rfl ?_
      refine v_aload_n (pc := 51) (k := 0) X (by decide +kernel) 1 rfl ?_
      refine v_geta (pc := 52) X fl_12_72 kl0 fk_12_40 (by decide +kernel) ?_
      refine v_iload_n (pc := 55) (k := 1) X (by decide +kernel) 2 rfl ?_
      obtain ⟨x5, ex5, hf⟩ := bnd_e hf
      refine v_iald (pc := 56) X (ly_12_40 ok kl0) ex5 (by decide +kernel) ?_
      refine v_iconst (pc := 57) (n := 2) X (by decide +kernel) ic_2 ?_
      refine v_icmp_ne (pc := 58) (off := 15) (tgt := 73) X (by decide +kernel) (by decide) (fun q52 => ?_) (fun q52 => ?_)
      · rw [if_neg q52] at hf
        refine v_aload_n (pc := 73) (k := 0) X (by decide +kernel) 1 rfl ?_
        refine v_geta (pc := 74) X fl_12_91 kl0 fk_12_52 (by decide +kernel) ?_
        refine v_aload_n (pc := 77) (k := 0) X (by decide +kernel) 1 rfl ?_
        refine v_geta (pc := 78) X fl_12_78 kl0 fk_12_42 (by decide +kernel) ?_
        refine v_iload_n (pc := 81) (k := 1) X (by decide +kernel) 2 rfl ?_
        obtain ⟨x6, ex6, hf⟩ := bnd_e hf
        refine v_iald (pc := 82) X (ly_12_42 ok kl0) ex6 (by decide +kernel) ?_
        obtain ⟨x7, ex7, hf⟩ := bnd_e hf
        refine v_lald (pc := 83) X (ly_12_52 ok kl0) ex7 (by decide +kernel) ?_
        refine v_lstore (pc := 84) (k := 4) (lv' := [(4, .long x7), (2, .long x4), (0, .ref (ρ l0)), (1, .int l1)]) X (by decide +kernel) (Nat.le_of_ble_eq_true rfl) rfl ?_
        refine v_aload_n (pc := 86) (k := 0) X (by decide +kernel) 2 rfl ?_
        refine v_geta (pc := 87) X fl_12_72 kl0 fk_12_40 (by decide +kernel) ?_
        refine v_iload_n (pc := 90) (k := 1) X (by decide +kernel) 3 rfl ?_
        obtain ⟨x8, ex8, hf⟩ := bnd_e hf
        refine v_iald (pc := 91) X (ly_12_40 ok kl0) ex8 (by decide +kernel) ?_
        by_cases q9 : x8 = (3 : Int32)
        · rw [if_pos q9] at hf
          refine v_tin (pc := 92) (off := 64) (tgt := 156) X (show decode prog_14_method_45_code 92 = .ok (.tableswitch 167 3 14 #[64, 83, 167, 167, 167, 167, 167, 167, 102, 111, 120, 128], 64) from by decide +kernel) q9 (by decide) (by decide) (by decide) (by decide) ?_
          refine v_lload_n (pc := 156) (k := 2) X (by decide +kernel) 1 rfl ?_
          refine v_lconst (pc := 157) (n := 0) X (by decide +kernel) lc_0 ?_
          refine v_lcmp (pc := 158) X (by decide +kernel) ?_
          refine v_if_eq (pc := 159) (off := 14) (tgt := 173) X (by decide +kernel) (by decide) (fun q11 => ?_) (fun q11 => ?_)
          · rw [if_pos q11] at hf
            refine v_lconst (pc := 173) (n := 0) X (by decide +kernel) lc_0 ?_
            cases hf
            exact v_lret X Y (by decide +kernel) rfl rfl
          · rw [if_neg q11] at hf
            refine v_lload (pc := 162) (k := 4) X (by decide +kernel) 0 rfl ?_
            refine v_lconst (pc := 164) (n := 0) X (by decide +kernel) lc_0 ?_
            refine v_lcmp (pc := 165) X (by decide +kernel) ?_
            refine v_if_eq (pc := 166) (off := 7) (tgt := 173) X (by decide +kernel) (by decide) (fun q10 => ?_) (fun q10 => ?_)
            · rw [if_pos q10] at hf
              refine v_lconst (pc := 173) (n := 0) X (by decide +kernel) lc_0 ?_
              cases hf
              exact v_lret X Y (by decide +kernel) rfl rfl
            · rw [if_neg q10] at hf
              refine v_lconst (pc := 169) (n := 1) X (by decide +kernel) lc_1 ?_
              refine v_goto (pc := 170) (off := 4) (tgt := 174) X (by decide +kernel) (by decide) ?_
              cases hf
              exact v_lret X Y (by decide +kernel) rfl rfl
        · rw [if_neg q9] at hf
          by_cases q12 : x8 = (4 : Int32)
          · rw [if_pos q12] at hf
            refine v_tin (pc := 92) (off := 83) (tgt := 175) X (show decode prog_14_method_45_code 92 = .ok (.tableswitch 167 3 14 #[64, 83, 167, 167, 167, 167, 167, 167, 102, 111, 120, 128], 64) from by decide +kernel) q12 (by decide) (by decide) (by decide) (by decide) ?_
            refine v_lload_n (pc := 175) (k := 2) X (by decide +kernel) 1 rfl ?_
            refine v_lconst (pc := 176) (n := 0) X (by decide +kernel) lc_0 ?_
            refine v_lcmp (pc := 177) X (by decide +kernel) ?_
            refine v_if_ne (pc := 178) (off := 10) (tgt := 188) X (by decide +kernel) (by decide) (fun q14 => ?_) (fun q14 => ?_)
            · rw [if_neg q14] at hf
              refine v_lconst (pc := 188) (n := 1) X (by decide +kernel) lc_1 ?_
              refine v_goto (pc := 189) (off := 4) (tgt := 193) X (by decide +kernel) (by decide) ?_
              cases hf
              exact v_lret X Y (by decide +kernel) rfl rfl
            · rw [if_pos q14] at hf
              refine v_lload (pc := 181) (k := 4) X (by decide +kernel) 0 rfl ?_
              refine v_lconst (pc := 183) (n := 0) X (by decide +kernel) lc_0 ?_
              refine v_lcmp (pc := 184) X (by decide +kernel) ?_
              refine v_if_eq (pc := 185) (off := 7) (tgt := 192) X (by decide +kernel) (by decide) (fun q13 => ?_) (fun q13 => ?_)
              · rw [if_pos q13] at hf
                refine v_lconst (pc := 192) (n := 0) X (by decide +kernel) lc_0 ?_
                cases hf
                exact v_lret X Y (by decide +kernel) rfl rfl
              · rw [if_neg q13] at hf
                refine v_lconst (pc := 188) (n := 1) X (by decide +kernel) lc_1 ?_
                refine v_goto (pc := 189) (off := 4) (tgt := 193) X (by decide +kernel) (by decide) ?_
                cases hf
                exact v_lret X Y (by decide +kernel) rfl rfl
          · rw [if_neg q12] at hf
            by_cases q15 : x8 = (5 : Int32)
            · rw [if_pos q15] at hf
              refine v_tin (pc := 92) (off := 167) (tgt := 259) X (show decode prog_14_method_45_code 92 = .ok (.tableswitch 167 3 14 #[64, 83, 167, 167, 167, 167, 167, 167, 102, 111, 120, 128], 64) from by decide +kernel) q15 (by decide) (by decide) (by decide) (by decide) ?_
              refine v_aload_n (pc := 259) (k := 0) X (by decide +kernel) 2 rfl ?_
              refine v_geta (pc := 260) X fl_12_72 kl0 fk_12_40 (by decide +kernel) ?_
              refine v_iload_n (pc := 263) (k := 1) X (by decide +kernel) 3 rfl ?_
              obtain ⟨x16, ex16, hf⟩ := bnd_e hf
              refine v_iald (pc := 264) X (ly_12_40 ok kl0) ex16 (by decide +kernel) ?_
              refine v_lload_n (pc := 265) (k := 2) X (by decide +kernel) 1 rfl ?_
              refine v_lload (pc := 266) (k := 4) X (by decide +kernel) 0 rfl ?_
              obtain ⟨r17, er17, hf⟩ := nmd_e hf
              refine v_callS (pc := 268) (As := [.int x16, .long x4, .long x7]) (rest := []) X (mt_Md_compares ok hi er17.symm) ml_12_363 ms_Md_compares ⟨Nat.le_of_ble_eq_true rfl, Nat.le_of_ble_eq_true rfl⟩ rfl rfl (Nat.le_of_ble_eq_true rfl) (by decide +kernel) ?_
              change V E g tb ρ 6 271 [(4, .long x7), (2, .long x4), (0, .ref (ρ l0)), (1, .int l1)] [.int r17] h
              refine v_if_eq (pc := 271) (off := 7) (tgt := 278) X (by decide +kernel) (by decide) (fun q18 => ?_) (fun q18 => ?_)
              · rw [if_pos q18] at hf
                refine v_lconst (pc := 278) (n := 0) X (by decide +kernel) lc_0 ?_
                cases hf
                exact v_lret X Y (by decide +kernel) rfl rfl
              · rw [if_neg q18] at hf
                refine v_lconst (pc := 274) (n := 1) X (by decide +kernel) lc_1 ?_
                refine v_goto (pc := 275) (off := 4) (tgt := 279) X (by decide +kernel) (by decide) ?_
                cases hf
                exact v_lret X Y (by decide +kernel) rfl rfl
            · rw [if_neg q15] at hf
              by_cases q19 : x8 = (6 : Int32)
              · rw [if_pos q19] at hf
                refine v_tin (pc := 92) (off := 167) (tgt := 259) X (show decode prog_14_method_45_code 92 = .ok (.tableswitch 167 3 14 #[64, 83, 167, 167, 167, 167, 167, 167, 102, 111, 120, 128], 64) from by decide +kernel) q19 (by decide) (by decide) (by decide) (by decide) ?_
                refine v_aload_n (pc := 259) (k := 0) X (by decide +kernel) 2 rfl ?_
                refine v_geta (pc := 260) X fl_12_72 kl0 fk_12_40 (by decide +kernel) ?_
                refine v_iload_n (pc := 263) (k := 1) X (by decide +kernel) 3 rfl ?_
                obtain ⟨x20, ex20, hf⟩ := bnd_e hf
                refine v_iald (pc := 264) X (ly_12_40 ok kl0) ex20 (by decide +kernel) ?_
                refine v_lload_n (pc := 265) (k := 2) X (by decide +kernel) 1 rfl ?_
                refine v_lload (pc := 266) (k := 4) X (by decide +kernel) 0 rfl ?_
                obtain ⟨r21, er21, hf⟩ := nmd_e hf
                refine v_callS (pc := 268) (As := [.int x20, .long x4, .long x7]) (rest := []) X (mt_Md_compares ok hi er21.symm) ml_12_363 ms_Md_compares ⟨Nat.le_of_ble_eq_true rfl, Nat.le_of_ble_eq_true rfl⟩ rfl rfl (Nat.le_of_ble_eq_true rfl) (by decide +kernel) ?_
                change V E g tb ρ 6 271 [(4, .long x7), (2, .long x4), (0, .ref (ρ l0)), (1, .int l1)] [.int r21] h
                refine v_if_eq (pc := 271) (off := 7) (tgt := 278) X (by decide +kernel) (by decide) (fun q22 => ?_) (fun q22 => ?_)
                · rw [if_pos q22] at hf
                  refine v_lconst (pc := 278) (n := 0) X (by decide +kernel) lc_0 ?_
                  cases hf
                  exact v_lret X Y (by decide +kernel) rfl rfl
                · rw [if_neg q22] at hf
                  refine v_lconst (pc := 274) (n := 1) X (by decide +kernel) lc_1 ?_
                  refine v_goto (pc := 275) (off := 4) (tgt := 279) X (by decide +kernel) (by decide) ?_
                  cases hf
                  exact v_lret X Y (by decide +kernel) rfl rfl
              · rw [if_neg q19] at hf
                by_cases q23 : x8 = (7 : Int32)
                · rw [if_pos q23] at hf
                  refine v_tin (pc := 92) (off := 167) (tgt := 259) X (show decode prog_14_method_45_code 92 = .ok (.tableswitch 167 3 14 #[64, 83, 167, 167, 167, 167, 167, 167, 102, 111, 120, 128], 64) from by decide +kernel) q23 (by decide) (by decide) (by decide) (by decide) ?_
                  refine v_aload_n (pc := 259) (k := 0) X (by decide +kernel) 2 rfl ?_
                  refine v_geta (pc := 260) X fl_12_72 kl0 fk_12_40 (by decide +kernel) ?_
                  refine v_iload_n (pc := 263) (k := 1) X (by decide +kernel) 3 rfl ?_
                  obtain ⟨x24, ex24, hf⟩ := bnd_e hf
                  refine v_iald (pc := 264) X (ly_12_40 ok kl0) ex24 (by decide +kernel) ?_
                  refine v_lload_n (pc := 265) (k := 2) X (by decide +kernel) 1 rfl ?_
                  refine v_lload (pc := 266) (k := 4) X (by decide +kernel) 0 rfl ?_
                  obtain ⟨r25, er25, hf⟩ := nmd_e hf
                  refine v_callS (pc := 268) (As := [.int x24, .long x4, .long x7]) (rest := []) X (mt_Md_compares ok hi er25.symm) ml_12_363 ms_Md_compares ⟨Nat.le_of_ble_eq_true rfl, Nat.le_of_ble_eq_true rfl⟩ rfl rfl (Nat.le_of_ble_eq_true rfl) (by decide +kernel) ?_
                  change V E g tb ρ 6 271 [(4, .long x7), (2, .long x4), (0, .ref (ρ l0)), (1, .int l1)] [.int r25] h
                  refine v_if_eq (pc := 271) (off := 7) (tgt := 278) X (by decide +kernel) (by decide) (fun q26 => ?_) (fun q26 => ?_)
                  · rw [if_pos q26] at hf
                    refine v_lconst (pc := 278) (n := 0) X (by decide +kernel) lc_0 ?_
                    cases hf
                    exact v_lret X Y (by decide +kernel) rfl rfl
                  · rw [if_neg q26] at hf
                    refine v_lconst (pc := 274) (n := 1) X (by decide +kernel) lc_1 ?_
                    refine v_goto (pc := 275) (off := 4) (tgt := 279) X (by decide +kernel) (by decide) ?_
                    cases hf
                    exact v_lret X Y (by decide +kernel) rfl rfl
                · rw [if_neg q23] at hf
                  by_cases q27 : x8 = (8 : Int32)
                  · rw [if_pos q27] at hf
                    refine v_tin (pc := 92) (off := 167) (tgt := 259) X (show decode prog_14_method_45_code 92 = .ok (.tableswitch 167 3 14 #[64, 83, 167, 167, 167, 167, 167, 167, 102, 111, 120, 128], 64) from by decide +kernel) q27 (by decide) (by decide) (by decide) (by decide) ?_
                    refine v_aload_n (pc := 259) (k := 0) X (by decide +kernel) 2 rfl ?_
                    refine v_geta (pc := 260) X fl_12_72 kl0 fk_12_40 (by decide +kernel) ?_
                    refine v_iload_n (pc := 263) (k := 1) X (by decide +kernel) 3 rfl ?_
                    obtain ⟨x28, ex28, hf⟩ := bnd_e hf
                    refine v_iald (pc := 264) X (ly_12_40 ok kl0) ex28 (by decide +kernel) ?_
                    refine v_lload_n (pc := 265) (k := 2) X (by decide +kernel) 1 rfl ?_
                    refine v_lload (pc := 266) (k := 4) X (by decide +kernel) 0 rfl ?_
                    obtain ⟨r29, er29, hf⟩ := nmd_e hf
                    refine v_callS (pc := 268) (As := [.int x28, .long x4, .long x7]) (rest := []) X (mt_Md_compares ok hi er29.symm) ml_12_363 ms_Md_compares ⟨Nat.le_of_ble_eq_true rfl, Nat.le_of_ble_eq_true rfl⟩ rfl rfl (Nat.le_of_ble_eq_true rfl) (by decide +kernel) ?_
                    change V E g tb ρ 6 271 [(4, .long x7), (2, .long x4), (0, .ref (ρ l0)), (1, .int l1)] [.int r29] h
                    refine v_if_eq (pc := 271) (off := 7) (tgt := 278) X (by decide +kernel) (by decide) (fun q30 => ?_) (fun q30 => ?_)
                    · rw [if_pos q30] at hf
                      refine v_lconst (pc := 278) (n := 0) X (by decide +kernel) lc_0 ?_
                      cases hf
                      exact v_lret X Y (by decide +kernel) rfl rfl
                    · rw [if_neg q30] at hf
                      refine v_lconst (pc := 274) (n := 1) X (by decide +kernel) lc_1 ?_
                      refine v_goto (pc := 275) (off := 4) (tgt := 279) X (by decide +kernel) (by decide) ?_
                      cases hf
                      exact v_lret X Y (by decide +kernel) rfl rfl
                  · rw [if_neg q27] at hf
                    by_cases q31 : x8 = (9 : Int32)
                    · rw [if_pos q31] at hf
                      refine v_tin (pc := 92) (off := 167) (tgt := 259) X (show decode prog_14_method_45_code 92 = .ok (.tableswitch 167 3 14 #[64, 83, 167, 167, 167, 167, 167, 167, 102, 111, 120, 128], 64) from by decide +kernel) q31 (by decide) (by decide) (by decide) (by decide) ?_
                      refine v_aload_n (pc := 259) (k := 0) X (by decide +kernel) 2 rfl ?_
                      refine v_geta (pc := 260) X fl_12_72 kl0 fk_12_40 (by decide +kernel) ?_
                      refine v_iload_n (pc := 263) (k := 1) X (by decide +kernel) 3 rfl ?_
                      obtain ⟨x32, ex32, hf⟩ := bnd_e hf
                      refine v_iald (pc := 264) X (ly_12_40 ok kl0) ex32 (by decide +kernel) ?_
                      refine v_lload_n (pc := 265) (k := 2) X (by decide +kernel) 1 rfl ?_
                      refine v_lload (pc := 266) (k := 4) X (by decide +kernel) 0 rfl ?_
                      obtain ⟨r33, er33, hf⟩ := nmd_e hf
                      refine v_callS (pc := 268) (As := [.int x32, .long x4, .long x7]) (rest := []) X (mt_Md_compares ok hi er33.symm) ml_12_363 ms_Md_compares ⟨Nat.le_of_ble_eq_true rfl, Nat.le_of_ble_eq_true rfl⟩ rfl rfl (Nat.le_of_ble_eq_true rfl) (by decide +kernel) ?_
                      change V E g tb ρ 6 271 [(4, .long x7), (2, .long x4), (0, .ref (ρ l0)), (1, .int l1)] [.int r33] h
                      refine v_if_eq (pc := 271) (off := 7) (tgt := 278) X (by decide +kernel) (by decide) (fun q34 => ?_) (fun q34 => ?_)
                      · rw [if_pos q34] at hf
                        refine v_lconst (pc := 278) (n := 0) X (by decide +kernel) lc_0 ?_
                        cases hf
                        exact v_lret X Y (by decide +kernel) rfl rfl
                      · rw [if_neg q34] at hf
                        refine v_lconst (pc := 274) (n := 1) X (by decide +kernel) lc_1 ?_
                        refine v_goto (pc := 275) (off := 4) (tgt := 279) X (by decide +kernel) (by decide) ?_
                        cases hf
                        exact v_lret X Y (by decide +kernel) rfl rfl
                    · rw [if_neg q31] at hf
                      by_cases q35 : x8 = (10 : Int32)
                      · rw [if_pos q35] at hf
                        refine v_tin (pc := 92) (off := 167) (tgt := 259) X (show decode prog_14_method_45_code 92 = .ok (.tableswitch 167 3 14 #[64, 83, 167, 167, 167, 167, 167, 167, 102, 111, 120, 128], 64) from by decide +kernel) q35 (by decide) (by decide) (by decide) (by decide) ?_
                        refine v_aload_n (pc := 259) (k := 0) X (by decide +kernel) 2 rfl ?_
                        refine v_geta (pc := 260) X fl_12_72 kl0 fk_12_40 (by decide +kernel) ?_
                        refine v_iload_n (pc := 263) (k := 1) X (by decide +kernel) 3 rfl ?_
                        obtain ⟨x36, ex36, hf⟩ := bnd_e hf
                        refine v_iald (pc := 264) X (ly_12_40 ok kl0) ex36 (by decide +kernel) ?_
                        refine v_lload_n (pc := 265) (k := 2) X (by decide +kernel) 1 rfl ?_
                        refine v_lload (pc := 266) (k := 4) X (by decide +kernel) 0 rfl ?_
                        obtain ⟨r37, er37, hf⟩ := nmd_e hf
                        refine v_callS (pc := 268) (As := [.int x36, .long x4, .long x7]) (rest := []) X (mt_Md_compares ok hi er37.symm) ml_12_363 ms_Md_compares ⟨Nat.le_of_ble_eq_true rfl, Nat.le_of_ble_eq_true rfl⟩ rfl rfl (Nat.le_of_ble_eq_true rfl) (by decide +kernel) ?_
                        change V E g tb ρ 6 271 [(4, .long x7), (2, .long x4), (0, .ref (ρ l0)), (1, .int l1)] [.int r37] h
                        refine v_if_eq (pc := 271) (off := 7) (tgt := 278) X (by decide +kernel) (by decide) (fun q38 => ?_) (fun q38 => ?_)
                        · rw [if_pos q38] at hf
                          refine v_lconst (pc := 278) (n := 0) X (by decide +kernel) lc_0 ?_
                          cases hf
                          exact v_lret X Y (by decide +kernel) rfl rfl
                        · rw [if_neg q38] at hf
                          refine v_lconst (pc := 274) (n := 1) X (by decide +kernel) lc_1 ?_
                          refine v_goto (pc := 275) (off := 4) (tgt := 279) X (by decide +kernel) (by decide) ?_
                          cases hf
                          exact v_lret X Y (by decide +kernel) rfl rfl
                      · rw [if_neg q35] at hf
                        by_cases q39 : x8 = (11 : Int32)
                        · rw [if_pos q39] at hf
                          refine v_tin (pc := 92) (off := 102) (tgt := 194) X (show decode prog_14_method_45_code 92 = .ok (.tableswitch 167 3 14 #[64, 83, 167, 167, 167, 167, 167, 167, 102, 111, 120, 128], 64) from by decide +kernel) q39 (by decide) (by decide) (by decide) (by decide) ?_
                          refine v_aload_n (pc := 194) (k := 0) X (by decide +kernel) 2 rfl ?_
                          refine v_lload_n (pc := 195) (k := 2) X (by decide +kernel) 1 rfl ?_
                          refine v_lload (pc := 196) (k := 4) X (by decide +kernel) 0 rfl ?_
                          refine v_ladd (pc := 198) X (by decide +kernel) ?_
                          obtain ⟨r40, er40, hf⟩ := bnd_e hf
                          refine v_callV (pc := 199) (As := [.long (x4 + x7)]) (rest := []) X (mt_Md_bounded ok hi kl0 er40) ml_12_355 mv_Md_bounded kl0 cls_12 rfl ⟨Nat.le_of_ble_eq_true rfl, Nat.le_of_ble_eq_true rfl⟩ rfl rfl (Nat.le_of_ble_eq_true rfl) (by decide +kernel) ?_
                          change V E g tb ρ 6 202 [(4, .long x7), (2, .long x4), (0, .ref (ρ l0)), (1, .int l1)] [.long r40.1] r40.2
                          cases hf
                          exact v_lret X Y (by decide +kernel) rfl rfl
                        · rw [if_neg q39] at hf
                          by_cases q41 : x8 = (12 : Int32)
                          · rw [if_pos q41] at hf
                            refine v_tin (pc := 92) (off := 111) (tgt := 203) X (show decode prog_14_method_45_code 92 = .ok (.tableswitch 167 3 14 #[64, 83, 167, 167, 167, 167, 167, 167, 102, 111, 120, 128], 64) from by decide +kernel) q41 (by decide) (by decide) (by decide) (by decide) ?_
                            refine v_aload_n (pc := 203) (k := 0) X (by decide +kernel) 2 rfl ?_
                            refine v_lload_n (pc := 204) (k := 2) X (by decide +kernel) 1 rfl ?_
                            refine v_lload (pc := 205) (k := 4) X (by decide +kernel) 0 rfl ?_
                            refine v_lsub (pc := 207) X (by decide +kernel) ?_
                            obtain ⟨r42, er42, hf⟩ := bnd_e hf
                            refine v_callV (pc := 208) (As := [.long (x4 - x7)]) (rest := []) X (mt_Md_bounded ok hi kl0 er42) ml_12_355 mv_Md_bounded kl0 cls_12 rfl ⟨Nat.le_of_ble_eq_true rfl, Nat.le_of_ble_eq_true rfl⟩ rfl rfl (Nat.le_of_ble_eq_true rfl) (by decide +kernel) ?_
                            change V E g tb ρ 6 211 [(4, .long x7), (2, .long x4), (0, .ref (ρ l0)), (1, .int l1)] [.long r42.1] r42.2
                            cases hf
                            exact v_lret X Y (by decide +kernel) rfl rfl
                          · rw [if_neg q41] at hf
                            by_cases q43 : x8 = (13 : Int32)
                            · rw [if_pos q43] at hf
                              refine v_tin (pc := 92) (off := 120) (tgt := 212) X (show decode prog_14_method_45_code 92 = .ok (.tableswitch 167 3 14 #[64, 83, 167, 167, 167, 167, 167, 167, 102, 111, 120, 128], 64) from by decide +kernel) q43 (by decide) (by decide) (by decide) (by decide) ?_
                              refine v_aload_n (pc := 212) (k := 0) X (by decide +kernel) 2 rfl ?_
                              refine v_lload_n (pc := 213) (k := 2) X (by decide +kernel) 1 rfl ?_
                              refine v_lload (pc := 214) (k := 4) X (by decide +kernel) 0 rfl ?_
                              obtain ⟨r44, er44, hf⟩ := bnd_e hf
                              refine v_callV (pc := 216) (As := [.long x4, .long x7]) (rest := []) X (mt_Md_times ok hi kl0 er44) ml_12_359 mv_Md_times kl0 cls_12 rfl ⟨Nat.le_of_ble_eq_true rfl, Nat.le_of_ble_eq_true rfl⟩ rfl rfl (Nat.le_of_ble_eq_true rfl) (by decide +kernel) ?_
                              change V E g tb ρ 6 219 [(4, .long x7), (2, .long x4), (0, .ref (ρ l0)), (1, .int l1)] [.long r44.1] r44.2
                              cases hf
                              exact v_lret X Y (by decide +kernel) rfl rfl
                            · rw [if_neg q43] at hf
                              by_cases q45 : x8 = (14 : Int32)
                              · rw [if_pos q45] at hf
                                refine v_tin (pc := 92) (off := 128) (tgt := 220) X (show decode prog_14_method_45_code 92 = .ok (.tableswitch 167 3 14 #[64, 83, 167, 167, 167, 167, 167, 167, 102, 111, 120, 128], 64) from by decide +kernel) q45 (by decide) (by decide) (by decide) (by decide) ?_
                                refine v_aload_n (pc := 220) (k := 0) X (by decide +kernel) 2 rfl ?_
                                refine v_aload_n (pc := 221) (k := 0) X (by decide +kernel) 2 rfl ?_
                                refine v_geti (pc := 222) X fl_12_348 kl0 rfl (by decide +kernel) ?_
                                refine v_if_ne (pc := 225) (off := 10) (tgt := 235) X (by decide +kernel) (by decide) (fun q47 => ?_) (fun q47 => ?_)
                                · rw [if_neg q47] at hf
                                  refine v_sub [2, 1, 0] rfl ?_
                                  exact vjb_Md_valueOf_235 ok hi X Y h l0 x4 x7 l0 kl0 kl0 hf
                                · rw [if_pos q47] at hf
                                  refine v_lload (pc := 228) (k := 4) X (by decide +kernel) 0 rfl ?_
                                  refine v_lconst (pc := 230) (n := 0) X (by decide +kernel) lc_0 ?_
                                  refine v_lcmp (pc := 231) X (by decide +kernel) ?_
                                  refine v_if_ne (pc := 232) (off := 7) (tgt := 239) X (by decide +kernel) (by decide) (fun q46 => ?_) (fun q46 => ?_)
                                  · rw [if_neg q46] at hf
                                    refine v_iconst (pc := 239) (n := 0) X (by decide +kernel) ic_0 ?_
                                    refine v_sub [2, 1, 0] rfl ?_
                                    exact vjb_Md_valueOf_240 ok hi X Y h l0 x4 x7 l0 (0 : Int32) kl0 kl0 hf
                                  · rw [if_pos q46] at hf
                                    refine v_sub [2, 1, 0] rfl ?_
                                    exact vjb_Md_valueOf_235 ok hi X Y h l0 x4 x7 l0 kl0 kl0 hf
                              · rw [if_neg q45] at hf
                                refine v_tout (pc := 92) (tgt := 259) X (show decode prog_14_method_45_code 92 = .ok (.tableswitch 167 3 14 #[64, 83, 167, 167, 167, 167, 167, 167, 102, 111, 120, 128], 64) from by decide +kernel) (t_out (lo := 3) (hi := 14) [(3 : Int32), (4 : Int32), (5 : Int32), (6 : Int32), (7 : Int32), (8 : Int32), (9 : Int32), (10 : Int32), (11 : Int32), (12 : Int32), (13 : Int32), (14 : Int32)] (by decide) (List.forall_mem_cons.mpr ⟨q9, List.forall_mem_cons.mpr ⟨q12, List.forall_mem_cons.mpr ⟨q15, List.forall_mem_cons.mpr ⟨q19, List.forall_mem_cons.mpr ⟨q23, List.forall_mem_cons.mpr ⟨q27, List.forall_mem_cons.mpr ⟨q31, List.forall_mem_cons.mpr ⟨q35, List.forall_mem_cons.mpr ⟨q39, List.forall_mem_cons.mpr ⟨q41, List.forall_mem_cons.mpr ⟨q43, List.forall_mem_cons.mpr ⟨q45, fun _ h => absurd h List.not_mem_nil⟩⟩⟩⟩⟩⟩⟩⟩⟩⟩⟩⟩)) (by decide) ?_
                                refine v_aload_n (pc := 259) (k := 0) X (by decide +kernel) 2 rfl ?_
                                refine v_geta (pc := 260) X fl_12_72 kl0 fk_12_40 (by decide +kernel) ?_
                                refine v_iload_n (pc := 263) (k := 1) X (by decide +kernel) 3 rfl ?_
                                obtain ⟨x48, ex48, hf⟩ := bnd_e hf
                                refine v_iald (pc := 264) X (ly_12_40 ok kl0) ex48 (by decide +kernel) ?_
                                refine v_lload_n (pc := 265) (k := 2) X (by decide +kernel) 1 rfl ?_
                                refine v_lload (pc := 266) (k := 4) X (by decide +kernel) 0 rfl ?_
                                obtain ⟨r49, er49, hf⟩ := nmd_e hf
                                refine v_callS (pc := 268) (As := [.int x48, .long x4, .long x7]) (rest := []) X (mt_Md_compares ok hi er49.symm) ml_12_363 ms_Md_compares ⟨Nat.le_of_ble_eq_true rfl, Nat.le_of_ble_eq_true rfl⟩ rfl rfl (Nat.le_of_ble_eq_true rfl) (by decide +kernel) ?_
                                change V E g tb ρ 6 271 [(4, .long x7), (2, .long x4), (0, .ref (ρ l0)), (1, .int l1)] [.int r49] h
                                refine v_if_eq (pc := 271) (off := 7) (tgt := 278) X (by decide +kernel) (by decide) (fun q50 => ?_) (fun q50 => ?_)
                                · rw [if_pos q50] at hf
                                  refine v_lconst (pc := 278) (n := 0) X (by decide +kernel) lc_0 ?_
                                  cases hf
                                  exact v_lret X Y (by decide +kernel) rfl rfl
                                · rw [if_neg q50] at hf
                                  refine v_lconst (pc := 274) (n := 1) X (by decide +kernel) lc_1 ?_
                                  refine v_goto (pc := 275) (off := 4) (tgt := 279) X (by decide +kernel) (by decide) ?_
                                  cases hf
                                  exact v_lret X Y (by decide +kernel) rfl rfl
      · rw [if_pos q52] at hf
        refine v_lload_n (pc := 61) (k := 2) X (by decide +kernel) 0 rfl ?_
        refine v_lconst (pc := 62) (n := 0) X (by decide +kernel) lc_0 ?_
        refine v_lcmp (pc := 63) X (by decide +kernel) ?_
        refine v_if_ne (pc := 64) (off := 7) (tgt := 71) X (by decide +kernel) (by decide) (fun q51 => ?_) (fun q51 => ?_)
        · rw [if_neg q51] at hf
          refine v_lconst (pc := 71) (n := 0) X (by decide +kernel) lc_0 ?_
          cases hf
          exact v_lret X Y (by decide +kernel) rfl rfl
        · rw [if_pos q51] at hf
          refine v_lconst (pc := 67) (n := 1) X (by decide +kernel) lc_1 ?_
          refine v_goto (pc := 68) (off := 4) (tgt := 72) X (by decide +kernel) (by decide) ?_
          cases hf
          exact v_lret X Y (by decide +kernel) rfl rfl
    · rw [if_pos q55] at hf
      refine v_aload_n (pc := 27) (k := 0) X (by decide +kernel) 0 rfl ?_
      refine v_geta (pc := 28) X fl_12_87 kl0 fk_12_51 (by decide +kernel) ?_
      refine v_aload_n (pc := 31) (k := 0) X (by decide +kernel) 0 rfl ?_
      refine v_geta (pc := 32) X fl_12_75 kl0 fk_12_41 (by decide +kernel) ?_
      refine v_iload_n (pc := 35) (k := 1) X (by decide +kernel) 1 rfl ?_
      obtain ⟨x53, ex53, hf⟩ := bnd_e hf
      refine v_iald (pc := 36) X (ly_12_41 ok kl0) ex53 (by decide +kernel) ?_
      obtain ⟨x54, ex54, hf⟩ := bnd_e hf
      refine v_lald (pc := 37) X (ly_12_51 ok kl0) ex54 (by decide +kernel) ?_
      cases hf
      exact v_lret X Y (by decide +kernel) rfl rfl
  · rw [if_pos q57] at hf
    refine v_aload_n (pc := 9) (k := 0) X (by decide +kernel) 0 rfl ?_
    refine v_geta (pc := 10) X fl_12_75 kl0 fk_12_41 (by decide +kernel) ?_
    refine v_iload_n (pc := 13) (k := 1) X (by decide +kernel) 1 rfl ?_
    obtain ⟨x56, ex56, hf⟩ := bnd_e hf
    refine v_iald (pc := 14) X (ly_12_41 ok kl0) ex56 (by decide +kernel) ?_
    refine v_i2l (pc := 15) X (by decide +kernel) ?_
    cases hf
    exact v_lret X Y (by decide +kernel) rfl rfl
def lp_Md_layTried_2 (tb : Tb) : Nat → Hp → Nat → Int32 → Option (Hp)
  | 0, _, _, _ => none
  | n + 1, h, l0, l1 =>
    if (6 : Int32) ≤ l1 then (
      (rI tb h (lay tb l0 61) (0 : Int32)).bind fun x1 =>
      (wI tb h (lay tb l0 61) (1 : Int32) x1).bind fun h2 =>
      (rI tb h2 (lay tb l0 62) (0 : Int32)).bind fun x3 =>
      (wI tb h2 (lay tb l0 62) (1 : Int32) x3).bind fun h4 =>
      (rI tb h4 (lay tb l0 63) (0 : Int32)).bind fun x5 =>
      (wI tb h4 (lay tb l0 63) (1 : Int32) x5).bind fun h6 =>
      (rI tb h6 (lay tb l0 64) (0 : Int32)).bind fun x7 =>
      (wI tb h6 (lay tb l0 64) (1 : Int32) x7).bind fun h8 =>
      (rI tb h8 (lay tb l0 65) (0 : Int32)).bind fun x9 =>
      (wI tb h8 (lay tb l0 65) (1 : Int32) x9).bind fun h10 =>
      (rI tb h10 (lay tb l0 66) (0 : Int32)).bind fun x11 =>
      (wI tb h10 (lay tb l0 66) (1 : Int32) x11).bind fun h12 =>
      nmd (f_Md_plainTried tb h12 l0) fun r13 =>
      some r13
    ) else (
      (rI tb h (lay tb l0 54) l1).bind fun x14 =>
      (wI tb h (lay tb l0 54) ((6 : Int32) + l1) x14).bind fun h15 =>
      (rI tb h15 (lay tb l0 55) l1).bind fun x16 =>
      (wI tb h15 (lay tb l0 55) ((6 : Int32) + l1) x16).bind fun h17 =>
      (rI tb h17 (lay tb l0 56) l1).bind fun x18 =>
      (wI tb h17 (lay tb l0 56) ((6 : Int32) + l1) x18).bind fun h19 =>
      (rI tb h19 (lay tb l0 57) l1).bind fun x20 =>
      (wI tb h19 (lay tb l0 57) ((6 : Int32) + l1) x20).bind fun h21 =>
      (rI tb h21 (lay tb l0 58) l1).bind fun x22 =>
      (wZ tb h21 (lay tb l0 58) ((6 : Int32) + l1) x22).bind fun h23 =>
      (rI tb h23 (lay tb l0 59) l1).bind fun x24 =>
      (wI tb h23 (lay tb l0 59) ((6 : Int32) + l1) x24).bind fun h25 =>
      (rI tb h25 (lay tb l0 60) l1).bind fun x26 =>
      (wI tb h25 (lay tb l0 60) ((6 : Int32) + l1) x26).bind fun h27 =>
      nmd (l1 + (1 : Int32)) fun x28 =>
      lp_Md_layTried_2 tb n h27 l0 x28
    )
def f_Md_layTried (tb : Tb) (h : Hp) (l0 : Nat) : Option (Hp) :=
  lp_Md_layTried_2 tb fu h l0 (0 : Int32)
set_option maxRecDepth 4000 in
set_option maxHeartbeats 1000000 in
theorem vlp_Md_layTried_2 {E : En} {g : Gl} {tb : Tb} {ρ : Nat → Nat} (ok : TbOK tb) (hi : inj tb ρ) {r : Hp} (X : CX E g tb ρ prog_14_method_49_code 2 RC12 1 20) (Y : CQ E g tb ρ none (none) r) : ∀ (n : Nat) (h : Hp) (l0 : Nat) (l1 : Int32) (kl0 : kd tb l0 = 12), lp_Md_layTried_2 tb n h l0 l1 = some r → V E g tb ρ 2 2 [(0, .ref (ρ l0)), (1, .int l1)] [] h := by
  intro n
  induction n with
  | zero =>
    intro h l0 l1 kl0 hf
    rw [lp_Md_layTried_2] at hf
    cases hf
  | succ n ih =>
    intro h l0 l1 kl0 hf
    rw [lp_Md_layTried_2] at hf
    refine v_iload_n (pc := 2) (k := 1) X (by decide +kernel) 1 rfl ?_
    refine v_bipush (pc := 3) (n := 6) X (by decide +kernel) bi_6 ?_
    refine v_icmp_ge (pc := 5) (off := 114) (tgt := 119) X (by decide +kernel) (by decide) (fun q29 => ?_) (fun q29 => ?_)
    · rw [if_pos q29] at hf
      refine v_aload_n (pc := 119) (k := 0) X (by decide +kernel) 0 rfl ?_
      refine v_geta (pc := 120) X fl_12_115 kl0 fk_12_61 (by decide +kernel) ?_
      refine v_iconst (pc := 123) (n := 1) X (by decide +kernel) ic_1 ?_
      refine v_aload_n (pc := 124) (k := 0) X (by decide +kernel) 0 rfl ?_
      refine v_geta (pc := 125) X fl_12_115 kl0 fk_12_61 (by decide +kernel) ?_
      refine v_iconst (pc := 128) (n := 0) X (by decide +kernel) ic_0 ?_
      obtain ⟨x1, ex1, hf⟩ := bnd_e hf
      refine v_iald (pc := 129) X (ly_12_61 ok kl0) ex1 (by decide +kernel) ?_
      obtain ⟨h2, eh2, hf⟩ := bnd_e hf
      refine v_iast (pc := 130) X (ly_12_61 ok kl0) eh2 (by decide +kernel) ?_
      refine v_aload_n (pc := 131) (k := 0) X (by decide +kernel) 0 rfl ?_
      refine v_geta (pc := 132) X fl_12_118 kl0 fk_12_62 (by decide +kernel) ?_
      refine v_iconst (pc := 135) (n := 1) X (by decide +kernel) ic_1 ?_
      refine v_aload_n (pc := 136) (k := 0) X (by decide +kernel) 0 rfl ?_
      refine v_geta (pc := 137) X fl_12_118 kl0 fk_12_62 (by decide +kernel) ?_
      refine v_iconst (pc := 140) (n := 0) X (by decide +kernel) ic_0 ?_
      obtain ⟨x3, ex3, hf⟩ := bnd_e hf
      refine v_iald (pc := 141) X (ly_12_62 ok kl0) ex3 (by decide +kernel) ?_
      obtain ⟨h4, eh4, hf⟩ := bnd_e hf
      refine v_iast (pc := 142) X (ly_12_62 ok kl0) eh4 (by decide +kernel) ?_
      refine v_aload_n (pc := 143) (k := 0) X (by decide +kernel) 0 rfl ?_
      refine v_geta (pc := 144) X fl_12_121 kl0 fk_12_63 (by decide +kernel) ?_
      refine v_iconst (pc := 147) (n := 1) X (by decide +kernel) ic_1 ?_
      refine v_aload_n (pc := 148) (k := 0) X (by decide +kernel) 0 rfl ?_
      refine v_geta (pc := 149) X fl_12_121 kl0 fk_12_63 (by decide +kernel) ?_
      refine v_iconst (pc := 152) (n := 0) X (by decide +kernel) ic_0 ?_
      obtain ⟨x5, ex5, hf⟩ := bnd_e hf
      refine v_iald (pc := 153) X (ly_12_63 ok kl0) ex5 (by decide +kernel) ?_
      obtain ⟨h6, eh6, hf⟩ := bnd_e hf
      refine v_iast (pc := 154) X (ly_12_63 ok kl0) eh6 (by decide +kernel) ?_
      refine v_aload_n (pc := 155) (k := 0) X (by decide +kernel) 0 rfl ?_
      refine v_geta (pc := 156) X fl_12_124 kl0 fk_12_64 (by decide +kernel) ?_
      refine v_iconst (pc := 159) (n := 1) X (by decide +kernel) ic_1 ?_
      refine v_aload_n (pc := 160) (k := 0) X (by decide +kernel) 0 rfl ?_
      refine v_geta (pc := 161) X fl_12_124 kl0 fk_12_64 (by decide +kernel) ?_
      refine v_iconst (pc := 164) (n := 0) X (by decide +kernel) ic_0 ?_
      obtain ⟨x7, ex7, hf⟩ := bnd_e hf
      refine v_iald (pc := 165) X (ly_12_64 ok kl0) ex7 (by decide +kernel) ?_
      obtain ⟨h8, eh8, hf⟩ := bnd_e hf
      refine v_iast (pc := 166) X (ly_12_64 ok kl0) eh8 (by decide +kernel) ?_
      refine v_aload_n (pc := 167) (k := 0) X (by decide +kernel) 0 rfl ?_
      refine v_geta (pc := 168) X fl_12_127 kl0 fk_12_65 (by decide +kernel) ?_
      refine v_iconst (pc := 171) (n := 1) X (by decide +kernel) ic_1 ?_
      refine v_aload_n (pc := 172) (k := 0) X (by decide +kernel) 0 rfl ?_
      refine v_geta (pc := 173) X fl_12_127 kl0 fk_12_65 (by decide +kernel) ?_
      refine v_iconst (pc := 176) (n := 0) X (by decide +kernel) ic_0 ?_
      obtain ⟨x9, ex9, hf⟩ := bnd_e hf
      refine v_iald (pc := 177) X (ly_12_65 ok kl0) ex9 (by decide +kernel) ?_
      obtain ⟨h10, eh10, hf⟩ := bnd_e hf
      refine v_iast (pc := 178) X (ly_12_65 ok kl0) eh10 (by decide +kernel) ?_
      refine v_aload_n (pc := 179) (k := 0) X (by decide +kernel) 0 rfl ?_
      refine v_geta (pc := 180) X fl_12_130 kl0 fk_12_66 (by decide +kernel) ?_
      refine v_iconst (pc := 183) (n := 1) X (by decide +kernel) ic_1 ?_
      refine v_aload_n (pc := 184) (k := 0) X (by decide +kernel) 0 rfl ?_
      refine v_geta (pc := 185) X fl_12_130 kl0 fk_12_66 (by decide +kernel) ?_
      refine v_iconst (pc := 188) (n := 0) X (by decide +kernel) ic_0 ?_
      obtain ⟨x11, ex11, hf⟩ := bnd_e hf
      refine v_iald (pc := 189) X (ly_12_66 ok kl0) ex11 (by decide +kernel) ?_
      obtain ⟨h12, eh12, hf⟩ := bnd_e hf
      refine v_iast (pc := 190) X (ly_12_66 ok kl0) eh12 (by decide +kernel) ?_
      refine v_aload_n (pc := 191) (k := 0) X (by decide +kernel) 0 rfl ?_
      obtain ⟨r13, er13, hf⟩ := nmd_e hf
      refine v_callV (pc := 192) (As := []) (rest := []) X (mt_Md_plainTried ok hi kl0 er13.symm) ml_12_374 mv_Md_plainTried kl0 cls_12 rfl ⟨Nat.le_of_ble_eq_true rfl, Nat.le_of_ble_eq_true rfl⟩ rfl rfl (Nat.le_of_ble_eq_true rfl) (by decide +kernel) ?_
      change V E g tb ρ 2 195 [(0, .ref (ρ l0)), (1, .int l1)] [] r13
      cases hf
      exact v_vret X Y (by decide +kernel) rfl rfl
    · rw [if_neg q29] at hf
      refine v_aload_n (pc := 8) (k := 0) X (by decide +kernel) 0 rfl ?_
      refine v_geta (pc := 9) X fl_12_94 kl0 fk_12_54 (by decide +kernel) ?_
      refine v_bipush (pc := 12) (n := 6) X (by decide +kernel) bi_6 ?_
      refine v_iload_n (pc := 14) (k := 1) X (by decide +kernel) 1 rfl ?_
      refine v_iadd (pc := 15) X (by decide +kernel) ?_
      refine v_aload_n (pc := 16) (k := 0) X (by decide +kernel) 0 rfl ?_
      refine v_geta (pc := 17) X fl_12_94 kl0 fk_12_54 (by decide +kernel) ?_
      refine v_iload_n (pc := 20) (k := 1) X (by decide +kernel) 1 rfl ?_
      obtain ⟨x14, ex14, hf⟩ := bnd_e hf
      refine v_iald (pc := 21) X (ly_12_54 ok kl0) ex14 (by decide +kernel) ?_
      obtain ⟨h15, eh15, hf⟩ := bnd_e hf
      refine v_iast (pc := 22) X (ly_12_54 ok kl0) eh15 (by decide +kernel) ?_
      refine v_aload_n (pc := 23) (k := 0) X (by decide +kernel) 0 rfl ?_
      refine v_geta (pc := 24) X fl_12_97 kl0 fk_12_55 (by decide +kernel) ?_
      refine v_bipush (pc := 27) (n := 6) X (by decide +kernel) bi_6 ?_
      refine v_iload_n (pc := 29) (k := 1) X (by decide +kernel) 1 rfl ?_
      refine v_iadd (pc := 30) X (by decide +kernel) ?_
      refine v_aload_n (pc := 31) (k := 0) X (by decide +kernel) 0 rfl ?_
      refine v_geta (pc := 32) X fl_12_97 kl0 fk_12_55 (by decide +kernel) ?_
      refine v_iload_n (pc := 35) (k := 1) X (by decide +kernel) 1 rfl ?_
      obtain ⟨x16, ex16, hf⟩ := bnd_e hf
      refine v_iald (pc := 36) X (ly_12_55 ok kl0) ex16 (by decide +kernel) ?_
      obtain ⟨h17, eh17, hf⟩ := bnd_e hf
      refine v_iast (pc := 37) X (ly_12_55 ok kl0) eh17 (by decide +kernel) ?_
      refine v_aload_n (pc := 38) (k := 0) X (by decide +kernel) 0 rfl ?_
      refine v_geta (pc := 39) X fl_12_100 kl0 fk_12_56 (by decide +kernel) ?_
      refine v_bipush (pc := 42) (n := 6) X (by decide +kernel) bi_6 ?_
      refine v_iload_n (pc := 44) (k := 1) X (by decide +kernel) 1 rfl ?_
      refine v_iadd (pc := 45) X (by decide +kernel) ?_
      refine v_aload_n (pc := 46) (k := 0) X (by decide +kernel) 0 rfl ?_
      refine v_geta (pc := 47) X fl_12_100 kl0 fk_12_56 (by decide +kernel) ?_
      refine v_iload_n (pc := 50) (k := 1) X (by decide +kernel) 1 rfl ?_
      obtain ⟨x18, ex18, hf⟩ := bnd_e hf
      refine v_iald (pc := 51) X (ly_12_56 ok kl0) ex18 (by decide +kernel) ?_
      obtain ⟨h19, eh19, hf⟩ := bnd_e hf
      refine v_iast (pc := 52) X (ly_12_56 ok kl0) eh19 (by decide +kernel) ?_
      refine v_aload_n (pc := 53) (k := 0) X (by decide +kernel) 0 rfl ?_
      refine v_geta (pc := 54) X fl_12_103 kl0 fk_12_57 (by decide +kernel) ?_
      refine v_bipush (pc := 57) (n := 6) X (by decide +kernel) bi_6 ?_
      refine v_iload_n (pc := 59) (k := 1) X (by decide +kernel) 1 rfl ?_
      refine v_iadd (pc := 60) X (by decide +kernel) ?_
      refine v_aload_n (pc := 61) (k := 0) X (by decide +kernel) 0 rfl ?_
      refine v_geta (pc := 62) X fl_12_103 kl0 fk_12_57 (by decide +kernel) ?_
      refine v_iload_n (pc := 65) (k := 1) X (by decide +kernel) 1 rfl ?_
      obtain ⟨x20, ex20, hf⟩ := bnd_e hf
      refine v_iald (pc := 66) X (ly_12_57 ok kl0) ex20 (by decide +kernel) ?_
      obtain ⟨h21, eh21, hf⟩ := bnd_e hf
      refine v_iast (pc := 67) X (ly_12_57 ok kl0) eh21 (by decide +kernel) ?_
      refine v_aload_n (pc := 68) (k := 0) X (by decide +kernel) 0 rfl ?_
      refine v_geta (pc := 69) X fl_12_106 kl0 fk_12_58 (by decide +kernel) ?_
      refine v_bipush (pc := 72) (n := 6) X (by decide +kernel) bi_6 ?_
      refine v_iload_n (pc := 74) (k := 1) X (by decide +kernel) 1 rfl ?_
      refine v_iadd (pc := 75) X (by decide +kernel) ?_
      refine v_aload_n (pc := 76) (k := 0) X (by decide +kernel) 0 rfl ?_
      refine v_geta (pc := 77) X fl_12_106 kl0 fk_12_58 (by decide +kernel) ?_
      refine v_iload_n (pc := 80) (k := 1) X (by decide +kernel) 1 rfl ?_
      obtain ⟨x22, ex22, hf⟩ := bnd_e hf
      refine v_zald (pc := 81) X (ly_12_58 ok kl0) ex22 (by decide +kernel) ?_
      obtain ⟨h23, eh23, hf⟩ := bnd_e hf
      refine v_zast (pc := 82) X (ly_12_58 ok kl0) eh23 (by decide +kernel) ?_
      refine v_aload_n (pc := 83) (k := 0) X (by decide +kernel) 0 rfl ?_
      refine v_geta (pc := 84) X fl_12_109 kl0 fk_12_59 (by decide +kernel) ?_
      refine v_bipush (pc := 87) (n := 6) X (by decide +kernel) bi_6 ?_
      refine v_iload_n (pc := 89) (k := 1) X (by decide +kernel) 1 rfl ?_
      refine v_iadd (pc := 90) X (by decide +kernel) ?_
      refine v_aload_n (pc := 91) (k := 0) X (by decide +kernel) 0 rfl ?_
      refine v_geta (pc := 92) X fl_12_109 kl0 fk_12_59 (by decide +kernel) ?_
      refine v_iload_n (pc := 95) (k := 1) X (by decide +kernel) 1 rfl ?_
      obtain ⟨x24, ex24, hf⟩ := bnd_e hf
      refine v_iald (pc := 96) X (ly_12_59 ok kl0) ex24 (by decide +kernel) ?_
      obtain ⟨h25, eh25, hf⟩ := bnd_e hf
      refine v_iast (pc := 97) X (ly_12_59 ok kl0) eh25 (by decide +kernel) ?_
      refine v_aload_n (pc := 98) (k := 0) X (by decide +kernel) 0 rfl ?_
      refine v_geta (pc := 99) X fl_12_112 kl0 fk_12_60 (by decide +kernel) ?_
      refine v_bipush (pc := 102) (n := 6) X (by decide +kernel) bi_6 ?_
      refine v_iload_n (pc := 104) (k := 1) X (by decide +kernel) 1 rfl ?_
      refine v_iadd (pc := 105) X (by decide +kernel) ?_
      refine v_aload_n (pc := 106) (k := 0) X (by decide +kernel) 0 rfl ?_
      refine v_geta (pc := 107) X fl_12_112 kl0 fk_12_60 (by decide +kernel) ?_
      refine v_iload_n (pc := 110) (k := 1) X (by decide +kernel) 1 rfl ?_
      obtain ⟨x26, ex26, hf⟩ := bnd_e hf
      refine v_iald (pc := 111) X (ly_12_60 ok kl0) ex26 (by decide +kernel) ?_
      obtain ⟨h27, eh27, hf⟩ := bnd_e hf
      refine v_iast (pc := 112) X (ly_12_60 ok kl0) eh27 (by decide +kernel) ?_
      obtain ⟨x28, ex28, hf⟩ := nmd_e hf
      refine v_iinc (pc := 113) (k := 1) (n := 1) (v := x28) (lv' := [(1, .int x28), (0, .ref (ρ l0))]) X (by decide +kernel) 1 rfl (by rw [ic_1, ex28]) (Nat.le_of_ble_eq_true rfl) rfl ?_
      refine v_goto (pc := 116) (off := -114) (tgt := 2) X (by decide +kernel) (by decide) ?_
      refine v_sub [1, 0] rfl ?_
      exact ih h27 l0 x28 kl0 hf
set_option maxRecDepth 4000 in
set_option maxHeartbeats 1000000 in
theorem mt_Md_layTried {g : Gl} {tb : Tb} {ρ : Nat → Nat} (ok : TbOK tb) (hi : inj tb ρ) {h : Hp} {l0 : Nat} (kl0 : kd tb l0 = 12) {r : Hp} (hf : f_Md_layTried tb h l0 = some r) : MT g y_Md_layTried prog_14_method_49_code 2 none 1 20 tb ρ [.ref (ρ l0)] h (none) r := by
  refine mt_intro (by decide +kernel) ok hi (Nat.le_of_ble_eq_true rfl) (fun E X Y => ?_)
  change V E g tb ρ 2 0 [(0, .ref (ρ l0))] [] h
  unfold f_Md_layTried at hf
  refine v_iconst (pc := 0) (n := 0) X (by decide +kernel) ic_0 ?_
  refine v_istore_n (pc := 1) (k := 1) (lv' := [(1, .int (0 : Int32)), (0, .ref (ρ l0))]) X (by decide +kernel) (Nat.le_of_ble_eq_true rfl) rfl ?_
  refine v_sub [1, 0] rfl ?_
  exact vlp_Md_layTried_2 ok hi X Y fu h l0 (0 : Int32) kl0 hf
