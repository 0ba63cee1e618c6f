def f_Tt_stops (tb : Tb) (h : Hp) (l0 : Nat) (l1 : Int32) (l2 : Int32) : Option (Int32 × Hp) :=
  nmd (f_Pl_hasHorse tb h (lay tb l0 3) l1) fun r1 =>
  if r1 = (0 : Int32) then (
    some ((-1 : Int32), h)
  ) else (
    nmd (f_Pl_hasTrough tb h (lay tb l0 3) l2) fun r2 =>
    if r2 = (0 : Int32) then (
      some ((-1 : Int32), h)
    ) else (
      nmd (f_Wo_isOn tb h (lay tb l0 4) l1) fun r3 =>
      if r3 = (0 : Int32) then (
        some ((-2 : Int32), h)
      ) else (
        (f_Cn_fewestLegs tb h (lay tb l0 11) l1 l2).bind fun r4 =>
        some (r4.1, r4.2)
      )
    )
  )
set_option maxRecDepth 4000 in
set_option maxHeartbeats 1000000 in
theorem mt_Tt_stops {g : Gl} {tb : Tb} {ρ : Nat → Nat} (ok : TbOK tb) (hi : inj tb ρ) {h : Hp} {l0 : Nat} {l1 : Int32} {l2 : Int32} (kl0 : kd tb l0 = 0) {r : Int32 × Hp} (hf : f_Tt_stops tb h l0 l1 l2 = some r) : MT g y_Tt_stops prog_1_method_21_code 3 (some .int) 5 110 tb ρ [.ref (ρ l0), .int l1, .int l2] h (some (.int r.1)) r.2 := by
  refine mt_intro (by decide +kernel) ok hi (Nat.le_of_ble_eq_true rfl) (fun E X Y => ?_)
  change V E g tb ρ 3 0 [(0, .ref (ρ l0)), (1, .int l1), (2, .int l2)] [] h
  unfold f_Tt_stops at hf
  refine v_aload_n (pc := 0) (k := 0) X (by decide +kernel) 0 rfl ?_
  refine v_geta (pc := 1) X fl_0_31 kl0 fk_0_3 (by decide +kernel) ?_
  refine v_iload_n (pc := 4) (k := 1) X (by decide +kernel) 1 rfl ?_
  obtain ⟨r1, er1, hf⟩ := nmd_e hf
  refine v_callV (pc := 5) (As := [.int l1]) (rest := []) X (mt_Pl_hasHorse ok hi (ly_0_3 ok kl0) er1.symm) ml_0_132 mv_Pl_hasHorse (ly_0_3 ok kl0) cls_7 rfl ⟨Nat.le_of_ble_eq_true rfl, Nat.le_of_ble_eq_true rfl⟩ rfl rfl (Nat.le_of_ble_eq_true rfl) (by decide +kernel) ?_
  change V E g tb ρ 3 8 [(0, .ref (ρ l0)), (1, .int l1), (2, .int l2)] [.int r1] h
  refine v_if_eq (pc := 8) (off := 14) (tgt := 22) X (by decide +kernel) (by decide) (fun q7 => ?_) (fun q7 => ?_)
  · rw [if_pos q7] at hf
    refine v_iconst (pc := 22) (n := -1) X (by decide +kernel) ic_m1 ?_
    cases hf
    exact v_iret X Y (by decide +kernel) rfl rfl
  · rw [if_neg q7] at hf
    refine v_aload_n (pc := 11) (k := 0) X (by decide +kernel) 0 rfl ?_
    refine v_geta (pc := 12) X fl_0_31 kl0 fk_0_3 (by decide +kernel) ?_
    refine v_iload_n (pc := 15) (k := 2) X (by decide +kernel) 2 rfl ?_
    obtain ⟨r2, er2, hf⟩ := nmd_e hf
    refine v_callV (pc := 16) (As := [.int l2]) (rest := []) X (mt_Pl_hasTrough ok hi (ly_0_3 ok kl0) er2.symm) ml_0_165 mv_Pl_hasTrough (ly_0_3 ok kl0) cls_7 rfl ⟨Nat.le_of_ble_eq_true rfl, Nat.le_of_ble_eq_true rfl⟩ rfl rfl (Nat.le_of_ble_eq_true rfl) (by decide +kernel) ?_
    change V E g tb ρ 3 19 [(0, .ref (ρ l0)), (1, .int l1), (2, .int l2)] [.int r2] h
    refine v_if_ne (pc := 19) (off := 5) (tgt := 24) X (by decide +kernel) (by decide) (fun q6 => ?_) (fun q6 => ?_)
    · rw [if_neg q6] at hf
      refine v_aload_n (pc := 24) (k := 0) X (by decide +kernel) 0 rfl ?_
      refine v_geta (pc := 25) X fl_0_38 kl0 fk_0_4 (by decide +kernel) ?_
      refine v_iload_n (pc := 28) (k := 1) X (by decide +kernel) 1 rfl ?_
      obtain ⟨r3, er3, hf⟩ := nmd_e hf
      refine v_callV (pc := 29) (As := [.int l1]) (rest := []) X (mt_Wo_isOn ok hi (ly_0_4 ok kl0) er3.symm) ml_0_156 mv_Wo_isOn (ly_0_4 ok kl0) cls_11 rfl ⟨Nat.le_of_ble_eq_true rfl, Nat.le_of_ble_eq_true rfl⟩ rfl rfl (Nat.le_of_ble_eq_true rfl) (by decide +kernel) ?_
      change V E g tb ρ 3 32 [(0, .ref (ρ l0)), (1, .int l1), (2, .int l2)] [.int r3] h
      refine v_if_eq (pc := 32) (off := 15) (tgt := 47) X (by decide +kernel) (by decide) (fun q5 => ?_) (fun q5 => ?_)
      · rw [if_pos q5] at hf
        refine v_bipush (pc := 47) (n := -2) X (by decide +kernel) bi_m2 ?_
        cases hf
        exact v_iret X Y (by decide +kernel) rfl rfl
      · rw [if_neg q5] at hf
        refine v_aload_n (pc := 35) (k := 0) X (by decide +kernel) 0 rfl ?_
        refine v_geta (pc := 36) X fl_0_86 kl0 fk_0_11 (by decide +kernel) ?_
        refine v_iload_n (pc := 39) (k := 1) X (by decide +kernel) 1 rfl ?_
        refine v_iload_n (pc := 40) (k := 2) X (by decide +kernel) 2 rfl ?_
        obtain ⟨r4, er4, hf⟩ := bnd_e hf
        refine v_callV (pc := 41) (As := [.int l1, .int l2]) (rest := []) X (mt_Cn_fewestLegs ok hi (ly_0_11 ok kl0) er4) ml_0_254 mv_Cn_fewestLegs (ly_0_11 ok kl0) cls_1 rfl ⟨Nat.le_of_ble_eq_true rfl, Nat.le_of_ble_eq_true rfl⟩ rfl rfl (Nat.le_of_ble_eq_true rfl) (by decide +kernel) ?_
        change V E g tb ρ 3 44 [(0, .ref (ρ l0)), (1, .int l1), (2, .int l2)] [.int r4.1] r4.2
        refine v_goto (pc := 44) (off := 5) (tgt := 49) X (by decide +kernel) (by decide) ?_
        cases hf
        exact v_iret X Y (by decide +kernel) rfl rfl
    · rw [if_pos q6] at hf
      refine v_iconst (pc := 22) (n := -1) X (by decide +kernel) ic_m1 ?_
      cases hf
      exact v_iret X Y (by decide +kernel) rfl rfl
def jb_Cn_withinOneLeg_50 (tb : Tb) (c4 : Hp → Nat → Int32 → Int32 → Int32 → Option (Int32)) (h : Hp) (l0 : Nat) (l1 : Int32) (l2 : Int32) (l3 : Int32) : Option (Int32) :=
  nmd (l3 + (1 : Int32)) fun x1 =>
  c4 h l0 l1 l2 x1
def lp_Cn_withinOneLeg_4 (tb : Tb) : Nat → Hp → Nat → Int32 → Int32 → Int32 → Option (Int32)
  | 0, _, _, _, _, _ => none
  | n + 1, h, l0, l1, l2, l3 =>
    if (h.1 (lay tb l0 0) 3) ≤ l3 then (
      some l2
    ) else (
      (rI tb h (lay tb (lay tb l0 1) 10) l1).bind fun x1 =>
      (rI tb h (lay tb (lay tb l0 1) 9) l1).bind fun x2 =>
      (f_Cn_thirstBehind tb h l0 l1 x1 x2 l3).bind fun r3 =>
      if (100 : Int32) ≤ r3 then (
        jb_Cn_withinOneLeg_50 tb (lp_Cn_withinOneLeg_4 tb n) h l0 l1 l2 l3
      ) else (
        nmd (l2 ||| ((1 : Int32) <<< (l3 &&& 31))) fun x4 =>
        jb_Cn_withinOneLeg_50 tb (lp_Cn_withinOneLeg_4 tb n) h l0 l1 x4 l3
      )
    )
def f_Cn_withinOneLeg (tb : Tb) (h : Hp) (l0 : Nat) (l1 : Int32) : Option (Int32) :=
  lp_Cn_withinOneLeg_4 tb fu h l0 l1 (0 : Int32) (0 : Int32)
set_option maxRecDepth 4000 in
set_option maxHeartbeats 1000000 in
theorem vjb_Cn_withinOneLeg_50 {E : En} {g : Gl} {tb : Tb} {ρ : Nat → Nat} (ok : TbOK tb) (hi : inj tb ρ) {r : Int32} (X : CX E g tb ρ prog_2_method_3_code 4 RC1 3 60) {h : Hp} (Y : CQ E g tb ρ (some .int) (some (.int r)) h) {c4 : Hp → Nat → Int32 → Int32 → Int32 → Option (Int32)} (H4 : ∀ (l0 : Nat) (l1 : Int32) (l2 : Int32) (l3 : Int32) (kl0 : kd tb l0 = 1), c4 h l0 l1 l2 l3 = some r → V E g tb ρ 4 4 [(0, .ref (ρ l0)), (1, .int l1), (2, .int l2), (3, .int l3)] [] h) (l0 : Nat) (l1 : Int32) (l2 : Int32) (l3 : Int32) (kl0 : kd tb l0 = 1) (hf : jb_Cn_withinOneLeg_50 tb c4 h l0 l1 l2 l3 = some r) : V E g tb ρ 4 50 [(0, .ref (ρ l0)), (1, .int l1), (2, .int l2), (3, .int l3)] [] h := by
  unfold jb_Cn_withinOneLeg_50 at hf
  obtain ⟨x1, ex1, hf⟩ := nmd_e hf
  refine v_iinc (pc := 50) (k := 3) (n := 1) (v := x1) (lv' := [(3, .int x1), (0, .ref (ρ l0)), (1, .int l1), (2, .int l2)]) X (by decide +kernel) 3 rfl (by rw [ic_1, ex1]) (Nat.le_of_ble_eq_true rfl) rfl ?_
  refine v_goto (pc := 53) (off := -49) (tgt := 4) X (by decide +kernel) (by decide) ?_
  refine v_sub [1, 2, 3, 0] rfl ?_
  exact H4 l0 l1 l2 x1 kl0 hf
set_option maxRecDepth 4000 in
set_option maxHeartbeats 1000000 in
theorem vlp_Cn_withinOneLeg_4 {E : En} {g : Gl} {tb : Tb} {ρ : Nat → Nat} (ok : TbOK tb) (hi : inj tb ρ) {r : Int32} (X : CX E g tb ρ prog_2_method_3_code 4 RC1 3 60) {h : Hp} (Y : CQ E g tb ρ (some .int) (some (.int r)) h) : ∀ (n : Nat) (l0 : Nat) (l1 : Int32) (l2 : Int32) (l3 : Int32) (kl0 : kd tb l0 = 1), lp_Cn_withinOneLeg_4 tb n h l0 l1 l2 l3 = some r → V E g tb ρ 4 4 [(0, .ref (ρ l0)), (1, .int l1), (2, .int l2), (3, .int l3)] [] h := by
  intro n
  induction n with
  | zero =>
    intro l0 l1 l2 l3 kl0 hf
    rw [lp_Cn_withinOneLeg_4] at hf
    cases hf
  | succ n ih =>
    intro l0 l1 l2 l3 kl0 hf
    rw [lp_Cn_withinOneLeg_4] at hf
    refine v_iload_n (pc := 4) (k := 3) X (by decide +kernel) 3 rfl ?_
    refine v_aload_n (pc := 5) (k := 0) X (by decide +kernel) 0 rfl ?_
    refine v_geta (pc := 6) X fl_1_18 kl0 fk_1_0 (by decide +kernel) ?_
    refine v_geti (pc := 9) X fl_1_41 (ly_1_0 ok kl0) rfl (by decide +kernel) ?_
    refine v_icmp_ge (pc := 12) (off := 44) (tgt := 56) X (by decide +kernel) (by decide) (fun q6 => ?_) (fun q6 => ?_)
    · rw [if_pos q6] at hf
      refine v_iload_n (pc := 56) (k := 2) X (by decide +kernel) 2 rfl ?_
      cases hf
      exact v_iret X Y (by decide +kernel) rfl rfl
    · rw [if_neg q6] at hf
      refine v_aload_n (pc := 15) (k := 0) X (by decide +kernel) 0 rfl ?_
      refine v_iload_n (pc := 16) (k := 1) X (by decide +kernel) 1 rfl ?_
      refine v_aload_n (pc := 17) (k := 0) X (by decide +kernel) 0 rfl ?_
      refine v_geta (pc := 18) X fl_1_22 kl0 fk_1_1 (by decide +kernel) ?_
      refine v_geta (pc := 21) X fl_1_45 (ly_1_1 ok kl0) fk_11_10 (by decide +kernel) ?_
      refine v_iload_n (pc := 24) (k := 1) X (by decide +kernel) 1 rfl ?_
      obtain ⟨x1, ex1, hf⟩ := bnd_e hf
      refine v_iald (pc := 25) X (ly_11_10 ok (ly_1_1 ok kl0)) ex1 (by decide +kernel) ?_
      refine v_aload_n (pc := 26) (k := 0) X (by decide +kernel) 0 rfl ?_
      refine v_geta (pc := 27) X fl_1_22 kl0 fk_1_1 (by decide +kernel) ?_
      refine v_geta (pc := 30) X fl_1_50 (ly_1_1 ok kl0) fk_11_9 (by decide +kernel) ?_
      refine v_iload_n (pc := 33) (k := 1) X (by decide +kernel) 1 rfl ?_
      obtain ⟨x2, ex2, hf⟩ := bnd_e hf
      refine v_iald (pc := 34) X (ly_11_9 ok (ly_1_1 ok kl0)) ex2 (by decide +kernel) ?_
      refine v_iload_n (pc := 35) (k := 3) X (by decide +kernel) 3 rfl ?_
      obtain ⟨r3, er3, hf⟩ := bnd_e hf
      refine v_callV (pc := 36) (As := [.int l1, .int x1, .int x2, .int l3]) (rest := []) X (mt_Cn_thirstBehind ok hi kl0 er3) ml_1_53 mv_Cn_thirstBehind kl0 cls_1 rfl ⟨Nat.le_of_ble_eq_true rfl, Nat.le_of_ble_eq_true rfl⟩ rfl rfl (Nat.le_of_ble_eq_true rfl) (by decide +kernel) ?_
      change V E g tb ρ 4 39 [(0, .ref (ρ l0)), (1, .int l1), (2, .int l2), (3, .int l3)] [.int r3] h
      refine v_bipush (pc := 39) (n := 100) X (by decide +kernel) bi_100 ?_
      refine v_icmp_ge (pc := 41) (off := 9) (tgt := 50) X (by decide +kernel) (by decide) (fun q5 => ?_) (fun q5 => ?_)
      · rw [if_pos q5] at hf
        exact vjb_Cn_withinOneLeg_50 ok hi X Y ih l0 l1 l2 l3 kl0 hf
      · rw [if_neg q5] at hf
        refine v_iload_n (pc := 44) (k := 2) X (by decide +kernel) 2 rfl ?_
        refine v_iconst (pc := 45) (n := 1) X (by decide +kernel) ic_1 ?_
        refine v_iload_n (pc := 46) (k := 3) X (by decide +kernel) 3 rfl ?_
        refine v_ishl (pc := 47) X (by decide +kernel) ?_
        refine v_ior (pc := 48) X (by decide +kernel) ?_
        obtain ⟨x4, ex4, hf⟩ := nmd_e hf
        refine v_nmi ex4 ?_
        refine v_istore_n (pc := 49) (k := 2) (lv' := [(2, .int x4), (0, .ref (ρ l0)), (1, .int l1), (3, .int l3)]) X (by decide +kernel) (Nat.le_of_ble_eq_true rfl) rfl ?_
        refine v_sub [1, 2, 0, 3] rfl ?_
        exact vjb_Cn_withinOneLeg_50 ok hi X Y ih l0 l1 x4 l3 kl0 hf
set_option maxRecDepth 4000 in
set_option maxHeartbeats 1000000 in
theorem mt_Cn_withinOneLeg {g : Gl} {tb : Tb} {ρ : Nat → Nat} (ok : TbOK tb) (hi : inj tb ρ) {h : Hp} {l0 : Nat} {l1 : Int32} (kl0 : kd tb l0 = 1) {r : Int32} (hf : f_Cn_withinOneLeg tb h l0 l1 = some r) : MT g y_Cn_withinOneLeg prog_2_method_3_code 4 (some .int) 3 60 tb ρ [.ref (ρ l0), .int l1] h (some (.int r)) h := by
  refine mt_intro (by decide +kernel) ok hi (Nat.le_of_ble_eq_true rfl) (fun E X Y => ?_)
  change V E g tb ρ 4 0 [(0, .ref (ρ l0)), (1, .int l1)] [] h
  unfold f_Cn_withinOneLeg at hf
  refine v_iconst (pc := 0) (n := 0) X (by decide +kernel) ic_0 ?_
  refine v_istore_n (pc := 1) (k := 2) (lv' := [(2, .int (0 : Int32)), (0, .ref (ρ l0)), (1, .int l1)]) X (by decide +kernel) (Nat.le_of_ble_eq_true rfl) rfl ?_
  refine v_iconst (pc := 2) (n := 0) X (by decide +kernel) ic_0 ?_
  refine v_istore_n (pc := 3) (k := 3) (lv' := [(3, .int (0 : Int32)), (2, .int (0 : Int32)), (0, .ref (ρ l0)), (1, .int l1)]) X (by decide +kernel) (Nat.le_of_ble_eq_true rfl) rfl ?_
  refine v_sub [2, 3, 1, 0] rfl ?_
  exact vlp_Cn_withinOneLeg_4 ok hi X Y fu l0 l1 (0 : Int32) (0 : Int32) kl0 hf
def f_Tt_reach (tb : Tb) (h : Hp) (l0 : Nat) (l1 : Int32) : Option (Int32) :=
  nmd (f_Pl_hasHorse tb h (lay tb l0 3) l1) fun r1 =>
  if r1 = (0 : Int32) then (
    some (-1 : Int32)
  ) else (
    nmd (f_Wo_isOn tb h (lay tb l0 4) l1) fun r2 =>
    if r2 = (0 : Int32) then (
      some (0 : Int32)
    ) else (
      (f_Cn_withinOneLeg tb h (lay tb l0 11) l1).bind fun r3 =>
      some r3
    )
  )
set_option maxRecDepth 4000 in
set_option maxHeartbeats 1000000 in
theorem mt_Tt_reach {g : Gl} {tb : Tb} {ρ : Nat → Nat} (ok : TbOK tb) (hi : inj tb ρ) {h : Hp} {l0 : Nat} {l1 : Int32} (kl0 : kd tb l0 = 0) {r : Int32} (hf : f_Tt_reach tb h l0 l1 = some r) : MT g y_Tt_reach prog_1_method_22_code 2 (some .int) 4 83 tb ρ [.ref (ρ l0), .int l1] h (some (.int r)) h := by
  refine mt_intro (by decide +kernel) ok hi (Nat.le_of_ble_eq_true rfl) (fun E X Y => ?_)
  change V E g tb ρ 2 0 [(0, .ref (ρ l0)), (1, .int l1)] [] h
  unfold f_Tt_reach at hf
  refine v_aload_n (pc := 0) (k := 0) X (by decide +kernel) 0 rfl ?_
  refine v_geta (pc := 1) X fl_0_31 kl0 fk_0_3 (by decide +kernel) ?_
  refine v_iload_n (pc := 4) (k := 1) X (by decide +kernel) 1 rfl ?_
  obtain ⟨r1, er1, hf⟩ := nmd_e hf
  refine v_callV (pc := 5) (As := [.int l1]) (rest := []) X (mt_Pl_hasHorse ok hi (ly_0_3 ok kl0) er1.symm) ml_0_132 mv_Pl_hasHorse (ly_0_3 ok kl0) cls_7 rfl ⟨Nat.le_of_ble_eq_true rfl, Nat.le_of_ble_eq_true rfl⟩ rfl rfl (Nat.le_of_ble_eq_true rfl) (by decide +kernel) ?_
  change V E g tb ρ 2 8 [(0, .ref (ρ l0)), (1, .int l1)] [.int r1] h
  refine v_if_ne (pc := 8) (off := 5) (tgt := 13) X (by decide +kernel) (by decide) (fun q5 => ?_) (fun q5 => ?_)
  · rw [if_neg q5] at hf
    refine v_aload_n (pc := 13) (k := 0) X (by decide +kernel) 0 rfl ?_
    refine v_geta (pc := 14) X fl_0_38 kl0 fk_0_4 (by decide +kernel) ?_
    refine v_iload_n (pc := 17) (k := 1) X (by decide +kernel) 1 rfl ?_
    obtain ⟨r2, er2, hf⟩ := nmd_e hf
    refine v_callV (pc := 18) (As := [.int l1]) (rest := []) X (mt_Wo_isOn ok hi (ly_0_4 ok kl0) er2.symm) ml_0_156 mv_Wo_isOn (ly_0_4 ok kl0) cls_11 rfl ⟨Nat.le_of_ble_eq_true rfl, Nat.le_of_ble_eq_true rfl⟩ rfl rfl (Nat.le_of_ble_eq_true rfl) (by decide +kernel) ?_
    change V E g tb ρ 2 21 [(0, .ref (ρ l0)), (1, .int l1)] [.int r2] h
    refine v_if_eq (pc := 21) (off := 14) (tgt := 35) X (by decide +kernel) (by decide) (fun q4 => ?_) (fun q4 => ?_)
    · rw [if_pos q4] at hf
      refine v_iconst (pc := 35) (n := 0) X (by decide +kernel) ic_0 ?_
      cases hf
      exact v_iret X Y (by decide +kernel) rfl rfl
    · rw [if_neg q4] at hf
      refine v_aload_n (pc := 24) (k := 0) X (by decide +kernel) 0 rfl ?_
      refine v_geta (pc := 25) X fl_0_86 kl0 fk_0_11 (by decide +kernel) ?_
      refine v_iload_n (pc := 28) (k := 1) X (by decide +kernel) 1 rfl ?_
      obtain ⟨r3, er3, hf⟩ := bnd_e hf
      refine v_callV (pc := 29) (As := [.int l1]) (rest := []) X (mt_Cn_withinOneLeg ok hi (ly_0_11 ok kl0) er3) ml_0_257 mv_Cn_withinOneLeg (ly_0_11 ok kl0) cls_1 rfl ⟨Nat.le_of_ble_eq_true rfl, Nat.le_of_ble_eq_true rfl⟩ rfl rfl (Nat.le_of_ble_eq_true rfl) (by decide +kernel) ?_
      change V E g tb ρ 2 32 [(0, .ref (ρ l0)), (1, .int l1)] [.int r3] h
      refine v_goto (pc := 32) (off := 4) (tgt := 36) X (by decide +kernel) (by decide) ?_
      cases hf
      exact v_iret X Y (by decide +kernel) rfl rfl
  · rw [if_pos q5] at hf
    refine v_iconst (pc := 11) (n := -1) X (by decide +kernel) ic_m1 ?_
    cases hf
    exact v_iret X Y (by decide +kernel) rfl rfl
def jb_Cn_covers_68 (tb : Tb) (c5 : Hp → Nat → Int32 → Int32 → Int32 → Int32 → Option (Int32)) (h : Hp) (l0 : Nat) (l1 : Int32) (l2 : Int32) (l3 : Int32) (l4 : Int32) : Option (Int32) :=
  nmd (l4 + (1 : Int32)) fun x1 =>
  c5 h l0 l1 l2 l3 x1
def jb_Cn_covers_55 (tb : Tb) (c5 : Hp → Nat → Int32 → Int32 → Int32 → Int32 → Option (Int32)) (h : Hp) (l0 : Nat) (l1 : Int32) (l2 : Int32) (l3 : Int32) (l4 : Int32) : Option (Int32) :=
  if (l4 - l3) ≤ l2 then (
    jb_Cn_covers_68 tb c5 h l0 l1 l2 l4 l4
  ) else (
    some (0 : Int32)
  )
def lp_Cn_covers_5 (tb : Tb) : Nat → Hp → Nat → Int32 → Int32 → Int32 → Int32 → Option (Int32)
  | 0, _, _, _, _, _, _ => none
  | n + 1, h, l0, l1, l2, l3, l4 =>
    if (h.1 (lay tb l0 0) 0) < l4 then (
      some (1 : Int32)
    ) else (
      (f_Pl_troughThere tb h (lay tb l0 0) l4).bind fun r1 =>
      if l4 = (h.1 (lay tb l0 0) 0) then (
        jb_Cn_covers_55 tb (lp_Cn_covers_5 tb n) h l0 l1 l2 l3 l4
      ) else (
        if r1 = (-1 : Int32) then (
          jb_Cn_covers_68 tb (lp_Cn_covers_5 tb n) h l0 l1 l2 l3 l4
        ) else (
          if (l1 &&& ((1 : Int32) <<< (r1 &&& 31))) = (0 : Int32) then (
            jb_Cn_covers_68 tb (lp_Cn_covers_5 tb n) h l0 l1 l2 l3 l4
          ) else (
            jb_Cn_covers_55 tb (lp_Cn_covers_5 tb n) h l0 l1 l2 l3 l4
          )
        )
      )
    )
def f_Cn_covers (tb : Tb) (h : Hp) (l0 : Nat) (l1 : Int32) (l2 : Int32) : Option (Int32) :=
  lp_Cn_covers_5 tb fu h l0 l1 l2 (0 : Int32) (0 : Int32)
set_option maxRecDepth 4000 in
set_option maxHeartbeats 1000000 in
theorem vjb_Cn_covers_68 {E : En} {g : Gl} {tb : Tb} {ρ : Nat → Nat} (ok : TbOK tb) (hi : inj tb ρ) {r : Int32} (X : CX E g tb ρ prog_2_method_6_code 6 RC1 1 21) {h : Hp} (Y : CQ E g tb ρ (some .boolean) (some (.int r)) h) {c5 : Hp → Nat → Int32 → Int32 → Int32 → Int32 → Option (Int32)} (H5 : ∀ (l0 : Nat) (l1 : Int32) (l2 : Int32) (l3 : Int32) (l4 : Int32) (kl0 : kd tb l0 = 1), c5 h l0 l1 l2 l3 l4 = some r → V E g tb ρ 6 5 [(0, .ref (ρ l0)), (1, .int l1), (2, .int l2), (3, .int l3), (4, .int l4)] [] h) (l0 : Nat) (l1 : Int32) (l2 : Int32) (l3 : Int32) (l4 : Int32) (kl0 : kd tb l0 = 1) (hf : jb_Cn_covers_68 tb c5 h l0 l1 l2 l3 l4 = some r) : V E g tb ρ 6 68 [(0, .ref (ρ l0)), (1, .int l1), (2, .int l2), (3, .int l3), (4, .int l4)] [] h := by
  unfold jb_Cn_covers_68 at hf
  obtain ⟨x1, ex1, hf⟩ := nmd_e hf
  refine v_iinc (pc := 68) (k := 4) (n := 1) (v := x1) (lv' := [(4, .int x1), (0, .ref (ρ l0)), (1, .int l1), (2, .int l2), (3, .int l3)]) X (by decide +kernel) 4 rfl (by rw [ic_1, ex1]) (Nat.le_of_ble_eq_true rfl) rfl ?_
  refine v_goto (pc := 71) (off := -66) (tgt := 5) X (by decide +kernel) (by decide) ?_
  refine v_sub [1, 2, 3, 4, 0] rfl ?_
  exact H5 l0 l1 l2 l3 x1 kl0 hf
set_option maxRecDepth 4000 in
set_option maxHeartbeats 1000000 in
theorem vjb_Cn_covers_55 {E : En} {g : Gl} {tb : Tb} {ρ : Nat → Nat} (ok : TbOK tb) (hi : inj tb ρ) {r : Int32} (X : CX E g tb ρ prog_2_method_6_code 6 RC1 1 21) {h : Hp} (Y : CQ E g tb ρ (some .boolean) (some (.int r)) h) {c5 : Hp → Nat → Int32 → Int32 → Int32 → Int32 → Option (Int32)} (H5 : ∀ (l0 : Nat) (l1 : Int32) (l2 : Int32) (l3 : Int32) (l4 : Int32) (kl0 : kd tb l0 = 1), c5 h l0 l1 l2 l3 l4 = some r → V E g tb ρ 6 5 [(0, .ref (ρ l0)), (1, .int l1), (2, .int l2), (3, .int l3), (4, .int l4)] [] h) (l0 : Nat) (l1 : Int32) (l2 : Int32) (l3 : Int32) (l4 : Int32) (kl0 : kd tb l0 = 1) (hf : jb_Cn_covers_55 tb c5 h l0 l1 l2 l3 l4 = some r) : V E g tb ρ 6 55 [(0, .ref (ρ l0)), (1, .int l1), (2, .int l2), (3, .int l3), (4, .int l4)] [] h := by
  unfold jb_Cn_covers_55 at hf
  refine v_iload (pc := 55) (k := 4) X (by decide +kernel) 4 rfl ?_
  refine v_iload_n (pc := 57) (k := 3) X (by decide +kernel) 3 rfl ?_
  refine v_isub (pc := 58) X (by decide +kernel) ?_
  refine v_iload_n (pc := 59) (k := 2) X (by decide +kernel) 2 rfl ?_
  refine v_icmp_le (pc := 60) (off := 5) (tgt := 65) X (by decide +kernel) (by decide) (fun q1 => ?_) (fun q1 => ?_)
  · rw [if_pos q1] at hf
    refine v_iload (pc := 65) (k := 4) X (by decide +kernel) 4 rfl ?_
    refine v_istore_n (pc := 67) (k := 3) (lv' := [(3, .int l4), (0, .ref (ρ l0)), (1, .int l1), (2, .int l2), (4, .int l4)]) X (by decide +kernel) (Nat.le_of_ble_eq_true rfl) rfl ?_
    refine v_sub [1, 2, 3, 0, 4] rfl ?_
    exact vjb_Cn_covers_68 ok hi X Y H5 l0 l1 l2 l4 l4 kl0 hf
  · rw [if_neg q1] at hf
    refine v_iconst (pc := 63) (n := 0) X (by decide +kernel) ic_0 ?_
    cases hf
    exact v_zret (hz := rfl) X Y (by decide +kernel) rfl rfl
set_option maxRecDepth 4000 in
set_option maxHeartbeats 1000000 in
theorem vlp_Cn_covers_5 {E : En} {g : Gl} {tb : Tb} {ρ : Nat → Nat} (ok : TbOK tb) (hi : inj tb ρ) {r : Int32} (X : CX E g tb ρ prog_2_method_6_code 6 RC1 1 21) {h : Hp} (Y : CQ E g tb ρ (some .boolean) (some (.int r)) h) : ∀ (n : Nat) (l0 : Nat) (l1 : Int32) (l2 : Int32) (l3 : Int32) (l4 : Int32) (kl0 : kd tb l0 = 1), lp_Cn_covers_5 tb n h l0 l1 l2 l3 l4 = some r → V E g tb ρ 6 5 [(0, .ref (ρ l0)), (1, .int l1), (2, .int l2), (3, .int l3), (4, .int l4)] [] h := by
  intro n
  induction n with
  | zero =>
    intro l0 l1 l2 l3 l4 kl0 hf
    rw [lp_Cn_covers_5] at hf
    cases hf
  | succ n ih =>
    intro l0 l1 l2 l3 l4 kl0 hf
    rw [lp_Cn_covers_5] at hf
    refine v_iload (pc := 5) (k := 4) X (by decide +kernel) 4 rfl ?_
    refine v_aload_n (pc := 7) (k := 0) X (by decide +kernel) 0 rfl ?_
    refine v_geta (pc := 8) X fl_1_18 kl0 fk_1_0 (by decide +kernel) ?_
    refine v_geti (pc := 11) X fl_1_77 (ly_1_0 ok kl0) rfl (by decide +kernel) ?_
    refine v_icmp_gt (pc := 14) (off := 60) (tgt := 74) X (by decide +kernel) (by decide) (fun q5 => ?_) (fun q5 => ?_)
    · rw [if_pos q5] at hf
      refine v_iconst (pc := 74) (n := 1) X (by decide +kernel) ic_1 ?_
      cases hf
      exact v_zret (hz := rfl) X Y (by decide +kernel) rfl rfl
    · rw [if_neg q5] at hf
      refine v_aload_n (pc := 17) (k := 0) X (by decide +kernel) 0 rfl ?_
      refine v_geta (pc := 18) X fl_1_18 kl0 fk_1_0 (by decide +kernel) ?_
      refine v_iload (pc := 21) (k := 4) X (by decide +kernel) 4 rfl ?_
      obtain ⟨r1, er1, hf⟩ := bnd_e hf
      refine v_callV (pc := 23) (As := [.int l4]) (rest := []) X (mt_Pl_troughThere ok hi (ly_1_0 ok kl0) er1) ml_1_80 mv_Pl_troughThere (ly_1_0 ok kl0) cls_7 rfl ⟨Nat.le_of_ble_eq_true rfl, Nat.le_of_ble_eq_true rfl⟩ rfl rfl (Nat.le_of_ble_eq_true rfl) (by decide +kernel) ?_
      change V E g tb ρ 6 26 [(0, .ref (ρ l0)), (1, .int l1), (2, .int l2), (3, .int l3), (4, .int l4)] [.int r1] h
      refine v_istore (pc := 26) (k := 5) (lv' := [(5, .int r1), (0, .ref (ρ l0)), (1, .int l1), (2, .int l2), (3, .int l3), (4, .int l4)]) X (by decide +kernel) (Nat.le_of_ble_eq_true rfl) rfl ?_
      refine v_iload (pc := 28) (k := 4) X (by decide +kernel) 5 rfl ?_
      refine v_aload_n (pc := 30) (k := 0) X (by decide +kernel) 1 rfl ?_
      refine v_geta (pc := 31) X fl_1_18 kl0 fk_1_0 (by decide +kernel) ?_
      refine v_geti (pc := 34) X fl_1_77 (ly_1_0 ok kl0) rfl (by decide +kernel) ?_
      refine v_icmp_eq (pc := 37) (off := 18) (tgt := 55) X (by decide +kernel) (by decide) (fun q4 => ?_) (fun q4 => ?_)
      · rw [if_pos q4] at hf
        refine v_sub [1, 2, 3, 4, 5] rfl ?_
        exact vjb_Cn_covers_55 ok hi X Y ih l0 l1 l2 l3 l4 kl0 hf
      · rw [if_neg q4] at hf
        refine v_iload (pc := 40) (k := 5) X (by decide +kernel) 0 rfl ?_
        refine v_iconst (pc := 42) (n := -1) X (by decide +kernel) ic_m1 ?_
        refine v_icmp_eq (pc := 43) (off := 25) (tgt := 68) X (by decide +kernel) (by decide) (fun q3 => ?_) (fun q3 => ?_)
        · rw [if_pos q3] at hf
          refine v_sub [1, 2, 3, 4, 5] rfl ?_
          exact vjb_Cn_covers_68 ok hi X Y ih l0 l1 l2 l3 l4 kl0 hf
        · rw [if_neg q3] at hf
          refine v_iload_n (pc := 46) (k := 1) X (by decide +kernel) 2 rfl ?_
          refine v_iconst (pc := 47) (n := 1) X (by decide +kernel) ic_1 ?_
          refine v_iload (pc := 48) (k := 5) X (by decide +kernel) 0 rfl ?_
          refine v_ishl (pc := 50) X (by decide +kernel) ?_
          refine v_iand (pc := 51) X (by decide +kernel) ?_
          refine v_if_eq (pc := 52) (off := 16) (tgt := 68) X (by decide +kernel) (by decide) (fun q2 => ?_) (fun q2 => ?_)
          · rw [if_pos q2] at hf
            refine v_sub [1, 2, 3, 4, 5] rfl ?_
            exact vjb_Cn_covers_68 ok hi X Y ih l0 l1 l2 l3 l4 kl0 hf
          · rw [if_neg q2] at hf
            refine v_sub [1, 2, 3, 4, 5] rfl ?_
            exact vjb_Cn_covers_55 ok hi X Y ih l0 l1 l2 l3 l4 kl0 hf
set_option maxRecDepth 4000 in
set_option maxHeartbeats 1000000 in
theorem mt_Cn_covers {g : Gl} {tb : Tb} {ρ : Nat → Nat} (ok : TbOK tb) (hi : inj tb ρ) {h : Hp} {l0 : Nat} {l1 : Int32} {l2 : Int32} (kl0 : kd tb l0 = 1) {r : Int32} (hf : f_Cn_covers tb h l0 l1 l2 = some r) : MT g y_Cn_covers prog_2_method_6_code 6 (some .boolean) 1 21 tb ρ [.ref (ρ l0), .int l1, .int l2] h (some (.int r)) h := by
  refine mt_intro (by decide +kernel) ok hi (Nat.le_of_ble_eq_true rfl) (fun E X Y => ?_)
  change V E g tb ρ 6 0 [(0, .ref (ρ l0)), (1, .int l1), (2, .int l2)] [] h
  unfold f_Cn_covers at hf
  refine v_iconst (pc := 0) (n := 0) X (by decide +kernel) ic_0 ?_
  refine v_istore_n (pc := 1) (k := 3) (lv' := [(3, .int (0 : Int32)), (0, .ref (ρ l0)), (1, .int l1), (2, .int l2)]) X (by decide +kernel) (Nat.le_of_ble_eq_true rfl) rfl ?_
  refine v_iconst (pc := 2) (n := 0) X (by decide +kernel) ic_0 ?_
  refine v_istore (pc := 3) (k := 4) (lv' := [(4, .int (0 : Int32)), (3, .int (0 : Int32)), (0, .ref (ρ l0)), (1, .int l1), (2, .int l2)]) X (by decide +kernel) (Nat.le_of_ble_eq_true rfl) rfl ?_
  refine v_sub [2, 3, 4, 1, 0] rfl ?_
  exact vlp_Cn_covers_5 ok hi X Y fu l0 l1 l2 (0 : Int32) (0 : Int32) kl0 hf
def jb_Tt_cover_63 (tb : Tb) (c15 : Hp → Nat → Int32 → Int32 → Option (Int32)) (c28 : Hp → Nat → Int32 → Int32 → Int32 → Option (Int32)) (h : Hp) (l0 : Nat) (l1 : Int32) (l2 : Int32) (l3 : Int32) : Option (Int32) :=
  nmd (l3 + (1 : Int32)) fun x1 =>
  c28 h l0 l1 l2 x1
def lp_Tt_cover_28 (tb : Tb) (c15 : Hp → Nat → Int32 → Int32 → Option (Int32)) : Nat → Hp → Nat → Int32 → Int32 → Int32 → Option (Int32)
  | 0, _, _, _, _, _ => none
  | n + 1, h, l0, l1, l2, l3 =>
    if ((1 : Int32) <<< ((h.1 (lay tb l0 3) 3) &&& 31)) ≤ l3 then (
      nmd (l2 + (1 : Int32)) fun x1 =>
      c15 h l0 l1 x1
    ) else (
      nmd (f_In_bitCount tb h l3) fun r2 =>
      if r2 = l2 then (
        (f_Cn_covers tb h (lay tb l0 11) l3 l1).bind fun r3 =>
        if r3 = (0 : Int32) then (
          jb_Tt_cover_63 tb c15 (lp_Tt_cover_28 tb c15 n) h l0 l1 l2 l3
        ) else (
          some l3
        )
      ) else (
        jb_Tt_cover_63 tb c15 (lp_Tt_cover_28 tb c15 n) h l0 l1 l2 l3
      )
    )
def lp_Tt_cover_15 (tb : Tb) : Nat → Hp → Nat → Int32 → Int32 → Option (Int32)
  | 0, _, _, _, _ => none
  | n + 1, h, l0, l1, l2 =>
    if (h.1 (lay tb l0 3) 3) < l2 then (
      some (-2 : Int32)
    ) else (
      lp_Tt_cover_28 tb (lp_Tt_cover_15 tb n) fu h l0 l1 l2 (0 : Int32)
    )
def f_Tt_cover (tb : Tb) (h : Hp) (l0 : Nat) (l1 : Int32) : Option (Int32) :=
  if l1 < (1 : Int32) then (
    some (-1 : Int32)
  ) else (
    if l1 ≤ (60 : Int32) then (
      lp_Tt_cover_15 tb fu h l0 l1 (0 : Int32)
    ) else (
      some (-1 : Int32)
    )
  )
set_option maxRecDepth 4000 in
set_option maxHeartbeats 1000000 in
theorem vjb_Tt_cover_63 {E : En} {g : Gl} {tb : Tb} {ρ : Nat → Nat} (ok : TbOK tb) (hi : inj tb ρ) {r : Int32} (X : CX E g tb ρ prog_1_method_23_code 4 RC0 2 46) {h : Hp} (Y : CQ E g tb ρ (some .int) (some (.int r)) h) {c15 : Hp → Nat → Int32 → Int32 → Option (Int32)} (H15 : ∀ (l0 : Nat) (l1 : Int32) (l2 : Int32) (kl0 : kd tb l0 = 0), c15 h l0 l1 l2 = some r → V E g tb ρ 4 15 [(0, .ref (ρ l0)), (1, .int l1), (2, .int l2)] [] h) {c28 : Hp → Nat → Int32 → Int32 → Int32 → Option (Int32)} (H28 : ∀ (l0 : Nat) (l1 : Int32) (l2 : Int32) (l3 : Int32) (kl0 : kd tb l0 = 0), c28 h l0 l1 l2 l3 = some r → V E g tb ρ 4 28 [(0, .ref (ρ l0)), (1, .int l1), (2, .int l2), (3, .int l3)] [] h) (l0 : Nat) (l1 : Int32) (l2 : Int32) (l3 : Int32) (kl0 : kd tb l0 = 0) (hf : jb_Tt_cover_63 tb c15 c28 h l0 l1 l2 l3 = some r) : V E g tb ρ 4 63 [(0, .ref (ρ l0)), (1, .int l1), (2, .int l2), (3, .int l3)] [] h := by
  unfold jb_Tt_cover_63 at hf
  obtain ⟨x1, ex1, hf⟩ := nmd_e hf
  refine v_iinc (pc := 63) (k := 3) (n := 1) (v := x1) (lv' := [(3, .int x1), (0, .ref (ρ l0)), (1, .int l1), (2, .int l2)]) X (by decide +kernel) 3 rfl (by rw [ic_1, ex1]) (Nat.le_of_ble_eq_true rfl) rfl ?_
  refine v_goto (pc := 66) (off := -38) (tgt := 28) X (by decide +kernel) (by decide) ?_
  refine v_sub [1, 2, 3, 0] rfl ?_
  exact H28 l0 l1 l2 x1 kl0 hf
set_option maxRecDepth 4000 in
set_option maxHeartbeats 1000000 in
theorem vlp_Tt_cover_28 {E : En} {g : Gl} {tb : Tb} {ρ : Nat → Nat} (ok : TbOK tb) (hi : inj tb ρ) {r : Int32} (X : CX E g tb ρ prog_1_method_23_code 4 RC0 2 46) {h : Hp} (Y : CQ E g tb ρ (some .int) (some (.int r)) h) {c15 : Hp → Nat → Int32 → Int32 → Option (Int32)} (H15 : ∀ (l0 : Nat) (l1 : Int32) (l2 : Int32) (kl0 : kd tb l0 = 0), c15 h l0 l1 l2 = some r → V E g tb ρ 4 15 [(0, .ref (ρ l0)), (1, .int l1), (2, .int l2)] [] h) : ∀ (n : Nat) (l0 : Nat) (l1 : Int32) (l2 : Int32) (l3 : Int32) (kl0 : kd tb l0 = 0), lp_Tt_cover_28 tb c15 n h l0 l1 l2 l3 = some r → V E g tb ρ 4 28 [(0, .ref (ρ l0)), (1, .int l1), (2, .int l2), (3, .int l3)] [] h := by
  intro n
  induction n with
  | zero =>
    intro l0 l1 l2 l3 kl0 hf
    rw [lp_Tt_cover_28] at hf
    cases hf
  | succ n ih =>
    intro l0 l1 l2 l3 kl0 hf
    rw [lp_Tt_cover_28] at hf
    refine v_iload_n (pc := 28) (k := 3) X (by decide +kernel) 3 rfl ?_
    refine v_iconst (pc := 29) (n := 1) X (by decide +kernel) ic_1 ?_
    refine v_aload_n (pc := 30) (k := 0) X (by decide +kernel) 0 rfl ?_
    refine v_geta (pc := 31) X fl_0_31 kl0 fk_0_3 (by decide +kernel) ?_
    refine v_geti (pc := 34) X fl_0_119 (ly_0_3 ok kl0) rfl (by decide +kernel) ?_
    refine v_ishl (pc := 37) X (by decide +kernel) ?_
    refine v_icmp_ge (pc := 38) (off := 31) (tgt := 69) X (by decide +kernel) (by decide) (fun q6 => ?_) (fun q6 => ?_)
    · rw [if_pos q6] at hf
      obtain ⟨x1, ex1, hf⟩ := nmd_e hf
      refine v_iinc (pc := 69) (k := 2) (n := 1) (v := x1) (lv' := [(2, .int x1), (0, .ref (ρ l0)), (1, .int l1), (3, .int l3)]) X (by decide +kernel) 2 rfl (by rw [ic_1, ex1]) (Nat.le_of_ble_eq_true rfl) rfl ?_
      refine v_goto (pc := 72) (off := -57) (tgt := 15) X (by decide +kernel) (by decide) ?_
      refine v_sub [1, 2, 0] rfl ?_
      exact H15 l0 l1 x1 kl0 hf
    · rw [if_neg q6] at hf
      refine v_iload_n (pc := 41) (k := 3) X (by decide +kernel) 3 rfl ?_
      obtain ⟨r2, er2, hf⟩ := nmd_e hf
      refine v_callS (pc := 42) (As := [.int l3]) (rest := []) X (mt_In_bitCount ok hi er2.symm) ml_0_231 ms_In_bitCount ⟨Nat.le_of_ble_eq_true rfl, Nat.le_of_ble_eq_true rfl⟩ rfl rfl (Nat.le_of_ble_eq_true rfl) (by decide +kernel) ?_
      change V E g tb ρ 4 45 [(0, .ref (ρ l0)), (1, .int l1), (2, .int l2), (3, .int l3)] [.int r2] h
      refine v_iload_n (pc := 45) (k := 2) X (by decide +kernel) 2 rfl ?_
      refine v_icmp_ne (pc := 46) (off := 17) (tgt := 63) X (by decide +kernel) (by decide) (fun q5 => ?_) (fun q5 => ?_)
      · rw [if_neg q5] at hf
        exact vjb_Tt_cover_63 ok hi X Y H15 ih l0 l1 l2 l3 kl0 hf
      · rw [if_pos q5] at hf
        refine v_aload_n (pc := 49) (k := 0) X (by decide +kernel) 0 rfl ?_
        refine v_geta (pc := 50) X fl_0_86 kl0 fk_0_11 (by decide +kernel) ?_
        refine v_iload_n (pc := 53) (k := 3) X (by decide +kernel) 3 rfl ?_
        refine v_iload_n (pc := 54) (k := 1) X (by decide +kernel) 1 rfl ?_
        obtain ⟨r3, er3, hf⟩ := bnd_e hf
        refine v_callV (pc := 55) (As := [.int l3, .int l1]) (rest := []) X (mt_Cn_covers ok hi (ly_0_11 ok kl0) er3) ml_0_260 mv_Cn_covers (ly_0_11 ok kl0) cls_1 rfl ⟨Nat.le_of_ble_eq_true rfl, Nat.le_of_ble_eq_true rfl⟩ rfl rfl (Nat.le_of_ble_eq_true rfl) (by decide +kernel) ?_
        change V E g tb ρ 4 58 [(0, .ref (ρ l0)), (1, .int l1), (2, .int l2), (3, .int l3)] [.int r3] h
        refine v_if_eq (pc := 58) (off := 5) (tgt := 63) X (by decide +kernel) (by decide) (fun q4 => ?_) (fun q4 => ?_)
        · rw [if_pos q4] at hf
          exact vjb_Tt_cover_63 ok hi X Y H15 ih l0 l1 l2 l3 kl0 hf
        · rw [if_neg q4] at hf
          refine v_iload_n (pc := 61) (k := 3) X (by decide +kernel) 3 rfl ?_
          cases hf
          exact v_iret X Y (by decide +kernel) rfl rfl
set_option maxRecDepth 4000 in
set_option maxHeartbeats 1000000 in
theorem vlp_Tt_cover_15 {E : En} {g : Gl} {tb : Tb} {ρ : Nat → Nat} (ok : TbOK tb) (hi : inj tb ρ) {r : Int32} (X : CX E g tb ρ prog_1_method_23_code 4 RC0 2 46) {h : Hp} (Y : CQ E g tb ρ (some .int) (some (.int r)) h) : ∀ (n : Nat) (l0 : Nat) (l1 : Int32) (l2 : Int32) (kl0 : kd tb l0 = 0), lp_Tt_cover_15 tb n h l0 l1 l2 = some r → V E g tb ρ 4 15 [(0, .ref (ρ l0)), (1, .int l1), (2, .int l2)] [] h := by
  intro n
  induction n with
  | zero =>
    intro l0 l1 l2 kl0 hf
    rw [lp_Tt_cover_15] at hf
    cases hf
  | succ n ih =>
    intro l0 l1 l2 kl0 hf
    rw [lp_Tt_cover_15] at hf
    refine v_iload_n (pc := 15) (k := 2) X (by decide +kernel) 2 rfl ?_
    refine v_aload_n (pc := 16) (k := 0) X (by decide +kernel) 0 rfl ?_
    refine v_geta (pc := 17) X fl_0_31 kl0 fk_0_3 (by decide +kernel) ?_
    refine v_geti (pc := 20) X fl_0_119 (ly_0_3 ok kl0) rfl (by decide +kernel) ?_
    refine v_icmp_gt (pc := 23) (off := 52) (tgt := 75) X (by decide +kernel) (by decide) (fun q1 => ?_) (fun q1 => ?_)
    · rw [if_pos q1] at hf
      refine v_bipush (pc := 75) (n := -2) X (by decide +kernel) bi_m2 ?_
      cases hf
      exact v_iret X Y (by decide +kernel) rfl rfl
    · rw [if_neg q1] at hf
      refine v_iconst (pc := 26) (n := 0) X (by decide +kernel) ic_0 ?_
      refine v_istore_n (pc := 27) (k := 3) (lv' := [(3, .int (0 : Int32)), (0, .ref (ρ l0)), (1, .int l1), (2, .int l2)]) X (by decide +kernel) (Nat.le_of_ble_eq_true rfl) rfl ?_
      refine v_sub [1, 2, 3, 0] rfl ?_
      exact vlp_Tt_cover_28 ok hi X Y ih fu l0 l1 l2 (0 : Int32) kl0 hf
set_option maxRecDepth 4000 in
set_option maxHeartbeats 1000000 in
theorem mt_Tt_cover {g : Gl} {tb : Tb} {ρ : Nat → Nat} (ok : TbOK tb) (hi : inj tb ρ) {h : Hp} {l0 : Nat} {l1 : Int32} (kl0 : kd tb l0 = 0) {r : Int32} (hf : f_Tt_cover tb h l0 l1 = some r) : MT g y_Tt_cover prog_1_method_23_code 4 (some .int) 2 46 tb ρ [.ref (ρ l0), .int l1] h (some (.int r)) h := by
  refine mt_intro (by decide +kernel) ok hi (Nat.le_of_ble_eq_true rfl) (fun E X Y => ?_)
  change V E g tb ρ 4 0 [(0, .ref (ρ l0)), (1, .int l1)] [] h
  unfold f_Tt_cover at hf
  refine v_iload_n (pc := 0) (k := 1) X (by decide +kernel) 1 rfl ?_
  refine v_iconst (pc := 1) (n := 1) X (by decide +kernel) ic_1 ?_
  refine v_icmp_lt (pc := 2) (off := 9) (tgt := 11) X (by decide +kernel) (by decide) (fun q2 => ?_) (fun q2 => ?_)
  · rw [if_pos q2] at hf
    refine v_iconst (pc := 11) (n := -1) X (by decide +kernel) ic_m1 ?_
    cases hf
    exact v_iret X Y (by decide +kernel) rfl rfl
  · rw [if_neg q2] at hf
    refine v_iload_n (pc := 5) (k := 1) X (by decide +kernel) 1 rfl ?_
    refine v_bipush (pc := 6) (n := 60) X (by decide +kernel) bi_60 ?_
    refine v_icmp_le (pc := 8) (off := 5) (tgt := 13) X (by decide +kernel) (by decide) (fun q1 => ?_) (fun q1 => ?_)
    · rw [if_pos q1] at hf
      refine v_iconst (pc := 13) (n := 0) X (by decide +kernel) ic_0 ?_
      refine v_istore_n (pc := 14) (k := 2) (lv' := [(2, .int (0 : Int32)), (0, .ref (ρ l0)), (1, .int l1)]) X (by decide +kernel) (Nat.le_of_ble_eq_true rfl) rfl ?_
      refine v_sub [1, 2, 0] rfl ?_
      exact vlp_Tt_cover_15 ok hi X Y fu l0 l1 (0 : Int32) kl0 hf
    · rw [if_neg q1] at hf
      refine v_iconst (pc := 11) (n := -1) X (by decide +kernel) ic_m1 ?_
      cases hf
      exact v_iret X Y (by decide +kernel) rfl rfl
def lp_Cn_wayByAll_7 (tb : Tb) : Nat → Hp → Nat → Int32 → Int32 → Int32 → Int32 → Option (Int32)
  | 0, _, _, _, _, _, _ => none
  | n + 1, h, l0, l1, l2, l3, l4 =>
    if (h.1 (lay tb l0 0) 3) ≤ l4 then (
      some ((l3 - l2) + (mnI (l1 - l2) (l3 - l1)))
    ) else (
      (rI tb h (lay tb (lay tb l0 0) 7) l4).bind fun x1 =>
      nmd (mnI l2 x1) fun x2 =>
      (rI tb h (lay tb (lay tb l0 0) 7) l4).bind fun x3 =>
      nmd (mxI l3 x3) fun x4 =>
      nmd (l4 + (1 : Int32)) fun x5 =>
      lp_Cn_wayByAll_7 tb n h l0 l1 x2 x4 x5
    )
def f_Cn_wayByAll (tb : Tb) (h : Hp) (l0 : Nat) (l1 : Int32) : Option (Int32) :=
  lp_Cn_wayByAll_7 tb fu h l0 l1 l1 l1 (0 : Int32)
set_option maxRecDepth 4000 in
set_option maxHeartbeats 1000000 in
theorem vlp_Cn_wayByAll_7 {E : En} {g : Gl} {tb : Tb} {ρ : Nat → Nat} (ok : TbOK tb) (hi : inj tb ρ) {r : Int32} (X : CX E g tb ρ prog_2_method_7_code 5 RC1 1 14) {h : Hp} (Y : CQ E g tb ρ (some .int) (some (.int r)) h) : ∀ (n : Nat) (l0 : Nat) (l1 : Int32) (l2 : Int32) (l3 : Int32) (l4 : Int32) (kl0 : kd tb l0 = 1), lp_Cn_wayByAll_7 tb n h l0 l1 l2 l3 l4 = some r → V E g tb ρ 5 7 [(0, .ref (ρ l0)), (1, .int l1), (2, .int l2), (3, .int l3), (4, .int l4)] [] h := by
  intro n
  induction n with
  | zero =>
    intro l0 l1 l2 l3 l4 kl0 hf
    rw [lp_Cn_wayByAll_7] at hf
    cases hf
  | succ n ih =>
    intro l0 l1 l2 l3 l4 kl0 hf
    rw [lp_Cn_wayByAll_7] at hf
    refine v_iload (pc := 7) (k := 4) X (by decide +kernel) 4 rfl ?_
    refine v_aload_n (pc := 9) (k := 0) X (by decide +kernel) 0 rfl ?_
    refine v_geta (pc := 10) X fl_1_18 kl0 fk_1_0 (by decide +kernel) ?_
    refine v_geti (pc := 13) X fl_1_41 (ly_1_0 ok kl0) rfl (by decide +kernel) ?_
    refine v_icmp_ge (pc := 16) (off := 39) (tgt := 55) X (by decide +kernel) (by decide) (fun q6 => ?_) (fun q6 => ?_)
    · rw [if_pos q6] at hf
      refine v_iload_n (pc := 55) (k := 3) X (by decide +kernel) 3 rfl ?_
      refine v_iload_n (pc := 56) (k := 2) X (by decide +kernel) 2 rfl ?_
      refine v_isub (pc := 57) X (by decide +kernel) ?_
      refine v_iload_n (pc := 58) (k := 1) X (by decide +kernel) 1 rfl ?_
      refine v_iload_n (pc := 59) (k := 2) X (by decide +kernel) 2 rfl ?_
      refine v_isub (pc := 60) X (by decide +kernel) ?_
      refine v_iload_n (pc := 61) (k := 3) X (by decide +kernel) 3 rfl ?_
      refine v_iload_n (pc := 62) (k := 1) X (by decide +kernel) 1 rfl ?_
      refine v_isub (pc := 63) X (by decide +kernel) ?_
      refine v_mmin (pc := 64) X mm_1_74 ms_mmin mc_mmin mi_math ⟨Nat.le_of_ble_eq_true rfl, Nat.le_of_ble_eq_true rfl⟩ (by decide +kernel) ?_
      refine v_iadd (pc := 67) X (by decide +kernel) ?_
      cases hf
      exact v_iret X Y (by decide +kernel) rfl rfl
    · rw [if_neg q6] at hf
      refine v_iload_n (pc := 19) (k := 2) X (by decide +kernel) 2 rfl ?_
      refine v_aload_n (pc := 20) (k := 0) X (by decide +kernel) 0 rfl ?_
      refine v_geta (pc := 21) X fl_1_18 kl0 fk_1_0 (by decide +kernel) ?_
      refine v_geta (pc := 24) X fl_1_26 (ly_1_0 ok kl0) fk_7_7 (by decide +kernel) ?_
      refine v_iload (pc := 27) (k := 4) X (by decide +kernel) 4 rfl ?_
      obtain ⟨x1, ex1, hf⟩ := bnd_e hf
      refine v_iald (pc := 29) X (ly_7_7 ok (ly_1_0 ok kl0)) ex1 (by decide +kernel) ?_
      refine v_mmin (pc := 30) X mm_1_74 ms_mmin mc_mmin mi_math ⟨Nat.le_of_ble_eq_true rfl, Nat.le_of_ble_eq_true rfl⟩ (by decide +kernel) ?_
      obtain ⟨x2, ex2, hf⟩ := nmd_e hf
      refine v_nmi ex2 ?_
      refine v_istore_n (pc := 33) (k := 2) (lv' := [(2, .int x2), (0, .ref (ρ l0)), (1, .int l1), (3, .int l3), (4, .int l4)]) X (by decide +kernel) (Nat.le_of_ble_eq_true rfl) rfl ?_
      refine v_iload_n (pc := 34) (k := 3) X (by decide +kernel) 3 rfl ?_
      refine v_aload_n (pc := 35) (k := 0) X (by decide +kernel) 1 rfl ?_
      refine v_geta (pc := 36) X fl_1_18 kl0 fk_1_0 (by decide +kernel) ?_
      refine v_geta (pc := 39) X fl_1_26 (ly_1_0 ok kl0) fk_7_7 (by decide +kernel) ?_
      refine v_iload (pc := 42) (k := 4) X (by decide +kernel) 4 rfl ?_
      obtain ⟨x3, ex3, hf⟩ := bnd_e hf
      refine v_iald (pc := 44) X (ly_7_7 ok (ly_1_0 ok kl0)) ex3 (by decide +kernel) ?_
      refine v_mmax (pc := 45) X mm_1_83 ms_mmax mc_mmax mi_math ⟨Nat.le_of_ble_eq_true rfl, Nat.le_of_ble_eq_true rfl⟩ (by decide +kernel) ?_
      obtain ⟨x4, ex4, hf⟩ := nmd_e hf
      refine v_nmi ex4 ?_
      refine v_istore_n (pc := 48) (k := 3) (lv' := [(3, .int x4), (2, .int x2), (0, .ref (ρ l0)), (1, .int l1), (4, .int l4)]) X (by decide +kernel) (Nat.le_of_ble_eq_true rfl) rfl ?_
      obtain ⟨x5, ex5, hf⟩ := nmd_e hf
      refine v_iinc (pc := 49) (k := 4) (n := 1) (v := x5) (lv' := [(4, .int x5), (3, .int x4), (2, .int x2), (0, .ref (ρ l0)), (1, .int l1)]) X (by decide +kernel) 4 rfl (by rw [ic_1, ex5]) (Nat.le_of_ble_eq_true rfl) rfl ?_
      refine v_goto (pc := 52) (off := -45) (tgt := 7) X (by decide +kernel) (by decide) ?_
      refine v_sub [3, 4, 2, 1, 0] rfl ?_
      exact ih l0 l1 x2 x4 x5 kl0 hf
set_option maxRecDepth 4000 in
set_option maxHeartbeats 1000000 in
theorem mt_Cn_wayByAll {g : Gl} {tb : Tb} {ρ : Nat → Nat} (ok : TbOK tb) (hi : inj tb ρ) {h : Hp} {l0 : Nat} {l1 : Int32} (kl0 : kd tb l0 = 1) {r : Int32} (hf : f_Cn_wayByAll tb h l0 l1 = some r) : MT g y_Cn_wayByAll prog_2_method_7_code 5 (some .int) 1 14 tb ρ [.ref (ρ l0), .int l1] h (some (.int r)) h := by
  refine mt_intro (by decide +kernel) ok hi (Nat.le_of_ble_eq_true rfl) (fun E X Y => ?_)
  change V E g tb ρ 5 0 [(0, .ref (ρ l0)), (1, .int l1)] [] h
  unfold f_Cn_wayByAll at hf
  refine v_iload_n (pc := 0) (k := 1) X (by decide +kernel) 1 rfl ?_
  refine v_istore_n (pc := 1) (k := 2) (lv' := [(2, .int l1), (0, .ref (ρ l0)), (1, .int l1)]) X (by decide +kernel) (Nat.le_of_ble_eq_true rfl) rfl ?_
  refine v_iload_n (pc := 2) (k := 1) X (by decide +kernel) 2 rfl ?_
  refine v_istore_n (pc := 3) (k := 3) (lv' := [(3, .int l1), (2, .int l1), (0, .ref (ρ l0)), (1, .int l1)]) X (by decide +kernel) (Nat.le_of_ble_eq_true rfl) rfl ?_
  refine v_iconst (pc := 4) (n := 0) X (by decide +kernel) ic_0 ?_
  refine v_istore (pc := 5) (k := 4) (lv' := [(4, .int (0 : Int32)), (3, .int l1), (2, .int l1), (0, .ref (ρ l0)), (1, .int l1)]) X (by decide +kernel) (Nat.le_of_ble_eq_true rfl) rfl ?_
  refine v_sub [3, 4, 2, 1, 0] rfl ?_
  exact vlp_Cn_wayByAll_7 ok hi X Y fu l0 l1 l1 l1 (0 : Int32) kl0 hf
def f_Tt_round (tb : Tb) (h : Hp) (l0 : Nat) (l1 : Int32) : Option (Int32) :=
  nmd (f_Pl_hasHorse tb h (lay tb l0 3) l1) fun r1 =>
  if r1 = (0 : Int32) then (
    some (-1 : Int32)
  ) else (
    (rI tb h (lay tb (lay tb l0 4) 9) l1).bind fun x2 =>
    (f_Cn_wayByAll tb h (lay tb l0 11) x2).bind fun r3 =>
    some r3
  )
set_option maxRecDepth 4000 in
set_option maxHeartbeats 1000000 in
theorem mt_Tt_round {g : Gl} {tb : Tb} {ρ : Nat → Nat} (ok : TbOK tb) (hi : inj tb ρ) {h : Hp} {l0 : Nat} {l1 : Int32} (kl0 : kd tb l0 = 0) {r : Int32} (hf : f_Tt_round tb h l0 l1 = some r) : MT g y_Tt_round prog_1_method_24_code 2 (some .int) 2 38 tb ρ [.ref (ρ l0), .int l1] h (some (.int r)) h := by
  refine mt_intro (by decide +kernel) ok hi (Nat.le_of_ble_eq_true rfl) (fun E X Y => ?_)
  change V E g tb ρ 2 0 [(0, .ref (ρ l0)), (1, .int l1)] [] h
  unfold f_Tt_round at hf
  refine v_aload_n (pc := 0) (k := 0) X (by decide +kernel) 0 rfl ?_
  refine v_geta (pc := 1) X fl_0_31 kl0 fk_0_3 (by decide +kernel) ?_
  refine v_iload_n (pc := 4) (k := 1) X (by decide +kernel) 1 rfl ?_
  obtain ⟨r1, er1, hf⟩ := nmd_e hf
  refine v_callV (pc := 5) (As := [.int l1]) (rest := []) X (mt_Pl_hasHorse ok hi (ly_0_3 ok kl0) er1.symm) ml_0_132 mv_Pl_hasHorse (ly_0_3 ok kl0) cls_7 rfl ⟨Nat.le_of_ble_eq_true rfl, Nat.le_of_ble_eq_true rfl⟩ rfl rfl (Nat.le_of_ble_eq_true rfl) (by decide +kernel) ?_
  change V E g tb ρ 2 8 [(0, .ref (ρ l0)), (1, .int l1)] [.int r1] h
  refine v_if_eq (pc := 8) (off := 22) (tgt := 30) X (by decide +kernel) (by decide) (fun q4 => ?_) (fun q4 => ?_)
  · rw [if_pos q4] at hf
    refine v_iconst (pc := 30) (n := -1) X (by decide +kernel) ic_m1 ?_
    cases hf
    exact v_iret X Y (by decide +kernel) rfl rfl
  · rw [if_neg q4] at hf
    refine v_aload_n (pc := 11) (k := 0) X (by decide +kernel) 0 rfl ?_
    refine v_geta (pc := 12) X fl_0_86 kl0 fk_0_11 (by decide +kernel) ?_
    refine v_aload_n (pc := 15) (k := 0) X (by decide +kernel) 0 rfl ?_
    refine v_geta (pc := 16) X fl_0_38 kl0 fk_0_4 (by decide +kernel) ?_
    refine v_geta (pc := 19) X fl_0_142 (ly_0_4 ok kl0) fk_11_9 (by decide +kernel) ?_
    refine v_iload_n (pc := 22) (k := 1) X (by decide +kernel) 1 rfl ?_
    obtain ⟨x2, ex2, hf⟩ := bnd_e hf
    refine v_iald (pc := 23) X (ly_11_9 ok (ly_0_4 ok kl0)) ex2 (by decide +kernel) ?_
    obtain ⟨r3, er3, hf⟩ := bnd_e hf
    refine v_callV (pc := 24) (As := [.int x2]) (rest := []) X (mt_Cn_wayByAll ok hi (ly_0_11 ok kl0) er3) ml_0_263 mv_Cn_wayByAll (ly_0_11 ok kl0) cls_1 rfl ⟨Nat.le_of_ble_eq_true rfl, Nat.le_of_ble_eq_true rfl⟩ rfl rfl (Nat.le_of_ble_eq_true rfl) (by decide +kernel) ?_
    change V E g tb ρ 2 27 [(0, .ref (ρ l0)), (1, .int l1)] [.int r3] h
    refine v_goto (pc := 27) (off := 4) (tgt := 31) X (by decide +kernel) (by decide) ?_
    cases hf
    exact v_iret X Y (by decide +kernel) rfl rfl
def f_Tt_areTwo (tb : Tb) (h : Hp) (l0 : Nat) (l1 : Int32) (l2 : Int32) : Int32 :=
  nmd (f_Pl_hasHorse tb h (lay tb l0 3) l1) fun r1 =>
  if r1 = (0 : Int32) then (
    (0 : Int32)
  ) else (
    nmd (f_Pl_hasHorse tb h (lay tb l0 3) l2) fun r2 =>
    if r2 = (0 : Int32) then (
      (0 : Int32)
    ) else (
      if l1 = l2 then (
        (0 : Int32)
      ) else (
        (1 : Int32)
      )
    )
  )
set_option maxRecDepth 4000 in
set_option maxHeartbeats 1000000 in
theorem mt_Tt_areTwo {g : Gl} {tb : Tb} {ρ : Nat → Nat} (ok : TbOK tb) (hi : inj tb ρ) {h : Hp} {l0 : Nat} {l1 : Int32} {l2 : Int32} (kl0 : kd tb l0 = 0) {r : Int32} (hf : f_Tt_areTwo tb h l0 l1 l2 = r) : MT g y_Tt_areTwo prog_1_method_27_code 3 (some .boolean) 1 21 tb ρ [.ref (ρ l0), .int l1, .int l2] h (some (.int r)) h := by
  refine mt_intro (by decide +kernel) ok hi (Nat.le_of_ble_eq_true rfl) (fun E X Y => ?_)
  change V E g tb ρ 3 0 [(0, .ref (ρ l0)), (1, .int l1), (2, .int l2)] [] h
  unfold f_Tt_areTwo at hf
  refine v_aload_n (pc := 0) (k := 0) X (by decide +kernel) 0 rfl ?_
  refine v_geta (pc := 1) X fl_0_31 kl0 fk_0_3 (by decide +kernel) ?_
  refine v_iload_n (pc := 4) (k := 1) X (by decide +kernel) 1 rfl ?_
  obtain ⟨r1, er1, hf⟩ := nmd_e hf
  refine v_callV (pc := 5) (As := [.int l1]) (rest := []) X (mt_Pl_hasHorse ok hi (ly_0_3 ok kl0) er1.symm) ml_0_132 mv_Pl_hasHorse (ly_0_3 ok kl0) cls_7 rfl ⟨Nat.le_of_ble_eq_true rfl, Nat.le_of_ble_eq_true rfl⟩ rfl rfl (Nat.le_of_ble_eq_true rfl) (by decide +kernel) ?_
  change V E g tb ρ 3 8 [(0, .ref (ρ l0)), (1, .int l1), (2, .int l2)] [.int r1] h
  refine v_if_eq (pc := 8) (off := 23) (tgt := 31) X (by decide +kernel) (by decide) (fun q5 => ?_) (fun q5 => ?_)
  · rw [if_pos q5] at hf
    refine v_iconst (pc := 31) (n := 0) X (by decide +kernel) ic_0 ?_
    cases hf
    exact v_zret (hz := rfl) X Y (by decide +kernel) rfl rfl
  · rw [if_neg q5] at hf
    refine v_aload_n (pc := 11) (k := 0) X (by decide +kernel) 0 rfl ?_
    refine v_geta (pc := 12) X fl_0_31 kl0 fk_0_3 (by decide +kernel) ?_
    refine v_iload_n (pc := 15) (k := 2) X (by decide +kernel) 2 rfl ?_
    obtain ⟨r2, er2, hf⟩ := nmd_e hf
    refine v_callV (pc := 16) (As := [.int l2]) (rest := []) X (mt_Pl_hasHorse ok hi (ly_0_3 ok kl0) er2.symm) ml_0_132 mv_Pl_hasHorse (ly_0_3 ok kl0) cls_7 rfl ⟨Nat.le_of_ble_eq_true rfl, Nat.le_of_ble_eq_true rfl⟩ rfl rfl (Nat.le_of_ble_eq_true rfl) (by decide +kernel) ?_
    change V E g tb ρ 3 19 [(0, .ref (ρ l0)), (1, .int l1), (2, .int l2)] [.int r2] h
    refine v_if_eq (pc := 19) (off := 12) (tgt := 31) X (by decide +kernel) (by decide) (fun q4 => ?_) (fun q4 => ?_)
    · rw [if_pos q4] at hf
      refine v_iconst (pc := 31) (n := 0) X (by decide +kernel) ic_0 ?_
      cases hf
      exact v_zret (hz := rfl) X Y (by decide +kernel) rfl rfl
    · rw [if_neg q4] at hf
      refine v_iload_n (pc := 22) (k := 1) X (by decide +kernel) 1 rfl ?_
      refine v_iload_n (pc := 23) (k := 2) X (by decide +kernel) 2 rfl ?_
      refine v_icmp_eq (pc := 24) (off := 7) (tgt := 31) X (by decide +kernel) (by decide) (fun q3 => ?_) (fun q3 => ?_)
      · rw [if_pos q3] at hf
        refine v_iconst (pc := 31) (n := 0) X (by decide +kernel) ic_0 ?_
        cases hf
        exact v_zret (hz := rfl) X Y (by decide +kernel) rfl rfl
      · rw [if_neg q3] at hf
        refine v_iconst (pc := 27) (n := 1) X (by decide +kernel) ic_1 ?_
        refine v_goto (pc := 28) (off := 4) (tgt := 32) X (by decide +kernel) (by decide) ?_
        cases hf
        exact v_zret (hz := rfl) X Y (by decide +kernel) rfl rfl
def f_Cn_gain (tb : Tb) (h : Hp) (l0 : Nat) (l1 : Int32) (l2 : Int32) (l3 : Int32) (l4 : Int32) : Option (Int32) :=
  if l3 = (0 : Int32) then (
    if l4 = (0 : Int32) then (
      (rI tb h (lay tb (lay tb l0 0) 12) l1).bind fun x5 =>
      (rI tb h (lay tb (lay tb l0 0) 12) l2).bind fun x6 =>
      some ((10 : Int32) - (abI (x5 - x6)))
    ) else (
      (rI tb h (lay tb (lay tb l0 1) 10) l1).bind fun x4 =>
      some (x4 / (5 : Int32))
    )
  ) else (
    if l4 = (0 : Int32) then (
      (rI tb h (lay tb (lay tb l0 0) 15) l1).bind fun x2 =>
      some x2
    ) else (
      (rI tb h (lay tb (lay tb l0 0) 15) l1).bind fun x1 =>
      some (x1 / (2 : Int32))
    )
  )
set_option maxRecDepth 4000 in
set_option maxHeartbeats 1000000 in
theorem mt_Cn_gain {g : Gl} {tb : Tb} {ρ : Nat → Nat} (ok : TbOK tb) (hi : inj tb ρ) {h : Hp} {l0 : Nat} {l1 : Int32} {l2 : Int32} {l3 : Int32} {l4 : Int32} (kl0 : kd tb l0 = 1) {r : Int32} (hf : f_Cn_gain tb h l0 l1 l2 l3 l4 = some r) : MT g y_Cn_gain prog_2_method_13_code 5 (some .int) 1 14 tb ρ [.ref (ρ l0), .int l1, .int l2, .int l3, .int l4] h (some (.int r)) h := by
  refine mt_intro (by decide +kernel) ok hi (Nat.le_of_ble_eq_true rfl) (fun E X Y => ?_)
  change V E g tb ρ 5 0 [(0, .ref (ρ l0)), (1, .int l1), (2, .int l2), (3, .int l3), (4, .int l4)] [] h
  unfold f_Cn_gain at hf
  refine v_iload_n (pc := 0) (k := 3) X (by decide +kernel) 3 rfl ?_
  refine v_if_ne (pc := 1) (off := 48) (tgt := 49) X (by decide +kernel) (by decide) (fun q8 => ?_) (fun q8 => ?_)
  · rw [if_neg q8] at hf
    refine v_iload (pc := 49) (k := 4) X (by decide +kernel) 4 rfl ?_
    refine v_if_ne (pc := 51) (off := 15) (tgt := 66) X (by decide +kernel) (by decide) (fun q3 => ?_) (fun q3 => ?_)
    · rw [if_neg q3] at hf
      refine v_aload_n (pc := 66) (k := 0) X (by decide +kernel) 0 rfl ?_
      refine v_geta (pc := 67) X fl_1_18 kl0 fk_1_0 (by decide +kernel) ?_
      refine v_geta (pc := 70) X fl_1_109 (ly_1_0 ok kl0) fk_7_15 (by decide +kernel) ?_
      refine v_iload_n (pc := 73) (k := 1) X (by decide +kernel) 1 rfl ?_
      obtain ⟨x1, ex1, hf⟩ := bnd_e hf
      refine v_iald (pc := 74) X (ly_7_15 ok (ly_1_0 ok kl0)) ex1 (by decide +kernel) ?_
      refine v_iconst (pc := 75) (n := 2) X (by decide +kernel) ic_2 ?_
      refine v_idiv (pc := 76) X (if_neg (by decide)) (by decide +kernel) ?_
      cases hf
      exact v_iret X Y (by decide +kernel) rfl rfl
    · rw [if_pos q3] at hf
      refine v_aload_n (pc := 54) (k := 0) X (by decide +kernel) 0 rfl ?_
      refine v_geta (pc := 55) X fl_1_18 kl0 fk_1_0 (by decide +kernel) ?_
      refine v_geta (pc := 58) X fl_1_109 (ly_1_0 ok kl0) fk_7_15 (by decide +kernel) ?_
      refine v_iload_n (pc := 61) (k := 1) X (by decide +kernel) 1 rfl ?_
      obtain ⟨x2, ex2, hf⟩ := bnd_e hf
      refine v_iald (pc := 62) X (ly_7_15 ok (ly_1_0 ok kl0)) ex2 (by decide +kernel) ?_
      refine v_goto (pc := 63) (off := 14) (tgt := 77) X (by decide +kernel) (by decide) ?_
      cases hf
      exact v_iret X Y (by decide +kernel) rfl rfl
  · rw [if_pos q8] at hf
    refine v_iload (pc := 4) (k := 4) X (by decide +kernel) 4 rfl ?_
    refine v_if_ne (pc := 6) (off := 31) (tgt := 37) X (by decide +kernel) (by decide) (fun q7 => ?_) (fun q7 => ?_)
    · rw [if_neg q7] at hf
      refine v_aload_n (pc := 37) (k := 0) X (by decide +kernel) 0 rfl ?_
      refine v_geta (pc := 38) X fl_1_22 kl0 fk_1_1 (by decide +kernel) ?_
      refine v_geta (pc := 41) X fl_1_45 (ly_1_1 ok kl0) fk_11_10 (by decide +kernel) ?_
      refine v_iload_n (pc := 44) (k := 1) X (by decide +kernel) 1 rfl ?_
      obtain ⟨x4, ex4, hf⟩ := bnd_e hf
      refine v_iald (pc := 45) X (ly_11_10 ok (ly_1_1 ok kl0)) ex4 (by decide +kernel) ?_
      refine v_iconst (pc := 46) (n := 5) X (by decide +kernel) ic_5 ?_
      refine v_idiv (pc := 47) X (if_neg (by decide)) (by decide +kernel) ?_
      cases hf
      exact v_iret X Y (by decide +kernel) rfl rfl
    · rw [if_pos q7] at hf
      refine v_bipush (pc := 9) (n := 10) X (by decide +kernel) bi_10 ?_
      refine v_aload_n (pc := 11) (k := 0) X (by decide +kernel) 0 rfl ?_
      refine v_geta (pc := 12) X fl_1_18 kl0 fk_1_0 (by decide +kernel) ?_
      refine v_geta (pc := 15) X fl_1_106 (ly_1_0 ok kl0) fk_7_12 (by decide +kernel) ?_
      refine v_iload_n (pc := 18) (k := 1) X (by decide +kernel) 1 rfl ?_
      obtain ⟨x5, ex5, hf⟩ := bnd_e hf
      refine v_iald (pc := 19) X (ly_7_12 ok (ly_1_0 ok kl0)) ex5 (by decide +kernel) ?_
      refine v_aload_n (pc := 20) (k := 0) X (by decide +kernel) 0 rfl ?_
      refine v_geta (pc := 21) X fl_1_18 kl0 fk_1_0 (by decide +kernel) ?_
      refine v_geta (pc := 24) X fl_1_106 (ly_1_0 ok kl0) fk_7_12 (by decide +kernel) ?_
      refine v_iload_n (pc := 27) (k := 2) X (by decide +kernel) 2 rfl ?_
      obtain ⟨x6, ex6, hf⟩ := bnd_e hf
      refine v_iald (pc := 28) X (ly_7_12 ok (ly_1_0 ok kl0)) ex6 (by decide +kernel) ?_
      refine v_isub (pc := 29) X (by decide +kernel) ?_
      refine v_mabs (pc := 30) X mm_1_31 ms_mabs mc_mabs mi_math ⟨Nat.le_of_ble_eq_true rfl, Nat.le_of_ble_eq_true rfl⟩ (by decide +kernel) ?_
      refine v_isub (pc := 33) X (by decide +kernel) ?_
      refine v_goto (pc := 34) (off := 14) (tgt := 48) X (by decide +kernel) (by decide) ?_
      cases hf
      exact v_iret X Y (by decide +kernel) rfl rfl
def f_Cn_isRest (tb : Tb) (h : Hp) (l0 : Nat) (l1 : Int32) (l2 : Int32) (l3 : Int32) (l4 : Int32) : Option (Int32) :=
  (f_Cn_gain tb h l0 l1 l2 l3 l4).bind fun r1 =>
  (f_Cn_gain tb h l0 l1 l2 ((1 : Int32) - l3) l4).bind fun r2 =>
  if r1 < r2 then (
    some (0 : Int32)
  ) else (
    (f_Cn_gain tb h l0 l2 l1 l4 l3).bind fun r3 =>
    (f_Cn_gain tb h l0 l2 l1 ((1 : Int32) - l4) l3).bind fun r4 =>
    if r3 < r4 then (
      some (0 : Int32)
    ) else (
      some (1 : Int32)
    )
  )
set_option maxRecDepth 4000 in
set_option maxHeartbeats 1000000 in
theorem mt_Cn_isRest {g : Gl} {tb : Tb} {ρ : Nat → Nat} (ok : TbOK tb) (hi : inj tb ρ) {h : Hp} {l0 : Nat} {l1 : Int32} {l2 : Int32} {l3 : Int32} {l4 : Int32} (kl0 : kd tb l0 = 1) {r : Int32} (hf : f_Cn_isRest tb h l0 l1 l2 l3 l4 = some r) : MT g y_Cn_isRest prog_2_method_12_code 5 (some .boolean) 2 38 tb ρ [.ref (ρ l0), .int l1, .int l2, .int l3, .int l4] h (some (.int r)) h := by
  refine mt_intro (by decide +kernel) ok hi (Nat.le_of_ble_eq_true rfl) (fun E X Y => ?_)
  change V E g tb ρ 5 0 [(0, .ref (ρ l0)), (1, .int l1), (2, .int l2), (3, .int l3), (4, .int l4)] [] h
  unfold f_Cn_isRest at hf
  refine v_aload_n (pc := 0) (k := 0) X (by decide +kernel) 0 rfl ?_
  refine v_iload_n (pc := 1) (k := 1) X (by decide +kernel) 1 rfl ?_
  refine v_iload_n (pc := 2) (k := 2) X (by decide +kernel) 2 rfl ?_
  refine v_iload_n (pc := 3) (k := 3) X (by decide +kernel) 3 rfl ?_
  refine v_iload (pc := 4) (k := 4) X (by decide +kernel) 4 rfl ?_
  obtain ⟨r1, er1, hf⟩ := bnd_e hf
  refine v_callV (pc := 6) (As := [.int l1, .int l2, .int l3, .int l4]) (rest := []) X (mt_Cn_gain ok hi kl0 er1) ml_1_103 mv_Cn_gain kl0 cls_1 rfl ⟨Nat.le_of_ble_eq_true rfl, Nat.le_of_ble_eq_true rfl⟩ rfl rfl (Nat.le_of_ble_eq_true rfl) (by decide +kernel) ?_
  change V E g tb ρ 5 9 [(0, .ref (ρ l0)), (1, .int l1), (2, .int l2), (3, .int l3), (4, .int l4)] [.int r1] h
  refine v_aload_n (pc := 9) (k := 0) X (by decide +kernel) 0 rfl ?_
  refine v_iload_n (pc := 10) (k := 1) X (by decide +kernel) 1 rfl ?_
  refine v_iload_n (pc := 11) (k := 2) X (by decide +kernel) 2 rfl ?_
  refine v_iconst (pc := 12) (n := 1) X (by decide +kernel) ic_1 ?_
  refine v_iload_n (pc := 13) (k := 3) X (by decide +kernel) 3 rfl ?_
  refine v_isub (pc := 14) X (by decide +kernel) ?_
  refine v_iload (pc := 15) (k := 4) X (by decide +kernel) 4 rfl ?_
  obtain ⟨r2, er2, hf⟩ := bnd_e hf
  refine v_callV (pc := 17) (As := [.int l1, .int l2, .int ((1 : Int32) - l3), .int l4]) (rest := [.int r1]) X (mt_Cn_gain ok hi kl0 er2) ml_1_103 mv_Cn_gain kl0 cls_1 rfl ⟨Nat.le_of_ble_eq_true rfl, Nat.le_of_ble_eq_true rfl⟩ rfl rfl (Nat.le_of_ble_eq_true rfl) (by decide +kernel) ?_
  change V E g tb ρ 5 20 [(0, .ref (ρ l0)), (1, .int l1), (2, .int l2), (3, .int l3), (4, .int l4)] [.int r2, .int r1] h
  refine v_icmp_lt (pc := 20) (off := 30) (tgt := 50) X (by decide +kernel) (by decide) (fun q6 => ?_) (fun q6 => ?_)
  · rw [if_pos q6] at hf
    refine v_iconst (pc := 50) (n := 0) X (by decide +kernel) ic_0 ?_
    cases hf
    exact v_zret (hz := rfl) X Y (by decide +kernel) rfl rfl
  · rw [if_neg q6] at hf
    refine v_aload_n (pc := 23) (k := 0) X (by decide +kernel) 0 rfl ?_
    refine v_iload_n (pc := 24) (k := 2) X (by decide +kernel) 2 rfl ?_
    refine v_iload_n (pc := 25) (k := 1) X (by decide +kernel) 1 rfl ?_
    refine v_iload (pc := 26) (k := 4) X (by decide +kernel) 4 rfl ?_
    refine v_iload_n (pc := 28) (k := 3) X (by decide +kernel) 3 rfl ?_
    obtain ⟨r3, er3, hf⟩ := bnd_e hf
    refine v_callV (pc := 29) (As := [.int l2, .int l1, .int l4, .int l3]) (rest := []) X (mt_Cn_gain ok hi kl0 er3) ml_1_103 mv_Cn_gain kl0 cls_1 rfl ⟨Nat.le_of_ble_eq_true rfl, Nat.le_of_ble_eq_true rfl⟩ rfl rfl (Nat.le_of_ble_eq_true rfl) (by decide +kernel) ?_
    change V E g tb ρ 5 32 [(0, .ref (ρ l0)), (1, .int l1), (2, .int l2), (3, .int l3), (4, .int l4)] [.int r3] h
    refine v_aload_n (pc := 32) (k := 0) X (by decide +kernel) 0 rfl ?_
    refine v_iload_n (pc := 33) (k := 2) X (by decide +kernel) 2 rfl ?_
    refine v_iload_n (pc := 34) (k := 1) X (by decide +kernel) 1 rfl ?_
    refine v_iconst (pc := 35) (n := 1) X (by decide +kernel) ic_1 ?_
    refine v_iload (pc := 36) (k := 4) X (by decide +kernel) 4 rfl ?_
    refine v_isub (pc := 38) X (by decide +kernel) ?_
    refine v_iload_n (pc := 39) (k := 3) X (by decide +kernel) 3 rfl ?_
    obtain ⟨r4, er4, hf⟩ := bnd_e hf
    refine v_callV (pc := 40) (As := [.int l2, .int l1, .int ((1 : Int32) - l4), .int l3]) (rest := [.int r3]) X (mt_Cn_gain ok hi kl0 er4) ml_1_103 mv_Cn_gain kl0 cls_1 rfl ⟨Nat.le_of_ble_eq_true rfl, Nat.le_of_ble_eq_true rfl⟩ rfl rfl (Nat.le_of_ble_eq_true rfl) (by decide +kernel) ?_
    change V E g tb ρ 5 43 [(0, .ref (ρ l0)), (1, .int l1), (2, .int l2), (3, .int l3), (4, .int l4)] [.int r4, .int r3] h
    refine v_icmp_lt (pc := 43) (off := 7) (tgt := 50) X (by decide +kernel) (by decide) (fun q5 => ?_) (fun q5 => ?_)
    · rw [if_pos q5] at hf
      refine v_iconst (pc := 50) (n := 0) X (by decide +kernel) ic_0 ?_
      cases hf
      exact v_zret (hz := rfl) X Y (by decide +kernel) rfl rfl
    · rw [if_neg q5] at hf
      refine v_iconst (pc := 46) (n := 1) X (by decide +kernel) ic_1 ?_
      refine v_goto (pc := 47) (off := 4) (tgt := 51) X (by decide +kernel) (by decide) ?_
      cases hf
      exact v_zret (hz := rfl) X Y (by decide +kernel) rfl rfl
def jb_Cn_manyRests_34 (tb : Tb) (c5 : Hp → Nat → Int32 → Int32 → Int32 → Int32 → Option (Int32)) (h : Hp) (l0 : Nat) (l1 : Int32) (l2 : Int32) (l4 : Int32) (s0 : Int32) (s1 : Int32) : Option (Int32) :=
  nmd (s0 + s1) fun x1 =>
  nmd (l4 + (1 : Int32)) fun x2 =>
  c5 h l0 l1 l2 x1 x2
def lp_Cn_manyRests_5 (tb : Tb) : Nat → Hp → Nat → Int32 → Int32 → Int32 → Int32 → Option (Int32)
  | 0, _, _, _, _, _, _ => none
  | n + 1, h, l0, l1, l2, l3, l4 =>
    if (4 : Int32) ≤ l4 then (
      some l3
    ) else (
      (f_Cn_isRest tb h l0 l1 l2 (l4 / (2 : Int32)) (l4 - l4 / (2 : Int32) * (2 : Int32))).bind fun r1 =>
      if r1 = (0 : Int32) then (
        jb_Cn_manyRests_34 tb (lp_Cn_manyRests_5 tb n) h l0 l1 l2 l4 l3 (0 : Int32)
      ) else (
        jb_Cn_manyRests_34 tb (lp_Cn_manyRests_5 tb n) h l0 l1 l2 l4 l3 (1 : Int32)
      )
    )
def f_Cn_manyRests (tb : Tb) (h : Hp) (l0 : Nat) (l1 : Int32) (l2 : Int32) : Option (Int32) :=
  lp_Cn_manyRests_5 tb fu h l0 l1 l2 (0 : Int32) (0 : Int32)
set_option maxRecDepth 4000 in
set_option maxHeartbeats 1000000 in
theorem vjb_Cn_manyRests_34 {E : En} {g : Gl} {tb : Tb} {ρ : Nat → Nat} (ok : TbOK tb) (hi : inj tb ρ) {r : Int32} (X : CX E g tb ρ prog_2_method_10_code 5 RC1 3 62) {h : Hp} (Y : CQ E g tb ρ (some .int) (some (.int r)) h) {c5 : Hp → Nat → Int32 → Int32 → Int32 → Int32 → Option (Int32)} (H5 : ∀ (l0 : Nat) (l1 : Int32) (l2 : Int32) (l3 : Int32) (l4 : Int32) (kl0 : kd tb l0 = 1), c5 h l0 l1 l2 l3 l4 = some r → V E g tb ρ 5 5 [(0, .ref (ρ l0)), (1, .int l1), (2, .int l2), (3, .int l3), (4, .int l4)] [] h) (l0 : Nat) (l1 : Int32) (l2 : Int32) (l4 : Int32) (s0 : Int32) (s1 : Int32) (kl0 : kd tb l0 = 1) (hf : jb_Cn_manyRests_34 tb c5 h l0 l1 l2 l4 s0 s1 = some r) : V E g tb ρ 5 34 [(0, .ref (ρ l0)), (1, .int l1), (2, .int l2), (4, .int l4)] [.int s1, .int s0] h := by
  unfold jb_Cn_manyRests_34 at hf
  refine v_iadd (pc := 34) X (by decide +kernel) ?_
  obtain ⟨x1, ex1, hf⟩ := nmd_e hf
  refine v_nmi ex1 ?_
  refine v_istore_n (pc := 35) (k := 3) (lv' := [(3, .int x1), (0, .ref (ρ l0)), (1, .int l1), (2, .int l2), (4, .int l4)]) X (by decide +kernel) (Nat.le_of_ble_eq_true rfl) rfl ?_
  obtain ⟨x2, ex2, hf⟩ := nmd_e hf
  refine v_iinc (pc := 36) (k := 4) (n := 1) (v := x2) (lv' := [(4, .int x2), (3, .int x1), (0, .ref (ρ l0)), (1, .int l1), (2, .int l2)]) X (by decide +kernel) 4 rfl (by rw [ic_1, ex2]) (Nat.le_of_ble_eq_true rfl) rfl ?_
  refine v_goto (pc := 39) (off := -34) (tgt := 5) X (by decide +kernel) (by decide) ?_
  refine v_sub [2, 3, 4, 1, 0] rfl ?_
  exact H5 l0 l1 l2 x1 x2 kl0 hf
set_option maxRecDepth 4000 in
set_option maxHeartbeats 1000000 in
theorem vlp_Cn_manyRests_5 {E : En} {g : Gl} {tb : Tb} {ρ : Nat → Nat} (ok : TbOK tb) (hi : inj tb ρ) {r : Int32} (X : CX E g tb ρ prog_2_method_10_code 5 RC1 3 62) {h : Hp} (Y : CQ E g tb ρ (some .int) (some (.int r)) h) : ∀ (n : Nat) (l0 : Nat) (l1 : Int32) (l2 : Int32) (l3 : Int32) (l4 : Int32) (kl0 : kd tb l0 = 1), lp_Cn_manyRests_5 tb n h l0 l1 l2 l3 l4 = some r → V E g tb ρ 5 5 [(0, .ref (ρ l0)), (1, .int l1), (2, .int l2), (3, .int l3), (4, .int l4)] [] h := by
  intro n
  induction n with
  | zero =>
    intro l0 l1 l2 l3 l4 kl0 hf
    rw [lp_Cn_manyRests_5] at hf
    cases hf
  | succ n ih =>
    intro l0 l1 l2 l3 l4 kl0 hf
    rw [lp_Cn_manyRests_5] at hf
    refine v_iload (pc := 5) (k := 4) X (by decide +kernel) 4 rfl ?_
    refine v_iconst (pc := 7) (n := 4) X (by decide +kernel) ic_4 ?_
    refine v_icmp_ge (pc := 8) (off := 34) (tgt := 42) X (by decide +kernel) (by decide) (fun q3 => ?_) (fun q3 => ?_)
    · rw [if_pos q3] at hf
      refine v_iload_n (pc := 42) (k := 3) X (by decide +kernel) 3 rfl ?_
      cases hf
      exact v_iret X Y (by decide +kernel) rfl rfl
    · rw [if_neg q3] at hf
      refine v_iload_n (pc := 11) (k := 3) X (by decide +kernel) 3 rfl ?_
      refine v_aload_n (pc := 12) (k := 0) X (by decide +kernel) 0 rfl ?_
      refine v_iload_n (pc := 13) (k := 1) X (by decide +kernel) 1 rfl ?_
      refine v_iload_n (pc := 14) (k := 2) X (by decide +kernel) 2 rfl ?_
      refine v_iload (pc := 15) (k := 4) X (by decide +kernel) 4 rfl ?_
      refine v_iconst (pc := 17) (n := 2) X (by decide +kernel) ic_2 ?_
      refine v_idiv (pc := 18) X (if_neg (by decide)) (by decide +kernel) ?_
      refine v_iload (pc := 19) (k := 4) X (by decide +kernel) 4 rfl ?_
      refine v_iconst (pc := 21) (n := 2) X (by decide +kernel) ic_2 ?_
      refine v_irem (pc := 22) X (if_neg (by decide)) (by decide +kernel) ?_
      obtain ⟨r1, er1, hf⟩ := bnd_e hf
      refine v_callV (pc := 23) (As := [.int l1, .int l2, .int (l4 / (2 : Int32)), .int (l4 - l4 / (2 : Int32) * (2 : Int32))]) (rest := [.int l3]) X (mt_Cn_isRest ok hi kl0 er1) ml_1_99 mv_Cn_isRest kl0 cls_1 rfl ⟨Nat.le_of_ble_eq_true rfl, Nat.le_of_ble_eq_true rfl⟩ rfl rfl (Nat.le_of_ble_eq_true rfl) (by decide +kernel) ?_
      change V E g tb ρ 5 26 [(0, .ref (ρ l0)), (1, .int l1), (2, .int l2), (3, .int l3), (4, .int l4)] [.int r1, .int l3] h
      refine v_if_eq (pc := 26) (off := 7) (tgt := 33) X (by decide +kernel) (by decide) (fun q2 => ?_) (fun q2 => ?_)
      · rw [if_pos q2] at hf
        refine v_iconst (pc := 33) (n := 0) X (by decide +kernel) ic_0 ?_
        refine v_sub [0, 1, 2, 4] rfl ?_
        exact vjb_Cn_manyRests_34 ok hi X Y ih l0 l1 l2 l4 l3 (0 : Int32) kl0 hf
      · rw [if_neg q2] at hf
        refine v_iconst (pc := 29) (n := 1) X (by decide +kernel) ic_1 ?_
        refine v_goto (pc := 30) (off := 4) (tgt := 34) X (by decide +kernel) (by decide) ?_
        refine v_sub [0, 1, 2, 4] rfl ?_
        exact vjb_Cn_manyRests_34 ok hi X Y ih l0 l1 l2 l4 l3 (1 : Int32) kl0 hf
set_option maxRecDepth 4000 in
set_option maxHeartbeats 1000000 in
theorem mt_Cn_manyRests {g : Gl} {tb : Tb} {ρ : Nat → Nat} (ok : TbOK tb) (hi : inj tb ρ) {h : Hp} {l0 : Nat} {l1 : Int32} {l2 : Int32} (kl0 : kd tb l0 = 1) {r : Int32} (hf : f_Cn_manyRests tb h l0 l1 l2 = some r) : MT g y_Cn_manyRests prog_2_method_10_code 5 (some .int) 3 62 tb ρ [.ref (ρ l0), .int l1, .int l2] h (some (.int r)) h := by
  refine mt_intro (by decide +kernel) ok hi (Nat.le_of_ble_eq_true rfl) (fun E X Y => ?_)
  change V E g tb ρ 5 0 [(0, .ref (ρ l0)), (1, .int l1), (2, .int l2)] [] h
  unfold f_Cn_manyRests at hf
  refine v_iconst (pc := 0) (n := 0) X (by decide +kernel) ic_0 ?_
  refine v_istore_n (pc := 1) (k := 3) (lv' := [(3, .int (0 : Int32)), (0, .ref (ρ l0)), (1, .int l1), (2, .int l2)]) X (by decide +kernel) (Nat.le_of_ble_eq_true rfl) rfl ?_
  refine v_iconst (pc := 2) (n := 0) X (by decide +kernel) ic_0 ?_
  refine v_istore (pc := 3) (k := 4) (lv' := [(4, .int (0 : Int32)), (3, .int (0 : Int32)), (0, .ref (ρ l0)), (1, .int l1), (2, .int l2)]) X (by decide +kernel) (Nat.le_of_ble_eq_true rfl) rfl ?_
  refine v_sub [2, 3, 4, 1, 0] rfl ?_
  exact vlp_Cn_manyRests_5 ok hi X Y fu l0 l1 l2 (0 : Int32) (0 : Int32) kl0 hf
def f_Tt_rests (tb : Tb) (h : Hp) (l0 : Nat) (l1 : Int32) (l2 : Int32) : Option (Int32) :=
  nmd (f_Tt_areTwo tb h l0 l1 l2) fun r1 =>
  if r1 = (0 : Int32) then (
    some (-1 : Int32)
  ) else (
    (f_Cn_manyRests tb h (lay tb l0 11) l1 l2).bind fun r2 =>
    some r2
  )
set_option maxRecDepth 4000 in
set_option maxHeartbeats 1000000 in
theorem mt_Tt_rests {g : Gl} {tb : Tb} {ρ : Nat → Nat} (ok : TbOK tb) (hi : inj tb ρ) {h : Hp} {l0 : Nat} {l1 : Int32} {l2 : Int32} (kl0 : kd tb l0 = 0) {r : Int32} (hf : f_Tt_rests tb h l0 l1 l2 = some r) : MT g y_Tt_rests prog_1_method_25_code 3 (some .int) 4 86 tb ρ [.ref (ρ l0), .int l1, .int l2] h (some (.int r)) h := by
  refine mt_intro (by decide +kernel) ok hi (Nat.le_of_ble_eq_true rfl) (fun E X Y => ?_)
  change V E g tb ρ 3 0 [(0, .ref (ρ l0)), (1, .int l1), (2, .int l2)] [] h
  unfold f_Tt_rests at hf
  refine v_aload_n (pc := 0) (k := 0) X (by decide +kernel) 0 rfl ?_
  refine v_iload_n (pc := 1) (k := 1) X (by decide +kernel) 1 rfl ?_
  refine v_iload_n (pc := 2) (k := 2) X (by decide +kernel) 2 rfl ?_
  obtain ⟨r1, er1, hf⟩ := nmd_e hf
  refine v_callV (pc := 3) (As := [.int l1, .int l2]) (rest := []) X (mt_Tt_areTwo ok hi kl0 er1.symm) ml_0_266 mv_Tt_areTwo kl0 cls_0 rfl ⟨Nat.le_of_ble_eq_true rfl, Nat.le_of_ble_eq_true rfl⟩ rfl rfl (Nat.le_of_ble_eq_true rfl) (by decide +kernel) ?_
  change V E g tb ρ 3 6 [(0, .ref (ρ l0)), (1, .int l1), (2, .int l2)] [.int r1] h
  refine v_if_eq (pc := 6) (off := 15) (tgt := 21) X (by decide +kernel) (by decide) (fun q3 => ?_) (fun q3 => ?_)
  · rw [if_pos q3] at hf
    refine v_iconst (pc := 21) (n := -1) X (by decide +kernel) ic_m1 ?_
    cases hf
    exact v_iret X Y (by decide +kernel) rfl rfl
  · rw [if_neg q3] at hf
    refine v_aload_n (pc := 9) (k := 0) X (by decide +kernel) 0 rfl ?_
    refine v_geta (pc := 10) X fl_0_86 kl0 fk_0_11 (by decide +kernel) ?_
    refine v_iload_n (pc := 13) (k := 1) X (by decide +kernel) 1 rfl ?_
    refine v_iload_n (pc := 14) (k := 2) X (by decide +kernel) 2 rfl ?_
    obtain ⟨r2, er2, hf⟩ := bnd_e hf
    refine v_callV (pc := 15) (As := [.int l1, .int l2]) (rest := []) X (mt_Cn_manyRests ok hi (ly_0_11 ok kl0) er2) ml_0_269 mv_Cn_manyRests (ly_0_11 ok kl0) cls_1 rfl ⟨Nat.le_of_ble_eq_true rfl, Nat.le_of_ble_eq_true rfl⟩ rfl rfl (Nat.le_of_ble_eq_true rfl) (by decide +kernel) ?_
    change V E g tb ρ 3 18 [(0, .ref (ρ l0)), (1, .int l1), (2, .int l2)] [.int r2] h
    refine v_goto (pc := 18) (off := 4) (tgt := 22) X (by decide +kernel) (by decide) ?_
    cases hf
    exact v_iret X Y (by decide +kernel) rfl rfl
def jb_Cn_restNumbered_51 (tb : Tb) (c6 : Hp → Nat → Int32 → Int32 → Int32 → Int32 → Int32 → Option (Int32)) (h : Hp) (l0 : Nat) (l1 : Int32) (l2 : Int32) (l3 : Int32) (l4 : Int32) (l5 : Int32) : Option (Int32) :=
  nmd (l5 + (1 : Int32)) fun x1 =>
  c6 h l0 l1 l2 l3 l4 x1
def lp_Cn_restNumbered_6 (tb : Tb) : Nat → Hp → Nat → Int32 → Int32 → Int32 → Int32 → Int32 → Option (Int32)
  | 0, _, _, _, _, _, _, _ => none
  | n + 1, h, l0, l1, l2, l3, l4, l5 =>
    if (4 : Int32) ≤ l5 then (
      some (-2 : Int32)
    ) else (
      (f_Cn_isRest tb h l0 l1 l2 (l5 / (2 : Int32)) (l5 - l5 / (2 : Int32) * (2 : Int32))).bind fun r1 =>
      if r1 = (0 : Int32) then (
        jb_Cn_restNumbered_51 tb (lp_Cn_restNumbered_6 tb n) h l0 l1 l2 l3 l4 l5
      ) else (
        if l4 = l3 then (
          some (((l5 / (2 : Int32)) * (10 : Int32)) + (l5 - l5 / (2 : Int32) * (2 : Int32)))
        ) else (
          nmd (l4 + (1 : Int32)) fun x2 =>
          jb_Cn_restNumbered_51 tb (lp_Cn_restNumbered_6 tb n) h l0 l1 l2 l3 x2 l5
        )
      )
    )
def f_Cn_restNumbered (tb : Tb) (h : Hp) (l0 : Nat) (l1 : Int32) (l2 : Int32) (l3 : Int32) : Option (Int32) :=
  lp_Cn_restNumbered_6 tb fu h l0 l1 l2 l3 (0 : Int32) (0 : Int32)
set_option maxRecDepth 4000 in
set_option maxHeartbeats 1000000 in
theorem vjb_Cn_restNumbered_51 {E : En} {g : Gl} {tb : Tb} {ρ : Nat → Nat} (ok : TbOK tb) (hi : inj tb ρ) {r : Int32} (X : CX E g tb ρ prog_2_method_11_code 6 RC1 3 62) {h : Hp} (Y : CQ E g tb ρ (some .int) (some (.int r)) h) {c6 : Hp → Nat → Int32 → Int32 → Int32 → Int32 → Int32 → Option (Int32)} (H6 : ∀ (l0 : Nat) (l1 : Int32) (l2 : Int32) (l3 : Int32) (l4 : Int32) (l5 : Int32) (kl0 : kd tb l0 = 1), c6 h l0 l1 l2 l3 l4 l5 = some r → V E g tb ρ 6 6 [(0, .ref (ρ l0)), (1, .int l1), (2, .int l2), (3, .int l3), (4, .int l4), (5, .int l5)] [] h) (l0 : Nat) (l1 : Int32) (l2 : Int32) (l3 : Int32) (l4 : Int32) (l5 : Int32) (kl0 : kd tb l0 = 1) (hf : jb_Cn_restNumbered_51 tb c6 h l0 l1 l2 l3 l4 l5 = some r) : V E g tb ρ 6 51 [(0, .ref (ρ l0)), (1, .int l1), (2, .int l2), (3, .int l3), (4, .int l4), (5, .int l5)] [] h := by
  unfold jb_Cn_restNumbered_51 at hf
  obtain ⟨x1, ex1, hf⟩ := nmd_e hf
  refine v_iinc (pc := 51) (k := 5) (n := 1) (v := x1) (lv' := [(5, .int x1), (0, .ref (ρ l0)), (1, .int l1), (2, .int l2), (3, .int l3), (4, .int l4)]) X (by decide +kernel) 5 rfl (by rw [ic_1, ex1]) (Nat.le_of_ble_eq_true rfl) rfl ?_
  refine v_goto (pc := 54) (off := -48) (tgt := 6) X (by decide +kernel) (by decide) ?_
  refine v_sub [1, 2, 3, 4, 5, 0] rfl ?_
  exact H6 l0 l1 l2 l3 l4 x1 kl0 hf
set_option maxRecDepth 4000 in
set_option maxHeartbeats 1000000 in
theorem vlp_Cn_restNumbered_6 {E : En} {g : Gl} {tb : Tb} {ρ : Nat → Nat} (ok : TbOK tb) (hi : inj tb ρ) {r : Int32} (X : CX E g tb ρ prog_2_method_11_code 6 RC1 3 62) {h : Hp} (Y : CQ E g tb ρ (some .int) (some (.int r)) h) : ∀ (n : Nat) (l0 : Nat) (l1 : Int32) (l2 : Int32) (l3 : Int32) (l4 : Int32) (l5 : Int32) (kl0 : kd tb l0 = 1), lp_Cn_restNumbered_6 tb n h l0 l1 l2 l3 l4 l5 = some r → V E g tb ρ 6 6 [(0, .ref (ρ l0)), (1, .int l1), (2, .int l2), (3, .int l3), (4, .int l4), (5, .int l5)] [] h := by
  intro n
  induction n with
  | zero =>
    intro l0 l1 l2 l3 l4 l5 kl0 hf
    rw [lp_Cn_restNumbered_6] at hf
    cases hf
  | succ n ih =>
    intro l0 l1 l2 l3 l4 l5 kl0 hf
    rw [lp_Cn_restNumbered_6] at hf
    refine v_iload (pc := 6) (k := 5) X (by decide +kernel) 5 rfl ?_
    refine v_iconst (pc := 8) (n := 4) X (by decide +kernel) ic_4 ?_
    refine v_icmp_ge (pc := 9) (off := 48) (tgt := 57) X (by decide +kernel) (by decide) (fun q5 => ?_) (fun q5 => ?_)
    · rw [if_pos q5] at hf
      refine v_bipush (pc := 57) (n := -2) X (by decide +kernel) bi_m2 ?_
      cases hf
      exact v_iret X Y (by decide +kernel) rfl rfl
    · rw [if_neg q5] at hf
      refine v_aload_n (pc := 12) (k := 0) X (by decide +kernel) 0 rfl ?_
      refine v_iload_n (pc := 13) (k := 1) X (by decide +kernel) 1 rfl ?_
      refine v_iload_n (pc := 14) (k := 2) X (by decide +kernel) 2 rfl ?_
      refine v_iload (pc := 15) (k := 5) X (by decide +kernel) 5 rfl ?_
      refine v_iconst (pc := 17) (n := 2) X (by decide +kernel) ic_2 ?_
      refine v_idiv (pc := 18) X (if_neg (by decide)) (by decide +kernel) ?_
      refine v_iload (pc := 19) (k := 5) X (by decide +kernel) 5 rfl ?_
      refine v_iconst (pc := 21) (n := 2) X (by decide +kernel) ic_2 ?_
      refine v_irem (pc := 22) X (if_neg (by decide)) (by decide +kernel) ?_
      obtain ⟨r1, er1, hf⟩ := bnd_e hf
      refine v_callV (pc := 23) (As := [.int l1, .int l2, .int (l5 / (2 : Int32)), .int (l5 - l5 / (2 : Int32) * (2 : Int32))]) (rest := []) X (mt_Cn_isRest ok hi kl0 er1) ml_1_99 mv_Cn_isRest kl0 cls_1 rfl ⟨Nat.le_of_ble_eq_true rfl, Nat.le_of_ble_eq_true rfl⟩ rfl rfl (Nat.le_of_ble_eq_true rfl) (by decide +kernel) ?_
      change V E g tb ρ 6 26 [(0, .ref (ρ l0)), (1, .int l1), (2, .int l2), (3, .int l3), (4, .int l4), (5, .int l5)] [.int r1] h
      refine v_if_eq (pc := 26) (off := 25) (tgt := 51) X (by decide +kernel) (by decide) (fun q4 => ?_) (fun q4 => ?_)
      · rw [if_pos q4] at hf
        exact vjb_Cn_restNumbered_51 ok hi X Y ih l0 l1 l2 l3 l4 l5 kl0 hf
      · rw [if_neg q4] at hf
        refine v_iload (pc := 29) (k := 4) X (by decide +kernel) 4 rfl ?_
        refine v_iload_n (pc := 31) (k := 3) X (by decide +kernel) 3 rfl ?_
        refine v_icmp_ne (pc := 32) (off := 16) (tgt := 48) X (by decide +kernel) (by decide) (fun q3 => ?_) (fun q3 => ?_)
        · rw [if_neg q3] at hf
          obtain ⟨x2, ex2, hf⟩ := nmd_e hf
          refine v_iinc (pc := 48) (k := 4) (n := 1) (v := x2) (lv' := [(4, .int x2), (0, .ref (ρ l0)), (1, .int l1), (2, .int l2), (3, .int l3), (5, .int l5)]) X (by decide +kernel) 4 rfl (by rw [ic_1, ex2]) (Nat.le_of_ble_eq_true rfl) rfl ?_
          refine v_sub [1, 2, 3, 4, 0, 5] rfl ?_
          exact vjb_Cn_restNumbered_51 ok hi X Y ih l0 l1 l2 l3 x2 l5 kl0 hf
        · rw [if_pos q3] at hf
          refine v_iload (pc := 35) (k := 5) X (by decide +kernel) 5 rfl ?_
          refine v_iconst (pc := 37) (n := 2) X (by decide +kernel) ic_2 ?_
          refine v_idiv (pc := 38) X (if_neg (by decide)) (by decide +kernel) ?_
          refine v_bipush (pc := 39) (n := 10) X (by decide +kernel) bi_10 ?_
          refine v_imul (pc := 41) X (by decide +kernel) ?_
          refine v_iload (pc := 42) (k := 5) X (by decide +kernel) 5 rfl ?_
          refine v_iconst (pc := 44) (n := 2) X (by decide +kernel) ic_2 ?_
          refine v_irem (pc := 45) X (if_neg (by decide)) (by decide +kernel) ?_
          refine v_iadd (pc := 46) X (by decide +kernel) ?_
          cases hf
          exact v_iret X Y (by decide +kernel) rfl rfl
set_option maxRecDepth 4000 in
set_option maxHeartbeats 1000000 in
theorem mt_Cn_restNumbered {g : Gl} {tb : Tb} {ρ : Nat → Nat} (ok : TbOK tb) (hi : inj tb ρ) {h : Hp} {l0 : Nat} {l1 : Int32} {l2 : Int32} {l3 : Int32} (kl0 : kd tb l0 = 1) {r : Int32} (hf : f_Cn_restNumbered tb h l0 l1 l2 l3 = some r) : MT g y_Cn_restNumbered prog_2_method_11_code 6 (some .int) 3 62 tb ρ [.ref (ρ l0), .int l1, .int l2, .int l3] h (some (.int r)) h := by
  refine mt_intro (by decide +kernel) ok hi (Nat.le_of_ble_eq_true rfl) (fun E X Y => ?_)
  change V E g tb ρ 6 0 [(0, .ref (ρ l0)), (1, .int l1), (2, .int l2), (3, .int l3)] [] h
  unfold f_Cn_restNumbered at hf
  refine v_iconst (pc := 0) (n := 0) X (by decide +kernel) ic_0 ?_
  refine v_istore (pc := 1) (k := 4) (lv' := [(4, .int (0 : Int32)), (0, .ref (ρ l0)), (1, .int l1), (2, .int l2), (3, .int l3)]) X (by decide +kernel) (Nat.le_of_ble_eq_true rfl) rfl ?_
  refine v_iconst (pc := 3) (n := 0) X (by decide +kernel) ic_0 ?_
  refine v_istore (pc := 4) (k := 5) (lv' := [(5, .int (0 : Int32)), (4, .int (0 : Int32)), (0, .ref (ρ l0)), (1, .int l1), (2, .int l2), (3, .int l3)]) X (by decide +kernel) (Nat.le_of_ble_eq_true rfl) rfl ?_
  refine v_sub [2, 3, 4, 5, 1, 0] rfl ?_
  exact vlp_Cn_restNumbered_6 ok hi X Y fu l0 l1 l2 l3 (0 : Int32) (0 : Int32) kl0 hf
def f_Tt_rest (tb : Tb) (h : Hp) (l0 : Nat) (l1 : Int32) (l2 : Int32) (l3 : Int32) : Option (Int32) :=
  if l3 < (0 : Int32) then (
    some (-1 : Int32)
  ) else (
    nmd (f_Tt_areTwo tb h l0 l1 l2) fun r1 =>
    if r1 = (0 : Int32) then (
      some (-1 : Int32)
    ) else (
      (f_Cn_restNumbered tb h (lay tb l0 11) l1 l2 l3).bind fun r2 =>
      some r2
    )
  )
set_option maxRecDepth 4000 in
set_option maxHeartbeats 1000000 in
theorem mt_Tt_rest {g : Gl} {tb : Tb} {ρ : Nat → Nat} (ok : TbOK tb) (hi : inj tb ρ) {h : Hp} {l0 : Nat} {l1 : Int32} {l2 : Int32} {l3 : Int32} (kl0 : kd tb l0 = 0) {r : Int32} (hf : f_Tt_rest tb h l0 l1 l2 l3 = some r) : MT g y_Tt_rest prog_1_method_26_code 4 (some .int) 4 87 tb ρ [.ref (ρ l0), .int l1, .int l2, .int l3] h (some (.int r)) h := by
  refine mt_intro (by decide +kernel) ok hi (Nat.le_of_ble_eq_true rfl) (fun E X Y => ?_)
  change V E g tb ρ 4 0 [(0, .ref (ρ l0)), (1, .int l1), (2, .int l2), (3, .int l3)] [] h
  unfold f_Tt_rest at hf
  refine v_iload_n (pc := 0) (k := 3) X (by decide +kernel) 3 rfl ?_
  refine v_if_lt (pc := 1) (off := 25) (tgt := 26) X (by decide +kernel) (by decide) (fun q4 => ?_) (fun q4 => ?_)
  · rw [if_pos q4] at hf
    refine v_iconst (pc := 26) (n := -1) X (by decide +kernel) ic_m1 ?_
    cases hf
    exact v_iret X Y (by decide +kernel) rfl rfl
  · rw [if_neg q4] at hf
    refine v_aload_n (pc := 4) (k := 0) X (by decide +kernel) 0 rfl ?_
    refine v_iload_n (pc := 5) (k := 1) X (by decide +kernel) 1 rfl ?_
    refine v_iload_n (pc := 6) (k := 2) X (by decide +kernel) 2 rfl ?_
    obtain ⟨r1, er1, hf⟩ := nmd_e hf
    refine v_callV (pc := 7) (As := [.int l1, .int l2]) (rest := []) X (mt_Tt_areTwo ok hi kl0 er1.symm) ml_0_266 mv_Tt_areTwo kl0 cls_0 rfl ⟨Nat.le_of_ble_eq_true rfl, Nat.le_of_ble_eq_true rfl⟩ rfl rfl (Nat.le_of_ble_eq_true rfl) (by decide +kernel) ?_
    change V E g tb ρ 4 10 [(0, .ref (ρ l0)), (1, .int l1), (2, .int l2), (3, .int l3)] [.int r1] h
    refine v_if_eq (pc := 10) (off := 16) (tgt := 26) X (by decide +kernel) (by decide) (fun q3 => ?_) (fun q3 => ?_)
    · rw [if_pos q3] at hf
      refine v_iconst (pc := 26) (n := -1) X (by decide +kernel) ic_m1 ?_
      cases hf
      exact v_iret X Y (by decide +kernel) rfl rfl
    · rw [if_neg q3] at hf
      refine v_aload_n (pc := 13) (k := 0) X (by decide +kernel) 0 rfl ?_
      refine v_geta (pc := 14) X fl_0_86 kl0 fk_0_11 (by decide +kernel) ?_
      refine v_iload_n (pc := 17) (k := 1) X (by decide +kernel) 1 rfl ?_
      refine v_iload_n (pc := 18) (k := 2) X (by decide +kernel) 2 rfl ?_
      refine v_iload_n (pc := 19) (k := 3) X (by decide +kernel) 3 rfl ?_
      obtain ⟨r2, er2, hf⟩ := bnd_e hf
      refine v_callV (pc := 20) (As := [.int l1, .int l2, .int l3]) (rest := []) X (mt_Cn_restNumbered ok hi (ly_0_11 ok kl0) er2) ml_0_272 mv_Cn_restNumbered (ly_0_11 ok kl0) cls_1 rfl ⟨Nat.le_of_ble_eq_true rfl, Nat.le_of_ble_eq_true rfl⟩ rfl rfl (Nat.le_of_ble_eq_true rfl) (by decide +kernel) ?_
      change V E g tb ρ 4 23 [(0, .ref (ρ l0)), (1, .int l1), (2, .int l2), (3, .int l3)] [.int r2] h
      refine v_goto (pc := 23) (off := 4) (tgt := 27) X (by decide +kernel) (by decide) ?_
      cases hf
      exact v_iret X Y (by decide +kernel) rfl rfl
def lp_Tt_greatestShared_7 (tb : Tb) : Nat → Hp → Int32 → Int32 → Int32 → Option (Int32)
  | 0, _, _, _, _ => none
  | n + 1, h, l2, l3, l4 =>
    if (64 : Int32) ≤ l4 then (
      some l2
    ) else (
      if l3 = (0 : Int32) then (
        some l2
      ) else (
        (mI l2 l3).bind fun x1 =>
        nmd (l4 + (1 : Int32)) fun x2 =>
        lp_Tt_greatestShared_7 tb n h l3 x1 x2
      )
    )
def f_Tt_greatestShared (tb : Tb) (h : Hp) (l0 : Int32) (l1 : Int32) : Option (Int32) :=
  lp_Tt_greatestShared_7 tb fu h l0 l1 (0 : Int32)
set_option maxRecDepth 4000 in
set_option maxHeartbeats 1000000 in
theorem vlp_Tt_greatestShared_7 {E : En} {g : Gl} {tb : Tb} {ρ : Nat → Nat} (ok : TbOK tb) (hi : inj tb ρ) {r : Int32} (X : CX E g tb ρ prog_1_method_29_code 6 RC0 0 0) {h : Hp} (Y : CQ E g tb ρ (some .int) (some (.int r)) h) : ∀ (n : Nat) (l2 : Int32) (l3 : Int32) (l4 : Int32), lp_Tt_greatestShared_7 tb n h l2 l3 l4 = some r → V E g tb ρ 6 7 [(2, .int l2), (3, .int l3), (4, .int l4)] [] h := by
  intro n
  induction n with
  | zero =>
    intro l2 l3 l4 hf
    rw [lp_Tt_greatestShared_7] at hf
    cases hf
  | succ n ih =>
    intro l2 l3 l4 hf
    rw [lp_Tt_greatestShared_7] at hf
    refine v_iload (pc := 7) (k := 4) X (by decide +kernel) 2 rfl ?_
    refine v_bipush (pc := 9) (n := 64) X (by decide +kernel) bi_64 ?_
    refine v_icmp_ge (pc := 11) (off := 23) (tgt := 34) X (by decide +kernel) (by decide) (fun q4 => ?_) (fun q4 => ?_)
    · rw [if_pos q4] at hf
      refine v_iload_n (pc := 34) (k := 2) X (by decide +kernel) 0 rfl ?_
      cases hf
      exact v_iret X Y (by decide +kernel) rfl rfl
    · rw [if_neg q4] at hf
      refine v_iload_n (pc := 14) (k := 3) X (by decide +kernel) 1 rfl ?_
      refine v_if_eq (pc := 15) (off := 19) (tgt := 34) X (by decide +kernel) (by decide) (fun q3 => ?_) (fun q3 => ?_)
      · rw [if_pos q3] at hf
        refine v_iload_n (pc := 34) (k := 2) X (by decide +kernel) 0 rfl ?_
        cases hf
        exact v_iret X Y (by decide +kernel) rfl rfl
      · rw [if_neg q3] at hf
        refine v_iload_n (pc := 18) (k := 2) X (by decide +kernel) 0 rfl ?_
        refine v_iload_n (pc := 19) (k := 3) X (by decide +kernel) 1 rfl ?_
        obtain ⟨x1, ex1, hf⟩ := bnd_e hf
        refine v_irem (pc := 20) X ex1 (by decide +kernel) ?_
        refine v_istore (pc := 21) (k := 5) (lv' := [(5, .int x1), (2, .int l2), (3, .int l3), (4, .int l4)]) X (by decide +kernel) (Nat.le_of_ble_eq_true rfl) rfl ?_
        refine v_iload_n (pc := 23) (k := 3) X (by decide +kernel) 2 rfl ?_
        refine v_istore_n (pc := 24) (k := 2) (lv' := [(2, .int l3), (5, .int x1), (3, .int l3), (4, .int l4)]) X (by decide +kernel) (Nat.le_of_ble_eq_true rfl) rfl ?_
        refine v_iload (pc := 25) (k := 5) X (by decide +kernel) 1 rfl ?_
        refine v_istore_n (pc := 27) (k := 3) (lv' := [(3, .int x1), (2, .int l3), (5, .int x1), (4, .int l4)]) X (by decide +kernel) (Nat.le_of_ble_eq_true rfl) rfl ?_
        obtain ⟨x2, ex2, hf⟩ := nmd_e hf
        refine v_iinc (pc := 28) (k := 4) (n := 1) (v := x2) (lv' := [(4, .int x2), (3, .int x1), (2, .int l3), (5, .int x1)]) X (by decide +kernel) 3 rfl (by rw [ic_1, ex2]) (Nat.le_of_ble_eq_true rfl) rfl ?_
        refine v_goto (pc := 31) (off := -24) (tgt := 7) X (by decide +kernel) (by decide) ?_
        refine v_sub [2, 1, 0] rfl ?_
        exact ih l3 x1 x2 hf
set_option maxRecDepth 4000 in
set_option maxHeartbeats 1000000 in
theorem mt_Tt_greatestShared {g : Gl} {tb : Tb} {ρ : Nat → Nat} (ok : TbOK tb) (hi : inj tb ρ) {h : Hp} {l0 : Int32} {l1 : Int32}  {r : Int32} (hf : f_Tt_greatestShared tb h l0 l1 = some r) : MT g y_Tt_greatestShared prog_1_method_29_code 6 (some .int) 0 0 tb ρ [.int l0, .int l1] h (some (.int r)) h := by
  refine mt_intro (by decide +kernel) ok hi (Nat.le_of_ble_eq_true rfl) (fun E X Y => ?_)
  change V E g tb ρ 6 0 [(0, .int l0), (1, .int l1)] [] h
  unfold f_Tt_greatestShared at hf
  refine v_iload_n (pc := 0) (k := 0) X (by decide +kernel) 0 rfl ?_
  refine v_istore_n (pc := 1) (k := 2) (lv' := [(2, .int l0), (0, .int l0), (1, .int l1)]) X (by decide +kernel) (Nat.le_of_ble_eq_true rfl) rfl ?_
  refine v_iload_n (pc := 2) (k := 1) X (by decide +kernel) 2 rfl ?_
  refine v_istore_n (pc := 3) (k := 3) (lv' := [(3, .int l1), (2, .int l0), (0, .int l0), (1, .int l1)]) X (by decide +kernel) (Nat.le_of_ble_eq_true rfl) rfl ?_
  refine v_iconst (pc := 4) (n := 0) X (by decide +kernel) ic_0 ?_
  refine v_istore (pc := 5) (k := 4) (lv' := [(4, .int (0 : Int32)), (3, .int l1), (2, .int l0), (0, .int l0), (1, .int l1)]) X (by decide +kernel) (Nat.le_of_ble_eq_true rfl) rfl ?_
  refine v_sub [2, 1, 0] rfl ?_
  exact vlp_Tt_greatestShared_7 ok hi X Y fu l0 l1 (0 : Int32) hf
def lp_Tt_staysDry_72 (tb : Tb) : Nat → Hp → Int32 → Int32 → Int64 → Int32 → Option (Int64)
  | 0, _, _, _, _, _ => none
  | n + 1, h, l1, l5, l6, l8 =>
    if l1 ≤ l8 then (
      some l6
    ) else (
      nmd (l6 * (l5.toInt64)) fun x1 =>
      nmd (l8 + (1 : Int32)) fun x2 =>
      lp_Tt_staysDry_72 tb n h l1 l5 x1 x2
    )
def jb_Tt_staysDry_61 (tb : Tb) (h : Hp) (l1 : Int32) (l4 : Int32) (s0 : Int32) : Option (Int64) :=
  (dI s0 l4).bind fun x1 =>
  lp_Tt_staysDry_72 tb fu h l1 x1 (1 : Int64) (0 : Int32)
def f_Tt_staysDry (tb : Tb) (h : Hp) (l0 : Nat) (l1 : Int32) (l2 : Int32) : Option (Int64) :=
  if l1 < (0 : Int32) then (
    some (-1 : Int64)
  ) else (
    if (6 : Int32) < l1 then (
      some (-1 : Int64)
    ) else (
      if l2 < (0 : Int32) then (
        some (-1 : Int64)
      ) else (
        if l2 ≤ (1 : Int32) then (
          nmd ((100 : Int32) - (h.1 (lay tb l0 3) 1)) fun x1 =>
          (f_Tt_greatestShared tb h (100 : Int32) x1).bind fun r2 =>
          if r2 = (0 : Int32) then (
            some (-1 : Int64)
          ) else (
            if l2 = (0 : Int32) then (
              jb_Tt_staysDry_61 tb h l1 r2 x1
            ) else (
              jb_Tt_staysDry_61 tb h l1 r2 (100 : Int32)
            )
          )
        ) else (
          some (-1 : Int64)
        )
      )
    )
  )
set_option maxRecDepth 4000 in
set_option maxHeartbeats 1000000 in
theorem vlp_Tt_staysDry_72 {E : En} {g : Gl} {tb : Tb} {ρ : Nat → Nat} (ok : TbOK tb) (hi : inj tb ρ) {r : Int64} (X : CX E g tb ρ prog_1_method_28_code 9 RC0 1 25) {h : Hp} (Y : CQ E g tb ρ (some .long) (some (.long r)) h) : ∀ (n : Nat) (l1 : Int32) (l5 : Int32) (l6 : Int64) (l8 : Int32), lp_Tt_staysDry_72 tb n h l1 l5 l6 l8 = some r → V E g tb ρ 9 72 [(1, .int l1), (5, .int l5), (6, .long l6), (8, .int l8)] [] h := by
  intro n
  induction n with
  | zero =>
    intro l1 l5 l6 l8 hf
    rw [lp_Tt_staysDry_72] at hf
    cases hf
  | succ n ih =>
    intro l1 l5 l6 l8 hf
    rw [lp_Tt_staysDry_72] at hf
    refine v_iload (pc := 72) (k := 8) X (by decide +kernel) 3 rfl ?_
    refine v_iload_n (pc := 74) (k := 1) X (by decide +kernel) 0 rfl ?_
    refine v_icmp_ge (pc := 75) (off := 17) (tgt := 92) X (by decide +kernel) (by decide) (fun q3 => ?_) (fun q3 => ?_)
    · rw [if_pos q3] at hf
      refine v_lload (pc := 92) (k := 6) X (by decide +kernel) 2 rfl ?_
      cases hf
      exact v_lret X Y (by decide +kernel) rfl rfl
    · rw [if_neg q3] at hf
      refine v_lload (pc := 78) (k := 6) X (by decide +kernel) 2 rfl ?_
      refine v_iload (pc := 80) (k := 5) X (by decide +kernel) 1 rfl ?_
      refine v_i2l (pc := 82) X (by decide +kernel) ?_
      refine v_lmul (pc := 83) X (by decide +kernel) ?_
      obtain ⟨x1, ex1, hf⟩ := nmd_e hf
      refine v_nml ex1 ?_
      refine v_lstore (pc := 84) (k := 6) (lv' := [(6, .long x1), (1, .int l1), (5, .int l5), (8, .int l8)]) X (by decide +kernel) (Nat.le_of_ble_eq_true rfl) rfl ?_
      obtain ⟨x2, ex2, hf⟩ := nmd_e hf
      refine v_iinc (pc := 86) (k := 8) (n := 1) (v := x2) (lv' := [(8, .int x2), (6, .long x1), (1, .int l1), (5, .int l5)]) X (by decide +kernel) 3 rfl (by rw [ic_1, ex2]) (Nat.le_of_ble_eq_true rfl) rfl ?_
      refine v_goto (pc := 89) (off := -17) (tgt := 72) X (by decide +kernel) (by decide) ?_
      refine v_sub [2, 3, 1, 0] rfl ?_
      exact ih l1 l5 x1 x2 hf
set_option maxRecDepth 4000 in
set_option maxHeartbeats 1000000 in
theorem vjb_Tt_staysDry_61 {E : En} {g : Gl} {tb : Tb} {ρ : Nat → Nat} (ok : TbOK tb) (hi : inj tb ρ) {r : Int64} (X : CX E g tb ρ prog_1_method_28_code 9 RC0 1 25) {h : Hp} (Y : CQ E g tb ρ (some .long) (some (.long r)) h) (l1 : Int32) (l4 : Int32) (s0 : Int32) (hf : jb_Tt_staysDry_61 tb h l1 l4 s0 = some r) : V E g tb ρ 9 61 [(1, .int l1), (4, .int l4)] [.int s0] h := by
  unfold jb_Tt_staysDry_61 at hf
  refine v_iload (pc := 61) (k := 4) X (by decide +kernel) 1 rfl ?_
  obtain ⟨x1, ex1, hf⟩ := bnd_e hf
  refine v_idiv (pc := 63) X ex1 (by decide +kernel) ?_
  refine v_istore (pc := 64) (k := 5) (lv' := [(5, .int x1), (1, .int l1), (4, .int l4)]) X (by decide +kernel) (Nat.le_of_ble_eq_true rfl) rfl ?_
  refine v_lconst (pc := 66) (n := 1) X (by decide +kernel) lc_1 ?_
  refine v_lstore (pc := 67) (k := 6) (lv' := [(6, .long (1 : Int64)), (5, .int x1), (1, .int l1), (4, .int l4)]) X (by decide +kernel) (Nat.le_of_ble_eq_true rfl) rfl ?_
  refine v_iconst (pc := 69) (n := 0) X (by decide +kernel) ic_0 ?_
  refine v_istore (pc := 70) (k := 8) (lv' := [(8, .int (0 : Int32)), (6, .long (1 : Int64)), (5, .int x1), (1, .int l1), (4, .int l4)]) X (by decide +kernel) (Nat.le_of_ble_eq_true rfl) rfl ?_
  refine v_sub [3, 2, 1, 0] rfl ?_
  exact vlp_Tt_staysDry_72 ok hi X Y fu l1 x1 (1 : Int64) (0 : Int32) hf
set_option maxRecDepth 4000 in
set_option maxHeartbeats 1000000 in
theorem mt_Tt_staysDry {g : Gl} {tb : Tb} {ρ : Nat → Nat} (ok : TbOK tb) (hi : inj tb ρ) {h : Hp} {l0 : Nat} {l1 : Int32} {l2 : Int32} (kl0 : kd tb l0 = 0) {r : Int64} (hf : f_Tt_staysDry tb h l0 l1 l2 = some r) : MT g y_Tt_staysDry prog_1_method_28_code 9 (some .long) 1 25 tb ρ [.ref (ρ l0), .int l1, .int l2] h (some (.long r)) h := by
  refine mt_intro (by decide +kernel) ok hi (Nat.le_of_ble_eq_true rfl) (fun E X Y => ?_)
  change V E g tb ρ 9 0 [(0, .ref (ρ l0)), (1, .int l1), (2, .int l2)] [] h
  unfold f_Tt_staysDry at hf
  refine v_iload_n (pc := 0) (k := 1) X (by decide +kernel) 1 rfl ?_
  refine v_if_lt (pc := 1) (off := 18) (tgt := 19) X (by decide +kernel) (by decide) (fun q8 => ?_) (fun q8 => ?_)
  · rw [if_pos q8] at hf
    refine v_ldc2 (pc := 19) X (by decide +kernel) kl_0_276 ?_
    cases hf
    exact v_lret X Y (by decide +kernel) rfl rfl
  · rw [if_neg q8] at hf
    refine v_iload_n (pc := 4) (k := 1) X (by decide +kernel) 1 rfl ?_
    refine v_bipush (pc := 5) (n := 6) X (by decide +kernel) bi_6 ?_
    refine v_icmp_gt (pc := 7) (off := 12) (tgt := 19) X (by decide +kernel) (by decide) (fun q7 => ?_) (fun q7 => ?_)
    · rw [if_pos q7] at hf
      refine v_ldc2 (pc := 19) X (by decide +kernel) kl_0_276 ?_
      cases hf
      exact v_lret X Y (by decide +kernel) rfl rfl
    · rw [if_neg q7] at hf
      refine v_iload_n (pc := 10) (k := 2) X (by decide +kernel) 2 rfl ?_
      refine v_if_lt (pc := 11) (off := 8) (tgt := 19) X (by decide +kernel) (by decide) (fun q6 => ?_) (fun q6 => ?_)
      · rw [if_pos q6] at hf
        refine v_ldc2 (pc := 19) X (by decide +kernel) kl_0_276 ?_
        cases hf
        exact v_lret X Y (by decide +kernel) rfl rfl
      · rw [if_neg q6] at hf
        refine v_iload_n (pc := 14) (k := 2) X (by decide +kernel) 2 rfl ?_
        refine v_iconst (pc := 15) (n := 1) X (by decide +kernel) ic_1 ?_
        refine v_icmp_le (pc := 16) (off := 7) (tgt := 23) X (by decide +kernel) (by decide) (fun q5 => ?_) (fun q5 => ?_)
        · rw [if_pos q5] at hf
          refine v_bipush (pc := 23) (n := 100) X (by decide +kernel) bi_100 ?_
          refine v_aload_n (pc := 25) (k := 0) X (by decide +kernel) 0 rfl ?_
          refine v_geta (pc := 26) X fl_0_31 kl0 fk_0_3 (by decide +kernel) ?_
          refine v_geti (pc := 29) X fl_0_278 (ly_0_3 ok kl0) rfl (by decide +kernel) ?_
          refine v_isub (pc := 32) X (by decide +kernel) ?_
          obtain ⟨x1, ex1, hf⟩ := nmd_e hf
          refine v_nmi ex1 ?_
          refine v_istore_n (pc := 33) (k := 3) (lv' := [(3, .int x1), (0, .ref (ρ l0)), (1, .int l1), (2, .int l2)]) X (by decide +kernel) (Nat.le_of_ble_eq_true rfl) rfl ?_
          refine v_bipush (pc := 34) (n := 100) X (by decide +kernel) bi_100 ?_
          refine v_iload_n (pc := 36) (k := 3) X (by decide +kernel) 0 rfl ?_
          obtain ⟨r2, er2, hf⟩ := bnd_e hf
          refine v_callS (pc := 37) (As := [.int (100 : Int32), .int x1]) (rest := []) X (mt_Tt_greatestShared ok hi er2) ml_0_281 ms_Tt_greatestShared ⟨Nat.le_of_ble_eq_true rfl, Nat.le_of_ble_eq_true rfl⟩ rfl rfl (Nat.le_of_ble_eq_true rfl) (by decide +kernel) ?_
          change V E g tb ρ 9 40 [(3, .int x1), (0, .ref (ρ l0)), (1, .int l1), (2, .int l2)] [.int r2] h
          refine v_istore (pc := 40) (k := 4) (lv' := [(4, .int r2), (3, .int x1), (0, .ref (ρ l0)), (1, .int l1), (2, .int l2)]) X (by decide +kernel) (Nat.le_of_ble_eq_true rfl) rfl ?_
          refine v_iload (pc := 42) (k := 4) X (by decide +kernel) 0 rfl ?_
          refine v_if_ne (pc := 44) (off := 7) (tgt := 51) X (by decide +kernel) (by decide) (fun q4 => ?_) (fun q4 => ?_)
          · rw [if_neg q4] at hf
            refine v_iload_n (pc := 51) (k := 2) X (by decide +kernel) 4 rfl ?_
            refine v_if_ne (pc := 52) (off := 7) (tgt := 59) X (by decide +kernel) (by decide) (fun q3 => ?_) (fun q3 => ?_)
            · rw [if_neg q3] at hf
              refine v_bipush (pc := 59) (n := 100) X (by decide +kernel) bi_100 ?_
              refine v_sub [3, 0] rfl ?_
              exact vjb_Tt_staysDry_61 ok hi X Y l1 r2 (100 : Int32) hf
            · rw [if_pos q3] at hf
              refine v_iload_n (pc := 55) (k := 3) X (by decide +kernel) 1 rfl ?_
              refine v_goto (pc := 56) (off := 5) (tgt := 61) X (by decide +kernel) (by decide) ?_
              refine v_sub [3, 0] rfl ?_
              exact vjb_Tt_staysDry_61 ok hi X Y l1 r2 x1 hf
          · rw [if_pos q4] at hf
            refine v_ldc2 (pc := 47) X (by decide +kernel) kl_0_276 ?_
            cases hf
            exact v_lret X Y (by decide +kernel) rfl rfl
        · rw [if_neg q5] at hf
          refine v_ldc2 (pc := 19) X (by decide +kernel) kl_0_276 ?_
          cases hf
          exact v_lret X Y (by decide +kernel) rfl rfl
def f_Tt_peace (tb : Tb) (h : Hp) (l0 : Nat) (l1 : Int32) (l2 : Int32) : Int32 :=
  if l1 < (0 : Int32) then (
    (-1 : Int32)
  ) else (
    if (4 : Int32) ≤ l1 then (
      (-1 : Int32)
    ) else (
      if l2 < (0 : Int32) then (
        (-1 : Int32)
      ) else (
        if (4 : Int32) ≤ l2 then (
          (-1 : Int32)
        ) else (
          if l1 = l2 then (
            (-1 : Int32)
          ) else (
            nmd (f_Wo_pairOf tb h l1 l2) fun r1 =>
            if ((h.1 (lay tb l0 4) 6) &&& r1) = (0 : Int32) then (
              (0 : Int32)
            ) else (
              if ((h.1 (lay tb l0 4) 7) &&& r1) = (0 : Int32) then (
                (1 : Int32)
              ) else (
                (0 : Int32)
              )
            )
          )
        )
      )
    )
  )
set_option maxRecDepth 4000 in
set_option maxHeartbeats 1000000 in
theorem mt_Tt_peace {g : Gl} {tb : Tb} {ρ : Nat → Nat} (ok : TbOK tb) (hi : inj tb ρ) {h : Hp} {l0 : Nat} {l1 : Int32} {l2 : Int32} (kl0 : kd tb l0 = 0) {r : Int32} (hf : f_Tt_peace tb h l0 l1 l2 = r) : MT g y_Tt_peace prog_1_method_30_code 4 (some .int) 2 36 tb ρ [.ref (ρ l0), .int l1, .int l2] h (some (.int r)) h := by
  refine mt_intro (by decide +kernel) ok hi (Nat.le_of_ble_eq_true rfl) (fun E X Y => ?_)
  change V E g tb ρ 4 0 [(0, .ref (ρ l0)), (1, .int l1), (2, .int l2)] [] h
  unfold f_Tt_peace at hf
  refine v_iload_n (pc := 0) (k := 1) X (by decide +kernel) 1 rfl ?_
  refine v_if_lt (pc := 1) (off := 22) (tgt := 23) X (by decide +kernel) (by decide) (fun q8 => ?_) (fun q8 => ?_)
  · rw [if_pos q8] at hf
    refine v_iconst (pc := 23) (n := -1) X (by decide +kernel) ic_m1 ?_
    cases hf
    exact v_iret X Y (by decide +kernel) rfl rfl
  · rw [if_neg q8] at hf
    refine v_iload_n (pc := 4) (k := 1) X (by decide +kernel) 1 rfl ?_
    refine v_iconst (pc := 5) (n := 4) X (by decide +kernel) ic_4 ?_
    refine v_icmp_ge (pc := 6) (off := 17) (tgt := 23) X (by decide +kernel) (by decide) (fun q7 => ?_) (fun q7 => ?_)
    · rw [if_pos q7] at hf
      refine v_iconst (pc := 23) (n := -1) X (by decide +kernel) ic_m1 ?_
      cases hf
      exact v_iret X Y (by decide +kernel) rfl rfl
    · rw [if_neg q7] at hf
      refine v_iload_n (pc := 9) (k := 2) X (by decide +kernel) 2 rfl ?_
      refine v_if_lt (pc := 10) (off := 13) (tgt := 23) X (by decide +kernel) (by decide) (fun q6 => ?_) (fun q6 => ?_)
      · rw [if_pos q6] at hf
        refine v_iconst (pc := 23) (n := -1) X (by decide +kernel) ic_m1 ?_
        cases hf
        exact v_iret X Y (by decide +kernel) rfl rfl
      · rw [if_neg q6] at hf
        refine v_iload_n (pc := 13) (k := 2) X (by decide +kernel) 2 rfl ?_
        refine v_iconst (pc := 14) (n := 4) X (by decide +kernel) ic_4 ?_
        refine v_icmp_ge (pc := 15) (off := 8) (tgt := 23) X (by decide +kernel) (by decide) (fun q5 => ?_) (fun q5 => ?_)
        · rw [if_pos q5] at hf
          refine v_iconst (pc := 23) (n := -1) X (by decide +kernel) ic_m1 ?_
          cases hf
          exact v_iret X Y (by decide +kernel) rfl rfl
        · rw [if_neg q5] at hf
          refine v_iload_n (pc := 18) (k := 1) X (by decide +kernel) 1 rfl ?_
          refine v_iload_n (pc := 19) (k := 2) X (by decide +kernel) 2 rfl ?_
          refine v_icmp_ne (pc := 20) (off := 5) (tgt := 25) X (by decide +kernel) (by decide) (fun q4 => ?_) (fun q4 => ?_)
          · rw [if_neg q4] at hf
            refine v_iload_n (pc := 25) (k := 1) X (by decide +kernel) 1 rfl ?_
            refine v_iload_n (pc := 26) (k := 2) X (by decide +kernel) 2 rfl ?_
            obtain ⟨r1, er1, hf⟩ := nmd_e hf
            refine v_callS (pc := 27) (As := [.int l1, .int l2]) (rest := []) X (mt_Wo_pairOf ok hi er1.symm) ml_0_284 ms_Wo_pairOf ⟨Nat.le_of_ble_eq_true rfl, Nat.le_of_ble_eq_true rfl⟩ rfl rfl (Nat.le_of_ble_eq_true rfl) (by decide +kernel) ?_
            change V E g tb ρ 4 30 [(0, .ref (ρ l0)), (1, .int l1), (2, .int l2)] [.int r1] h
            refine v_istore_n (pc := 30) (k := 3) (lv' := [(3, .int r1), (0, .ref (ρ l0)), (1, .int l1), (2, .int l2)]) X (by decide +kernel) (Nat.le_of_ble_eq_true rfl) rfl ?_
            refine v_aload_n (pc := 31) (k := 0) X (by decide +kernel) 1 rfl ?_
            refine v_geta (pc := 32) X fl_0_38 kl0 fk_0_4 (by decide +kernel) ?_
            refine v_geti (pc := 35) X fl_0_287 (ly_0_4 ok kl0) rfl (by decide +kernel) ?_
            refine v_iload_n (pc := 38) (k := 3) X (by decide +kernel) 0 rfl ?_
            refine v_iand (pc := 39) X (by decide +kernel) ?_
            refine v_if_eq (pc := 40) (off := 19) (tgt := 59) X (by decide +kernel) (by decide) (fun q3 => ?_) (fun q3 => ?_)
            · rw [if_pos q3] at hf
              refine v_iconst (pc := 59) (n := 0) X (by decide +kernel) ic_0 ?_
              cases hf
              exact v_iret X Y (by decide +kernel) rfl rfl
            · rw [if_neg q3] at hf
              refine v_aload_n (pc := 43) (k := 0) X (by decide +kernel) 1 rfl ?_
              refine v_geta (pc := 44) X fl_0_38 kl0 fk_0_4 (by decide +kernel) ?_
              refine v_geti (pc := 47) X fl_0_290 (ly_0_4 ok kl0) rfl (by decide +kernel) ?_
              refine v_iload_n (pc := 50) (k := 3) X (by decide +kernel) 0 rfl ?_
              refine v_iand (pc := 51) X (by decide +kernel) ?_
              refine v_if_ne (pc := 52) (off := 7) (tgt := 59) X (by decide +kernel) (by decide) (fun q2 => ?_) (fun q2 => ?_)
              · rw [if_neg q2] at hf
                refine v_iconst (pc := 59) (n := 0) X (by decide +kernel) ic_0 ?_
                cases hf
                exact v_iret X Y (by decide +kernel) rfl rfl
              · rw [if_pos q2] at hf
                refine v_iconst (pc := 55) (n := 1) X (by decide +kernel) ic_1 ?_
                refine v_goto (pc := 56) (off := 4) (tgt := 60) X (by decide +kernel) (by decide) ?_
                cases hf
                exact v_iret X Y (by decide +kernel) rfl rfl
          · rw [if_pos q4] at hf
            refine v_iconst (pc := 23) (n := -1) X (by decide +kernel) ic_m1 ?_
            cases hf
            exact v_iret X Y (by decide +kernel) rfl rfl
def jb_Tt_thirstiest_54 (tb : Tb) (c7 : Hp → Nat → Int32 → Int32 → Int32 → Option (Int32)) (h : Hp) (l0 : Nat) (l1 : Int32) (l2 : Int32) (l3 : Int32) : Option (Int32) :=
  nmd (l3 + (1 : Int32)) fun x1 =>
  c7 h l0 l1 l2 x1
def lp_Tt_thirstiest_7 (tb : Tb) : Nat → Hp → Nat → Int32 → Int32 → Int32 → Option (Int32)
  | 0, _, _, _, _, _ => none
  | n + 1, h, l0, l1, l2, l3 =>
    if (h.1 (lay tb l0 3) 4) ≤ l3 then (
      some l1
    ) else (
      nmd (f_Wo_isOn tb h (lay tb l0 4) l3) fun r1 =>
      if r1 = (0 : Int32) then (
        jb_Tt_thirstiest_54 tb (lp_Tt_thirstiest_7 tb n) h l0 l1 l2 l3
      ) else (
        (rI tb h (lay tb (lay tb l0 4) 10) l3).bind fun x2 =>
        if x2 ≤ l2 then (
          jb_Tt_thirstiest_54 tb (lp_Tt_thirstiest_7 tb n) h l0 l1 l2 l3
        ) else (
          (rI tb h (lay tb (lay tb l0 4) 10) l3).bind fun x3 =>
          jb_Tt_thirstiest_54 tb (lp_Tt_thirstiest_7 tb n) h l0 l3 x3 l3
        )
      )
    )
def f_Tt_thirstiest (tb : Tb) (h : Hp) (l0 : Nat) : Option (Int32) :=
  lp_Tt_thirstiest_7 tb fu h l0 (-2 : Int32) (-1 : Int32) (0 : Int32)
set_option maxRecDepth 4000 in
set_option maxHeartbeats 1000000 in
theorem vjb_Tt_thirstiest_54 {E : En} {g : Gl} {tb : Tb} {ρ : Nat → Nat} (ok : TbOK tb) (hi : inj tb ρ) {r : Int32} (X : CX E g tb ρ prog_1_method_31_code 4 RC0 1 21) {h : Hp} (Y : CQ E g tb ρ (some .int) (some (.int r)) h) {c7 : Hp → Nat → Int32 → Int32 → Int32 → Option (Int32)} (H7 : ∀ (l0 : Nat) (l1 : Int32) (l2 : Int32) (l3 : Int32) (kl0 : kd tb l0 = 0), c7 h l0 l1 l2 l3 = some r → V E g tb ρ 4 7 [(0, .ref (ρ l0)), (1, .int l1), (2, .int l2), (3, .int l3)] [] h) (l0 : Nat) (l1 : Int32) (l2 : Int32) (l3 : Int32) (kl0 : kd tb l0 = 0) (hf : jb_Tt_thirstiest_54 tb c7 h l0 l1 l2 l3 = some r) : V E g tb ρ 4 54 [(0, .ref (ρ l0)), (1, .int l1), (2, .int l2), (3, .int l3)] [] h := by
  unfold jb_Tt_thirstiest_54 at hf
  obtain ⟨x1, ex1, hf⟩ := nmd_e hf
  refine v_iinc (pc := 54) (k := 3) (n := 1) (v := x1) (lv' := [(3, .int x1), (0, .ref (ρ l0)), (1, .int l1), (2, .int l2)]) X (by decide +kernel) 3 rfl (by rw [ic_1, ex1]) (Nat.le_of_ble_eq_true rfl) rfl ?_
  refine v_goto (pc := 57) (off := -50) (tgt := 7) X (by decide +kernel) (by decide) ?_
  refine v_sub [1, 2, 3, 0] rfl ?_
  exact H7 l0 l1 l2 x1 kl0 hf
set_option maxRecDepth 4000 in
set_option maxHeartbeats 1000000 in
theorem vlp_Tt_thirstiest_7 {E : En} {g : Gl} {tb : Tb} {ρ : Nat → Nat} (ok : TbOK tb) (hi : inj tb ρ) {r : Int32} (X : CX E g tb ρ prog_1_method_31_code 4 RC0 1 21) {h : Hp} (Y : CQ E g tb ρ (some .int) (some (.int r)) h) : ∀ (n : Nat) (l0 : Nat) (l1 : Int32) (l2 : Int32) (l3 : Int32) (kl0 : kd tb l0 = 0), lp_Tt_thirstiest_7 tb n h l0 l1 l2 l3 = some r → V E g tb ρ 4 7 [(0, .ref (ρ l0)), (1, .int l1), (2, .int l2), (3, .int l3)] [] h := by
  intro n
  induction n with
  | zero =>
    intro l0 l1 l2 l3 kl0 hf
    rw [lp_Tt_thirstiest_7] at hf
    cases hf
  | succ n ih =>
    intro l0 l1 l2 l3 kl0 hf
    rw [lp_Tt_thirstiest_7] at hf
    refine v_iload_n (pc := 7) (k := 3) X (by decide +kernel) 3 rfl ?_
    refine v_aload_n (pc := 8) (k := 0) X (by decide +kernel) 0 rfl ?_
    refine v_geta (pc := 9) X fl_0_31 kl0 fk_0_3 (by decide +kernel) ?_
    refine v_geti (pc := 12) X fl_0_129 (ly_0_3 ok kl0) rfl (by decide +kernel) ?_
    refine v_icmp_ge (pc := 15) (off := 45) (tgt := 60) X (by decide +kernel) (by decide) (fun q6 => ?_) (fun q6 => ?_)
    · rw [if_pos q6] at hf
      refine v_iload_n (pc := 60) (k := 1) X (by decide +kernel) 1 rfl ?_
      cases hf
      exact v_iret X Y (by decide +kernel) rfl rfl
    · rw [if_neg q6] at hf
      refine v_aload_n (pc := 18) (k := 0) X (by decide +kernel) 0 rfl ?_
      refine v_geta (pc := 19) X fl_0_38 kl0 fk_0_4 (by decide +kernel) ?_
      refine v_iload_n (pc := 22) (k := 3) X (by decide +kernel) 3 rfl ?_
      obtain ⟨r1, er1, hf⟩ := nmd_e hf
      refine v_callV (pc := 23) (As := [.int l3]) (rest := []) X (mt_Wo_isOn ok hi (ly_0_4 ok kl0) er1.symm) ml_0_156 mv_Wo_isOn (ly_0_4 ok kl0) cls_11 rfl ⟨Nat.le_of_ble_eq_true rfl, Nat.le_of_ble_eq_true rfl⟩ rfl rfl (Nat.le_of_ble_eq_true rfl) (by decide +kernel) ?_
      change V E g tb ρ 4 26 [(0, .ref (ρ l0)), (1, .int l1), (2, .int l2), (3, .int l3)] [.int r1] h
      refine v_if_eq (pc := 26) (off := 28) (tgt := 54) X (by decide +kernel) (by decide) (fun q5 => ?_) (fun q5 => ?_)
      · rw [if_pos q5] at hf
        exact vjb_Tt_thirstiest_54 ok hi X Y ih l0 l1 l2 l3 kl0 hf
      · rw [if_neg q5] at hf
        refine v_aload_n (pc := 29) (k := 0) X (by decide +kernel) 0 rfl ?_
        refine v_geta (pc := 30) X fl_0_38 kl0 fk_0_4 (by decide +kernel) ?_
        refine v_geta (pc := 33) X fl_0_144 (ly_0_4 ok kl0) fk_11_10 (by decide +kernel) ?_
        refine v_iload_n (pc := 36) (k := 3) X (by decide +kernel) 3 rfl ?_
        obtain ⟨x2, ex2, hf⟩ := bnd_e hf
        refine v_iald (pc := 37) X (ly_11_10 ok (ly_0_4 ok kl0)) ex2 (by decide +kernel) ?_
        refine v_iload_n (pc := 38) (k := 2) X (by decide +kernel) 2 rfl ?_
        refine v_icmp_le (pc := 39) (off := 15) (tgt := 54) X (by decide +kernel) (by decide) (fun q4 => ?_) (fun q4 => ?_)
        · rw [if_pos q4] at hf
          exact vjb_Tt_thirstiest_54 ok hi X Y ih l0 l1 l2 l3 kl0 hf
        · rw [if_neg q4] at hf
          refine v_iload_n (pc := 42) (k := 3) X (by decide +kernel) 3 rfl ?_
          refine v_istore_n (pc := 43) (k := 1) (lv' := [(1, .int l3), (0, .ref (ρ l0)), (2, .int l2), (3, .int l3)]) X (by decide +kernel) (Nat.le_of_ble_eq_true rfl) rfl ?_
          refine v_aload_n (pc := 44) (k := 0) X (by decide +kernel) 1 rfl ?_
          refine v_geta (pc := 45) X fl_0_38 kl0 fk_0_4 (by decide +kernel) ?_
          refine v_geta (pc := 48) X fl_0_144 (ly_0_4 ok kl0) fk_11_10 (by decide +kernel) ?_
          refine v_iload_n (pc := 51) (k := 3) X (by decide +kernel) 3 rfl ?_
          obtain ⟨x3, ex3, hf⟩ := bnd_e hf
          refine v_iald (pc := 52) X (ly_11_10 ok (ly_0_4 ok kl0)) ex3 (by decide +kernel) ?_
          refine v_istore_n (pc := 53) (k := 2) (lv' := [(2, .int x3), (1, .int l3), (0, .ref (ρ l0)), (3, .int l3)]) X (by decide +kernel) (Nat.le_of_ble_eq_true rfl) rfl ?_
          refine v_sub [2, 1, 0, 3] rfl ?_
          exact vjb_Tt_thirstiest_54 ok hi X Y ih l0 l3 x3 l3 kl0 hf
set_option maxRecDepth 4000 in
set_option maxHeartbeats 1000000 in
theorem mt_Tt_thirstiest {g : Gl} {tb : Tb} {ρ : Nat → Nat} (ok : TbOK tb) (hi : inj tb ρ) {h : Hp} {l0 : Nat} (kl0 : kd tb l0 = 0) {r : Int32} (hf : f_Tt_thirstiest tb h l0 = some r) : MT g y_Tt_thirstiest prog_1_method_31_code 4 (some .int) 1 21 tb ρ [.ref (ρ l0)] h (some (.int r)) h := by
  refine mt_intro (by decide +kernel) ok hi (Nat.le_of_ble_eq_true rfl) (fun E X Y => ?_)
  change V E g tb ρ 4 0 [(0, .ref (ρ l0))] [] h
  unfold f_Tt_thirstiest at hf
  refine v_bipush (pc := 0) (n := -2) X (by decide +kernel) bi_m2 ?_
  refine v_istore_n (pc := 2) (k := 1) (lv' := [(1, .int (-2 : Int32)), (0, .ref (ρ l0))]) X (by decide +kernel) (Nat.le_of_ble_eq_true rfl) rfl ?_
  refine v_iconst (pc := 3) (n := -1) X (by decide +kernel) ic_m1 ?_
  refine v_istore_n (pc := 4) (k := 2) (lv' := [(2, .int (-1 : Int32)), (1, .int (-2 : Int32)), (0, .ref (ρ l0))]) X (by decide +kernel) (Nat.le_of_ble_eq_true rfl) rfl ?_
  refine v_iconst (pc := 5) (n := 0) X (by decide +kernel) ic_0 ?_
  refine v_istore_n (pc := 6) (k := 3) (lv' := [(3, .int (0 : Int32)), (2, .int (-1 : Int32)), (1, .int (-2 : Int32)), (0, .ref (ρ l0))]) X (by decide +kernel) (Nat.le_of_ble_eq_true rfl) rfl ?_
  refine v_sub [3, 2, 1, 0] rfl ?_
  exact vlp_Tt_thirstiest_7 ok hi X Y fu l0 (-2 : Int32) (-1 : Int32) (0 : Int32) kl0 hf
def jb_Tt_driest_43 (tb : Tb) (c7 : Hp → Nat → Int32 → Int32 → Int32 → Option (Int32)) (h : Hp) (l0 : Nat) (l1 : Int32) (l2 : Int32) (l3 : Int32) : Option (Int32) :=
  nmd (l3 + (1 : Int32)) fun x1 =>
  c7 h l0 l1 l2 x1
def lp_Tt_driest_7 (tb : Tb) : Nat → Hp → Nat → Int32 → Int32 → Int32 → Option (Int32)
  | 0, _, _, _, _, _ => none
  | n + 1, h, l0, l1, l2, l3 =>
    if (h.1 (lay tb l0 3) 3) ≤ l3 then (
      some l1
    ) else (
      (rI tb h (lay tb (lay tb l0 4) 14) l3).bind fun x1 =>
      if l2 ≤ x1 then (
        jb_Tt_driest_43 tb (lp_Tt_driest_7 tb n) h l0 l1 l2 l3
      ) else (
        (rI tb h (lay tb (lay tb l0 4) 14) l3).bind fun x2 =>
        jb_Tt_driest_43 tb (lp_Tt_driest_7 tb n) h l0 l3 x2 l3
      )
    )
def f_Tt_driest (tb : Tb) (h : Hp) (l0 : Nat) : Option (Int32) :=
  lp_Tt_driest_7 tb fu h l0 (-1 : Int32) (100 : Int32) (0 : Int32)
set_option maxRecDepth 4000 in
set_option maxHeartbeats 1000000 in
theorem vjb_Tt_driest_43 {E : En} {g : Gl} {tb : Tb} {ρ : Nat → Nat} (ok : TbOK tb) (hi : inj tb ρ) {r : Int32} (X : CX E g tb ρ prog_1_method_32_code 4 RC0 0 0) {h : Hp} (Y : CQ E g tb ρ (some .int) (some (.int r)) h) {c7 : Hp → Nat → Int32 → Int32 → Int32 → Option (Int32)} (H7 : ∀ (l0 : Nat) (l1 : Int32) (l2 : Int32) (l3 : Int32) (kl0 : kd tb l0 = 0), c7 h l0 l1 l2 l3 = some r → V E g tb ρ 4 7 [(0, .ref (ρ l0)), (1, .int l1), (2, .int l2), (3, .int l3)] [] h) (l0 : Nat) (l1 : Int32) (l2 : Int32) (l3 : Int32) (kl0 : kd tb l0 = 0) (hf : jb_Tt_driest_43 tb c7 h l0 l1 l2 l3 = some r) : V E g tb ρ 4 43 [(0, .ref (ρ l0)), (1, .int l1), (2, .int l2), (3, .int l3)] [] h := by
  unfold jb_Tt_driest_43 at hf
  obtain ⟨x1, ex1, hf⟩ := nmd_e hf
  refine v_iinc (pc := 43) (k := 3) (n := 1) (v := x1) (lv' := [(3, .int x1), (0, .ref (ρ l0)), (1, .int l1), (2, .int l2)]) X (by decide +kernel) 3 rfl (by rw [ic_1, ex1]) (Nat.le_of_ble_eq_true rfl) rfl ?_
  refine v_goto (pc := 46) (off := -39) (tgt := 7) X (by decide +kernel) (by decide) ?_
  refine v_sub [1, 2, 3, 0] rfl ?_
  exact H7 l0 l1 l2 x1 kl0 hf
set_option maxRecDepth 4000 in
set_option maxHeartbeats 1000000 in
theorem vlp_Tt_driest_7 {E : En} {g : Gl} {tb : Tb} {ρ : Nat → Nat} (ok : TbOK tb) (hi : inj tb ρ) {r : Int32} (X : CX E g tb ρ prog_1_method_32_code 4 RC0 0 0) {h : Hp} (Y : CQ E g tb ρ (some .int) (some (.int r)) h) : ∀ (n : Nat) (l0 : Nat) (l1 : Int32) (l2 : Int32) (l3 : Int32) (kl0 : kd tb l0 = 0), lp_Tt_driest_7 tb n h l0 l1 l2 l3 = some r → V E g tb ρ 4 7 [(0, .ref (ρ l0)), (1, .int l1), (2, .int l2), (3, .int l3)] [] h := by
  intro n
  induction n with
  | zero =>
    intro l0 l1 l2 l3 kl0 hf
    rw [lp_Tt_driest_7] at hf
    cases hf
  | succ n ih =>
    intro l0 l1 l2 l3 kl0 hf
    rw [lp_Tt_driest_7] at hf
    refine v_iload_n (pc := 7) (k := 3) X (by decide +kernel) 3 rfl ?_
    refine v_aload_n (pc := 8) (k := 0) X (by decide +kernel) 0 rfl ?_
    refine v_geta (pc := 9) X fl_0_31 kl0 fk_0_3 (by decide +kernel) ?_
    refine v_geti (pc := 12) X fl_0_119 (ly_0_3 ok kl0) rfl (by decide +kernel) ?_
    refine v_icmp_ge (pc := 15) (off := 34) (tgt := 49) X (by decide +kernel) (by decide) (fun q4 => ?_) (fun q4 => ?_)
    · rw [if_pos q4] at hf
      refine v_iload_n (pc := 49) (k := 1) X (by decide +kernel) 1 rfl ?_
      cases hf
      exact v_iret X Y (by decide +kernel) rfl rfl
    · rw [if_neg q4] at hf
      refine v_aload_n (pc := 18) (k := 0) X (by decide +kernel) 0 rfl ?_
      refine v_geta (pc := 19) X fl_0_38 kl0 fk_0_4 (by decide +kernel) ?_
      refine v_geta (pc := 22) X fl_0_171 (ly_0_4 ok kl0) fk_11_14 (by decide +kernel) ?_
      refine v_iload_n (pc := 25) (k := 3) X (by decide +kernel) 3 rfl ?_
      obtain ⟨x1, ex1, hf⟩ := bnd_e hf
      refine v_iald (pc := 26) X (ly_11_14 ok (ly_0_4 ok kl0)) ex1 (by decide +kernel) ?_
      refine v_iload_n (pc := 27) (k := 2) X (by decide +kernel) 2 rfl ?_
      refine v_icmp_ge (pc := 28) (off := 15) (tgt := 43) X (by decide +kernel) (by decide) (fun q3 => ?_) (fun q3 => ?_)
      · rw [if_pos q3] at hf
        exact vjb_Tt_driest_43 ok hi X Y ih l0 l1 l2 l3 kl0 hf
      · rw [if_neg q3] at hf
        refine v_iload_n (pc := 31) (k := 3) X (by decide +kernel) 3 rfl ?_
        refine v_istore_n (pc := 32) (k := 1) (lv' := [(1, .int l3), (0, .ref (ρ l0)), (2, .int l2), (3, .int l3)]) X (by decide +kernel) (Nat.le_of_ble_eq_true rfl) rfl ?_
        refine v_aload_n (pc := 33) (k := 0) X (by decide +kernel) 1 rfl ?_
        refine v_geta (pc := 34) X fl_0_38 kl0 fk_0_4 (by decide +kernel) ?_
        refine v_geta (pc := 37) X fl_0_171 (ly_0_4 ok kl0) fk_11_14 (by decide +kernel) ?_
        refine v_iload_n (pc := 40) (k := 3) X (by decide +kernel) 3 rfl ?_
        obtain ⟨x2, ex2, hf⟩ := bnd_e hf
        refine v_iald (pc := 41) X (ly_11_14 ok (ly_0_4 ok kl0)) ex2 (by decide +kernel) ?_
        refine v_istore_n (pc := 42) (k := 2) (lv' := [(2, .int x2), (1, .int l3), (0, .ref (ρ l0)), (3, .int l3)]) X (by decide +kernel) (Nat.le_of_ble_eq_true rfl) rfl ?_
        refine v_sub [2, 1, 0, 3] rfl ?_
        exact vjb_Tt_driest_43 ok hi X Y ih l0 l3 x2 l3 kl0 hf
set_option maxRecDepth 4000 in
set_option maxHeartbeats 1000000 in
theorem mt_Tt_driest {g : Gl} {tb : Tb} {ρ : Nat → Nat} (ok : TbOK tb) (hi : inj tb ρ) {h : Hp} {l0 : Nat} (kl0 : kd tb l0 = 0) {r : Int32} (hf : f_Tt_driest tb h l0 = some r) : MT g y_Tt_driest prog_1_method_32_code 4 (some .int) 0 0 tb ρ [.ref (ρ l0)] h (some (.int r)) h := by
  refine mt_intro (by decide +kernel) ok hi (Nat.le_of_ble_eq_true rfl) (fun E X Y => ?_)
  change V E g tb ρ 4 0 [(0, .ref (ρ l0))] [] h
  unfold f_Tt_driest at hf
  refine v_iconst (pc := 0) (n := -1) X (by decide +kernel) ic_m1 ?_
  refine v_istore_n (pc := 1) (k := 1) (lv' := [(1, .int (-1 : Int32)), (0, .ref (ρ l0))]) X (by decide +kernel) (Nat.le_of_ble_eq_true rfl) rfl ?_
  refine v_bipush (pc := 2) (n := 100) X (by decide +kernel) bi_100 ?_
  refine v_istore_n (pc := 4) (k := 2) (lv' := [(2, .int (100 : Int32)), (1, .int (-1 : Int32)), (0, .ref (ρ l0))]) X (by decide +kernel) (Nat.le_of_ble_eq_true rfl) rfl ?_
  refine v_iconst (pc := 5) (n := 0) X (by decide +kernel) ic_0 ?_
  refine v_istore_n (pc := 6) (k := 3) (lv' := [(3, .int (0 : Int32)), (2, .int (100 : Int32)), (1, .int (-1 : Int32)), (0, .ref (ρ l0))]) X (by decide +kernel) (Nat.le_of_ble_eq_true rfl) rfl ?_
  refine v_sub [3, 2, 1, 0] rfl ?_
  exact vlp_Tt_driest_7 ok hi X Y fu l0 (-1 : Int32) (100 : Int32) (0 : Int32) kl0 hf
def jb_Tt_nearest_71 (tb : Tb) (c22 : Hp → Nat → Int32 → Int32 → Int32 → Int32 → Option (Int32)) (h : Hp) (l0 : Nat) (l1 : Int32) (l2 : Int32) (l3 : Int32) (l4 : Int32) : Option (Int32) :=
  nmd (l4 + (1 : Int32)) fun x1 =>
  c22 h l0 l1 l2 l3 x1
def lp_Tt_nearest_22 (tb : Tb) : Nat → Hp → Nat → Int32 → Int32 → Int32 → Int32 → Option (Int32)
  | 0, _, _, _, _, _, _ => none
  | n + 1, h, l0, l1, l2, l3, l4 =>
    if (h.1 (lay tb l0 3) 3) ≤ l4 then (
      some l2
    ) else (
      (rI tb h (lay tb (lay tb l0 3) 7) l4).bind fun x1 =>
      (rI tb h (lay tb (lay tb l0 4) 9) l1).bind fun x2 =>
      nmd (abI (x1 - x2)) fun x3 =>
      if l3 ≤ x3 then (
        jb_Tt_nearest_71 tb (lp_Tt_nearest_22 tb n) h l0 l1 l2 l3 l4
      ) else (
        jb_Tt_nearest_71 tb (lp_Tt_nearest_22 tb n) h l0 l1 l4 x3 l4
      )
    )
def f_Tt_nearest (tb : Tb) (h : Hp) (l0 : Nat) (l1 : Int32) : Option (Int32) :=
  nmd (f_Pl_hasHorse tb h (lay tb l0 3) l1) fun r1 =>
  if r1 = (0 : Int32) then (
    some (-1 : Int32)
  ) else (
    lp_Tt_nearest_22 tb fu h l0 l1 (-2 : Int32) (61 : Int32) (0 : Int32)
  )
set_option maxRecDepth 4000 in
set_option maxHeartbeats 1000000 in
theorem vjb_Tt_nearest_71 {E : En} {g : Gl} {tb : Tb} {ρ : Nat → Nat} (ok : TbOK tb) (hi : inj tb ρ) {r : Int32} (X : CX E g tb ρ prog_1_method_33_code 6 RC0 1 21) {h : Hp} (Y : CQ E g tb ρ (some .int) (some (.int r)) h) {c22 : Hp → Nat → Int32 → Int32 → Int32 → Int32 → Option (Int32)} (H22 : ∀ (l0 : Nat) (l1 : Int32) (l2 : Int32) (l3 : Int32) (l4 : Int32) (kl0 : kd tb l0 = 0), c22 h l0 l1 l2 l3 l4 = some r → V E g tb ρ 6 22 [(0, .ref (ρ l0)), (1, .int l1), (2, .int l2), (3, .int l3), (4, .int l4)] [] h) (l0 : Nat) (l1 : Int32) (l2 : Int32) (l3 : Int32) (l4 : Int32) (kl0 : kd tb l0 = 0) (hf : jb_Tt_nearest_71 tb c22 h l0 l1 l2 l3 l4 = some r) : V E g tb ρ 6 71 [(0, .ref (ρ l0)), (1, .int l1), (2, .int l2), (3, .int l3), (4, .int l4)] [] h := by
  unfold jb_Tt_nearest_71 at hf
  obtain ⟨x1, ex1, hf⟩ := nmd_e hf
  refine v_iinc (pc := 71) (k := 4) (n := 1) (v := x1) (lv' := [(4, .int x1), (0, .ref (ρ l0)), (1, .int l1), (2, .int l2), (3, .int l3)]) X (by decide +kernel) 4 rfl (by rw [ic_1, ex1]) (Nat.le_of_ble_eq_true rfl) rfl ?_
  refine v_goto (pc := 74) (off := -52) (tgt := 22) X (by decide +kernel) (by decide) ?_
  refine v_sub [1, 2, 3, 4, 0] rfl ?_
  exact H22 l0 l1 l2 l3 x1 kl0 hf
set_option maxRecDepth 4000 in
set_option maxHeartbeats 1000000 in
theorem vlp_Tt_nearest_22 {E : En} {g : Gl} {tb : Tb} {ρ : Nat → Nat} (ok : TbOK tb) (hi : inj tb ρ) {r : Int32} (X : CX E g tb ρ prog_1_method_33_code 6 RC0 1 21) {h : Hp} (Y : CQ E g tb ρ (some .int) (some (.int r)) h) : ∀ (n : Nat) (l0 : Nat) (l1 : Int32) (l2 : Int32) (l3 : Int32) (l4 : Int32) (kl0 : kd tb l0 = 0), lp_Tt_nearest_22 tb n h l0 l1 l2 l3 l4 = some r → V E g tb ρ 6 22 [(0, .ref (ρ l0)), (1, .int l1), (2, .int l2), (3, .int l3), (4, .int l4)] [] h := by
  intro n
  induction n with
  | zero =>
    intro l0 l1 l2 l3 l4 kl0 hf
    rw [lp_Tt_nearest_22] at hf
    cases hf
  | succ n ih =>
    intro l0 l1 l2 l3 l4 kl0 hf
    rw [lp_Tt_nearest_22] at hf
    refine v_iload (pc := 22) (k := 4) X (by decide +kernel) 4 rfl ?_
    refine v_aload_n (pc := 24) (k := 0) X (by decide +kernel) 0 rfl ?_
    refine v_geta (pc := 25) X fl_0_31 kl0 fk_0_3 (by decide +kernel) ?_
    refine v_geti (pc := 28) X fl_0_119 (ly_0_3 ok kl0) rfl (by decide +kernel) ?_
    refine v_icmp_ge (pc := 31) (off := 46) (tgt := 77) X (by decide +kernel) (by decide) (fun q5 => ?_) (fun q5 => ?_)
    · rw [if_pos q5] at hf
      refine v_iload_n (pc := 77) (k := 2) X (by decide +kernel) 2 rfl ?_
      cases hf
      exact v_iret X Y (by decide +kernel) rfl rfl
    · rw [if_neg q5] at hf
      refine v_aload_n (pc := 34) (k := 0) X (by decide +kernel) 0 rfl ?_
      refine v_geta (pc := 35) X fl_0_31 kl0 fk_0_3 (by decide +kernel) ?_
      refine v_geta (pc := 38) X fl_0_168 (ly_0_3 ok kl0) fk_7_7 (by decide +kernel) ?_
      refine v_iload (pc := 41) (k := 4) X (by decide +kernel) 4 rfl ?_
      obtain ⟨x1, ex1, hf⟩ := bnd_e hf
      refine v_iald (pc := 43) X (ly_7_7 ok (ly_0_3 ok kl0)) ex1 (by decide +kernel) ?_
      refine v_aload_n (pc := 44) (k := 0) X (by decide +kernel) 0 rfl ?_
      refine v_geta (pc := 45) X fl_0_38 kl0 fk_0_4 (by decide +kernel) ?_
      refine v_geta (pc := 48) X fl_0_142 (ly_0_4 ok kl0) fk_11_9 (by decide +kernel) ?_
      refine v_iload_n (pc := 51) (k := 1) X (by decide +kernel) 1 rfl ?_
      obtain ⟨x2, ex2, hf⟩ := bnd_e hf
      refine v_iald (pc := 52) X (ly_11_9 ok (ly_0_4 ok kl0)) ex2 (by decide +kernel) ?_
      refine v_isub (pc := 53) X (by decide +kernel) ?_
      refine v_mabs (pc := 54) X mm_0_193 ms_mabs mc_mabs mi_math ⟨Nat.le_of_ble_eq_true rfl, Nat.le_of_ble_eq_true rfl⟩ (by decide +kernel) ?_
      obtain ⟨x3, ex3, hf⟩ := nmd_e hf
      refine v_nmi ex3 ?_
      refine v_istore (pc := 57) (k := 5) (lv' := [(5, .int x3), (0, .ref (ρ l0)), (1, .int l1), (2, .int l2), (3, .int l3), (4, .int l4)]) X (by decide +kernel) (Nat.le_of_ble_eq_true rfl) rfl ?_
      refine v_iload (pc := 59) (k := 5) X (by decide +kernel) 0 rfl ?_
      refine v_iload_n (pc := 61) (k := 3) X (by decide +kernel) 4 rfl ?_
      refine v_icmp_ge (pc := 62) (off := 9) (tgt := 71) X (by decide +kernel) (by decide) (fun q4 => ?_) (fun q4 => ?_)
      · rw [if_pos q4] at hf
        refine v_sub [1, 2, 3, 4, 5] rfl ?_
        exact vjb_Tt_nearest_71 ok hi X Y ih l0 l1 l2 l3 l4 kl0 hf
      · rw [if_neg q4] at hf
        refine v_iload (pc := 65) (k := 4) X (by decide +kernel) 5 rfl ?_
        refine v_istore_n (pc := 67) (k := 2) (lv' := [(2, .int l4), (5, .int x3), (0, .ref (ρ l0)), (1, .int l1), (3, .int l3), (4, .int l4)]) X (by decide +kernel) (Nat.le_of_ble_eq_true rfl) rfl ?_
        refine v_iload (pc := 68) (k := 5) X (by decide +kernel) 1 rfl ?_
        refine v_istore_n (pc := 70) (k := 3) (lv' := [(3, .int x3), (2, .int l4), (5, .int x3), (0, .ref (ρ l0)), (1, .int l1), (4, .int l4)]) X (by decide +kernel) (Nat.le_of_ble_eq_true rfl) rfl ?_
        refine v_sub [3, 4, 1, 0, 5] rfl ?_
        exact vjb_Tt_nearest_71 ok hi X Y ih l0 l1 l4 x3 l4 kl0 hf
set_option maxRecDepth 4000 in
set_option maxHeartbeats 1000000 in
theorem mt_Tt_nearest {g : Gl} {tb : Tb} {ρ : Nat → Nat} (ok : TbOK tb) (hi : inj tb ρ) {h : Hp} {l0 : Nat} {l1 : Int32} (kl0 : kd tb l0 = 0) {r : Int32} (hf : f_Tt_nearest tb h l0 l1 = some r) : MT g y_Tt_nearest prog_1_method_33_code 6 (some .int) 1 21 tb ρ [.ref (ρ l0), .int l1] h (some (.int r)) h := by
  refine mt_intro (by decide +kernel) ok hi (Nat.le_of_ble_eq_true rfl) (fun E X Y => ?_)
  change V E g tb ρ 6 0 [(0, .ref (ρ l0)), (1, .int l1)] [] h
  unfold f_Tt_nearest at hf
  refine v_aload_n (pc := 0) (k := 0) X (by decide +kernel) 0 rfl ?_
  refine v_geta (pc := 1) X fl_0_31 kl0 fk_0_3 (by decide +kernel) ?_
  refine v_iload_n (pc := 4) (k := 1) X (by decide +kernel) 1 rfl ?_
  obtain ⟨r1, er1, hf⟩ := nmd_e hf
  refine v_callV (pc := 5) (As := [.int l1]) (rest := []) X (mt_Pl_hasHorse ok hi (ly_0_3 ok kl0) er1.symm) ml_0_132 mv_Pl_hasHorse (ly_0_3 ok kl0) cls_7 rfl ⟨Nat.le_of_ble_eq_true rfl, Nat.le_of_ble_eq_true rfl⟩ rfl rfl (Nat.le_of_ble_eq_true rfl) (by decide +kernel) ?_
  change V E g tb ρ 6 8 [(0, .ref (ρ l0)), (1, .int l1)] [.int r1] h
  refine v_if_ne (pc := 8) (off := 5) (tgt := 13) X (by decide +kernel) (by decide) (fun q2 => ?_) (fun q2 => ?_)
  · rw [if_neg q2] at hf
    refine v_bipush (pc := 13) (n := -2) X (by decide +kernel) bi_m2 ?_
    refine v_istore_n (pc := 15) (k := 2) (lv' := [(2, .int (-2 : Int32)), (0, .ref (ρ l0)), (1, .int l1)]) X (by decide +kernel) (Nat.le_of_ble_eq_true rfl) rfl ?_
    refine v_bipush (pc := 16) (n := 61) X (by decide +kernel) bi_61 ?_
    refine v_istore_n (pc := 18) (k := 3) (lv' := [(3, .int (61 : Int32)), (2, .int (-2 : Int32)), (0, .ref (ρ l0)), (1, .int l1)]) X (by decide +kernel) (Nat.le_of_ble_eq_true rfl) rfl ?_
    refine v_iconst (pc := 19) (n := 0) X (by decide +kernel) ic_0 ?_
    refine v_istore (pc := 20) (k := 4) (lv' := [(4, .int (0 : Int32)), (3, .int (61 : Int32)), (2, .int (-2 : Int32)), (0, .ref (ρ l0)), (1, .int l1)]) X (by decide +kernel) (Nat.le_of_ble_eq_true rfl) rfl ?_
    refine v_sub [3, 4, 2, 1, 0] rfl ?_
    exact vlp_Tt_nearest_22 ok hi X Y fu l0 l1 (-2 : Int32) (61 : Int32) (0 : Int32) kl0 hf
  · rw [if_pos q2] at hf
    refine v_iconst (pc := 11) (n := -1) X (by decide +kernel) ic_m1 ?_
    cases hf
    exact v_iret X Y (by decide +kernel) rfl rfl
