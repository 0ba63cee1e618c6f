def f_Md_peace (tb : Tb) (h : Hp) (l0 : Nat) (l1 : Int32) (l2 : Int32) : Option (Int32 × Hp) :=
  nmd (pI h l0 2 (0 : Int32)) fun h1 =>
  nmd (f_Md_isIn tb h1 l1 (0 : Int32) (3 : Int32)) fun r2 =>
  if r2 = (0 : Int32) then (
    some ((-1 : Int32), h1)
  ) else (
    nmd (f_Md_isIn tb h1 l2 (0 : Int32) (3 : Int32)) fun r3 =>
    if r3 = (0 : Int32) then (
      some ((-1 : Int32), h1)
    ) else (
      if l1 = l2 then (
        some ((-1 : Int32), h1)
      ) else (
        (rI tb h1 (lay tb l0 65) (0 : Int32)).bind fun x4 =>
        nmd (f_Md_isOf tb h1 x4 (((4 : Int32) * l1) + l2)) fun r5 =>
        if r5 = (0 : Int32) then (
          some ((0 : Int32), h1)
        ) else (
          (rI tb h1 (lay tb l0 66) (0 : Int32)).bind fun x6 =>
          nmd (f_Md_isOf tb h1 x6 (((4 : Int32) * l1) + l2)) fun r7 =>
          if r7 = (0 : Int32) then (
            some ((1 : Int32), h1)
          ) else (
            some ((0 : Int32), h1)
          )
        )
      )
    )
  )
set_option maxRecDepth 4000 in
set_option maxHeartbeats 1000000 in
theorem mt_Md_peace {g : Gl} {tb : Tb} {ρ : Nat → Nat} (ok : TbOK tb) (hi : inj tb ρ) {h : Hp} {l0 : Nat} {l1 : Int32} {l2 : Int32} (kl0 : kd tb l0 = 12) {r : Int32 × Hp} (hf : f_Md_peace tb h l0 l1 l2 = some r) : MT g y_Md_peace prog_14_method_99_code 3 (some .int) 1 22 tb ρ [.ref (ρ l0), .int l1, .int l2] h (some (.int r.1)) r.2 := by
  refine mt_intro (by decide +kernel) ok hi (Nat.le_of_ble_eq_true rfl) (fun E X Y => ?_)
  change V E g tb ρ 3 0 [(0, .ref (ρ l0)), (1, .int l1), (2, .int l2)] [] h
  unfold f_Md_peace at hf
  refine v_aload_n (pc := 0) (k := 0) X (by decide +kernel) 0 rfl ?_
  refine v_iconst (pc := 1) (n := 0) X (by decide +kernel) ic_0 ?_
  obtain ⟨h1, eh1, hf⟩ := nmd_e hf
  refine v_puti (pc := 2) X fp_12_160 kl0 rfl (by decide +kernel) eh1 ?_
  refine v_iload_n (pc := 5) (k := 1) X (by decide +kernel) 1 rfl ?_
  refine v_iconst (pc := 6) (n := 0) X (by decide +kernel) ic_0 ?_
  refine v_iconst (pc := 7) (n := 3) X (by decide +kernel) ic_3 ?_
  obtain ⟨r2, er2, hf⟩ := nmd_e hf
  refine v_callS (pc := 8) (As := [.int l1, .int (0 : Int32), .int (3 : Int32)]) (rest := []) X (mt_Md_isIn ok hi er2.symm) ml_12_205 ms_Md_isIn ⟨Nat.le_of_ble_eq_true rfl, Nat.le_of_ble_eq_true rfl⟩ rfl rfl (Nat.le_of_ble_eq_true rfl) (by decide +kernel) ?_
  change V E g tb ρ 3 11 [(0, .ref (ρ l0)), (1, .int l1), (2, .int l2)] [.int r2] h1
  refine v_if_eq (pc := 11) (off := 17) (tgt := 28) X (by decide +kernel) (by decide) (fun q12 => ?_) (fun q12 => ?_)
  · rw [if_pos q12] at hf
    refine v_iconst (pc := 28) (n := -1) X (by decide +kernel) ic_m1 ?_
    cases hf
    exact v_iret X Y (by decide +kernel) rfl rfl
  · rw [if_neg q12] at hf
    refine v_iload_n (pc := 14) (k := 2) X (by decide +kernel) 2 rfl ?_
    refine v_iconst (pc := 15) (n := 0) X (by decide +kernel) ic_0 ?_
    refine v_iconst (pc := 16) (n := 3) X (by decide +kernel) ic_3 ?_
    obtain ⟨r3, er3, hf⟩ := nmd_e hf
    refine v_callS (pc := 17) (As := [.int l2, .int (0 : Int32), .int (3 : Int32)]) (rest := []) X (mt_Md_isIn ok hi er3.symm) ml_12_205 ms_Md_isIn ⟨Nat.le_of_ble_eq_true rfl, Nat.le_of_ble_eq_true rfl⟩ rfl rfl (Nat.le_of_ble_eq_true rfl) (by decide +kernel) ?_
    change V E g tb ρ 3 20 [(0, .ref (ρ l0)), (1, .int l1), (2, .int l2)] [.int r3] h1
    refine v_if_eq (pc := 20) (off := 8) (tgt := 28) X (by decide +kernel) (by decide) (fun q11 => ?_) (fun q11 => ?_)
    · rw [if_pos q11] at hf
      refine v_iconst (pc := 28) (n := -1) X (by decide +kernel) ic_m1 ?_
      cases hf
      exact v_iret X Y (by decide +kernel) rfl rfl
    · rw [if_neg q11] at hf
      refine v_iload_n (pc := 23) (k := 1) X (by decide +kernel) 1 rfl ?_
      refine v_iload_n (pc := 24) (k := 2) X (by decide +kernel) 2 rfl ?_
      refine v_icmp_ne (pc := 25) (off := 5) (tgt := 30) X (by decide +kernel) (by decide) (fun q10 => ?_) (fun q10 => ?_)
      · rw [if_neg q10] at hf
        refine v_aload_n (pc := 30) (k := 0) X (by decide +kernel) 0 rfl ?_
        refine v_geta (pc := 31) X fl_12_127 kl0 fk_12_65 (by decide +kernel) ?_
        refine v_iconst (pc := 34) (n := 0) X (by decide +kernel) ic_0 ?_
        obtain ⟨x4, ex4, hf⟩ := bnd_e hf
        refine v_iald (pc := 35) X (ly_12_65 ok kl0) ex4 (by decide +kernel) ?_
        refine v_iconst (pc := 36) (n := 4) X (by decide +kernel) ic_4 ?_
        refine v_iload_n (pc := 37) (k := 1) X (by decide +kernel) 1 rfl ?_
        refine v_imul (pc := 38) X (by decide +kernel) ?_
        refine v_iload_n (pc := 39) (k := 2) X (by decide +kernel) 2 rfl ?_
        refine v_iadd (pc := 40) X (by decide +kernel) ?_
        obtain ⟨r5, er5, hf⟩ := nmd_e hf
        refine v_callS (pc := 41) (As := [.int x4, .int (((4 : Int32) * l1) + l2)]) (rest := []) X (mt_Md_isOf ok hi er5.symm) ml_12_488 ms_Md_isOf ⟨Nat.le_of_ble_eq_true rfl, Nat.le_of_ble_eq_true rfl⟩ rfl rfl (Nat.le_of_ble_eq_true rfl) (by decide +kernel) ?_
        change V E g tb ρ 3 44 [(0, .ref (ρ l0)), (1, .int l1), (2, .int l2)] [.int r5] h1
        refine v_if_eq (pc := 44) (off := 24) (tgt := 68) X (by decide +kernel) (by decide) (fun q9 => ?_) (fun q9 => ?_)
        · rw [if_pos q9] at hf
          refine v_iconst (pc := 68) (n := 0) X (by decide +kernel) ic_0 ?_
          cases hf
          exact v_iret X Y (by decide +kernel) rfl rfl
        · rw [if_neg q9] at hf
          refine v_aload_n (pc := 47) (k := 0) X (by decide +kernel) 0 rfl ?_
          refine v_geta (pc := 48) X fl_12_130 kl0 fk_12_66 (by decide +kernel) ?_
          refine v_iconst (pc := 51) (n := 0) X (by decide +kernel) ic_0 ?_
          obtain ⟨x6, ex6, hf⟩ := bnd_e hf
          refine v_iald (pc := 52) X (ly_12_66 ok kl0) ex6 (by decide +kernel) ?_
          refine v_iconst (pc := 53) (n := 4) X (by decide +kernel) ic_4 ?_
          refine v_iload_n (pc := 54) (k := 1) X (by decide +kernel) 1 rfl ?_
          refine v_imul (pc := 55) X (by decide +kernel) ?_
          refine v_iload_n (pc := 56) (k := 2) X (by decide +kernel) 2 rfl ?_
          refine v_iadd (pc := 57) X (by decide +kernel) ?_
          obtain ⟨r7, er7, hf⟩ := nmd_e hf
          refine v_callS (pc := 58) (As := [.int x6, .int (((4 : Int32) * l1) + l2)]) (rest := []) X (mt_Md_isOf ok hi er7.symm) ml_12_488 ms_Md_isOf ⟨Nat.le_of_ble_eq_true rfl, Nat.le_of_ble_eq_true rfl⟩ rfl rfl (Nat.le_of_ble_eq_true rfl) (by decide +kernel) ?_
          change V E g tb ρ 3 61 [(0, .ref (ρ l0)), (1, .int l1), (2, .int l2)] [.int r7] h1
          refine v_if_ne (pc := 61) (off := 7) (tgt := 68) X (by decide +kernel) (by decide) (fun q8 => ?_) (fun q8 => ?_)
          · rw [if_neg q8] at hf
            refine v_iconst (pc := 68) (n := 0) X (by decide +kernel) ic_0 ?_
            cases hf
            exact v_iret X Y (by decide +kernel) rfl rfl
          · rw [if_pos q8] at hf
            refine v_iconst (pc := 64) (n := 1) X (by decide +kernel) ic_1 ?_
            refine v_goto (pc := 65) (off := 4) (tgt := 69) X (by decide +kernel) (by decide) ?_
            cases hf
            exact v_iret X Y (by decide +kernel) rfl rfl
      · rw [if_pos q10] at hf
        refine v_iconst (pc := 28) (n := -1) X (by decide +kernel) ic_m1 ?_
        cases hf
        exact v_iret X Y (by decide +kernel) rfl rfl
def jb_Md_thirstiest_51 (tb : Tb) (c10 : Hp → Nat → Int32 → Int32 → Option (Int32 × Hp)) (h : Hp) (l0 : Nat) (l2 : Int32) (s0 : Int32) : Option (Int32 × Hp) :=
  nmd (l2 + (1 : Int32)) fun x1 =>
  c10 h l0 s0 x1
def jb_Md_thirstiest_50 (tb : Tb) (c10 : Hp → Nat → Int32 → Int32 → Option (Int32 × Hp)) (h : Hp) (l0 : Nat) (l1 : Int32) (l2 : Int32) : Option (Int32 × Hp) :=
  jb_Md_thirstiest_51 tb c10 h l0 l2 l1
def jb_Md_thirstiest_46 (tb : Tb) (c10 : Hp → Nat → Int32 → Int32 → Option (Int32 × Hp)) (h : Hp) (l0 : Nat) (l2 : Int32) : Option (Int32 × Hp) :=
  jb_Md_thirstiest_51 tb c10 h l0 l2 l2
def lp_Md_thirstiest_10 (tb : Tb) : Nat → Hp → Nat → Int32 → Int32 → Option (Int32 × Hp)
  | 0, _, _, _, _ => none
  | n + 1, h, l0, l1, l2 =>
    if (h.1 l0 13) ≤ l2 then (
      some (l1, h)
    ) else (
      (rI tb h (lay tb l0 58) l2).bind fun x1 =>
      if x1 = (0 : Int32) then (
        jb_Md_thirstiest_50 tb (lp_Md_thirstiest_10 tb n) h l0 l1 l2
      ) else (
        if l1 < (0 : Int32) then (
          jb_Md_thirstiest_46 tb (lp_Md_thirstiest_10 tb n) h l0 l2
        ) else (
          (rI tb h (lay tb l0 55) l2).bind fun x2 =>
          (rI tb h (lay tb l0 55) l1).bind fun x3 =>
          if x2 ≤ x3 then (
            jb_Md_thirstiest_50 tb (lp_Md_thirstiest_10 tb n) h l0 l1 l2
          ) else (
            jb_Md_thirstiest_46 tb (lp_Md_thirstiest_10 tb n) h l0 l2
          )
        )
      )
    )
def f_Md_thirstiest (tb : Tb) (h : Hp) (l0 : Nat) : Option (Int32 × Hp) :=
  nmd (pI h l0 2 (0 : Int32)) fun h1 =>
  lp_Md_thirstiest_10 tb fu h1 l0 (-2 : Int32) (0 : Int32)
set_option maxRecDepth 4000 in
set_option maxHeartbeats 1000000 in
theorem vjb_Md_thirstiest_51 {E : En} {g : Gl} {tb : Tb} {ρ : Nat → Nat} (ok : TbOK tb) (hi : inj tb ρ) {r : Int32 × Hp} (X : CX E g tb ρ prog_14_method_100_code 3 RC12 0 0) (Y : CQ E g tb ρ (some .int) (some (.int r.1)) r.2) {c10 : Hp → Nat → Int32 → Int32 → Option (Int32 × Hp)} (H10 : ∀ (h : Hp) (l0 : Nat) (l1 : Int32) (l2 : Int32) (kl0 : kd tb l0 = 12), c10 h l0 l1 l2 = some r → V E g tb ρ 3 10 [(0, .ref (ρ l0)), (1, .int l1), (2, .int l2)] [] h) (h : Hp) (l0 : Nat) (l2 : Int32) (s0 : Int32) (kl0 : kd tb l0 = 12) (hf : jb_Md_thirstiest_51 tb c10 h l0 l2 s0 = some r) : V E g tb ρ 3 51 [(0, .ref (ρ l0)), (2, .int l2)] [.int s0] h := by
  unfold jb_Md_thirstiest_51 at hf
  refine v_istore_n (pc := 51) (k := 1) (lv' := [(1, .int s0), (0, .ref (ρ l0)), (2, .int l2)]) X (by decide +kernel) (Nat.le_of_ble_eq_true rfl) rfl ?_
  obtain ⟨x1, ex1, hf⟩ := nmd_e hf
  refine v_iinc (pc := 52) (k := 2) (n := 1) (v := x1) (lv' := [(2, .int x1), (1, .int s0), (0, .ref (ρ l0))]) X (by decide +kernel) 2 rfl (by rw [ic_1, ex1]) (Nat.le_of_ble_eq_true rfl) rfl ?_
  refine v_goto (pc := 55) (off := -45) (tgt := 10) X (by decide +kernel) (by decide) ?_
  refine v_sub [2, 1, 0] rfl ?_
  exact H10 h l0 s0 x1 kl0 hf
set_option maxRecDepth 4000 in
set_option maxHeartbeats 1000000 in
theorem vjb_Md_thirstiest_50 {E : En} {g : Gl} {tb : Tb} {ρ : Nat → Nat} (ok : TbOK tb) (hi : inj tb ρ) {r : Int32 × Hp} (X : CX E g tb ρ prog_14_method_100_code 3 RC12 0 0) (Y : CQ E g tb ρ (some .int) (some (.int r.1)) r.2) {c10 : Hp → Nat → Int32 → Int32 → Option (Int32 × Hp)} (H10 : ∀ (h : Hp) (l0 : Nat) (l1 : Int32) (l2 : Int32) (kl0 : kd tb l0 = 12), c10 h l0 l1 l2 = some r → V E g tb ρ 3 10 [(0, .ref (ρ l0)), (1, .int l1), (2, .int l2)] [] h) (h : Hp) (l0 : Nat) (l1 : Int32) (l2 : Int32) (kl0 : kd tb l0 = 12) (hf : jb_Md_thirstiest_50 tb c10 h l0 l1 l2 = some r) : V E g tb ρ 3 50 [(0, .ref (ρ l0)), (1, .int l1), (2, .int l2)] [] h := by
  unfold jb_Md_thirstiest_50 at hf
  refine v_iload_n (pc := 50) (k := 1) X (by decide +kernel) 1 rfl ?_
  refine v_sub [0, 2] rfl ?_
  exact vjb_Md_thirstiest_51 ok hi X Y H10 h l0 l2 l1 kl0 hf
set_option maxRecDepth 4000 in
set_option maxHeartbeats 1000000 in
theorem vjb_Md_thirstiest_46 {E : En} {g : Gl} {tb : Tb} {ρ : Nat → Nat} (ok : TbOK tb) (hi : inj tb ρ) {r : Int32 × Hp} (X : CX E g tb ρ prog_14_method_100_code 3 RC12 0 0) (Y : CQ E g tb ρ (some .int) (some (.int r.1)) r.2) {c10 : Hp → Nat → Int32 → Int32 → Option (Int32 × Hp)} (H10 : ∀ (h : Hp) (l0 : Nat) (l1 : Int32) (l2 : Int32) (kl0 : kd tb l0 = 12), c10 h l0 l1 l2 = some r → V E g tb ρ 3 10 [(0, .ref (ρ l0)), (1, .int l1), (2, .int l2)] [] h) (h : Hp) (l0 : Nat) (l2 : Int32) (kl0 : kd tb l0 = 12) (hf : jb_Md_thirstiest_46 tb c10 h l0 l2 = some r) : V E g tb ρ 3 46 [(0, .ref (ρ l0)), (2, .int l2)] [] h := by
  unfold jb_Md_thirstiest_46 at hf
  refine v_iload_n (pc := 46) (k := 2) X (by decide +kernel) 1 rfl ?_
  refine v_goto (pc := 47) (off := 4) (tgt := 51) X (by decide +kernel) (by decide) ?_
  exact vjb_Md_thirstiest_51 ok hi X Y H10 h l0 l2 l2 kl0 hf
set_option maxRecDepth 4000 in
set_option maxHeartbeats 1000000 in
theorem vlp_Md_thirstiest_10 {E : En} {g : Gl} {tb : Tb} {ρ : Nat → Nat} (ok : TbOK tb) (hi : inj tb ρ) {r : Int32 × Hp} (X : CX E g tb ρ prog_14_method_100_code 3 RC12 0 0) (Y : CQ E g tb ρ (some .int) (some (.int r.1)) r.2) : ∀ (n : Nat) (h : Hp) (l0 : Nat) (l1 : Int32) (l2 : Int32) (kl0 : kd tb l0 = 12), lp_Md_thirstiest_10 tb n h l0 l1 l2 = some r → V E g tb ρ 3 10 [(0, .ref (ρ l0)), (1, .int l1), (2, .int l2)] [] h := by
  intro n
  induction n with
  | zero =>
    intro h l0 l1 l2 kl0 hf
    rw [lp_Md_thirstiest_10] at hf
    cases hf
  | succ n ih =>
    intro h l0 l1 l2 kl0 hf
    rw [lp_Md_thirstiest_10] at hf
    refine v_iload_n (pc := 10) (k := 2) X (by decide +kernel) 2 rfl ?_
    refine v_aload_n (pc := 11) (k := 0) X (by decide +kernel) 0 rfl ?_
    refine v_geti (pc := 12) X fl_12_246 kl0 rfl (by decide +kernel) ?_
    refine v_icmp_ge (pc := 15) (off := 43) (tgt := 58) X (by decide +kernel) (by decide) (fun q7 => ?_) (fun q7 => ?_)
    · rw [if_pos q7] at hf
      refine v_iload_n (pc := 58) (k := 1) X (by decide +kernel) 1 rfl ?_
      cases hf
      exact v_iret X Y (by decide +kernel) rfl rfl
    · rw [if_neg q7] at hf
      refine v_aload_n (pc := 18) (k := 0) X (by decide +kernel) 0 rfl ?_
      refine v_geta (pc := 19) X fl_12_106 kl0 fk_12_58 (by decide +kernel) ?_
      refine v_iload_n (pc := 22) (k := 2) X (by decide +kernel) 2 rfl ?_
      obtain ⟨x1, ex1, hf⟩ := bnd_e hf
      refine v_zald (pc := 23) X (ly_12_58 ok kl0) ex1 (by decide +kernel) ?_
      refine v_if_eq (pc := 24) (off := 26) (tgt := 50) X (by decide +kernel) (by decide) (fun q6 => ?_) (fun q6 => ?_)
      · rw [if_pos q6] at hf
        exact vjb_Md_thirstiest_50 ok hi X Y ih h l0 l1 l2 kl0 hf
      · rw [if_neg q6] at hf
        refine v_iload_n (pc := 27) (k := 1) X (by decide +kernel) 1 rfl ?_
        refine v_if_lt (pc := 28) (off := 18) (tgt := 46) X (by decide +kernel) (by decide) (fun q5 => ?_) (fun q5 => ?_)
        · rw [if_pos q5] at hf
          refine v_sub [0, 2] rfl ?_
          exact vjb_Md_thirstiest_46 ok hi X Y ih h l0 l2 kl0 hf
        · rw [if_neg q5] at hf
          refine v_aload_n (pc := 31) (k := 0) X (by decide +kernel) 0 rfl ?_
          refine v_geta (pc := 32) X fl_12_97 kl0 fk_12_55 (by decide +kernel) ?_
          refine v_iload_n (pc := 35) (k := 2) X (by decide +kernel) 2 rfl ?_
          obtain ⟨x2, ex2, hf⟩ := bnd_e hf
          refine v_iald (pc := 36) X (ly_12_55 ok kl0) ex2 (by decide +kernel) ?_
          refine v_aload_n (pc := 37) (k := 0) X (by decide +kernel) 0 rfl ?_
          refine v_geta (pc := 38) X fl_12_97 kl0 fk_12_55 (by decide +kernel) ?_
          refine v_iload_n (pc := 41) (k := 1) X (by decide +kernel) 1 rfl ?_
          obtain ⟨x3, ex3, hf⟩ := bnd_e hf
          refine v_iald (pc := 42) X (ly_12_55 ok kl0) ex3 (by decide +kernel) ?_
          refine v_icmp_le (pc := 43) (off := 7) (tgt := 50) X (by decide +kernel) (by decide) (fun q4 => ?_) (fun q4 => ?_)
          · rw [if_pos q4] at hf
            exact vjb_Md_thirstiest_50 ok hi X Y ih h l0 l1 l2 kl0 hf
          · rw [if_neg q4] at hf
            refine v_sub [0, 2] rfl ?_
            exact vjb_Md_thirstiest_46 ok hi X Y ih h l0 l2 kl0 hf
set_option maxRecDepth 4000 in
set_option maxHeartbeats 1000000 in
theorem mt_Md_thirstiest {g : Gl} {tb : Tb} {ρ : Nat → Nat} (ok : TbOK tb) (hi : inj tb ρ) {h : Hp} {l0 : Nat} (kl0 : kd tb l0 = 12) {r : Int32 × Hp} (hf : f_Md_thirstiest tb h l0 = some r) : MT g y_Md_thirstiest prog_14_method_100_code 3 (some .int) 0 0 tb ρ [.ref (ρ l0)] h (some (.int r.1)) r.2 := by
  refine mt_intro (by decide +kernel) ok hi (Nat.le_of_ble_eq_true rfl) (fun E X Y => ?_)
  change V E g tb ρ 3 0 [(0, .ref (ρ l0))] [] h
  unfold f_Md_thirstiest at hf
  refine v_aload_n (pc := 0) (k := 0) X (by decide +kernel) 0 rfl ?_
  refine v_iconst (pc := 1) (n := 0) X (by decide +kernel) ic_0 ?_
  obtain ⟨h1, eh1, hf⟩ := nmd_e hf
  refine v_puti (pc := 2) X fp_12_160 kl0 rfl (by decide +kernel) eh1 ?_
  refine v_bipush (pc := 5) (n := -2) X (by decide +kernel) bi_m2 ?_
  refine v_istore_n (pc := 7) (k := 1) (lv' := [(1, .int (-2 : Int32)), (0, .ref (ρ l0))]) X (by decide +kernel) (Nat.le_of_ble_eq_true rfl) rfl ?_
  refine v_iconst (pc := 8) (n := 0) X (by decide +kernel) ic_0 ?_
  refine v_istore_n (pc := 9) (k := 2) (lv' := [(2, .int (0 : Int32)), (1, .int (-2 : Int32)), (0, .ref (ρ l0))]) X (by decide +kernel) (Nat.le_of_ble_eq_true rfl) rfl ?_
  refine v_sub [2, 1, 0] rfl ?_
  exact vlp_Md_thirstiest_10 ok hi X Y fu h1 l0 (-2 : Int32) (0 : Int32) kl0 hf
def jb_Md_driest_41 (tb : Tb) (c9 : Hp → Nat → Int32 → Int32 → Option (Int32 × Hp)) (h : Hp) (l0 : Nat) (l2 : Int32) (s0 : Int32) : Option (Int32 × Hp) :=
  nmd (l2 + (1 : Int32)) fun x1 =>
  c9 h l0 s0 x1
def jb_Md_driest_36 (tb : Tb) (c9 : Hp → Nat → Int32 → Int32 → Option (Int32 × Hp)) (h : Hp) (l0 : Nat) (l2 : Int32) : Option (Int32 × Hp) :=
  jb_Md_driest_41 tb c9 h l0 l2 l2
def lp_Md_driest_9 (tb : Tb) : Nat → Hp → Nat → Int32 → Int32 → Option (Int32 × Hp)
  | 0, _, _, _, _ => none
  | n + 1, h, l0, l1, l2 =>
    if (h.1 l0 12) ≤ l2 then (
      some (l1, h)
    ) else (
      if l1 < (0 : Int32) then (
        jb_Md_driest_36 tb (lp_Md_driest_9 tb n) h l0 l2
      ) else (
        (rI tb h (lay tb l0 60) l2).bind fun x1 =>
        (rI tb h (lay tb l0 60) l1).bind fun x2 =>
        if x2 ≤ x1 then (
          jb_Md_driest_41 tb (lp_Md_driest_9 tb n) h l0 l2 l1
        ) else (
          jb_Md_driest_36 tb (lp_Md_driest_9 tb n) h l0 l2
        )
      )
    )
def f_Md_driest (tb : Tb) (h : Hp) (l0 : Nat) : Option (Int32 × Hp) :=
  nmd (pI h l0 2 (0 : Int32)) fun h1 =>
  lp_Md_driest_9 tb fu h1 l0 (-1 : Int32) (0 : Int32)
set_option maxRecDepth 4000 in
set_option maxHeartbeats 1000000 in
theorem vjb_Md_driest_41 {E : En} {g : Gl} {tb : Tb} {ρ : Nat → Nat} (ok : TbOK tb) (hi : inj tb ρ) {r : Int32 × Hp} (X : CX E g tb ρ prog_14_method_101_code 3 RC12 0 0) (Y : CQ E g tb ρ (some .int) (some (.int r.1)) r.2) {c9 : Hp → Nat → Int32 → Int32 → Option (Int32 × Hp)} (H9 : ∀ (h : Hp) (l0 : Nat) (l1 : Int32) (l2 : Int32) (kl0 : kd tb l0 = 12), c9 h l0 l1 l2 = some r → V E g tb ρ 3 9 [(0, .ref (ρ l0)), (1, .int l1), (2, .int l2)] [] h) (h : Hp) (l0 : Nat) (l2 : Int32) (s0 : Int32) (kl0 : kd tb l0 = 12) (hf : jb_Md_driest_41 tb c9 h l0 l2 s0 = some r) : V E g tb ρ 3 41 [(0, .ref (ρ l0)), (2, .int l2)] [.int s0] h := by
  unfold jb_Md_driest_41 at hf
  refine v_istore_n (pc := 41) (k := 1) (lv' := [(1, .int s0), (0, .ref (ρ l0)), (2, .int l2)]) X (by decide +kernel) (Nat.le_of_ble_eq_true rfl) rfl ?_
  obtain ⟨x1, ex1, hf⟩ := nmd_e hf
  refine v_iinc (pc := 42) (k := 2) (n := 1) (v := x1) (lv' := [(2, .int x1), (1, .int s0), (0, .ref (ρ l0))]) X (by decide +kernel) 2 rfl (by rw [ic_1, ex1]) (Nat.le_of_ble_eq_true rfl) rfl ?_
  refine v_goto (pc := 45) (off := -36) (tgt := 9) X (by decide +kernel) (by decide) ?_
  refine v_sub [2, 1, 0] rfl ?_
  exact H9 h l0 s0 x1 kl0 hf
set_option maxRecDepth 4000 in
set_option maxHeartbeats 1000000 in
theorem vjb_Md_driest_36 {E : En} {g : Gl} {tb : Tb} {ρ : Nat → Nat} (ok : TbOK tb) (hi : inj tb ρ) {r : Int32 × Hp} (X : CX E g tb ρ prog_14_method_101_code 3 RC12 0 0) (Y : CQ E g tb ρ (some .int) (some (.int r.1)) r.2) {c9 : Hp → Nat → Int32 → Int32 → Option (Int32 × Hp)} (H9 : ∀ (h : Hp) (l0 : Nat) (l1 : Int32) (l2 : Int32) (kl0 : kd tb l0 = 12), c9 h l0 l1 l2 = some r → V E g tb ρ 3 9 [(0, .ref (ρ l0)), (1, .int l1), (2, .int l2)] [] h) (h : Hp) (l0 : Nat) (l2 : Int32) (kl0 : kd tb l0 = 12) (hf : jb_Md_driest_36 tb c9 h l0 l2 = some r) : V E g tb ρ 3 36 [(0, .ref (ρ l0)), (2, .int l2)] [] h := by
  unfold jb_Md_driest_36 at hf
  refine v_iload_n (pc := 36) (k := 2) X (by decide +kernel) 1 rfl ?_
  refine v_goto (pc := 37) (off := 4) (tgt := 41) X (by decide +kernel) (by decide) ?_
  exact vjb_Md_driest_41 ok hi X Y H9 h l0 l2 l2 kl0 hf
set_option maxRecDepth 4000 in
set_option maxHeartbeats 1000000 in
theorem vlp_Md_driest_9 {E : En} {g : Gl} {tb : Tb} {ρ : Nat → Nat} (ok : TbOK tb) (hi : inj tb ρ) {r : Int32 × Hp} (X : CX E g tb ρ prog_14_method_101_code 3 RC12 0 0) (Y : CQ E g tb ρ (some .int) (some (.int r.1)) r.2) : ∀ (n : Nat) (h : Hp) (l0 : Nat) (l1 : Int32) (l2 : Int32) (kl0 : kd tb l0 = 12), lp_Md_driest_9 tb n h l0 l1 l2 = some r → V E g tb ρ 3 9 [(0, .ref (ρ l0)), (1, .int l1), (2, .int l2)] [] h := by
  intro n
  induction n with
  | zero =>
    intro h l0 l1 l2 kl0 hf
    rw [lp_Md_driest_9] at hf
    cases hf
  | succ n ih =>
    intro h l0 l1 l2 kl0 hf
    rw [lp_Md_driest_9] at hf
    refine v_iload_n (pc := 9) (k := 2) X (by decide +kernel) 2 rfl ?_
    refine v_aload_n (pc := 10) (k := 0) X (by decide +kernel) 0 rfl ?_
    refine v_geti (pc := 11) X fl_12_243 kl0 rfl (by decide +kernel) ?_
    refine v_icmp_ge (pc := 14) (off := 34) (tgt := 48) X (by decide +kernel) (by decide) (fun q5 => ?_) (fun q5 => ?_)
    · rw [if_pos q5] at hf
      refine v_iload_n (pc := 48) (k := 1) X (by decide +kernel) 1 rfl ?_
      cases hf
      exact v_iret X Y (by decide +kernel) rfl rfl
    · rw [if_neg q5] at hf
      refine v_iload_n (pc := 17) (k := 1) X (by decide +kernel) 1 rfl ?_
      refine v_if_lt (pc := 18) (off := 18) (tgt := 36) X (by decide +kernel) (by decide) (fun q4 => ?_) (fun q4 => ?_)
      · rw [if_pos q4] at hf
        refine v_sub [0, 2] rfl ?_
        exact vjb_Md_driest_36 ok hi X Y ih h l0 l2 kl0 hf
      · rw [if_neg q4] at hf
        refine v_aload_n (pc := 21) (k := 0) X (by decide +kernel) 0 rfl ?_
        refine v_geta (pc := 22) X fl_12_112 kl0 fk_12_60 (by decide +kernel) ?_
        refine v_iload_n (pc := 25) (k := 2) X (by decide +kernel) 2 rfl ?_
        obtain ⟨x1, ex1, hf⟩ := bnd_e hf
        refine v_iald (pc := 26) X (ly_12_60 ok kl0) ex1 (by decide +kernel) ?_
        refine v_aload_n (pc := 27) (k := 0) X (by decide +kernel) 0 rfl ?_
        refine v_geta (pc := 28) X fl_12_112 kl0 fk_12_60 (by decide +kernel) ?_
        refine v_iload_n (pc := 31) (k := 1) X (by decide +kernel) 1 rfl ?_
        obtain ⟨x2, ex2, hf⟩ := bnd_e hf
        refine v_iald (pc := 32) X (ly_12_60 ok kl0) ex2 (by decide +kernel) ?_
        refine v_icmp_ge (pc := 33) (off := 7) (tgt := 40) X (by decide +kernel) (by decide) (fun q3 => ?_) (fun q3 => ?_)
        · rw [if_pos q3] at hf
          refine v_iload_n (pc := 40) (k := 1) X (by decide +kernel) 1 rfl ?_
          refine v_sub [0, 2] rfl ?_
          exact vjb_Md_driest_41 ok hi X Y ih h l0 l2 l1 kl0 hf
        · rw [if_neg q3] at hf
          refine v_sub [0, 2] rfl ?_
          exact vjb_Md_driest_36 ok hi X Y ih h l0 l2 kl0 hf
set_option maxRecDepth 4000 in
set_option maxHeartbeats 1000000 in
theorem mt_Md_driest {g : Gl} {tb : Tb} {ρ : Nat → Nat} (ok : TbOK tb) (hi : inj tb ρ) {h : Hp} {l0 : Nat} (kl0 : kd tb l0 = 12) {r : Int32 × Hp} (hf : f_Md_driest tb h l0 = some r) : MT g y_Md_driest prog_14_method_101_code 3 (some .int) 0 0 tb ρ [.ref (ρ l0)] h (some (.int r.1)) r.2 := by
  refine mt_intro (by decide +kernel) ok hi (Nat.le_of_ble_eq_true rfl) (fun E X Y => ?_)
  change V E g tb ρ 3 0 [(0, .ref (ρ l0))] [] h
  unfold f_Md_driest at hf
  refine v_aload_n (pc := 0) (k := 0) X (by decide +kernel) 0 rfl ?_
  refine v_iconst (pc := 1) (n := 0) X (by decide +kernel) ic_0 ?_
  obtain ⟨h1, eh1, hf⟩ := nmd_e hf
  refine v_puti (pc := 2) X fp_12_160 kl0 rfl (by decide +kernel) eh1 ?_
  refine v_iconst (pc := 5) (n := -1) X (by decide +kernel) ic_m1 ?_
  refine v_istore_n (pc := 6) (k := 1) (lv' := [(1, .int (-1 : Int32)), (0, .ref (ρ l0))]) X (by decide +kernel) (Nat.le_of_ble_eq_true rfl) rfl ?_
  refine v_iconst (pc := 7) (n := 0) X (by decide +kernel) ic_0 ?_
  refine v_istore_n (pc := 8) (k := 2) (lv' := [(2, .int (0 : Int32)), (1, .int (-1 : Int32)), (0, .ref (ρ l0))]) X (by decide +kernel) (Nat.le_of_ble_eq_true rfl) rfl ?_
  refine v_sub [2, 1, 0] rfl ?_
  exact vlp_Md_driest_9 ok hi X Y fu h1 l0 (-1 : Int32) (0 : Int32) kl0 hf
def jb_Md_nearest_72 (tb : Tb) (c20 : Hp → Nat → Int32 → Int32 → Int32 → Option (Int32 × Hp)) (h : Hp) (l0 : Nat) (l1 : Int32) (l3 : Int32) (s0 : Int32) : Option (Int32 × Hp) :=
  nmd (l3 + (1 : Int32)) fun x1 =>
  c20 h l0 l1 s0 x1
def jb_Md_nearest_67 (tb : Tb) (c20 : Hp → Nat → Int32 → Int32 → Int32 → Option (Int32 × Hp)) (h : Hp) (l0 : Nat) (l1 : Int32) (l3 : Int32) : Option (Int32 × Hp) :=
  jb_Md_nearest_72 tb c20 h l0 l1 l3 l3
def lp_Md_nearest_20 (tb : Tb) : Nat → Hp → Nat → Int32 → Int32 → Int32 → Option (Int32 × Hp)
  | 0, _, _, _, _, _ => none
  | n + 1, h, l0, l1, l2, l3 =>
    if (h.1 l0 12) ≤ l3 then (
      some (l2, h)
    ) else (
      if l2 < (0 : Int32) then (
        jb_Md_nearest_67 tb (lp_Md_nearest_20 tb n) h l0 l1 l3
      ) else (
        (rI tb h (lay tb l0 26) l3).bind fun x1 =>
        (rI tb h (lay tb l0 54) l1).bind fun x2 =>
        nmd (f_Md_sizeOf tb h (x1 - x2)) fun r3 =>
        (rI tb h (lay tb l0 26) l2).bind fun x4 =>
        (rI tb h (lay tb l0 54) l1).bind fun x5 =>
        nmd (f_Md_sizeOf tb h (x4 - x5)) fun r6 =>
        if r6 ≤ r3 then (
          jb_Md_nearest_72 tb (lp_Md_nearest_20 tb n) h l0 l1 l3 l2
        ) else (
          jb_Md_nearest_67 tb (lp_Md_nearest_20 tb n) h l0 l1 l3
        )
      )
    )
def f_Md_nearest (tb : Tb) (h : Hp) (l0 : Nat) (l1 : Int32) : Option (Int32 × Hp) :=
  nmd (pI h l0 2 (0 : Int32)) fun h1 =>
  nmd (f_Md_isHorse tb h1 l0 l1) fun r2 =>
  if r2 = (0 : Int32) then (
    some ((-1 : Int32), h1)
  ) else (
    lp_Md_nearest_20 tb fu h1 l0 l1 (-2 : Int32) (0 : Int32)
  )
set_option maxRecDepth 4000 in
set_option maxHeartbeats 1000000 in
theorem vjb_Md_nearest_72 {E : En} {g : Gl} {tb : Tb} {ρ : Nat → Nat} (ok : TbOK tb) (hi : inj tb ρ) {r : Int32 × Hp} (X : CX E g tb ρ prog_14_method_102_code 4 RC12 1 21) (Y : CQ E g tb ρ (some .int) (some (.int r.1)) r.2) {c20 : Hp → Nat → Int32 → Int32 → Int32 → Option (Int32 × Hp)} (H20 : ∀ (h : Hp) (l0 : Nat) (l1 : Int32) (l2 : Int32) (l3 : Int32) (kl0 : kd tb l0 = 12), c20 h l0 l1 l2 l3 = some r → V E g tb ρ 4 20 [(0, .ref (ρ l0)), (1, .int l1), (2, .int l2), (3, .int l3)] [] h) (h : Hp) (l0 : Nat) (l1 : Int32) (l3 : Int32) (s0 : Int32) (kl0 : kd tb l0 = 12) (hf : jb_Md_nearest_72 tb c20 h l0 l1 l3 s0 = some r) : V E g tb ρ 4 72 [(0, .ref (ρ l0)), (1, .int l1), (3, .int l3)] [.int s0] h := by
  unfold jb_Md_nearest_72 at hf
  refine v_istore_n (pc := 72) (k := 2) (lv' := [(2, .int s0), (0, .ref (ρ l0)), (1, .int l1), (3, .int l3)]) X (by decide +kernel) (Nat.le_of_ble_eq_true rfl) rfl ?_
  obtain ⟨x1, ex1, hf⟩ := nmd_e hf
  refine v_iinc (pc := 73) (k := 3) (n := 1) (v := x1) (lv' := [(3, .int x1), (2, .int s0), (0, .ref (ρ l0)), (1, .int l1)]) X (by decide +kernel) 3 rfl (by rw [ic_1, ex1]) (Nat.le_of_ble_eq_true rfl) rfl ?_
  refine v_goto (pc := 76) (off := -56) (tgt := 20) X (by decide +kernel) (by decide) ?_
  refine v_sub [2, 3, 1, 0] rfl ?_
  exact H20 h l0 l1 s0 x1 kl0 hf
set_option maxRecDepth 4000 in
set_option maxHeartbeats 1000000 in
theorem vjb_Md_nearest_67 {E : En} {g : Gl} {tb : Tb} {ρ : Nat → Nat} (ok : TbOK tb) (hi : inj tb ρ) {r : Int32 × Hp} (X : CX E g tb ρ prog_14_method_102_code 4 RC12 1 21) (Y : CQ E g tb ρ (some .int) (some (.int r.1)) r.2) {c20 : Hp → Nat → Int32 → Int32 → Int32 → Option (Int32 × Hp)} (H20 : ∀ (h : Hp) (l0 : Nat) (l1 : Int32) (l2 : Int32) (l3 : Int32) (kl0 : kd tb l0 = 12), c20 h l0 l1 l2 l3 = some r → V E g tb ρ 4 20 [(0, .ref (ρ l0)), (1, .int l1), (2, .int l2), (3, .int l3)] [] h) (h : Hp) (l0 : Nat) (l1 : Int32) (l3 : Int32) (kl0 : kd tb l0 = 12) (hf : jb_Md_nearest_67 tb c20 h l0 l1 l3 = some r) : V E g tb ρ 4 67 [(0, .ref (ρ l0)), (1, .int l1), (3, .int l3)] [] h := by
  unfold jb_Md_nearest_67 at hf
  refine v_iload_n (pc := 67) (k := 3) X (by decide +kernel) 2 rfl ?_
  refine v_goto (pc := 68) (off := 4) (tgt := 72) X (by decide +kernel) (by decide) ?_
  exact vjb_Md_nearest_72 ok hi X Y H20 h l0 l1 l3 l3 kl0 hf
set_option maxRecDepth 4000 in
set_option maxHeartbeats 1000000 in
theorem vlp_Md_nearest_20 {E : En} {g : Gl} {tb : Tb} {ρ : Nat → Nat} (ok : TbOK tb) (hi : inj tb ρ) {r : Int32 × Hp} (X : CX E g tb ρ prog_14_method_102_code 4 RC12 1 21) (Y : CQ E g tb ρ (some .int) (some (.int r.1)) r.2) : ∀ (n : Nat) (h : Hp) (l0 : Nat) (l1 : Int32) (l2 : Int32) (l3 : Int32) (kl0 : kd tb l0 = 12), lp_Md_nearest_20 tb n h l0 l1 l2 l3 = some r → V E g tb ρ 4 20 [(0, .ref (ρ l0)), (1, .int l1), (2, .int l2), (3, .int l3)] [] h := by
  intro n
  induction n with
  | zero =>
    intro h l0 l1 l2 l3 kl0 hf
    rw [lp_Md_nearest_20] at hf
    cases hf
  | succ n ih =>
    intro h l0 l1 l2 l3 kl0 hf
    rw [lp_Md_nearest_20] at hf
    refine v_iload_n (pc := 20) (k := 3) X (by decide +kernel) 3 rfl ?_
    refine v_aload_n (pc := 21) (k := 0) X (by decide +kernel) 0 rfl ?_
    refine v_geti (pc := 22) X fl_12_243 kl0 rfl (by decide +kernel) ?_
    refine v_icmp_ge (pc := 25) (off := 54) (tgt := 79) X (by decide +kernel) (by decide) (fun q9 => ?_) (fun q9 => ?_)
    · rw [if_pos q9] at hf
      refine v_iload_n (pc := 79) (k := 2) X (by decide +kernel) 2 rfl ?_
      cases hf
      exact v_iret X Y (by decide +kernel) rfl rfl
    · rw [if_neg q9] at hf
      refine v_iload_n (pc := 28) (k := 2) X (by decide +kernel) 2 rfl ?_
      refine v_if_lt (pc := 29) (off := 38) (tgt := 67) X (by decide +kernel) (by decide) (fun q8 => ?_) (fun q8 => ?_)
      · rw [if_pos q8] at hf
        refine v_sub [0, 1, 3] rfl ?_
        exact vjb_Md_nearest_67 ok hi X Y ih h l0 l1 l3 kl0 hf
      · rw [if_neg q8] at hf
        refine v_aload_n (pc := 32) (k := 0) X (by decide +kernel) 0 rfl ?_
        refine v_geta (pc := 33) X fl_12_30 kl0 fk_12_26 (by decide +kernel) ?_
        refine v_iload_n (pc := 36) (k := 3) X (by decide +kernel) 3 rfl ?_
        obtain ⟨x1, ex1, hf⟩ := bnd_e hf
        refine v_iald (pc := 37) X (ly_12_26 ok kl0) ex1 (by decide +kernel) ?_
        refine v_aload_n (pc := 38) (k := 0) X (by decide +kernel) 0 rfl ?_
        refine v_geta (pc := 39) X fl_12_94 kl0 fk_12_54 (by decide +kernel) ?_
        refine v_iload_n (pc := 42) (k := 1) X (by decide +kernel) 1 rfl ?_
        obtain ⟨x2, ex2, hf⟩ := bnd_e hf
        refine v_iald (pc := 43) X (ly_12_54 ok kl0) ex2 (by decide +kernel) ?_
        refine v_isub (pc := 44) X (by decide +kernel) ?_
        obtain ⟨r3, er3, hf⟩ := nmd_e hf
        refine v_callS (pc := 45) (As := [.int (x1 - x2)]) (rest := []) X (mt_Md_sizeOf ok hi er3.symm) ml_12_398 ms_Md_sizeOf ⟨Nat.le_of_ble_eq_true rfl, Nat.le_of_ble_eq_true rfl⟩ rfl rfl (Nat.le_of_ble_eq_true rfl) (by decide +kernel) ?_
        change V E g tb ρ 4 48 [(0, .ref (ρ l0)), (1, .int l1), (2, .int l2), (3, .int l3)] [.int r3] h
        refine v_aload_n (pc := 48) (k := 0) X (by decide +kernel) 0 rfl ?_
        refine v_geta (pc := 49) X fl_12_30 kl0 fk_12_26 (by decide +kernel) ?_
        refine v_iload_n (pc := 52) (k := 2) X (by decide +kernel) 2 rfl ?_
        obtain ⟨x4, ex4, hf⟩ := bnd_e hf
        refine v_iald (pc := 53) X (ly_12_26 ok kl0) ex4 (by decide +kernel) ?_
        refine v_aload_n (pc := 54) (k := 0) X (by decide +kernel) 0 rfl ?_
        refine v_geta (pc := 55) X fl_12_94 kl0 fk_12_54 (by decide +kernel) ?_
        refine v_iload_n (pc := 58) (k := 1) X (by decide +kernel) 1 rfl ?_
        obtain ⟨x5, ex5, hf⟩ := bnd_e hf
        refine v_iald (pc := 59) X (ly_12_54 ok kl0) ex5 (by decide +kernel) ?_
        refine v_isub (pc := 60) X (by decide +kernel) ?_
        obtain ⟨r6, er6, hf⟩ := nmd_e hf
        refine v_callS (pc := 61) (As := [.int (x4 - x5)]) (rest := [.int r3]) X (mt_Md_sizeOf ok hi er6.symm) ml_12_398 ms_Md_sizeOf ⟨Nat.le_of_ble_eq_true rfl, Nat.le_of_ble_eq_true rfl⟩ rfl rfl (Nat.le_of_ble_eq_true rfl) (by decide +kernel) ?_
        change V E g tb ρ 4 64 [(0, .ref (ρ l0)), (1, .int l1), (2, .int l2), (3, .int l3)] [.int r6, .int r3] h
        refine v_icmp_ge (pc := 64) (off := 7) (tgt := 71) X (by decide +kernel) (by decide) (fun q7 => ?_) (fun q7 => ?_)
        · rw [if_pos q7] at hf
          refine v_iload_n (pc := 71) (k := 2) X (by decide +kernel) 2 rfl ?_
          refine v_sub [0, 1, 3] rfl ?_
          exact vjb_Md_nearest_72 ok hi X Y ih h l0 l1 l3 l2 kl0 hf
        · rw [if_neg q7] at hf
          refine v_sub [0, 1, 3] rfl ?_
          exact vjb_Md_nearest_67 ok hi X Y ih h l0 l1 l3 kl0 hf
set_option maxRecDepth 4000 in
set_option maxHeartbeats 1000000 in
theorem mt_Md_nearest {g : Gl} {tb : Tb} {ρ : Nat → Nat} (ok : TbOK tb) (hi : inj tb ρ) {h : Hp} {l0 : Nat} {l1 : Int32} (kl0 : kd tb l0 = 12) {r : Int32 × Hp} (hf : f_Md_nearest tb h l0 l1 = some r) : MT g y_Md_nearest prog_14_method_102_code 4 (some .int) 1 21 tb ρ [.ref (ρ l0), .int l1] h (some (.int r.1)) r.2 := by
  refine mt_intro (by decide +kernel) ok hi (Nat.le_of_ble_eq_true rfl) (fun E X Y => ?_)
  change V E g tb ρ 4 0 [(0, .ref (ρ l0)), (1, .int l1)] [] h
  unfold f_Md_nearest at hf
  refine v_aload_n (pc := 0) (k := 0) X (by decide +kernel) 0 rfl ?_
  refine v_iconst (pc := 1) (n := 0) X (by decide +kernel) ic_0 ?_
  obtain ⟨h1, eh1, hf⟩ := nmd_e hf
  refine v_puti (pc := 2) X fp_12_160 kl0 rfl (by decide +kernel) eh1 ?_
  refine v_aload_n (pc := 5) (k := 0) X (by decide +kernel) 0 rfl ?_
  refine v_iload_n (pc := 6) (k := 1) X (by decide +kernel) 1 rfl ?_
  obtain ⟨r2, er2, hf⟩ := nmd_e hf
  refine v_callV (pc := 7) (As := [.int l1]) (rest := []) X (mt_Md_isHorse ok hi kl0 er2.symm) ml_12_459 mv_Md_isHorse kl0 cls_12 rfl ⟨Nat.le_of_ble_eq_true rfl, Nat.le_of_ble_eq_true rfl⟩ rfl rfl (Nat.le_of_ble_eq_true rfl) (by decide +kernel) ?_
  change V E g tb ρ 4 10 [(0, .ref (ρ l0)), (1, .int l1)] [.int r2] h1
  refine v_if_ne (pc := 10) (off := 5) (tgt := 15) X (by decide +kernel) (by decide) (fun q3 => ?_) (fun q3 => ?_)
  · rw [if_neg q3] at hf
    refine v_bipush (pc := 15) (n := -2) X (by decide +kernel) bi_m2 ?_
    refine v_istore_n (pc := 17) (k := 2) (lv' := [(2, .int (-2 : Int32)), (0, .ref (ρ l0)), (1, .int l1)]) X (by decide +kernel) (Nat.le_of_ble_eq_true rfl) rfl ?_
    refine v_iconst (pc := 18) (n := 0) X (by decide +kernel) ic_0 ?_
    refine v_istore_n (pc := 19) (k := 3) (lv' := [(3, .int (0 : Int32)), (2, .int (-2 : Int32)), (0, .ref (ρ l0)), (1, .int l1)]) X (by decide +kernel) (Nat.le_of_ble_eq_true rfl) rfl ?_
    refine v_sub [2, 3, 1, 0] rfl ?_
    exact vlp_Md_nearest_20 ok hi X Y fu h1 l0 l1 (-2 : Int32) (0 : Int32) kl0 hf
  · rw [if_pos q3] at hf
    refine v_iconst (pc := 13) (n := -1) X (by decide +kernel) ic_m1 ?_
    cases hf
    exact v_iret X Y (by decide +kernel) rfl rfl
def f_Md_noted (tb : Tb) (h : Hp) (l0 : Nat) (l1 : Int32) (l2 : Int32) (l3 : Int32) (l4 : Int32) : Option (Int32 × Hp) :=
  (wI tb h (lay tb l0 76) ((4 : Int32) * (h.1 l0 74)) l1).bind fun h1 =>
  (wI tb h1 (lay tb l0 76) (((4 : Int32) * (h1.1 l0 74)) + (1 : Int32)) l2).bind fun h2 =>
  (wI tb h2 (lay tb l0 76) (((4 : Int32) * (h2.1 l0 74)) + (2 : Int32)) l3).bind fun h3 =>
  (wI tb h3 (lay tb l0 76) (((4 : Int32) * (h3.1 l0 74)) + (3 : Int32)) l4).bind fun h4 =>
  nmd (pI h4 l0 74 ((h4.1 l0 74) + (1 : Int32))) fun h5 =>
  some ((h5.1 l0 74) - (1 : Int32), h5)
set_option maxRecDepth 4000 in
set_option maxHeartbeats 1000000 in
theorem mt_Md_noted {g : Gl} {tb : Tb} {ρ : Nat → Nat} (ok : TbOK tb) (hi : inj tb ρ) {h : Hp} {l0 : Nat} {l1 : Int32} {l2 : Int32} {l3 : Int32} {l4 : Int32} (kl0 : kd tb l0 = 12) {r : Int32 × Hp} (hf : f_Md_noted tb h l0 l1 l2 l3 l4 = some r) : MT g y_Md_noted prog_14_method_103_code 5 (some .int) 0 0 tb ρ [.ref (ρ l0), .int l1, .int l2, .int l3, .int l4] h (some (.int r.1)) r.2 := by
  refine mt_intro (by decide +kernel) ok hi (Nat.le_of_ble_eq_true rfl) (fun E X Y => ?_)
  change V E g tb ρ 5 0 [(0, .ref (ρ l0)), (1, .int l1), (2, .int l2), (3, .int l3), (4, .int l4)] [] h
  unfold f_Md_noted at hf
  refine v_aload_n (pc := 0) (k := 0) X (by decide +kernel) 0 rfl ?_
  refine v_geta (pc := 1) X fl_12_139 kl0 fk_12_76 (by decide +kernel) ?_
  refine v_iconst (pc := 4) (n := 4) X (by decide +kernel) ic_4 ?_
  refine v_aload_n (pc := 5) (k := 0) X (by decide +kernel) 0 rfl ?_
  refine v_geti (pc := 6) X fl_12_377 kl0 rfl (by decide +kernel) ?_
  refine v_imul (pc := 9) X (by decide +kernel) ?_
  refine v_iload_n (pc := 10) (k := 1) X (by decide +kernel) 1 rfl ?_
  obtain ⟨h1, eh1, hf⟩ := bnd_e hf
  refine v_iast (pc := 11) X (ly_12_76 ok kl0) eh1 (by decide +kernel) ?_
  refine v_aload_n (pc := 12) (k := 0) X (by decide +kernel) 0 rfl ?_
  refine v_geta (pc := 13) X fl_12_139 kl0 fk_12_76 (by decide +kernel) ?_
  refine v_iconst (pc := 16) (n := 4) X (by decide +kernel) ic_4 ?_
  refine v_aload_n (pc := 17) (k := 0) X (by decide +kernel) 0 rfl ?_
  refine v_geti (pc := 18) X fl_12_377 kl0 rfl (by decide +kernel) ?_
  refine v_imul (pc := 21) X (by decide +kernel) ?_
  refine v_iconst (pc := 22) (n := 1) X (by decide +kernel) ic_1 ?_
  refine v_iadd (pc := 23) X (by decide +kernel) ?_
  refine v_iload_n (pc := 24) (k := 2) X (by decide +kernel) 2 rfl ?_
  obtain ⟨h2, eh2, hf⟩ := bnd_e hf
  refine v_iast (pc := 25) X (ly_12_76 ok kl0) eh2 (by decide +kernel) ?_
  refine v_aload_n (pc := 26) (k := 0) X (by decide +kernel) 0 rfl ?_
  refine v_geta (pc := 27) X fl_12_139 kl0 fk_12_76 (by decide +kernel) ?_
  refine v_iconst (pc := 30) (n := 4) X (by decide +kernel) ic_4 ?_
  refine v_aload_n (pc := 31) (k := 0) X (by decide +kernel) 0 rfl ?_
  refine v_geti (pc := 32) X fl_12_377 kl0 rfl (by decide +kernel) ?_
  refine v_imul (pc := 35) X (by decide +kernel) ?_
  refine v_iconst (pc := 36) (n := 2) X (by decide +kernel) ic_2 ?_
  refine v_iadd (pc := 37) X (by decide +kernel) ?_
  refine v_iload_n (pc := 38) (k := 3) X (by decide +kernel) 3 rfl ?_
  obtain ⟨h3, eh3, hf⟩ := bnd_e hf
  refine v_iast (pc := 39) X (ly_12_76 ok kl0) eh3 (by decide +kernel) ?_
  refine v_aload_n (pc := 40) (k := 0) X (by decide +kernel) 0 rfl ?_
  refine v_geta (pc := 41) X fl_12_139 kl0 fk_12_76 (by decide +kernel) ?_
  refine v_iconst (pc := 44) (n := 4) X (by decide +kernel) ic_4 ?_
  refine v_aload_n (pc := 45) (k := 0) X (by decide +kernel) 0 rfl ?_
  refine v_geti (pc := 46) X fl_12_377 kl0 rfl (by decide +kernel) ?_
  refine v_imul (pc := 49) X (by decide +kernel) ?_
  refine v_iconst (pc := 50) (n := 3) X (by decide +kernel) ic_3 ?_
  refine v_iadd (pc := 51) X (by decide +kernel) ?_
  refine v_iload (pc := 52) (k := 4) X (by decide +kernel) 4 rfl ?_
  obtain ⟨h4, eh4, hf⟩ := bnd_e hf
  refine v_iast (pc := 54) X (ly_12_76 ok kl0) eh4 (by decide +kernel) ?_
  refine v_aload_n (pc := 55) (k := 0) X (by decide +kernel) 0 rfl ?_
  refine v_dup (pc := 56) X (by decide +kernel) rfl ?_
  refine v_geti (pc := 57) X fl_12_377 kl0 rfl (by decide +kernel) ?_
  refine v_iconst (pc := 60) (n := 1) X (by decide +kernel) ic_1 ?_
  refine v_iadd (pc := 61) X (by decide +kernel) ?_
  obtain ⟨h5, eh5, hf⟩ := nmd_e hf
  refine v_puti (pc := 62) X fp_12_377 kl0 rfl (by decide +kernel) eh5 ?_
  refine v_aload_n (pc := 65) (k := 0) X (by decide +kernel) 0 rfl ?_
  refine v_geti (pc := 66) X fl_12_377 kl0 rfl (by decide +kernel) ?_
  refine v_iconst (pc := 69) (n := 1) X (by decide +kernel) ic_1 ?_
  refine v_isub (pc := 70) X (by decide +kernel) ?_
  cases hf
  exact v_iret X Y (by decide +kernel) rfl rfl
def jb_Md_see_60 (tb : Tb) (h : Hp) (s0 : Nat) (s1 : Int32) (s2 : Int32) (s3 : Int32) (s4 : Int32) : Option (Int32 × Hp) :=
  (f_Md_noted tb h s0 s1 s2 s3 s4).bind fun r1 =>
  some (r1.1, r1.2)
def f_Md_see (tb : Tb) (h : Hp) (l0 : Nat) (l1 : Int32) (l2 : Int32) (l3 : Int32) (l4 : Int32) : Option (Int32 × Hp) :=
  nmd (pI h l0 2 (0 : Int32)) fun h1 =>
  if (h1.1 l0 74) = (24 : Int32) then (
    some ((-1 : Int32), h1)
  ) else (
    nmd (f_Md_isIn tb h1 l1 (1 : Int32) (60 : Int32)) fun r2 =>
    if r2 = (0 : Int32) then (
      some ((-1 : Int32), h1)
    ) else (
      nmd (f_Md_isTrough tb h1 l0 l2) fun r3 =>
      if r3 = (0 : Int32) then (
        some ((-1 : Int32), h1)
      ) else (
        nmd (f_Md_isIn tb h1 l3 (0 : Int32) (99 : Int32)) fun r4 =>
        if r4 = (0 : Int32) then (
          some ((-1 : Int32), h1)
        ) else (
          if l4 = (0 : Int32) then (
            jb_Md_see_60 tb h1 l0 l1 l2 l3 (0 : Int32)
          ) else (
            jb_Md_see_60 tb h1 l0 l1 l2 l3 (1 : Int32)
          )
        )
      )
    )
  )
set_option maxRecDepth 4000 in
set_option maxHeartbeats 1000000 in
theorem vjb_Md_see_60 {E : En} {g : Gl} {tb : Tb} {ρ : Nat → Nat} (ok : TbOK tb) (hi : inj tb ρ) {r : Int32 × Hp} (X : CX E g tb ρ prog_14_method_104_code 5 RC12 1 24) (Y : CQ E g tb ρ (some .int) (some (.int r.1)) r.2) (h : Hp) (s0 : Nat) (s1 : Int32) (s2 : Int32) (s3 : Int32) (s4 : Int32) (ks0 : kd tb s0 = 12) (hf : jb_Md_see_60 tb h s0 s1 s2 s3 s4 = some r) : V E g tb ρ 5 60 [] [.int s4, .int s3, .int s2, .int s1, .ref (ρ s0)] h := by
  unfold jb_Md_see_60 at hf
  obtain ⟨r1, er1, hf⟩ := bnd_e hf
  refine v_callV (pc := 60) (As := [.int s1, .int s2, .int s3, .int s4]) (rest := []) X (mt_Md_noted ok hi ks0 er1) ml_12_508 mv_Md_noted ks0 cls_12 rfl ⟨Nat.le_of_ble_eq_true rfl, Nat.le_of_ble_eq_true rfl⟩ rfl rfl (Nat.le_of_ble_eq_true rfl) (by decide +kernel) ?_
  change V E g tb ρ 5 63 [] [.int r1.1] r1.2
  cases hf
  exact v_iret X Y (by decide +kernel) rfl rfl
set_option maxRecDepth 4000 in
set_option maxHeartbeats 1000000 in
theorem mt_Md_see {g : Gl} {tb : Tb} {ρ : Nat → Nat} (ok : TbOK tb) (hi : inj tb ρ) {h : Hp} {l0 : Nat} {l1 : Int32} {l2 : Int32} {l3 : Int32} {l4 : Int32} (kl0 : kd tb l0 = 12) {r : Int32 × Hp} (hf : f_Md_see tb h l0 l1 l2 l3 l4 = some r) : MT g y_Md_see prog_14_method_104_code 5 (some .int) 1 24 tb ρ [.ref (ρ l0), .int l1, .int l2, .int l3, .int l4] h (some (.int r.1)) r.2 := by
  refine mt_intro (by decide +kernel) ok hi (Nat.le_of_ble_eq_true rfl) (fun E X Y => ?_)
  change V E g tb ρ 5 0 [(0, .ref (ρ l0)), (1, .int l1), (2, .int l2), (3, .int l3), (4, .int l4)] [] h
  unfold f_Md_see at hf
  refine v_aload_n (pc := 0) (k := 0) X (by decide +kernel) 0 rfl ?_
  refine v_iconst (pc := 1) (n := 0) X (by decide +kernel) ic_0 ?_
  obtain ⟨h1, eh1, hf⟩ := nmd_e hf
  refine v_puti (pc := 2) X fp_12_160 kl0 rfl (by decide +kernel) eh1 ?_
  refine v_aload_n (pc := 5) (k := 0) X (by decide +kernel) 0 rfl ?_
  refine v_geti (pc := 6) X fl_12_377 kl0 rfl (by decide +kernel) ?_
  refine v_bipush (pc := 9) (n := 24) X (by decide +kernel) bi_24 ?_
  refine v_icmp_eq (pc := 11) (off := 31) (tgt := 42) X (by decide +kernel) (by decide) (fun q9 => ?_) (fun q9 => ?_)
  · rw [if_pos q9] at hf
    refine v_iconst (pc := 42) (n := -1) X (by decide +kernel) ic_m1 ?_
    refine v_goto (pc := 43) (off := 20) (tgt := 63) X (by decide +kernel) (by decide) ?_
    cases hf
    exact v_iret X Y (by decide +kernel) rfl rfl
  · rw [if_neg q9] at hf
    refine v_iload_n (pc := 14) (k := 1) X (by decide +kernel) 1 rfl ?_
    refine v_iconst (pc := 15) (n := 1) X (by decide +kernel) ic_1 ?_
    refine v_bipush (pc := 16) (n := 60) X (by decide +kernel) bi_60 ?_
    obtain ⟨r2, er2, hf⟩ := nmd_e hf
    refine v_callS (pc := 18) (As := [.int l1, .int (1 : Int32), .int (60 : Int32)]) (rest := []) X (mt_Md_isIn ok hi er2.symm) ml_12_205 ms_Md_isIn ⟨Nat.le_of_ble_eq_true rfl, Nat.le_of_ble_eq_true rfl⟩ rfl rfl (Nat.le_of_ble_eq_true rfl) (by decide +kernel) ?_
    change V E g tb ρ 5 21 [(0, .ref (ρ l0)), (1, .int l1), (2, .int l2), (3, .int l3), (4, .int l4)] [.int r2] h1
    refine v_if_eq (pc := 21) (off := 21) (tgt := 42) X (by decide +kernel) (by decide) (fun q8 => ?_) (fun q8 => ?_)
    · rw [if_pos q8] at hf
      refine v_iconst (pc := 42) (n := -1) X (by decide +kernel) ic_m1 ?_
      refine v_goto (pc := 43) (off := 20) (tgt := 63) X (by decide +kernel) (by decide) ?_
      cases hf
      exact v_iret X Y (by decide +kernel) rfl rfl
    · rw [if_neg q8] at hf
      refine v_aload_n (pc := 24) (k := 0) X (by decide +kernel) 0 rfl ?_
      refine v_iload_n (pc := 25) (k := 2) X (by decide +kernel) 2 rfl ?_
      obtain ⟨r3, er3, hf⟩ := nmd_e hf
      refine v_callV (pc := 26) (As := [.int l2]) (rest := []) X (mt_Md_isTrough ok hi kl0 er3.symm) ml_12_465 mv_Md_isTrough kl0 cls_12 rfl ⟨Nat.le_of_ble_eq_true rfl, Nat.le_of_ble_eq_true rfl⟩ rfl rfl (Nat.le_of_ble_eq_true rfl) (by decide +kernel) ?_
      change V E g tb ρ 5 29 [(0, .ref (ρ l0)), (1, .int l1), (2, .int l2), (3, .int l3), (4, .int l4)] [.int r3] h1
      refine v_if_eq (pc := 29) (off := 13) (tgt := 42) X (by decide +kernel) (by decide) (fun q7 => ?_) (fun q7 => ?_)
      · rw [if_pos q7] at hf
        refine v_iconst (pc := 42) (n := -1) X (by decide +kernel) ic_m1 ?_
        refine v_goto (pc := 43) (off := 20) (tgt := 63) X (by decide +kernel) (by decide) ?_
        cases hf
        exact v_iret X Y (by decide +kernel) rfl rfl
      · rw [if_neg q7] at hf
        refine v_iload_n (pc := 32) (k := 3) X (by decide +kernel) 3 rfl ?_
        refine v_iconst (pc := 33) (n := 0) X (by decide +kernel) ic_0 ?_
        refine v_bipush (pc := 34) (n := 99) X (by decide +kernel) bi_99 ?_
        obtain ⟨r4, er4, hf⟩ := nmd_e hf
        refine v_callS (pc := 36) (As := [.int l3, .int (0 : Int32), .int (99 : Int32)]) (rest := []) X (mt_Md_isIn ok hi er4.symm) ml_12_205 ms_Md_isIn ⟨Nat.le_of_ble_eq_true rfl, Nat.le_of_ble_eq_true rfl⟩ rfl rfl (Nat.le_of_ble_eq_true rfl) (by decide +kernel) ?_
        change V E g tb ρ 5 39 [(0, .ref (ρ l0)), (1, .int l1), (2, .int l2), (3, .int l3), (4, .int l4)] [.int r4] h1
        refine v_if_ne (pc := 39) (off := 7) (tgt := 46) X (by decide +kernel) (by decide) (fun q6 => ?_) (fun q6 => ?_)
        · rw [if_neg q6] at hf
          refine v_aload_n (pc := 46) (k := 0) X (by decide +kernel) 0 rfl ?_
          refine v_iload_n (pc := 47) (k := 1) X (by decide +kernel) 1 rfl ?_
          refine v_iload_n (pc := 48) (k := 2) X (by decide +kernel) 2 rfl ?_
          refine v_iload_n (pc := 49) (k := 3) X (by decide +kernel) 3 rfl ?_
          refine v_iload (pc := 50) (k := 4) X (by decide +kernel) 4 rfl ?_
          refine v_if_eq (pc := 52) (off := 7) (tgt := 59) X (by decide +kernel) (by decide) (fun q5 => ?_) (fun q5 => ?_)
          · rw [if_pos q5] at hf
            refine v_iconst (pc := 59) (n := 0) X (by decide +kernel) ic_0 ?_
            refine v_sub [] rfl ?_
            exact vjb_Md_see_60 ok hi X Y h1 l0 l1 l2 l3 (0 : Int32) kl0 hf
          · rw [if_neg q5] at hf
            refine v_iconst (pc := 55) (n := 1) X (by decide +kernel) ic_1 ?_
            refine v_goto (pc := 56) (off := 4) (tgt := 60) X (by decide +kernel) (by decide) ?_
            refine v_sub [] rfl ?_
            exact vjb_Md_see_60 ok hi X Y h1 l0 l1 l2 l3 (1 : Int32) kl0 hf
        · rw [if_pos q6] at hf
          refine v_iconst (pc := 42) (n := -1) X (by decide +kernel) ic_m1 ?_
          refine v_goto (pc := 43) (off := 20) (tgt := 63) X (by decide +kernel) (by decide) ?_
          cases hf
          exact v_iret X Y (by decide +kernel) rfl rfl
def f_Md_strike (tb : Tb) (h : Hp) (l0 : Nat) (l1 : Int32) : Option (Int32 × Hp) :=
  nmd (pI h l0 2 (0 : Int32)) fun h1 =>
  if (h1.1 l0 74) = (24 : Int32) then (
    some ((-1 : Int32), h1)
  ) else (
    if l1 < (0 : Int32) then (
      some ((-1 : Int32), h1)
    ) else (
      if l1 < (h1.1 l0 74) then (
        (f_Md_noted tb h1 l0 (-1 : Int32) l1 (0 : Int32) (0 : Int32)).bind fun r2 =>
        some (r2.1, r2.2)
      ) else (
        some ((-1 : Int32), h1)
      )
    )
  )
set_option maxRecDepth 4000 in
set_option maxHeartbeats 1000000 in
theorem mt_Md_strike {g : Gl} {tb : Tb} {ρ : Nat → Nat} (ok : TbOK tb) (hi : inj tb ρ) {h : Hp} {l0 : Nat} {l1 : Int32} (kl0 : kd tb l0 = 12) {r : Int32 × Hp} (hf : f_Md_strike tb h l0 l1 = some r) : MT g y_Md_strike prog_14_method_105_code 2 (some .int) 1 24 tb ρ [.ref (ρ l0), .int l1] h (some (.int r.1)) r.2 := by
  refine mt_intro (by decide +kernel) ok hi (Nat.le_of_ble_eq_true rfl) (fun E X Y => ?_)
  change V E g tb ρ 2 0 [(0, .ref (ρ l0)), (1, .int l1)] [] h
  unfold f_Md_strike at hf
  refine v_aload_n (pc := 0) (k := 0) X (by decide +kernel) 0 rfl ?_
  refine v_iconst (pc := 1) (n := 0) X (by decide +kernel) ic_0 ?_
  obtain ⟨h1, eh1, hf⟩ := nmd_e hf
  refine v_puti (pc := 2) X fp_12_160 kl0 rfl (by decide +kernel) eh1 ?_
  refine v_aload_n (pc := 5) (k := 0) X (by decide +kernel) 0 rfl ?_
  refine v_geti (pc := 6) X fl_12_377 kl0 rfl (by decide +kernel) ?_
  refine v_bipush (pc := 9) (n := 24) X (by decide +kernel) bi_24 ?_
  refine v_icmp_eq (pc := 11) (off := 15) (tgt := 26) X (by decide +kernel) (by decide) (fun q5 => ?_) (fun q5 => ?_)
  · rw [if_pos q5] at hf
    refine v_iconst (pc := 26) (n := -1) X (by decide +kernel) ic_m1 ?_
    refine v_goto (pc := 27) (off := 11) (tgt := 38) X (by decide +kernel) (by decide) ?_
    cases hf
    exact v_iret X Y (by decide +kernel) rfl rfl
  · rw [if_neg q5] at hf
    refine v_iload_n (pc := 14) (k := 1) X (by decide +kernel) 1 rfl ?_
    refine v_if_lt (pc := 15) (off := 11) (tgt := 26) X (by decide +kernel) (by decide) (fun q4 => ?_) (fun q4 => ?_)
    · rw [if_pos q4] at hf
      refine v_iconst (pc := 26) (n := -1) X (by decide +kernel) ic_m1 ?_
      refine v_goto (pc := 27) (off := 11) (tgt := 38) X (by decide +kernel) (by decide) ?_
      cases hf
      exact v_iret X Y (by decide +kernel) rfl rfl
    · rw [if_neg q4] at hf
      refine v_iload_n (pc := 18) (k := 1) X (by decide +kernel) 1 rfl ?_
      refine v_aload_n (pc := 19) (k := 0) X (by decide +kernel) 0 rfl ?_
      refine v_geti (pc := 20) X fl_12_377 kl0 rfl (by decide +kernel) ?_
      refine v_icmp_lt (pc := 23) (off := 7) (tgt := 30) X (by decide +kernel) (by decide) (fun q3 => ?_) (fun q3 => ?_)
      · rw [if_pos q3] at hf
        refine v_aload_n (pc := 30) (k := 0) X (by decide +kernel) 0 rfl ?_
        refine v_iconst (pc := 31) (n := -1) X (by decide +kernel) ic_m1 ?_
        refine v_iload_n (pc := 32) (k := 1) X (by decide +kernel) 1 rfl ?_
        refine v_iconst (pc := 33) (n := 0) X (by decide +kernel) ic_0 ?_
        refine v_iconst (pc := 34) (n := 0) X (by decide +kernel) ic_0 ?_
        obtain ⟨r2, er2, hf⟩ := bnd_e hf
        refine v_callV (pc := 35) (As := [.int (-1 : Int32), .int l1, .int (0 : Int32), .int (0 : Int32)]) (rest := []) X (mt_Md_noted ok hi kl0 er2) ml_12_508 mv_Md_noted kl0 cls_12 rfl ⟨Nat.le_of_ble_eq_true rfl, Nat.le_of_ble_eq_true rfl⟩ rfl rfl (Nat.le_of_ble_eq_true rfl) (by decide +kernel) ?_
        change V E g tb ρ 2 38 [(0, .ref (ρ l0)), (1, .int l1)] [.int r2.1] r2.2
        cases hf
        exact v_iret X Y (by decide +kernel) rfl rfl
      · rw [if_neg q3] at hf
        refine v_iconst (pc := 26) (n := -1) X (by decide +kernel) ic_m1 ?_
        refine v_goto (pc := 27) (off := 11) (tgt := 38) X (by decide +kernel) (by decide) ?_
        cases hf
        exact v_iret X Y (by decide +kernel) rfl rfl
def f_Md_known (tb : Tb) (h : Hp) (l0 : Nat) (l1 : Int32) : Int32 × Hp :=
  nmd (pI h l0 2 (0 : Int32)) fun h1 =>
  nmd (f_Md_isIn tb h1 l1 (-1 : Int32) (h1.1 l0 74)) fun r2 =>
  if r2 = (0 : Int32) then (
    ((0 : Int32), h1)
  ) else (
    nmd (pI h1 l0 75 l1) fun h3 =>
    ((1 : Int32), h3)
  )
set_option maxRecDepth 4000 in
set_option maxHeartbeats 1000000 in
theorem mt_Md_known {g : Gl} {tb : Tb} {ρ : Nat → Nat} (ok : TbOK tb) (hi : inj tb ρ) {h : Hp} {l0 : Nat} {l1 : Int32} (kl0 : kd tb l0 = 12) {r : Int32 × Hp} (hf : f_Md_known tb h l0 l1 = r) : MT g y_Md_known prog_14_method_106_code 2 (some .boolean) 1 22 tb ρ [.ref (ρ l0), .int l1] h (some (.int r.1)) r.2 := by
  refine mt_intro (by decide +kernel) ok hi (Nat.le_of_ble_eq_true rfl) (fun E X Y => ?_)
  change V E g tb ρ 2 0 [(0, .ref (ρ l0)), (1, .int l1)] [] h
  unfold f_Md_known at hf
  refine v_aload_n (pc := 0) (k := 0) X (by decide +kernel) 0 rfl ?_
  refine v_iconst (pc := 1) (n := 0) X (by decide +kernel) ic_0 ?_
  obtain ⟨h1, eh1, hf⟩ := nmd_e hf
  refine v_puti (pc := 2) X fp_12_160 kl0 rfl (by decide +kernel) eh1 ?_
  refine v_iload_n (pc := 5) (k := 1) X (by decide +kernel) 1 rfl ?_
  refine v_iconst (pc := 6) (n := -1) X (by decide +kernel) ic_m1 ?_
  refine v_aload_n (pc := 7) (k := 0) X (by decide +kernel) 0 rfl ?_
  refine v_geti (pc := 8) X fl_12_377 kl0 rfl (by decide +kernel) ?_
  obtain ⟨r2, er2, hf⟩ := nmd_e hf
  refine v_callS (pc := 11) (As := [.int l1, .int (-1 : Int32), .int (h1.1 l0 74)]) (rest := []) X (mt_Md_isIn ok hi er2.symm) ml_12_205 ms_Md_isIn ⟨Nat.le_of_ble_eq_true rfl, Nat.le_of_ble_eq_true rfl⟩ rfl rfl (Nat.le_of_ble_eq_true rfl) (by decide +kernel) ?_
  change V E g tb ρ 2 14 [(0, .ref (ρ l0)), (1, .int l1)] [.int r2] h1
  refine v_if_ne (pc := 14) (off := 5) (tgt := 19) X (by decide +kernel) (by decide) (fun q4 => ?_) (fun q4 => ?_)
  · rw [if_neg q4] at hf
    refine v_aload_n (pc := 19) (k := 0) X (by decide +kernel) 0 rfl ?_
    refine v_iload_n (pc := 20) (k := 1) X (by decide +kernel) 1 rfl ?_
    obtain ⟨h3, eh3, hf⟩ := nmd_e hf
    refine v_puti (pc := 21) X fp_12_136 kl0 rfl (by decide +kernel) eh3 ?_
    refine v_iconst (pc := 24) (n := 1) X (by decide +kernel) ic_1 ?_
    cases hf
    exact v_zret (hz := rfl) X Y (by decide +kernel) rfl rfl
  · rw [if_pos q4] at hf
    refine v_iconst (pc := 17) (n := 0) X (by decide +kernel) ic_0 ?_
    cases hf
    exact v_zret (hz := rfl) X Y (by decide +kernel) rfl rfl
def f_Md_knownBy (tb : Tb) (h : Hp) (l0 : Nat) : Int32 :=
  if (0 : Int32) ≤ (h.1 l0 75) then (
    h.1 l0 75
  ) else (
    h.1 l0 74
  )
set_option maxRecDepth 4000 in
set_option maxHeartbeats 1000000 in
theorem mt_Md_knownBy {g : Gl} {tb : Tb} {ρ : Nat → Nat} (ok : TbOK tb) (hi : inj tb ρ) {h : Hp} {l0 : Nat} (kl0 : kd tb l0 = 12) {r : Int32} (hf : f_Md_knownBy tb h l0 = r) : MT g y_Md_knownBy prog_14_method_107_code 1 (some .int) 0 0 tb ρ [.ref (ρ l0)] h (some (.int r)) h := by
  refine mt_intro (by decide +kernel) ok hi (Nat.le_of_ble_eq_true rfl) (fun E X Y => ?_)
  change V E g tb ρ 1 0 [(0, .ref (ρ l0))] [] h
  unfold f_Md_knownBy at hf
  refine v_aload_n (pc := 0) (k := 0) X (by decide +kernel) 0 rfl ?_
  refine v_geti (pc := 1) X fl_12_136 kl0 rfl (by decide +kernel) ?_
  refine v_if_ge (pc := 4) (off := 10) (tgt := 14) X (by decide +kernel) (by decide) (fun q1 => ?_) (fun q1 => ?_)
  · rw [if_pos q1] at hf
    refine v_aload_n (pc := 14) (k := 0) X (by decide +kernel) 0 rfl ?_
    refine v_geti (pc := 15) X fl_12_136 kl0 rfl (by decide +kernel) ?_
    cases hf
    exact v_iret X Y (by decide +kernel) rfl rfl
  · rw [if_neg q1] at hf
    refine v_aload_n (pc := 7) (k := 0) X (by decide +kernel) 0 rfl ?_
    refine v_geti (pc := 8) X fl_12_377 kl0 rfl (by decide +kernel) ?_
    refine v_goto (pc := 11) (off := 7) (tgt := 18) X (by decide +kernel) (by decide) ?_
    cases hf
    exact v_iret X Y (by decide +kernel) rfl rfl
def jb_Md_isSo_94 (tb : Tb) (c2 : Hp → Nat → Int32 → Int32 → Option (Int32)) (h : Hp) (l0 : Nat) (l1 : Int32) (l2 : Int32) : Option (Int32) :=
  nmd (l2 + (1 : Int32)) fun x1 =>
  c2 h l0 l1 x1
def jb_Md_isSo_89 (tb : Tb) (c2 : Hp → Nat → Int32 → Int32 → Option (Int32)) (h : Hp) (l0 : Nat) (l1 : Int32) (l2 : Int32) (s0 : Int32) (s1 : Int32) : Option (Int32) :=
  if s0 = s1 then (
    jb_Md_isSo_94 tb c2 h l0 l1 l2
  ) else (
    some (0 : Int32)
  )
def jb_Md_isSo_70 (tb : Tb) (c2 : Hp → Nat → Int32 → Int32 → Option (Int32)) (h : Hp) (l0 : Nat) (l1 : Int32) (l2 : Int32) (s0 : Int32) : Option (Int32) :=
  (rI tb h (lay tb l0 76) (((4 : Int32) * l2) + (3 : Int32))).bind fun x1 =>
  if x1 = (1 : Int32) then (
    jb_Md_isSo_89 tb c2 h l0 l1 l2 s0 (1 : Int32)
  ) else (
    jb_Md_isSo_89 tb c2 h l0 l1 l2 s0 (0 : Int32)
  )
def lp_Md_isSo_2 (tb : Tb) : Nat → Hp → Nat → Int32 → Int32 → Option (Int32)
  | 0, _, _, _, _ => none
  | n + 1, h, l0, l1, l2 =>
    nmd (f_Md_knownBy tb h l0) fun r1 =>
    if r1 ≤ l2 then (
      some (1 : Int32)
    ) else (
      (rI tb h (lay tb l0 77) l2).bind fun x2 =>
      if x2 = (0 : Int32) then (
        jb_Md_isSo_94 tb (lp_Md_isSo_2 tb n) h l0 l1 l2
      ) else (
        (rI tb h (lay tb l0 76) ((4 : Int32) * l2)).bind fun x3 =>
        if x3 = l1 then (
          (rI tb h (lay tb l0 76) (((4 : Int32) * l2) + (1 : Int32))).bind fun x4 =>
          (rI tb h (lay tb l0 60) ((6 : Int32) + x4)).bind fun x5 =>
          (rI tb h (lay tb l0 76) (((4 : Int32) * l2) + (2 : Int32))).bind fun x6 =>
          if x5 < x6 then (
            jb_Md_isSo_70 tb (lp_Md_isSo_2 tb n) h l0 l1 l2 (0 : Int32)
          ) else (
            jb_Md_isSo_70 tb (lp_Md_isSo_2 tb n) h l0 l1 l2 (1 : Int32)
          )
        ) else (
          jb_Md_isSo_94 tb (lp_Md_isSo_2 tb n) h l0 l1 l2
        )
      )
    )
def f_Md_isSo (tb : Tb) (h : Hp) (l0 : Nat) (l1 : Int32) : Option (Int32) :=
  lp_Md_isSo_2 tb fu h l0 l1 (0 : Int32)
set_option maxRecDepth 4000 in
set_option maxHeartbeats 1000000 in
theorem vjb_Md_isSo_94 {E : En} {g : Gl} {tb : Tb} {ρ : Nat → Nat} (ok : TbOK tb) (hi : inj tb ρ) {r : Int32} (X : CX E g tb ρ prog_14_method_108_code 3 RC12 1 20) {h : Hp} (Y : CQ E g tb ρ (some .boolean) (some (.int r)) h) {c2 : Hp → Nat → Int32 → Int32 → Option (Int32)} (H2 : ∀ (l0 : Nat) (l1 : Int32) (l2 : Int32) (kl0 : kd tb l0 = 12), c2 h l0 l1 l2 = some r → V E g tb ρ 3 2 [(0, .ref (ρ l0)), (1, .int l1), (2, .int l2)] [] h) (l0 : Nat) (l1 : Int32) (l2 : Int32) (kl0 : kd tb l0 = 12) (hf : jb_Md_isSo_94 tb c2 h l0 l1 l2 = some r) : V E g tb ρ 3 94 [(0, .ref (ρ l0)), (1, .int l1), (2, .int l2)] [] h := by
  unfold jb_Md_isSo_94 at hf
  obtain ⟨x1, ex1, hf⟩ := nmd_e hf
  refine v_iinc (pc := 94) (k := 2) (n := 1) (v := x1) (lv' := [(2, .int x1), (0, .ref (ρ l0)), (1, .int l1)]) X (by decide +kernel) 2 rfl (by rw [ic_1, ex1]) (Nat.le_of_ble_eq_true rfl) rfl ?_
  refine v_goto (pc := 97) (off := -95) (tgt := 2) X (by decide +kernel) (by decide) ?_
  refine v_sub [1, 2, 0] rfl ?_
  exact H2 l0 l1 x1 kl0 hf
set_option maxRecDepth 4000 in
set_option maxHeartbeats 1000000 in
theorem vjb_Md_isSo_89 {E : En} {g : Gl} {tb : Tb} {ρ : Nat → Nat} (ok : TbOK tb) (hi : inj tb ρ) {r : Int32} (X : CX E g tb ρ prog_14_method_108_code 3 RC12 1 20) {h : Hp} (Y : CQ E g tb ρ (some .boolean) (some (.int r)) h) {c2 : Hp → Nat → Int32 → Int32 → Option (Int32)} (H2 : ∀ (l0 : Nat) (l1 : Int32) (l2 : Int32) (kl0 : kd tb l0 = 12), c2 h l0 l1 l2 = some r → V E g tb ρ 3 2 [(0, .ref (ρ l0)), (1, .int l1), (2, .int l2)] [] h) (l0 : Nat) (l1 : Int32) (l2 : Int32) (s0 : Int32) (s1 : Int32) (kl0 : kd tb l0 = 12) (hf : jb_Md_isSo_89 tb c2 h l0 l1 l2 s0 s1 = some r) : V E g tb ρ 3 89 [(0, .ref (ρ l0)), (1, .int l1), (2, .int l2)] [.int s1, .int s0] h := by
  unfold jb_Md_isSo_89 at hf
  refine v_icmp_eq (pc := 89) (off := 5) (tgt := 94) X (by decide +kernel) (by decide) (fun q1 => ?_) (fun q1 => ?_)
  · rw [if_pos q1] at hf
    exact vjb_Md_isSo_94 ok hi X Y H2 l0 l1 l2 kl0 hf
  · rw [if_neg q1] at hf
    refine v_iconst (pc := 92) (n := 0) X (by decide +kernel) ic_0 ?_
    cases hf
    exact v_zret (hz := rfl) X Y (by decide +kernel) rfl rfl
set_option maxRecDepth 4000 in
set_option maxHeartbeats 1000000 in
theorem vjb_Md_isSo_70 {E : En} {g : Gl} {tb : Tb} {ρ : Nat → Nat} (ok : TbOK tb) (hi : inj tb ρ) {r : Int32} (X : CX E g tb ρ prog_14_method_108_code 3 RC12 1 20) {h : Hp} (Y : CQ E g tb ρ (some .boolean) (some (.int r)) h) {c2 : Hp → Nat → Int32 → Int32 → Option (Int32)} (H2 : ∀ (l0 : Nat) (l1 : Int32) (l2 : Int32) (kl0 : kd tb l0 = 12), c2 h l0 l1 l2 = some r → V E g tb ρ 3 2 [(0, .ref (ρ l0)), (1, .int l1), (2, .int l2)] [] h) (l0 : Nat) (l1 : Int32) (l2 : Int32) (s0 : Int32) (kl0 : kd tb l0 = 12) (hf : jb_Md_isSo_70 tb c2 h l0 l1 l2 s0 = some r) : V E g tb ρ 3 70 [(0, .ref (ρ l0)), (1, .int l1), (2, .int l2)] [.int s0] h := by
  unfold jb_Md_isSo_70 at hf
  refine v_aload_n (pc := 70) (k := 0) X (by decide +kernel) 0 rfl ?_
  refine v_geta (pc := 71) X fl_12_139 kl0 fk_12_76 (by decide +kernel) ?_
  refine v_iconst (pc := 74) (n := 4) X (by decide +kernel) ic_4 ?_
  refine v_iload_n (pc := 75) (k := 2) X (by decide +kernel) 2 rfl ?_
  refine v_imul (pc := 76) X (by decide +kernel) ?_
  refine v_iconst (pc := 77) (n := 3) X (by decide +kernel) ic_3 ?_
  refine v_iadd (pc := 78) X (by decide +kernel) ?_
  obtain ⟨x1, ex1, hf⟩ := bnd_e hf
  refine v_iald (pc := 79) X (ly_12_76 ok kl0) ex1 (by decide +kernel) ?_
  refine v_iconst (pc := 80) (n := 1) X (by decide +kernel) ic_1 ?_
  refine v_icmp_ne (pc := 81) (off := 7) (tgt := 88) X (by decide +kernel) (by decide) (fun q2 => ?_) (fun q2 => ?_)
  · rw [if_neg q2] at hf
    refine v_iconst (pc := 88) (n := 0) X (by decide +kernel) ic_0 ?_
    exact vjb_Md_isSo_89 ok hi X Y H2 l0 l1 l2 s0 (0 : Int32) kl0 hf
  · rw [if_pos q2] at hf
    refine v_iconst (pc := 84) (n := 1) X (by decide +kernel) ic_1 ?_
    refine v_goto (pc := 85) (off := 4) (tgt := 89) X (by decide +kernel) (by decide) ?_
    exact vjb_Md_isSo_89 ok hi X Y H2 l0 l1 l2 s0 (1 : Int32) kl0 hf
set_option maxRecDepth 4000 in
set_option maxHeartbeats 1000000 in
theorem vlp_Md_isSo_2 {E : En} {g : Gl} {tb : Tb} {ρ : Nat → Nat} (ok : TbOK tb) (hi : inj tb ρ) {r : Int32} (X : CX E g tb ρ prog_14_method_108_code 3 RC12 1 20) {h : Hp} (Y : CQ E g tb ρ (some .boolean) (some (.int r)) h) : ∀ (n : Nat) (l0 : Nat) (l1 : Int32) (l2 : Int32) (kl0 : kd tb l0 = 12), lp_Md_isSo_2 tb n h l0 l1 l2 = some r → V E g tb ρ 3 2 [(0, .ref (ρ l0)), (1, .int l1), (2, .int l2)] [] h := by
  intro n
  induction n with
  | zero =>
    intro l0 l1 l2 kl0 hf
    rw [lp_Md_isSo_2] at hf
    cases hf
  | succ n ih =>
    intro l0 l1 l2 kl0 hf
    rw [lp_Md_isSo_2] at hf
    refine v_iload_n (pc := 2) (k := 2) X (by decide +kernel) 2 rfl ?_
    refine v_aload_n (pc := 3) (k := 0) X (by decide +kernel) 0 rfl ?_
    obtain ⟨r1, er1, hf⟩ := nmd_e hf
    refine v_callV (pc := 4) (As := []) (rest := [.int l2]) X (mt_Md_knownBy ok hi kl0 er1.symm) ml_12_511 mv_Md_knownBy kl0 cls_12 rfl ⟨Nat.le_of_ble_eq_true rfl, Nat.le_of_ble_eq_true rfl⟩ rfl rfl (Nat.le_of_ble_eq_true rfl) (by decide +kernel) ?_
    change V E g tb ρ 3 7 [(0, .ref (ρ l0)), (1, .int l1), (2, .int l2)] [.int r1, .int l2] h
    refine v_icmp_ge (pc := 7) (off := 93) (tgt := 100) X (by decide +kernel) (by decide) (fun q10 => ?_) (fun q10 => ?_)
    · rw [if_pos q10] at hf
      refine v_iconst (pc := 100) (n := 1) X (by decide +kernel) ic_1 ?_
      cases hf
      exact v_zret (hz := rfl) X Y (by decide +kernel) rfl rfl
    · rw [if_neg q10] at hf
      refine v_aload_n (pc := 10) (k := 0) X (by decide +kernel) 0 rfl ?_
      refine v_geta (pc := 11) X fl_12_142 kl0 fk_12_77 (by decide +kernel) ?_
      refine v_iload_n (pc := 14) (k := 2) X (by decide +kernel) 2 rfl ?_
      obtain ⟨x2, ex2, hf⟩ := bnd_e hf
      refine v_zald (pc := 15) X (ly_12_77 ok kl0) ex2 (by decide +kernel) ?_
      refine v_if_eq (pc := 16) (off := 78) (tgt := 94) X (by decide +kernel) (by decide) (fun q9 => ?_) (fun q9 => ?_)
      · rw [if_pos q9] at hf
        exact vjb_Md_isSo_94 ok hi X Y ih l0 l1 l2 kl0 hf
      · rw [if_neg q9] at hf
        refine v_aload_n (pc := 19) (k := 0) X (by decide +kernel) 0 rfl ?_
        refine v_geta (pc := 20) X fl_12_139 kl0 fk_12_76 (by decide +kernel) ?_
        refine v_iconst (pc := 23) (n := 4) X (by decide +kernel) ic_4 ?_
        refine v_iload_n (pc := 24) (k := 2) X (by decide +kernel) 2 rfl ?_
        refine v_imul (pc := 25) X (by decide +kernel) ?_
        obtain ⟨x3, ex3, hf⟩ := bnd_e hf
        refine v_iald (pc := 26) X (ly_12_76 ok kl0) ex3 (by decide +kernel) ?_
        refine v_iload_n (pc := 27) (k := 1) X (by decide +kernel) 1 rfl ?_
        refine v_icmp_eq (pc := 28) (off := 6) (tgt := 34) X (by decide +kernel) (by decide) (fun q8 => ?_) (fun q8 => ?_)
        · rw [if_pos q8] at hf
          refine v_aload_n (pc := 34) (k := 0) X (by decide +kernel) 0 rfl ?_
          refine v_geta (pc := 35) X fl_12_112 kl0 fk_12_60 (by decide +kernel) ?_
          refine v_bipush (pc := 38) (n := 6) X (by decide +kernel) bi_6 ?_
          refine v_aload_n (pc := 40) (k := 0) X (by decide +kernel) 0 rfl ?_
          refine v_geta (pc := 41) X fl_12_139 kl0 fk_12_76 (by decide +kernel) ?_
          refine v_iconst (pc := 44) (n := 4) X (by decide +kernel) ic_4 ?_
          refine v_iload_n (pc := 45) (k := 2) X (by decide +kernel) 2 rfl ?_
          refine v_imul (pc := 46) X (by decide +kernel) ?_
          refine v_iconst (pc := 47) (n := 1) X (by decide +kernel) ic_1 ?_
          refine v_iadd (pc := 48) X (by decide +kernel) ?_
          obtain ⟨x4, ex4, hf⟩ := bnd_e hf
          refine v_iald (pc := 49) X (ly_12_76 ok kl0) ex4 (by decide +kernel) ?_
          refine v_iadd (pc := 50) X (by decide +kernel) ?_
          obtain ⟨x5, ex5, hf⟩ := bnd_e hf
          refine v_iald (pc := 51) X (ly_12_60 ok kl0) ex5 (by decide +kernel) ?_
          refine v_aload_n (pc := 52) (k := 0) X (by decide +kernel) 0 rfl ?_
          refine v_geta (pc := 53) X fl_12_139 kl0 fk_12_76 (by decide +kernel) ?_
          refine v_iconst (pc := 56) (n := 4) X (by decide +kernel) ic_4 ?_
          refine v_iload_n (pc := 57) (k := 2) X (by decide +kernel) 2 rfl ?_
          refine v_imul (pc := 58) X (by decide +kernel) ?_
          refine v_iconst (pc := 59) (n := 2) X (by decide +kernel) ic_2 ?_
          refine v_iadd (pc := 60) X (by decide +kernel) ?_
          obtain ⟨x6, ex6, hf⟩ := bnd_e hf
          refine v_iald (pc := 61) X (ly_12_76 ok kl0) ex6 (by decide +kernel) ?_
          refine v_icmp_lt (pc := 62) (off := 7) (tgt := 69) X (by decide +kernel) (by decide) (fun q7 => ?_) (fun q7 => ?_)
          · rw [if_pos q7] at hf
            refine v_iconst (pc := 69) (n := 0) X (by decide +kernel) ic_0 ?_
            exact vjb_Md_isSo_70 ok hi X Y ih l0 l1 l2 (0 : Int32) kl0 hf
          · rw [if_neg q7] at hf
            refine v_iconst (pc := 65) (n := 1) X (by decide +kernel) ic_1 ?_
            refine v_goto (pc := 66) (off := 4) (tgt := 70) X (by decide +kernel) (by decide) ?_
            exact vjb_Md_isSo_70 ok hi X Y ih l0 l1 l2 (1 : Int32) kl0 hf
        · rw [if_neg q8] at hf
          refine v_goto (pc := 31) (off := 63) (tgt := 94) X (by decide +kernel) (by decide) ?_
          exact vjb_Md_isSo_94 ok hi X Y ih l0 l1 l2 kl0 hf
set_option maxRecDepth 4000 in
set_option maxHeartbeats 1000000 in
theorem mt_Md_isSo {g : Gl} {tb : Tb} {ρ : Nat → Nat} (ok : TbOK tb) (hi : inj tb ρ) {h : Hp} {l0 : Nat} {l1 : Int32} (kl0 : kd tb l0 = 12) {r : Int32} (hf : f_Md_isSo tb h l0 l1 = some r) : MT g y_Md_isSo prog_14_method_108_code 3 (some .boolean) 1 20 tb ρ [.ref (ρ l0), .int l1] h (some (.int r)) h := by
  refine mt_intro (by decide +kernel) ok hi (Nat.le_of_ble_eq_true rfl) (fun E X Y => ?_)
  change V E g tb ρ 3 0 [(0, .ref (ρ l0)), (1, .int l1)] [] h
  unfold f_Md_isSo at hf
  refine v_iconst (pc := 0) (n := 0) X (by decide +kernel) ic_0 ?_
  refine v_istore_n (pc := 1) (k := 2) (lv' := [(2, .int (0 : Int32)), (0, .ref (ρ l0)), (1, .int l1)]) X (by decide +kernel) (Nat.le_of_ble_eq_true rfl) rfl ?_
  refine v_sub [1, 2, 0] rfl ?_
  exact vlp_Md_isSo_2 ok hi X Y fu l0 l1 (0 : Int32) kl0 hf
def lp_Md_fits_21 (tb : Tb) : Nat → Hp → Nat → Int32 → Option (Int32 × Hp)
  | 0, _, _, _ => none
  | n + 1, h, l0, l3 =>
    if (60 : Int32) < l3 then (
      some ((1 : Int32), h)
    ) else (
      (f_Md_hourGoes tb h l0 (1 : Int32)).bind fun r1 =>
      (f_Md_isSo tb r1 l0 l3).bind fun r2 =>
      if r2 = (0 : Int32) then (
        some ((0 : Int32), r1)
      ) else (
        nmd (l3 + (1 : Int32)) fun x3 =>
        lp_Md_fits_21 tb n r1 l0 x3
      )
    )
def f_Md_fits (tb : Tb) (h : Hp) (l0 : Nat) (l1 : Int32) (l2 : Int32) : Option (Int32 × Hp) :=
  (f_Md_atFirst tb h l0 (1 : Int32)).bind fun r1 =>
  nmd (f_Md_plainTried tb r1 l0) fun r2 =>
  (wI tb r2 (lay tb l0 55) ((6 : Int32) + l1) l2).bind fun h3 =>
  lp_Md_fits_21 tb fu h3 l0 (1 : Int32)
set_option maxRecDepth 4000 in
set_option maxHeartbeats 1000000 in
theorem vlp_Md_fits_21 {E : En} {g : Gl} {tb : Tb} {ρ : Nat → Nat} (ok : TbOK tb) (hi : inj tb ρ) {r : Int32 × Hp} (X : CX E g tb ρ prog_14_method_109_code 4 RC12 6 147) (Y : CQ E g tb ρ (some .boolean) (some (.int r.1)) r.2) : ∀ (n : Nat) (h : Hp) (l0 : Nat) (l3 : Int32) (kl0 : kd tb l0 = 12), lp_Md_fits_21 tb n h l0 l3 = some r → V E g tb ρ 4 21 [(0, .ref (ρ l0)), (3, .int l3)] [] h := by
  intro n
  induction n with
  | zero =>
    intro h l0 l3 kl0 hf
    rw [lp_Md_fits_21] at hf
    cases hf
  | succ n ih =>
    intro h l0 l3 kl0 hf
    rw [lp_Md_fits_21] at hf
    refine v_iload_n (pc := 21) (k := 3) X (by decide +kernel) 1 rfl ?_
    refine v_bipush (pc := 22) (n := 60) X (by decide +kernel) bi_60 ?_
    refine v_icmp_gt (pc := 24) (off := 24) (tgt := 48) X (by decide +kernel) (by decide) (fun q5 => ?_) (fun q5 => ?_)
    · rw [if_pos q5] at hf
      refine v_iconst (pc := 48) (n := 1) X (by decide +kernel) ic_1 ?_
      cases hf
      exact v_zret (hz := rfl) X Y (by decide +kernel) rfl rfl
    · rw [if_neg q5] at hf
      refine v_aload_n (pc := 27) (k := 0) X (by decide +kernel) 0 rfl ?_
      refine v_iconst (pc := 28) (n := 1) X (by decide +kernel) ic_1 ?_
      obtain ⟨r1, er1, hf⟩ := bnd_e hf
      refine v_callV (pc := 29) (As := [.int (1 : Int32)]) (rest := []) X (mt_Md_hourGoes ok hi kl0 er1) ml_12_456 mv_Md_hourGoes kl0 cls_12 rfl ⟨Nat.le_of_ble_eq_true rfl, Nat.le_of_ble_eq_true rfl⟩ rfl rfl (Nat.le_of_ble_eq_true rfl) (by decide +kernel) ?_
      change V E g tb ρ 4 32 [(0, .ref (ρ l0)), (3, .int l3)] [] r1
      refine v_aload_n (pc := 32) (k := 0) X (by decide +kernel) 0 rfl ?_
      refine v_iload_n (pc := 33) (k := 3) X (by decide +kernel) 1 rfl ?_
      obtain ⟨r2, er2, hf⟩ := bnd_e hf
      refine v_callV (pc := 34) (As := [.int l3]) (rest := []) X (mt_Md_isSo ok hi kl0 er2) ml_12_514 mv_Md_isSo kl0 cls_12 rfl ⟨Nat.le_of_ble_eq_true rfl, Nat.le_of_ble_eq_true rfl⟩ rfl rfl (Nat.le_of_ble_eq_true rfl) (by decide +kernel) ?_
      change V E g tb ρ 4 37 [(0, .ref (ρ l0)), (3, .int l3)] [.int r2] r1
      refine v_if_ne (pc := 37) (off := 5) (tgt := 42) X (by decide +kernel) (by decide) (fun q4 => ?_) (fun q4 => ?_)
      · rw [if_neg q4] at hf
        obtain ⟨x3, ex3, hf⟩ := nmd_e hf
        refine v_iinc (pc := 42) (k := 3) (n := 1) (v := x3) (lv' := [(3, .int x3), (0, .ref (ρ l0))]) X (by decide +kernel) 1 rfl (by rw [ic_1, ex3]) (Nat.le_of_ble_eq_true rfl) rfl ?_
        refine v_goto (pc := 45) (off := -24) (tgt := 21) X (by decide +kernel) (by decide) ?_
        refine v_sub [1, 0] rfl ?_
        exact ih r1 l0 x3 kl0 hf
      · rw [if_pos q4] at hf
        refine v_iconst (pc := 40) (n := 0) X (by decide +kernel) ic_0 ?_
        cases hf
        exact v_zret (hz := rfl) X Y (by decide +kernel) rfl rfl
set_option maxRecDepth 4000 in
set_option maxHeartbeats 1000000 in
theorem mt_Md_fits {g : Gl} {tb : Tb} {ρ : Nat → Nat} (ok : TbOK tb) (hi : inj tb ρ) {h : Hp} {l0 : Nat} {l1 : Int32} {l2 : Int32} (kl0 : kd tb l0 = 12) {r : Int32 × Hp} (hf : f_Md_fits tb h l0 l1 l2 = some r) : MT g y_Md_fits prog_14_method_109_code 4 (some .boolean) 6 147 tb ρ [.ref (ρ l0), .int l1, .int l2] h (some (.int r.1)) r.2 := by
  refine mt_intro (by decide +kernel) ok hi (Nat.le_of_ble_eq_true rfl) (fun E X Y => ?_)
  change V E g tb ρ 4 0 [(0, .ref (ρ l0)), (1, .int l1), (2, .int l2)] [] h
  unfold f_Md_fits at hf
  refine v_aload_n (pc := 0) (k := 0) X (by decide +kernel) 0 rfl ?_
  refine v_iconst (pc := 1) (n := 1) X (by decide +kernel) ic_1 ?_
  obtain ⟨r1, er1, hf⟩ := bnd_e hf
  refine v_callV (pc := 2) (As := [.int (1 : Int32)]) (rest := []) X (mt_Md_atFirst ok hi kl0 er1) ml_12_367 mv_Md_atFirst kl0 cls_12 rfl ⟨Nat.le_of_ble_eq_true rfl, Nat.le_of_ble_eq_true rfl⟩ rfl rfl (Nat.le_of_ble_eq_true rfl) (by decide +kernel) ?_
  change V E g tb ρ 4 5 [(0, .ref (ρ l0)), (1, .int l1), (2, .int l2)] [] r1
  refine v_aload_n (pc := 5) (k := 0) X (by decide +kernel) 0 rfl ?_
  obtain ⟨r2, er2, hf⟩ := nmd_e hf
  refine v_callV (pc := 6) (As := []) (rest := []) X (mt_Md_plainTried ok hi kl0 er2.symm) ml_12_374 mv_Md_plainTried kl0 cls_12 rfl ⟨Nat.le_of_ble_eq_true rfl, Nat.le_of_ble_eq_true rfl⟩ rfl rfl (Nat.le_of_ble_eq_true rfl) (by decide +kernel) ?_
  change V E g tb ρ 4 9 [(0, .ref (ρ l0)), (1, .int l1), (2, .int l2)] [] r2
  refine v_aload_n (pc := 9) (k := 0) X (by decide +kernel) 0 rfl ?_
  refine v_geta (pc := 10) X fl_12_97 kl0 fk_12_55 (by decide +kernel) ?_
  refine v_bipush (pc := 13) (n := 6) X (by decide +kernel) bi_6 ?_
  refine v_iload_n (pc := 15) (k := 1) X (by decide +kernel) 1 rfl ?_
  refine v_iadd (pc := 16) X (by decide +kernel) ?_
  refine v_iload_n (pc := 17) (k := 2) X (by decide +kernel) 2 rfl ?_
  obtain ⟨h3, eh3, hf⟩ := bnd_e hf
  refine v_iast (pc := 18) X (ly_12_55 ok kl0) eh3 (by decide +kernel) ?_
  refine v_iconst (pc := 19) (n := 1) X (by decide +kernel) ic_1 ?_
  refine v_istore_n (pc := 20) (k := 3) (lv' := [(3, .int (1 : Int32)), (0, .ref (ρ l0)), (1, .int l1), (2, .int l2)]) X (by decide +kernel) (Nat.le_of_ble_eq_true rfl) rfl ?_
  refine v_sub [1, 0] rfl ?_
  exact vlp_Md_fits_21 ok hi X Y fu h3 l0 (1 : Int32) kl0 hf
def jb_Md_thirsts_121 (tb : Tb) (c95 : Hp → Nat → Int32 → Int32 → Int32 → Option (Int32 × Hp)) (h : Hp) (l0 : Nat) (l1 : Int32) (l3 : Int32) (s0 : Int32) (s1 : Int32) : Option (Int32 × Hp) :=
  nmd (s0 ||| s1) fun x1 =>
  nmd (l3 + (1 : Int32)) fun x2 =>
  c95 h l0 l1 x1 x2
def lp_Md_thirsts_95 (tb : Tb) : Nat → Hp → Nat → Int32 → Int32 → Int32 → Option (Int32 × Hp)
  | 0, _, _, _, _, _ => none
  | n + 1, h, l0, l1, l2, l3 =>
    if (10 : Int32) ≤ l3 then (
      some (l2, h)
    ) else (
      (f_Md_fits tb h l0 l1 ((10 : Int32) * l3)).bind fun r1 =>
      if r1.1 = (0 : Int32) then (
        jb_Md_thirsts_121 tb (lp_Md_thirsts_95 tb n) r1.2 l0 l1 l3 l2 (0 : Int32)
      ) else (
        jb_Md_thirsts_121 tb (lp_Md_thirsts_95 tb n) r1.2 l0 l1 l3 l2 ((1 : Int32) <<< (l3 &&& 31))
      )
    )
def jb_Md_thirsts_85 (tb : Tb) (c45 : Hp → Nat → Int32 → Int32 → Option (Int32 × Hp)) (h : Hp) (l0 : Nat) (l1 : Int32) (l2 : Int32) : Option (Int32 × Hp) :=
  nmd (l2 + (-1 : Int32)) fun x1 =>
  c45 h l0 l1 x1
def lp_Md_thirsts_45 (tb : Tb) : Nat → Hp → Nat → Int32 → Int32 → Option (Int32 × Hp)
  | 0, _, _, _, _ => none
  | n + 1, h, l0, l1, l2 =>
    if l2 < (0 : Int32) then (
      lp_Md_thirsts_95 tb fu h l0 l1 (0 : Int32) (0 : Int32)
    ) else (
      (rI tb h (lay tb l0 77) l2).bind fun x1 =>
      if x1 = (0 : Int32) then (
        jb_Md_thirsts_85 tb (lp_Md_thirsts_45 tb n) h l0 l1 l2
      ) else (
        (rI tb h (lay tb l0 76) ((4 : Int32) * l2)).bind fun x2 =>
        if (0 : Int32) ≤ x2 then (
          jb_Md_thirsts_85 tb (lp_Md_thirsts_45 tb n) h l0 l1 l2
        ) else (
          (rI tb h (lay tb l0 76) (((4 : Int32) * l2) + (1 : Int32))).bind fun x3 =>
          (wZ tb h (lay tb l0 77) x3 (0 : Int32)).bind fun h4 =>
          jb_Md_thirsts_85 tb (lp_Md_thirsts_45 tb n) h4 l0 l1 l2
        )
      )
    )
def lp_Md_thirsts_17 (tb : Tb) : Nat → Hp → Nat → Int32 → Int32 → Option (Int32 × Hp)
  | 0, _, _, _, _ => none
  | n + 1, h, l0, l1, l2 =>
    nmd (f_Md_knownBy tb h l0) fun r1 =>
    if r1 ≤ l2 then (
      nmd (f_Md_knownBy tb h l0) fun r2 =>
      nmd (r2 - (1 : Int32)) fun x3 =>
      lp_Md_thirsts_45 tb fu h l0 l1 x3
    ) else (
      (wZ tb h (lay tb l0 77) l2 (1 : Int32)).bind fun h4 =>
      nmd (l2 + (1 : Int32)) fun x5 =>
      lp_Md_thirsts_17 tb n h4 l0 l1 x5
    )
def f_Md_thirsts (tb : Tb) (h : Hp) (l0 : Nat) (l1 : Int32) : Option (Int32 × Hp) :=
  nmd (pI h l0 2 (0 : Int32)) fun h1 =>
  nmd (f_Md_isHorse tb h1 l0 l1) fun r2 =>
  if r2 = (0 : Int32) then (
    some ((-1 : Int32), h1)
  ) else (
    lp_Md_thirsts_17 tb fu h1 l0 l1 (0 : Int32)
  )
set_option maxRecDepth 4000 in
set_option maxHeartbeats 1000000 in
theorem vjb_Md_thirsts_121 {E : En} {g : Gl} {tb : Tb} {ρ : Nat → Nat} (ok : TbOK tb) (hi : inj tb ρ) {r : Int32 × Hp} (X : CX E g tb ρ prog_14_method_110_code 4 RC12 7 170) (Y : CQ E g tb ρ (some .int) (some (.int r.1)) r.2) {c95 : Hp → Nat → Int32 → Int32 → Int32 → Option (Int32 × Hp)} (H95 : ∀ (h : Hp) (l0 : Nat) (l1 : Int32) (l2 : Int32) (l3 : Int32) (kl0 : kd tb l0 = 12), c95 h l0 l1 l2 l3 = some r → V E g tb ρ 4 95 [(0, .ref (ρ l0)), (1, .int l1), (2, .int l2), (3, .int l3)] [] h) (h : Hp) (l0 : Nat) (l1 : Int32) (l3 : Int32) (s0 : Int32) (s1 : Int32) (kl0 : kd tb l0 = 12) (hf : jb_Md_thirsts_121 tb c95 h l0 l1 l3 s0 s1 = some r) : V E g tb ρ 4 121 [(0, .ref (ρ l0)), (1, .int l1), (3, .int l3)] [.int s1, .int s0] h := by
  unfold jb_Md_thirsts_121 at hf
  refine v_ior (pc := 121) X (by decide +kernel) ?_
  obtain ⟨x1, ex1, hf⟩ := nmd_e hf
  refine v_nmi ex1 ?_
  refine v_istore_n (pc := 122) (k := 2) (lv' := [(2, .int x1), (0, .ref (ρ l0)), (1, .int l1), (3, .int l3)]) X (by decide +kernel) (Nat.le_of_ble_eq_true rfl) rfl ?_
  obtain ⟨x2, ex2, hf⟩ := nmd_e hf
  refine v_iinc (pc := 123) (k := 3) (n := 1) (v := x2) (lv' := [(3, .int x2), (2, .int x1), (0, .ref (ρ l0)), (1, .int l1)]) X (by decide +kernel) 3 rfl (by rw [ic_1, ex2]) (Nat.le_of_ble_eq_true rfl) rfl ?_
  refine v_goto (pc := 126) (off := -31) (tgt := 95) X (by decide +kernel) (by decide) ?_
  refine v_sub [2, 3, 1, 0] rfl ?_
  exact H95 h l0 l1 x1 x2 kl0 hf
set_option maxRecDepth 4000 in
set_option maxHeartbeats 1000000 in
theorem vlp_Md_thirsts_95 {E : En} {g : Gl} {tb : Tb} {ρ : Nat → Nat} (ok : TbOK tb) (hi : inj tb ρ) {r : Int32 × Hp} (X : CX E g tb ρ prog_14_method_110_code 4 RC12 7 170) (Y : CQ E g tb ρ (some .int) (some (.int r.1)) r.2) : ∀ (n : Nat) (h : Hp) (l0 : Nat) (l1 : Int32) (l2 : Int32) (l3 : Int32) (kl0 : kd tb l0 = 12), lp_Md_thirsts_95 tb n h l0 l1 l2 l3 = some r → V E g tb ρ 4 95 [(0, .ref (ρ l0)), (1, .int l1), (2, .int l2), (3, .int l3)] [] h := by
  intro n
  induction n with
  | zero =>
    intro h l0 l1 l2 l3 kl0 hf
    rw [lp_Md_thirsts_95] at hf
    cases hf
  | succ n ih =>
    intro h l0 l1 l2 l3 kl0 hf
    rw [lp_Md_thirsts_95] at hf
    refine v_iload_n (pc := 95) (k := 3) X (by decide +kernel) 3 rfl ?_
    refine v_bipush (pc := 96) (n := 10) X (by decide +kernel) bi_10 ?_
    refine v_icmp_ge (pc := 98) (off := 31) (tgt := 129) X (by decide +kernel) (by decide) (fun q3 => ?_) (fun q3 => ?_)
    · rw [if_pos q3] at hf
      refine v_iload_n (pc := 129) (k := 2) X (by decide +kernel) 2 rfl ?_
      cases hf
      exact v_iret X Y (by decide +kernel) rfl rfl
    · rw [if_neg q3] at hf
      refine v_iload_n (pc := 101) (k := 2) X (by decide +kernel) 2 rfl ?_
      refine v_aload_n (pc := 102) (k := 0) X (by decide +kernel) 0 rfl ?_
      refine v_iload_n (pc := 103) (k := 1) X (by decide +kernel) 1 rfl ?_
      refine v_bipush (pc := 104) (n := 10) X (by decide +kernel) bi_10 ?_
      refine v_iload_n (pc := 106) (k := 3) X (by decide +kernel) 3 rfl ?_
      refine v_imul (pc := 107) X (by decide +kernel) ?_
      obtain ⟨r1, er1, hf⟩ := bnd_e hf
      refine v_callV (pc := 108) (As := [.int l1, .int ((10 : Int32) * l3)]) (rest := [.int l2]) X (mt_Md_fits ok hi kl0 er1) ml_12_517 mv_Md_fits kl0 cls_12 rfl ⟨Nat.le_of_ble_eq_true rfl, Nat.le_of_ble_eq_true rfl⟩ rfl rfl (Nat.le_of_ble_eq_true rfl) (by decide +kernel) ?_
      change V E g tb ρ 4 111 [(0, .ref (ρ l0)), (1, .int l1), (2, .int l2), (3, .int l3)] [.int r1.1, .int l2] r1.2
      refine v_if_eq (pc := 111) (off := 9) (tgt := 120) X (by decide +kernel) (by decide) (fun q2 => ?_) (fun q2 => ?_)
      · rw [if_pos q2] at hf
        refine v_iconst (pc := 120) (n := 0) X (by decide +kernel) ic_0 ?_
        refine v_sub [0, 1, 3] rfl ?_
        exact vjb_Md_thirsts_121 ok hi X Y ih r1.2 l0 l1 l3 l2 (0 : Int32) kl0 hf
      · rw [if_neg q2] at hf
        refine v_iconst (pc := 114) (n := 1) X (by decide +kernel) ic_1 ?_
        refine v_iload_n (pc := 115) (k := 3) X (by decide +kernel) 3 rfl ?_
        refine v_ishl (pc := 116) X (by decide +kernel) ?_
        refine v_goto (pc := 117) (off := 4) (tgt := 121) X (by decide +kernel) (by decide) ?_
        refine v_sub [0, 1, 3] rfl ?_
        exact vjb_Md_thirsts_121 ok hi X Y ih r1.2 l0 l1 l3 l2 ((1 : Int32) <<< (l3 &&& 31)) kl0 hf
set_option maxRecDepth 4000 in
set_option maxHeartbeats 1000000 in
theorem vjb_Md_thirsts_85 {E : En} {g : Gl} {tb : Tb} {ρ : Nat → Nat} (ok : TbOK tb) (hi : inj tb ρ) {r : Int32 × Hp} (X : CX E g tb ρ prog_14_method_110_code 4 RC12 7 170) (Y : CQ E g tb ρ (some .int) (some (.int r.1)) r.2) {c45 : Hp → Nat → Int32 → Int32 → Option (Int32 × Hp)} (H45 : ∀ (h : Hp) (l0 : Nat) (l1 : Int32) (l2 : Int32) (kl0 : kd tb l0 = 12), c45 h l0 l1 l2 = some r → V E g tb ρ 4 45 [(0, .ref (ρ l0)), (1, .int l1), (2, .int l2)] [] h) (h : Hp) (l0 : Nat) (l1 : Int32) (l2 : Int32) (kl0 : kd tb l0 = 12) (hf : jb_Md_thirsts_85 tb c45 h l0 l1 l2 = some r) : V E g tb ρ 4 85 [(0, .ref (ρ l0)), (1, .int l1), (2, .int l2)] [] h := by
  unfold jb_Md_thirsts_85 at hf
  obtain ⟨x1, ex1, hf⟩ := nmd_e hf
  refine v_iinc (pc := 85) (k := 2) (n := -1) (v := x1) (lv' := [(2, .int x1), (0, .ref (ρ l0)), (1, .int l1)]) X (by decide +kernel) 2 rfl (by rw [ic_m1, ex1]) (Nat.le_of_ble_eq_true rfl) rfl ?_
  refine v_goto (pc := 88) (off := -43) (tgt := 45) X (by decide +kernel) (by decide) ?_
  refine v_sub [1, 2, 0] rfl ?_
  exact H45 h l0 l1 x1 kl0 hf
set_option maxRecDepth 4000 in
set_option maxHeartbeats 1000000 in
theorem vlp_Md_thirsts_45 {E : En} {g : Gl} {tb : Tb} {ρ : Nat → Nat} (ok : TbOK tb) (hi : inj tb ρ) {r : Int32 × Hp} (X : CX E g tb ρ prog_14_method_110_code 4 RC12 7 170) (Y : CQ E g tb ρ (some .int) (some (.int r.1)) r.2) : ∀ (n : Nat) (h : Hp) (l0 : Nat) (l1 : Int32) (l2 : Int32) (kl0 : kd tb l0 = 12), lp_Md_thirsts_45 tb n h l0 l1 l2 = some r → V E g tb ρ 4 45 [(0, .ref (ρ l0)), (1, .int l1), (2, .int l2)] [] h := by
  intro n
  induction n with
  | zero =>
    intro h l0 l1 l2 kl0 hf
    rw [lp_Md_thirsts_45] at hf
    cases hf
  | succ n ih =>
    intro h l0 l1 l2 kl0 hf
    rw [lp_Md_thirsts_45] at hf
    refine v_iload_n (pc := 45) (k := 2) X (by decide +kernel) 2 rfl ?_
    refine v_if_lt (pc := 46) (off := 45) (tgt := 91) X (by decide +kernel) (by decide) (fun q7 => ?_) (fun q7 => ?_)
    · rw [if_pos q7] at hf
      refine v_iconst (pc := 91) (n := 0) X (by decide +kernel) ic_0 ?_
      refine v_istore_n (pc := 92) (k := 2) (lv' := [(2, .int (0 : Int32)), (0, .ref (ρ l0)), (1, .int l1)]) X (by decide +kernel) (Nat.le_of_ble_eq_true rfl) rfl ?_
      refine v_iconst (pc := 93) (n := 0) X (by decide +kernel) ic_0 ?_
      refine v_istore_n (pc := 94) (k := 3) (lv' := [(3, .int (0 : Int32)), (2, .int (0 : Int32)), (0, .ref (ρ l0)), (1, .int l1)]) X (by decide +kernel) (Nat.le_of_ble_eq_true rfl) rfl ?_
      refine v_sub [2, 3, 1, 0] rfl ?_
      exact vlp_Md_thirsts_95 ok hi X Y fu h l0 l1 (0 : Int32) (0 : Int32) kl0 hf
    · rw [if_neg q7] at hf
      refine v_aload_n (pc := 49) (k := 0) X (by decide +kernel) 0 rfl ?_
      refine v_geta (pc := 50) X fl_12_142 kl0 fk_12_77 (by decide +kernel) ?_
      refine v_iload_n (pc := 53) (k := 2) X (by decide +kernel) 2 rfl ?_
      obtain ⟨x1, ex1, hf⟩ := bnd_e hf
      refine v_zald (pc := 54) X (ly_12_77 ok kl0) ex1 (by decide +kernel) ?_
      refine v_if_eq (pc := 55) (off := 30) (tgt := 85) X (by decide +kernel) (by decide) (fun q6 => ?_) (fun q6 => ?_)
      · rw [if_pos q6] at hf
        exact vjb_Md_thirsts_85 ok hi X Y ih h l0 l1 l2 kl0 hf
      · rw [if_neg q6] at hf
        refine v_aload_n (pc := 58) (k := 0) X (by decide +kernel) 0 rfl ?_
        refine v_geta (pc := 59) X fl_12_139 kl0 fk_12_76 (by decide +kernel) ?_
        refine v_iconst (pc := 62) (n := 4) X (by decide +kernel) ic_4 ?_
        refine v_iload_n (pc := 63) (k := 2) X (by decide +kernel) 2 rfl ?_
        refine v_imul (pc := 64) X (by decide +kernel) ?_
        obtain ⟨x2, ex2, hf⟩ := bnd_e hf
        refine v_iald (pc := 65) X (ly_12_76 ok kl0) ex2 (by decide +kernel) ?_
        refine v_if_ge (pc := 66) (off := 19) (tgt := 85) X (by decide +kernel) (by decide) (fun q5 => ?_) (fun q5 => ?_)
        · rw [if_pos q5] at hf
          exact vjb_Md_thirsts_85 ok hi X Y ih h l0 l1 l2 kl0 hf
        · rw [if_neg q5] at hf
          refine v_aload_n (pc := 69) (k := 0) X (by decide +kernel) 0 rfl ?_
          refine v_geta (pc := 70) X fl_12_142 kl0 fk_12_77 (by decide +kernel) ?_
          refine v_aload_n (pc := 73) (k := 0) X (by decide +kernel) 0 rfl ?_
          refine v_geta (pc := 74) X fl_12_139 kl0 fk_12_76 (by decide +kernel) ?_
          refine v_iconst (pc := 77) (n := 4) X (by decide +kernel) ic_4 ?_
          refine v_iload_n (pc := 78) (k := 2) X (by decide +kernel) 2 rfl ?_
          refine v_imul (pc := 79) X (by decide +kernel) ?_
          refine v_iconst (pc := 80) (n := 1) X (by decide +kernel) ic_1 ?_
          refine v_iadd (pc := 81) X (by decide +kernel) ?_
          obtain ⟨x3, ex3, hf⟩ := bnd_e hf
          refine v_iald (pc := 82) X (ly_12_76 ok kl0) ex3 (by decide +kernel) ?_
          refine v_iconst (pc := 83) (n := 0) X (by decide +kernel) ic_0 ?_
          obtain ⟨h4, eh4, hf⟩ := bnd_e hf
          refine v_zast (pc := 84) X (ly_12_77 ok kl0) eh4 (by decide +kernel) ?_
          exact vjb_Md_thirsts_85 ok hi X Y ih h4 l0 l1 l2 kl0 hf
set_option maxRecDepth 4000 in
set_option maxHeartbeats 1000000 in
theorem vlp_Md_thirsts_17 {E : En} {g : Gl} {tb : Tb} {ρ : Nat → Nat} (ok : TbOK tb) (hi : inj tb ρ) {r : Int32 × Hp} (X : CX E g tb ρ prog_14_method_110_code 4 RC12 7 170) (Y : CQ E g tb ρ (some .int) (some (.int r.1)) r.2) : ∀ (n : Nat) (h : Hp) (l0 : Nat) (l1 : Int32) (l2 : Int32) (kl0 : kd tb l0 = 12), lp_Md_thirsts_17 tb n h l0 l1 l2 = some r → V E g tb ρ 4 17 [(0, .ref (ρ l0)), (1, .int l1), (2, .int l2)] [] h := by
  intro n
  induction n with
  | zero =>
    intro h l0 l1 l2 kl0 hf
    rw [lp_Md_thirsts_17] at hf
    cases hf
  | succ n ih =>
    intro h l0 l1 l2 kl0 hf
    rw [lp_Md_thirsts_17] at hf
    refine v_iload_n (pc := 17) (k := 2) X (by decide +kernel) 2 rfl ?_
    refine v_aload_n (pc := 18) (k := 0) X (by decide +kernel) 0 rfl ?_
    obtain ⟨r1, er1, hf⟩ := nmd_e hf
    refine v_callV (pc := 19) (As := []) (rest := [.int l2]) X (mt_Md_knownBy ok hi kl0 er1.symm) ml_12_511 mv_Md_knownBy kl0 cls_12 rfl ⟨Nat.le_of_ble_eq_true rfl, Nat.le_of_ble_eq_true rfl⟩ rfl rfl (Nat.le_of_ble_eq_true rfl) (by decide +kernel) ?_
    change V E g tb ρ 4 22 [(0, .ref (ρ l0)), (1, .int l1), (2, .int l2)] [.int r1, .int l2] h
    refine v_icmp_ge (pc := 22) (off := 16) (tgt := 38) X (by decide +kernel) (by decide) (fun q6 => ?_) (fun q6 => ?_)
    · rw [if_pos q6] at hf
      refine v_aload_n (pc := 38) (k := 0) X (by decide +kernel) 0 rfl ?_
      obtain ⟨r2, er2, hf⟩ := nmd_e hf
      refine v_callV (pc := 39) (As := []) (rest := []) X (mt_Md_knownBy ok hi kl0 er2.symm) ml_12_511 mv_Md_knownBy kl0 cls_12 rfl ⟨Nat.le_of_ble_eq_true rfl, Nat.le_of_ble_eq_true rfl⟩ rfl rfl (Nat.le_of_ble_eq_true rfl) (by decide +kernel) ?_
      change V E g tb ρ 4 42 [(0, .ref (ρ l0)), (1, .int l1), (2, .int l2)] [.int r2] h
      refine v_iconst (pc := 42) (n := 1) X (by decide +kernel) ic_1 ?_
      refine v_isub (pc := 43) X (by decide +kernel) ?_
      obtain ⟨x3, ex3, hf⟩ := nmd_e hf
      refine v_nmi ex3 ?_
      refine v_istore_n (pc := 44) (k := 2) (lv' := [(2, .int x3), (0, .ref (ρ l0)), (1, .int l1)]) X (by decide +kernel) (Nat.le_of_ble_eq_true rfl) rfl ?_
      refine v_sub [1, 2, 0] rfl ?_
      exact vlp_Md_thirsts_45 ok hi X Y fu h l0 l1 x3 kl0 hf
    · rw [if_neg q6] at hf
      refine v_aload_n (pc := 25) (k := 0) X (by decide +kernel) 0 rfl ?_
      refine v_geta (pc := 26) X fl_12_142 kl0 fk_12_77 (by decide +kernel) ?_
      refine v_iload_n (pc := 29) (k := 2) X (by decide +kernel) 2 rfl ?_
      refine v_iconst (pc := 30) (n := 1) X (by decide +kernel) ic_1 ?_
      obtain ⟨h4, eh4, hf⟩ := bnd_e hf
      refine v_zast (pc := 31) X (ly_12_77 ok kl0) eh4 (by decide +kernel) ?_
      obtain ⟨x5, ex5, hf⟩ := nmd_e hf
      refine v_iinc (pc := 32) (k := 2) (n := 1) (v := x5) (lv' := [(2, .int x5), (0, .ref (ρ l0)), (1, .int l1)]) X (by decide +kernel) 2 rfl (by rw [ic_1, ex5]) (Nat.le_of_ble_eq_true rfl) rfl ?_
      refine v_goto (pc := 35) (off := -18) (tgt := 17) X (by decide +kernel) (by decide) ?_
      refine v_sub [1, 2, 0] rfl ?_
      exact ih h4 l0 l1 x5 kl0 hf
set_option maxRecDepth 4000 in
set_option maxHeartbeats 1000000 in
theorem mt_Md_thirsts {g : Gl} {tb : Tb} {ρ : Nat → Nat} (ok : TbOK tb) (hi : inj tb ρ) {h : Hp} {l0 : Nat} {l1 : Int32} (kl0 : kd tb l0 = 12) {r : Int32 × Hp} (hf : f_Md_thirsts tb h l0 l1 = some r) : MT g y_Md_thirsts prog_14_method_110_code 4 (some .int) 7 170 tb ρ [.ref (ρ l0), .int l1] h (some (.int r.1)) r.2 := by
  refine mt_intro (by decide +kernel) ok hi (Nat.le_of_ble_eq_true rfl) (fun E X Y => ?_)
  change V E g tb ρ 4 0 [(0, .ref (ρ l0)), (1, .int l1)] [] h
  unfold f_Md_thirsts at hf
  refine v_aload_n (pc := 0) (k := 0) X (by decide +kernel) 0 rfl ?_
  refine v_iconst (pc := 1) (n := 0) X (by decide +kernel) ic_0 ?_
  obtain ⟨h1, eh1, hf⟩ := nmd_e hf
  refine v_puti (pc := 2) X fp_12_160 kl0 rfl (by decide +kernel) eh1 ?_
  refine v_aload_n (pc := 5) (k := 0) X (by decide +kernel) 0 rfl ?_
  refine v_iload_n (pc := 6) (k := 1) X (by decide +kernel) 1 rfl ?_
  obtain ⟨r2, er2, hf⟩ := nmd_e hf
  refine v_callV (pc := 7) (As := [.int l1]) (rest := []) X (mt_Md_isHorse ok hi kl0 er2.symm) ml_12_459 mv_Md_isHorse kl0 cls_12 rfl ⟨Nat.le_of_ble_eq_true rfl, Nat.le_of_ble_eq_true rfl⟩ rfl rfl (Nat.le_of_ble_eq_true rfl) (by decide +kernel) ?_
  change V E g tb ρ 4 10 [(0, .ref (ρ l0)), (1, .int l1)] [.int r2] h1
  refine v_if_ne (pc := 10) (off := 5) (tgt := 15) X (by decide +kernel) (by decide) (fun q3 => ?_) (fun q3 => ?_)
  · rw [if_neg q3] at hf
    refine v_iconst (pc := 15) (n := 0) X (by decide +kernel) ic_0 ?_
    refine v_istore_n (pc := 16) (k := 2) (lv' := [(2, .int (0 : Int32)), (0, .ref (ρ l0)), (1, .int l1)]) X (by decide +kernel) (Nat.le_of_ble_eq_true rfl) rfl ?_
    refine v_sub [1, 2, 0] rfl ?_
    exact vlp_Md_thirsts_17 ok hi X Y fu h1 l0 l1 (0 : Int32) kl0 hf
  · rw [if_pos q3] at hf
    refine v_iconst (pc := 13) (n := -1) X (by decide +kernel) ic_m1 ?_
    cases hf
    exact v_iret X Y (by decide +kernel) rfl rfl
def jb_Md_chance_100 (tb : Tb) (c58 : Hp → Nat → Int32 → Int32 → Int32 → Int64 → Int32 → Int32 → Option (Int32 × Hp)) (h : Hp) (l0 : Nat) (l2 : Int32) (l3 : Int32) (l4 : Int32) (l5 : Int64) (l8 : Int32) (s0 : Int32) (s1 : Int32) : Option (Int32 × Hp) :=
  nmd (s0 + s1) fun x1 =>
  nmd (l8 + (1 : Int32)) fun x2 =>
  c58 h l0 l2 l3 l4 l5 x1 x2
def lp_Md_chance_58 (tb : Tb) : Nat → Hp → Nat → Int32 → Int32 → Int32 → Int64 → Int32 → Int32 → Option (Int32 × Hp)
  | 0, _, _, _, _, _, _, _, _ => none
  | n + 1, h, l0, l2, l3, l4, l5, l7, l8 =>
    if (10 : Int32) ≤ l8 then (
      nmd (pI h l0 69 (0 : Int32)) fun h1 =>
      nmd (pL h1 l0 67 l5) fun h2 =>
      some (l7, h2)
    ) else (
      (f_Md_layTried tb h l0).bind fun r3 =>
      nmd (pI r3 l0 69 (1 : Int32)) fun h4 =>
      (f_Md_goMany tb h4 l0 l2).bind fun r5 =>
      (rI tb r5 (lay tb l0 60) ((6 : Int32) + l3)).bind fun x6 =>
      if x6 < l4 then (
        jb_Md_chance_100 tb (lp_Md_chance_58 tb n) r5 l0 l2 l3 l4 l5 l8 l7 (0 : Int32)
      ) else (
        jb_Md_chance_100 tb (lp_Md_chance_58 tb n) r5 l0 l2 l3 l4 l5 l8 l7 (1 : Int32)
      )
    )
def f_Md_chance (tb : Tb) (h : Hp) (l0 : Nat) (l1 : Int32) (l2 : Int32) (l3 : Int32) (l4 : Int32) : Option (Int32 × Hp) :=
  nmd (pI h l0 2 (0 : Int32)) fun h1 =>
  if l1 < (0 : Int32) then (
    some ((-1 : Int32), h1)
  ) else (
    nmd (f_Md_isIn tb h1 l2 (1 : Int32) (99 : Int32)) fun r2 =>
    if r2 = (0 : Int32) then (
      some ((-1 : Int32), h1)
    ) else (
      nmd (f_Md_isTrough tb h1 l0 l3) fun r3 =>
      if r3 = (0 : Int32) then (
        some ((-1 : Int32), h1)
      ) else (
        nmd (f_Md_isIn tb h1 l4 (0 : Int32) (99 : Int32)) fun r4 =>
        if r4 = (0 : Int32) then (
          some ((-1 : Int32), h1)
        ) else (
          nmd (h1.2 l0 67) fun x5 =>
          nmd (pL h1 l0 67 (l1.toInt64)) fun h6 =>
          lp_Md_chance_58 tb fu h6 l0 l2 l3 l4 x5 (0 : Int32) (0 : Int32)
        )
      )
    )
  )
set_option maxRecDepth 4000 in
set_option maxHeartbeats 1000000 in
theorem vjb_Md_chance_100 {E : En} {g : Gl} {tb : Tb} {ρ : Nat → Nat} (ok : TbOK tb) (hi : inj tb ρ) {r : Int32 × Hp} (X : CX E g tb ρ prog_14_method_111_code 9 RC12 7 169) (Y : CQ E g tb ρ (some .int) (some (.int r.1)) r.2) {c58 : Hp → Nat → Int32 → Int32 → Int32 → Int64 → Int32 → Int32 → Option (Int32 × Hp)} (H58 : ∀ (h : Hp) (l0 : Nat) (l2 : Int32) (l3 : Int32) (l4 : Int32) (l5 : Int64) (l7 : Int32) (l8 : Int32) (kl0 : kd tb l0 = 12), c58 h l0 l2 l3 l4 l5 l7 l8 = some r → V E g tb ρ 9 58 [(0, .ref (ρ l0)), (2, .int l2), (3, .int l3), (4, .int l4), (5, .long l5), (7, .int l7), (8, .int l8)] [] h) (h : Hp) (l0 : Nat) (l2 : Int32) (l3 : Int32) (l4 : Int32) (l5 : Int64) (l8 : Int32) (s0 : Int32) (s1 : Int32) (kl0 : kd tb l0 = 12) (hf : jb_Md_chance_100 tb c58 h l0 l2 l3 l4 l5 l8 s0 s1 = some r) : V E g tb ρ 9 100 [(0, .ref (ρ l0)), (2, .int l2), (3, .int l3), (4, .int l4), (5, .long l5), (8, .int l8)] [.int s1, .int s0] h := by
  unfold jb_Md_chance_100 at hf
  refine v_iadd (pc := 100) X (by decide +kernel) ?_
  obtain ⟨x1, ex1, hf⟩ := nmd_e hf
  refine v_nmi ex1 ?_
  refine v_istore (pc := 101) (k := 7) (lv' := [(7, .int x1), (0, .ref (ρ l0)), (2, .int l2), (3, .int l3), (4, .int l4), (5, .long l5), (8, .int l8)]) X (by decide +kernel) (Nat.le_of_ble_eq_true rfl) rfl ?_
  obtain ⟨x2, ex2, hf⟩ := nmd_e hf
  refine v_iinc (pc := 103) (k := 8) (n := 1) (v := x2) (lv' := [(8, .int x2), (7, .int x1), (0, .ref (ρ l0)), (2, .int l2), (3, .int l3), (4, .int l4), (5, .long l5)]) X (by decide +kernel) 6 rfl (by rw [ic_1, ex2]) (Nat.le_of_ble_eq_true rfl) rfl ?_
  refine v_goto (pc := 106) (off := -48) (tgt := 58) X (by decide +kernel) (by decide) ?_
  refine v_sub [2, 3, 4, 5, 6, 1, 0] rfl ?_
  exact H58 h l0 l2 l3 l4 l5 x1 x2 kl0 hf
set_option maxRecDepth 4000 in
set_option maxHeartbeats 1000000 in
theorem vlp_Md_chance_58 {E : En} {g : Gl} {tb : Tb} {ρ : Nat → Nat} (ok : TbOK tb) (hi : inj tb ρ) {r : Int32 × Hp} (X : CX E g tb ρ prog_14_method_111_code 9 RC12 7 169) (Y : CQ E g tb ρ (some .int) (some (.int r.1)) r.2) : ∀ (n : Nat) (h : Hp) (l0 : Nat) (l2 : Int32) (l3 : Int32) (l4 : Int32) (l5 : Int64) (l7 : Int32) (l8 : Int32) (kl0 : kd tb l0 = 12), lp_Md_chance_58 tb n h l0 l2 l3 l4 l5 l7 l8 = some r → V E g tb ρ 9 58 [(0, .ref (ρ l0)), (2, .int l2), (3, .int l3), (4, .int l4), (5, .long l5), (7, .int l7), (8, .int l8)] [] h := by
  intro n
  induction n with
  | zero =>
    intro h l0 l2 l3 l4 l5 l7 l8 kl0 hf
    rw [lp_Md_chance_58] at hf
    cases hf
  | succ n ih =>
    intro h l0 l2 l3 l4 l5 l7 l8 kl0 hf
    rw [lp_Md_chance_58] at hf
    refine v_iload (pc := 58) (k := 8) X (by decide +kernel) 6 rfl ?_
    refine v_bipush (pc := 60) (n := 10) X (by decide +kernel) bi_10 ?_
    refine v_icmp_ge (pc := 62) (off := 47) (tgt := 109) X (by decide +kernel) (by decide) (fun q8 => ?_) (fun q8 => ?_)
    · rw [if_pos q8] at hf
      refine v_aload_n (pc := 109) (k := 0) X (by decide +kernel) 0 rfl ?_
      refine v_iconst (pc := 110) (n := 0) X (by decide +kernel) ic_0 ?_
      obtain ⟨h1, eh1, hf⟩ := nmd_e hf
      refine v_putz (pc := 111) X fp_12_386 kl0 rfl rfl (by decide +kernel) eh1 ?_
      refine v_aload_n (pc := 114) (k := 0) X (by decide +kernel) 0 rfl ?_
      refine v_lload (pc := 115) (k := 5) X (by decide +kernel) 4 rfl ?_
      obtain ⟨h2, eh2, hf⟩ := nmd_e hf
      refine v_putl (pc := 117) X fp_12_370 kl0 rfl (by decide +kernel) eh2 ?_
      refine v_iload (pc := 120) (k := 7) X (by decide +kernel) 5 rfl ?_
      cases hf
      exact v_iret X Y (by decide +kernel) rfl rfl
    · rw [if_neg q8] at hf
      refine v_aload_n (pc := 65) (k := 0) X (by decide +kernel) 0 rfl ?_
      obtain ⟨r3, er3, hf⟩ := bnd_e hf
      refine v_callV (pc := 66) (As := []) (rest := []) X (mt_Md_layTried ok hi kl0 er3) ml_12_473 mv_Md_layTried kl0 cls_12 rfl ⟨Nat.le_of_ble_eq_true rfl, Nat.le_of_ble_eq_true rfl⟩ rfl rfl (Nat.le_of_ble_eq_true rfl) (by decide +kernel) ?_
      change V E g tb ρ 9 69 [(0, .ref (ρ l0)), (2, .int l2), (3, .int l3), (4, .int l4), (5, .long l5), (7, .int l7), (8, .int l8)] [] r3
      refine v_aload_n (pc := 69) (k := 0) X (by decide +kernel) 0 rfl ?_
      refine v_iconst (pc := 70) (n := 1) X (by decide +kernel) ic_1 ?_
      obtain ⟨h4, eh4, hf⟩ := nmd_e hf
      refine v_putz (pc := 71) X fp_12_386 kl0 rfl rfl (by decide +kernel) eh4 ?_
      refine v_aload_n (pc := 74) (k := 0) X (by decide +kernel) 0 rfl ?_
      refine v_iload_n (pc := 75) (k := 2) X (by decide +kernel) 1 rfl ?_
      obtain ⟨r5, er5, hf⟩ := bnd_e hf
      refine v_callV (pc := 76) (As := [.int l2]) (rest := []) X (mt_Md_goMany ok hi kl0 er5) ml_12_476 mv_Md_goMany kl0 cls_12 rfl ⟨Nat.le_of_ble_eq_true rfl, Nat.le_of_ble_eq_true rfl⟩ rfl rfl (Nat.le_of_ble_eq_true rfl) (by decide +kernel) ?_
      change V E g tb ρ 9 79 [(0, .ref (ρ l0)), (2, .int l2), (3, .int l3), (4, .int l4), (5, .long l5), (7, .int l7), (8, .int l8)] [] r5
      refine v_iload (pc := 79) (k := 7) X (by decide +kernel) 5 rfl ?_
      refine v_aload_n (pc := 81) (k := 0) X (by decide +kernel) 0 rfl ?_
      refine v_geta (pc := 82) X fl_12_112 kl0 fk_12_60 (by decide +kernel) ?_
      refine v_bipush (pc := 85) (n := 6) X (by decide +kernel) bi_6 ?_
      refine v_iload_n (pc := 87) (k := 3) X (by decide +kernel) 2 rfl ?_
      refine v_iadd (pc := 88) X (by decide +kernel) ?_
      obtain ⟨x6, ex6, hf⟩ := bnd_e hf
      refine v_iald (pc := 89) X (ly_12_60 ok kl0) ex6 (by decide +kernel) ?_
      refine v_iload (pc := 90) (k := 4) X (by decide +kernel) 3 rfl ?_
      refine v_icmp_lt (pc := 92) (off := 7) (tgt := 99) X (by decide +kernel) (by decide) (fun q7 => ?_) (fun q7 => ?_)
      · rw [if_pos q7] at hf
        refine v_iconst (pc := 99) (n := 0) X (by decide +kernel) ic_0 ?_
        refine v_sub [0, 1, 2, 3, 4, 6] rfl ?_
        exact vjb_Md_chance_100 ok hi X Y ih r5 l0 l2 l3 l4 l5 l8 l7 (0 : Int32) kl0 hf
      · rw [if_neg q7] at hf
        refine v_iconst (pc := 95) (n := 1) X (by decide +kernel) ic_1 ?_
        refine v_goto (pc := 96) (off := 4) (tgt := 100) X (by decide +kernel) (by decide) ?_
        refine v_sub [0, 1, 2, 3, 4, 6] rfl ?_
        exact vjb_Md_chance_100 ok hi X Y ih r5 l0 l2 l3 l4 l5 l8 l7 (1 : Int32) kl0 hf
set_option maxRecDepth 4000 in
set_option maxHeartbeats 1000000 in
theorem mt_Md_chance {g : Gl} {tb : Tb} {ρ : Nat → Nat} (ok : TbOK tb) (hi : inj tb ρ) {h : Hp} {l0 : Nat} {l1 : Int32} {l2 : Int32} {l3 : Int32} {l4 : Int32} (kl0 : kd tb l0 = 12) {r : Int32 × Hp} (hf : f_Md_chance tb h l0 l1 l2 l3 l4 = some r) : MT g y_Md_chance prog_14_method_111_code 9 (some .int) 7 169 tb ρ [.ref (ρ l0), .int l1, .int l2, .int l3, .int l4] h (some (.int r.1)) r.2 := by
  refine mt_intro (by decide +kernel) ok hi (Nat.le_of_ble_eq_true rfl) (fun E X Y => ?_)
  change V E g tb ρ 9 0 [(0, .ref (ρ l0)), (1, .int l1), (2, .int l2), (3, .int l3), (4, .int l4)] [] h
  unfold f_Md_chance at hf
  refine v_aload_n (pc := 0) (k := 0) X (by decide +kernel) 0 rfl ?_
  refine v_iconst (pc := 1) (n := 0) X (by decide +kernel) ic_0 ?_
  obtain ⟨h1, eh1, hf⟩ := nmd_e hf
  refine v_puti (pc := 2) X fp_12_160 kl0 rfl (by decide +kernel) eh1 ?_
  refine v_iload_n (pc := 5) (k := 1) X (by decide +kernel) 1 rfl ?_
  refine v_if_lt (pc := 6) (off := 32) (tgt := 38) X (by decide +kernel) (by decide) (fun q10 => ?_) (fun q10 => ?_)
  · rw [if_pos q10] at hf
    refine v_iconst (pc := 38) (n := -1) X (by decide +kernel) ic_m1 ?_
    cases hf
    exact v_iret X Y (by decide +kernel) rfl rfl
  · rw [if_neg q10] at hf
    refine v_iload_n (pc := 9) (k := 2) X (by decide +kernel) 2 rfl ?_
    refine v_iconst (pc := 10) (n := 1) X (by decide +kernel) ic_1 ?_
    refine v_bipush (pc := 11) (n := 99) X (by decide +kernel) bi_99 ?_
    obtain ⟨r2, er2, hf⟩ := nmd_e hf
    refine v_callS (pc := 13) (As := [.int l2, .int (1 : Int32), .int (99 : Int32)]) (rest := []) X (mt_Md_isIn ok hi er2.symm) ml_12_205 ms_Md_isIn ⟨Nat.le_of_ble_eq_true rfl, Nat.le_of_ble_eq_true rfl⟩ rfl rfl (Nat.le_of_ble_eq_true rfl) (by decide +kernel) ?_
    change V E g tb ρ 9 16 [(0, .ref (ρ l0)), (1, .int l1), (2, .int l2), (3, .int l3), (4, .int l4)] [.int r2] h1
    refine v_if_eq (pc := 16) (off := 22) (tgt := 38) X (by decide +kernel) (by decide) (fun q9 => ?_) (fun q9 => ?_)
    · rw [if_pos q9] at hf
      refine v_iconst (pc := 38) (n := -1) X (by decide +kernel) ic_m1 ?_
      cases hf
      exact v_iret X Y (by decide +kernel) rfl rfl
    · rw [if_neg q9] at hf
      refine v_aload_n (pc := 19) (k := 0) X (by decide +kernel) 0 rfl ?_
      refine v_iload_n (pc := 20) (k := 3) X (by decide +kernel) 3 rfl ?_
      obtain ⟨r3, er3, hf⟩ := nmd_e hf
      refine v_callV (pc := 21) (As := [.int l3]) (rest := []) X (mt_Md_isTrough ok hi kl0 er3.symm) ml_12_465 mv_Md_isTrough kl0 cls_12 rfl ⟨Nat.le_of_ble_eq_true rfl, Nat.le_of_ble_eq_true rfl⟩ rfl rfl (Nat.le_of_ble_eq_true rfl) (by decide +kernel) ?_
      change V E g tb ρ 9 24 [(0, .ref (ρ l0)), (1, .int l1), (2, .int l2), (3, .int l3), (4, .int l4)] [.int r3] h1
      refine v_if_eq (pc := 24) (off := 14) (tgt := 38) X (by decide +kernel) (by decide) (fun q8 => ?_) (fun q8 => ?_)
      · rw [if_pos q8] at hf
        refine v_iconst (pc := 38) (n := -1) X (by decide +kernel) ic_m1 ?_
        cases hf
        exact v_iret X Y (by decide +kernel) rfl rfl
      · rw [if_neg q8] at hf
        refine v_iload (pc := 27) (k := 4) X (by decide +kernel) 4 rfl ?_
        refine v_iconst (pc := 29) (n := 0) X (by decide +kernel) ic_0 ?_
        refine v_bipush (pc := 30) (n := 99) X (by decide +kernel) bi_99 ?_
        obtain ⟨r4, er4, hf⟩ := nmd_e hf
        refine v_callS (pc := 32) (As := [.int l4, .int (0 : Int32), .int (99 : Int32)]) (rest := []) X (mt_Md_isIn ok hi er4.symm) ml_12_205 ms_Md_isIn ⟨Nat.le_of_ble_eq_true rfl, Nat.le_of_ble_eq_true rfl⟩ rfl rfl (Nat.le_of_ble_eq_true rfl) (by decide +kernel) ?_
        change V E g tb ρ 9 35 [(0, .ref (ρ l0)), (1, .int l1), (2, .int l2), (3, .int l3), (4, .int l4)] [.int r4] h1
        refine v_if_ne (pc := 35) (off := 5) (tgt := 40) X (by decide +kernel) (by decide) (fun q7 => ?_) (fun q7 => ?_)
        · rw [if_neg q7] at hf
          refine v_aload_n (pc := 40) (k := 0) X (by decide +kernel) 0 rfl ?_
          refine v_getl (pc := 41) X fl_12_370 kl0 rfl (by decide +kernel) ?_
          obtain ⟨x5, ex5, hf⟩ := nmd_e hf
          refine v_nml ex5 ?_
          refine v_lstore (pc := 44) (k := 5) (lv' := [(5, .long x5), (0, .ref (ρ l0)), (1, .int l1), (2, .int l2), (3, .int l3), (4, .int l4)]) X (by decide +kernel) (Nat.le_of_ble_eq_true rfl) rfl ?_
          refine v_aload_n (pc := 46) (k := 0) X (by decide +kernel) 1 rfl ?_
          refine v_iload_n (pc := 47) (k := 1) X (by decide +kernel) 2 rfl ?_
          refine v_i2l (pc := 48) X (by decide +kernel) ?_
          obtain ⟨h6, eh6, hf⟩ := nmd_e hf
          refine v_putl (pc := 49) X fp_12_370 kl0 rfl (by decide +kernel) eh6 ?_
          refine v_iconst (pc := 52) (n := 0) X (by decide +kernel) ic_0 ?_
          refine v_istore (pc := 53) (k := 7) (lv' := [(7, .int (0 : Int32)), (5, .long x5), (0, .ref (ρ l0)), (1, .int l1), (2, .int l2), (3, .int l3), (4, .int l4)]) X (by decide +kernel) (Nat.le_of_ble_eq_true rfl) rfl ?_
          refine v_iconst (pc := 55) (n := 0) X (by decide +kernel) ic_0 ?_
          refine v_istore (pc := 56) (k := 8) (lv' := [(8, .int (0 : Int32)), (7, .int (0 : Int32)), (5, .long x5), (0, .ref (ρ l0)), (1, .int l1), (2, .int l2), (3, .int l3), (4, .int l4)]) X (by decide +kernel) (Nat.le_of_ble_eq_true rfl) rfl ?_
          refine v_sub [3, 5, 6, 7, 2, 1, 0] rfl ?_
          exact vlp_Md_chance_58 ok hi X Y fu h6 l0 l2 l3 l4 x5 (0 : Int32) (0 : Int32) kl0 hf
        · rw [if_pos q7] at hf
          refine v_iconst (pc := 38) (n := -1) X (by decide +kernel) ic_m1 ?_
          cases hf
          exact v_iret X Y (by decide +kernel) rfl rfl
def jb_Md_tried_139 (tb : Tb) (h : Hp) (l0 : Nat) (l3 : Int32) (s0 : Nat) (s1 : Int32) : Option (Int32 × Hp) :=
  (pZ h s0 72 s1).bind fun h1 =>
  (f_Md_goMany tb h1 l0 l3).bind fun r2 =>
  nmd (f_Md_plainTried tb r2 l0) fun r3 =>
  (rI tb r3 (lay tb l0 61) (1 : Int32)).bind fun x4 =>
  (rI tb r3 (lay tb l0 61) (0 : Int32)).bind fun x5 =>
  some (x4 - x5, r3)
def jb_Md_tried_128 (tb : Tb) (h : Hp) (l0 : Nat) (l1 : Int32) (l3 : Int32) : Option (Int32 × Hp) :=
  if l1 = (4 : Int32) then (
    jb_Md_tried_139 tb h l0 l3 l0 (1 : Int32)
  ) else (
    jb_Md_tried_139 tb h l0 l3 l0 (0 : Int32)
  )
def lp_Md_tried_96 (tb : Tb) : Nat → Hp → Nat → Int32 → Int32 → Int32 → Option (Int32 × Hp)
  | 0, _, _, _, _, _ => none
  | n + 1, h, l0, l1, l3, l4 =>
    if (h.1 l0 12) ≤ l4 then (
      jb_Md_tried_128 tb h l0 l1 l3
    ) else (
      if l1 = (3 : Int32) then (
        (wI tb h (lay tb l0 60) ((6 : Int32) + l4) (99 : Int32)).bind fun h1 =>
        nmd (l4 + (1 : Int32)) fun x2 =>
        lp_Md_tried_96 tb n h1 l0 l1 l3 x2
      ) else (
        jb_Md_tried_128 tb h l0 l1 l3
      )
    )
def jb_Md_tried_93 (tb : Tb) (h : Hp) (l0 : Nat) (l1 : Int32) (l3 : Int32) : Option (Int32 × Hp) :=
  lp_Md_tried_96 tb fu h l0 l1 l3 (0 : Int32)
def jb_Md_tried_75 (tb : Tb) (h : Hp) (l0 : Nat) (l1 : Int32) (l2 : Int32) (l3 : Int32) (s0 : Nat) (s1 : Int32) : Option (Int32 × Hp) :=
  (pZ h s0 71 s1).bind fun h1 =>
  if l1 = (2 : Int32) then (
    (wZ tb h1 (lay tb l0 58) ((6 : Int32) + l2) (0 : Int32)).bind fun h2 =>
    jb_Md_tried_93 tb h2 l0 l1 l3
  ) else (
    jb_Md_tried_93 tb h1 l0 l1 l3
  )
def jb_Md_tried_61 (tb : Tb) (h : Hp) (l0 : Nat) (l1 : Int32) (l2 : Int32) (l3 : Int32) (s0 : Nat) (s1 : Int32) : Option (Int32 × Hp) :=
  (pZ h s0 70 s1).bind fun h1 =>
  if l1 = (1 : Int32) then (
    jb_Md_tried_75 tb h1 l0 l1 l2 l3 l0 (1 : Int32)
  ) else (
    jb_Md_tried_75 tb h1 l0 l1 l2 l3 l0 (0 : Int32)
  )
def jb_Md_tried_47 (tb : Tb) (h : Hp) (l0 : Nat) (l1 : Int32) (l2 : Int32) (l3 : Int32) : Option (Int32 × Hp) :=
  (f_Md_layTried tb h l0).bind fun r1 =>
  if l1 = (0 : Int32) then (
    jb_Md_tried_61 tb r1 l0 l1 l2 l3 l0 (1 : Int32)
  ) else (
    jb_Md_tried_61 tb r1 l0 l1 l2 l3 l0 (0 : Int32)
  )
def f_Md_tried (tb : Tb) (h : Hp) (l0 : Nat) (l1 : Int32) (l2 : Int32) (l3 : Int32) : Option (Int32 × Hp) :=
  nmd (pI h l0 2 (0 : Int32)) fun h1 =>
  nmd (f_Md_isIn tb h1 l1 (0 : Int32) (4 : Int32)) fun r2 =>
  if r2 = (0 : Int32) then (
    some ((-1 : Int32), h1)
  ) else (
    nmd (f_Md_isIn tb h1 l3 (0 : Int32) (200 : Int32)) fun r3 =>
    if r3 = (0 : Int32) then (
      some ((-1 : Int32), h1)
    ) else (
      if l1 = (2 : Int32) then (
        nmd (f_Md_isHorse tb h1 l0 l2) fun r5 =>
        if r5 = (0 : Int32) then (
          some ((-1 : Int32), h1)
        ) else (
          jb_Md_tried_47 tb h1 l0 l1 l2 l3
        )
      ) else (
        if l2 = (0 : Int32) then (
          jb_Md_tried_47 tb h1 l0 l1 l2 l3
        ) else (
          some ((-1 : Int32), h1)
        )
      )
    )
  )
set_option maxRecDepth 4000 in
set_option maxHeartbeats 1000000 in
theorem vjb_Md_tried_139 {E : En} {g : Gl} {tb : Tb} {ρ : Nat → Nat} (ok : TbOK tb) (hi : inj tb ρ) {r : Int32 × Hp} (X : CX E g tb ρ prog_14_method_112_code 5 RC12 7 169) (Y : CQ E g tb ρ (some .int) (some (.int r.1)) r.2) (h : Hp) (l0 : Nat) (l3 : Int32) (s0 : Nat) (s1 : Int32) (kl0 : kd tb l0 = 12) (ks0 : kd tb s0 = 12) (hf : jb_Md_tried_139 tb h l0 l3 s0 s1 = some r) : V E g tb ρ 5 139 [(0, .ref (ρ l0)), (3, .int l3)] [.int s1, .ref (ρ s0)] h := by
  unfold jb_Md_tried_139 at hf
  obtain ⟨h1, eh1, hf⟩ := bnd_e hf
  refine v_putz (pc := 139) X fp_12_395 ks0 rfl (pZ_b eh1) (by decide +kernel) (pZ_e eh1) ?_
  refine v_aload_n (pc := 142) (k := 0) X (by decide +kernel) 0 rfl ?_
  refine v_iload_n (pc := 143) (k := 3) X (by decide +kernel) 1 rfl ?_
  obtain ⟨r2, er2, hf⟩ := bnd_e hf
  refine v_callV (pc := 144) (As := [.int l3]) (rest := []) X (mt_Md_goMany ok hi kl0 er2) ml_12_476 mv_Md_goMany kl0 cls_12 rfl ⟨Nat.le_of_ble_eq_true rfl, Nat.le_of_ble_eq_true rfl⟩ rfl rfl (Nat.le_of_ble_eq_true rfl) (by decide +kernel) ?_
  change V E g tb ρ 5 147 [(0, .ref (ρ l0)), (3, .int l3)] [] r2
  refine v_aload_n (pc := 147) (k := 0) X (by decide +kernel) 0 rfl ?_
  obtain ⟨r3, er3, hf⟩ := nmd_e hf
  refine v_callV (pc := 148) (As := []) (rest := []) X (mt_Md_plainTried ok hi kl0 er3.symm) ml_12_374 mv_Md_plainTried kl0 cls_12 rfl ⟨Nat.le_of_ble_eq_true rfl, Nat.le_of_ble_eq_true rfl⟩ rfl rfl (Nat.le_of_ble_eq_true rfl) (by decide +kernel) ?_
  change V E g tb ρ 5 151 [(0, .ref (ρ l0)), (3, .int l3)] [] r3
  refine v_aload_n (pc := 151) (k := 0) X (by decide +kernel) 0 rfl ?_
  refine v_geta (pc := 152) X fl_12_115 kl0 fk_12_61 (by decide +kernel) ?_
  refine v_iconst (pc := 155) (n := 1) X (by decide +kernel) ic_1 ?_
  obtain ⟨x4, ex4, hf⟩ := bnd_e hf
  refine v_iald (pc := 156) X (ly_12_61 ok kl0) ex4 (by decide +kernel) ?_
  refine v_aload_n (pc := 157) (k := 0) X (by decide +kernel) 0 rfl ?_
  refine v_geta (pc := 158) X fl_12_115 kl0 fk_12_61 (by decide +kernel) ?_
  refine v_iconst (pc := 161) (n := 0) X (by decide +kernel) ic_0 ?_
  obtain ⟨x5, ex5, hf⟩ := bnd_e hf
  refine v_iald (pc := 162) X (ly_12_61 ok kl0) ex5 (by decide +kernel) ?_
  refine v_isub (pc := 163) X (by decide +kernel) ?_
  cases hf
  exact v_iret X Y (by decide +kernel) rfl rfl
set_option maxRecDepth 4000 in
set_option maxHeartbeats 1000000 in
theorem vjb_Md_tried_128 {E : En} {g : Gl} {tb : Tb} {ρ : Nat → Nat} (ok : TbOK tb) (hi : inj tb ρ) {r : Int32 × Hp} (X : CX E g tb ρ prog_14_method_112_code 5 RC12 7 169) (Y : CQ E g tb ρ (some .int) (some (.int r.1)) r.2) (h : Hp) (l0 : Nat) (l1 : Int32) (l3 : Int32) (kl0 : kd tb l0 = 12) (hf : jb_Md_tried_128 tb h l0 l1 l3 = some r) : V E g tb ρ 5 128 [(0, .ref (ρ l0)), (1, .int l1), (3, .int l3)] [] h := by
  unfold jb_Md_tried_128 at hf
  refine v_aload_n (pc := 128) (k := 0) X (by decide +kernel) 0 rfl ?_
  refine v_iload_n (pc := 129) (k := 1) X (by decide +kernel) 1 rfl ?_
  refine v_iconst (pc := 130) (n := 4) X (by decide +kernel) ic_4 ?_
  refine v_icmp_ne (pc := 131) (off := 7) (tgt := 138) X (by decide +kernel) (by decide) (fun q1 => ?_) (fun q1 => ?_)
  · rw [if_neg q1] at hf
    refine v_iconst (pc := 138) (n := 0) X (by decide +kernel) ic_0 ?_
    refine v_sub [0, 2] rfl ?_
    exact vjb_Md_tried_139 ok hi X Y h l0 l3 l0 (0 : Int32) kl0 kl0 hf
  · rw [if_pos q1] at hf
    refine v_iconst (pc := 134) (n := 1) X (by decide +kernel) ic_1 ?_
    refine v_goto (pc := 135) (off := 4) (tgt := 139) X (by decide +kernel) (by decide) ?_
    refine v_sub [0, 2] rfl ?_
    exact vjb_Md_tried_139 ok hi X Y h l0 l3 l0 (1 : Int32) kl0 kl0 hf
set_option maxRecDepth 4000 in
set_option maxHeartbeats 1000000 in
theorem vlp_Md_tried_96 {E : En} {g : Gl} {tb : Tb} {ρ : Nat → Nat} (ok : TbOK tb) (hi : inj tb ρ) {r : Int32 × Hp} (X : CX E g tb ρ prog_14_method_112_code 5 RC12 7 169) (Y : CQ E g tb ρ (some .int) (some (.int r.1)) r.2) : ∀ (n : Nat) (h : Hp) (l0 : Nat) (l1 : Int32) (l3 : Int32) (l4 : Int32) (kl0 : kd tb l0 = 12), lp_Md_tried_96 tb n h l0 l1 l3 l4 = some r → V E g tb ρ 5 96 [(0, .ref (ρ l0)), (1, .int l1), (3, .int l3), (4, .int l4)] [] h := by
  intro n
  induction n with
  | zero =>
    intro h l0 l1 l3 l4 kl0 hf
    rw [lp_Md_tried_96] at hf
    cases hf
  | succ n ih =>
    intro h l0 l1 l3 l4 kl0 hf
    rw [lp_Md_tried_96] at hf
    refine v_iload (pc := 96) (k := 4) X (by decide +kernel) 3 rfl ?_
    refine v_aload_n (pc := 98) (k := 0) X (by decide +kernel) 0 rfl ?_
    refine v_geti (pc := 99) X fl_12_243 kl0 rfl (by decide +kernel) ?_
    refine v_icmp_ge (pc := 102) (off := 26) (tgt := 128) X (by decide +kernel) (by decide) (fun q4 => ?_) (fun q4 => ?_)
    · rw [if_pos q4] at hf
      refine v_sub [0, 1, 2] rfl ?_
      exact vjb_Md_tried_128 ok hi X Y h l0 l1 l3 kl0 hf
    · rw [if_neg q4] at hf
      refine v_iload_n (pc := 105) (k := 1) X (by decide +kernel) 1 rfl ?_
      refine v_iconst (pc := 106) (n := 3) X (by decide +kernel) ic_3 ?_
      refine v_icmp_ne (pc := 107) (off := 21) (tgt := 128) X (by decide +kernel) (by decide) (fun q3 => ?_) (fun q3 => ?_)
      · rw [if_neg q3] at hf
        refine v_sub [0, 1, 2] rfl ?_
        exact vjb_Md_tried_128 ok hi X Y h l0 l1 l3 kl0 hf
      · rw [if_pos q3] at hf
        refine v_aload_n (pc := 110) (k := 0) X (by decide +kernel) 0 rfl ?_
        refine v_geta (pc := 111) X fl_12_112 kl0 fk_12_60 (by decide +kernel) ?_
        refine v_bipush (pc := 114) (n := 6) X (by decide +kernel) bi_6 ?_
        refine v_iload (pc := 116) (k := 4) X (by decide +kernel) 3 rfl ?_
        refine v_iadd (pc := 118) X (by decide +kernel) ?_
        refine v_bipush (pc := 119) (n := 99) X (by decide +kernel) bi_99 ?_
        obtain ⟨h1, eh1, hf⟩ := bnd_e hf
        refine v_iast (pc := 121) X (ly_12_60 ok kl0) eh1 (by decide +kernel) ?_
        obtain ⟨x2, ex2, hf⟩ := nmd_e hf
        refine v_iinc (pc := 122) (k := 4) (n := 1) (v := x2) (lv' := [(4, .int x2), (0, .ref (ρ l0)), (1, .int l1), (3, .int l3)]) X (by decide +kernel) 3 rfl (by rw [ic_1, ex2]) (Nat.le_of_ble_eq_true rfl) rfl ?_
        refine v_goto (pc := 125) (off := -29) (tgt := 96) X (by decide +kernel) (by decide) ?_
        refine v_sub [1, 2, 3, 0] rfl ?_
        exact ih h1 l0 l1 l3 x2 kl0 hf
set_option maxRecDepth 4000 in
set_option maxHeartbeats 1000000 in
theorem vjb_Md_tried_93 {E : En} {g : Gl} {tb : Tb} {ρ : Nat → Nat} (ok : TbOK tb) (hi : inj tb ρ) {r : Int32 × Hp} (X : CX E g tb ρ prog_14_method_112_code 5 RC12 7 169) (Y : CQ E g tb ρ (some .int) (some (.int r.1)) r.2) (h : Hp) (l0 : Nat) (l1 : Int32) (l3 : Int32) (kl0 : kd tb l0 = 12) (hf : jb_Md_tried_93 tb h l0 l1 l3 = some r) : V E g tb ρ 5 93 [(0, .ref (ρ l0)), (1, .int l1), (3, .int l3)] [] h := by
  unfold jb_Md_tried_93 at hf
  refine v_iconst (pc := 93) (n := 0) X (by decide +kernel) ic_0 ?_
  refine v_istore (pc := 94) (k := 4) (lv' := [(4, .int (0 : Int32)), (0, .ref (ρ l0)), (1, .int l1), (3, .int l3)]) X (by decide +kernel) (Nat.le_of_ble_eq_true rfl) rfl ?_
  refine v_sub [1, 2, 3, 0] rfl ?_
  exact vlp_Md_tried_96 ok hi X Y fu h l0 l1 l3 (0 : Int32) kl0 hf
set_option maxRecDepth 4000 in
set_option maxHeartbeats 1000000 in
theorem vjb_Md_tried_75 {E : En} {g : Gl} {tb : Tb} {ρ : Nat → Nat} (ok : TbOK tb) (hi : inj tb ρ) {r : Int32 × Hp} (X : CX E g tb ρ prog_14_method_112_code 5 RC12 7 169) (Y : CQ E g tb ρ (some .int) (some (.int r.1)) r.2) (h : Hp) (l0 : Nat) (l1 : Int32) (l2 : Int32) (l3 : Int32) (s0 : Nat) (s1 : Int32) (kl0 : kd tb l0 = 12) (ks0 : kd tb s0 = 12) (hf : jb_Md_tried_75 tb h l0 l1 l2 l3 s0 s1 = some r) : V E g tb ρ 5 75 [(0, .ref (ρ l0)), (1, .int l1), (2, .int l2), (3, .int l3)] [.int s1, .ref (ρ s0)] h := by
  unfold jb_Md_tried_75 at hf
  obtain ⟨h1, eh1, hf⟩ := bnd_e hf
  refine v_putz (pc := 75) X fp_12_392 ks0 rfl (pZ_b eh1) (by decide +kernel) (pZ_e eh1) ?_
  refine v_iload_n (pc := 78) (k := 1) X (by decide +kernel) 1 rfl ?_
  refine v_iconst (pc := 79) (n := 2) X (by decide +kernel) ic_2 ?_
  refine v_icmp_ne (pc := 80) (off := 13) (tgt := 93) X (by decide +kernel) (by decide) (fun q3 => ?_) (fun q3 => ?_)
  · rw [if_neg q3] at hf
    refine v_sub [0, 1, 3] rfl ?_
    exact vjb_Md_tried_93 ok hi X Y h1 l0 l1 l3 kl0 hf
  · rw [if_pos q3] at hf
    refine v_aload_n (pc := 83) (k := 0) X (by decide +kernel) 0 rfl ?_
    refine v_geta (pc := 84) X fl_12_106 kl0 fk_12_58 (by decide +kernel) ?_
    refine v_bipush (pc := 87) (n := 6) X (by decide +kernel) bi_6 ?_
    refine v_iload_n (pc := 89) (k := 2) X (by decide +kernel) 2 rfl ?_
    refine v_iadd (pc := 90) X (by decide +kernel) ?_
    refine v_iconst (pc := 91) (n := 0) X (by decide +kernel) ic_0 ?_
    obtain ⟨h2, eh2, hf⟩ := bnd_e hf
    refine v_zast (pc := 92) X (ly_12_58 ok kl0) eh2 (by decide +kernel) ?_
    refine v_sub [0, 1, 3] rfl ?_
    exact vjb_Md_tried_93 ok hi X Y h2 l0 l1 l3 kl0 hf
set_option maxRecDepth 4000 in
set_option maxHeartbeats 1000000 in
theorem vjb_Md_tried_61 {E : En} {g : Gl} {tb : Tb} {ρ : Nat → Nat} (ok : TbOK tb) (hi : inj tb ρ) {r : Int32 × Hp} (X : CX E g tb ρ prog_14_method_112_code 5 RC12 7 169) (Y : CQ E g tb ρ (some .int) (some (.int r.1)) r.2) (h : Hp) (l0 : Nat) (l1 : Int32) (l2 : Int32) (l3 : Int32) (s0 : Nat) (s1 : Int32) (kl0 : kd tb l0 = 12) (ks0 : kd tb s0 = 12) (hf : jb_Md_tried_61 tb h l0 l1 l2 l3 s0 s1 = some r) : V E g tb ρ 5 61 [(0, .ref (ρ l0)), (1, .int l1), (2, .int l2), (3, .int l3)] [.int s1, .ref (ρ s0)] h := by
  unfold jb_Md_tried_61 at hf
  obtain ⟨h1, eh1, hf⟩ := bnd_e hf
  refine v_putz (pc := 61) X fp_12_389 ks0 rfl (pZ_b eh1) (by decide +kernel) (pZ_e eh1) ?_
  refine v_aload_n (pc := 64) (k := 0) X (by decide +kernel) 0 rfl ?_
  refine v_iload_n (pc := 65) (k := 1) X (by decide +kernel) 1 rfl ?_
  refine v_iconst (pc := 66) (n := 1) X (by decide +kernel) ic_1 ?_
  refine v_icmp_ne (pc := 67) (off := 7) (tgt := 74) X (by decide +kernel) (by decide) (fun q2 => ?_) (fun q2 => ?_)
  · rw [if_neg q2] at hf
    refine v_iconst (pc := 74) (n := 0) X (by decide +kernel) ic_0 ?_
    exact vjb_Md_tried_75 ok hi X Y h1 l0 l1 l2 l3 l0 (0 : Int32) kl0 kl0 hf
  · rw [if_pos q2] at hf
    refine v_iconst (pc := 70) (n := 1) X (by decide +kernel) ic_1 ?_
    refine v_goto (pc := 71) (off := 4) (tgt := 75) X (by decide +kernel) (by decide) ?_
    exact vjb_Md_tried_75 ok hi X Y h1 l0 l1 l2 l3 l0 (1 : Int32) kl0 kl0 hf
set_option maxRecDepth 4000 in
set_option maxHeartbeats 1000000 in
theorem vjb_Md_tried_47 {E : En} {g : Gl} {tb : Tb} {ρ : Nat → Nat} (ok : TbOK tb) (hi : inj tb ρ) {r : Int32 × Hp} (X : CX E g tb ρ prog_14_method_112_code 5 RC12 7 169) (Y : CQ E g tb ρ (some .int) (some (.int r.1)) r.2) (h : Hp) (l0 : Nat) (l1 : Int32) (l2 : Int32) (l3 : Int32) (kl0 : kd tb l0 = 12) (hf : jb_Md_tried_47 tb h l0 l1 l2 l3 = some r) : V E g tb ρ 5 47 [(0, .ref (ρ l0)), (1, .int l1), (2, .int l2), (3, .int l3)] [] h := by
  unfold jb_Md_tried_47 at hf
  refine v_aload_n (pc := 47) (k := 0) X (by decide +kernel) 0 rfl ?_
  obtain ⟨r1, er1, hf⟩ := bnd_e hf
  refine v_callV (pc := 48) (As := []) (rest := []) X (mt_Md_layTried ok hi kl0 er1) ml_12_473 mv_Md_layTried kl0 cls_12 rfl ⟨Nat.le_of_ble_eq_true rfl, Nat.le_of_ble_eq_true rfl⟩ rfl rfl (Nat.le_of_ble_eq_true rfl) (by decide +kernel) ?_
  change V E g tb ρ 5 51 [(0, .ref (ρ l0)), (1, .int l1), (2, .int l2), (3, .int l3)] [] r1
  refine v_aload_n (pc := 51) (k := 0) X (by decide +kernel) 0 rfl ?_
  refine v_iload_n (pc := 52) (k := 1) X (by decide +kernel) 1 rfl ?_
  refine v_if_ne (pc := 53) (off := 7) (tgt := 60) X (by decide +kernel) (by decide) (fun q2 => ?_) (fun q2 => ?_)
  · rw [if_neg q2] at hf
    refine v_iconst (pc := 60) (n := 0) X (by decide +kernel) ic_0 ?_
    exact vjb_Md_tried_61 ok hi X Y r1 l0 l1 l2 l3 l0 (0 : Int32) kl0 kl0 hf
  · rw [if_pos q2] at hf
    refine v_iconst (pc := 56) (n := 1) X (by decide +kernel) ic_1 ?_
    refine v_goto (pc := 57) (off := 4) (tgt := 61) X (by decide +kernel) (by decide) ?_
    exact vjb_Md_tried_61 ok hi X Y r1 l0 l1 l2 l3 l0 (1 : Int32) kl0 kl0 hf
set_option maxRecDepth 4000 in
set_option maxHeartbeats 1000000 in
theorem mt_Md_tried {g : Gl} {tb : Tb} {ρ : Nat → Nat} (ok : TbOK tb) (hi : inj tb ρ) {h : Hp} {l0 : Nat} {l1 : Int32} {l2 : Int32} {l3 : Int32} (kl0 : kd tb l0 = 12) {r : Int32 × Hp} (hf : f_Md_tried tb h l0 l1 l2 l3 = some r) : MT g y_Md_tried prog_14_method_112_code 5 (some .int) 7 169 tb ρ [.ref (ρ l0), .int l1, .int l2, .int l3] h (some (.int r.1)) r.2 := by
  refine mt_intro (by decide +kernel) ok hi (Nat.le_of_ble_eq_true rfl) (fun E X Y => ?_)
  change V E g tb ρ 5 0 [(0, .ref (ρ l0)), (1, .int l1), (2, .int l2), (3, .int l3)] [] h
  unfold f_Md_tried at hf
  refine v_aload_n (pc := 0) (k := 0) X (by decide +kernel) 0 rfl ?_
  refine v_iconst (pc := 1) (n := 0) X (by decide +kernel) ic_0 ?_
  obtain ⟨h1, eh1, hf⟩ := nmd_e hf
  refine v_puti (pc := 2) X fp_12_160 kl0 rfl (by decide +kernel) eh1 ?_
  refine v_iload_n (pc := 5) (k := 1) X (by decide +kernel) 1 rfl ?_
  refine v_iconst (pc := 6) (n := 0) X (by decide +kernel) ic_0 ?_
  refine v_iconst (pc := 7) (n := 4) X (by decide +kernel) ic_4 ?_
  obtain ⟨r2, er2, hf⟩ := nmd_e hf
  refine v_callS (pc := 8) (As := [.int l1, .int (0 : Int32), .int (4 : Int32)]) (rest := []) X (mt_Md_isIn ok hi er2.symm) ml_12_205 ms_Md_isIn ⟨Nat.le_of_ble_eq_true rfl, Nat.le_of_ble_eq_true rfl⟩ rfl rfl (Nat.le_of_ble_eq_true rfl) (by decide +kernel) ?_
  change V E g tb ρ 5 11 [(0, .ref (ρ l0)), (1, .int l1), (2, .int l2), (3, .int l3)] [.int r2] h1
  refine v_if_eq (pc := 11) (off := 34) (tgt := 45) X (by decide +kernel) (by decide) (fun q9 => ?_) (fun q9 => ?_)
  · rw [if_pos q9] at hf
    refine v_iconst (pc := 45) (n := -1) X (by decide +kernel) ic_m1 ?_
    cases hf
    exact v_iret X Y (by decide +kernel) rfl rfl
  · rw [if_neg q9] at hf
    refine v_iload_n (pc := 14) (k := 3) X (by decide +kernel) 3 rfl ?_
    refine v_iconst (pc := 15) (n := 0) X (by decide +kernel) ic_0 ?_
    refine v_sipush (pc := 16) (n := 200) X (by decide +kernel) si_200 ?_
    obtain ⟨r3, er3, hf⟩ := nmd_e hf
    refine v_callS (pc := 19) (As := [.int l3, .int (0 : Int32), .int (200 : Int32)]) (rest := []) X (mt_Md_isIn ok hi er3.symm) ml_12_205 ms_Md_isIn ⟨Nat.le_of_ble_eq_true rfl, Nat.le_of_ble_eq_true rfl⟩ rfl rfl (Nat.le_of_ble_eq_true rfl) (by decide +kernel) ?_
    change V E g tb ρ 5 22 [(0, .ref (ρ l0)), (1, .int l1), (2, .int l2), (3, .int l3)] [.int r3] h1
    refine v_if_eq (pc := 22) (off := 23) (tgt := 45) X (by decide +kernel) (by decide) (fun q8 => ?_) (fun q8 => ?_)
    · rw [if_pos q8] at hf
      refine v_iconst (pc := 45) (n := -1) X (by decide +kernel) ic_m1 ?_
      cases hf
      exact v_iret X Y (by decide +kernel) rfl rfl
    · rw [if_neg q8] at hf
      refine v_iload_n (pc := 25) (k := 1) X (by decide +kernel) 1 rfl ?_
      refine v_iconst (pc := 26) (n := 2) X (by decide +kernel) ic_2 ?_
      refine v_icmp_ne (pc := 27) (off := 14) (tgt := 41) X (by decide +kernel) (by decide) (fun q7 => ?_) (fun q7 => ?_)
      · rw [if_neg q7] at hf
        refine v_iload_n (pc := 41) (k := 2) X (by decide +kernel) 2 rfl ?_
        refine v_if_eq (pc := 42) (off := 5) (tgt := 47) X (by decide +kernel) (by decide) (fun q4 => ?_) (fun q4 => ?_)
        · rw [if_pos q4] at hf
          exact vjb_Md_tried_47 ok hi X Y h1 l0 l1 l2 l3 kl0 hf
        · rw [if_neg q4] at hf
          refine v_iconst (pc := 45) (n := -1) X (by decide +kernel) ic_m1 ?_
          cases hf
          exact v_iret X Y (by decide +kernel) rfl rfl
      · rw [if_pos q7] at hf
        refine v_aload_n (pc := 30) (k := 0) X (by decide +kernel) 0 rfl ?_
        refine v_iload_n (pc := 31) (k := 2) X (by decide +kernel) 2 rfl ?_
        obtain ⟨r5, er5, hf⟩ := nmd_e hf
        refine v_callV (pc := 32) (As := [.int l2]) (rest := []) X (mt_Md_isHorse ok hi kl0 er5.symm) ml_12_459 mv_Md_isHorse kl0 cls_12 rfl ⟨Nat.le_of_ble_eq_true rfl, Nat.le_of_ble_eq_true rfl⟩ rfl rfl (Nat.le_of_ble_eq_true rfl) (by decide +kernel) ?_
        change V E g tb ρ 5 35 [(0, .ref (ρ l0)), (1, .int l1), (2, .int l2), (3, .int l3)] [.int r5] h1
        refine v_if_ne (pc := 35) (off := 12) (tgt := 47) X (by decide +kernel) (by decide) (fun q6 => ?_) (fun q6 => ?_)
        · rw [if_neg q6] at hf
          exact vjb_Md_tried_47 ok hi X Y h1 l0 l1 l2 l3 kl0 hf
        · rw [if_pos q6] at hf
          refine v_goto (pc := 38) (off := 7) (tgt := 45) X (by decide +kernel) (by decide) ?_
          refine v_iconst (pc := 45) (n := -1) X (by decide +kernel) ic_m1 ?_
          cases hf
          exact v_iret X Y (by decide +kernel) rfl rfl
