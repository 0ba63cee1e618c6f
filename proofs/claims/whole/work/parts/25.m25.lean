def jb_Md_reach_73 (tb : Tb) (c19 : Hp → Nat → Int32 → Int32 → Int32 → Option (Int32 × Hp)) (h : Hp) (l0 : Nat) (l1 : Int32) (l3 : Int32) (s0 : Int32) (s1 : Int32) : Option (Int32 × Hp) :=
  nmd (s0 ||| s1) fun x1 =>
  nmd (l3 + (1 : Int32)) fun x2 =>
  c19 h l0 l1 x1 x2
def jb_Md_reach_72 (tb : Tb) (c19 : Hp → Nat → Int32 → Int32 → Int32 → Option (Int32 × Hp)) (h : Hp) (l0 : Nat) (l1 : Int32) (l3 : Int32) (s0 : Int32) : Option (Int32 × Hp) :=
  jb_Md_reach_73 tb c19 h l0 l1 l3 s0 (0 : Int32)
def lp_Md_reach_19 (tb : Tb) : Nat → Hp → Nat → Int32 → Int32 → Int32 → Option (Int32 × Hp)
  | 0, _, _, _, _, _ => none
  | n + 1, h, l0, l1, l2, l3 =>
    if (h.1 l0 12) ≤ l3 then (
      some (l2, h)
    ) else (
      (rI tb h (lay tb l0 58) l1).bind fun x1 =>
      if x1 = (0 : Int32) then (
        jb_Md_reach_72 tb (lp_Md_reach_19 tb n) h l0 l1 l3 l2
      ) else (
        (rI tb h (lay tb l0 55) l1).bind fun x2 =>
        (rI tb h (lay tb l0 54) l1).bind fun x3 =>
        (rI tb h (lay tb l0 26) l3).bind fun x4 =>
        (f_Md_legOf tb h l0 l1 x3 x4).bind fun r5 =>
        if (100 : Int32) ≤ (x2 + r5) then (
          jb_Md_reach_72 tb (lp_Md_reach_19 tb n) h l0 l1 l3 l2
        ) else (
          jb_Md_reach_73 tb (lp_Md_reach_19 tb n) h l0 l1 l3 l2 ((1 : Int32) <<< (l3 &&& 31))
        )
      )
    )
def f_Md_reach (tb : Tb) (h : Hp) (l0 : Nat) (l1 : Int32) : Option (Int32 × Hp) :=
  nmd (pI h l0 2 (0 : Int32)) fun h1 =>
  nmd (f_Md_isHorse tb h1 l0 l1) fun r2 =>
  if r2 = (0 : Int32) then (
    some ((-1 : Int32), h1)
  ) else (
    lp_Md_reach_19 tb fu h1 l0 l1 (0 : Int32) (0 : Int32)
  )
set_option maxRecDepth 4000 in
set_option maxHeartbeats 1000000 in
theorem vjb_Md_reach_73 {E : En} {g : Gl} {tb : Tb} {ρ : Nat → Nat} (ok : TbOK tb) (hi : inj tb ρ) {r : Int32 × Hp} (X : CX E g tb ρ prog_14_method_85_code 4 RC12 2 43) (Y : CQ E g tb ρ (some .int) (some (.int r.1)) r.2) {c19 : Hp → Nat → Int32 → Int32 → Int32 → Option (Int32 × Hp)} (H19 : ∀ (h : Hp) (l0 : Nat) (l1 : Int32) (l2 : Int32) (l3 : Int32) (kl0 : kd tb l0 = 12), c19 h l0 l1 l2 l3 = some r → V E g tb ρ 4 19 [(0, .ref (ρ l0)), (1, .int l1), (2, .int l2), (3, .int l3)] [] h) (h : Hp) (l0 : Nat) (l1 : Int32) (l3 : Int32) (s0 : Int32) (s1 : Int32) (kl0 : kd tb l0 = 12) (hf : jb_Md_reach_73 tb c19 h l0 l1 l3 s0 s1 = some r) : V E g tb ρ 4 73 [(0, .ref (ρ l0)), (1, .int l1), (3, .int l3)] [.int s1, .int s0] h := by
  unfold jb_Md_reach_73 at hf
  refine v_ior (pc := 73) X (by decide +kernel) ?_
  obtain ⟨x1, ex1, hf⟩ := nmd_e hf
  refine v_nmi ex1 ?_
  refine v_istore_n (pc := 74) (k := 2) (lv' := [(2, .int x1), (0, .ref (ρ l0)), (1, .int l1), (3, .int l3)]) X (by decide +kernel) (Nat.le_of_ble_eq_true rfl) rfl ?_
  obtain ⟨x2, ex2, hf⟩ := nmd_e hf
  refine v_iinc (pc := 75) (k := 3) (n := 1) (v := x2) (lv' := [(3, .int x2), (2, .int x1), (0, .ref (ρ l0)), (1, .int l1)]) X (by decide +kernel) 3 rfl (by rw [ic_1, ex2]) (Nat.le_of_ble_eq_true rfl) rfl ?_
  refine v_goto (pc := 78) (off := -59) (tgt := 19) X (by decide +kernel) (by decide) ?_
  refine v_sub [2, 3, 1, 0] rfl ?_
  exact H19 h l0 l1 x1 x2 kl0 hf
set_option maxRecDepth 4000 in
set_option maxHeartbeats 1000000 in
theorem vjb_Md_reach_72 {E : En} {g : Gl} {tb : Tb} {ρ : Nat → Nat} (ok : TbOK tb) (hi : inj tb ρ) {r : Int32 × Hp} (X : CX E g tb ρ prog_14_method_85_code 4 RC12 2 43) (Y : CQ E g tb ρ (some .int) (some (.int r.1)) r.2) {c19 : Hp → Nat → Int32 → Int32 → Int32 → Option (Int32 × Hp)} (H19 : ∀ (h : Hp) (l0 : Nat) (l1 : Int32) (l2 : Int32) (l3 : Int32) (kl0 : kd tb l0 = 12), c19 h l0 l1 l2 l3 = some r → V E g tb ρ 4 19 [(0, .ref (ρ l0)), (1, .int l1), (2, .int l2), (3, .int l3)] [] h) (h : Hp) (l0 : Nat) (l1 : Int32) (l3 : Int32) (s0 : Int32) (kl0 : kd tb l0 = 12) (hf : jb_Md_reach_72 tb c19 h l0 l1 l3 s0 = some r) : V E g tb ρ 4 72 [(0, .ref (ρ l0)), (1, .int l1), (3, .int l3)] [.int s0] h := by
  unfold jb_Md_reach_72 at hf
  refine v_iconst (pc := 72) (n := 0) X (by decide +kernel) ic_0 ?_
  exact vjb_Md_reach_73 ok hi X Y H19 h l0 l1 l3 s0 (0 : Int32) kl0 hf
set_option maxRecDepth 4000 in
set_option maxHeartbeats 1000000 in
theorem vlp_Md_reach_19 {E : En} {g : Gl} {tb : Tb} {ρ : Nat → Nat} (ok : TbOK tb) (hi : inj tb ρ) {r : Int32 × Hp} (X : CX E g tb ρ prog_14_method_85_code 4 RC12 2 43) (Y : CQ E g tb ρ (some .int) (some (.int r.1)) r.2) : ∀ (n : Nat) (h : Hp) (l0 : Nat) (l1 : Int32) (l2 : Int32) (l3 : Int32) (kl0 : kd tb l0 = 12), lp_Md_reach_19 tb n h l0 l1 l2 l3 = some r → V E g tb ρ 4 19 [(0, .ref (ρ l0)), (1, .int l1), (2, .int l2), (3, .int l3)] [] h := by
  intro n
  induction n with
  | zero =>
    intro h l0 l1 l2 l3 kl0 hf
    rw [lp_Md_reach_19] at hf
    cases hf
  | succ n ih =>
    intro h l0 l1 l2 l3 kl0 hf
    rw [lp_Md_reach_19] at hf
    refine v_iload_n (pc := 19) (k := 3) X (by decide +kernel) 3 rfl ?_
    refine v_aload_n (pc := 20) (k := 0) X (by decide +kernel) 0 rfl ?_
    refine v_geti (pc := 21) X fl_12_243 kl0 rfl (by decide +kernel) ?_
    refine v_icmp_ge (pc := 24) (off := 57) (tgt := 81) X (by decide +kernel) (by decide) (fun q8 => ?_) (fun q8 => ?_)
    · rw [if_pos q8] at hf
      refine v_iload_n (pc := 81) (k := 2) X (by decide +kernel) 2 rfl ?_
      cases hf
      exact v_iret X Y (by decide +kernel) rfl rfl
    · rw [if_neg q8] at hf
      refine v_iload_n (pc := 27) (k := 2) X (by decide +kernel) 2 rfl ?_
      refine v_aload_n (pc := 28) (k := 0) X (by decide +kernel) 0 rfl ?_
      refine v_geta (pc := 29) X fl_12_106 kl0 fk_12_58 (by decide +kernel) ?_
      refine v_iload_n (pc := 32) (k := 1) X (by decide +kernel) 1 rfl ?_
      obtain ⟨x1, ex1, hf⟩ := bnd_e hf
      refine v_zald (pc := 33) X (ly_12_58 ok kl0) ex1 (by decide +kernel) ?_
      refine v_if_eq (pc := 34) (off := 38) (tgt := 72) X (by decide +kernel) (by decide) (fun q7 => ?_) (fun q7 => ?_)
      · rw [if_pos q7] at hf
        refine v_sub [0, 1, 3] rfl ?_
        exact vjb_Md_reach_72 ok hi X Y ih h l0 l1 l3 l2 kl0 hf
      · rw [if_neg q7] at hf
        refine v_aload_n (pc := 37) (k := 0) X (by decide +kernel) 0 rfl ?_
        refine v_geta (pc := 38) X fl_12_97 kl0 fk_12_55 (by decide +kernel) ?_
        refine v_iload_n (pc := 41) (k := 1) X (by decide +kernel) 1 rfl ?_
        obtain ⟨x2, ex2, hf⟩ := bnd_e hf
        refine v_iald (pc := 42) X (ly_12_55 ok kl0) ex2 (by decide +kernel) ?_
        refine v_aload_n (pc := 43) (k := 0) X (by decide +kernel) 0 rfl ?_
        refine v_iload_n (pc := 44) (k := 1) X (by decide +kernel) 1 rfl ?_
        refine v_aload_n (pc := 45) (k := 0) X (by decide +kernel) 0 rfl ?_
        refine v_geta (pc := 46) X fl_12_94 kl0 fk_12_54 (by decide +kernel) ?_
        refine v_iload_n (pc := 49) (k := 1) X (by decide +kernel) 1 rfl ?_
        obtain ⟨x3, ex3, hf⟩ := bnd_e hf
        refine v_iald (pc := 50) X (ly_12_54 ok kl0) ex3 (by decide +kernel) ?_
        refine v_aload_n (pc := 51) (k := 0) X (by decide +kernel) 0 rfl ?_
        refine v_geta (pc := 52) X fl_12_30 kl0 fk_12_26 (by decide +kernel) ?_
        refine v_iload_n (pc := 55) (k := 3) X (by decide +kernel) 3 rfl ?_
        obtain ⟨x4, ex4, hf⟩ := bnd_e hf
        refine v_iald (pc := 56) X (ly_12_26 ok kl0) ex4 (by decide +kernel) ?_
        obtain ⟨r5, er5, hf⟩ := bnd_e hf
        refine v_callV (pc := 57) (As := [.int l1, .int x3, .int x4]) (rest := [.int x2, .int l2]) X (mt_Md_legOf ok hi kl0 er5) ml_12_491 mv_Md_legOf kl0 cls_12 rfl ⟨Nat.le_of_ble_eq_true rfl, Nat.le_of_ble_eq_true rfl⟩ rfl rfl (Nat.le_of_ble_eq_true rfl) (by decide +kernel) ?_
        change V E g tb ρ 4 60 [(0, .ref (ρ l0)), (1, .int l1), (2, .int l2), (3, .int l3)] [.int r5, .int x2, .int l2] h
        refine v_iadd (pc := 60) X (by decide +kernel) ?_
        refine v_bipush (pc := 61) (n := 100) X (by decide +kernel) bi_100 ?_
        refine v_icmp_ge (pc := 63) (off := 9) (tgt := 72) X (by decide +kernel) (by decide) (fun q6 => ?_) (fun q6 => ?_)
        · rw [if_pos q6] at hf
          refine v_sub [0, 1, 3] rfl ?_
          exact vjb_Md_reach_72 ok hi X Y ih h l0 l1 l3 l2 kl0 hf
        · rw [if_neg q6] at hf
          refine v_iconst (pc := 66) (n := 1) X (by decide +kernel) ic_1 ?_
          refine v_iload_n (pc := 67) (k := 3) X (by decide +kernel) 3 rfl ?_
          refine v_ishl (pc := 68) X (by decide +kernel) ?_
          refine v_goto (pc := 69) (off := 4) (tgt := 73) X (by decide +kernel) (by decide) ?_
          refine v_sub [0, 1, 3] rfl ?_
          exact vjb_Md_reach_73 ok hi X Y ih h l0 l1 l3 l2 ((1 : Int32) <<< (l3 &&& 31)) kl0 hf
set_option maxRecDepth 4000 in
set_option maxHeartbeats 1000000 in
theorem mt_Md_reach {g : Gl} {tb : Tb} {ρ : Nat → Nat} (ok : TbOK tb) (hi : inj tb ρ) {h : Hp} {l0 : Nat} {l1 : Int32} (kl0 : kd tb l0 = 12) {r : Int32 × Hp} (hf : f_Md_reach tb h l0 l1 = some r) : MT g y_Md_reach prog_14_method_85_code 4 (some .int) 2 43 tb ρ [.ref (ρ l0), .int l1] h (some (.int r.1)) r.2 := by
  refine mt_intro (by decide +kernel) ok hi (Nat.le_of_ble_eq_true rfl) (fun E X Y => ?_)
  change V E g tb ρ 4 0 [(0, .ref (ρ l0)), (1, .int l1)] [] h
  unfold f_Md_reach at hf
  refine v_aload_n (pc := 0) (k := 0) X (by decide +kernel) 0 rfl ?_
  refine v_iconst (pc := 1) (n := 0) X (by decide +kernel) ic_0 ?_
  obtain ⟨h1, eh1, hf⟩ := nmd_e hf
  refine v_puti (pc := 2) X fp_12_160 kl0 rfl (by decide +kernel) eh1 ?_
  refine v_aload_n (pc := 5) (k := 0) X (by decide +kernel) 0 rfl ?_
  refine v_iload_n (pc := 6) (k := 1) X (by decide +kernel) 1 rfl ?_
  obtain ⟨r2, er2, hf⟩ := nmd_e hf
  refine v_callV (pc := 7) (As := [.int l1]) (rest := []) X (mt_Md_isHorse ok hi kl0 er2.symm) ml_12_459 mv_Md_isHorse kl0 cls_12 rfl ⟨Nat.le_of_ble_eq_true rfl, Nat.le_of_ble_eq_true rfl⟩ rfl rfl (Nat.le_of_ble_eq_true rfl) (by decide +kernel) ?_
  change V E g tb ρ 4 10 [(0, .ref (ρ l0)), (1, .int l1)] [.int r2] h1
  refine v_if_ne (pc := 10) (off := 5) (tgt := 15) X (by decide +kernel) (by decide) (fun q3 => ?_) (fun q3 => ?_)
  · rw [if_neg q3] at hf
    refine v_iconst (pc := 15) (n := 0) X (by decide +kernel) ic_0 ?_
    refine v_istore_n (pc := 16) (k := 2) (lv' := [(2, .int (0 : Int32)), (0, .ref (ρ l0)), (1, .int l1)]) X (by decide +kernel) (Nat.le_of_ble_eq_true rfl) rfl ?_
    refine v_iconst (pc := 17) (n := 0) X (by decide +kernel) ic_0 ?_
    refine v_istore_n (pc := 18) (k := 3) (lv' := [(3, .int (0 : Int32)), (2, .int (0 : Int32)), (0, .ref (ρ l0)), (1, .int l1)]) X (by decide +kernel) (Nat.le_of_ble_eq_true rfl) rfl ?_
    refine v_sub [2, 3, 1, 0] rfl ?_
    exact vlp_Md_reach_19 ok hi X Y fu h1 l0 l1 (0 : Int32) (0 : Int32) kl0 hf
  · rw [if_pos q3] at hf
    refine v_iconst (pc := 13) (n := -1) X (by decide +kernel) ic_m1 ?_
    cases hf
    exact v_iret X Y (by decide +kernel) rfl rfl
def jb_Md_isCovered_61 (tb : Tb) (c5 : Hp → Nat → Int32 → Int32 → Int32 → Int32 → Option (Int32)) (h : Hp) (l0 : Nat) (l1 : Int32) (l2 : Int32) (l3 : Int32) (l4 : Int32) : Option (Int32) :=
  nmd (l4 + (1 : Int32)) fun x1 =>
  c5 h l0 l1 l2 l3 x1
def jb_Md_isCovered_48 (tb : Tb) (c5 : Hp → Nat → Int32 → Int32 → Int32 → Int32 → Option (Int32)) (h : Hp) (l0 : Nat) (l1 : Int32) (l2 : Int32) (l3 : Int32) (l4 : Int32) : Option (Int32) :=
  if (l4 - l3) ≤ l2 then (
    jb_Md_isCovered_61 tb c5 h l0 l1 l2 l4 l4
  ) else (
    some (0 : Int32)
  )
def lp_Md_isCovered_5 (tb : Tb) : Nat → Hp → Nat → Int32 → Int32 → Int32 → Int32 → Option (Int32)
  | 0, _, _, _, _, _, _ => none
  | n + 1, h, l0, l1, l2, l3, l4 =>
    if (h.1 l0 15) < l4 then (
      some (1 : Int32)
    ) else (
      (f_Md_troughAt tb h l0 l4).bind fun r1 =>
      if (h.1 l0 15) ≤ l4 then (
        jb_Md_isCovered_48 tb (lp_Md_isCovered_5 tb n) h l0 l1 l2 l3 l4
      ) else (
        if r1 < (0 : Int32) then (
          jb_Md_isCovered_61 tb (lp_Md_isCovered_5 tb n) h l0 l1 l2 l3 l4
        ) else (
          nmd (f_Md_isOf tb h l1 r1) fun r2 =>
          if r2 = (0 : Int32) then (
            jb_Md_isCovered_61 tb (lp_Md_isCovered_5 tb n) h l0 l1 l2 l3 l4
          ) else (
            jb_Md_isCovered_48 tb (lp_Md_isCovered_5 tb n) h l0 l1 l2 l3 l4
          )
        )
      )
    )
def f_Md_isCovered (tb : Tb) (h : Hp) (l0 : Nat) (l1 : Int32) (l2 : Int32) : Option (Int32) :=
  lp_Md_isCovered_5 tb fu h l0 l1 l2 (0 : Int32) (1 : Int32)
set_option maxRecDepth 4000 in
set_option maxHeartbeats 1000000 in
theorem vjb_Md_isCovered_61 {E : En} {g : Gl} {tb : Tb} {ρ : Nat → Nat} (ok : TbOK tb) (hi : inj tb ρ) {r : Int32} (X : CX E g tb ρ prog_14_method_86_code 6 RC12 2 45) {h : Hp} (Y : CQ E g tb ρ (some .boolean) (some (.int r)) h) {c5 : Hp → Nat → Int32 → Int32 → Int32 → Int32 → Option (Int32)} (H5 : ∀ (l0 : Nat) (l1 : Int32) (l2 : Int32) (l3 : Int32) (l4 : Int32) (kl0 : kd tb l0 = 12), c5 h l0 l1 l2 l3 l4 = some r → V E g tb ρ 6 5 [(0, .ref (ρ l0)), (1, .int l1), (2, .int l2), (3, .int l3), (4, .int l4)] [] h) (l0 : Nat) (l1 : Int32) (l2 : Int32) (l3 : Int32) (l4 : Int32) (kl0 : kd tb l0 = 12) (hf : jb_Md_isCovered_61 tb c5 h l0 l1 l2 l3 l4 = some r) : V E g tb ρ 6 61 [(0, .ref (ρ l0)), (1, .int l1), (2, .int l2), (3, .int l3), (4, .int l4)] [] h := by
  unfold jb_Md_isCovered_61 at hf
  obtain ⟨x1, ex1, hf⟩ := nmd_e hf
  refine v_iinc (pc := 61) (k := 4) (n := 1) (v := x1) (lv' := [(4, .int x1), (0, .ref (ρ l0)), (1, .int l1), (2, .int l2), (3, .int l3)]) X (by decide +kernel) 4 rfl (by rw [ic_1, ex1]) (Nat.le_of_ble_eq_true rfl) rfl ?_
  refine v_goto (pc := 64) (off := -59) (tgt := 5) X (by decide +kernel) (by decide) ?_
  refine v_sub [1, 2, 3, 4, 0] rfl ?_
  exact H5 l0 l1 l2 l3 x1 kl0 hf
set_option maxRecDepth 4000 in
set_option maxHeartbeats 1000000 in
theorem vjb_Md_isCovered_48 {E : En} {g : Gl} {tb : Tb} {ρ : Nat → Nat} (ok : TbOK tb) (hi : inj tb ρ) {r : Int32} (X : CX E g tb ρ prog_14_method_86_code 6 RC12 2 45) {h : Hp} (Y : CQ E g tb ρ (some .boolean) (some (.int r)) h) {c5 : Hp → Nat → Int32 → Int32 → Int32 → Int32 → Option (Int32)} (H5 : ∀ (l0 : Nat) (l1 : Int32) (l2 : Int32) (l3 : Int32) (l4 : Int32) (kl0 : kd tb l0 = 12), c5 h l0 l1 l2 l3 l4 = some r → V E g tb ρ 6 5 [(0, .ref (ρ l0)), (1, .int l1), (2, .int l2), (3, .int l3), (4, .int l4)] [] h) (l0 : Nat) (l1 : Int32) (l2 : Int32) (l3 : Int32) (l4 : Int32) (kl0 : kd tb l0 = 12) (hf : jb_Md_isCovered_48 tb c5 h l0 l1 l2 l3 l4 = some r) : V E g tb ρ 6 48 [(0, .ref (ρ l0)), (1, .int l1), (2, .int l2), (3, .int l3), (4, .int l4)] [] h := by
  unfold jb_Md_isCovered_48 at hf
  refine v_iload (pc := 48) (k := 4) X (by decide +kernel) 4 rfl ?_
  refine v_iload_n (pc := 50) (k := 3) X (by decide +kernel) 3 rfl ?_
  refine v_isub (pc := 51) X (by decide +kernel) ?_
  refine v_iload_n (pc := 52) (k := 2) X (by decide +kernel) 2 rfl ?_
  refine v_icmp_le (pc := 53) (off := 5) (tgt := 58) X (by decide +kernel) (by decide) (fun q1 => ?_) (fun q1 => ?_)
  · rw [if_pos q1] at hf
    refine v_iload (pc := 58) (k := 4) X (by decide +kernel) 4 rfl ?_
    refine v_istore_n (pc := 60) (k := 3) (lv' := [(3, .int l4), (0, .ref (ρ l0)), (1, .int l1), (2, .int l2), (4, .int l4)]) X (by decide +kernel) (Nat.le_of_ble_eq_true rfl) rfl ?_
    refine v_sub [1, 2, 3, 0, 4] rfl ?_
    exact vjb_Md_isCovered_61 ok hi X Y H5 l0 l1 l2 l4 l4 kl0 hf
  · rw [if_neg q1] at hf
    refine v_iconst (pc := 56) (n := 0) X (by decide +kernel) ic_0 ?_
    cases hf
    exact v_zret (hz := rfl) X Y (by decide +kernel) rfl rfl
set_option maxRecDepth 4000 in
set_option maxHeartbeats 1000000 in
theorem vlp_Md_isCovered_5 {E : En} {g : Gl} {tb : Tb} {ρ : Nat → Nat} (ok : TbOK tb) (hi : inj tb ρ) {r : Int32} (X : CX E g tb ρ prog_14_method_86_code 6 RC12 2 45) {h : Hp} (Y : CQ E g tb ρ (some .boolean) (some (.int r)) h) : ∀ (n : Nat) (l0 : Nat) (l1 : Int32) (l2 : Int32) (l3 : Int32) (l4 : Int32) (kl0 : kd tb l0 = 12), lp_Md_isCovered_5 tb n h l0 l1 l2 l3 l4 = some r → V E g tb ρ 6 5 [(0, .ref (ρ l0)), (1, .int l1), (2, .int l2), (3, .int l3), (4, .int l4)] [] h := by
  intro n
  induction n with
  | zero =>
    intro l0 l1 l2 l3 l4 kl0 hf
    rw [lp_Md_isCovered_5] at hf
    cases hf
  | succ n ih =>
    intro l0 l1 l2 l3 l4 kl0 hf
    rw [lp_Md_isCovered_5] at hf
    refine v_iload (pc := 5) (k := 4) X (by decide +kernel) 4 rfl ?_
    refine v_aload_n (pc := 7) (k := 0) X (by decide +kernel) 0 rfl ?_
    refine v_geti (pc := 8) X fl_12_252 kl0 rfl (by decide +kernel) ?_
    refine v_icmp_gt (pc := 11) (off := 56) (tgt := 67) X (by decide +kernel) (by decide) (fun q6 => ?_) (fun q6 => ?_)
    · rw [if_pos q6] at hf
      refine v_iconst (pc := 67) (n := 1) X (by decide +kernel) ic_1 ?_
      cases hf
      exact v_zret (hz := rfl) X Y (by decide +kernel) rfl rfl
    · rw [if_neg q6] at hf
      refine v_aload_n (pc := 14) (k := 0) X (by decide +kernel) 0 rfl ?_
      refine v_iload (pc := 15) (k := 4) X (by decide +kernel) 4 rfl ?_
      obtain ⟨r1, er1, hf⟩ := bnd_e hf
      refine v_callV (pc := 17) (As := [.int l4]) (rest := []) X (mt_Md_troughAt ok hi kl0 er1) ml_12_401 mv_Md_troughAt kl0 cls_12 rfl ⟨Nat.le_of_ble_eq_true rfl, Nat.le_of_ble_eq_true rfl⟩ rfl rfl (Nat.le_of_ble_eq_true rfl) (by decide +kernel) ?_
      change V E g tb ρ 6 20 [(0, .ref (ρ l0)), (1, .int l1), (2, .int l2), (3, .int l3), (4, .int l4)] [.int r1] h
      refine v_istore (pc := 20) (k := 5) (lv' := [(5, .int r1), (0, .ref (ρ l0)), (1, .int l1), (2, .int l2), (3, .int l3), (4, .int l4)]) X (by decide +kernel) (Nat.le_of_ble_eq_true rfl) rfl ?_
      refine v_iload (pc := 22) (k := 4) X (by decide +kernel) 5 rfl ?_
      refine v_aload_n (pc := 24) (k := 0) X (by decide +kernel) 1 rfl ?_
      refine v_geti (pc := 25) X fl_12_252 kl0 rfl (by decide +kernel) ?_
      refine v_icmp_ge (pc := 28) (off := 20) (tgt := 48) X (by decide +kernel) (by decide) (fun q5 => ?_) (fun q5 => ?_)
      · rw [if_pos q5] at hf
        refine v_sub [1, 2, 3, 4, 5] rfl ?_
        exact vjb_Md_isCovered_48 ok hi X Y ih l0 l1 l2 l3 l4 kl0 hf
      · rw [if_neg q5] at hf
        refine v_iload (pc := 31) (k := 5) X (by decide +kernel) 0 rfl ?_
        refine v_if_lt (pc := 33) (off := 28) (tgt := 61) X (by decide +kernel) (by decide) (fun q4 => ?_) (fun q4 => ?_)
        · rw [if_pos q4] at hf
          refine v_sub [1, 2, 3, 4, 5] rfl ?_
          exact vjb_Md_isCovered_61 ok hi X Y ih l0 l1 l2 l3 l4 kl0 hf
        · rw [if_neg q4] at hf
          refine v_iload_n (pc := 36) (k := 1) X (by decide +kernel) 2 rfl ?_
          refine v_iload (pc := 37) (k := 5) X (by decide +kernel) 0 rfl ?_
          obtain ⟨r2, er2, hf⟩ := nmd_e hf
          refine v_callS (pc := 39) (As := [.int l1, .int r1]) (rest := []) X (mt_Md_isOf ok hi er2.symm) ml_12_488 ms_Md_isOf ⟨Nat.le_of_ble_eq_true rfl, Nat.le_of_ble_eq_true rfl⟩ rfl rfl (Nat.le_of_ble_eq_true rfl) (by decide +kernel) ?_
          change V E g tb ρ 6 42 [(5, .int r1), (0, .ref (ρ l0)), (1, .int l1), (2, .int l2), (3, .int l3), (4, .int l4)] [.int r2] h
          refine v_if_ne (pc := 42) (off := 6) (tgt := 48) X (by decide +kernel) (by decide) (fun q3 => ?_) (fun q3 => ?_)
          · rw [if_neg q3] at hf
            refine v_sub [1, 2, 3, 4, 5] rfl ?_
            exact vjb_Md_isCovered_48 ok hi X Y ih l0 l1 l2 l3 l4 kl0 hf
          · rw [if_pos q3] at hf
            refine v_goto (pc := 45) (off := 16) (tgt := 61) X (by decide +kernel) (by decide) ?_
            refine v_sub [1, 2, 3, 4, 5] rfl ?_
            exact vjb_Md_isCovered_61 ok hi X Y ih l0 l1 l2 l3 l4 kl0 hf
set_option maxRecDepth 4000 in
set_option maxHeartbeats 1000000 in
theorem mt_Md_isCovered {g : Gl} {tb : Tb} {ρ : Nat → Nat} (ok : TbOK tb) (hi : inj tb ρ) {h : Hp} {l0 : Nat} {l1 : Int32} {l2 : Int32} (kl0 : kd tb l0 = 12) {r : Int32} (hf : f_Md_isCovered tb h l0 l1 l2 = some r) : MT g y_Md_isCovered prog_14_method_86_code 6 (some .boolean) 2 45 tb ρ [.ref (ρ l0), .int l1, .int l2] h (some (.int r)) h := by
  refine mt_intro (by decide +kernel) ok hi (Nat.le_of_ble_eq_true rfl) (fun E X Y => ?_)
  change V E g tb ρ 6 0 [(0, .ref (ρ l0)), (1, .int l1), (2, .int l2)] [] h
  unfold f_Md_isCovered at hf
  refine v_iconst (pc := 0) (n := 0) X (by decide +kernel) ic_0 ?_
  refine v_istore_n (pc := 1) (k := 3) (lv' := [(3, .int (0 : Int32)), (0, .ref (ρ l0)), (1, .int l1), (2, .int l2)]) X (by decide +kernel) (Nat.le_of_ble_eq_true rfl) rfl ?_
  refine v_iconst (pc := 2) (n := 1) X (by decide +kernel) ic_1 ?_
  refine v_istore (pc := 3) (k := 4) (lv' := [(4, .int (1 : Int32)), (3, .int (0 : Int32)), (0, .ref (ρ l0)), (1, .int l1), (2, .int l2)]) X (by decide +kernel) (Nat.le_of_ble_eq_true rfl) rfl ?_
  refine v_sub [2, 3, 4, 1, 0] rfl ?_
  exact vlp_Md_isCovered_5 ok hi X Y fu l0 l1 l2 (0 : Int32) (1 : Int32) kl0 hf
def jb_Md_cover_58 (tb : Tb) (c22 : Hp → Nat → Int32 → Int32 → Int32 → Option (Int32 × Hp)) (h : Hp) (l0 : Nat) (l1 : Int32) (l2 : Int32) (l3 : Int32) : Option (Int32 × Hp) :=
  nmd (l3 + (1 : Int32)) fun x1 =>
  c22 h l0 l1 l2 x1
def jb_Md_cover_47 (tb : Tb) (c22 : Hp → Nat → Int32 → Int32 → Int32 → Option (Int32 × Hp)) (h : Hp) (l0 : Nat) (l1 : Int32) (l2 : Int32) (l3 : Int32) : Option (Int32 × Hp) :=
  (f_Md_isCovered tb h l0 l3 l1).bind fun r1 =>
  if r1 = (0 : Int32) then (
    jb_Md_cover_58 tb c22 h l0 l1 l2 l3
  ) else (
    jb_Md_cover_58 tb c22 h l0 l1 l3 l3
  )
def lp_Md_cover_22 (tb : Tb) : Nat → Hp → Nat → Int32 → Int32 → Int32 → Option (Int32 × Hp)
  | 0, _, _, _, _, _ => none
  | n + 1, h, l0, l1, l2, l3 =>
    if ((1 : Int32) <<< ((h.1 l0 12) &&& 31)) ≤ l3 then (
      some (l2, h)
    ) else (
      if l2 < (0 : Int32) then (
        jb_Md_cover_47 tb (lp_Md_cover_22 tb n) h l0 l1 l2 l3
      ) else (
        (f_Md_manyOf tb h l3).bind fun r1 =>
        (f_Md_manyOf tb h l2).bind fun r2 =>
        if r2 ≤ r1 then (
          jb_Md_cover_58 tb (lp_Md_cover_22 tb n) h l0 l1 l2 l3
        ) else (
          jb_Md_cover_47 tb (lp_Md_cover_22 tb n) h l0 l1 l2 l3
        )
      )
    )
def f_Md_cover (tb : Tb) (h : Hp) (l0 : Nat) (l1 : Int32) : Option (Int32 × Hp) :=
  nmd (pI h l0 2 (0 : Int32)) fun h1 =>
  nmd (f_Md_isIn tb h1 l1 (1 : Int32) (60 : Int32)) fun r2 =>
  if r2 = (0 : Int32) then (
    some ((-1 : Int32), h1)
  ) else (
    lp_Md_cover_22 tb fu h1 l0 l1 (-2 : Int32) (0 : Int32)
  )
set_option maxRecDepth 4000 in
set_option maxHeartbeats 1000000 in
theorem vjb_Md_cover_58 {E : En} {g : Gl} {tb : Tb} {ρ : Nat → Nat} (ok : TbOK tb) (hi : inj tb ρ) {r : Int32 × Hp} (X : CX E g tb ρ prog_14_method_87_code 4 RC12 3 70) (Y : CQ E g tb ρ (some .int) (some (.int r.1)) r.2) {c22 : Hp → Nat → Int32 → Int32 → Int32 → Option (Int32 × Hp)} (H22 : ∀ (h : Hp) (l0 : Nat) (l1 : Int32) (l2 : Int32) (l3 : Int32) (kl0 : kd tb l0 = 12), c22 h l0 l1 l2 l3 = some r → V E g tb ρ 4 22 [(0, .ref (ρ l0)), (1, .int l1), (2, .int l2), (3, .int l3)] [] h) (h : Hp) (l0 : Nat) (l1 : Int32) (l2 : Int32) (l3 : Int32) (kl0 : kd tb l0 = 12) (hf : jb_Md_cover_58 tb c22 h l0 l1 l2 l3 = some r) : V E g tb ρ 4 58 [(0, .ref (ρ l0)), (1, .int l1), (2, .int l2), (3, .int l3)] [] h := by
  unfold jb_Md_cover_58 at hf
  obtain ⟨x1, ex1, hf⟩ := nmd_e hf
  refine v_iinc (pc := 58) (k := 3) (n := 1) (v := x1) (lv' := [(3, .int x1), (0, .ref (ρ l0)), (1, .int l1), (2, .int l2)]) X (by decide +kernel) 3 rfl (by rw [ic_1, ex1]) (Nat.le_of_ble_eq_true rfl) rfl ?_
  refine v_goto (pc := 61) (off := -39) (tgt := 22) X (by decide +kernel) (by decide) ?_
  refine v_sub [1, 2, 3, 0] rfl ?_
  exact H22 h l0 l1 l2 x1 kl0 hf
set_option maxRecDepth 4000 in
set_option maxHeartbeats 1000000 in
theorem vjb_Md_cover_47 {E : En} {g : Gl} {tb : Tb} {ρ : Nat → Nat} (ok : TbOK tb) (hi : inj tb ρ) {r : Int32 × Hp} (X : CX E g tb ρ prog_14_method_87_code 4 RC12 3 70) (Y : CQ E g tb ρ (some .int) (some (.int r.1)) r.2) {c22 : Hp → Nat → Int32 → Int32 → Int32 → Option (Int32 × Hp)} (H22 : ∀ (h : Hp) (l0 : Nat) (l1 : Int32) (l2 : Int32) (l3 : Int32) (kl0 : kd tb l0 = 12), c22 h l0 l1 l2 l3 = some r → V E g tb ρ 4 22 [(0, .ref (ρ l0)), (1, .int l1), (2, .int l2), (3, .int l3)] [] h) (h : Hp) (l0 : Nat) (l1 : Int32) (l2 : Int32) (l3 : Int32) (kl0 : kd tb l0 = 12) (hf : jb_Md_cover_47 tb c22 h l0 l1 l2 l3 = some r) : V E g tb ρ 4 47 [(0, .ref (ρ l0)), (1, .int l1), (2, .int l2), (3, .int l3)] [] h := by
  unfold jb_Md_cover_47 at hf
  refine v_aload_n (pc := 47) (k := 0) X (by decide +kernel) 0 rfl ?_
  refine v_iload_n (pc := 48) (k := 3) X (by decide +kernel) 3 rfl ?_
  refine v_iload_n (pc := 49) (k := 1) X (by decide +kernel) 1 rfl ?_
  obtain ⟨r1, er1, hf⟩ := bnd_e hf
  refine v_callV (pc := 50) (As := [.int l3, .int l1]) (rest := []) X (mt_Md_isCovered ok hi kl0 er1) ml_12_495 mv_Md_isCovered kl0 cls_12 rfl ⟨Nat.le_of_ble_eq_true rfl, Nat.le_of_ble_eq_true rfl⟩ rfl rfl (Nat.le_of_ble_eq_true rfl) (by decide +kernel) ?_
  change V E g tb ρ 4 53 [(0, .ref (ρ l0)), (1, .int l1), (2, .int l2), (3, .int l3)] [.int r1] h
  refine v_if_eq (pc := 53) (off := 5) (tgt := 58) X (by decide +kernel) (by decide) (fun q2 => ?_) (fun q2 => ?_)
  · rw [if_pos q2] at hf
    exact vjb_Md_cover_58 ok hi X Y H22 h l0 l1 l2 l3 kl0 hf
  · rw [if_neg q2] at hf
    refine v_iload_n (pc := 56) (k := 3) X (by decide +kernel) 3 rfl ?_
    refine v_istore_n (pc := 57) (k := 2) (lv' := [(2, .int l3), (0, .ref (ρ l0)), (1, .int l1), (3, .int l3)]) X (by decide +kernel) (Nat.le_of_ble_eq_true rfl) rfl ?_
    refine v_sub [1, 2, 0, 3] rfl ?_
    exact vjb_Md_cover_58 ok hi X Y H22 h l0 l1 l3 l3 kl0 hf
set_option maxRecDepth 4000 in
set_option maxHeartbeats 1000000 in
theorem vlp_Md_cover_22 {E : En} {g : Gl} {tb : Tb} {ρ : Nat → Nat} (ok : TbOK tb) (hi : inj tb ρ) {r : Int32 × Hp} (X : CX E g tb ρ prog_14_method_87_code 4 RC12 3 70) (Y : CQ E g tb ρ (some .int) (some (.int r.1)) r.2) : ∀ (n : Nat) (h : Hp) (l0 : Nat) (l1 : Int32) (l2 : Int32) (l3 : Int32) (kl0 : kd tb l0 = 12), lp_Md_cover_22 tb n h l0 l1 l2 l3 = some r → V E g tb ρ 4 22 [(0, .ref (ρ l0)), (1, .int l1), (2, .int l2), (3, .int l3)] [] h := by
  intro n
  induction n with
  | zero =>
    intro h l0 l1 l2 l3 kl0 hf
    rw [lp_Md_cover_22] at hf
    cases hf
  | succ n ih =>
    intro h l0 l1 l2 l3 kl0 hf
    rw [lp_Md_cover_22] at hf
    refine v_iload_n (pc := 22) (k := 3) X (by decide +kernel) 3 rfl ?_
    refine v_iconst (pc := 23) (n := 1) X (by decide +kernel) ic_1 ?_
    refine v_aload_n (pc := 24) (k := 0) X (by decide +kernel) 0 rfl ?_
    refine v_geti (pc := 25) X fl_12_243 kl0 rfl (by decide +kernel) ?_
    refine v_ishl (pc := 28) X (by decide +kernel) ?_
    refine v_icmp_ge (pc := 29) (off := 35) (tgt := 64) X (by decide +kernel) (by decide) (fun q5 => ?_) (fun q5 => ?_)
    · rw [if_pos q5] at hf
      refine v_iload_n (pc := 64) (k := 2) X (by decide +kernel) 2 rfl ?_
      cases hf
      exact v_iret X Y (by decide +kernel) rfl rfl
    · rw [if_neg q5] at hf
      refine v_iload_n (pc := 32) (k := 2) X (by decide +kernel) 2 rfl ?_
      refine v_if_lt (pc := 33) (off := 14) (tgt := 47) X (by decide +kernel) (by decide) (fun q4 => ?_) (fun q4 => ?_)
      · rw [if_pos q4] at hf
        exact vjb_Md_cover_47 ok hi X Y ih h l0 l1 l2 l3 kl0 hf
      · rw [if_neg q4] at hf
        refine v_iload_n (pc := 36) (k := 3) X (by decide +kernel) 3 rfl ?_
        obtain ⟨r1, er1, hf⟩ := bnd_e hf
        refine v_callS (pc := 37) (As := [.int l3]) (rest := []) X (mt_Md_manyOf ok hi er1) ml_12_485 ms_Md_manyOf ⟨Nat.le_of_ble_eq_true rfl, Nat.le_of_ble_eq_true rfl⟩ rfl rfl (Nat.le_of_ble_eq_true rfl) (by decide +kernel) ?_
        change V E g tb ρ 4 40 [(0, .ref (ρ l0)), (1, .int l1), (2, .int l2), (3, .int l3)] [.int r1] h
        refine v_iload_n (pc := 40) (k := 2) X (by decide +kernel) 2 rfl ?_
        obtain ⟨r2, er2, hf⟩ := bnd_e hf
        refine v_callS (pc := 41) (As := [.int l2]) (rest := [.int r1]) X (mt_Md_manyOf ok hi er2) ml_12_485 ms_Md_manyOf ⟨Nat.le_of_ble_eq_true rfl, Nat.le_of_ble_eq_true rfl⟩ rfl rfl (Nat.le_of_ble_eq_true rfl) (by decide +kernel) ?_
        change V E g tb ρ 4 44 [(0, .ref (ρ l0)), (1, .int l1), (2, .int l2), (3, .int l3)] [.int r2, .int r1] h
        refine v_icmp_ge (pc := 44) (off := 14) (tgt := 58) X (by decide +kernel) (by decide) (fun q3 => ?_) (fun q3 => ?_)
        · rw [if_pos q3] at hf
          exact vjb_Md_cover_58 ok hi X Y ih h l0 l1 l2 l3 kl0 hf
        · rw [if_neg q3] at hf
          exact vjb_Md_cover_47 ok hi X Y ih h l0 l1 l2 l3 kl0 hf
set_option maxRecDepth 4000 in
set_option maxHeartbeats 1000000 in
theorem mt_Md_cover {g : Gl} {tb : Tb} {ρ : Nat → Nat} (ok : TbOK tb) (hi : inj tb ρ) {h : Hp} {l0 : Nat} {l1 : Int32} (kl0 : kd tb l0 = 12) {r : Int32 × Hp} (hf : f_Md_cover tb h l0 l1 = some r) : MT g y_Md_cover prog_14_method_87_code 4 (some .int) 3 70 tb ρ [.ref (ρ l0), .int l1] h (some (.int r.1)) r.2 := by
  refine mt_intro (by decide +kernel) ok hi (Nat.le_of_ble_eq_true rfl) (fun E X Y => ?_)
  change V E g tb ρ 4 0 [(0, .ref (ρ l0)), (1, .int l1)] [] h
  unfold f_Md_cover at hf
  refine v_aload_n (pc := 0) (k := 0) X (by decide +kernel) 0 rfl ?_
  refine v_iconst (pc := 1) (n := 0) X (by decide +kernel) ic_0 ?_
  obtain ⟨h1, eh1, hf⟩ := nmd_e hf
  refine v_puti (pc := 2) X fp_12_160 kl0 rfl (by decide +kernel) eh1 ?_
  refine v_iload_n (pc := 5) (k := 1) X (by decide +kernel) 1 rfl ?_
  refine v_iconst (pc := 6) (n := 1) X (by decide +kernel) ic_1 ?_
  refine v_bipush (pc := 7) (n := 60) X (by decide +kernel) bi_60 ?_
  obtain ⟨r2, er2, hf⟩ := nmd_e hf
  refine v_callS (pc := 9) (As := [.int l1, .int (1 : Int32), .int (60 : Int32)]) (rest := []) X (mt_Md_isIn ok hi er2.symm) ml_12_205 ms_Md_isIn ⟨Nat.le_of_ble_eq_true rfl, Nat.le_of_ble_eq_true rfl⟩ rfl rfl (Nat.le_of_ble_eq_true rfl) (by decide +kernel) ?_
  change V E g tb ρ 4 12 [(0, .ref (ρ l0)), (1, .int l1)] [.int r2] h1
  refine v_if_ne (pc := 12) (off := 5) (tgt := 17) X (by decide +kernel) (by decide) (fun q3 => ?_) (fun q3 => ?_)
  · rw [if_neg q3] at hf
    refine v_bipush (pc := 17) (n := -2) X (by decide +kernel) bi_m2 ?_
    refine v_istore_n (pc := 19) (k := 2) (lv' := [(2, .int (-2 : Int32)), (0, .ref (ρ l0)), (1, .int l1)]) X (by decide +kernel) (Nat.le_of_ble_eq_true rfl) rfl ?_
    refine v_iconst (pc := 20) (n := 0) X (by decide +kernel) ic_0 ?_
    refine v_istore_n (pc := 21) (k := 3) (lv' := [(3, .int (0 : Int32)), (2, .int (-2 : Int32)), (0, .ref (ρ l0)), (1, .int l1)]) X (by decide +kernel) (Nat.le_of_ble_eq_true rfl) rfl ?_
    refine v_sub [2, 3, 1, 0] rfl ?_
    exact vlp_Md_cover_22 ok hi X Y fu h1 l0 l1 (-2 : Int32) (0 : Int32) kl0 hf
  · rw [if_pos q3] at hf
    refine v_iconst (pc := 15) (n := -1) X (by decide +kernel) ic_m1 ?_
    cases hf
    exact v_iret X Y (by decide +kernel) rfl rfl
def jb_Md_round_145 (tb : Tb) (h : Hp) (s0 : Int32) (s1 : Int32) : Option (Int32 × Hp) :=
  some (s0 + s1, h)
def jb_Md_round_95 (tb : Tb) (c41 : Hp → Nat → Int32 → Int32 → Int32 → Int32 → Option (Int32 × Hp)) (h : Hp) (l0 : Nat) (l1 : Int32) (l2 : Int32) (l4 : Int32) (s0 : Int32) : Option (Int32 × Hp) :=
  nmd (l4 + (1 : Int32)) fun x1 =>
  c41 h l0 l1 l2 s0 x1
def jb_Md_round_72 (tb : Tb) (c41 : Hp → Nat → Int32 → Int32 → Int32 → Int32 → Option (Int32 × Hp)) (h : Hp) (l0 : Nat) (l1 : Int32) (l3 : Int32) (l4 : Int32) (s0 : Int32) : Option (Int32 × Hp) :=
  (rI tb h (lay tb l0 26) l4).bind fun x1 =>
  if x1 ≤ l3 then (
    jb_Md_round_95 tb c41 h l0 l1 s0 l4 l3
  ) else (
    (rI tb h (lay tb l0 26) l4).bind fun x2 =>
    jb_Md_round_95 tb c41 h l0 l1 s0 l4 x2
  )
def lp_Md_round_41 (tb : Tb) : Nat → Hp → Nat → Int32 → Int32 → Int32 → Int32 → Option (Int32 × Hp)
  | 0, _, _, _, _, _, _ => none
  | n + 1, h, l0, l1, l2, l3, l4 =>
    if (h.1 l0 12) ≤ l4 then (
      (rI tb h (lay tb l0 54) l1).bind fun x1 =>
      nmd (f_Md_sizeOf tb h (x1 - l2)) fun r2 =>
      (rI tb h (lay tb l0 54) l1).bind fun x3 =>
      nmd (f_Md_sizeOf tb h (x3 - l3)) fun r4 =>
      if r4 ≤ r2 then (
        jb_Md_round_145 tb h (l3 - l2) r4
      ) else (
        jb_Md_round_145 tb h (l3 - l2) r2
      )
    ) else (
      (rI tb h (lay tb l0 26) l4).bind fun x6 =>
      if l2 ≤ x6 then (
        jb_Md_round_72 tb (lp_Md_round_41 tb n) h l0 l1 l3 l4 l2
      ) else (
        (rI tb h (lay tb l0 26) l4).bind fun x7 =>
        jb_Md_round_72 tb (lp_Md_round_41 tb n) h l0 l1 l3 l4 x7
      )
    )
def f_Md_round (tb : Tb) (h : Hp) (l0 : Nat) (l1 : Int32) : Option (Int32 × Hp) :=
  nmd (pI h l0 2 (0 : Int32)) fun h1 =>
  nmd (f_Md_isHorse tb h1 l0 l1) fun r2 =>
  if r2 = (0 : Int32) then (
    some ((-1 : Int32), h1)
  ) else (
    if (h1.1 l0 12) = (0 : Int32) then (
      some ((0 : Int32), h1)
    ) else (
      (rI tb h1 (lay tb l0 26) (0 : Int32)).bind fun x3 =>
      (rI tb h1 (lay tb l0 26) (0 : Int32)).bind fun x4 =>
      lp_Md_round_41 tb fu h1 l0 l1 x3 x4 (1 : Int32)
    )
  )
set_option maxRecDepth 4000 in
set_option maxHeartbeats 1000000 in
theorem vjb_Md_round_145 {E : En} {g : Gl} {tb : Tb} {ρ : Nat → Nat} (ok : TbOK tb) (hi : inj tb ρ) {r : Int32 × Hp} (X : CX E g tb ρ prog_14_method_88_code 6 RC12 1 21) (Y : CQ E g tb ρ (some .int) (some (.int r.1)) r.2) (h : Hp) (s0 : Int32) (s1 : Int32) (hf : jb_Md_round_145 tb h s0 s1 = some r) : V E g tb ρ 6 145 [] [.int s1, .int s0] h := by
  unfold jb_Md_round_145 at hf
  refine v_iadd (pc := 145) X (by decide +kernel) ?_
  cases hf
  exact v_iret X Y (by decide +kernel) rfl rfl
set_option maxRecDepth 4000 in
set_option maxHeartbeats 1000000 in
theorem vjb_Md_round_95 {E : En} {g : Gl} {tb : Tb} {ρ : Nat → Nat} (ok : TbOK tb) (hi : inj tb ρ) {r : Int32 × Hp} (X : CX E g tb ρ prog_14_method_88_code 6 RC12 1 21) (Y : CQ E g tb ρ (some .int) (some (.int r.1)) r.2) {c41 : Hp → Nat → Int32 → Int32 → Int32 → Int32 → Option (Int32 × Hp)} (H41 : ∀ (h : Hp) (l0 : Nat) (l1 : Int32) (l2 : Int32) (l3 : Int32) (l4 : Int32) (kl0 : kd tb l0 = 12), c41 h l0 l1 l2 l3 l4 = some r → V E g tb ρ 6 41 [(0, .ref (ρ l0)), (1, .int l1), (2, .int l2), (3, .int l3), (4, .int l4)] [] h) (h : Hp) (l0 : Nat) (l1 : Int32) (l2 : Int32) (l4 : Int32) (s0 : Int32) (kl0 : kd tb l0 = 12) (hf : jb_Md_round_95 tb c41 h l0 l1 l2 l4 s0 = some r) : V E g tb ρ 6 95 [(0, .ref (ρ l0)), (1, .int l1), (2, .int l2), (4, .int l4)] [.int s0] h := by
  unfold jb_Md_round_95 at hf
  refine v_istore_n (pc := 95) (k := 3) (lv' := [(3, .int s0), (0, .ref (ρ l0)), (1, .int l1), (2, .int l2), (4, .int l4)]) X (by decide +kernel) (Nat.le_of_ble_eq_true rfl) rfl ?_
  obtain ⟨x1, ex1, hf⟩ := nmd_e hf
  refine v_iinc (pc := 96) (k := 4) (n := 1) (v := x1) (lv' := [(4, .int x1), (3, .int s0), (0, .ref (ρ l0)), (1, .int l1), (2, .int l2)]) X (by decide +kernel) 4 rfl (by rw [ic_1, ex1]) (Nat.le_of_ble_eq_true rfl) rfl ?_
  refine v_goto (pc := 99) (off := -58) (tgt := 41) X (by decide +kernel) (by decide) ?_
  refine v_sub [2, 3, 4, 1, 0] rfl ?_
  exact H41 h l0 l1 l2 s0 x1 kl0 hf
set_option maxRecDepth 4000 in
set_option maxHeartbeats 1000000 in
theorem vjb_Md_round_72 {E : En} {g : Gl} {tb : Tb} {ρ : Nat → Nat} (ok : TbOK tb) (hi : inj tb ρ) {r : Int32 × Hp} (X : CX E g tb ρ prog_14_method_88_code 6 RC12 1 21) (Y : CQ E g tb ρ (some .int) (some (.int r.1)) r.2) {c41 : Hp → Nat → Int32 → Int32 → Int32 → Int32 → Option (Int32 × Hp)} (H41 : ∀ (h : Hp) (l0 : Nat) (l1 : Int32) (l2 : Int32) (l3 : Int32) (l4 : Int32) (kl0 : kd tb l0 = 12), c41 h l0 l1 l2 l3 l4 = some r → V E g tb ρ 6 41 [(0, .ref (ρ l0)), (1, .int l1), (2, .int l2), (3, .int l3), (4, .int l4)] [] h) (h : Hp) (l0 : Nat) (l1 : Int32) (l3 : Int32) (l4 : Int32) (s0 : Int32) (kl0 : kd tb l0 = 12) (hf : jb_Md_round_72 tb c41 h l0 l1 l3 l4 s0 = some r) : V E g tb ρ 6 72 [(0, .ref (ρ l0)), (1, .int l1), (3, .int l3), (4, .int l4)] [.int s0] h := by
  unfold jb_Md_round_72 at hf
  refine v_istore_n (pc := 72) (k := 2) (lv' := [(2, .int s0), (0, .ref (ρ l0)), (1, .int l1), (3, .int l3), (4, .int l4)]) X (by decide +kernel) (Nat.le_of_ble_eq_true rfl) rfl ?_
  refine v_aload_n (pc := 73) (k := 0) X (by decide +kernel) 1 rfl ?_
  refine v_geta (pc := 74) X fl_12_30 kl0 fk_12_26 (by decide +kernel) ?_
  refine v_iload (pc := 77) (k := 4) X (by decide +kernel) 4 rfl ?_
  obtain ⟨x1, ex1, hf⟩ := bnd_e hf
  refine v_iald (pc := 79) X (ly_12_26 ok kl0) ex1 (by decide +kernel) ?_
  refine v_iload_n (pc := 80) (k := 3) X (by decide +kernel) 3 rfl ?_
  refine v_icmp_le (pc := 81) (off := 13) (tgt := 94) X (by decide +kernel) (by decide) (fun q3 => ?_) (fun q3 => ?_)
  · rw [if_pos q3] at hf
    refine v_iload_n (pc := 94) (k := 3) X (by decide +kernel) 3 rfl ?_
    refine v_sub [1, 2, 0, 4] rfl ?_
    exact vjb_Md_round_95 ok hi X Y H41 h l0 l1 s0 l4 l3 kl0 hf
  · rw [if_neg q3] at hf
    refine v_aload_n (pc := 84) (k := 0) X (by decide +kernel) 1 rfl ?_
    refine v_geta (pc := 85) X fl_12_30 kl0 fk_12_26 (by decide +kernel) ?_
    refine v_iload (pc := 88) (k := 4) X (by decide +kernel) 4 rfl ?_
    obtain ⟨x2, ex2, hf⟩ := bnd_e hf
    refine v_iald (pc := 90) X (ly_12_26 ok kl0) ex2 (by decide +kernel) ?_
    refine v_goto (pc := 91) (off := 4) (tgt := 95) X (by decide +kernel) (by decide) ?_
    refine v_sub [1, 2, 0, 4] rfl ?_
    exact vjb_Md_round_95 ok hi X Y H41 h l0 l1 s0 l4 x2 kl0 hf
set_option maxRecDepth 4000 in
set_option maxHeartbeats 1000000 in
theorem vlp_Md_round_41 {E : En} {g : Gl} {tb : Tb} {ρ : Nat → Nat} (ok : TbOK tb) (hi : inj tb ρ) {r : Int32 × Hp} (X : CX E g tb ρ prog_14_method_88_code 6 RC12 1 21) (Y : CQ E g tb ρ (some .int) (some (.int r.1)) r.2) : ∀ (n : Nat) (h : Hp) (l0 : Nat) (l1 : Int32) (l2 : Int32) (l3 : Int32) (l4 : Int32) (kl0 : kd tb l0 = 12), lp_Md_round_41 tb n h l0 l1 l2 l3 l4 = some r → V E g tb ρ 6 41 [(0, .ref (ρ l0)), (1, .int l1), (2, .int l2), (3, .int l3), (4, .int l4)] [] h := by
  intro n
  induction n with
  | zero =>
    intro h l0 l1 l2 l3 l4 kl0 hf
    rw [lp_Md_round_41] at hf
    cases hf
  | succ n ih =>
    intro h l0 l1 l2 l3 l4 kl0 hf
    rw [lp_Md_round_41] at hf
    refine v_iload (pc := 41) (k := 4) X (by decide +kernel) 4 rfl ?_
    refine v_aload_n (pc := 43) (k := 0) X (by decide +kernel) 0 rfl ?_
    refine v_geti (pc := 44) X fl_12_243 kl0 rfl (by decide +kernel) ?_
    refine v_icmp_ge (pc := 47) (off := 55) (tgt := 102) X (by decide +kernel) (by decide) (fun q9 => ?_) (fun q9 => ?_)
    · rw [if_pos q9] at hf
      refine v_aload_n (pc := 102) (k := 0) X (by decide +kernel) 0 rfl ?_
      refine v_geta (pc := 103) X fl_12_94 kl0 fk_12_54 (by decide +kernel) ?_
      refine v_iload_n (pc := 106) (k := 1) X (by decide +kernel) 1 rfl ?_
      obtain ⟨x1, ex1, hf⟩ := bnd_e hf
      refine v_iald (pc := 107) X (ly_12_54 ok kl0) ex1 (by decide +kernel) ?_
      refine v_iload_n (pc := 108) (k := 2) X (by decide +kernel) 2 rfl ?_
      refine v_isub (pc := 109) X (by decide +kernel) ?_
      obtain ⟨r2, er2, hf⟩ := nmd_e hf
      refine v_callS (pc := 110) (As := [.int (x1 - l2)]) (rest := []) X (mt_Md_sizeOf ok hi er2.symm) ml_12_398 ms_Md_sizeOf ⟨Nat.le_of_ble_eq_true rfl, Nat.le_of_ble_eq_true rfl⟩ rfl rfl (Nat.le_of_ble_eq_true rfl) (by decide +kernel) ?_
      change V E g tb ρ 6 113 [(0, .ref (ρ l0)), (1, .int l1), (2, .int l2), (3, .int l3), (4, .int l4)] [.int r2] h
      refine v_istore (pc := 113) (k := 4) (lv' := [(4, .int r2), (0, .ref (ρ l0)), (1, .int l1), (2, .int l2), (3, .int l3)]) X (by decide +kernel) (Nat.le_of_ble_eq_true rfl) rfl ?_
      refine v_aload_n (pc := 115) (k := 0) X (by decide +kernel) 1 rfl ?_
      refine v_geta (pc := 116) X fl_12_94 kl0 fk_12_54 (by decide +kernel) ?_
      refine v_iload_n (pc := 119) (k := 1) X (by decide +kernel) 2 rfl ?_
      obtain ⟨x3, ex3, hf⟩ := bnd_e hf
      refine v_iald (pc := 120) X (ly_12_54 ok kl0) ex3 (by decide +kernel) ?_
      refine v_iload_n (pc := 121) (k := 3) X (by decide +kernel) 4 rfl ?_
      refine v_isub (pc := 122) X (by decide +kernel) ?_
      obtain ⟨r4, er4, hf⟩ := nmd_e hf
      refine v_callS (pc := 123) (As := [.int (x3 - l3)]) (rest := []) X (mt_Md_sizeOf ok hi er4.symm) ml_12_398 ms_Md_sizeOf ⟨Nat.le_of_ble_eq_true rfl, Nat.le_of_ble_eq_true rfl⟩ rfl rfl (Nat.le_of_ble_eq_true rfl) (by decide +kernel) ?_
      change V E g tb ρ 6 126 [(4, .int r2), (0, .ref (ρ l0)), (1, .int l1), (2, .int l2), (3, .int l3)] [.int r4] h
      refine v_istore (pc := 126) (k := 5) (lv' := [(5, .int r4), (4, .int r2), (0, .ref (ρ l0)), (1, .int l1), (2, .int l2), (3, .int l3)]) X (by decide +kernel) (Nat.le_of_ble_eq_true rfl) rfl ?_
      refine v_iload_n (pc := 128) (k := 3) X (by decide +kernel) 5 rfl ?_
      refine v_iload_n (pc := 129) (k := 2) X (by decide +kernel) 4 rfl ?_
      refine v_isub (pc := 130) X (by decide +kernel) ?_
      refine v_iload (pc := 131) (k := 4) X (by decide +kernel) 1 rfl ?_
      refine v_iload (pc := 133) (k := 5) X (by decide +kernel) 0 rfl ?_
      refine v_icmp_ge (pc := 135) (off := 8) (tgt := 143) X (by decide +kernel) (by decide) (fun q5 => ?_) (fun q5 => ?_)
      · rw [if_pos q5] at hf
        refine v_iload (pc := 143) (k := 5) X (by decide +kernel) 0 rfl ?_
        refine v_sub [] rfl ?_
        exact vjb_Md_round_145 ok hi X Y h (l3 - l2) r4 hf
      · rw [if_neg q5] at hf
        refine v_iload (pc := 138) (k := 4) X (by decide +kernel) 1 rfl ?_
        refine v_goto (pc := 140) (off := 5) (tgt := 145) X (by decide +kernel) (by decide) ?_
        refine v_sub [] rfl ?_
        exact vjb_Md_round_145 ok hi X Y h (l3 - l2) r2 hf
    · rw [if_neg q9] at hf
      refine v_aload_n (pc := 50) (k := 0) X (by decide +kernel) 0 rfl ?_
      refine v_geta (pc := 51) X fl_12_30 kl0 fk_12_26 (by decide +kernel) ?_
      refine v_iload (pc := 54) (k := 4) X (by decide +kernel) 4 rfl ?_
      obtain ⟨x6, ex6, hf⟩ := bnd_e hf
      refine v_iald (pc := 56) X (ly_12_26 ok kl0) ex6 (by decide +kernel) ?_
      refine v_iload_n (pc := 57) (k := 2) X (by decide +kernel) 2 rfl ?_
      refine v_icmp_ge (pc := 58) (off := 13) (tgt := 71) X (by decide +kernel) (by decide) (fun q8 => ?_) (fun q8 => ?_)
      · rw [if_pos q8] at hf
        refine v_iload_n (pc := 71) (k := 2) X (by decide +kernel) 2 rfl ?_
        refine v_sub [0, 1, 3, 4] rfl ?_
        exact vjb_Md_round_72 ok hi X Y ih h l0 l1 l3 l4 l2 kl0 hf
      · rw [if_neg q8] at hf
        refine v_aload_n (pc := 61) (k := 0) X (by decide +kernel) 0 rfl ?_
        refine v_geta (pc := 62) X fl_12_30 kl0 fk_12_26 (by decide +kernel) ?_
        refine v_iload (pc := 65) (k := 4) X (by decide +kernel) 4 rfl ?_
        obtain ⟨x7, ex7, hf⟩ := bnd_e hf
        refine v_iald (pc := 67) X (ly_12_26 ok kl0) ex7 (by decide +kernel) ?_
        refine v_goto (pc := 68) (off := 4) (tgt := 72) X (by decide +kernel) (by decide) ?_
        refine v_sub [0, 1, 3, 4] rfl ?_
        exact vjb_Md_round_72 ok hi X Y ih h l0 l1 l3 l4 x7 kl0 hf
set_option maxRecDepth 4000 in
set_option maxHeartbeats 1000000 in
theorem mt_Md_round {g : Gl} {tb : Tb} {ρ : Nat → Nat} (ok : TbOK tb) (hi : inj tb ρ) {h : Hp} {l0 : Nat} {l1 : Int32} (kl0 : kd tb l0 = 12) {r : Int32 × Hp} (hf : f_Md_round tb h l0 l1 = some r) : MT g y_Md_round prog_14_method_88_code 6 (some .int) 1 21 tb ρ [.ref (ρ l0), .int l1] h (some (.int r.1)) r.2 := by
  refine mt_intro (by decide +kernel) ok hi (Nat.le_of_ble_eq_true rfl) (fun E X Y => ?_)
  change V E g tb ρ 6 0 [(0, .ref (ρ l0)), (1, .int l1)] [] h
  unfold f_Md_round at hf
  refine v_aload_n (pc := 0) (k := 0) X (by decide +kernel) 0 rfl ?_
  refine v_iconst (pc := 1) (n := 0) X (by decide +kernel) ic_0 ?_
  obtain ⟨h1, eh1, hf⟩ := nmd_e hf
  refine v_puti (pc := 2) X fp_12_160 kl0 rfl (by decide +kernel) eh1 ?_
  refine v_aload_n (pc := 5) (k := 0) X (by decide +kernel) 0 rfl ?_
  refine v_iload_n (pc := 6) (k := 1) X (by decide +kernel) 1 rfl ?_
  obtain ⟨r2, er2, hf⟩ := nmd_e hf
  refine v_callV (pc := 7) (As := [.int l1]) (rest := []) X (mt_Md_isHorse ok hi kl0 er2.symm) ml_12_459 mv_Md_isHorse kl0 cls_12 rfl ⟨Nat.le_of_ble_eq_true rfl, Nat.le_of_ble_eq_true rfl⟩ rfl rfl (Nat.le_of_ble_eq_true rfl) (by decide +kernel) ?_
  change V E g tb ρ 6 10 [(0, .ref (ρ l0)), (1, .int l1)] [.int r2] h1
  refine v_if_ne (pc := 10) (off := 5) (tgt := 15) X (by decide +kernel) (by decide) (fun q6 => ?_) (fun q6 => ?_)
  · rw [if_neg q6] at hf
    refine v_aload_n (pc := 15) (k := 0) X (by decide +kernel) 0 rfl ?_
    refine v_geti (pc := 16) X fl_12_243 kl0 rfl (by decide +kernel) ?_
    refine v_if_ne (pc := 19) (off := 5) (tgt := 24) X (by decide +kernel) (by decide) (fun q5 => ?_) (fun q5 => ?_)
    · rw [if_neg q5] at hf
      refine v_aload_n (pc := 24) (k := 0) X (by decide +kernel) 0 rfl ?_
      refine v_geta (pc := 25) X fl_12_30 kl0 fk_12_26 (by decide +kernel) ?_
      refine v_iconst (pc := 28) (n := 0) X (by decide +kernel) ic_0 ?_
      obtain ⟨x3, ex3, hf⟩ := bnd_e hf
      refine v_iald (pc := 29) X (ly_12_26 ok kl0) ex3 (by decide +kernel) ?_
      refine v_istore_n (pc := 30) (k := 2) (lv' := [(2, .int x3), (0, .ref (ρ l0)), (1, .int l1)]) X (by decide +kernel) (Nat.le_of_ble_eq_true rfl) rfl ?_
      refine v_aload_n (pc := 31) (k := 0) X (by decide +kernel) 1 rfl ?_
      refine v_geta (pc := 32) X fl_12_30 kl0 fk_12_26 (by decide +kernel) ?_
      refine v_iconst (pc := 35) (n := 0) X (by decide +kernel) ic_0 ?_
      obtain ⟨x4, ex4, hf⟩ := bnd_e hf
      refine v_iald (pc := 36) X (ly_12_26 ok kl0) ex4 (by decide +kernel) ?_
      refine v_istore_n (pc := 37) (k := 3) (lv' := [(3, .int x4), (2, .int x3), (0, .ref (ρ l0)), (1, .int l1)]) X (by decide +kernel) (Nat.le_of_ble_eq_true rfl) rfl ?_
      refine v_iconst (pc := 38) (n := 1) X (by decide +kernel) ic_1 ?_
      refine v_istore (pc := 39) (k := 4) (lv' := [(4, .int (1 : Int32)), (3, .int x4), (2, .int x3), (0, .ref (ρ l0)), (1, .int l1)]) X (by decide +kernel) (Nat.le_of_ble_eq_true rfl) rfl ?_
      refine v_sub [3, 4, 2, 1, 0] rfl ?_
      exact vlp_Md_round_41 ok hi X Y fu h1 l0 l1 x3 x4 (1 : Int32) kl0 hf
    · rw [if_pos q5] at hf
      refine v_iconst (pc := 22) (n := 0) X (by decide +kernel) ic_0 ?_
      cases hf
      exact v_iret X Y (by decide +kernel) rfl rfl
  · rw [if_pos q6] at hf
    refine v_iconst (pc := 13) (n := -1) X (by decide +kernel) ic_m1 ?_
    cases hf
    exact v_iret X Y (by decide +kernel) rfl rfl
def jb_Md_gather_131 (tb : Tb) (c25 : Hp → Nat → Int32 → Int32 → Int32 → Int32 → Option (Int32 × Hp)) (h : Hp) (l0 : Nat) (l1 : Int32) (l2 : Int32) (l3 : Int32) (l4 : Int32) : Option (Int32 × Hp) :=
  nmd (l4 + (1 : Int32)) fun x1 =>
  c25 h l0 l1 l2 l3 x1
def jb_Md_gather_125 (tb : Tb) (c25 : Hp → Nat → Int32 → Int32 → Int32 → Int32 → Option (Int32 × Hp)) (h : Hp) (l0 : Nat) (l1 : Int32) (l4 : Int32) (l5 : Int32) : Option (Int32 × Hp) :=
  jb_Md_gather_131 tb c25 h l0 l1 l4 l5 l4
def jb_Md_gather_99 (tb : Tb) (c25 : Hp → Nat → Int32 → Int32 → Int32 → Int32 → Option (Int32 × Hp)) (c40 : Hp → Nat → Int32 → Int32 → Int32 → Int32 → Int32 → Int32 → Option (Int32 × Hp)) (h : Hp) (l0 : Nat) (l1 : Int32) (l2 : Int32) (l3 : Int32) (l4 : Int32) (l6 : Int32) (s0 : Int32) : Option (Int32 × Hp) :=
  nmd (l6 + (1 : Int32)) fun x1 =>
  c40 h l0 l1 l2 l3 l4 s0 x1
def jb_Md_gather_83 (tb : Tb) (c25 : Hp → Nat → Int32 → Int32 → Int32 → Int32 → Option (Int32 × Hp)) (c40 : Hp → Nat → Int32 → Int32 → Int32 → Int32 → Int32 → Int32 → Option (Int32 × Hp)) (h : Hp) (l0 : Nat) (l1 : Int32) (l2 : Int32) (l3 : Int32) (l4 : Int32) (l5 : Int32) (l6 : Int32) (s0 : Int32) : Option (Int32 × Hp) :=
  if s0 ≤ l5 then (
    jb_Md_gather_99 tb c25 c40 h l0 l1 l2 l3 l4 l6 l5
  ) else (
    jb_Md_gather_99 tb c25 c40 h l0 l1 l2 l3 l4 l6 s0
  )
def lp_Md_gather_40 (tb : Tb) (c25 : Hp → Nat → Int32 → Int32 → Int32 → Int32 → Option (Int32 × Hp)) : Nat → Hp → Nat → Int32 → Int32 → Int32 → Int32 → Int32 → Int32 → Option (Int32 × Hp)
  | 0, _, _, _, _, _, _, _, _ => none
  | n + 1, h, l0, l1, l2, l3, l4, l5, l6 =>
    if (h.1 l0 13) ≤ l6 then (
      if l5 < (0 : Int32) then (
        jb_Md_gather_131 tb c25 h l0 l1 l2 l3 l4
      ) else (
        if l2 < (0 : Int32) then (
          jb_Md_gather_125 tb c25 h l0 l1 l4 l5
        ) else (
          if l5 < l3 then (
            jb_Md_gather_125 tb c25 h l0 l1 l4 l5
          ) else (
            jb_Md_gather_131 tb c25 h l0 l1 l2 l3 l4
          )
        )
      )
    ) else (
      (rI tb h (lay tb l0 58) l6).bind fun x4 =>
      if x4 = (0 : Int32) then (
        jb_Md_gather_83 tb c25 (lp_Md_gather_40 tb c25 n) h l0 l1 l2 l3 l4 l5 l6 (-1 : Int32)
      ) else (
        (rI tb h (lay tb l0 54) l6).bind fun x5 =>
        (rI tb h (lay tb l0 26) l4).bind fun x6 =>
        (f_Md_legOf tb h l0 l6 x5 x6).bind fun r7 =>
        jb_Md_gather_83 tb c25 (lp_Md_gather_40 tb c25 n) h l0 l1 l2 l3 l4 l5 l6 r7
      )
    )
def lp_Md_gather_25 (tb : Tb) : Nat → Hp → Nat → Int32 → Int32 → Int32 → Int32 → Option (Int32 × Hp)
  | 0, _, _, _, _, _, _ => none
  | n + 1, h, l0, l1, l2, l3, l4 =>
    if (h.1 l0 12) ≤ l4 then (
      if l1 = (0 : Int32) then (
        some (l2, h)
      ) else (
        some (l3, h)
      )
    ) else (
      lp_Md_gather_40 tb (lp_Md_gather_25 tb n) fu h l0 l1 l2 l3 l4 (-1 : Int32) (0 : Int32)
    )
def f_Md_gather (tb : Tb) (h : Hp) (l0 : Nat) (l1 : Int32) : Option (Int32 × Hp) :=
  nmd (pI h l0 2 (0 : Int32)) fun h1 =>
  nmd (f_Md_isIn tb h1 l1 (0 : Int32) (1 : Int32)) fun r2 =>
  if r2 = (0 : Int32) then (
    some ((-1 : Int32), h1)
  ) else (
    lp_Md_gather_25 tb fu h1 l0 l1 (-2 : Int32) (-2 : Int32) (0 : Int32)
  )
set_option maxRecDepth 4000 in
set_option maxHeartbeats 1000000 in
theorem vjb_Md_gather_131 {E : En} {g : Gl} {tb : Tb} {ρ : Nat → Nat} (ok : TbOK tb) (hi : inj tb ρ) {r : Int32 × Hp} (X : CX E g tb ρ prog_14_method_89_code 8 RC12 2 43) (Y : CQ E g tb ρ (some .int) (some (.int r.1)) r.2) {c25 : Hp → Nat → Int32 → Int32 → Int32 → Int32 → Option (Int32 × Hp)} (H25 : ∀ (h : Hp) (l0 : Nat) (l1 : Int32) (l2 : Int32) (l3 : Int32) (l4 : Int32) (kl0 : kd tb l0 = 12), c25 h l0 l1 l2 l3 l4 = some r → V E g tb ρ 8 25 [(0, .ref (ρ l0)), (1, .int l1), (2, .int l2), (3, .int l3), (4, .int l4)] [] h) (h : Hp) (l0 : Nat) (l1 : Int32) (l2 : Int32) (l3 : Int32) (l4 : Int32) (kl0 : kd tb l0 = 12) (hf : jb_Md_gather_131 tb c25 h l0 l1 l2 l3 l4 = some r) : V E g tb ρ 8 131 [(0, .ref (ρ l0)), (1, .int l1), (2, .int l2), (3, .int l3), (4, .int l4)] [] h := by
  unfold jb_Md_gather_131 at hf
  obtain ⟨x1, ex1, hf⟩ := nmd_e hf
  refine v_iinc (pc := 131) (k := 4) (n := 1) (v := x1) (lv' := [(4, .int x1), (0, .ref (ρ l0)), (1, .int l1), (2, .int l2), (3, .int l3)]) X (by decide +kernel) 4 rfl (by rw [ic_1, ex1]) (Nat.le_of_ble_eq_true rfl) rfl ?_
  refine v_goto (pc := 134) (off := -109) (tgt := 25) X (by decide +kernel) (by decide) ?_
  refine v_sub [1, 2, 3, 4, 0] rfl ?_
  exact H25 h l0 l1 l2 l3 x1 kl0 hf
set_option maxRecDepth 4000 in
set_option maxHeartbeats 1000000 in
theorem vjb_Md_gather_125 {E : En} {g : Gl} {tb : Tb} {ρ : Nat → Nat} (ok : TbOK tb) (hi : inj tb ρ) {r : Int32 × Hp} (X : CX E g tb ρ prog_14_method_89_code 8 RC12 2 43) (Y : CQ E g tb ρ (some .int) (some (.int r.1)) r.2) {c25 : Hp → Nat → Int32 → Int32 → Int32 → Int32 → Option (Int32 × Hp)} (H25 : ∀ (h : Hp) (l0 : Nat) (l1 : Int32) (l2 : Int32) (l3 : Int32) (l4 : Int32) (kl0 : kd tb l0 = 12), c25 h l0 l1 l2 l3 l4 = some r → V E g tb ρ 8 25 [(0, .ref (ρ l0)), (1, .int l1), (2, .int l2), (3, .int l3), (4, .int l4)] [] h) (h : Hp) (l0 : Nat) (l1 : Int32) (l4 : Int32) (l5 : Int32) (kl0 : kd tb l0 = 12) (hf : jb_Md_gather_125 tb c25 h l0 l1 l4 l5 = some r) : V E g tb ρ 8 125 [(0, .ref (ρ l0)), (1, .int l1), (4, .int l4), (5, .int l5)] [] h := by
  unfold jb_Md_gather_125 at hf
  refine v_iload (pc := 125) (k := 4) X (by decide +kernel) 2 rfl ?_
  refine v_istore_n (pc := 127) (k := 2) (lv' := [(2, .int l4), (0, .ref (ρ l0)), (1, .int l1), (4, .int l4), (5, .int l5)]) X (by decide +kernel) (Nat.le_of_ble_eq_true rfl) rfl ?_
  refine v_iload (pc := 128) (k := 5) X (by decide +kernel) 4 rfl ?_
  refine v_istore_n (pc := 130) (k := 3) (lv' := [(3, .int l5), (2, .int l4), (0, .ref (ρ l0)), (1, .int l1), (4, .int l4), (5, .int l5)]) X (by decide +kernel) (Nat.le_of_ble_eq_true rfl) rfl ?_
  refine v_sub [2, 3, 1, 0, 4] rfl ?_
  exact vjb_Md_gather_131 ok hi X Y H25 h l0 l1 l4 l5 l4 kl0 hf
set_option maxRecDepth 4000 in
set_option maxHeartbeats 1000000 in
theorem vjb_Md_gather_99 {E : En} {g : Gl} {tb : Tb} {ρ : Nat → Nat} (ok : TbOK tb) (hi : inj tb ρ) {r : Int32 × Hp} (X : CX E g tb ρ prog_14_method_89_code 8 RC12 2 43) (Y : CQ E g tb ρ (some .int) (some (.int r.1)) r.2) {c25 : Hp → Nat → Int32 → Int32 → Int32 → Int32 → Option (Int32 × Hp)} (H25 : ∀ (h : Hp) (l0 : Nat) (l1 : Int32) (l2 : Int32) (l3 : Int32) (l4 : Int32) (kl0 : kd tb l0 = 12), c25 h l0 l1 l2 l3 l4 = some r → V E g tb ρ 8 25 [(0, .ref (ρ l0)), (1, .int l1), (2, .int l2), (3, .int l3), (4, .int l4)] [] h) {c40 : Hp → Nat → Int32 → Int32 → Int32 → Int32 → Int32 → Int32 → Option (Int32 × Hp)} (H40 : ∀ (h : Hp) (l0 : Nat) (l1 : Int32) (l2 : Int32) (l3 : Int32) (l4 : Int32) (l5 : Int32) (l6 : Int32) (kl0 : kd tb l0 = 12), c40 h l0 l1 l2 l3 l4 l5 l6 = some r → V E g tb ρ 8 40 [(0, .ref (ρ l0)), (1, .int l1), (2, .int l2), (3, .int l3), (4, .int l4), (5, .int l5), (6, .int l6)] [] h) (h : Hp) (l0 : Nat) (l1 : Int32) (l2 : Int32) (l3 : Int32) (l4 : Int32) (l6 : Int32) (s0 : Int32) (kl0 : kd tb l0 = 12) (hf : jb_Md_gather_99 tb c25 c40 h l0 l1 l2 l3 l4 l6 s0 = some r) : V E g tb ρ 8 99 [(0, .ref (ρ l0)), (1, .int l1), (2, .int l2), (3, .int l3), (4, .int l4), (6, .int l6)] [.int s0] h := by
  unfold jb_Md_gather_99 at hf
  refine v_istore (pc := 99) (k := 5) (lv' := [(5, .int s0), (0, .ref (ρ l0)), (1, .int l1), (2, .int l2), (3, .int l3), (4, .int l4), (6, .int l6)]) X (by decide +kernel) (Nat.le_of_ble_eq_true rfl) rfl ?_
  obtain ⟨x1, ex1, hf⟩ := nmd_e hf
  refine v_iinc (pc := 101) (k := 6) (n := 1) (v := x1) (lv' := [(6, .int x1), (5, .int s0), (0, .ref (ρ l0)), (1, .int l1), (2, .int l2), (3, .int l3), (4, .int l4)]) X (by decide +kernel) 6 rfl (by rw [ic_1, ex1]) (Nat.le_of_ble_eq_true rfl) rfl ?_
  refine v_goto (pc := 104) (off := -64) (tgt := 40) X (by decide +kernel) (by decide) ?_
  refine v_sub [2, 3, 4, 5, 6, 1, 0] rfl ?_
  exact H40 h l0 l1 l2 l3 l4 s0 x1 kl0 hf
set_option maxRecDepth 4000 in
set_option maxHeartbeats 1000000 in
theorem vjb_Md_gather_83 {E : En} {g : Gl} {tb : Tb} {ρ : Nat → Nat} (ok : TbOK tb) (hi : inj tb ρ) {r : Int32 × Hp} (X : CX E g tb ρ prog_14_method_89_code 8 RC12 2 43) (Y : CQ E g tb ρ (some .int) (some (.int r.1)) r.2) {c25 : Hp → Nat → Int32 → Int32 → Int32 → Int32 → Option (Int32 × Hp)} (H25 : ∀ (h : Hp) (l0 : Nat) (l1 : Int32) (l2 : Int32) (l3 : Int32) (l4 : Int32) (kl0 : kd tb l0 = 12), c25 h l0 l1 l2 l3 l4 = some r → V E g tb ρ 8 25 [(0, .ref (ρ l0)), (1, .int l1), (2, .int l2), (3, .int l3), (4, .int l4)] [] h) {c40 : Hp → Nat → Int32 → Int32 → Int32 → Int32 → Int32 → Int32 → Option (Int32 × Hp)} (H40 : ∀ (h : Hp) (l0 : Nat) (l1 : Int32) (l2 : Int32) (l3 : Int32) (l4 : Int32) (l5 : Int32) (l6 : Int32) (kl0 : kd tb l0 = 12), c40 h l0 l1 l2 l3 l4 l5 l6 = some r → V E g tb ρ 8 40 [(0, .ref (ρ l0)), (1, .int l1), (2, .int l2), (3, .int l3), (4, .int l4), (5, .int l5), (6, .int l6)] [] h) (h : Hp) (l0 : Nat) (l1 : Int32) (l2 : Int32) (l3 : Int32) (l4 : Int32) (l5 : Int32) (l6 : Int32) (s0 : Int32) (kl0 : kd tb l0 = 12) (hf : jb_Md_gather_83 tb c25 c40 h l0 l1 l2 l3 l4 l5 l6 s0 = some r) : V E g tb ρ 8 83 [(0, .ref (ρ l0)), (1, .int l1), (2, .int l2), (3, .int l3), (4, .int l4), (5, .int l5), (6, .int l6)] [.int s0] h := by
  unfold jb_Md_gather_83 at hf
  refine v_istore (pc := 83) (k := 7) (lv' := [(7, .int s0), (0, .ref (ρ l0)), (1, .int l1), (2, .int l2), (3, .int l3), (4, .int l4), (5, .int l5), (6, .int l6)]) X (by decide +kernel) (Nat.le_of_ble_eq_true rfl) rfl ?_
  refine v_iload (pc := 85) (k := 7) X (by decide +kernel) 0 rfl ?_
  refine v_iload (pc := 87) (k := 5) X (by decide +kernel) 6 rfl ?_
  refine v_icmp_le (pc := 89) (off := 8) (tgt := 97) X (by decide +kernel) (by decide) (fun q1 => ?_) (fun q1 => ?_)
  · rw [if_pos q1] at hf
    refine v_iload (pc := 97) (k := 5) X (by decide +kernel) 6 rfl ?_
    refine v_sub [1, 2, 3, 4, 5, 7] rfl ?_
    exact vjb_Md_gather_99 ok hi X Y H25 H40 h l0 l1 l2 l3 l4 l6 l5 kl0 hf
  · rw [if_neg q1] at hf
    refine v_iload (pc := 92) (k := 7) X (by decide +kernel) 0 rfl ?_
    refine v_goto (pc := 94) (off := 5) (tgt := 99) X (by decide +kernel) (by decide) ?_
    refine v_sub [1, 2, 3, 4, 5, 7] rfl ?_
    exact vjb_Md_gather_99 ok hi X Y H25 H40 h l0 l1 l2 l3 l4 l6 s0 kl0 hf
set_option maxRecDepth 4000 in
set_option maxHeartbeats 1000000 in
theorem vlp_Md_gather_40 {E : En} {g : Gl} {tb : Tb} {ρ : Nat → Nat} (ok : TbOK tb) (hi : inj tb ρ) {r : Int32 × Hp} (X : CX E g tb ρ prog_14_method_89_code 8 RC12 2 43) (Y : CQ E g tb ρ (some .int) (some (.int r.1)) r.2) {c25 : Hp → Nat → Int32 → Int32 → Int32 → Int32 → Option (Int32 × Hp)} (H25 : ∀ (h : Hp) (l0 : Nat) (l1 : Int32) (l2 : Int32) (l3 : Int32) (l4 : Int32) (kl0 : kd tb l0 = 12), c25 h l0 l1 l2 l3 l4 = some r → V E g tb ρ 8 25 [(0, .ref (ρ l0)), (1, .int l1), (2, .int l2), (3, .int l3), (4, .int l4)] [] h) : ∀ (n : Nat) (h : Hp) (l0 : Nat) (l1 : Int32) (l2 : Int32) (l3 : Int32) (l4 : Int32) (l5 : Int32) (l6 : Int32) (kl0 : kd tb l0 = 12), lp_Md_gather_40 tb c25 n h l0 l1 l2 l3 l4 l5 l6 = some r → V E g tb ρ 8 40 [(0, .ref (ρ l0)), (1, .int l1), (2, .int l2), (3, .int l3), (4, .int l4), (5, .int l5), (6, .int l6)] [] h := by
  intro n
  induction n with
  | zero =>
    intro h l0 l1 l2 l3 l4 l5 l6 kl0 hf
    rw [lp_Md_gather_40] at hf
    cases hf
  | succ n ih =>
    intro h l0 l1 l2 l3 l4 l5 l6 kl0 hf
    rw [lp_Md_gather_40] at hf
    refine v_iload (pc := 40) (k := 6) X (by decide +kernel) 6 rfl ?_
    refine v_aload_n (pc := 42) (k := 0) X (by decide +kernel) 0 rfl ?_
    refine v_geti (pc := 43) X fl_12_246 kl0 rfl (by decide +kernel) ?_
    refine v_icmp_ge (pc := 46) (off := 61) (tgt := 107) X (by decide +kernel) (by decide) (fun q9 => ?_) (fun q9 => ?_)
    · rw [if_pos q9] at hf
      refine v_iload (pc := 107) (k := 5) X (by decide +kernel) 5 rfl ?_
      refine v_if_lt (pc := 109) (off := 22) (tgt := 131) X (by decide +kernel) (by decide) (fun q3 => ?_) (fun q3 => ?_)
      · rw [if_pos q3] at hf
        refine v_sub [0, 1, 2, 3, 4] rfl ?_
        exact vjb_Md_gather_131 ok hi X Y H25 h l0 l1 l2 l3 l4 kl0 hf
      · rw [if_neg q3] at hf
        refine v_iload_n (pc := 112) (k := 2) X (by decide +kernel) 2 rfl ?_
        refine v_if_lt (pc := 113) (off := 12) (tgt := 125) X (by decide +kernel) (by decide) (fun q2 => ?_) (fun q2 => ?_)
        · rw [if_pos q2] at hf
          refine v_sub [0, 1, 4, 5] rfl ?_
          exact vjb_Md_gather_125 ok hi X Y H25 h l0 l1 l4 l5 kl0 hf
        · rw [if_neg q2] at hf
          refine v_iload (pc := 116) (k := 5) X (by decide +kernel) 5 rfl ?_
          refine v_iload_n (pc := 118) (k := 3) X (by decide +kernel) 3 rfl ?_
          refine v_icmp_lt (pc := 119) (off := 6) (tgt := 125) X (by decide +kernel) (by decide) (fun q1 => ?_) (fun q1 => ?_)
          · rw [if_pos q1] at hf
            refine v_sub [0, 1, 4, 5] rfl ?_
            exact vjb_Md_gather_125 ok hi X Y H25 h l0 l1 l4 l5 kl0 hf
          · rw [if_neg q1] at hf
            refine v_goto (pc := 122) (off := 9) (tgt := 131) X (by decide +kernel) (by decide) ?_
            refine v_sub [0, 1, 2, 3, 4] rfl ?_
            exact vjb_Md_gather_131 ok hi X Y H25 h l0 l1 l2 l3 l4 kl0 hf
    · rw [if_neg q9] at hf
      refine v_aload_n (pc := 49) (k := 0) X (by decide +kernel) 0 rfl ?_
      refine v_geta (pc := 50) X fl_12_106 kl0 fk_12_58 (by decide +kernel) ?_
      refine v_iload (pc := 53) (k := 6) X (by decide +kernel) 6 rfl ?_
      obtain ⟨x4, ex4, hf⟩ := bnd_e hf
      refine v_zald (pc := 55) X (ly_12_58 ok kl0) ex4 (by decide +kernel) ?_
      refine v_if_eq (pc := 56) (off := 26) (tgt := 82) X (by decide +kernel) (by decide) (fun q8 => ?_) (fun q8 => ?_)
      · rw [if_pos q8] at hf
        refine v_iconst (pc := 82) (n := -1) X (by decide +kernel) ic_m1 ?_
        exact vjb_Md_gather_83 ok hi X Y H25 ih h l0 l1 l2 l3 l4 l5 l6 (-1 : Int32) kl0 hf
      · rw [if_neg q8] at hf
        refine v_aload_n (pc := 59) (k := 0) X (by decide +kernel) 0 rfl ?_
        refine v_iload (pc := 60) (k := 6) X (by decide +kernel) 6 rfl ?_
        refine v_aload_n (pc := 62) (k := 0) X (by decide +kernel) 0 rfl ?_
        refine v_geta (pc := 63) X fl_12_94 kl0 fk_12_54 (by decide +kernel) ?_
        refine v_iload (pc := 66) (k := 6) X (by decide +kernel) 6 rfl ?_
        obtain ⟨x5, ex5, hf⟩ := bnd_e hf
        refine v_iald (pc := 68) X (ly_12_54 ok kl0) ex5 (by decide +kernel) ?_
        refine v_aload_n (pc := 69) (k := 0) X (by decide +kernel) 0 rfl ?_
        refine v_geta (pc := 70) X fl_12_30 kl0 fk_12_26 (by decide +kernel) ?_
        refine v_iload (pc := 73) (k := 4) X (by decide +kernel) 4 rfl ?_
        obtain ⟨x6, ex6, hf⟩ := bnd_e hf
        refine v_iald (pc := 75) X (ly_12_26 ok kl0) ex6 (by decide +kernel) ?_
        obtain ⟨r7, er7, hf⟩ := bnd_e hf
        refine v_callV (pc := 76) (As := [.int l6, .int x5, .int x6]) (rest := []) X (mt_Md_legOf ok hi kl0 er7) ml_12_491 mv_Md_legOf kl0 cls_12 rfl ⟨Nat.le_of_ble_eq_true rfl, Nat.le_of_ble_eq_true rfl⟩ rfl rfl (Nat.le_of_ble_eq_true rfl) (by decide +kernel) ?_
        change V E g tb ρ 8 79 [(0, .ref (ρ l0)), (1, .int l1), (2, .int l2), (3, .int l3), (4, .int l4), (5, .int l5), (6, .int l6)] [.int r7] h
        refine v_goto (pc := 79) (off := 4) (tgt := 83) X (by decide +kernel) (by decide) ?_
        exact vjb_Md_gather_83 ok hi X Y H25 ih h l0 l1 l2 l3 l4 l5 l6 r7 kl0 hf
set_option maxRecDepth 4000 in
set_option maxHeartbeats 1000000 in
theorem vlp_Md_gather_25 {E : En} {g : Gl} {tb : Tb} {ρ : Nat → Nat} (ok : TbOK tb) (hi : inj tb ρ) {r : Int32 × Hp} (X : CX E g tb ρ prog_14_method_89_code 8 RC12 2 43) (Y : CQ E g tb ρ (some .int) (some (.int r.1)) r.2) : ∀ (n : Nat) (h : Hp) (l0 : Nat) (l1 : Int32) (l2 : Int32) (l3 : Int32) (l4 : Int32) (kl0 : kd tb l0 = 12), lp_Md_gather_25 tb n h l0 l1 l2 l3 l4 = some r → V E g tb ρ 8 25 [(0, .ref (ρ l0)), (1, .int l1), (2, .int l2), (3, .int l3), (4, .int l4)] [] h := by
  intro n
  induction n with
  | zero =>
    intro h l0 l1 l2 l3 l4 kl0 hf
    rw [lp_Md_gather_25] at hf
    cases hf
  | succ n ih =>
    intro h l0 l1 l2 l3 l4 kl0 hf
    rw [lp_Md_gather_25] at hf
    refine v_iload (pc := 25) (k := 4) X (by decide +kernel) 4 rfl ?_
    refine v_aload_n (pc := 27) (k := 0) X (by decide +kernel) 0 rfl ?_
    refine v_geti (pc := 28) X fl_12_243 kl0 rfl (by decide +kernel) ?_
    refine v_icmp_ge (pc := 31) (off := 106) (tgt := 137) X (by decide +kernel) (by decide) (fun q2 => ?_) (fun q2 => ?_)
    · rw [if_pos q2] at hf
      refine v_iload_n (pc := 137) (k := 1) X (by decide +kernel) 1 rfl ?_
      refine v_if_ne (pc := 138) (off := 7) (tgt := 145) X (by decide +kernel) (by decide) (fun q1 => ?_) (fun q1 => ?_)
      · rw [if_neg q1] at hf
        refine v_iload_n (pc := 145) (k := 3) X (by decide +kernel) 3 rfl ?_
        cases hf
        exact v_iret X Y (by decide +kernel) rfl rfl
      · rw [if_pos q1] at hf
        refine v_iload_n (pc := 141) (k := 2) X (by decide +kernel) 2 rfl ?_
        refine v_goto (pc := 142) (off := 4) (tgt := 146) X (by decide +kernel) (by decide) ?_
        cases hf
        exact v_iret X Y (by decide +kernel) rfl rfl
    · rw [if_neg q2] at hf
      refine v_iconst (pc := 34) (n := -1) X (by decide +kernel) ic_m1 ?_
      refine v_istore (pc := 35) (k := 5) (lv' := [(5, .int (-1 : Int32)), (0, .ref (ρ l0)), (1, .int l1), (2, .int l2), (3, .int l3), (4, .int l4)]) X (by decide +kernel) (Nat.le_of_ble_eq_true rfl) rfl ?_
      refine v_iconst (pc := 37) (n := 0) X (by decide +kernel) ic_0 ?_
      refine v_istore (pc := 38) (k := 6) (lv' := [(6, .int (0 : Int32)), (5, .int (-1 : Int32)), (0, .ref (ρ l0)), (1, .int l1), (2, .int l2), (3, .int l3), (4, .int l4)]) X (by decide +kernel) (Nat.le_of_ble_eq_true rfl) rfl ?_
      refine v_sub [2, 3, 4, 5, 6, 1, 0] rfl ?_
      exact vlp_Md_gather_40 ok hi X Y ih fu h l0 l1 l2 l3 l4 (-1 : Int32) (0 : Int32) kl0 hf
set_option maxRecDepth 4000 in
set_option maxHeartbeats 1000000 in
theorem mt_Md_gather {g : Gl} {tb : Tb} {ρ : Nat → Nat} (ok : TbOK tb) (hi : inj tb ρ) {h : Hp} {l0 : Nat} {l1 : Int32} (kl0 : kd tb l0 = 12) {r : Int32 × Hp} (hf : f_Md_gather tb h l0 l1 = some r) : MT g y_Md_gather prog_14_method_89_code 8 (some .int) 2 43 tb ρ [.ref (ρ l0), .int l1] h (some (.int r.1)) r.2 := by
  refine mt_intro (by decide +kernel) ok hi (Nat.le_of_ble_eq_true rfl) (fun E X Y => ?_)
  change V E g tb ρ 8 0 [(0, .ref (ρ l0)), (1, .int l1)] [] h
  unfold f_Md_gather at hf
  refine v_aload_n (pc := 0) (k := 0) X (by decide +kernel) 0 rfl ?_
  refine v_iconst (pc := 1) (n := 0) X (by decide +kernel) ic_0 ?_
  obtain ⟨h1, eh1, hf⟩ := nmd_e hf
  refine v_puti (pc := 2) X fp_12_160 kl0 rfl (by decide +kernel) eh1 ?_
  refine v_iload_n (pc := 5) (k := 1) X (by decide +kernel) 1 rfl ?_
  refine v_iconst (pc := 6) (n := 0) X (by decide +kernel) ic_0 ?_
  refine v_iconst (pc := 7) (n := 1) X (by decide +kernel) ic_1 ?_
  obtain ⟨r2, er2, hf⟩ := nmd_e hf
  refine v_callS (pc := 8) (As := [.int l1, .int (0 : Int32), .int (1 : Int32)]) (rest := []) X (mt_Md_isIn ok hi er2.symm) ml_12_205 ms_Md_isIn ⟨Nat.le_of_ble_eq_true rfl, Nat.le_of_ble_eq_true rfl⟩ rfl rfl (Nat.le_of_ble_eq_true rfl) (by decide +kernel) ?_
  change V E g tb ρ 8 11 [(0, .ref (ρ l0)), (1, .int l1)] [.int r2] h1
  refine v_if_ne (pc := 11) (off := 5) (tgt := 16) X (by decide +kernel) (by decide) (fun q3 => ?_) (fun q3 => ?_)
  · rw [if_neg q3] at hf
    refine v_bipush (pc := 16) (n := -2) X (by decide +kernel) bi_m2 ?_
    refine v_istore_n (pc := 18) (k := 2) (lv' := [(2, .int (-2 : Int32)), (0, .ref (ρ l0)), (1, .int l1)]) X (by decide +kernel) (Nat.le_of_ble_eq_true rfl) rfl ?_
    refine v_bipush (pc := 19) (n := -2) X (by decide +kernel) bi_m2 ?_
    refine v_istore_n (pc := 21) (k := 3) (lv' := [(3, .int (-2 : Int32)), (2, .int (-2 : Int32)), (0, .ref (ρ l0)), (1, .int l1)]) X (by decide +kernel) (Nat.le_of_ble_eq_true rfl) rfl ?_
    refine v_iconst (pc := 22) (n := 0) X (by decide +kernel) ic_0 ?_
    refine v_istore (pc := 23) (k := 4) (lv' := [(4, .int (0 : Int32)), (3, .int (-2 : Int32)), (2, .int (-2 : Int32)), (0, .ref (ρ l0)), (1, .int l1)]) X (by decide +kernel) (Nat.le_of_ble_eq_true rfl) rfl ?_
    refine v_sub [3, 4, 2, 1, 0] rfl ?_
    exact vlp_Md_gather_25 ok hi X Y fu h1 l0 l1 (-2 : Int32) (-2 : Int32) (0 : Int32) kl0 hf
  · rw [if_pos q3] at hf
    refine v_iconst (pc := 14) (n := -1) X (by decide +kernel) ic_m1 ?_
    cases hf
    exact v_iret X Y (by decide +kernel) rfl rfl
def jb_Md_sides_39 (tb : Tb) (c9 : Hp → Nat → Int32 → Int32 → Option (Int32 × Hp)) (h : Hp) (l0 : Nat) (l2 : Int32) (s0 : Int32) (s1 : Int32) : Option (Int32 × Hp) :=
  nmd (s0 ||| s1) fun x1 =>
  nmd (l2 + (1 : Int32)) fun x2 =>
  c9 h l0 x1 x2
def lp_Md_sides_9 (tb : Tb) : Nat → Hp → Nat → Int32 → Int32 → Option (Int32 × Hp)
  | 0, _, _, _, _ => none
  | n + 1, h, l0, l1, l2 =>
    if (h.1 l0 13) ≤ l2 then (
      some (l1, h)
    ) else (
      (rI tb h (lay tb l0 58) l2).bind fun x1 =>
      if x1 = (0 : Int32) then (
        jb_Md_sides_39 tb (lp_Md_sides_9 tb n) h l0 l2 l1 (0 : Int32)
      ) else (
        (rI tb h (lay tb l0 30) l2).bind fun x2 =>
        jb_Md_sides_39 tb (lp_Md_sides_9 tb n) h l0 l2 l1 ((1 : Int32) <<< (x2 &&& 31))
      )
    )
def f_Md_sides (tb : Tb) (h : Hp) (l0 : Nat) : Option (Int32 × Hp) :=
  nmd (pI h l0 2 (0 : Int32)) fun h1 =>
  lp_Md_sides_9 tb fu h1 l0 (0 : Int32) (0 : Int32)
set_option maxRecDepth 4000 in
set_option maxHeartbeats 1000000 in
theorem vjb_Md_sides_39 {E : En} {g : Gl} {tb : Tb} {ρ : Nat → Nat} (ok : TbOK tb) (hi : inj tb ρ) {r : Int32 × Hp} (X : CX E g tb ρ prog_14_method_90_code 3 RC12 0 0) (Y : CQ E g tb ρ (some .int) (some (.int r.1)) r.2) {c9 : Hp → Nat → Int32 → Int32 → Option (Int32 × Hp)} (H9 : ∀ (h : Hp) (l0 : Nat) (l1 : Int32) (l2 : Int32) (kl0 : kd tb l0 = 12), c9 h l0 l1 l2 = some r → V E g tb ρ 3 9 [(0, .ref (ρ l0)), (1, .int l1), (2, .int l2)] [] h) (h : Hp) (l0 : Nat) (l2 : Int32) (s0 : Int32) (s1 : Int32) (kl0 : kd tb l0 = 12) (hf : jb_Md_sides_39 tb c9 h l0 l2 s0 s1 = some r) : V E g tb ρ 3 39 [(0, .ref (ρ l0)), (2, .int l2)] [.int s1, .int s0] h := by
  unfold jb_Md_sides_39 at hf
  refine v_ior (pc := 39) X (by decide +kernel) ?_
  obtain ⟨x1, ex1, hf⟩ := nmd_e hf
  refine v_nmi ex1 ?_
  refine v_istore_n (pc := 40) (k := 1) (lv' := [(1, .int x1), (0, .ref (ρ l0)), (2, .int l2)]) X (by decide +kernel) (Nat.le_of_ble_eq_true rfl) rfl ?_
  obtain ⟨x2, ex2, hf⟩ := nmd_e hf
  refine v_iinc (pc := 41) (k := 2) (n := 1) (v := x2) (lv' := [(2, .int x2), (1, .int x1), (0, .ref (ρ l0))]) X (by decide +kernel) 2 rfl (by rw [ic_1, ex2]) (Nat.le_of_ble_eq_true rfl) rfl ?_
  refine v_goto (pc := 44) (off := -35) (tgt := 9) X (by decide +kernel) (by decide) ?_
  refine v_sub [2, 1, 0] rfl ?_
  exact H9 h l0 x1 x2 kl0 hf
set_option maxRecDepth 4000 in
set_option maxHeartbeats 1000000 in
theorem vlp_Md_sides_9 {E : En} {g : Gl} {tb : Tb} {ρ : Nat → Nat} (ok : TbOK tb) (hi : inj tb ρ) {r : Int32 × Hp} (X : CX E g tb ρ prog_14_method_90_code 3 RC12 0 0) (Y : CQ E g tb ρ (some .int) (some (.int r.1)) r.2) : ∀ (n : Nat) (h : Hp) (l0 : Nat) (l1 : Int32) (l2 : Int32) (kl0 : kd tb l0 = 12), lp_Md_sides_9 tb n h l0 l1 l2 = some r → V E g tb ρ 3 9 [(0, .ref (ρ l0)), (1, .int l1), (2, .int l2)] [] h := by
  intro n
  induction n with
  | zero =>
    intro h l0 l1 l2 kl0 hf
    rw [lp_Md_sides_9] at hf
    cases hf
  | succ n ih =>
    intro h l0 l1 l2 kl0 hf
    rw [lp_Md_sides_9] at hf
    refine v_iload_n (pc := 9) (k := 2) X (by decide +kernel) 2 rfl ?_
    refine v_aload_n (pc := 10) (k := 0) X (by decide +kernel) 0 rfl ?_
    refine v_geti (pc := 11) X fl_12_246 kl0 rfl (by decide +kernel) ?_
    refine v_icmp_ge (pc := 14) (off := 33) (tgt := 47) X (by decide +kernel) (by decide) (fun q4 => ?_) (fun q4 => ?_)
    · rw [if_pos q4] at hf
      refine v_iload_n (pc := 47) (k := 1) X (by decide +kernel) 1 rfl ?_
      cases hf
      exact v_iret X Y (by decide +kernel) rfl rfl
    · rw [if_neg q4] at hf
      refine v_iload_n (pc := 17) (k := 1) X (by decide +kernel) 1 rfl ?_
      refine v_aload_n (pc := 18) (k := 0) X (by decide +kernel) 0 rfl ?_
      refine v_geta (pc := 19) X fl_12_106 kl0 fk_12_58 (by decide +kernel) ?_
      refine v_iload_n (pc := 22) (k := 2) X (by decide +kernel) 2 rfl ?_
      obtain ⟨x1, ex1, hf⟩ := bnd_e hf
      refine v_zald (pc := 23) X (ly_12_58 ok kl0) ex1 (by decide +kernel) ?_
      refine v_if_eq (pc := 24) (off := 14) (tgt := 38) X (by decide +kernel) (by decide) (fun q3 => ?_) (fun q3 => ?_)
      · rw [if_pos q3] at hf
        refine v_iconst (pc := 38) (n := 0) X (by decide +kernel) ic_0 ?_
        refine v_sub [0, 2] rfl ?_
        exact vjb_Md_sides_39 ok hi X Y ih h l0 l2 l1 (0 : Int32) kl0 hf
      · rw [if_neg q3] at hf
        refine v_iconst (pc := 27) (n := 1) X (by decide +kernel) ic_1 ?_
        refine v_aload_n (pc := 28) (k := 0) X (by decide +kernel) 0 rfl ?_
        refine v_geta (pc := 29) X fl_12_42 kl0 fk_12_30 (by decide +kernel) ?_
        refine v_iload_n (pc := 32) (k := 2) X (by decide +kernel) 2 rfl ?_
        obtain ⟨x2, ex2, hf⟩ := bnd_e hf
        refine v_iald (pc := 33) X (ly_12_30 ok kl0) ex2 (by decide +kernel) ?_
        refine v_ishl (pc := 34) X (by decide +kernel) ?_
        refine v_goto (pc := 35) (off := 4) (tgt := 39) X (by decide +kernel) (by decide) ?_
        refine v_sub [0, 2] rfl ?_
        exact vjb_Md_sides_39 ok hi X Y ih h l0 l2 l1 ((1 : Int32) <<< (x2 &&& 31)) kl0 hf
set_option maxRecDepth 4000 in
set_option maxHeartbeats 1000000 in
theorem mt_Md_sides {g : Gl} {tb : Tb} {ρ : Nat → Nat} (ok : TbOK tb) (hi : inj tb ρ) {h : Hp} {l0 : Nat} (kl0 : kd tb l0 = 12) {r : Int32 × Hp} (hf : f_Md_sides tb h l0 = some r) : MT g y_Md_sides prog_14_method_90_code 3 (some .int) 0 0 tb ρ [.ref (ρ l0)] h (some (.int r.1)) r.2 := by
  refine mt_intro (by decide +kernel) ok hi (Nat.le_of_ble_eq_true rfl) (fun E X Y => ?_)
  change V E g tb ρ 3 0 [(0, .ref (ρ l0))] [] h
  unfold f_Md_sides at hf
  refine v_aload_n (pc := 0) (k := 0) X (by decide +kernel) 0 rfl ?_
  refine v_iconst (pc := 1) (n := 0) X (by decide +kernel) ic_0 ?_
  obtain ⟨h1, eh1, hf⟩ := nmd_e hf
  refine v_puti (pc := 2) X fp_12_160 kl0 rfl (by decide +kernel) eh1 ?_
  refine v_iconst (pc := 5) (n := 0) X (by decide +kernel) ic_0 ?_
  refine v_istore_n (pc := 6) (k := 1) (lv' := [(1, .int (0 : Int32)), (0, .ref (ρ l0))]) X (by decide +kernel) (Nat.le_of_ble_eq_true rfl) rfl ?_
  refine v_iconst (pc := 7) (n := 0) X (by decide +kernel) ic_0 ?_
  refine v_istore_n (pc := 8) (k := 2) (lv' := [(2, .int (0 : Int32)), (1, .int (0 : Int32)), (0, .ref (ρ l0))]) X (by decide +kernel) (Nat.le_of_ble_eq_true rfl) rfl ?_
  refine v_sub [2, 1, 0] rfl ?_
  exact vlp_Md_sides_9 ok hi X Y fu h1 l0 (0 : Int32) (0 : Int32) kl0 hf
def jb_Md_enemies_83 (tb : Tb) (c19 : Hp → Nat → Int32 → Int32 → Int32 → Option (Int32 × Hp)) (h : Hp) (l0 : Nat) (l1 : Int32) (l3 : Int32) (s0 : Int32) (s1 : Int32) : Option (Int32 × Hp) :=
  nmd (s0 ||| s1) fun x1 =>
  nmd (l3 + (1 : Int32)) fun x2 =>
  c19 h l0 l1 x1 x2
def jb_Md_enemies_82 (tb : Tb) (c19 : Hp → Nat → Int32 → Int32 → Int32 → Option (Int32 × Hp)) (h : Hp) (l0 : Nat) (l1 : Int32) (l3 : Int32) (s0 : Int32) : Option (Int32 × Hp) :=
  jb_Md_enemies_83 tb c19 h l0 l1 l3 s0 (0 : Int32)
def lp_Md_enemies_19 (tb : Tb) : Nat → Hp → Nat → Int32 → Int32 → Int32 → Option (Int32 × Hp)
  | 0, _, _, _, _, _ => none
  | n + 1, h, l0, l1, l2, l3 =>
    if (h.1 l0 13) ≤ l3 then (
      some (l2, h)
    ) else (
      (rI tb h (lay tb l0 58) l1).bind fun x1 =>
      if x1 = (0 : Int32) then (
        jb_Md_enemies_82 tb (lp_Md_enemies_19 tb n) h l0 l1 l3 l2
      ) else (
        (rI tb h (lay tb l0 58) l3).bind fun x2 =>
        if x2 = (0 : Int32) then (
          jb_Md_enemies_82 tb (lp_Md_enemies_19 tb n) h l0 l1 l3 l2
        ) else (
          (rI tb h (lay tb l0 30) l3).bind fun x3 =>
          (rI tb h (lay tb l0 30) l1).bind fun x4 =>
          if x3 = x4 then (
            jb_Md_enemies_82 tb (lp_Md_enemies_19 tb n) h l0 l1 l3 l2
          ) else (
            (rI tb h (lay tb l0 54) l3).bind fun x5 =>
            (rI tb h (lay tb l0 54) l1).bind fun x6 =>
            if x5 = x6 then (
              jb_Md_enemies_83 tb (lp_Md_enemies_19 tb n) h l0 l1 l3 l2 ((1 : Int32) <<< (l3 &&& 31))
            ) else (
              jb_Md_enemies_82 tb (lp_Md_enemies_19 tb n) h l0 l1 l3 l2
            )
          )
        )
      )
    )
def f_Md_enemies (tb : Tb) (h : Hp) (l0 : Nat) (l1 : Int32) : Option (Int32 × Hp) :=
  nmd (pI h l0 2 (0 : Int32)) fun h1 =>
  nmd (f_Md_isHorse tb h1 l0 l1) fun r2 =>
  if r2 = (0 : Int32) then (
    some ((-1 : Int32), h1)
  ) else (
    lp_Md_enemies_19 tb fu h1 l0 l1 (0 : Int32) (0 : Int32)
  )
set_option maxRecDepth 4000 in
set_option maxHeartbeats 1000000 in
theorem vjb_Md_enemies_83 {E : En} {g : Gl} {tb : Tb} {ρ : Nat → Nat} (ok : TbOK tb) (hi : inj tb ρ) {r : Int32 × Hp} (X : CX E g tb ρ prog_14_method_91_code 4 RC12 1 21) (Y : CQ E g tb ρ (some .int) (some (.int r.1)) r.2) {c19 : Hp → Nat → Int32 → Int32 → Int32 → Option (Int32 × Hp)} (H19 : ∀ (h : Hp) (l0 : Nat) (l1 : Int32) (l2 : Int32) (l3 : Int32) (kl0 : kd tb l0 = 12), c19 h l0 l1 l2 l3 = some r → V E g tb ρ 4 19 [(0, .ref (ρ l0)), (1, .int l1), (2, .int l2), (3, .int l3)] [] h) (h : Hp) (l0 : Nat) (l1 : Int32) (l3 : Int32) (s0 : Int32) (s1 : Int32) (kl0 : kd tb l0 = 12) (hf : jb_Md_enemies_83 tb c19 h l0 l1 l3 s0 s1 = some r) : V E g tb ρ 4 83 [(0, .ref (ρ l0)), (1, .int l1), (3, .int l3)] [.int s1, .int s0] h := by
  unfold jb_Md_enemies_83 at hf
  refine v_ior (pc := 83) X (by decide +kernel) ?_
  obtain ⟨x1, ex1, hf⟩ := nmd_e hf
  refine v_nmi ex1 ?_
  refine v_istore_n (pc := 84) (k := 2) (lv' := [(2, .int x1), (0, .ref (ρ l0)), (1, .int l1), (3, .int l3)]) X (by decide +kernel) (Nat.le_of_ble_eq_true rfl) rfl ?_
  obtain ⟨x2, ex2, hf⟩ := nmd_e hf
  refine v_iinc (pc := 85) (k := 3) (n := 1) (v := x2) (lv' := [(3, .int x2), (2, .int x1), (0, .ref (ρ l0)), (1, .int l1)]) X (by decide +kernel) 3 rfl (by rw [ic_1, ex2]) (Nat.le_of_ble_eq_true rfl) rfl ?_
  refine v_goto (pc := 88) (off := -69) (tgt := 19) X (by decide +kernel) (by decide) ?_
  refine v_sub [2, 3, 1, 0] rfl ?_
  exact H19 h l0 l1 x1 x2 kl0 hf
set_option maxRecDepth 4000 in
set_option maxHeartbeats 1000000 in
theorem vjb_Md_enemies_82 {E : En} {g : Gl} {tb : Tb} {ρ : Nat → Nat} (ok : TbOK tb) (hi : inj tb ρ) {r : Int32 × Hp} (X : CX E g tb ρ prog_14_method_91_code 4 RC12 1 21) (Y : CQ E g tb ρ (some .int) (some (.int r.1)) r.2) {c19 : Hp → Nat → Int32 → Int32 → Int32 → Option (Int32 × Hp)} (H19 : ∀ (h : Hp) (l0 : Nat) (l1 : Int32) (l2 : Int32) (l3 : Int32) (kl0 : kd tb l0 = 12), c19 h l0 l1 l2 l3 = some r → V E g tb ρ 4 19 [(0, .ref (ρ l0)), (1, .int l1), (2, .int l2), (3, .int l3)] [] h) (h : Hp) (l0 : Nat) (l1 : Int32) (l3 : Int32) (s0 : Int32) (kl0 : kd tb l0 = 12) (hf : jb_Md_enemies_82 tb c19 h l0 l1 l3 s0 = some r) : V E g tb ρ 4 82 [(0, .ref (ρ l0)), (1, .int l1), (3, .int l3)] [.int s0] h := by
  unfold jb_Md_enemies_82 at hf
  refine v_iconst (pc := 82) (n := 0) X (by decide +kernel) ic_0 ?_
  exact vjb_Md_enemies_83 ok hi X Y H19 h l0 l1 l3 s0 (0 : Int32) kl0 hf
set_option maxRecDepth 4000 in
set_option maxHeartbeats 1000000 in
theorem vlp_Md_enemies_19 {E : En} {g : Gl} {tb : Tb} {ρ : Nat → Nat} (ok : TbOK tb) (hi : inj tb ρ) {r : Int32 × Hp} (X : CX E g tb ρ prog_14_method_91_code 4 RC12 1 21) (Y : CQ E g tb ρ (some .int) (some (.int r.1)) r.2) : ∀ (n : Nat) (h : Hp) (l0 : Nat) (l1 : Int32) (l2 : Int32) (l3 : Int32) (kl0 : kd tb l0 = 12), lp_Md_enemies_19 tb n h l0 l1 l2 l3 = some r → V E g tb ρ 4 19 [(0, .ref (ρ l0)), (1, .int l1), (2, .int l2), (3, .int l3)] [] h := by
  intro n
  induction n with
  | zero =>
    intro h l0 l1 l2 l3 kl0 hf
    rw [lp_Md_enemies_19] at hf
    cases hf
  | succ n ih =>
    intro h l0 l1 l2 l3 kl0 hf
    rw [lp_Md_enemies_19] at hf
    refine v_iload_n (pc := 19) (k := 3) X (by decide +kernel) 3 rfl ?_
    refine v_aload_n (pc := 20) (k := 0) X (by decide +kernel) 0 rfl ?_
    refine v_geti (pc := 21) X fl_12_246 kl0 rfl (by decide +kernel) ?_
    refine v_icmp_ge (pc := 24) (off := 67) (tgt := 91) X (by decide +kernel) (by decide) (fun q11 => ?_) (fun q11 => ?_)
    · rw [if_pos q11] at hf
      refine v_iload_n (pc := 91) (k := 2) X (by decide +kernel) 2 rfl ?_
      cases hf
      exact v_iret X Y (by decide +kernel) rfl rfl
    · rw [if_neg q11] at hf
      refine v_iload_n (pc := 27) (k := 2) X (by decide +kernel) 2 rfl ?_
      refine v_aload_n (pc := 28) (k := 0) X (by decide +kernel) 0 rfl ?_
      refine v_geta (pc := 29) X fl_12_106 kl0 fk_12_58 (by decide +kernel) ?_
      refine v_iload_n (pc := 32) (k := 1) X (by decide +kernel) 1 rfl ?_
      obtain ⟨x1, ex1, hf⟩ := bnd_e hf
      refine v_zald (pc := 33) X (ly_12_58 ok kl0) ex1 (by decide +kernel) ?_
      refine v_if_eq (pc := 34) (off := 48) (tgt := 82) X (by decide +kernel) (by decide) (fun q10 => ?_) (fun q10 => ?_)
      · rw [if_pos q10] at hf
        refine v_sub [0, 1, 3] rfl ?_
        exact vjb_Md_enemies_82 ok hi X Y ih h l0 l1 l3 l2 kl0 hf
      · rw [if_neg q10] at hf
        refine v_aload_n (pc := 37) (k := 0) X (by decide +kernel) 0 rfl ?_
        refine v_geta (pc := 38) X fl_12_106 kl0 fk_12_58 (by decide +kernel) ?_
        refine v_iload_n (pc := 41) (k := 3) X (by decide +kernel) 3 rfl ?_
        obtain ⟨x2, ex2, hf⟩ := bnd_e hf
        refine v_zald (pc := 42) X (ly_12_58 ok kl0) ex2 (by decide +kernel) ?_
        refine v_if_eq (pc := 43) (off := 39) (tgt := 82) X (by decide +kernel) (by decide) (fun q9 => ?_) (fun q9 => ?_)
        · rw [if_pos q9] at hf
          refine v_sub [0, 1, 3] rfl ?_
          exact vjb_Md_enemies_82 ok hi X Y ih h l0 l1 l3 l2 kl0 hf
        · rw [if_neg q9] at hf
          refine v_aload_n (pc := 46) (k := 0) X (by decide +kernel) 0 rfl ?_
          refine v_geta (pc := 47) X fl_12_42 kl0 fk_12_30 (by decide +kernel) ?_
          refine v_iload_n (pc := 50) (k := 3) X (by decide +kernel) 3 rfl ?_
          obtain ⟨x3, ex3, hf⟩ := bnd_e hf
          refine v_iald (pc := 51) X (ly_12_30 ok kl0) ex3 (by decide +kernel) ?_
          refine v_aload_n (pc := 52) (k := 0) X (by decide +kernel) 0 rfl ?_
          refine v_geta (pc := 53) X fl_12_42 kl0 fk_12_30 (by decide +kernel) ?_
          refine v_iload_n (pc := 56) (k := 1) X (by decide +kernel) 1 rfl ?_
          obtain ⟨x4, ex4, hf⟩ := bnd_e hf
          refine v_iald (pc := 57) X (ly_12_30 ok kl0) ex4 (by decide +kernel) ?_
          refine v_icmp_eq (pc := 58) (off := 24) (tgt := 82) X (by decide +kernel) (by decide) (fun q8 => ?_) (fun q8 => ?_)
          · rw [if_pos q8] at hf
            refine v_sub [0, 1, 3] rfl ?_
            exact vjb_Md_enemies_82 ok hi X Y ih h l0 l1 l3 l2 kl0 hf
          · rw [if_neg q8] at hf
            refine v_aload_n (pc := 61) (k := 0) X (by decide +kernel) 0 rfl ?_
            refine v_geta (pc := 62) X fl_12_94 kl0 fk_12_54 (by decide +kernel) ?_
            refine v_iload_n (pc := 65) (k := 3) X (by decide +kernel) 3 rfl ?_
            obtain ⟨x5, ex5, hf⟩ := bnd_e hf
            refine v_iald (pc := 66) X (ly_12_54 ok kl0) ex5 (by decide +kernel) ?_
            refine v_aload_n (pc := 67) (k := 0) X (by decide +kernel) 0 rfl ?_
            refine v_geta (pc := 68) X fl_12_94 kl0 fk_12_54 (by decide +kernel) ?_
            refine v_iload_n (pc := 71) (k := 1) X (by decide +kernel) 1 rfl ?_
            obtain ⟨x6, ex6, hf⟩ := bnd_e hf
            refine v_iald (pc := 72) X (ly_12_54 ok kl0) ex6 (by decide +kernel) ?_
            refine v_icmp_ne (pc := 73) (off := 9) (tgt := 82) X (by decide +kernel) (by decide) (fun q7 => ?_) (fun q7 => ?_)
            · rw [if_neg q7] at hf
              refine v_sub [0, 1, 3] rfl ?_
              exact vjb_Md_enemies_82 ok hi X Y ih h l0 l1 l3 l2 kl0 hf
            · rw [if_pos q7] at hf
              refine v_iconst (pc := 76) (n := 1) X (by decide +kernel) ic_1 ?_
              refine v_iload_n (pc := 77) (k := 3) X (by decide +kernel) 3 rfl ?_
              refine v_ishl (pc := 78) X (by decide +kernel) ?_
              refine v_goto (pc := 79) (off := 4) (tgt := 83) X (by decide +kernel) (by decide) ?_
              refine v_sub [0, 1, 3] rfl ?_
              exact vjb_Md_enemies_83 ok hi X Y ih h l0 l1 l3 l2 ((1 : Int32) <<< (l3 &&& 31)) kl0 hf
set_option maxRecDepth 4000 in
set_option maxHeartbeats 1000000 in
theorem mt_Md_enemies {g : Gl} {tb : Tb} {ρ : Nat → Nat} (ok : TbOK tb) (hi : inj tb ρ) {h : Hp} {l0 : Nat} {l1 : Int32} (kl0 : kd tb l0 = 12) {r : Int32 × Hp} (hf : f_Md_enemies tb h l0 l1 = some r) : MT g y_Md_enemies prog_14_method_91_code 4 (some .int) 1 21 tb ρ [.ref (ρ l0), .int l1] h (some (.int r.1)) r.2 := by
  refine mt_intro (by decide +kernel) ok hi (Nat.le_of_ble_eq_true rfl) (fun E X Y => ?_)
  change V E g tb ρ 4 0 [(0, .ref (ρ l0)), (1, .int l1)] [] h
  unfold f_Md_enemies at hf
  refine v_aload_n (pc := 0) (k := 0) X (by decide +kernel) 0 rfl ?_
  refine v_iconst (pc := 1) (n := 0) X (by decide +kernel) ic_0 ?_
  obtain ⟨h1, eh1, hf⟩ := nmd_e hf
  refine v_puti (pc := 2) X fp_12_160 kl0 rfl (by decide +kernel) eh1 ?_
  refine v_aload_n (pc := 5) (k := 0) X (by decide +kernel) 0 rfl ?_
  refine v_iload_n (pc := 6) (k := 1) X (by decide +kernel) 1 rfl ?_
  obtain ⟨r2, er2, hf⟩ := nmd_e hf
  refine v_callV (pc := 7) (As := [.int l1]) (rest := []) X (mt_Md_isHorse ok hi kl0 er2.symm) ml_12_459 mv_Md_isHorse kl0 cls_12 rfl ⟨Nat.le_of_ble_eq_true rfl, Nat.le_of_ble_eq_true rfl⟩ rfl rfl (Nat.le_of_ble_eq_true rfl) (by decide +kernel) ?_
  change V E g tb ρ 4 10 [(0, .ref (ρ l0)), (1, .int l1)] [.int r2] h1
  refine v_if_ne (pc := 10) (off := 5) (tgt := 15) X (by decide +kernel) (by decide) (fun q3 => ?_) (fun q3 => ?_)
  · rw [if_neg q3] at hf
    refine v_iconst (pc := 15) (n := 0) X (by decide +kernel) ic_0 ?_
    refine v_istore_n (pc := 16) (k := 2) (lv' := [(2, .int (0 : Int32)), (0, .ref (ρ l0)), (1, .int l1)]) X (by decide +kernel) (Nat.le_of_ble_eq_true rfl) rfl ?_
    refine v_iconst (pc := 17) (n := 0) X (by decide +kernel) ic_0 ?_
    refine v_istore_n (pc := 18) (k := 3) (lv' := [(3, .int (0 : Int32)), (2, .int (0 : Int32)), (0, .ref (ρ l0)), (1, .int l1)]) X (by decide +kernel) (Nat.le_of_ble_eq_true rfl) rfl ?_
    refine v_sub [2, 3, 1, 0] rfl ?_
    exact vlp_Md_enemies_19 ok hi X Y fu h1 l0 l1 (0 : Int32) (0 : Int32) kl0 hf
  · rw [if_pos q3] at hf
    refine v_iconst (pc := 13) (n := -1) X (by decide +kernel) ic_m1 ?_
    cases hf
    exact v_iret X Y (by decide +kernel) rfl rfl
def lp_Md_runsDry_21 (tb : Tb) : Nat → Hp → Nat → Int32 → Int32 → Option (Int32 × Hp)
  | 0, _, _, _, _ => none
  | n + 1, h, l0, l1, l2 =>
    if (200 : Int32) ≤ l2 then (
      some ((-2 : Int32), h)
    ) else (
      (rI tb h (lay tb l0 60) ((6 : Int32) + l1)).bind fun x1 =>
      if x1 = (0 : Int32) then (
        some (l2, h)
      ) else (
        (f_Md_hourGoes tb h l0 (1 : Int32)).bind fun r2 =>
        nmd (l2 + (1 : Int32)) fun x3 =>
        lp_Md_runsDry_21 tb n r2 l0 l1 x3
      )
    )
def f_Md_runsDry (tb : Tb) (h : Hp) (l0 : Nat) (l1 : Int32) : Option (Int32 × Hp) :=
  nmd (pI h l0 2 (0 : Int32)) fun h1 =>
  nmd (f_Md_isTrough tb h1 l0 l1) fun r2 =>
  if r2 = (0 : Int32) then (
    some ((-1 : Int32), h1)
  ) else (
    (f_Md_layTried tb h1 l0).bind fun r3 =>
    lp_Md_runsDry_21 tb fu r3 l0 l1 (0 : Int32)
  )
set_option maxRecDepth 4000 in
set_option maxHeartbeats 1000000 in
theorem vlp_Md_runsDry_21 {E : En} {g : Gl} {tb : Tb} {ρ : Nat → Nat} (ok : TbOK tb) (hi : inj tb ρ) {r : Int32 × Hp} (X : CX E g tb ρ prog_14_method_92_code 3 RC12 6 147) (Y : CQ E g tb ρ (some .int) (some (.int r.1)) r.2) : ∀ (n : Nat) (h : Hp) (l0 : Nat) (l1 : Int32) (l2 : Int32) (kl0 : kd tb l0 = 12), lp_Md_runsDry_21 tb n h l0 l1 l2 = some r → V E g tb ρ 3 21 [(0, .ref (ρ l0)), (1, .int l1), (2, .int l2)] [] h := by
  intro n
  induction n with
  | zero =>
    intro h l0 l1 l2 kl0 hf
    rw [lp_Md_runsDry_21] at hf
    cases hf
  | succ n ih =>
    intro h l0 l1 l2 kl0 hf
    rw [lp_Md_runsDry_21] at hf
    refine v_iload_n (pc := 21) (k := 2) X (by decide +kernel) 2 rfl ?_
    refine v_sipush (pc := 22) (n := 200) X (by decide +kernel) si_200 ?_
    refine v_icmp_ge (pc := 25) (off := 28) (tgt := 53) X (by decide +kernel) (by decide) (fun q5 => ?_) (fun q5 => ?_)
    · rw [if_pos q5] at hf
      refine v_bipush (pc := 53) (n := -2) X (by decide +kernel) bi_m2 ?_
      cases hf
      exact v_iret X Y (by decide +kernel) rfl rfl
    · rw [if_neg q5] at hf
      refine v_aload_n (pc := 28) (k := 0) X (by decide +kernel) 0 rfl ?_
      refine v_geta (pc := 29) X fl_12_112 kl0 fk_12_60 (by decide +kernel) ?_
      refine v_bipush (pc := 32) (n := 6) X (by decide +kernel) bi_6 ?_
      refine v_iload_n (pc := 34) (k := 1) X (by decide +kernel) 1 rfl ?_
      refine v_iadd (pc := 35) X (by decide +kernel) ?_
      obtain ⟨x1, ex1, hf⟩ := bnd_e hf
      refine v_iald (pc := 36) X (ly_12_60 ok kl0) ex1 (by decide +kernel) ?_
      refine v_if_ne (pc := 37) (off := 5) (tgt := 42) X (by decide +kernel) (by decide) (fun q4 => ?_) (fun q4 => ?_)
      · rw [if_neg q4] at hf
        refine v_aload_n (pc := 42) (k := 0) X (by decide +kernel) 0 rfl ?_
        refine v_iconst (pc := 43) (n := 1) X (by decide +kernel) ic_1 ?_
        obtain ⟨r2, er2, hf⟩ := bnd_e hf
        refine v_callV (pc := 44) (As := [.int (1 : Int32)]) (rest := []) X (mt_Md_hourGoes ok hi kl0 er2) ml_12_456 mv_Md_hourGoes kl0 cls_12 rfl ⟨Nat.le_of_ble_eq_true rfl, Nat.le_of_ble_eq_true rfl⟩ rfl rfl (Nat.le_of_ble_eq_true rfl) (by decide +kernel) ?_
        change V E g tb ρ 3 47 [(0, .ref (ρ l0)), (1, .int l1), (2, .int l2)] [] r2
        obtain ⟨x3, ex3, hf⟩ := nmd_e hf
        refine v_iinc (pc := 47) (k := 2) (n := 1) (v := x3) (lv' := [(2, .int x3), (0, .ref (ρ l0)), (1, .int l1)]) X (by decide +kernel) 2 rfl (by rw [ic_1, ex3]) (Nat.le_of_ble_eq_true rfl) rfl ?_
        refine v_goto (pc := 50) (off := -29) (tgt := 21) X (by decide +kernel) (by decide) ?_
        refine v_sub [1, 2, 0] rfl ?_
        exact ih r2 l0 l1 x3 kl0 hf
      · rw [if_pos q4] at hf
        refine v_iload_n (pc := 40) (k := 2) X (by decide +kernel) 2 rfl ?_
        cases hf
        exact v_iret X Y (by decide +kernel) rfl rfl
set_option maxRecDepth 4000 in
set_option maxHeartbeats 1000000 in
theorem mt_Md_runsDry {g : Gl} {tb : Tb} {ρ : Nat → Nat} (ok : TbOK tb) (hi : inj tb ρ) {h : Hp} {l0 : Nat} {l1 : Int32} (kl0 : kd tb l0 = 12) {r : Int32 × Hp} (hf : f_Md_runsDry tb h l0 l1 = some r) : MT g y_Md_runsDry prog_14_method_92_code 3 (some .int) 6 147 tb ρ [.ref (ρ l0), .int l1] h (some (.int r.1)) r.2 := by
  refine mt_intro (by decide +kernel) ok hi (Nat.le_of_ble_eq_true rfl) (fun E X Y => ?_)
  change V E g tb ρ 3 0 [(0, .ref (ρ l0)), (1, .int l1)] [] h
  unfold f_Md_runsDry at hf
  refine v_aload_n (pc := 0) (k := 0) X (by decide +kernel) 0 rfl ?_
  refine v_iconst (pc := 1) (n := 0) X (by decide +kernel) ic_0 ?_
  obtain ⟨h1, eh1, hf⟩ := nmd_e hf
  refine v_puti (pc := 2) X fp_12_160 kl0 rfl (by decide +kernel) eh1 ?_
  refine v_aload_n (pc := 5) (k := 0) X (by decide +kernel) 0 rfl ?_
  refine v_iload_n (pc := 6) (k := 1) X (by decide +kernel) 1 rfl ?_
  obtain ⟨r2, er2, hf⟩ := nmd_e hf
  refine v_callV (pc := 7) (As := [.int l1]) (rest := []) X (mt_Md_isTrough ok hi kl0 er2.symm) ml_12_465 mv_Md_isTrough kl0 cls_12 rfl ⟨Nat.le_of_ble_eq_true rfl, Nat.le_of_ble_eq_true rfl⟩ rfl rfl (Nat.le_of_ble_eq_true rfl) (by decide +kernel) ?_
  change V E g tb ρ 3 10 [(0, .ref (ρ l0)), (1, .int l1)] [.int r2] h1
  refine v_if_ne (pc := 10) (off := 5) (tgt := 15) X (by decide +kernel) (by decide) (fun q4 => ?_) (fun q4 => ?_)
  · rw [if_neg q4] at hf
    refine v_aload_n (pc := 15) (k := 0) X (by decide +kernel) 0 rfl ?_
    obtain ⟨r3, er3, hf⟩ := bnd_e hf
    refine v_callV (pc := 16) (As := []) (rest := []) X (mt_Md_layTried ok hi kl0 er3) ml_12_473 mv_Md_layTried kl0 cls_12 rfl ⟨Nat.le_of_ble_eq_true rfl, Nat.le_of_ble_eq_true rfl⟩ rfl rfl (Nat.le_of_ble_eq_true rfl) (by decide +kernel) ?_
    change V E g tb ρ 3 19 [(0, .ref (ρ l0)), (1, .int l1)] [] r3
    refine v_iconst (pc := 19) (n := 0) X (by decide +kernel) ic_0 ?_
    refine v_istore_n (pc := 20) (k := 2) (lv' := [(2, .int (0 : Int32)), (0, .ref (ρ l0)), (1, .int l1)]) X (by decide +kernel) (Nat.le_of_ble_eq_true rfl) rfl ?_
    refine v_sub [1, 2, 0] rfl ?_
    exact vlp_Md_runsDry_21 ok hi X Y fu r3 l0 l1 (0 : Int32) kl0 hf
  · rw [if_pos q4] at hf
    refine v_iconst (pc := 13) (n := -1) X (by decide +kernel) ic_m1 ?_
    cases hf
    exact v_iret X Y (by decide +kernel) rfl rfl
def f_Md_hasBy (tb : Tb) (h : Hp) (l0 : Nat) (l1 : Int32) (l2 : Int32) (l3 : Int32) (l4 : Int32) : Option (Int32) :=
  if l3 = (0 : Int32) then (
    if l4 = (0 : Int32) then (
      (rI tb h (lay tb l0 30) l1).bind fun x5 =>
      (rI tb h (lay tb l0 30) l2).bind fun x6 =>
      nmd (f_Md_sizeOf tb h (x5 - x6)) fun r7 =>
      some ((10 : Int32) - r7)
    ) else (
      (rI tb h (lay tb l0 55) l1).bind fun x4 =>
      some (x4 / (5 : Int32))
    )
  ) else (
    if l4 = (0 : Int32) then (
      (rI tb h (lay tb l0 33) l1).bind fun x2 =>
      some x2
    ) else (
      (rI tb h (lay tb l0 33) l1).bind fun x1 =>
      some (x1 / (2 : Int32))
    )
  )
set_option maxRecDepth 4000 in
set_option maxHeartbeats 1000000 in
theorem mt_Md_hasBy {g : Gl} {tb : Tb} {ρ : Nat → Nat} (ok : TbOK tb) (hi : inj tb ρ) {h : Hp} {l0 : Nat} {l1 : Int32} {l2 : Int32} {l3 : Int32} {l4 : Int32} (kl0 : kd tb l0 = 12) {r : Int32} (hf : f_Md_hasBy tb h l0 l1 l2 l3 l4 = some r) : MT g y_Md_hasBy prog_14_method_93_code 5 (some .int) 1 20 tb ρ [.ref (ρ l0), .int l1, .int l2, .int l3, .int l4] h (some (.int r)) h := by
  refine mt_intro (by decide +kernel) ok hi (Nat.le_of_ble_eq_true rfl) (fun E X Y => ?_)
  change V E g tb ρ 5 0 [(0, .ref (ρ l0)), (1, .int l1), (2, .int l2), (3, .int l3), (4, .int l4)] [] h
  unfold f_Md_hasBy at hf
  refine v_iload_n (pc := 0) (k := 3) X (by decide +kernel) 3 rfl ?_
  refine v_if_ne (pc := 1) (off := 39) (tgt := 40) X (by decide +kernel) (by decide) (fun q9 => ?_) (fun q9 => ?_)
  · rw [if_neg q9] at hf
    refine v_iload (pc := 40) (k := 4) X (by decide +kernel) 4 rfl ?_
    refine v_if_ne (pc := 42) (off := 12) (tgt := 54) X (by decide +kernel) (by decide) (fun q3 => ?_) (fun q3 => ?_)
    · rw [if_neg q3] at hf
      refine v_aload_n (pc := 54) (k := 0) X (by decide +kernel) 0 rfl ?_
      refine v_geta (pc := 55) X fl_12_51 kl0 fk_12_33 (by decide +kernel) ?_
      refine v_iload_n (pc := 58) (k := 1) X (by decide +kernel) 1 rfl ?_
      obtain ⟨x1, ex1, hf⟩ := bnd_e hf
      refine v_iald (pc := 59) X (ly_12_33 ok kl0) ex1 (by decide +kernel) ?_
      refine v_iconst (pc := 60) (n := 2) X (by decide +kernel) ic_2 ?_
      refine v_idiv (pc := 61) X (if_neg (by decide)) (by decide +kernel) ?_
      cases hf
      exact v_iret X Y (by decide +kernel) rfl rfl
    · rw [if_pos q3] at hf
      refine v_aload_n (pc := 45) (k := 0) X (by decide +kernel) 0 rfl ?_
      refine v_geta (pc := 46) X fl_12_51 kl0 fk_12_33 (by decide +kernel) ?_
      refine v_iload_n (pc := 49) (k := 1) X (by decide +kernel) 1 rfl ?_
      obtain ⟨x2, ex2, hf⟩ := bnd_e hf
      refine v_iald (pc := 50) X (ly_12_33 ok kl0) ex2 (by decide +kernel) ?_
      refine v_goto (pc := 51) (off := 11) (tgt := 62) X (by decide +kernel) (by decide) ?_
      cases hf
      exact v_iret X Y (by decide +kernel) rfl rfl
  · rw [if_pos q9] at hf
    refine v_iload (pc := 4) (k := 4) X (by decide +kernel) 4 rfl ?_
    refine v_if_ne (pc := 6) (off := 25) (tgt := 31) X (by decide +kernel) (by decide) (fun q8 => ?_) (fun q8 => ?_)
    · rw [if_neg q8] at hf
      refine v_aload_n (pc := 31) (k := 0) X (by decide +kernel) 0 rfl ?_
      refine v_geta (pc := 32) X fl_12_97 kl0 fk_12_55 (by decide +kernel) ?_
      refine v_iload_n (pc := 35) (k := 1) X (by decide +kernel) 1 rfl ?_
      obtain ⟨x4, ex4, hf⟩ := bnd_e hf
      refine v_iald (pc := 36) X (ly_12_55 ok kl0) ex4 (by decide +kernel) ?_
      refine v_iconst (pc := 37) (n := 5) X (by decide +kernel) ic_5 ?_
      refine v_idiv (pc := 38) X (if_neg (by decide)) (by decide +kernel) ?_
      cases hf
      exact v_iret X Y (by decide +kernel) rfl rfl
    · rw [if_pos q8] at hf
      refine v_bipush (pc := 9) (n := 10) X (by decide +kernel) bi_10 ?_
      refine v_aload_n (pc := 11) (k := 0) X (by decide +kernel) 0 rfl ?_
      refine v_geta (pc := 12) X fl_12_42 kl0 fk_12_30 (by decide +kernel) ?_
      refine v_iload_n (pc := 15) (k := 1) X (by decide +kernel) 1 rfl ?_
      obtain ⟨x5, ex5, hf⟩ := bnd_e hf
      refine v_iald (pc := 16) X (ly_12_30 ok kl0) ex5 (by decide +kernel) ?_
      refine v_aload_n (pc := 17) (k := 0) X (by decide +kernel) 0 rfl ?_
      refine v_geta (pc := 18) X fl_12_42 kl0 fk_12_30 (by decide +kernel) ?_
      refine v_iload_n (pc := 21) (k := 2) X (by decide +kernel) 2 rfl ?_
      obtain ⟨x6, ex6, hf⟩ := bnd_e hf
      refine v_iald (pc := 22) X (ly_12_30 ok kl0) ex6 (by decide +kernel) ?_
      refine v_isub (pc := 23) X (by decide +kernel) ?_
      obtain ⟨r7, er7, hf⟩ := nmd_e hf
      refine v_callS (pc := 24) (As := [.int (x5 - x6)]) (rest := [.int (10 : Int32)]) X (mt_Md_sizeOf ok hi er7.symm) ml_12_398 ms_Md_sizeOf ⟨Nat.le_of_ble_eq_true rfl, Nat.le_of_ble_eq_true rfl⟩ rfl rfl (Nat.le_of_ble_eq_true rfl) (by decide +kernel) ?_
      change V E g tb ρ 5 27 [(0, .ref (ρ l0)), (1, .int l1), (2, .int l2), (3, .int l3), (4, .int l4)] [.int r7, .int (10 : Int32)] h
      refine v_isub (pc := 27) X (by decide +kernel) ?_
      refine v_goto (pc := 28) (off := 11) (tgt := 39) X (by decide +kernel) (by decide) ?_
      cases hf
      exact v_iret X Y (by decide +kernel) rfl rfl
def jb_Md_restAt_95 (tb : Tb) (c6 : Hp → Nat → Int32 → Int32 → Int32 → Int32 → Int32 → Option (Int32)) (h : Hp) (l0 : Nat) (l1 : Int32) (l2 : Int32) (l3 : Int32) (l4 : Int32) (l5 : Int32) : Option (Int32) :=
  nmd (l5 + (1 : Int32)) fun x1 =>
  c6 h l0 l1 l2 l3 l4 x1
def lp_Md_restAt_6 (tb : Tb) : Nat → Hp → Nat → Int32 → Int32 → Int32 → Int32 → Int32 → Option (Int32)
  | 0, _, _, _, _, _, _, _ => none
  | n + 1, h, l0, l1, l2, l3, l4, l5 =>
    if (4 : Int32) ≤ l5 then (
      if (0 : Int32) ≤ l3 then (
        some (-2 : Int32)
      ) else (
        some l4
      )
    ) else (
      nmd (l5 / (2 : Int32)) fun x2 =>
      nmd (l5 - l5 / (2 : Int32) * (2 : Int32)) fun x3 =>
      (f_Md_hasBy tb h l0 l1 l2 ((1 : Int32) - x2) x3).bind fun r4 =>
      (f_Md_hasBy tb h l0 l1 l2 x2 x3).bind fun r5 =>
      if r5 < r4 then (
        jb_Md_restAt_95 tb (lp_Md_restAt_6 tb n) h l0 l1 l2 l3 l4 l5
      ) else (
        (f_Md_hasBy tb h l0 l2 l1 ((1 : Int32) - x3) x2).bind fun r6 =>
        (f_Md_hasBy tb h l0 l2 l1 x3 x2).bind fun r7 =>
        if r6 ≤ r7 then (
          if l4 = l3 then (
            some (((10 : Int32) * x2) + x3)
          ) else (
            nmd (l4 + (1 : Int32)) fun x8 =>
            jb_Md_restAt_95 tb (lp_Md_restAt_6 tb n) h l0 l1 l2 l3 x8 l5
          )
        ) else (
          jb_Md_restAt_95 tb (lp_Md_restAt_6 tb n) h l0 l1 l2 l3 l4 l5
        )
      )
    )
def f_Md_restAt (tb : Tb) (h : Hp) (l0 : Nat) (l1 : Int32) (l2 : Int32) (l3 : Int32) : Option (Int32) :=
  lp_Md_restAt_6 tb fu h l0 l1 l2 l3 (0 : Int32) (0 : Int32)
set_option maxRecDepth 4000 in
set_option maxHeartbeats 1000000 in
theorem vjb_Md_restAt_95 {E : En} {g : Gl} {tb : Tb} {ρ : Nat → Nat} (ok : TbOK tb) (hi : inj tb ρ) {r : Int32} (X : CX E g tb ρ prog_14_method_94_code 8 RC12 2 44) {h : Hp} (Y : CQ E g tb ρ (some .int) (some (.int r)) h) {c6 : Hp → Nat → Int32 → Int32 → Int32 → Int32 → Int32 → Option (Int32)} (H6 : ∀ (l0 : Nat) (l1 : Int32) (l2 : Int32) (l3 : Int32) (l4 : Int32) (l5 : Int32) (kl0 : kd tb l0 = 12), c6 h l0 l1 l2 l3 l4 l5 = some r → V E g tb ρ 8 6 [(0, .ref (ρ l0)), (1, .int l1), (2, .int l2), (3, .int l3), (4, .int l4), (5, .int l5)] [] h) (l0 : Nat) (l1 : Int32) (l2 : Int32) (l3 : Int32) (l4 : Int32) (l5 : Int32) (kl0 : kd tb l0 = 12) (hf : jb_Md_restAt_95 tb c6 h l0 l1 l2 l3 l4 l5 = some r) : V E g tb ρ 8 95 [(0, .ref (ρ l0)), (1, .int l1), (2, .int l2), (3, .int l3), (4, .int l4), (5, .int l5)] [] h := by
  unfold jb_Md_restAt_95 at hf
  obtain ⟨x1, ex1, hf⟩ := nmd_e hf
  refine v_iinc (pc := 95) (k := 5) (n := 1) (v := x1) (lv' := [(5, .int x1), (0, .ref (ρ l0)), (1, .int l1), (2, .int l2), (3, .int l3), (4, .int l4)]) X (by decide +kernel) 5 rfl (by rw [ic_1, ex1]) (Nat.le_of_ble_eq_true rfl) rfl ?_
  refine v_goto (pc := 98) (off := -92) (tgt := 6) X (by decide +kernel) (by decide) ?_
  refine v_sub [1, 2, 3, 4, 5, 0] rfl ?_
  exact H6 l0 l1 l2 l3 l4 x1 kl0 hf
set_option maxRecDepth 4000 in
set_option maxHeartbeats 1000000 in
theorem vlp_Md_restAt_6 {E : En} {g : Gl} {tb : Tb} {ρ : Nat → Nat} (ok : TbOK tb) (hi : inj tb ρ) {r : Int32} (X : CX E g tb ρ prog_14_method_94_code 8 RC12 2 44) {h : Hp} (Y : CQ E g tb ρ (some .int) (some (.int r)) h) : ∀ (n : Nat) (l0 : Nat) (l1 : Int32) (l2 : Int32) (l3 : Int32) (l4 : Int32) (l5 : Int32) (kl0 : kd tb l0 = 12), lp_Md_restAt_6 tb n h l0 l1 l2 l3 l4 l5 = some r → V E g tb ρ 8 6 [(0, .ref (ρ l0)), (1, .int l1), (2, .int l2), (3, .int l3), (4, .int l4), (5, .int l5)] [] h := by
  intro n
  induction n with
  | zero =>
    intro l0 l1 l2 l3 l4 l5 kl0 hf
    rw [lp_Md_restAt_6] at hf
    cases hf
  | succ n ih =>
    intro l0 l1 l2 l3 l4 l5 kl0 hf
    rw [lp_Md_restAt_6] at hf
    refine v_iload (pc := 6) (k := 5) X (by decide +kernel) 5 rfl ?_
    refine v_iconst (pc := 8) (n := 4) X (by decide +kernel) ic_4 ?_
    refine v_icmp_ge (pc := 9) (off := 92) (tgt := 101) X (by decide +kernel) (by decide) (fun q12 => ?_) (fun q12 => ?_)
    · rw [if_pos q12] at hf
      refine v_iload_n (pc := 101) (k := 3) X (by decide +kernel) 3 rfl ?_
      refine v_if_ge (pc := 102) (off := 8) (tgt := 110) X (by decide +kernel) (by decide) (fun q1 => ?_) (fun q1 => ?_)
      · rw [if_pos q1] at hf
        refine v_bipush (pc := 110) (n := -2) X (by decide +kernel) bi_m2 ?_
        cases hf
        exact v_iret X Y (by decide +kernel) rfl rfl
      · rw [if_neg q1] at hf
        refine v_iload (pc := 105) (k := 4) X (by decide +kernel) 4 rfl ?_
        refine v_goto (pc := 107) (off := 5) (tgt := 112) X (by decide +kernel) (by decide) ?_
        cases hf
        exact v_iret X Y (by decide +kernel) rfl rfl
    · rw [if_neg q12] at hf
      refine v_iload (pc := 12) (k := 5) X (by decide +kernel) 5 rfl ?_
      refine v_iconst (pc := 14) (n := 2) X (by decide +kernel) ic_2 ?_
      refine v_idiv (pc := 15) X (if_neg (by decide)) (by decide +kernel) ?_
      obtain ⟨x2, ex2, hf⟩ := nmd_e hf
      refine v_nmi ex2 ?_
      refine v_istore (pc := 16) (k := 6) (lv' := [(6, .int x2), (0, .ref (ρ l0)), (1, .int l1), (2, .int l2), (3, .int l3), (4, .int l4), (5, .int l5)]) X (by decide +kernel) (Nat.le_of_ble_eq_true rfl) rfl ?_
      refine v_iload (pc := 18) (k := 5) X (by decide +kernel) 6 rfl ?_
      refine v_iconst (pc := 20) (n := 2) X (by decide +kernel) ic_2 ?_
      refine v_irem (pc := 21) X (if_neg (by decide)) (by decide +kernel) ?_
      obtain ⟨x3, ex3, hf⟩ := nmd_e hf
      refine v_nmi ex3 ?_
      refine v_istore (pc := 22) (k := 7) (lv' := [(7, .int x3), (6, .int x2), (0, .ref (ρ l0)), (1, .int l1), (2, .int l2), (3, .int l3), (4, .int l4), (5, .int l5)]) X (by decide +kernel) (Nat.le_of_ble_eq_true rfl) rfl ?_
      refine v_aload_n (pc := 24) (k := 0) X (by decide +kernel) 2 rfl ?_
      refine v_iload_n (pc := 25) (k := 1) X (by decide +kernel) 3 rfl ?_
      refine v_iload_n (pc := 26) (k := 2) X (by decide +kernel) 4 rfl ?_
      refine v_iconst (pc := 27) (n := 1) X (by decide +kernel) ic_1 ?_
      refine v_iload (pc := 28) (k := 6) X (by decide +kernel) 1 rfl ?_
      refine v_isub (pc := 30) X (by decide +kernel) ?_
      refine v_iload (pc := 31) (k := 7) X (by decide +kernel) 0 rfl ?_
      obtain ⟨r4, er4, hf⟩ := bnd_e hf
      refine v_callV (pc := 33) (As := [.int l1, .int l2, .int ((1 : Int32) - x2), .int x3]) (rest := []) X (mt_Md_hasBy ok hi kl0 er4) ml_12_498 mv_Md_hasBy kl0 cls_12 rfl ⟨Nat.le_of_ble_eq_true rfl, Nat.le_of_ble_eq_true rfl⟩ rfl rfl (Nat.le_of_ble_eq_true rfl) (by decide +kernel) ?_
      change V E g tb ρ 8 36 [(7, .int x3), (6, .int x2), (0, .ref (ρ l0)), (1, .int l1), (2, .int l2), (3, .int l3), (4, .int l4), (5, .int l5)] [.int r4] h
      refine v_aload_n (pc := 36) (k := 0) X (by decide +kernel) 2 rfl ?_
      refine v_iload_n (pc := 37) (k := 1) X (by decide +kernel) 3 rfl ?_
      refine v_iload_n (pc := 38) (k := 2) X (by decide +kernel) 4 rfl ?_
      refine v_iload (pc := 39) (k := 6) X (by decide +kernel) 1 rfl ?_
      refine v_iload (pc := 41) (k := 7) X (by decide +kernel) 0 rfl ?_
      obtain ⟨r5, er5, hf⟩ := bnd_e hf
      refine v_callV (pc := 43) (As := [.int l1, .int l2, .int x2, .int x3]) (rest := [.int r4]) X (mt_Md_hasBy ok hi kl0 er5) ml_12_498 mv_Md_hasBy kl0 cls_12 rfl ⟨Nat.le_of_ble_eq_true rfl, Nat.le_of_ble_eq_true rfl⟩ rfl rfl (Nat.le_of_ble_eq_true rfl) (by decide +kernel) ?_
      change V E g tb ρ 8 46 [(7, .int x3), (6, .int x2), (0, .ref (ρ l0)), (1, .int l1), (2, .int l2), (3, .int l3), (4, .int l4), (5, .int l5)] [.int r5, .int r4] h
      refine v_icmp_gt (pc := 46) (off := 49) (tgt := 95) X (by decide +kernel) (by decide) (fun q11 => ?_) (fun q11 => ?_)
      · rw [if_pos q11] at hf
        refine v_sub [2, 3, 4, 5, 6, 7] rfl ?_
        exact vjb_Md_restAt_95 ok hi X Y ih l0 l1 l2 l3 l4 l5 kl0 hf
      · rw [if_neg q11] at hf
        refine v_aload_n (pc := 49) (k := 0) X (by decide +kernel) 2 rfl ?_
        refine v_iload_n (pc := 50) (k := 2) X (by decide +kernel) 4 rfl ?_
        refine v_iload_n (pc := 51) (k := 1) X (by decide +kernel) 3 rfl ?_
        refine v_iconst (pc := 52) (n := 1) X (by decide +kernel) ic_1 ?_
        refine v_iload (pc := 53) (k := 7) X (by decide +kernel) 0 rfl ?_
        refine v_isub (pc := 55) X (by decide +kernel) ?_
        refine v_iload (pc := 56) (k := 6) X (by decide +kernel) 1 rfl ?_
        obtain ⟨r6, er6, hf⟩ := bnd_e hf
        refine v_callV (pc := 58) (As := [.int l2, .int l1, .int ((1 : Int32) - x3), .int x2]) (rest := []) X (mt_Md_hasBy ok hi kl0 er6) ml_12_498 mv_Md_hasBy kl0 cls_12 rfl ⟨Nat.le_of_ble_eq_true rfl, Nat.le_of_ble_eq_true rfl⟩ rfl rfl (Nat.le_of_ble_eq_true rfl) (by decide +kernel) ?_
        change V E g tb ρ 8 61 [(7, .int x3), (6, .int x2), (0, .ref (ρ l0)), (1, .int l1), (2, .int l2), (3, .int l3), (4, .int l4), (5, .int l5)] [.int r6] h
        refine v_aload_n (pc := 61) (k := 0) X (by decide +kernel) 2 rfl ?_
        refine v_iload_n (pc := 62) (k := 2) X (by decide +kernel) 4 rfl ?_
        refine v_iload_n (pc := 63) (k := 1) X (by decide +kernel) 3 rfl ?_
        refine v_iload (pc := 64) (k := 7) X (by decide +kernel) 0 rfl ?_
        refine v_iload (pc := 66) (k := 6) X (by decide +kernel) 1 rfl ?_
        obtain ⟨r7, er7, hf⟩ := bnd_e hf
        refine v_callV (pc := 68) (As := [.int l2, .int l1, .int x3, .int x2]) (rest := [.int r6]) X (mt_Md_hasBy ok hi kl0 er7) ml_12_498 mv_Md_hasBy kl0 cls_12 rfl ⟨Nat.le_of_ble_eq_true rfl, Nat.le_of_ble_eq_true rfl⟩ rfl rfl (Nat.le_of_ble_eq_true rfl) (by decide +kernel) ?_
        change V E g tb ρ 8 71 [(7, .int x3), (6, .int x2), (0, .ref (ρ l0)), (1, .int l1), (2, .int l2), (3, .int l3), (4, .int l4), (5, .int l5)] [.int r7, .int r6] h
        refine v_icmp_le (pc := 71) (off := 6) (tgt := 77) X (by decide +kernel) (by decide) (fun q10 => ?_) (fun q10 => ?_)
        · rw [if_pos q10] at hf
          refine v_iload (pc := 77) (k := 4) X (by decide +kernel) 6 rfl ?_
          refine v_iload_n (pc := 79) (k := 3) X (by decide +kernel) 5 rfl ?_
          refine v_icmp_ne (pc := 80) (off := 12) (tgt := 92) X (by decide +kernel) (by decide) (fun q9 => ?_) (fun q9 => ?_)
          · rw [if_neg q9] at hf
            obtain ⟨x8, ex8, hf⟩ := nmd_e hf
            refine v_iinc (pc := 92) (k := 4) (n := 1) (v := x8) (lv' := [(4, .int x8), (7, .int x3), (6, .int x2), (0, .ref (ρ l0)), (1, .int l1), (2, .int l2), (3, .int l3), (5, .int l5)]) X (by decide +kernel) 6 rfl (by rw [ic_1, ex8]) (Nat.le_of_ble_eq_true rfl) rfl ?_
            refine v_sub [3, 4, 5, 6, 0, 7] rfl ?_
            exact vjb_Md_restAt_95 ok hi X Y ih l0 l1 l2 l3 x8 l5 kl0 hf
          · rw [if_pos q9] at hf
            refine v_bipush (pc := 83) (n := 10) X (by decide +kernel) bi_10 ?_
            refine v_iload (pc := 85) (k := 6) X (by decide +kernel) 1 rfl ?_
            refine v_imul (pc := 87) X (by decide +kernel) ?_
            refine v_iload (pc := 88) (k := 7) X (by decide +kernel) 0 rfl ?_
            refine v_iadd (pc := 90) X (by decide +kernel) ?_
            cases hf
            exact v_iret X Y (by decide +kernel) rfl rfl
        · rw [if_neg q10] at hf
          refine v_goto (pc := 74) (off := 21) (tgt := 95) X (by decide +kernel) (by decide) ?_
          refine v_sub [2, 3, 4, 5, 6, 7] rfl ?_
          exact vjb_Md_restAt_95 ok hi X Y ih l0 l1 l2 l3 l4 l5 kl0 hf
set_option maxRecDepth 4000 in
set_option maxHeartbeats 1000000 in
theorem mt_Md_restAt {g : Gl} {tb : Tb} {ρ : Nat → Nat} (ok : TbOK tb) (hi : inj tb ρ) {h : Hp} {l0 : Nat} {l1 : Int32} {l2 : Int32} {l3 : Int32} (kl0 : kd tb l0 = 12) {r : Int32} (hf : f_Md_restAt tb h l0 l1 l2 l3 = some r) : MT g y_Md_restAt prog_14_method_94_code 8 (some .int) 2 44 tb ρ [.ref (ρ l0), .int l1, .int l2, .int l3] h (some (.int r)) h := by
  refine mt_intro (by decide +kernel) ok hi (Nat.le_of_ble_eq_true rfl) (fun E X Y => ?_)
  change V E g tb ρ 8 0 [(0, .ref (ρ l0)), (1, .int l1), (2, .int l2), (3, .int l3)] [] h
  unfold f_Md_restAt at hf
  refine v_iconst (pc := 0) (n := 0) X (by decide +kernel) ic_0 ?_
  refine v_istore (pc := 1) (k := 4) (lv' := [(4, .int (0 : Int32)), (0, .ref (ρ l0)), (1, .int l1), (2, .int l2), (3, .int l3)]) X (by decide +kernel) (Nat.le_of_ble_eq_true rfl) rfl ?_
  refine v_iconst (pc := 3) (n := 0) X (by decide +kernel) ic_0 ?_
  refine v_istore (pc := 4) (k := 5) (lv' := [(5, .int (0 : Int32)), (4, .int (0 : Int32)), (0, .ref (ρ l0)), (1, .int l1), (2, .int l2), (3, .int l3)]) X (by decide +kernel) (Nat.le_of_ble_eq_true rfl) rfl ?_
  refine v_sub [2, 3, 4, 5, 1, 0] rfl ?_
  exact vlp_Md_restAt_6 ok hi X Y fu l0 l1 l2 l3 (0 : Int32) (0 : Int32) kl0 hf
def f_Md_rests (tb : Tb) (h : Hp) (l0 : Nat) (l1 : Int32) (l2 : Int32) : Option (Int32 × Hp) :=
  nmd (pI h l0 2 (0 : Int32)) fun h1 =>
  nmd (f_Md_areTwo tb h1 l0 l1 l2) fun r2 =>
  if r2 = (0 : Int32) then (
    some ((-1 : Int32), h1)
  ) else (
    (f_Md_restAt tb h1 l0 l1 l2 (-1 : Int32)).bind fun r3 =>
    some (r3, h1)
  )
set_option maxRecDepth 4000 in
set_option maxHeartbeats 1000000 in
theorem mt_Md_rests {g : Gl} {tb : Tb} {ρ : Nat → Nat} (ok : TbOK tb) (hi : inj tb ρ) {h : Hp} {l0 : Nat} {l1 : Int32} {l2 : Int32} (kl0 : kd tb l0 = 12) {r : Int32 × Hp} (hf : f_Md_rests tb h l0 l1 l2 = some r) : MT g y_Md_rests prog_14_method_96_code 3 (some .int) 3 71 tb ρ [.ref (ρ l0), .int l1, .int l2] h (some (.int r.1)) r.2 := by
  refine mt_intro (by decide +kernel) ok hi (Nat.le_of_ble_eq_true rfl) (fun E X Y => ?_)
  change V E g tb ρ 3 0 [(0, .ref (ρ l0)), (1, .int l1), (2, .int l2)] [] h
  unfold f_Md_rests at hf
  refine v_aload_n (pc := 0) (k := 0) X (by decide +kernel) 0 rfl ?_
  refine v_iconst (pc := 1) (n := 0) X (by decide +kernel) ic_0 ?_
  obtain ⟨h1, eh1, hf⟩ := nmd_e hf
  refine v_puti (pc := 2) X fp_12_160 kl0 rfl (by decide +kernel) eh1 ?_
  refine v_aload_n (pc := 5) (k := 0) X (by decide +kernel) 0 rfl ?_
  refine v_iload_n (pc := 6) (k := 1) X (by decide +kernel) 1 rfl ?_
  refine v_iload_n (pc := 7) (k := 2) X (by decide +kernel) 2 rfl ?_
  obtain ⟨r2, er2, hf⟩ := nmd_e hf
  refine v_callV (pc := 8) (As := [.int l1, .int l2]) (rest := []) X (mt_Md_areTwo ok hi kl0 er2.symm) ml_12_482 mv_Md_areTwo kl0 cls_12 rfl ⟨Nat.le_of_ble_eq_true rfl, Nat.le_of_ble_eq_true rfl⟩ rfl rfl (Nat.le_of_ble_eq_true rfl) (by decide +kernel) ?_
  change V E g tb ρ 3 11 [(0, .ref (ρ l0)), (1, .int l1), (2, .int l2)] [.int r2] h1
  refine v_if_eq (pc := 11) (off := 13) (tgt := 24) X (by decide +kernel) (by decide) (fun q4 => ?_) (fun q4 => ?_)
  · rw [if_pos q4] at hf
    refine v_iconst (pc := 24) (n := -1) X (by decide +kernel) ic_m1 ?_
    cases hf
    exact v_iret X Y (by decide +kernel) rfl rfl
  · rw [if_neg q4] at hf
    refine v_aload_n (pc := 14) (k := 0) X (by decide +kernel) 0 rfl ?_
    refine v_iload_n (pc := 15) (k := 1) X (by decide +kernel) 1 rfl ?_
    refine v_iload_n (pc := 16) (k := 2) X (by decide +kernel) 2 rfl ?_
    refine v_iconst (pc := 17) (n := -1) X (by decide +kernel) ic_m1 ?_
    obtain ⟨r3, er3, hf⟩ := bnd_e hf
    refine v_callV (pc := 18) (As := [.int l1, .int l2, .int (-1 : Int32)]) (rest := []) X (mt_Md_restAt ok hi kl0 er3) ml_12_501 mv_Md_restAt kl0 cls_12 rfl ⟨Nat.le_of_ble_eq_true rfl, Nat.le_of_ble_eq_true rfl⟩ rfl rfl (Nat.le_of_ble_eq_true rfl) (by decide +kernel) ?_
    change V E g tb ρ 3 21 [(0, .ref (ρ l0)), (1, .int l1), (2, .int l2)] [.int r3] h1
    refine v_goto (pc := 21) (off := 4) (tgt := 25) X (by decide +kernel) (by decide) ?_
    cases hf
    exact v_iret X Y (by decide +kernel) rfl rfl
def f_Md_rest (tb : Tb) (h : Hp) (l0 : Nat) (l1 : Int32) (l2 : Int32) (l3 : Int32) : Option (Int32 × Hp) :=
  nmd (pI h l0 2 (0 : Int32)) fun h1 =>
  nmd (f_Md_areTwo tb h1 l0 l1 l2) fun r2 =>
  if r2 = (0 : Int32) then (
    some ((-1 : Int32), h1)
  ) else (
    if l3 < (0 : Int32) then (
      some ((-1 : Int32), h1)
    ) else (
      (f_Md_restAt tb h1 l0 l1 l2 l3).bind fun r3 =>
      some (r3, h1)
    )
  )
set_option maxRecDepth 4000 in
set_option maxHeartbeats 1000000 in
theorem mt_Md_rest {g : Gl} {tb : Tb} {ρ : Nat → Nat} (ok : TbOK tb) (hi : inj tb ρ) {h : Hp} {l0 : Nat} {l1 : Int32} {l2 : Int32} {l3 : Int32} (kl0 : kd tb l0 = 12) {r : Int32 × Hp} (hf : f_Md_rest tb h l0 l1 l2 l3 = some r) : MT g y_Md_rest prog_14_method_97_code 4 (some .int) 3 71 tb ρ [.ref (ρ l0), .int l1, .int l2, .int l3] h (some (.int r.1)) r.2 := by
  refine mt_intro (by decide +kernel) ok hi (Nat.le_of_ble_eq_true rfl) (fun E X Y => ?_)
  change V E g tb ρ 4 0 [(0, .ref (ρ l0)), (1, .int l1), (2, .int l2), (3, .int l3)] [] h
  unfold f_Md_rest at hf
  refine v_aload_n (pc := 0) (k := 0) X (by decide +kernel) 0 rfl ?_
  refine v_iconst (pc := 1) (n := 0) X (by decide +kernel) ic_0 ?_
  obtain ⟨h1, eh1, hf⟩ := nmd_e hf
  refine v_puti (pc := 2) X fp_12_160 kl0 rfl (by decide +kernel) eh1 ?_
  refine v_aload_n (pc := 5) (k := 0) X (by decide +kernel) 0 rfl ?_
  refine v_iload_n (pc := 6) (k := 1) X (by decide +kernel) 1 rfl ?_
  refine v_iload_n (pc := 7) (k := 2) X (by decide +kernel) 2 rfl ?_
  obtain ⟨r2, er2, hf⟩ := nmd_e hf
  refine v_callV (pc := 8) (As := [.int l1, .int l2]) (rest := []) X (mt_Md_areTwo ok hi kl0 er2.symm) ml_12_482 mv_Md_areTwo kl0 cls_12 rfl ⟨Nat.le_of_ble_eq_true rfl, Nat.le_of_ble_eq_true rfl⟩ rfl rfl (Nat.le_of_ble_eq_true rfl) (by decide +kernel) ?_
  change V E g tb ρ 4 11 [(0, .ref (ρ l0)), (1, .int l1), (2, .int l2), (3, .int l3)] [.int r2] h1
  refine v_if_eq (pc := 11) (off := 17) (tgt := 28) X (by decide +kernel) (by decide) (fun q5 => ?_) (fun q5 => ?_)
  · rw [if_pos q5] at hf
    refine v_iconst (pc := 28) (n := -1) X (by decide +kernel) ic_m1 ?_
    cases hf
    exact v_iret X Y (by decide +kernel) rfl rfl
  · rw [if_neg q5] at hf
    refine v_iload_n (pc := 14) (k := 3) X (by decide +kernel) 3 rfl ?_
    refine v_if_lt (pc := 15) (off := 13) (tgt := 28) X (by decide +kernel) (by decide) (fun q4 => ?_) (fun q4 => ?_)
    · rw [if_pos q4] at hf
      refine v_iconst (pc := 28) (n := -1) X (by decide +kernel) ic_m1 ?_
      cases hf
      exact v_iret X Y (by decide +kernel) rfl rfl
    · rw [if_neg q4] at hf
      refine v_aload_n (pc := 18) (k := 0) X (by decide +kernel) 0 rfl ?_
      refine v_iload_n (pc := 19) (k := 1) X (by decide +kernel) 1 rfl ?_
      refine v_iload_n (pc := 20) (k := 2) X (by decide +kernel) 2 rfl ?_
      refine v_iload_n (pc := 21) (k := 3) X (by decide +kernel) 3 rfl ?_
      obtain ⟨r3, er3, hf⟩ := bnd_e hf
      refine v_callV (pc := 22) (As := [.int l1, .int l2, .int l3]) (rest := []) X (mt_Md_restAt ok hi kl0 er3) ml_12_501 mv_Md_restAt kl0 cls_12 rfl ⟨Nat.le_of_ble_eq_true rfl, Nat.le_of_ble_eq_true rfl⟩ rfl rfl (Nat.le_of_ble_eq_true rfl) (by decide +kernel) ?_
      change V E g tb ρ 4 25 [(0, .ref (ρ l0)), (1, .int l1), (2, .int l2), (3, .int l3)] [.int r3] h1
      refine v_goto (pc := 25) (off := 4) (tgt := 29) X (by decide +kernel) (by decide) ?_
      cases hf
      exact v_iret X Y (by decide +kernel) rfl rfl
def lp_Md_staysDry_76 (tb : Tb) : Nat → Hp → Int32 → Int64 → Int64 → Int64 → Int64 → Option (Int64 × Hp)
  | 0, _, _, _, _, _, _ => none
  | n + 1, h, l2, l3, l5, l7, l9 =>
    if (lg_cmp l9 (0 : Int64)) = (0 : Int32) then (
      if l2 = (0 : Int32) then (
        (dL l3 l7).bind fun x2 =>
        some (x2, h)
      ) else (
        (dL l5 l7).bind fun x1 =>
        some (x1, h)
      )
    ) else (
      (mL l7 l9).bind fun x4 =>
      lp_Md_staysDry_76 tb n h l2 l3 l5 l9 x4
    )
def lp_Md_staysDry_36 (tb : Tb) : Nat → Hp → Nat → Int32 → Int32 → Int64 → Int64 → Int32 → Option (Int64 × Hp)
  | 0, _, _, _, _, _, _, _ => none
  | n + 1, h, l0, l1, l2, l3, l5, l7 =>
    if l1 ≤ l7 then (
      lp_Md_staysDry_76 tb fu h l2 l3 l5 l5 l3
    ) else (
      (rI tb h (lay tb l0 24) (0 : Int32)).bind fun x1 =>
      nmd (l3 * (((100 : Int32) - x1).toInt64)) fun x2 =>
      nmd (l5 * (100 : Int64)) fun x3 =>
      nmd (l7 + (1 : Int32)) fun x4 =>
      lp_Md_staysDry_36 tb n h l0 l1 l2 x2 x3 x4
    )
def f_Md_staysDry (tb : Tb) (h : Hp) (l0 : Nat) (l1 : Int32) (l2 : Int32) : Option (Int64 × Hp) :=
  nmd (pI h l0 2 (0 : Int32)) fun h1 =>
  nmd (f_Md_isIn tb h1 l1 (0 : Int32) (6 : Int32)) fun r2 =>
  if r2 = (0 : Int32) then (
    some ((-1 : Int64), h1)
  ) else (
    nmd (f_Md_isIn tb h1 l2 (0 : Int32) (1 : Int32)) fun r3 =>
    if r3 = (0 : Int32) then (
      some ((-1 : Int64), h1)
    ) else (
      lp_Md_staysDry_36 tb fu h1 l0 l1 l2 (1 : Int64) (1 : Int64) (0 : Int32)
    )
  )
set_option maxRecDepth 4000 in
set_option maxHeartbeats 1000000 in
theorem vlp_Md_staysDry_76 {E : En} {g : Gl} {tb : Tb} {ρ : Nat → Nat} (ok : TbOK tb) (hi : inj tb ρ) {r : Int64 × Hp} (X : CX E g tb ρ prog_14_method_98_code 13 RC12 1 22) (Y : CQ E g tb ρ (some .long) (some (.long r.1)) r.2) : ∀ (n : Nat) (h : Hp) (l2 : Int32) (l3 : Int64) (l5 : Int64) (l7 : Int64) (l9 : Int64), lp_Md_staysDry_76 tb n h l2 l3 l5 l7 l9 = some r → V E g tb ρ 13 76 [(2, .int l2), (3, .long l3), (5, .long l5), (7, .long l7), (9, .long l9)] [] h := by
  intro n
  induction n with
  | zero =>
    intro h l2 l3 l5 l7 l9 hf
    rw [lp_Md_staysDry_76] at hf
    cases hf
  | succ n ih =>
    intro h l2 l3 l5 l7 l9 hf
    rw [lp_Md_staysDry_76] at hf
    refine v_lload (pc := 76) (k := 9) X (by decide +kernel) 4 rfl ?_
    refine v_lconst (pc := 78) (n := 0) X (by decide +kernel) lc_0 ?_
    refine v_lcmp (pc := 79) X (by decide +kernel) ?_
    refine v_if_eq (pc := 80) (off := 21) (tgt := 101) X (by decide +kernel) (by decide) (fun q5 => ?_) (fun q5 => ?_)
    · rw [if_pos q5] at hf
      refine v_iload_n (pc := 101) (k := 2) X (by decide +kernel) 0 rfl ?_
      refine v_if_ne (pc := 102) (off := 10) (tgt := 112) X (by decide +kernel) (by decide) (fun q3 => ?_) (fun q3 => ?_)
      · rw [if_neg q3] at hf
        refine v_lload (pc := 112) (k := 5) X (by decide +kernel) 2 rfl ?_
        refine v_lload (pc := 114) (k := 7) X (by decide +kernel) 3 rfl ?_
        obtain ⟨x1, ex1, hf⟩ := bnd_e hf
        refine v_ldiv (pc := 116) X ex1 (by decide +kernel) ?_
        cases hf
        exact v_lret X Y (by decide +kernel) rfl rfl
      · rw [if_pos q3] at hf
        refine v_lload_n (pc := 105) (k := 3) X (by decide +kernel) 1 rfl ?_
        refine v_lload (pc := 106) (k := 7) X (by decide +kernel) 3 rfl ?_
        obtain ⟨x2, ex2, hf⟩ := bnd_e hf
        refine v_ldiv (pc := 108) X ex2 (by decide +kernel) ?_
        refine v_goto (pc := 109) (off := 8) (tgt := 117) X (by decide +kernel) (by decide) ?_
        cases hf
        exact v_lret X Y (by decide +kernel) rfl rfl
    · rw [if_neg q5] at hf
      refine v_lload (pc := 83) (k := 7) X (by decide +kernel) 3 rfl ?_
      refine v_lload (pc := 85) (k := 9) X (by decide +kernel) 4 rfl ?_
      obtain ⟨x4, ex4, hf⟩ := bnd_e hf
      refine v_lrem (pc := 87) X ex4 (by decide +kernel) ?_
      refine v_lstore (pc := 88) (k := 11) (lv' := [(11, .long x4), (2, .int l2), (3, .long l3), (5, .long l5), (7, .long l7), (9, .long l9)]) X (by decide +kernel) (Nat.le_of_ble_eq_true rfl) rfl ?_
      refine v_lload (pc := 90) (k := 9) X (by decide +kernel) 5 rfl ?_
      refine v_lstore (pc := 92) (k := 7) (lv' := [(7, .long l9), (11, .long x4), (2, .int l2), (3, .long l3), (5, .long l5), (9, .long l9)]) X (by decide +kernel) (Nat.le_of_ble_eq_true rfl) rfl ?_
      refine v_lload (pc := 94) (k := 11) X (by decide +kernel) 1 rfl ?_
      refine v_lstore (pc := 96) (k := 9) (lv' := [(9, .long x4), (7, .long l9), (11, .long x4), (2, .int l2), (3, .long l3), (5, .long l5)]) X (by decide +kernel) (Nat.le_of_ble_eq_true rfl) rfl ?_
      refine v_goto (pc := 98) (off := -22) (tgt := 76) X (by decide +kernel) (by decide) ?_
      refine v_sub [3, 4, 5, 1, 0] rfl ?_
      exact ih h l2 l3 l5 l9 x4 hf
set_option maxRecDepth 4000 in
set_option maxHeartbeats 1000000 in
theorem vlp_Md_staysDry_36 {E : En} {g : Gl} {tb : Tb} {ρ : Nat → Nat} (ok : TbOK tb) (hi : inj tb ρ) {r : Int64 × Hp} (X : CX E g tb ρ prog_14_method_98_code 13 RC12 1 22) (Y : CQ E g tb ρ (some .long) (some (.long r.1)) r.2) : ∀ (n : Nat) (h : Hp) (l0 : Nat) (l1 : Int32) (l2 : Int32) (l3 : Int64) (l5 : Int64) (l7 : Int32) (kl0 : kd tb l0 = 12), lp_Md_staysDry_36 tb n h l0 l1 l2 l3 l5 l7 = some r → V E g tb ρ 13 36 [(0, .ref (ρ l0)), (1, .int l1), (2, .int l2), (3, .long l3), (5, .long l5), (7, .int l7)] [] h := by
  intro n
  induction n with
  | zero =>
    intro h l0 l1 l2 l3 l5 l7 kl0 hf
    rw [lp_Md_staysDry_36] at hf
    cases hf
  | succ n ih =>
    intro h l0 l1 l2 l3 l5 l7 kl0 hf
    rw [lp_Md_staysDry_36] at hf
    refine v_iload (pc := 36) (k := 7) X (by decide +kernel) 5 rfl ?_
    refine v_iload_n (pc := 38) (k := 1) X (by decide +kernel) 1 rfl ?_
    refine v_icmp_ge (pc := 39) (off := 30) (tgt := 69) X (by decide +kernel) (by decide) (fun q5 => ?_) (fun q5 => ?_)
    · rw [if_pos q5] at hf
      refine v_lload (pc := 69) (k := 5) X (by decide +kernel) 4 rfl ?_
      refine v_lstore (pc := 71) (k := 7) (lv' := [(7, .long l5), (0, .ref (ρ l0)), (1, .int l1), (2, .int l2), (3, .long l3), (5, .long l5)]) X (by decide +kernel) (Nat.le_of_ble_eq_true rfl) rfl ?_
      refine v_lload_n (pc := 73) (k := 3) X (by decide +kernel) 4 rfl ?_
      refine v_lstore (pc := 74) (k := 9) (lv' := [(9, .long l3), (7, .long l5), (0, .ref (ρ l0)), (1, .int l1), (2, .int l2), (3, .long l3), (5, .long l5)]) X (by decide +kernel) (Nat.le_of_ble_eq_true rfl) rfl ?_
      refine v_sub [4, 5, 6, 1, 0] rfl ?_
      exact vlp_Md_staysDry_76 ok hi X Y fu h l2 l3 l5 l5 l3 hf
    · rw [if_neg q5] at hf
      refine v_lload_n (pc := 42) (k := 3) X (by decide +kernel) 3 rfl ?_
      refine v_bipush (pc := 43) (n := 100) X (by decide +kernel) bi_100 ?_
      refine v_aload_n (pc := 45) (k := 0) X (by decide +kernel) 0 rfl ?_
      refine v_geta (pc := 46) X fl_12_24 kl0 fk_12_24 (by decide +kernel) ?_
      refine v_iconst (pc := 49) (n := 0) X (by decide +kernel) ic_0 ?_
      obtain ⟨x1, ex1, hf⟩ := bnd_e hf
      refine v_iald (pc := 50) X (ly_12_24 ok kl0) ex1 (by decide +kernel) ?_
      refine v_isub (pc := 51) X (by decide +kernel) ?_
      refine v_i2l (pc := 52) X (by decide +kernel) ?_
      refine v_lmul (pc := 53) X (by decide +kernel) ?_
      obtain ⟨x2, ex2, hf⟩ := nmd_e hf
      refine v_nml ex2 ?_
      refine v_lstore_n (pc := 54) (k := 3) (lv' := [(3, .long x2), (0, .ref (ρ l0)), (1, .int l1), (2, .int l2), (5, .long l5), (7, .int l7)]) X (by decide +kernel) (Nat.le_of_ble_eq_true rfl) rfl ?_
      refine v_lload (pc := 55) (k := 5) X (by decide +kernel) 4 rfl ?_
      refine v_ldc2 (pc := 57) X (by decide +kernel) kl_12_506 ?_
      refine v_lmul (pc := 60) X (by decide +kernel) ?_
      obtain ⟨x3, ex3, hf⟩ := nmd_e hf
      refine v_nml ex3 ?_
      refine v_lstore (pc := 61) (k := 5) (lv' := [(5, .long x3), (3, .long x2), (0, .ref (ρ l0)), (1, .int l1), (2, .int l2), (7, .int l7)]) X (by decide +kernel) (Nat.le_of_ble_eq_true rfl) rfl ?_
      obtain ⟨x4, ex4, hf⟩ := nmd_e hf
      refine v_iinc (pc := 63) (k := 7) (n := 1) (v := x4) (lv' := [(7, .int x4), (5, .long x3), (3, .long x2), (0, .ref (ρ l0)), (1, .int l1), (2, .int l2)]) X (by decide +kernel) 5 rfl (by rw [ic_1, ex4]) (Nat.le_of_ble_eq_true rfl) rfl ?_
      refine v_goto (pc := 66) (off := -30) (tgt := 36) X (by decide +kernel) (by decide) ?_
      refine v_sub [3, 4, 5, 2, 1, 0] rfl ?_
      exact ih h l0 l1 l2 x2 x3 x4 kl0 hf
set_option maxRecDepth 4000 in
set_option maxHeartbeats 1000000 in
theorem mt_Md_staysDry {g : Gl} {tb : Tb} {ρ : Nat → Nat} (ok : TbOK tb) (hi : inj tb ρ) {h : Hp} {l0 : Nat} {l1 : Int32} {l2 : Int32} (kl0 : kd tb l0 = 12) {r : Int64 × Hp} (hf : f_Md_staysDry tb h l0 l1 l2 = some r) : MT g y_Md_staysDry prog_14_method_98_code 13 (some .long) 1 22 tb ρ [.ref (ρ l0), .int l1, .int l2] h (some (.long r.1)) r.2 := by
  refine mt_intro (by decide +kernel) ok hi (Nat.le_of_ble_eq_true rfl) (fun E X Y => ?_)
  change V E g tb ρ 13 0 [(0, .ref (ρ l0)), (1, .int l1), (2, .int l2)] [] h
  unfold f_Md_staysDry at hf
  refine v_aload_n (pc := 0) (k := 0) X (by decide +kernel) 0 rfl ?_
  refine v_iconst (pc := 1) (n := 0) X (by decide +kernel) ic_0 ?_
  obtain ⟨h1, eh1, hf⟩ := nmd_e hf
  refine v_puti (pc := 2) X fp_12_160 kl0 rfl (by decide +kernel) eh1 ?_
  refine v_iload_n (pc := 5) (k := 1) X (by decide +kernel) 1 rfl ?_
  refine v_iconst (pc := 6) (n := 0) X (by decide +kernel) ic_0 ?_
  refine v_bipush (pc := 7) (n := 6) X (by decide +kernel) bi_6 ?_
  obtain ⟨r2, er2, hf⟩ := nmd_e hf
  refine v_callS (pc := 9) (As := [.int l1, .int (0 : Int32), .int (6 : Int32)]) (rest := []) X (mt_Md_isIn ok hi er2.symm) ml_12_205 ms_Md_isIn ⟨Nat.le_of_ble_eq_true rfl, Nat.le_of_ble_eq_true rfl⟩ rfl rfl (Nat.le_of_ble_eq_true rfl) (by decide +kernel) ?_
  change V E g tb ρ 13 12 [(0, .ref (ρ l0)), (1, .int l1), (2, .int l2)] [.int r2] h1
  refine v_if_eq (pc := 12) (off := 12) (tgt := 24) X (by decide +kernel) (by decide) (fun q5 => ?_) (fun q5 => ?_)
  · rw [if_pos q5] at hf
    refine v_ldc2 (pc := 24) X (by decide +kernel) kl_12_504 ?_
    cases hf
    exact v_lret X Y (by decide +kernel) rfl rfl
  · rw [if_neg q5] at hf
    refine v_iload_n (pc := 15) (k := 2) X (by decide +kernel) 2 rfl ?_
    refine v_iconst (pc := 16) (n := 0) X (by decide +kernel) ic_0 ?_
    refine v_iconst (pc := 17) (n := 1) X (by decide +kernel) ic_1 ?_
    obtain ⟨r3, er3, hf⟩ := nmd_e hf
    refine v_callS (pc := 18) (As := [.int l2, .int (0 : Int32), .int (1 : Int32)]) (rest := []) X (mt_Md_isIn ok hi er3.symm) ml_12_205 ms_Md_isIn ⟨Nat.le_of_ble_eq_true rfl, Nat.le_of_ble_eq_true rfl⟩ rfl rfl (Nat.le_of_ble_eq_true rfl) (by decide +kernel) ?_
    change V E g tb ρ 13 21 [(0, .ref (ρ l0)), (1, .int l1), (2, .int l2)] [.int r3] h1
    refine v_if_ne (pc := 21) (off := 7) (tgt := 28) X (by decide +kernel) (by decide) (fun q4 => ?_) (fun q4 => ?_)
    · rw [if_neg q4] at hf
      refine v_lconst (pc := 28) (n := 1) X (by decide +kernel) lc_1 ?_
      refine v_lstore_n (pc := 29) (k := 3) (lv' := [(3, .long (1 : Int64)), (0, .ref (ρ l0)), (1, .int l1), (2, .int l2)]) X (by decide +kernel) (Nat.le_of_ble_eq_true rfl) rfl ?_
      refine v_lconst (pc := 30) (n := 1) X (by decide +kernel) lc_1 ?_
      refine v_lstore (pc := 31) (k := 5) (lv' := [(5, .long (1 : Int64)), (3, .long (1 : Int64)), (0, .ref (ρ l0)), (1, .int l1), (2, .int l2)]) X (by decide +kernel) (Nat.le_of_ble_eq_true rfl) rfl ?_
      refine v_iconst (pc := 33) (n := 0) X (by decide +kernel) ic_0 ?_
      refine v_istore (pc := 34) (k := 7) (lv' := [(7, .int (0 : Int32)), (5, .long (1 : Int64)), (3, .long (1 : Int64)), (0, .ref (ρ l0)), (1, .int l1), (2, .int l2)]) X (by decide +kernel) (Nat.le_of_ble_eq_true rfl) rfl ?_
      refine v_sub [3, 4, 5, 2, 1, 0] rfl ?_
      exact vlp_Md_staysDry_36 ok hi X Y fu h1 l0 l1 l2 (1 : Int64) (1 : Int64) (0 : Int32) kl0 hf
    · rw [if_pos q4] at hf
      refine v_ldc2 (pc := 24) X (by decide +kernel) kl_12_504 ?_
      cases hf
      exact v_lret X Y (by decide +kernel) rfl rfl
