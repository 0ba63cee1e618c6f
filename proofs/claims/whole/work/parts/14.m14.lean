def jb_Ho_walk_112 (tb : Tb) (c2 : Hp → Nat → Nat → Int32 → Option (Hp)) (h : Hp) (l0 : Nat) (l1 : Nat) (l2 : Int32) : Option (Hp) :=
  nmd (l2 + (1 : Int32)) fun x1 =>
  c2 h l0 l1 x1
def jb_Ho_walk_95 (tb : Tb) (c2 : Hp → Nat → Nat → Int32 → Option (Hp)) (h : Hp) (l0 : Nat) (l1 : Nat) (l2 : Int32) : Option (Hp) :=
  (rI tb h (lay tb l1 10) l2).bind fun x1 =>
  (f_Ho_amount tb h l0 l1 (0 : Int32) l2 (1 : Int32)).bind fun r2 =>
  (wI tb r2.2 (lay tb l1 10) l2 (x1 + r2.1)).bind fun h3 =>
  jb_Ho_walk_112 tb c2 h3 l0 l1 l2
def lp_Ho_walk_2 (tb : Tb) : Nat → Hp → Nat → Nat → Int32 → Option (Hp)
  | 0, _, _, _, _ => none
  | n + 1, h, l0, l1, l2 =>
    if (h.1 (lay tb l0 0) 4) ≤ l2 then (
      some h
    ) else (
      nmd (f_Wo_isOn tb h l1 l2) fun r1 =>
      if r1 = (0 : Int32) then (
        jb_Ho_walk_112 tb (lp_Ho_walk_2 tb n) h l0 l1 l2
      ) else (
        (rI tb h (lay tb l1 12) l2).bind fun x2 =>
        nmd (f_Pl_hasTrough tb h (lay tb l0 0) x2) fun r3 =>
        if r3 = (0 : Int32) then (
          jb_Ho_walk_95 tb (lp_Ho_walk_2 tb n) h l0 l1 l2
        ) else (
          (rI tb h (lay tb (lay tb l0 0) 7) x2).bind fun x4 =>
          (rI tb h (lay tb l1 9) l2).bind fun x5 =>
          nmd (x4 - x5) fun x6 =>
          (rI tb h (lay tb (lay tb l0 0) 15) l2).bind fun x7 =>
          nmd (x7 * (h.1 l0 4)) fun x8 =>
          (rI tb h (lay tb l1 9) l2).bind fun x9 =>
          (wI tb h (lay tb l1 9) l2 (x9 + (mxI (-x8) (mnI x8 x6)))).bind fun h10 =>
          jb_Ho_walk_95 tb (lp_Ho_walk_2 tb n) h10 l0 l1 l2
        )
      )
    )
def f_Ho_walk (tb : Tb) (h : Hp) (l0 : Nat) (l1 : Nat) : Option (Hp) :=
  lp_Ho_walk_2 tb fu h l0 l1 (0 : Int32)
set_option maxRecDepth 4000 in
set_option maxHeartbeats 1000000 in
theorem vjb_Ho_walk_112 {E : En} {g : Gl} {tb : Tb} {ρ : Nat → Nat} (ok : TbOK tb) (hi : inj tb ρ) {r : Hp} (X : CX E g tb ρ prog_5_method_9_code 6 RC4 4 103) (Y : CQ E g tb ρ none (none) r) {c2 : Hp → Nat → Nat → Int32 → Option (Hp)} (H2 : ∀ (h : Hp) (l0 : Nat) (l1 : Nat) (l2 : Int32) (kl0 : kd tb l0 = 4) (kl1 : kd tb l1 = 11), c2 h l0 l1 l2 = some r → V E g tb ρ 6 2 [(0, .ref (ρ l0)), (1, .ref (ρ l1)), (2, .int l2)] [] h) (h : Hp) (l0 : Nat) (l1 : Nat) (l2 : Int32) (kl0 : kd tb l0 = 4) (kl1 : kd tb l1 = 11) (hf : jb_Ho_walk_112 tb c2 h l0 l1 l2 = some r) : V E g tb ρ 6 112 [(0, .ref (ρ l0)), (1, .ref (ρ l1)), (2, .int l2)] [] h := by
  unfold jb_Ho_walk_112 at hf
  obtain ⟨x1, ex1, hf⟩ := nmd_e hf
  refine v_iinc (pc := 112) (k := 2) (n := 1) (v := x1) (lv' := [(2, .int x1), (0, .ref (ρ l0)), (1, .ref (ρ l1))]) X (by decide +kernel) 2 rfl (by rw [ic_1, ex1]) (Nat.le_of_ble_eq_true rfl) rfl ?_
  refine v_goto (pc := 115) (off := -113) (tgt := 2) X (by decide +kernel) (by decide) ?_
  refine v_sub [1, 2, 0] rfl ?_
  exact H2 h l0 l1 x1 kl0 kl1 hf
set_option maxRecDepth 4000 in
set_option maxHeartbeats 1000000 in
theorem vjb_Ho_walk_95 {E : En} {g : Gl} {tb : Tb} {ρ : Nat → Nat} (ok : TbOK tb) (hi : inj tb ρ) {r : Hp} (X : CX E g tb ρ prog_5_method_9_code 6 RC4 4 103) (Y : CQ E g tb ρ none (none) r) {c2 : Hp → Nat → Nat → Int32 → Option (Hp)} (H2 : ∀ (h : Hp) (l0 : Nat) (l1 : Nat) (l2 : Int32) (kl0 : kd tb l0 = 4) (kl1 : kd tb l1 = 11), c2 h l0 l1 l2 = some r → V E g tb ρ 6 2 [(0, .ref (ρ l0)), (1, .ref (ρ l1)), (2, .int l2)] [] h) (h : Hp) (l0 : Nat) (l1 : Nat) (l2 : Int32) (kl0 : kd tb l0 = 4) (kl1 : kd tb l1 = 11) (hf : jb_Ho_walk_95 tb c2 h l0 l1 l2 = some r) : V E g tb ρ 6 95 [(0, .ref (ρ l0)), (1, .ref (ρ l1)), (2, .int l2)] [] h := by
  unfold jb_Ho_walk_95 at hf
  refine v_aload_n (pc := 95) (k := 1) X (by decide +kernel) 1 rfl ?_
  refine v_geta (pc := 96) X fl_4_104 kl1 fk_11_10 (by decide +kernel) ?_
  refine v_iload_n (pc := 99) (k := 2) X (by decide +kernel) 2 rfl ?_
  refine v_dup2 (pc := 100) X (by decide +kernel) rfl rfl ?_
  obtain ⟨x1, ex1, hf⟩ := bnd_e hf
  refine v_iald (pc := 101) X (ly_11_10 ok kl1) ex1 (by decide +kernel) ?_
  refine v_aload_n (pc := 102) (k := 0) X (by decide +kernel) 0 rfl ?_
  refine v_aload_n (pc := 103) (k := 1) X (by decide +kernel) 1 rfl ?_
  refine v_iconst (pc := 104) (n := 0) X (by decide +kernel) ic_0 ?_
  refine v_iload_n (pc := 105) (k := 2) X (by decide +kernel) 2 rfl ?_
  refine v_iconst (pc := 106) (n := 1) X (by decide +kernel) ic_1 ?_
  obtain ⟨r2, er2, hf⟩ := bnd_e hf
  refine v_callV (pc := 107) (As := [.ref (ρ l1), .int (0 : Int32), .int l2, .int (1 : Int32)]) (rest := [.int x1, .int l2, .ref (ρ (lay tb l1 10))]) X (mt_Ho_amount ok hi kl0 kl1 er2) ml_4_107 mv_Ho_amount kl0 cls_4 rfl ⟨Nat.le_of_ble_eq_true rfl, Nat.le_of_ble_eq_true rfl⟩ rfl rfl (Nat.le_of_ble_eq_true rfl) (by decide +kernel) ?_
  change V E g tb ρ 6 110 [(0, .ref (ρ l0)), (1, .ref (ρ l1)), (2, .int l2)] [.int r2.1, .int x1, .int l2, .ref (ρ (lay tb l1 10))] r2.2
  refine v_iadd (pc := 110) X (by decide +kernel) ?_
  obtain ⟨h3, eh3, hf⟩ := bnd_e hf
  refine v_iast (pc := 111) X (ly_11_10 ok kl1) eh3 (by decide +kernel) ?_
  exact vjb_Ho_walk_112 ok hi X Y H2 h3 l0 l1 l2 kl0 kl1 hf
set_option maxRecDepth 4000 in
set_option maxHeartbeats 1000000 in
theorem vlp_Ho_walk_2 {E : En} {g : Gl} {tb : Tb} {ρ : Nat → Nat} (ok : TbOK tb) (hi : inj tb ρ) {r : Hp} (X : CX E g tb ρ prog_5_method_9_code 6 RC4 4 103) (Y : CQ E g tb ρ none (none) r) : ∀ (n : Nat) (h : Hp) (l0 : Nat) (l1 : Nat) (l2 : Int32) (kl0 : kd tb l0 = 4) (kl1 : kd tb l1 = 11), lp_Ho_walk_2 tb n h l0 l1 l2 = some r → V E g tb ρ 6 2 [(0, .ref (ρ l0)), (1, .ref (ρ l1)), (2, .int l2)] [] h := by
  intro n
  induction n with
  | zero =>
    intro h l0 l1 l2 kl0 kl1 hf
    rw [lp_Ho_walk_2] at hf
    cases hf
  | succ n ih =>
    intro h l0 l1 l2 kl0 kl1 hf
    rw [lp_Ho_walk_2] at hf
    refine v_iload_n (pc := 2) (k := 2) X (by decide +kernel) 2 rfl ?_
    refine v_aload_n (pc := 3) (k := 0) X (by decide +kernel) 0 rfl ?_
    refine v_geta (pc := 4) X fl_4_15 kl0 fk_4_0 (by decide +kernel) ?_
    refine v_geti (pc := 7) X fl_4_76 (ly_4_0 ok kl0) rfl (by decide +kernel) ?_
    refine v_icmp_ge (pc := 10) (off := 108) (tgt := 118) X (by decide +kernel) (by decide) (fun q13 => ?_) (fun q13 => ?_)
    · rw [if_pos q13] at hf
      cases hf
      exact v_vret X Y (by decide +kernel) rfl rfl
    · rw [if_neg q13] at hf
      refine v_aload_n (pc := 13) (k := 1) X (by decide +kernel) 1 rfl ?_
      refine v_iload_n (pc := 14) (k := 2) X (by decide +kernel) 2 rfl ?_
      obtain ⟨r1, er1, hf⟩ := nmd_e hf
      refine v_callV (pc := 15) (As := [.int l2]) (rest := []) X (mt_Wo_isOn ok hi kl1 er1.symm) ml_4_79 mv_Wo_isOn kl1 cls_11 rfl ⟨Nat.le_of_ble_eq_true rfl, Nat.le_of_ble_eq_true rfl⟩ rfl rfl (Nat.le_of_ble_eq_true rfl) (by decide +kernel) ?_
      change V E g tb ρ 6 18 [(0, .ref (ρ l0)), (1, .ref (ρ l1)), (2, .int l2)] [.int r1] h
      refine v_if_eq (pc := 18) (off := 94) (tgt := 112) X (by decide +kernel) (by decide) (fun q12 => ?_) (fun q12 => ?_)
      · rw [if_pos q12] at hf
        exact vjb_Ho_walk_112 ok hi X Y ih h l0 l1 l2 kl0 kl1 hf
      · rw [if_neg q12] at hf
        refine v_aload_n (pc := 21) (k := 1) X (by decide +kernel) 1 rfl ?_
        refine v_geta (pc := 22) X fl_4_67 kl1 fk_11_12 (by decide +kernel) ?_
        refine v_iload_n (pc := 25) (k := 2) X (by decide +kernel) 2 rfl ?_
        obtain ⟨x2, ex2, hf⟩ := bnd_e hf
        refine v_iald (pc := 26) X (ly_11_12 ok kl1) ex2 (by decide +kernel) ?_
        refine v_istore_n (pc := 27) (k := 3) (lv' := [(3, .int x2), (0, .ref (ρ l0)), (1, .ref (ρ l1)), (2, .int l2)]) X (by decide +kernel) (Nat.le_of_ble_eq_true rfl) rfl ?_
        refine v_aload_n (pc := 28) (k := 0) X (by decide +kernel) 1 rfl ?_
        refine v_geta (pc := 29) X fl_4_15 kl0 fk_4_0 (by decide +kernel) ?_
        refine v_iload_n (pc := 32) (k := 3) X (by decide +kernel) 0 rfl ?_
        obtain ⟨r3, er3, hf⟩ := nmd_e hf
        refine v_callV (pc := 33) (As := [.int x2]) (rest := []) X (mt_Pl_hasTrough ok hi (ly_4_0 ok kl0) er3.symm) ml_4_83 mv_Pl_hasTrough (ly_4_0 ok kl0) cls_7 rfl ⟨Nat.le_of_ble_eq_true rfl, Nat.le_of_ble_eq_true rfl⟩ rfl rfl (Nat.le_of_ble_eq_true rfl) (by decide +kernel) ?_
        change V E g tb ρ 6 36 [(3, .int x2), (0, .ref (ρ l0)), (1, .ref (ρ l1)), (2, .int l2)] [.int r3] h
        refine v_if_eq (pc := 36) (off := 59) (tgt := 95) X (by decide +kernel) (by decide) (fun q11 => ?_) (fun q11 => ?_)
        · rw [if_pos q11] at hf
          refine v_sub [1, 2, 3] rfl ?_
          exact vjb_Ho_walk_95 ok hi X Y ih h l0 l1 l2 kl0 kl1 hf
        · rw [if_neg q11] at hf
          refine v_aload_n (pc := 39) (k := 0) X (by decide +kernel) 1 rfl ?_
          refine v_geta (pc := 40) X fl_4_15 kl0 fk_4_0 (by decide +kernel) ?_
          refine v_geta (pc := 43) X fl_4_86 (ly_4_0 ok kl0) fk_7_7 (by decide +kernel) ?_
          refine v_iload_n (pc := 46) (k := 3) X (by decide +kernel) 0 rfl ?_
          obtain ⟨x4, ex4, hf⟩ := bnd_e hf
          refine v_iald (pc := 47) X (ly_7_7 ok (ly_4_0 ok kl0)) ex4 (by decide +kernel) ?_
          refine v_aload_n (pc := 48) (k := 1) X (by decide +kernel) 2 rfl ?_
          refine v_geta (pc := 49) X fl_4_89 kl1 fk_11_9 (by decide +kernel) ?_
          refine v_iload_n (pc := 52) (k := 2) X (by decide +kernel) 3 rfl ?_
          obtain ⟨x5, ex5, hf⟩ := bnd_e hf
          refine v_iald (pc := 53) X (ly_11_9 ok kl1) ex5 (by decide +kernel) ?_
          refine v_isub (pc := 54) X (by decide +kernel) ?_
          obtain ⟨x6, ex6, hf⟩ := nmd_e hf
          refine v_nmi ex6 ?_
          refine v_istore (pc := 55) (k := 4) (lv' := [(4, .int x6), (3, .int x2), (0, .ref (ρ l0)), (1, .ref (ρ l1)), (2, .int l2)]) X (by decide +kernel) (Nat.le_of_ble_eq_true rfl) rfl ?_
          refine v_aload_n (pc := 57) (k := 0) X (by decide +kernel) 2 rfl ?_
          refine v_geta (pc := 58) X fl_4_15 kl0 fk_4_0 (by decide +kernel) ?_
          refine v_geta (pc := 61) X fl_4_92 (ly_4_0 ok kl0) fk_7_15 (by decide +kernel) ?_
          refine v_iload_n (pc := 64) (k := 2) X (by decide +kernel) 4 rfl ?_
          obtain ⟨x7, ex7, hf⟩ := bnd_e hf
          refine v_iald (pc := 65) X (ly_7_15 ok (ly_4_0 ok kl0)) ex7 (by decide +kernel) ?_
          refine v_aload_n (pc := 66) (k := 0) X (by decide +kernel) 2 rfl ?_
          refine v_geti (pc := 67) X fl_4_35 kl0 rfl (by decide +kernel) ?_
          refine v_imul (pc := 70) X (by decide +kernel) ?_
          obtain ⟨x8, ex8, hf⟩ := nmd_e hf
          refine v_nmi ex8 ?_
          refine v_istore (pc := 71) (k := 5) (lv' := [(5, .int x8), (4, .int x6), (3, .int x2), (0, .ref (ρ l0)), (1, .ref (ρ l1)), (2, .int l2)]) X (by decide +kernel) (Nat.le_of_ble_eq_true rfl) rfl ?_
          refine v_aload_n (pc := 73) (k := 1) X (by decide +kernel) 4 rfl ?_
          refine v_geta (pc := 74) X fl_4_89 kl1 fk_11_9 (by decide +kernel) ?_
          refine v_iload_n (pc := 77) (k := 2) X (by decide +kernel) 5 rfl ?_
          refine v_dup2 (pc := 78) X (by decide +kernel) rfl rfl ?_
          obtain ⟨x9, ex9, hf⟩ := bnd_e hf
          refine v_iald (pc := 79) X (ly_11_9 ok kl1) ex9 (by decide +kernel) ?_
          refine v_iload (pc := 80) (k := 5) X (by decide +kernel) 0 rfl ?_
          refine v_ineg (pc := 82) X (by decide +kernel) ?_
          refine v_iload (pc := 83) (k := 5) X (by decide +kernel) 0 rfl ?_
          refine v_iload (pc := 85) (k := 4) X (by decide +kernel) 1 rfl ?_
          refine v_mmin (pc := 87) X mm_4_95 ms_mmin mc_mmin mi_math ⟨Nat.le_of_ble_eq_true rfl, Nat.le_of_ble_eq_true rfl⟩ (by decide +kernel) ?_
          refine v_mmax (pc := 90) X mm_4_101 ms_mmax mc_mmax mi_math ⟨Nat.le_of_ble_eq_true rfl, Nat.le_of_ble_eq_true rfl⟩ (by decide +kernel) ?_
          refine v_iadd (pc := 93) X (by decide +kernel) ?_
          obtain ⟨h10, eh10, hf⟩ := bnd_e hf
          refine v_iast (pc := 94) X (ly_11_9 ok kl1) eh10 (by decide +kernel) ?_
          refine v_sub [3, 4, 5] rfl ?_
          exact vjb_Ho_walk_95 ok hi X Y ih h10 l0 l1 l2 kl0 kl1 hf
set_option maxRecDepth 4000 in
set_option maxHeartbeats 1000000 in
theorem mt_Ho_walk {g : Gl} {tb : Tb} {ρ : Nat → Nat} (ok : TbOK tb) (hi : inj tb ρ) {h : Hp} {l0 : Nat} {l1 : Nat} (kl0 : kd tb l0 = 4) (kl1 : kd tb l1 = 11) {r : Hp} (hf : f_Ho_walk tb h l0 l1 = some r) : MT g y_Ho_walk prog_5_method_9_code 6 none 4 103 tb ρ [.ref (ρ l0), .ref (ρ l1)] h (none) r := by
  refine mt_intro (by decide +kernel) ok hi (Nat.le_of_ble_eq_true rfl) (fun E X Y => ?_)
  change V E g tb ρ 6 0 [(0, .ref (ρ l0)), (1, .ref (ρ l1))] [] h
  unfold f_Ho_walk at hf
  refine v_iconst (pc := 0) (n := 0) X (by decide +kernel) ic_0 ?_
  refine v_istore_n (pc := 1) (k := 2) (lv' := [(2, .int (0 : Int32)), (0, .ref (ρ l0)), (1, .ref (ρ l1))]) X (by decide +kernel) (Nat.le_of_ble_eq_true rfl) rfl ?_
  refine v_sub [1, 2, 0] rfl ?_
  exact vlp_Ho_walk_2 ok hi X Y fu h l0 l1 (0 : Int32) kl0 kl1 hf
def jb_Ho_drink_147 (tb : Tb) (c10 : Hp → Nat → Nat → Int32 → Option (Hp)) (h : Hp) (l0 : Nat) (l1 : Nat) (l2 : Int32) : Option (Hp) :=
  nmd (l2 + (1 : Int32)) fun x1 =>
  c10 h l0 l1 x1
def lp_Ho_drink_10 (tb : Tb) : Nat → Hp → Nat → Nat → Int32 → Option (Hp)
  | 0, _, _, _, _ => none
  | n + 1, h, l0, l1, l2 =>
    if (h.1 (lay tb l0 0) 4) ≤ l2 then (
      some h
    ) else (
      if (h.1 l0 3) = (0 : Int32) then (
        some h
      ) else (
        (rI tb h (lay tb l1 9) l2).bind fun x1 =>
        (f_Pl_troughThere tb h (lay tb l0 0) x1).bind fun r2 =>
        nmd (f_Wo_isOn tb h l1 l2) fun r3 =>
        if r3 = (0 : Int32) then (
          jb_Ho_drink_147 tb (lp_Ho_drink_10 tb n) h l0 l1 l2
        ) else (
          if r2 = (-1 : Int32) then (
            jb_Ho_drink_147 tb (lp_Ho_drink_10 tb n) h l0 l1 l2
          ) else (
            (rI tb h (lay tb l1 10) l2).bind fun x4 =>
            if x4 ≤ (0 : Int32) then (
              jb_Ho_drink_147 tb (lp_Ho_drink_10 tb n) h l0 l1 l2
            ) else (
              (rI tb h (lay tb l1 14) r2).bind fun x5 =>
              if x5 ≤ (0 : Int32) then (
                jb_Ho_drink_147 tb (lp_Ho_drink_10 tb n) h l0 l1 l2
              ) else (
                (rI tb h (lay tb l1 10) l2).bind fun x6 =>
                (rI tb h (lay tb l1 14) r2).bind fun x7 =>
                nmd (mnI x6 x7) fun x8 =>
                (f_Ho_amount tb h l0 l1 (1 : Int32) l2 (9 : Int32)).bind fun r9 =>
                nmd (mnI x8 r9.1) fun x10 =>
                (rI tb r9.2 (lay tb l1 10) l2).bind fun x11 =>
                (wI tb r9.2 (lay tb l1 10) l2 (x11 - x10)).bind fun h12 =>
                (rI tb h12 (lay tb l1 14) r2).bind fun x13 =>
                (wI tb h12 (lay tb l1 14) r2 (x13 - x10)).bind fun h14 =>
                (wI tb h14 (lay tb l1 13) l2 x10).bind fun h15 =>
                nmd (pI h15 l1 5 ((h15.1 l1 5) + x10)) fun h16 =>
                jb_Ho_drink_147 tb (lp_Ho_drink_10 tb n) h16 l0 l1 l2
              )
            )
          )
        )
      )
    )
def f_Ho_drink (tb : Tb) (h : Hp) (l0 : Nat) (l1 : Nat) : Option (Hp) :=
  (f_Ar_fill tb h (lay tb l1 13) (0 : Int32)).bind fun r1 =>
  lp_Ho_drink_10 tb fu r1 l0 l1 (0 : Int32)
set_option maxRecDepth 4000 in
set_option maxHeartbeats 1000000 in
theorem vjb_Ho_drink_147 {E : En} {g : Gl} {tb : Tb} {ρ : Nat → Nat} (ok : TbOK tb) (hi : inj tb ρ) {r : Hp} (X : CX E g tb ρ prog_5_method_10_code 6 RC4 4 103) (Y : CQ E g tb ρ none (none) r) {c10 : Hp → Nat → Nat → Int32 → Option (Hp)} (H10 : ∀ (h : Hp) (l0 : Nat) (l1 : Nat) (l2 : Int32) (kl0 : kd tb l0 = 4) (kl1 : kd tb l1 = 11), c10 h l0 l1 l2 = some r → V E g tb ρ 6 10 [(0, .ref (ρ l0)), (1, .ref (ρ l1)), (2, .int l2)] [] h) (h : Hp) (l0 : Nat) (l1 : Nat) (l2 : Int32) (kl0 : kd tb l0 = 4) (kl1 : kd tb l1 = 11) (hf : jb_Ho_drink_147 tb c10 h l0 l1 l2 = some r) : V E g tb ρ 6 147 [(0, .ref (ρ l0)), (1, .ref (ρ l1)), (2, .int l2)] [] h := by
  unfold jb_Ho_drink_147 at hf
  obtain ⟨x1, ex1, hf⟩ := nmd_e hf
  refine v_iinc (pc := 147) (k := 2) (n := 1) (v := x1) (lv' := [(2, .int x1), (0, .ref (ρ l0)), (1, .ref (ρ l1))]) X (by decide +kernel) 2 rfl (by rw [ic_1, ex1]) (Nat.le_of_ble_eq_true rfl) rfl ?_
  refine v_goto (pc := 150) (off := -140) (tgt := 10) X (by decide +kernel) (by decide) ?_
  refine v_sub [1, 2, 0] rfl ?_
  exact H10 h l0 l1 x1 kl0 kl1 hf
set_option maxRecDepth 4000 in
set_option maxHeartbeats 1000000 in
theorem vlp_Ho_drink_10 {E : En} {g : Gl} {tb : Tb} {ρ : Nat → Nat} (ok : TbOK tb) (hi : inj tb ρ) {r : Hp} (X : CX E g tb ρ prog_5_method_10_code 6 RC4 4 103) (Y : CQ E g tb ρ none (none) r) : ∀ (n : Nat) (h : Hp) (l0 : Nat) (l1 : Nat) (l2 : Int32) (kl0 : kd tb l0 = 4) (kl1 : kd tb l1 = 11), lp_Ho_drink_10 tb n h l0 l1 l2 = some r → V E g tb ρ 6 10 [(0, .ref (ρ l0)), (1, .ref (ρ l1)), (2, .int l2)] [] h := by
  intro n
  induction n with
  | zero =>
    intro h l0 l1 l2 kl0 kl1 hf
    rw [lp_Ho_drink_10] at hf
    cases hf
  | succ n ih =>
    intro h l0 l1 l2 kl0 kl1 hf
    rw [lp_Ho_drink_10] at hf
    refine v_iload_n (pc := 10) (k := 2) X (by decide +kernel) 2 rfl ?_
    refine v_aload_n (pc := 11) (k := 0) X (by decide +kernel) 0 rfl ?_
    refine v_geta (pc := 12) X fl_4_15 kl0 fk_4_0 (by decide +kernel) ?_
    refine v_geti (pc := 15) X fl_4_76 (ly_4_0 ok kl0) rfl (by decide +kernel) ?_
    refine v_icmp_ge (pc := 18) (off := 135) (tgt := 153) X (by decide +kernel) (by decide) (fun q22 => ?_) (fun q22 => ?_)
    · rw [if_pos q22] at hf
      cases hf
      exact v_vret X Y (by decide +kernel) rfl rfl
    · rw [if_neg q22] at hf
      refine v_aload_n (pc := 21) (k := 0) X (by decide +kernel) 0 rfl ?_
      refine v_geti (pc := 22) X fl_4_31 kl0 rfl (by decide +kernel) ?_
      refine v_if_eq (pc := 25) (off := 128) (tgt := 153) X (by decide +kernel) (by decide) (fun q21 => ?_) (fun q21 => ?_)
      · rw [if_pos q21] at hf
        cases hf
        exact v_vret X Y (by decide +kernel) rfl rfl
      · rw [if_neg q21] at hf
        refine v_aload_n (pc := 28) (k := 0) X (by decide +kernel) 0 rfl ?_
        refine v_geta (pc := 29) X fl_4_15 kl0 fk_4_0 (by decide +kernel) ?_
        refine v_aload_n (pc := 32) (k := 1) X (by decide +kernel) 1 rfl ?_
        refine v_geta (pc := 33) X fl_4_89 kl1 fk_11_9 (by decide +kernel) ?_
        refine v_iload_n (pc := 36) (k := 2) X (by decide +kernel) 2 rfl ?_
        obtain ⟨x1, ex1, hf⟩ := bnd_e hf
        refine v_iald (pc := 37) X (ly_11_9 ok kl1) ex1 (by decide +kernel) ?_
        obtain ⟨r2, er2, hf⟩ := bnd_e hf
        refine v_callV (pc := 38) (As := [.int x1]) (rest := []) X (mt_Pl_troughThere ok hi (ly_4_0 ok kl0) er2) ml_4_120 mv_Pl_troughThere (ly_4_0 ok kl0) cls_7 rfl ⟨Nat.le_of_ble_eq_true rfl, Nat.le_of_ble_eq_true rfl⟩ rfl rfl (Nat.le_of_ble_eq_true rfl) (by decide +kernel) ?_
        change V E g tb ρ 6 41 [(0, .ref (ρ l0)), (1, .ref (ρ l1)), (2, .int l2)] [.int r2] h
        refine v_istore_n (pc := 41) (k := 3) (lv' := [(3, .int r2), (0, .ref (ρ l0)), (1, .ref (ρ l1)), (2, .int l2)]) X (by decide +kernel) (Nat.le_of_ble_eq_true rfl) rfl ?_
        refine v_aload_n (pc := 42) (k := 1) X (by decide +kernel) 2 rfl ?_
        refine v_iload_n (pc := 43) (k := 2) X (by decide +kernel) 3 rfl ?_
        obtain ⟨r3, er3, hf⟩ := nmd_e hf
        refine v_callV (pc := 44) (As := [.int l2]) (rest := []) X (mt_Wo_isOn ok hi kl1 er3.symm) ml_4_79 mv_Wo_isOn kl1 cls_11 rfl ⟨Nat.le_of_ble_eq_true rfl, Nat.le_of_ble_eq_true rfl⟩ rfl rfl (Nat.le_of_ble_eq_true rfl) (by decide +kernel) ?_
        change V E g tb ρ 6 47 [(3, .int r2), (0, .ref (ρ l0)), (1, .ref (ρ l1)), (2, .int l2)] [.int r3] h
        refine v_if_eq (pc := 47) (off := 100) (tgt := 147) X (by decide +kernel) (by decide) (fun q20 => ?_) (fun q20 => ?_)
        · rw [if_pos q20] at hf
          refine v_sub [1, 2, 3] rfl ?_
          exact vjb_Ho_drink_147 ok hi X Y ih h l0 l1 l2 kl0 kl1 hf
        · rw [if_neg q20] at hf
          refine v_iload_n (pc := 50) (k := 3) X (by decide +kernel) 0 rfl ?_
          refine v_iconst (pc := 51) (n := -1) X (by decide +kernel) ic_m1 ?_
          refine v_icmp_eq (pc := 52) (off := 95) (tgt := 147) X (by decide +kernel) (by decide) (fun q19 => ?_) (fun q19 => ?_)
          · rw [if_pos q19] at hf
            refine v_sub [1, 2, 3] rfl ?_
            exact vjb_Ho_drink_147 ok hi X Y ih h l0 l1 l2 kl0 kl1 hf
          · rw [if_neg q19] at hf
            refine v_aload_n (pc := 55) (k := 1) X (by decide +kernel) 2 rfl ?_
            refine v_geta (pc := 56) X fl_4_104 kl1 fk_11_10 (by decide +kernel) ?_
            refine v_iload_n (pc := 59) (k := 2) X (by decide +kernel) 3 rfl ?_
            obtain ⟨x4, ex4, hf⟩ := bnd_e hf
            refine v_iald (pc := 60) X (ly_11_10 ok kl1) ex4 (by decide +kernel) ?_
            refine v_if_le (pc := 61) (off := 86) (tgt := 147) X (by decide +kernel) (by decide) (fun q18 => ?_) (fun q18 => ?_)
            · rw [if_pos q18] at hf
              refine v_sub [1, 2, 3] rfl ?_
              exact vjb_Ho_drink_147 ok hi X Y ih h l0 l1 l2 kl0 kl1 hf
            · rw [if_neg q18] at hf
              refine v_aload_n (pc := 64) (k := 1) X (by decide +kernel) 2 rfl ?_
              refine v_geta (pc := 65) X fl_4_124 kl1 fk_11_14 (by decide +kernel) ?_
              refine v_iload_n (pc := 68) (k := 3) X (by decide +kernel) 0 rfl ?_
              obtain ⟨x5, ex5, hf⟩ := bnd_e hf
              refine v_iald (pc := 69) X (ly_11_14 ok kl1) ex5 (by decide +kernel) ?_
              refine v_if_le (pc := 70) (off := 77) (tgt := 147) X (by decide +kernel) (by decide) (fun q17 => ?_) (fun q17 => ?_)
              · rw [if_pos q17] at hf
                refine v_sub [1, 2, 3] rfl ?_
                exact vjb_Ho_drink_147 ok hi X Y ih h l0 l1 l2 kl0 kl1 hf
              · rw [if_neg q17] at hf
                refine v_aload_n (pc := 73) (k := 1) X (by decide +kernel) 2 rfl ?_
                refine v_geta (pc := 74) X fl_4_104 kl1 fk_11_10 (by decide +kernel) ?_
                refine v_iload_n (pc := 77) (k := 2) X (by decide +kernel) 3 rfl ?_
                obtain ⟨x6, ex6, hf⟩ := bnd_e hf
                refine v_iald (pc := 78) X (ly_11_10 ok kl1) ex6 (by decide +kernel) ?_
                refine v_aload_n (pc := 79) (k := 1) X (by decide +kernel) 2 rfl ?_
                refine v_geta (pc := 80) X fl_4_124 kl1 fk_11_14 (by decide +kernel) ?_
                refine v_iload_n (pc := 83) (k := 3) X (by decide +kernel) 0 rfl ?_
                obtain ⟨x7, ex7, hf⟩ := bnd_e hf
                refine v_iald (pc := 84) X (ly_11_14 ok kl1) ex7 (by decide +kernel) ?_
                refine v_mmin (pc := 85) X mm_4_95 ms_mmin mc_mmin mi_math ⟨Nat.le_of_ble_eq_true rfl, Nat.le_of_ble_eq_true rfl⟩ (by decide +kernel) ?_
                obtain ⟨x8, ex8, hf⟩ := nmd_e hf
                refine v_nmi ex8 ?_
                refine v_istore (pc := 88) (k := 4) (lv' := [(4, .int x8), (3, .int r2), (0, .ref (ρ l0)), (1, .ref (ρ l1)), (2, .int l2)]) X (by decide +kernel) (Nat.le_of_ble_eq_true rfl) rfl ?_
                refine v_iload (pc := 90) (k := 4) X (by decide +kernel) 0 rfl ?_
                refine v_aload_n (pc := 92) (k := 0) X (by decide +kernel) 2 rfl ?_
                refine v_aload_n (pc := 93) (k := 1) X (by decide +kernel) 3 rfl ?_
                refine v_iconst (pc := 94) (n := 1) X (by decide +kernel) ic_1 ?_
                refine v_iload_n (pc := 95) (k := 2) X (by decide +kernel) 4 rfl ?_
                refine v_bipush (pc := 96) (n := 9) X (by decide +kernel) bi_9 ?_
                obtain ⟨r9, er9, hf⟩ := bnd_e hf
                refine v_callV (pc := 98) (As := [.ref (ρ l1), .int (1 : Int32), .int l2, .int (9 : Int32)]) (rest := [.int x8]) X (mt_Ho_amount ok hi kl0 kl1 er9) ml_4_107 mv_Ho_amount kl0 cls_4 rfl ⟨Nat.le_of_ble_eq_true rfl, Nat.le_of_ble_eq_true rfl⟩ rfl rfl (Nat.le_of_ble_eq_true rfl) (by decide +kernel) ?_
                change V E g tb ρ 6 101 [(4, .int x8), (3, .int r2), (0, .ref (ρ l0)), (1, .ref (ρ l1)), (2, .int l2)] [.int r9.1, .int x8] r9.2
                refine v_mmin (pc := 101) X mm_4_95 ms_mmin mc_mmin mi_math ⟨Nat.le_of_ble_eq_true rfl, Nat.le_of_ble_eq_true rfl⟩ (by decide +kernel) ?_
                obtain ⟨x10, ex10, hf⟩ := nmd_e hf
                refine v_nmi ex10 ?_
                refine v_istore (pc := 104) (k := 5) (lv' := [(5, .int x10), (4, .int x8), (3, .int r2), (0, .ref (ρ l0)), (1, .ref (ρ l1)), (2, .int l2)]) X (by decide +kernel) (Nat.le_of_ble_eq_true rfl) rfl ?_
                refine v_aload_n (pc := 106) (k := 1) X (by decide +kernel) 4 rfl ?_
                refine v_geta (pc := 107) X fl_4_104 kl1 fk_11_10 (by decide +kernel) ?_
                refine v_iload_n (pc := 110) (k := 2) X (by decide +kernel) 5 rfl ?_
                refine v_dup2 (pc := 111) X (by decide +kernel) rfl rfl ?_
                obtain ⟨x11, ex11, hf⟩ := bnd_e hf
                refine v_iald (pc := 112) X (ly_11_10 ok kl1) ex11 (by decide +kernel) ?_
                refine v_iload (pc := 113) (k := 5) X (by decide +kernel) 0 rfl ?_
                refine v_isub (pc := 115) X (by decide +kernel) ?_
                obtain ⟨h12, eh12, hf⟩ := bnd_e hf
                refine v_iast (pc := 116) X (ly_11_10 ok kl1) eh12 (by decide +kernel) ?_
                refine v_aload_n (pc := 117) (k := 1) X (by decide +kernel) 4 rfl ?_
                refine v_geta (pc := 118) X fl_4_124 kl1 fk_11_14 (by decide +kernel) ?_
                refine v_iload_n (pc := 121) (k := 3) X (by decide +kernel) 2 rfl ?_
                refine v_dup2 (pc := 122) X (by decide +kernel) rfl rfl ?_
                obtain ⟨x13, ex13, hf⟩ := bnd_e hf
                refine v_iald (pc := 123) X (ly_11_14 ok kl1) ex13 (by decide +kernel) ?_
                refine v_iload (pc := 124) (k := 5) X (by decide +kernel) 0 rfl ?_
                refine v_isub (pc := 126) X (by decide +kernel) ?_
                obtain ⟨h14, eh14, hf⟩ := bnd_e hf
                refine v_iast (pc := 127) X (ly_11_14 ok kl1) eh14 (by decide +kernel) ?_
                refine v_aload_n (pc := 128) (k := 1) X (by decide +kernel) 4 rfl ?_
                refine v_geta (pc := 129) X fl_4_111 kl1 fk_11_13 (by decide +kernel) ?_
                refine v_iload_n (pc := 132) (k := 2) X (by decide +kernel) 5 rfl ?_
                refine v_iload (pc := 133) (k := 5) X (by decide +kernel) 0 rfl ?_
                obtain ⟨h15, eh15, hf⟩ := bnd_e hf
                refine v_iast (pc := 135) X (ly_11_13 ok kl1) eh15 (by decide +kernel) ?_
                refine v_aload_n (pc := 136) (k := 1) X (by decide +kernel) 4 rfl ?_
                refine v_dup (pc := 137) X (by decide +kernel) rfl ?_
                refine v_geti (pc := 138) X fl_4_127 kl1 rfl (by decide +kernel) ?_
                refine v_iload (pc := 141) (k := 5) X (by decide +kernel) 0 rfl ?_
                refine v_iadd (pc := 143) X (by decide +kernel) ?_
                obtain ⟨h16, eh16, hf⟩ := nmd_e hf
                refine v_puti (pc := 144) X fp_4_127 kl1 rfl (by decide +kernel) eh16 ?_
                refine v_sub [3, 4, 5] rfl ?_
                exact vjb_Ho_drink_147 ok hi X Y ih h16 l0 l1 l2 kl0 kl1 hf
set_option maxRecDepth 4000 in
set_option maxHeartbeats 1000000 in
theorem mt_Ho_drink {g : Gl} {tb : Tb} {ρ : Nat → Nat} (ok : TbOK tb) (hi : inj tb ρ) {h : Hp} {l0 : Nat} {l1 : Nat} (kl0 : kd tb l0 = 4) (kl1 : kd tb l1 = 11) {r : Hp} (hf : f_Ho_drink tb h l0 l1 = some r) : MT g y_Ho_drink prog_5_method_10_code 6 none 4 103 tb ρ [.ref (ρ l0), .ref (ρ l1)] h (none) r := by
  refine mt_intro (by decide +kernel) ok hi (Nat.le_of_ble_eq_true rfl) (fun E X Y => ?_)
  change V E g tb ρ 6 0 [(0, .ref (ρ l0)), (1, .ref (ρ l1))] [] h
  unfold f_Ho_drink at hf
  refine v_aload_n (pc := 0) (k := 1) X (by decide +kernel) 1 rfl ?_
  refine v_geta (pc := 1) X fl_4_111 kl1 fk_11_13 (by decide +kernel) ?_
  refine v_iconst (pc := 4) (n := 0) X (by decide +kernel) ic_0 ?_
  obtain ⟨r1, er1, hf⟩ := bnd_e hf
  refine v_callS (pc := 5) (As := [.ref (ρ (lay tb l1 13)), .int (0 : Int32)]) (rest := []) X (mt_Ar_fill ok hi (ly_11_13 ok kl1) er1) ml_4_114 ms_Ar_fill ⟨Nat.le_of_ble_eq_true rfl, Nat.le_of_ble_eq_true rfl⟩ rfl rfl (Nat.le_of_ble_eq_true rfl) (by decide +kernel) ?_
  change V E g tb ρ 6 8 [(0, .ref (ρ l0)), (1, .ref (ρ l1))] [] r1
  refine v_iconst (pc := 8) (n := 0) X (by decide +kernel) ic_0 ?_
  refine v_istore_n (pc := 9) (k := 2) (lv' := [(2, .int (0 : Int32)), (0, .ref (ρ l0)), (1, .ref (ρ l1))]) X (by decide +kernel) (Nat.le_of_ble_eq_true rfl) rfl ?_
  refine v_sub [1, 2, 0] rfl ?_
  exact vlp_Ho_drink_10 ok hi X Y fu r1 l0 l1 (0 : Int32) kl0 kl1 hf
def f_Pl_areEnemies (tb : Tb) (h : Hp) (l0 : Nat) (l1 : Nat) (l2 : Int32) (l3 : Int32) : Option (Int32) :=
  (rI tb h (lay tb l1 9) l2).bind fun x1 =>
  (rI tb h (lay tb l1 9) l3).bind fun x2 =>
  if x1 = x2 then (
    (rI tb h (lay tb l0 12) l2).bind fun x3 =>
    (rI tb h (lay tb l0 12) l3).bind fun x4 =>
    if x3 = x4 then (
      some (0 : Int32)
    ) else (
      nmd (f_Wo_isOn tb h l1 l2) fun r5 =>
      if r5 = (0 : Int32) then (
        some (0 : Int32)
      ) else (
        nmd (f_Wo_isOn tb h l1 l3) fun r6 =>
        if r6 = (0 : Int32) then (
          some (0 : Int32)
        ) else (
          some (1 : Int32)
        )
      )
    )
  ) else (
    some (0 : Int32)
  )
set_option maxRecDepth 4000 in
set_option maxHeartbeats 1000000 in
theorem mt_Pl_areEnemies {g : Gl} {tb : Tb} {ρ : Nat → Nat} (ok : TbOK tb) (hi : inj tb ρ) {h : Hp} {l0 : Nat} {l1 : Nat} {l2 : Int32} {l3 : Int32} (kl0 : kd tb l0 = 7) (kl1 : kd tb l1 = 11) {r : Int32} (hf : f_Pl_areEnemies tb h l0 l1 l2 l3 = some r) : MT g y_Pl_areEnemies prog_8_method_7_code 4 (some .boolean) 1 21 tb ρ [.ref (ρ l0), .ref (ρ l1), .int l2, .int l3] h (some (.int r)) h := by
  refine mt_intro (by decide +kernel) ok hi (Nat.le_of_ble_eq_true rfl) (fun E X Y => ?_)
  change V E g tb ρ 4 0 [(0, .ref (ρ l0)), (1, .ref (ρ l1)), (2, .int l2), (3, .int l3)] [] h
  unfold f_Pl_areEnemies at hf
  refine v_aload_n (pc := 0) (k := 1) X (by decide +kernel) 1 rfl ?_
  refine v_geta (pc := 1) X fl_7_95 kl1 fk_11_9 (by decide +kernel) ?_
  refine v_iload_n (pc := 4) (k := 2) X (by decide +kernel) 2 rfl ?_
  obtain ⟨x1, ex1, hf⟩ := bnd_e hf
  refine v_iald (pc := 5) X (ly_11_9 ok kl1) ex1 (by decide +kernel) ?_
  refine v_aload_n (pc := 6) (k := 1) X (by decide +kernel) 1 rfl ?_
  refine v_geta (pc := 7) X fl_7_95 kl1 fk_11_9 (by decide +kernel) ?_
  refine v_iload_n (pc := 10) (k := 3) X (by decide +kernel) 3 rfl ?_
  obtain ⟨x2, ex2, hf⟩ := bnd_e hf
  refine v_iald (pc := 11) X (ly_11_9 ok kl1) ex2 (by decide +kernel) ?_
  refine v_icmp_ne (pc := 12) (off := 38) (tgt := 50) X (by decide +kernel) (by decide) (fun q10 => ?_) (fun q10 => ?_)
  · rw [if_neg q10] at hf
    refine v_iconst (pc := 50) (n := 0) X (by decide +kernel) ic_0 ?_
    cases hf
    exact v_zret (hz := rfl) X Y (by decide +kernel) rfl rfl
  · rw [if_pos q10] at hf
    refine v_aload_n (pc := 15) (k := 0) X (by decide +kernel) 0 rfl ?_
    refine v_geta (pc := 16) X fl_7_30 kl0 fk_7_12 (by decide +kernel) ?_
    refine v_iload_n (pc := 19) (k := 2) X (by decide +kernel) 2 rfl ?_
    obtain ⟨x3, ex3, hf⟩ := bnd_e hf
    refine v_iald (pc := 20) X (ly_7_12 ok kl0) ex3 (by decide +kernel) ?_
    refine v_aload_n (pc := 21) (k := 0) X (by decide +kernel) 0 rfl ?_
    refine v_geta (pc := 22) X fl_7_30 kl0 fk_7_12 (by decide +kernel) ?_
    refine v_iload_n (pc := 25) (k := 3) X (by decide +kernel) 3 rfl ?_
    obtain ⟨x4, ex4, hf⟩ := bnd_e hf
    refine v_iald (pc := 26) X (ly_7_12 ok kl0) ex4 (by decide +kernel) ?_
    refine v_icmp_eq (pc := 27) (off := 23) (tgt := 50) X (by decide +kernel) (by decide) (fun q9 => ?_) (fun q9 => ?_)
    · rw [if_pos q9] at hf
      refine v_iconst (pc := 50) (n := 0) X (by decide +kernel) ic_0 ?_
      cases hf
      exact v_zret (hz := rfl) X Y (by decide +kernel) rfl rfl
    · rw [if_neg q9] at hf
      refine v_aload_n (pc := 30) (k := 1) X (by decide +kernel) 1 rfl ?_
      refine v_iload_n (pc := 31) (k := 2) X (by decide +kernel) 2 rfl ?_
      obtain ⟨r5, er5, hf⟩ := nmd_e hf
      refine v_callV (pc := 32) (As := [.int l2]) (rest := []) X (mt_Wo_isOn ok hi kl1 er5.symm) ml_7_100 mv_Wo_isOn kl1 cls_11 rfl ⟨Nat.le_of_ble_eq_true rfl, Nat.le_of_ble_eq_true rfl⟩ rfl rfl (Nat.le_of_ble_eq_true rfl) (by decide +kernel) ?_
      change V E g tb ρ 4 35 [(0, .ref (ρ l0)), (1, .ref (ρ l1)), (2, .int l2), (3, .int l3)] [.int r5] h
      refine v_if_eq (pc := 35) (off := 15) (tgt := 50) X (by decide +kernel) (by decide) (fun q8 => ?_) (fun q8 => ?_)
      · rw [if_pos q8] at hf
        refine v_iconst (pc := 50) (n := 0) X (by decide +kernel) ic_0 ?_
        cases hf
        exact v_zret (hz := rfl) X Y (by decide +kernel) rfl rfl
      · rw [if_neg q8] at hf
        refine v_aload_n (pc := 38) (k := 1) X (by decide +kernel) 1 rfl ?_
        refine v_iload_n (pc := 39) (k := 3) X (by decide +kernel) 3 rfl ?_
        obtain ⟨r6, er6, hf⟩ := nmd_e hf
        refine v_callV (pc := 40) (As := [.int l3]) (rest := []) X (mt_Wo_isOn ok hi kl1 er6.symm) ml_7_100 mv_Wo_isOn kl1 cls_11 rfl ⟨Nat.le_of_ble_eq_true rfl, Nat.le_of_ble_eq_true rfl⟩ rfl rfl (Nat.le_of_ble_eq_true rfl) (by decide +kernel) ?_
        change V E g tb ρ 4 43 [(0, .ref (ρ l0)), (1, .ref (ρ l1)), (2, .int l2), (3, .int l3)] [.int r6] h
        refine v_if_eq (pc := 43) (off := 7) (tgt := 50) X (by decide +kernel) (by decide) (fun q7 => ?_) (fun q7 => ?_)
        · rw [if_pos q7] at hf
          refine v_iconst (pc := 50) (n := 0) X (by decide +kernel) ic_0 ?_
          cases hf
          exact v_zret (hz := rfl) X Y (by decide +kernel) rfl rfl
        · rw [if_neg q7] at hf
          refine v_iconst (pc := 46) (n := 1) X (by decide +kernel) ic_1 ?_
          refine v_goto (pc := 47) (off := 4) (tgt := 51) X (by decide +kernel) (by decide) ?_
          cases hf
          exact v_zret (hz := rfl) X Y (by decide +kernel) rfl rfl
def f_Wo_pairOf (tb : Tb) (h : Hp) (l0 : Int32) (l1 : Int32) : Int32 :=
  (1 : Int32) <<< ((((4 : Int32) * (mnI l0 l1)) + (mxI l0 l1)) &&& 31)
set_option maxRecDepth 4000 in
set_option maxHeartbeats 1000000 in
theorem mt_Wo_pairOf {g : Gl} {tb : Tb} {ρ : Nat → Nat} (ok : TbOK tb) (hi : inj tb ρ) {h : Hp} {l0 : Int32} {l1 : Int32}  {r : Int32} (hf : f_Wo_pairOf tb h l0 l1 = r) : MT g y_Wo_pairOf prog_12_method_9_code 2 (some .int) 1 15 tb ρ [.int l0, .int l1] h (some (.int r)) h := by
  refine mt_intro (by decide +kernel) ok hi (Nat.le_of_ble_eq_true rfl) (fun E X Y => ?_)
  change V E g tb ρ 2 0 [(0, .int l0), (1, .int l1)] [] h
  unfold f_Wo_pairOf at hf
  refine v_iconst (pc := 0) (n := 1) X (by decide +kernel) ic_1 ?_
  refine v_iconst (pc := 1) (n := 4) X (by decide +kernel) ic_4 ?_
  refine v_iload_n (pc := 2) (k := 0) X (by decide +kernel) 0 rfl ?_
  refine v_iload_n (pc := 3) (k := 1) X (by decide +kernel) 1 rfl ?_
  refine v_mmin (pc := 4) X mm_11_86 ms_mmin mc_mmin mi_math ⟨Nat.le_of_ble_eq_true rfl, Nat.le_of_ble_eq_true rfl⟩ (by decide +kernel) ?_
  refine v_imul (pc := 7) X (by decide +kernel) ?_
  refine v_iload_n (pc := 8) (k := 0) X (by decide +kernel) 0 rfl ?_
  refine v_iload_n (pc := 9) (k := 1) X (by decide +kernel) 1 rfl ?_
  refine v_mmax (pc := 10) X mm_11_100 ms_mmax mc_mmax mi_math ⟨Nat.le_of_ble_eq_true rfl, Nat.le_of_ble_eq_true rfl⟩ (by decide +kernel) ?_
  refine v_iadd (pc := 13) X (by decide +kernel) ?_
  refine v_ishl (pc := 14) X (by decide +kernel) ?_
  cases hf
  exact v_iret X Y (by decide +kernel) rfl rfl
def f_Wo_noteTalk (tb : Tb) (h : Hp) (l0 : Nat) (l1 : Int32) : Hp :=
  nmd (pI h l0 4 ((h.1 l0 4) + (1 : Int32))) fun h1 =>
  nmd (pI h1 l0 6 ((h1.1 l0 6) ||| l1)) fun h2 =>
  h2
set_option maxRecDepth 4000 in
set_option maxHeartbeats 1000000 in
theorem mt_Wo_noteTalk {g : Gl} {tb : Tb} {ρ : Nat → Nat} (ok : TbOK tb) (hi : inj tb ρ) {h : Hp} {l0 : Nat} {l1 : Int32} (kl0 : kd tb l0 = 11) {r : Hp} (hf : f_Wo_noteTalk tb h l0 l1 = r) : MT g y_Wo_noteTalk prog_12_method_5_code 2 none 0 0 tb ρ [.ref (ρ l0), .int l1] h (none) r := by
  refine mt_intro (by decide +kernel) ok hi (Nat.le_of_ble_eq_true rfl) (fun E X Y => ?_)
  change V E g tb ρ 2 0 [(0, .ref (ρ l0)), (1, .int l1)] [] h
  unfold f_Wo_noteTalk at hf
  refine v_aload_n (pc := 0) (k := 0) X (by decide +kernel) 0 rfl ?_
  refine v_dup (pc := 1) X (by decide +kernel) rfl ?_
  refine v_geti (pc := 2) X fl_11_52 kl0 rfl (by decide +kernel) ?_
  refine v_iconst (pc := 5) (n := 1) X (by decide +kernel) ic_1 ?_
  refine v_iadd (pc := 6) X (by decide +kernel) ?_
  obtain ⟨h1, eh1, hf⟩ := nmd_e hf
  refine v_puti (pc := 7) X fp_11_52 kl0 rfl (by decide +kernel) eh1 ?_
  refine v_aload_n (pc := 10) (k := 0) X (by decide +kernel) 0 rfl ?_
  refine v_dup (pc := 11) X (by decide +kernel) rfl ?_
  refine v_geti (pc := 12) X fl_11_58 kl0 rfl (by decide +kernel) ?_
  refine v_iload_n (pc := 15) (k := 1) X (by decide +kernel) 1 rfl ?_
  refine v_ior (pc := 16) X (by decide +kernel) ?_
  obtain ⟨h2, eh2, hf⟩ := nmd_e hf
  refine v_puti (pc := 17) X fp_11_58 kl0 rfl (by decide +kernel) eh2 ?_
  cases hf
  exact v_vret X Y (by decide +kernel) rfl rfl
def jb_Wo_noteFight_13 (tb : Tb) (h : Hp) (l0 : Nat) (l1 : Int32) : Hp :=
  nmd (pI h l0 3 ((h.1 l0 3) + (1 : Int32))) fun h1 =>
  nmd (pI h1 l0 7 ((h1.1 l0 7) ||| l1)) fun h2 =>
  h2
def f_Wo_noteFight (tb : Tb) (h : Hp) (l0 : Nat) (l1 : Int32) (l2 : Int32) : Hp :=
  if (h.1 l0 8) = (-1 : Int32) then (
    nmd (pI h l0 8 l2) fun h1 =>
    jb_Wo_noteFight_13 tb h1 l0 l1
  ) else (
    jb_Wo_noteFight_13 tb h l0 l1
  )
set_option maxRecDepth 4000 in
set_option maxHeartbeats 1000000 in
theorem vjb_Wo_noteFight_13 {E : En} {g : Gl} {tb : Tb} {ρ : Nat → Nat} (ok : TbOK tb) (hi : inj tb ρ) {r : Hp} (X : CX E g tb ρ prog_12_method_6_code 3 RC11 0 0) (Y : CQ E g tb ρ none (none) r) (h : Hp) (l0 : Nat) (l1 : Int32) (kl0 : kd tb l0 = 11) (hf : jb_Wo_noteFight_13 tb h l0 l1 = r) : V E g tb ρ 3 13 [(0, .ref (ρ l0)), (1, .int l1)] [] h := by
  unfold jb_Wo_noteFight_13 at hf
  refine v_aload_n (pc := 13) (k := 0) X (by decide +kernel) 0 rfl ?_
  refine v_dup (pc := 14) X (by decide +kernel) rfl ?_
  refine v_geti (pc := 15) X fl_11_49 kl0 rfl (by decide +kernel) ?_
  refine v_iconst (pc := 18) (n := 1) X (by decide +kernel) ic_1 ?_
  refine v_iadd (pc := 19) X (by decide +kernel) ?_
  obtain ⟨h1, eh1, hf⟩ := nmd_e hf
  refine v_puti (pc := 20) X fp_11_49 kl0 rfl (by decide +kernel) eh1 ?_
  refine v_aload_n (pc := 23) (k := 0) X (by decide +kernel) 0 rfl ?_
  refine v_dup (pc := 24) X (by decide +kernel) rfl ?_
  refine v_geti (pc := 25) X fl_11_61 kl0 rfl (by decide +kernel) ?_
  refine v_iload_n (pc := 28) (k := 1) X (by decide +kernel) 1 rfl ?_
  refine v_ior (pc := 29) X (by decide +kernel) ?_
  obtain ⟨h2, eh2, hf⟩ := nmd_e hf
  refine v_puti (pc := 30) X fp_11_61 kl0 rfl (by decide +kernel) eh2 ?_
  cases hf
  exact v_vret X Y (by decide +kernel) rfl rfl
set_option maxRecDepth 4000 in
set_option maxHeartbeats 1000000 in
theorem mt_Wo_noteFight {g : Gl} {tb : Tb} {ρ : Nat → Nat} (ok : TbOK tb) (hi : inj tb ρ) {h : Hp} {l0 : Nat} {l1 : Int32} {l2 : Int32} (kl0 : kd tb l0 = 11) {r : Hp} (hf : f_Wo_noteFight tb h l0 l1 l2 = r) : MT g y_Wo_noteFight prog_12_method_6_code 3 none 0 0 tb ρ [.ref (ρ l0), .int l1, .int l2] h (none) r := by
  refine mt_intro (by decide +kernel) ok hi (Nat.le_of_ble_eq_true rfl) (fun E X Y => ?_)
  change V E g tb ρ 3 0 [(0, .ref (ρ l0)), (1, .int l1), (2, .int l2)] [] h
  unfold f_Wo_noteFight at hf
  refine v_aload_n (pc := 0) (k := 0) X (by decide +kernel) 0 rfl ?_
  refine v_geti (pc := 1) X fl_11_64 kl0 rfl (by decide +kernel) ?_
  refine v_iconst (pc := 4) (n := -1) X (by decide +kernel) ic_m1 ?_
  refine v_icmp_ne (pc := 5) (off := 8) (tgt := 13) X (by decide +kernel) (by decide) (fun q2 => ?_) (fun q2 => ?_)
  · rw [if_neg q2] at hf
    refine v_sub [0, 1] rfl ?_
    exact vjb_Wo_noteFight_13 ok hi X Y h l0 l1 kl0 hf
  · rw [if_pos q2] at hf
    refine v_aload_n (pc := 8) (k := 0) X (by decide +kernel) 0 rfl ?_
    refine v_iload_n (pc := 9) (k := 2) X (by decide +kernel) 2 rfl ?_
    obtain ⟨h1, eh1, hf⟩ := nmd_e hf
    refine v_puti (pc := 10) X fp_11_64 kl0 rfl (by decide +kernel) eh1 ?_
    refine v_sub [0, 1] rfl ?_
    exact vjb_Wo_noteFight_13 ok hi X Y h1 l0 l1 kl0 hf
def f_Wo_injure (tb : Tb) (h : Hp) (l0 : Nat) (l1 : Int32) (l2 : Int32) : Option (Hp) :=
  (rI tb h (lay tb l0 11) l1).bind fun x1 =>
  (wI tb h (lay tb l0 11) l1 (mnI (9999 : Int32) (x1 + l2))).bind fun h2 =>
  some h2
set_option maxRecDepth 4000 in
set_option maxHeartbeats 1000000 in
theorem mt_Wo_injure {g : Gl} {tb : Tb} {ρ : Nat → Nat} (ok : TbOK tb) (hi : inj tb ρ) {h : Hp} {l0 : Nat} {l1 : Int32} {l2 : Int32} (kl0 : kd tb l0 = 11) {r : Hp} (hf : f_Wo_injure tb h l0 l1 l2 = some r) : MT g y_Wo_injure prog_12_method_7_code 3 none 1 15 tb ρ [.ref (ρ l0), .int l1, .int l2] h (none) r := by
  refine mt_intro (by decide +kernel) ok hi (Nat.le_of_ble_eq_true rfl) (fun E X Y => ?_)
  change V E g tb ρ 3 0 [(0, .ref (ρ l0)), (1, .int l1), (2, .int l2)] [] h
  unfold f_Wo_injure at hf
  refine v_aload_n (pc := 0) (k := 0) X (by decide +kernel) 0 rfl ?_
  refine v_geta (pc := 1) X fl_11_18 kl0 fk_11_11 (by decide +kernel) ?_
  refine v_iload_n (pc := 4) (k := 1) X (by decide +kernel) 1 rfl ?_
  refine v_sipush (pc := 5) (n := 9999) X (by decide +kernel) si_9999 ?_
  refine v_aload_n (pc := 8) (k := 0) X (by decide +kernel) 0 rfl ?_
  refine v_geta (pc := 9) X fl_11_18 kl0 fk_11_11 (by decide +kernel) ?_
  refine v_iload_n (pc := 12) (k := 1) X (by decide +kernel) 1 rfl ?_
  obtain ⟨x1, ex1, hf⟩ := bnd_e hf
  refine v_iald (pc := 13) X (ly_11_11 ok kl0) ex1 (by decide +kernel) ?_
  refine v_iload_n (pc := 14) (k := 2) X (by decide +kernel) 2 rfl ?_
  refine v_iadd (pc := 15) X (by decide +kernel) ?_
  refine v_mmin (pc := 16) X mm_11_86 ms_mmin mc_mmin mi_math ⟨Nat.le_of_ble_eq_true rfl, Nat.le_of_ble_eq_true rfl⟩ (by decide +kernel) ?_
  obtain ⟨h2, eh2, hf⟩ := bnd_e hf
  refine v_iast (pc := 19) X (ly_11_11 ok kl0) eh2 (by decide +kernel) ?_
  cases hf
  exact v_vret X Y (by decide +kernel) rfl rfl
def jb_Ho_encounter_137 (tb : Tb) (c7 : Hp → Nat → Nat → Int32 → Option (Hp)) (c22 : Hp → Nat → Nat → Int32 → Int32 → Option (Hp)) (h : Hp) (l0 : Nat) (l1 : Nat) (l2 : Int32) (l3 : Int32) : Option (Hp) :=
  nmd (l3 + (1 : Int32)) fun x1 =>
  c22 h l0 l1 l2 x1
def jb_Ho_encounter_90 (tb : Tb) (c7 : Hp → Nat → Nat → Int32 → Option (Hp)) (c22 : Hp → Nat → Nat → Int32 → Int32 → Option (Hp)) (h : Hp) (l0 : Nat) (l1 : Nat) (l2 : Int32) (l3 : Int32) (l4 : Int32) : Option (Hp) :=
  nmd (f_Wo_noteTalk tb h l1 l4) fun r1 =>
  jb_Ho_encounter_137 tb c7 c22 r1 l0 l1 l2 l3
def lp_Ho_encounter_22 (tb : Tb) (c7 : Hp → Nat → Nat → Int32 → Option (Hp)) : Nat → Hp → Nat → Nat → Int32 → Int32 → Option (Hp)
  | 0, _, _, _, _, _ => none
  | n + 1, h, l0, l1, l2, l3 =>
    if (h.1 (lay tb l0 0) 4) ≤ l3 then (
      nmd (l2 + (1 : Int32)) fun x1 =>
      c7 h l0 l1 x1
    ) else (
      (f_Pl_areEnemies tb h (lay tb l0 0) l1 l2 l3).bind fun r2 =>
      if r2 = (0 : Int32) then (
        jb_Ho_encounter_137 tb c7 (lp_Ho_encounter_22 tb c7 n) h l0 l1 l2 l3
      ) else (
        (rI tb h (lay tb (lay tb l0 0) 12) l2).bind fun x3 =>
        (rI tb h (lay tb (lay tb l0 0) 12) l3).bind fun x4 =>
        nmd (f_Wo_pairOf tb h x3 x4) fun r5 =>
        (rI tb h (lay tb l1 13) l2).bind fun x6 =>
        if (0 : Int32) < x6 then (
          jb_Ho_encounter_90 tb c7 (lp_Ho_encounter_22 tb c7 n) h l0 l1 l2 l3 r5
        ) else (
          (rI tb h (lay tb l1 13) l3).bind fun x7 =>
          if x7 ≤ (0 : Int32) then (
            (rI tb h (lay tb l1 9) l2).bind fun x8 =>
            nmd (f_Wo_noteFight tb h l1 r5 x8) fun r9 =>
            (f_Ho_amount tb r9 l0 l1 (2 : Int32) l2 (1 : Int32)).bind fun r10 =>
            (f_Wo_injure tb r10.2 l1 l2 r10.1).bind fun r11 =>
            (f_Ho_amount tb r11 l0 l1 (2 : Int32) l3 (1 : Int32)).bind fun r12 =>
            (f_Wo_injure tb r12.2 l1 l3 r12.1).bind fun r13 =>
            jb_Ho_encounter_137 tb c7 (lp_Ho_encounter_22 tb c7 n) r13 l0 l1 l2 l3
          ) else (
            jb_Ho_encounter_90 tb c7 (lp_Ho_encounter_22 tb c7 n) h l0 l1 l2 l3 r5
          )
        )
      )
    )
def lp_Ho_encounter_7 (tb : Tb) : Nat → Hp → Nat → Nat → Int32 → Option (Hp)
  | 0, _, _, _, _ => none
  | n + 1, h, l0, l1, l2 =>
    if (h.1 (lay tb l0 0) 4) ≤ l2 then (
      some h
    ) else (
      nmd (l2 + (1 : Int32)) fun x1 =>
      lp_Ho_encounter_22 tb (lp_Ho_encounter_7 tb n) fu h l0 l1 l2 x1
    )
def f_Ho_encounter (tb : Tb) (h : Hp) (l0 : Nat) (l1 : Nat) : Option (Hp) :=
  nmd (pI h l1 8 (-1 : Int32)) fun h1 =>
  lp_Ho_encounter_7 tb fu h1 l0 l1 (0 : Int32)
set_option maxRecDepth 4000 in
set_option maxHeartbeats 1000000 in
theorem vjb_Ho_encounter_137 {E : En} {g : Gl} {tb : Tb} {ρ : Nat → Nat} (ok : TbOK tb) (hi : inj tb ρ) {r : Hp} (X : CX E g tb ρ prog_5_method_11_code 5 RC4 4 103) (Y : CQ E g tb ρ none (none) r) {c7 : Hp → Nat → Nat → Int32 → Option (Hp)} (H7 : ∀ (h : Hp) (l0 : Nat) (l1 : Nat) (l2 : Int32) (kl0 : kd tb l0 = 4) (kl1 : kd tb l1 = 11), c7 h l0 l1 l2 = some r → V E g tb ρ 5 7 [(0, .ref (ρ l0)), (1, .ref (ρ l1)), (2, .int l2)] [] h) {c22 : Hp → Nat → Nat → Int32 → Int32 → Option (Hp)} (H22 : ∀ (h : Hp) (l0 : Nat) (l1 : Nat) (l2 : Int32) (l3 : Int32) (kl0 : kd tb l0 = 4) (kl1 : kd tb l1 = 11), c22 h l0 l1 l2 l3 = some r → V E g tb ρ 5 22 [(0, .ref (ρ l0)), (1, .ref (ρ l1)), (2, .int l2), (3, .int l3)] [] h) (h : Hp) (l0 : Nat) (l1 : Nat) (l2 : Int32) (l3 : Int32) (kl0 : kd tb l0 = 4) (kl1 : kd tb l1 = 11) (hf : jb_Ho_encounter_137 tb c7 c22 h l0 l1 l2 l3 = some r) : V E g tb ρ 5 137 [(0, .ref (ρ l0)), (1, .ref (ρ l1)), (2, .int l2), (3, .int l3)] [] h := by
  unfold jb_Ho_encounter_137 at hf
  obtain ⟨x1, ex1, hf⟩ := nmd_e hf
  refine v_iinc (pc := 137) (k := 3) (n := 1) (v := x1) (lv' := [(3, .int x1), (0, .ref (ρ l0)), (1, .ref (ρ l1)), (2, .int l2)]) X (by decide +kernel) 3 rfl (by rw [ic_1, ex1]) (Nat.le_of_ble_eq_true rfl) rfl ?_
  refine v_goto (pc := 140) (off := -118) (tgt := 22) X (by decide +kernel) (by decide) ?_
  refine v_sub [1, 2, 3, 0] rfl ?_
  exact H22 h l0 l1 l2 x1 kl0 kl1 hf
set_option maxRecDepth 4000 in
set_option maxHeartbeats 1000000 in
theorem vjb_Ho_encounter_90 {E : En} {g : Gl} {tb : Tb} {ρ : Nat → Nat} (ok : TbOK tb) (hi : inj tb ρ) {r : Hp} (X : CX E g tb ρ prog_5_method_11_code 5 RC4 4 103) (Y : CQ E g tb ρ none (none) r) {c7 : Hp → Nat → Nat → Int32 → Option (Hp)} (H7 : ∀ (h : Hp) (l0 : Nat) (l1 : Nat) (l2 : Int32) (kl0 : kd tb l0 = 4) (kl1 : kd tb l1 = 11), c7 h l0 l1 l2 = some r → V E g tb ρ 5 7 [(0, .ref (ρ l0)), (1, .ref (ρ l1)), (2, .int l2)] [] h) {c22 : Hp → Nat → Nat → Int32 → Int32 → Option (Hp)} (H22 : ∀ (h : Hp) (l0 : Nat) (l1 : Nat) (l2 : Int32) (l3 : Int32) (kl0 : kd tb l0 = 4) (kl1 : kd tb l1 = 11), c22 h l0 l1 l2 l3 = some r → V E g tb ρ 5 22 [(0, .ref (ρ l0)), (1, .ref (ρ l1)), (2, .int l2), (3, .int l3)] [] h) (h : Hp) (l0 : Nat) (l1 : Nat) (l2 : Int32) (l3 : Int32) (l4 : Int32) (kl0 : kd tb l0 = 4) (kl1 : kd tb l1 = 11) (hf : jb_Ho_encounter_90 tb c7 c22 h l0 l1 l2 l3 l4 = some r) : V E g tb ρ 5 90 [(0, .ref (ρ l0)), (1, .ref (ρ l1)), (2, .int l2), (3, .int l3), (4, .int l4)] [] h := by
  unfold jb_Ho_encounter_90 at hf
  refine v_aload_n (pc := 90) (k := 1) X (by decide +kernel) 1 rfl ?_
  refine v_iload (pc := 91) (k := 4) X (by decide +kernel) 4 rfl ?_
  obtain ⟨r1, er1, hf⟩ := nmd_e hf
  refine v_callV (pc := 93) (As := [.int l4]) (rest := []) X (mt_Wo_noteTalk ok hi kl1 er1.symm) ml_4_143 mv_Wo_noteTalk kl1 cls_11 rfl ⟨Nat.le_of_ble_eq_true rfl, Nat.le_of_ble_eq_true rfl⟩ rfl rfl (Nat.le_of_ble_eq_true rfl) (by decide +kernel) ?_
  change V E g tb ρ 5 96 [(0, .ref (ρ l0)), (1, .ref (ρ l1)), (2, .int l2), (3, .int l3), (4, .int l4)] [] r1
  refine v_goto (pc := 96) (off := 41) (tgt := 137) X (by decide +kernel) (by decide) ?_
  refine v_sub [0, 1, 2, 3] rfl ?_
  exact vjb_Ho_encounter_137 ok hi X Y H7 H22 r1 l0 l1 l2 l3 kl0 kl1 hf
set_option maxRecDepth 4000 in
set_option maxHeartbeats 1000000 in
theorem vlp_Ho_encounter_22 {E : En} {g : Gl} {tb : Tb} {ρ : Nat → Nat} (ok : TbOK tb) (hi : inj tb ρ) {r : Hp} (X : CX E g tb ρ prog_5_method_11_code 5 RC4 4 103) (Y : CQ E g tb ρ none (none) r) {c7 : Hp → Nat → Nat → Int32 → Option (Hp)} (H7 : ∀ (h : Hp) (l0 : Nat) (l1 : Nat) (l2 : Int32) (kl0 : kd tb l0 = 4) (kl1 : kd tb l1 = 11), c7 h l0 l1 l2 = some r → V E g tb ρ 5 7 [(0, .ref (ρ l0)), (1, .ref (ρ l1)), (2, .int l2)] [] h) : ∀ (n : Nat) (h : Hp) (l0 : Nat) (l1 : Nat) (l2 : Int32) (l3 : Int32) (kl0 : kd tb l0 = 4) (kl1 : kd tb l1 = 11), lp_Ho_encounter_22 tb c7 n h l0 l1 l2 l3 = some r → V E g tb ρ 5 22 [(0, .ref (ρ l0)), (1, .ref (ρ l1)), (2, .int l2), (3, .int l3)] [] h := by
  intro n
  induction n with
  | zero =>
    intro h l0 l1 l2 l3 kl0 kl1 hf
    rw [lp_Ho_encounter_22] at hf
    cases hf
  | succ n ih =>
    intro h l0 l1 l2 l3 kl0 kl1 hf
    rw [lp_Ho_encounter_22] at hf
    refine v_iload_n (pc := 22) (k := 3) X (by decide +kernel) 3 rfl ?_
    refine v_aload_n (pc := 23) (k := 0) X (by decide +kernel) 0 rfl ?_
    refine v_geta (pc := 24) X fl_4_15 kl0 fk_4_0 (by decide +kernel) ?_
    refine v_geti (pc := 27) X fl_4_76 (ly_4_0 ok kl0) rfl (by decide +kernel) ?_
    refine v_icmp_ge (pc := 30) (off := 113) (tgt := 143) X (by decide +kernel) (by decide) (fun q17 => ?_) (fun q17 => ?_)
    · rw [if_pos q17] at hf
      obtain ⟨x1, ex1, hf⟩ := nmd_e hf
      refine v_iinc (pc := 143) (k := 2) (n := 1) (v := x1) (lv' := [(2, .int x1), (0, .ref (ρ l0)), (1, .ref (ρ l1)), (3, .int l3)]) X (by decide +kernel) 2 rfl (by rw [ic_1, ex1]) (Nat.le_of_ble_eq_true rfl) rfl ?_
      refine v_goto (pc := 146) (off := -139) (tgt := 7) X (by decide +kernel) (by decide) ?_
      refine v_sub [1, 2, 0] rfl ?_
      exact H7 h l0 l1 x1 kl0 kl1 hf
    · rw [if_neg q17] at hf
      refine v_aload_n (pc := 33) (k := 0) X (by decide +kernel) 0 rfl ?_
      refine v_geta (pc := 34) X fl_4_15 kl0 fk_4_0 (by decide +kernel) ?_
      refine v_aload_n (pc := 37) (k := 1) X (by decide +kernel) 1 rfl ?_
      refine v_iload_n (pc := 38) (k := 2) X (by decide +kernel) 2 rfl ?_
      refine v_iload_n (pc := 39) (k := 3) X (by decide +kernel) 3 rfl ?_
      obtain ⟨r2, er2, hf⟩ := bnd_e hf
      refine v_callV (pc := 40) (As := [.ref (ρ l1), .int l2, .int l3]) (rest := []) X (mt_Pl_areEnemies ok hi (ly_4_0 ok kl0) kl1 er2) ml_4_133 mv_Pl_areEnemies (ly_4_0 ok kl0) cls_7 rfl ⟨Nat.le_of_ble_eq_true rfl, Nat.le_of_ble_eq_true rfl⟩ rfl rfl (Nat.le_of_ble_eq_true rfl) (by decide +kernel) ?_
      change V E g tb ρ 5 43 [(0, .ref (ρ l0)), (1, .ref (ρ l1)), (2, .int l2), (3, .int l3)] [.int r2] h
      refine v_if_ne (pc := 43) (off := 6) (tgt := 49) X (by decide +kernel) (by decide) (fun q16 => ?_) (fun q16 => ?_)
      · rw [if_neg q16] at hf
        refine v_aload_n (pc := 49) (k := 0) X (by decide +kernel) 0 rfl ?_
        refine v_geta (pc := 50) X fl_4_15 kl0 fk_4_0 (by decide +kernel) ?_
        refine v_geta (pc := 53) X fl_4_137 (ly_4_0 ok kl0) fk_7_12 (by decide +kernel) ?_
        refine v_iload_n (pc := 56) (k := 2) X (by decide +kernel) 2 rfl ?_
        obtain ⟨x3, ex3, hf⟩ := bnd_e hf
        refine v_iald (pc := 57) X (ly_7_12 ok (ly_4_0 ok kl0)) ex3 (by decide +kernel) ?_
        refine v_aload_n (pc := 58) (k := 0) X (by decide +kernel) 0 rfl ?_
        refine v_geta (pc := 59) X fl_4_15 kl0 fk_4_0 (by decide +kernel) ?_
        refine v_geta (pc := 62) X fl_4_137 (ly_4_0 ok kl0) fk_7_12 (by decide +kernel) ?_
        refine v_iload_n (pc := 65) (k := 3) X (by decide +kernel) 3 rfl ?_
        obtain ⟨x4, ex4, hf⟩ := bnd_e hf
        refine v_iald (pc := 66) X (ly_7_12 ok (ly_4_0 ok kl0)) ex4 (by decide +kernel) ?_
        obtain ⟨r5, er5, hf⟩ := nmd_e hf
        refine v_callS (pc := 67) (As := [.int x3, .int x4]) (rest := []) X (mt_Wo_pairOf ok hi er5.symm) ml_4_140 ms_Wo_pairOf ⟨Nat.le_of_ble_eq_true rfl, Nat.le_of_ble_eq_true rfl⟩ rfl rfl (Nat.le_of_ble_eq_true rfl) (by decide +kernel) ?_
        change V E g tb ρ 5 70 [(0, .ref (ρ l0)), (1, .ref (ρ l1)), (2, .int l2), (3, .int l3)] [.int r5] h
        refine v_istore (pc := 70) (k := 4) (lv' := [(4, .int r5), (0, .ref (ρ l0)), (1, .ref (ρ l1)), (2, .int l2), (3, .int l3)]) X (by decide +kernel) (Nat.le_of_ble_eq_true rfl) rfl ?_
        refine v_aload_n (pc := 72) (k := 1) X (by decide +kernel) 2 rfl ?_
        refine v_geta (pc := 73) X fl_4_111 kl1 fk_11_13 (by decide +kernel) ?_
        refine v_iload_n (pc := 76) (k := 2) X (by decide +kernel) 3 rfl ?_
        obtain ⟨x6, ex6, hf⟩ := bnd_e hf
        refine v_iald (pc := 77) X (ly_11_13 ok kl1) ex6 (by decide +kernel) ?_
        refine v_if_gt (pc := 78) (off := 12) (tgt := 90) X (by decide +kernel) (by decide) (fun q15 => ?_) (fun q15 => ?_)
        · rw [if_pos q15] at hf
          refine v_sub [1, 2, 3, 4, 0] rfl ?_
          exact vjb_Ho_encounter_90 ok hi X Y H7 ih h l0 l1 l2 l3 r5 kl0 kl1 hf
        · rw [if_neg q15] at hf
          refine v_aload_n (pc := 81) (k := 1) X (by decide +kernel) 2 rfl ?_
          refine v_geta (pc := 82) X fl_4_111 kl1 fk_11_13 (by decide +kernel) ?_
          refine v_iload_n (pc := 85) (k := 3) X (by decide +kernel) 4 rfl ?_
          obtain ⟨x7, ex7, hf⟩ := bnd_e hf
          refine v_iald (pc := 86) X (ly_11_13 ok kl1) ex7 (by decide +kernel) ?_
          refine v_if_le (pc := 87) (off := 12) (tgt := 99) X (by decide +kernel) (by decide) (fun q14 => ?_) (fun q14 => ?_)
          · rw [if_pos q14] at hf
            refine v_aload_n (pc := 99) (k := 1) X (by decide +kernel) 2 rfl ?_
            refine v_iload (pc := 100) (k := 4) X (by decide +kernel) 0 rfl ?_
            refine v_aload_n (pc := 102) (k := 1) X (by decide +kernel) 2 rfl ?_
            refine v_geta (pc := 103) X fl_4_89 kl1 fk_11_9 (by decide +kernel) ?_
            refine v_iload_n (pc := 106) (k := 2) X (by decide +kernel) 3 rfl ?_
            obtain ⟨x8, ex8, hf⟩ := bnd_e hf
            refine v_iald (pc := 107) X (ly_11_9 ok kl1) ex8 (by decide +kernel) ?_
            obtain ⟨r9, er9, hf⟩ := nmd_e hf
            refine v_callV (pc := 108) (As := [.int r5, .int x8]) (rest := []) X (mt_Wo_noteFight ok hi kl1 er9.symm) ml_4_147 mv_Wo_noteFight kl1 cls_11 rfl ⟨Nat.le_of_ble_eq_true rfl, Nat.le_of_ble_eq_true rfl⟩ rfl rfl (Nat.le_of_ble_eq_true rfl) (by decide +kernel) ?_
            change V E g tb ρ 5 111 [(4, .int r5), (0, .ref (ρ l0)), (1, .ref (ρ l1)), (2, .int l2), (3, .int l3)] [] r9
            refine v_aload_n (pc := 111) (k := 1) X (by decide +kernel) 2 rfl ?_
            refine v_iload_n (pc := 112) (k := 2) X (by decide +kernel) 3 rfl ?_
            refine v_aload_n (pc := 113) (k := 0) X (by decide +kernel) 1 rfl ?_
            refine v_aload_n (pc := 114) (k := 1) X (by decide +kernel) 2 rfl ?_
            refine v_iconst (pc := 115) (n := 2) X (by decide +kernel) ic_2 ?_
            refine v_iload_n (pc := 116) (k := 2) X (by decide +kernel) 3 rfl ?_
            refine v_iconst (pc := 117) (n := 1) X (by decide +kernel) ic_1 ?_
            obtain ⟨r10, er10, hf⟩ := bnd_e hf
            refine v_callV (pc := 118) (As := [.ref (ρ l1), .int (2 : Int32), .int l2, .int (1 : Int32)]) (rest := [.int l2, .ref (ρ l1)]) X (mt_Ho_amount ok hi kl0 kl1 er10) ml_4_107 mv_Ho_amount kl0 cls_4 rfl ⟨Nat.le_of_ble_eq_true rfl, Nat.le_of_ble_eq_true rfl⟩ rfl rfl (Nat.le_of_ble_eq_true rfl) (by decide +kernel) ?_
            change V E g tb ρ 5 121 [(4, .int r5), (0, .ref (ρ l0)), (1, .ref (ρ l1)), (2, .int l2), (3, .int l3)] [.int r10.1, .int l2, .ref (ρ l1)] r10.2
            obtain ⟨r11, er11, hf⟩ := bnd_e hf
            refine v_callV (pc := 121) (As := [.int l2, .int r10.1]) (rest := []) X (mt_Wo_injure ok hi kl1 er11) ml_4_151 mv_Wo_injure kl1 cls_11 rfl ⟨Nat.le_of_ble_eq_true rfl, Nat.le_of_ble_eq_true rfl⟩ rfl rfl (Nat.le_of_ble_eq_true rfl) (by decide +kernel) ?_
            change V E g tb ρ 5 124 [(4, .int r5), (0, .ref (ρ l0)), (1, .ref (ρ l1)), (2, .int l2), (3, .int l3)] [] r11
            refine v_aload_n (pc := 124) (k := 1) X (by decide +kernel) 2 rfl ?_
            refine v_iload_n (pc := 125) (k := 3) X (by decide +kernel) 4 rfl ?_
            refine v_aload_n (pc := 126) (k := 0) X (by decide +kernel) 1 rfl ?_
            refine v_aload_n (pc := 127) (k := 1) X (by decide +kernel) 2 rfl ?_
            refine v_iconst (pc := 128) (n := 2) X (by decide +kernel) ic_2 ?_
            refine v_iload_n (pc := 129) (k := 3) X (by decide +kernel) 4 rfl ?_
            refine v_iconst (pc := 130) (n := 1) X (by decide +kernel) ic_1 ?_
            obtain ⟨r12, er12, hf⟩ := bnd_e hf
            refine v_callV (pc := 131) (As := [.ref (ρ l1), .int (2 : Int32), .int l3, .int (1 : Int32)]) (rest := [.int l3, .ref (ρ l1)]) X (mt_Ho_amount ok hi kl0 kl1 er12) ml_4_107 mv_Ho_amount kl0 cls_4 rfl ⟨Nat.le_of_ble_eq_true rfl, Nat.le_of_ble_eq_true rfl⟩ rfl rfl (Nat.le_of_ble_eq_true rfl) (by decide +kernel) ?_
            change V E g tb ρ 5 134 [(4, .int r5), (0, .ref (ρ l0)), (1, .ref (ρ l1)), (2, .int l2), (3, .int l3)] [.int r12.1, .int l3, .ref (ρ l1)] r12.2
            obtain ⟨r13, er13, hf⟩ := bnd_e hf
            refine v_callV (pc := 134) (As := [.int l3, .int r12.1]) (rest := []) X (mt_Wo_injure ok hi kl1 er13) ml_4_151 mv_Wo_injure kl1 cls_11 rfl ⟨Nat.le_of_ble_eq_true rfl, Nat.le_of_ble_eq_true rfl⟩ rfl rfl (Nat.le_of_ble_eq_true rfl) (by decide +kernel) ?_
            change V E g tb ρ 5 137 [(4, .int r5), (0, .ref (ρ l0)), (1, .ref (ρ l1)), (2, .int l2), (3, .int l3)] [] r13
            refine v_sub [1, 2, 3, 4] rfl ?_
            exact vjb_Ho_encounter_137 ok hi X Y H7 ih r13 l0 l1 l2 l3 kl0 kl1 hf
          · rw [if_neg q14] at hf
            refine v_sub [1, 2, 3, 4, 0] rfl ?_
            exact vjb_Ho_encounter_90 ok hi X Y H7 ih h l0 l1 l2 l3 r5 kl0 kl1 hf
      · rw [if_pos q16] at hf
        refine v_goto (pc := 46) (off := 91) (tgt := 137) X (by decide +kernel) (by decide) ?_
        exact vjb_Ho_encounter_137 ok hi X Y H7 ih h l0 l1 l2 l3 kl0 kl1 hf
set_option maxRecDepth 4000 in
set_option maxHeartbeats 1000000 in
theorem vlp_Ho_encounter_7 {E : En} {g : Gl} {tb : Tb} {ρ : Nat → Nat} (ok : TbOK tb) (hi : inj tb ρ) {r : Hp} (X : CX E g tb ρ prog_5_method_11_code 5 RC4 4 103) (Y : CQ E g tb ρ none (none) r) : ∀ (n : Nat) (h : Hp) (l0 : Nat) (l1 : Nat) (l2 : Int32) (kl0 : kd tb l0 = 4) (kl1 : kd tb l1 = 11), lp_Ho_encounter_7 tb n h l0 l1 l2 = some r → V E g tb ρ 5 7 [(0, .ref (ρ l0)), (1, .ref (ρ l1)), (2, .int l2)] [] h := by
  intro n
  induction n with
  | zero =>
    intro h l0 l1 l2 kl0 kl1 hf
    rw [lp_Ho_encounter_7] at hf
    cases hf
  | succ n ih =>
    intro h l0 l1 l2 kl0 kl1 hf
    rw [lp_Ho_encounter_7] at hf
    refine v_iload_n (pc := 7) (k := 2) X (by decide +kernel) 2 rfl ?_
    refine v_aload_n (pc := 8) (k := 0) X (by decide +kernel) 0 rfl ?_
    refine v_geta (pc := 9) X fl_4_15 kl0 fk_4_0 (by decide +kernel) ?_
    refine v_geti (pc := 12) X fl_4_76 (ly_4_0 ok kl0) rfl (by decide +kernel) ?_
    refine v_icmp_ge (pc := 15) (off := 134) (tgt := 149) X (by decide +kernel) (by decide) (fun q2 => ?_) (fun q2 => ?_)
    · rw [if_pos q2] at hf
      cases hf
      exact v_vret X Y (by decide +kernel) rfl rfl
    · rw [if_neg q2] at hf
      refine v_iload_n (pc := 18) (k := 2) X (by decide +kernel) 2 rfl ?_
      refine v_iconst (pc := 19) (n := 1) X (by decide +kernel) ic_1 ?_
      refine v_iadd (pc := 20) X (by decide +kernel) ?_
      obtain ⟨x1, ex1, hf⟩ := nmd_e hf
      refine v_nmi ex1 ?_
      refine v_istore_n (pc := 21) (k := 3) (lv' := [(3, .int x1), (0, .ref (ρ l0)), (1, .ref (ρ l1)), (2, .int l2)]) X (by decide +kernel) (Nat.le_of_ble_eq_true rfl) rfl ?_
      refine v_sub [1, 2, 3, 0] rfl ?_
      exact vlp_Ho_encounter_22 ok hi X Y ih fu h l0 l1 l2 x1 kl0 kl1 hf
set_option maxRecDepth 4000 in
set_option maxHeartbeats 1000000 in
theorem mt_Ho_encounter {g : Gl} {tb : Tb} {ρ : Nat → Nat} (ok : TbOK tb) (hi : inj tb ρ) {h : Hp} {l0 : Nat} {l1 : Nat} (kl0 : kd tb l0 = 4) (kl1 : kd tb l1 = 11) {r : Hp} (hf : f_Ho_encounter tb h l0 l1 = some r) : MT g y_Ho_encounter prog_5_method_11_code 5 none 4 103 tb ρ [.ref (ρ l0), .ref (ρ l1)] h (none) r := by
  refine mt_intro (by decide +kernel) ok hi (Nat.le_of_ble_eq_true rfl) (fun E X Y => ?_)
  change V E g tb ρ 5 0 [(0, .ref (ρ l0)), (1, .ref (ρ l1))] [] h
  unfold f_Ho_encounter at hf
  refine v_aload_n (pc := 0) (k := 1) X (by decide +kernel) 1 rfl ?_
  refine v_iconst (pc := 1) (n := -1) X (by decide +kernel) ic_m1 ?_
  obtain ⟨h1, eh1, hf⟩ := nmd_e hf
  refine v_puti (pc := 2) X fp_4_130 kl1 rfl (by decide +kernel) eh1 ?_
  refine v_iconst (pc := 5) (n := 0) X (by decide +kernel) ic_0 ?_
  refine v_istore_n (pc := 6) (k := 2) (lv' := [(2, .int (0 : Int32)), (0, .ref (ρ l0)), (1, .ref (ρ l1))]) X (by decide +kernel) (Nat.le_of_ble_eq_true rfl) rfl ?_
  refine v_sub [1, 2, 0] rfl ?_
  exact vlp_Ho_encounter_7 ok hi X Y fu h1 l0 l1 (0 : Int32) kl0 kl1 hf
def jb_Ho_fall_49 (tb : Tb) (c2 : Hp → Nat → Nat → Int32 → Option (Hp)) (h : Hp) (l0 : Nat) (l1 : Nat) (l2 : Int32) : Option (Hp) :=
  nmd (l2 + (1 : Int32)) fun x1 =>
  c2 h l0 l1 x1
def jb_Ho_fall_35 (tb : Tb) (c2 : Hp → Nat → Nat → Int32 → Option (Hp)) (h : Hp) (l0 : Nat) (l1 : Nat) (l2 : Int32) : Option (Hp) :=
  nmd (pI h l1 2 ((h.1 l1 2) &&& (((1 : Int32) <<< (l2 &&& 31)) ^^^ (-1 : Int32)))) fun h1 =>
  jb_Ho_fall_49 tb c2 h1 l0 l1 l2
def lp_Ho_fall_2 (tb : Tb) : Nat → Hp → Nat → Nat → Int32 → Option (Hp)
  | 0, _, _, _, _ => none
  | n + 1, h, l0, l1, l2 =>
    if (h.1 (lay tb l0 0) 4) ≤ l2 then (
      some h
    ) else (
      (rI tb h (lay tb l1 10) l2).bind fun x1 =>
      if (100 : Int32) ≤ x1 then (
        jb_Ho_fall_35 tb (lp_Ho_fall_2 tb n) h l0 l1 l2
      ) else (
        (rI tb h (lay tb l1 11) l2).bind fun x2 =>
        if x2 < (100 : Int32) then (
          jb_Ho_fall_49 tb (lp_Ho_fall_2 tb n) h l0 l1 l2
        ) else (
          jb_Ho_fall_35 tb (lp_Ho_fall_2 tb n) h l0 l1 l2
        )
      )
    )
def f_Ho_fall (tb : Tb) (h : Hp) (l0 : Nat) (l1 : Nat) : Option (Hp) :=
  lp_Ho_fall_2 tb fu h l0 l1 (0 : Int32)
set_option maxRecDepth 4000 in
set_option maxHeartbeats 1000000 in
theorem vjb_Ho_fall_49 {E : En} {g : Gl} {tb : Tb} {ρ : Nat → Nat} (ok : TbOK tb) (hi : inj tb ρ) {r : Hp} (X : CX E g tb ρ prog_5_method_12_code 3 RC4 0 0) (Y : CQ E g tb ρ none (none) r) {c2 : Hp → Nat → Nat → Int32 → Option (Hp)} (H2 : ∀ (h : Hp) (l0 : Nat) (l1 : Nat) (l2 : Int32) (kl0 : kd tb l0 = 4) (kl1 : kd tb l1 = 11), c2 h l0 l1 l2 = some r → V E g tb ρ 3 2 [(0, .ref (ρ l0)), (1, .ref (ρ l1)), (2, .int l2)] [] h) (h : Hp) (l0 : Nat) (l1 : Nat) (l2 : Int32) (kl0 : kd tb l0 = 4) (kl1 : kd tb l1 = 11) (hf : jb_Ho_fall_49 tb c2 h l0 l1 l2 = some r) : V E g tb ρ 3 49 [(0, .ref (ρ l0)), (1, .ref (ρ l1)), (2, .int l2)] [] h := by
  unfold jb_Ho_fall_49 at hf
  obtain ⟨x1, ex1, hf⟩ := nmd_e hf
  refine v_iinc (pc := 49) (k := 2) (n := 1) (v := x1) (lv' := [(2, .int x1), (0, .ref (ρ l0)), (1, .ref (ρ l1))]) X (by decide +kernel) 2 rfl (by rw [ic_1, ex1]) (Nat.le_of_ble_eq_true rfl) rfl ?_
  refine v_goto (pc := 52) (off := -50) (tgt := 2) X (by decide +kernel) (by decide) ?_
  refine v_sub [1, 2, 0] rfl ?_
  exact H2 h l0 l1 x1 kl0 kl1 hf
set_option maxRecDepth 4000 in
set_option maxHeartbeats 1000000 in
theorem vjb_Ho_fall_35 {E : En} {g : Gl} {tb : Tb} {ρ : Nat → Nat} (ok : TbOK tb) (hi : inj tb ρ) {r : Hp} (X : CX E g tb ρ prog_5_method_12_code 3 RC4 0 0) (Y : CQ E g tb ρ none (none) r) {c2 : Hp → Nat → Nat → Int32 → Option (Hp)} (H2 : ∀ (h : Hp) (l0 : Nat) (l1 : Nat) (l2 : Int32) (kl0 : kd tb l0 = 4) (kl1 : kd tb l1 = 11), c2 h l0 l1 l2 = some r → V E g tb ρ 3 2 [(0, .ref (ρ l0)), (1, .ref (ρ l1)), (2, .int l2)] [] h) (h : Hp) (l0 : Nat) (l1 : Nat) (l2 : Int32) (kl0 : kd tb l0 = 4) (kl1 : kd tb l1 = 11) (hf : jb_Ho_fall_35 tb c2 h l0 l1 l2 = some r) : V E g tb ρ 3 35 [(0, .ref (ρ l0)), (1, .ref (ρ l1)), (2, .int l2)] [] h := by
  unfold jb_Ho_fall_35 at hf
  refine v_aload_n (pc := 35) (k := 1) X (by decide +kernel) 1 rfl ?_
  refine v_dup (pc := 36) X (by decide +kernel) rfl ?_
  refine v_geti (pc := 37) X fl_4_157 kl1 rfl (by decide +kernel) ?_
  refine v_iconst (pc := 40) (n := 1) X (by decide +kernel) ic_1 ?_
  refine v_iload_n (pc := 41) (k := 2) X (by decide +kernel) 2 rfl ?_
  refine v_ishl (pc := 42) X (by decide +kernel) ?_
  refine v_iconst (pc := 43) (n := -1) X (by decide +kernel) ic_m1 ?_
  refine v_ixor (pc := 44) X (by decide +kernel) ?_
  refine v_iand (pc := 45) X (by decide +kernel) ?_
  obtain ⟨h1, eh1, hf⟩ := nmd_e hf
  refine v_puti (pc := 46) X fp_4_157 kl1 rfl (by decide +kernel) eh1 ?_
  exact vjb_Ho_fall_49 ok hi X Y H2 h1 l0 l1 l2 kl0 kl1 hf
set_option maxRecDepth 4000 in
set_option maxHeartbeats 1000000 in
theorem vlp_Ho_fall_2 {E : En} {g : Gl} {tb : Tb} {ρ : Nat → Nat} (ok : TbOK tb) (hi : inj tb ρ) {r : Hp} (X : CX E g tb ρ prog_5_method_12_code 3 RC4 0 0) (Y : CQ E g tb ρ none (none) r) : ∀ (n : Nat) (h : Hp) (l0 : Nat) (l1 : Nat) (l2 : Int32) (kl0 : kd tb l0 = 4) (kl1 : kd tb l1 = 11), lp_Ho_fall_2 tb n h l0 l1 l2 = some r → V E g tb ρ 3 2 [(0, .ref (ρ l0)), (1, .ref (ρ l1)), (2, .int l2)] [] h := by
  intro n
  induction n with
  | zero =>
    intro h l0 l1 l2 kl0 kl1 hf
    rw [lp_Ho_fall_2] at hf
    cases hf
  | succ n ih =>
    intro h l0 l1 l2 kl0 kl1 hf
    rw [lp_Ho_fall_2] at hf
    refine v_iload_n (pc := 2) (k := 2) X (by decide +kernel) 2 rfl ?_
    refine v_aload_n (pc := 3) (k := 0) X (by decide +kernel) 0 rfl ?_
    refine v_geta (pc := 4) X fl_4_15 kl0 fk_4_0 (by decide +kernel) ?_
    refine v_geti (pc := 7) X fl_4_76 (ly_4_0 ok kl0) rfl (by decide +kernel) ?_
    refine v_icmp_ge (pc := 10) (off := 45) (tgt := 55) X (by decide +kernel) (by decide) (fun q5 => ?_) (fun q5 => ?_)
    · rw [if_pos q5] at hf
      cases hf
      exact v_vret X Y (by decide +kernel) rfl rfl
    · rw [if_neg q5] at hf
      refine v_aload_n (pc := 13) (k := 1) X (by decide +kernel) 1 rfl ?_
      refine v_geta (pc := 14) X fl_4_104 kl1 fk_11_10 (by decide +kernel) ?_
      refine v_iload_n (pc := 17) (k := 2) X (by decide +kernel) 2 rfl ?_
      obtain ⟨x1, ex1, hf⟩ := bnd_e hf
      refine v_iald (pc := 18) X (ly_11_10 ok kl1) ex1 (by decide +kernel) ?_
      refine v_bipush (pc := 19) (n := 100) X (by decide +kernel) bi_100 ?_
      refine v_icmp_ge (pc := 21) (off := 14) (tgt := 35) X (by decide +kernel) (by decide) (fun q4 => ?_) (fun q4 => ?_)
      · rw [if_pos q4] at hf
        exact vjb_Ho_fall_35 ok hi X Y ih h l0 l1 l2 kl0 kl1 hf
      · rw [if_neg q4] at hf
        refine v_aload_n (pc := 24) (k := 1) X (by decide +kernel) 1 rfl ?_
        refine v_geta (pc := 25) X fl_4_154 kl1 fk_11_11 (by decide +kernel) ?_
        refine v_iload_n (pc := 28) (k := 2) X (by decide +kernel) 2 rfl ?_
        obtain ⟨x2, ex2, hf⟩ := bnd_e hf
        refine v_iald (pc := 29) X (ly_11_11 ok kl1) ex2 (by decide +kernel) ?_
        refine v_bipush (pc := 30) (n := 100) X (by decide +kernel) bi_100 ?_
        refine v_icmp_lt (pc := 32) (off := 17) (tgt := 49) X (by decide +kernel) (by decide) (fun q3 => ?_) (fun q3 => ?_)
        · rw [if_pos q3] at hf
          exact vjb_Ho_fall_49 ok hi X Y ih h l0 l1 l2 kl0 kl1 hf
        · rw [if_neg q3] at hf
          exact vjb_Ho_fall_35 ok hi X Y ih h l0 l1 l2 kl0 kl1 hf
set_option maxRecDepth 4000 in
set_option maxHeartbeats 1000000 in
theorem mt_Ho_fall {g : Gl} {tb : Tb} {ρ : Nat → Nat} (ok : TbOK tb) (hi : inj tb ρ) {h : Hp} {l0 : Nat} {l1 : Nat} (kl0 : kd tb l0 = 4) (kl1 : kd tb l1 = 11) {r : Hp} (hf : f_Ho_fall tb h l0 l1 = some r) : MT g y_Ho_fall prog_5_method_12_code 3 none 0 0 tb ρ [.ref (ρ l0), .ref (ρ l1)] h (none) r := by
  refine mt_intro (by decide +kernel) ok hi (Nat.le_of_ble_eq_true rfl) (fun E X Y => ?_)
  change V E g tb ρ 3 0 [(0, .ref (ρ l0)), (1, .ref (ρ l1))] [] h
  unfold f_Ho_fall at hf
  refine v_iconst (pc := 0) (n := 0) X (by decide +kernel) ic_0 ?_
  refine v_istore_n (pc := 1) (k := 2) (lv' := [(2, .int (0 : Int32)), (0, .ref (ρ l0)), (1, .ref (ρ l1))]) X (by decide +kernel) (Nat.le_of_ble_eq_true rfl) rfl ?_
  refine v_sub [1, 2, 0] rfl ?_
  exact vlp_Ho_fall_2 ok hi X Y fu h l0 l1 (0 : Int32) kl0 kl1 hf
def f_Wo_drawNumber (tb : Tb) (h : Hp) (l0 : Nat) : Int32 × Hp :=
  nmd (pL h l0 1 ((((h.2 l0 1) * (1103515245 : Int64)) + (12345 : Int64)) &&& (2147483647 : Int64))) fun h1 =>
  (((h1.2 l0 1) / (65536 : Int64)).toInt32, h1)
set_option maxRecDepth 4000 in
set_option maxHeartbeats 1000000 in
theorem mt_Wo_drawNumber {g : Gl} {tb : Tb} {ρ : Nat → Nat} (ok : TbOK tb) (hi : inj tb ρ) {h : Hp} {l0 : Nat} (kl0 : kd tb l0 = 11) {r : Int32 × Hp} (hf : f_Wo_drawNumber tb h l0 = r) : MT g y_Wo_drawNumber prog_12_method_8_code 1 (some .int) 0 0 tb ρ [.ref (ρ l0)] h (some (.int r.1)) r.2 := by
  refine mt_intro (by decide +kernel) ok hi (Nat.le_of_ble_eq_true rfl) (fun E X Y => ?_)
  change V E g tb ρ 1 0 [(0, .ref (ρ l0))] [] h
  unfold f_Wo_drawNumber at hf
  refine v_aload_n (pc := 0) (k := 0) X (by decide +kernel) 0 rfl ?_
  refine v_aload_n (pc := 1) (k := 0) X (by decide +kernel) 0 rfl ?_
  refine v_getl (pc := 2) X fl_11_39 kl0 rfl (by decide +kernel) ?_
  refine v_ldc2 (pc := 5) X (by decide +kernel) kl_11_92 ?_
  refine v_lmul (pc := 8) X (by decide +kernel) ?_
  refine v_ldc2 (pc := 9) X (by decide +kernel) kl_11_94 ?_
  refine v_ladd (pc := 12) X (by decide +kernel) ?_
  refine v_ldc2 (pc := 13) X (by decide +kernel) kl_11_96 ?_
  refine v_land (pc := 16) X (by decide +kernel) ?_
  obtain ⟨h1, eh1, hf⟩ := nmd_e hf
  refine v_putl (pc := 17) X fp_11_39 kl0 rfl (by decide +kernel) eh1 ?_
  refine v_aload_n (pc := 20) (k := 0) X (by decide +kernel) 0 rfl ?_
  refine v_getl (pc := 21) X fl_11_39 kl0 rfl (by decide +kernel) ?_
  refine v_ldc2 (pc := 24) X (by decide +kernel) kl_11_98 ?_
  refine v_ldiv (pc := 27) X (if_neg (by decide)) (by decide +kernel) ?_
  refine v_l2i (pc := 28) X (by decide +kernel) ?_
  cases hf
  exact v_iret X Y (by decide +kernel) rfl rfl
def jb_Ho_rain_70 (tb : Tb) (c2 : Hp → Nat → Nat → Int32 → Option (Hp)) (h : Hp) (l0 : Nat) (l1 : Nat) (l2 : Int32) : Option (Hp) :=
  nmd (l2 + (1 : Int32)) fun x1 =>
  c2 h l0 l1 x1
def jb_Ho_rain_43 (tb : Tb) (c2 : Hp → Nat → Nat → Int32 → Option (Hp)) (h : Hp) (l0 : Nat) (l1 : Nat) (l2 : Int32) : Option (Hp) :=
  (rI tb h (lay tb l1 14) l2).bind fun x1 =>
  (rI tb h (lay tb (lay tb l0 0) 9) l2).bind fun x2 =>
  (wI tb h (lay tb l1 14) l2 (mnI (99 : Int32) (x1 + x2))).bind fun h3 =>
  jb_Ho_rain_70 tb c2 h3 l0 l1 l2
def lp_Ho_rain_2 (tb : Tb) : Nat → Hp → Nat → Nat → Int32 → Option (Hp)
  | 0, _, _, _, _ => none
  | n + 1, h, l0, l1, l2 =>
    if (h.1 (lay tb l0 0) 3) ≤ l2 then (
      some h
    ) else (
      if (h.1 l0 2) ≤ (0 : Int32) then (
        some h
      ) else (
        if (100 : Int32) ≤ (h.1 l0 2) then (
          jb_Ho_rain_43 tb (lp_Ho_rain_2 tb n) h l0 l1 l2
        ) else (
          nmd (f_Wo_drawNumber tb h l1) fun r1 =>
          if (r1.2.1 l0 2) ≤ (r1.1 - r1.1 / (100 : Int32) * (100 : Int32)) then (
            jb_Ho_rain_70 tb (lp_Ho_rain_2 tb n) r1.2 l0 l1 l2
          ) else (
            jb_Ho_rain_43 tb (lp_Ho_rain_2 tb n) r1.2 l0 l1 l2
          )
        )
      )
    )
def f_Ho_rain (tb : Tb) (h : Hp) (l0 : Nat) (l1 : Nat) : Option (Hp) :=
  lp_Ho_rain_2 tb fu h l0 l1 (0 : Int32)
set_option maxRecDepth 4000 in
set_option maxHeartbeats 1000000 in
theorem vjb_Ho_rain_70 {E : En} {g : Gl} {tb : Tb} {ρ : Nat → Nat} (ok : TbOK tb) (hi : inj tb ρ) {r : Hp} (X : CX E g tb ρ prog_5_method_13_code 3 RC4 1 20) (Y : CQ E g tb ρ none (none) r) {c2 : Hp → Nat → Nat → Int32 → Option (Hp)} (H2 : ∀ (h : Hp) (l0 : Nat) (l1 : Nat) (l2 : Int32) (kl0 : kd tb l0 = 4) (kl1 : kd tb l1 = 11), c2 h l0 l1 l2 = some r → V E g tb ρ 3 2 [(0, .ref (ρ l0)), (1, .ref (ρ l1)), (2, .int l2)] [] h) (h : Hp) (l0 : Nat) (l1 : Nat) (l2 : Int32) (kl0 : kd tb l0 = 4) (kl1 : kd tb l1 = 11) (hf : jb_Ho_rain_70 tb c2 h l0 l1 l2 = some r) : V E g tb ρ 3 70 [(0, .ref (ρ l0)), (1, .ref (ρ l1)), (2, .int l2)] [] h := by
  unfold jb_Ho_rain_70 at hf
  obtain ⟨x1, ex1, hf⟩ := nmd_e hf
  refine v_iinc (pc := 70) (k := 2) (n := 1) (v := x1) (lv' := [(2, .int x1), (0, .ref (ρ l0)), (1, .ref (ρ l1))]) X (by decide +kernel) 2 rfl (by rw [ic_1, ex1]) (Nat.le_of_ble_eq_true rfl) rfl ?_
  refine v_goto (pc := 73) (off := -71) (tgt := 2) X (by decide +kernel) (by decide) ?_
  refine v_sub [1, 2, 0] rfl ?_
  exact H2 h l0 l1 x1 kl0 kl1 hf
set_option maxRecDepth 4000 in
set_option maxHeartbeats 1000000 in
theorem vjb_Ho_rain_43 {E : En} {g : Gl} {tb : Tb} {ρ : Nat → Nat} (ok : TbOK tb) (hi : inj tb ρ) {r : Hp} (X : CX E g tb ρ prog_5_method_13_code 3 RC4 1 20) (Y : CQ E g tb ρ none (none) r) {c2 : Hp → Nat → Nat → Int32 → Option (Hp)} (H2 : ∀ (h : Hp) (l0 : Nat) (l1 : Nat) (l2 : Int32) (kl0 : kd tb l0 = 4) (kl1 : kd tb l1 = 11), c2 h l0 l1 l2 = some r → V E g tb ρ 3 2 [(0, .ref (ρ l0)), (1, .ref (ρ l1)), (2, .int l2)] [] h) (h : Hp) (l0 : Nat) (l1 : Nat) (l2 : Int32) (kl0 : kd tb l0 = 4) (kl1 : kd tb l1 = 11) (hf : jb_Ho_rain_43 tb c2 h l0 l1 l2 = some r) : V E g tb ρ 3 43 [(0, .ref (ρ l0)), (1, .ref (ρ l1)), (2, .int l2)] [] h := by
  unfold jb_Ho_rain_43 at hf
  refine v_aload_n (pc := 43) (k := 1) X (by decide +kernel) 1 rfl ?_
  refine v_geta (pc := 44) X fl_4_124 kl1 fk_11_14 (by decide +kernel) ?_
  refine v_iload_n (pc := 47) (k := 2) X (by decide +kernel) 2 rfl ?_
  refine v_bipush (pc := 48) (n := 99) X (by decide +kernel) bi_99 ?_
  refine v_aload_n (pc := 50) (k := 1) X (by decide +kernel) 1 rfl ?_
  refine v_geta (pc := 51) X fl_4_124 kl1 fk_11_14 (by decide +kernel) ?_
  refine v_iload_n (pc := 54) (k := 2) X (by decide +kernel) 2 rfl ?_
  obtain ⟨x1, ex1, hf⟩ := bnd_e hf
  refine v_iald (pc := 55) X (ly_11_14 ok kl1) ex1 (by decide +kernel) ?_
  refine v_aload_n (pc := 56) (k := 0) X (by decide +kernel) 0 rfl ?_
  refine v_geta (pc := 57) X fl_4_15 kl0 fk_4_0 (by decide +kernel) ?_
  refine v_geta (pc := 60) X fl_4_167 (ly_4_0 ok kl0) fk_7_9 (by decide +kernel) ?_
  refine v_iload_n (pc := 63) (k := 2) X (by decide +kernel) 2 rfl ?_
  obtain ⟨x2, ex2, hf⟩ := bnd_e hf
  refine v_iald (pc := 64) X (ly_7_9 ok (ly_4_0 ok kl0)) ex2 (by decide +kernel) ?_
  refine v_iadd (pc := 65) X (by decide +kernel) ?_
  refine v_mmin (pc := 66) X mm_4_95 ms_mmin mc_mmin mi_math ⟨Nat.le_of_ble_eq_true rfl, Nat.le_of_ble_eq_true rfl⟩ (by decide +kernel) ?_
  obtain ⟨h3, eh3, hf⟩ := bnd_e hf
  refine v_iast (pc := 69) X (ly_11_14 ok kl1) eh3 (by decide +kernel) ?_
  exact vjb_Ho_rain_70 ok hi X Y H2 h3 l0 l1 l2 kl0 kl1 hf
set_option maxRecDepth 4000 in
set_option maxHeartbeats 1000000 in
theorem vlp_Ho_rain_2 {E : En} {g : Gl} {tb : Tb} {ρ : Nat → Nat} (ok : TbOK tb) (hi : inj tb ρ) {r : Hp} (X : CX E g tb ρ prog_5_method_13_code 3 RC4 1 20) (Y : CQ E g tb ρ none (none) r) : ∀ (n : Nat) (h : Hp) (l0 : Nat) (l1 : Nat) (l2 : Int32) (kl0 : kd tb l0 = 4) (kl1 : kd tb l1 = 11), lp_Ho_rain_2 tb n h l0 l1 l2 = some r → V E g tb ρ 3 2 [(0, .ref (ρ l0)), (1, .ref (ρ l1)), (2, .int l2)] [] h := by
  intro n
  induction n with
  | zero =>
    intro h l0 l1 l2 kl0 kl1 hf
    rw [lp_Ho_rain_2] at hf
    cases hf
  | succ n ih =>
    intro h l0 l1 l2 kl0 kl1 hf
    rw [lp_Ho_rain_2] at hf
    refine v_iload_n (pc := 2) (k := 2) X (by decide +kernel) 2 rfl ?_
    refine v_aload_n (pc := 3) (k := 0) X (by decide +kernel) 0 rfl ?_
    refine v_geta (pc := 4) X fl_4_15 kl0 fk_4_0 (by decide +kernel) ?_
    refine v_geti (pc := 7) X fl_4_160 (ly_4_0 ok kl0) rfl (by decide +kernel) ?_
    refine v_icmp_ge (pc := 10) (off := 66) (tgt := 76) X (by decide +kernel) (by decide) (fun q5 => ?_) (fun q5 => ?_)
    · rw [if_pos q5] at hf
      cases hf
      exact v_vret X Y (by decide +kernel) rfl rfl
    · rw [if_neg q5] at hf
      refine v_aload_n (pc := 13) (k := 0) X (by decide +kernel) 0 rfl ?_
      refine v_geti (pc := 14) X fl_4_28 kl0 rfl (by decide +kernel) ?_
      refine v_if_le (pc := 17) (off := 59) (tgt := 76) X (by decide +kernel) (by decide) (fun q4 => ?_) (fun q4 => ?_)
      · rw [if_pos q4] at hf
        cases hf
        exact v_vret X Y (by decide +kernel) rfl rfl
      · rw [if_neg q4] at hf
        refine v_aload_n (pc := 20) (k := 0) X (by decide +kernel) 0 rfl ?_
        refine v_geti (pc := 21) X fl_4_28 kl0 rfl (by decide +kernel) ?_
        refine v_bipush (pc := 24) (n := 100) X (by decide +kernel) bi_100 ?_
        refine v_icmp_ge (pc := 26) (off := 17) (tgt := 43) X (by decide +kernel) (by decide) (fun q3 => ?_) (fun q3 => ?_)
        · rw [if_pos q3] at hf
          exact vjb_Ho_rain_43 ok hi X Y ih h l0 l1 l2 kl0 kl1 hf
        · rw [if_neg q3] at hf
          refine v_aload_n (pc := 29) (k := 1) X (by decide +kernel) 1 rfl ?_
          obtain ⟨r1, er1, hf⟩ := nmd_e hf
          refine v_callV (pc := 30) (As := []) (rest := []) X (mt_Wo_drawNumber ok hi kl1 er1.symm) ml_4_163 mv_Wo_drawNumber kl1 cls_11 rfl ⟨Nat.le_of_ble_eq_true rfl, Nat.le_of_ble_eq_true rfl⟩ rfl rfl (Nat.le_of_ble_eq_true rfl) (by decide +kernel) ?_
          change V E g tb ρ 3 33 [(0, .ref (ρ l0)), (1, .ref (ρ l1)), (2, .int l2)] [.int r1.1] r1.2
          refine v_bipush (pc := 33) (n := 100) X (by decide +kernel) bi_100 ?_
          refine v_irem (pc := 35) X (if_neg (by decide)) (by decide +kernel) ?_
          refine v_aload_n (pc := 36) (k := 0) X (by decide +kernel) 0 rfl ?_
          refine v_geti (pc := 37) X fl_4_28 kl0 rfl (by decide +kernel) ?_
          refine v_icmp_ge (pc := 40) (off := 30) (tgt := 70) X (by decide +kernel) (by decide) (fun q2 => ?_) (fun q2 => ?_)
          · rw [if_pos q2] at hf
            exact vjb_Ho_rain_70 ok hi X Y ih r1.2 l0 l1 l2 kl0 kl1 hf
          · rw [if_neg q2] at hf
            exact vjb_Ho_rain_43 ok hi X Y ih r1.2 l0 l1 l2 kl0 kl1 hf
set_option maxRecDepth 4000 in
set_option maxHeartbeats 1000000 in
theorem mt_Ho_rain {g : Gl} {tb : Tb} {ρ : Nat → Nat} (ok : TbOK tb) (hi : inj tb ρ) {h : Hp} {l0 : Nat} {l1 : Nat} (kl0 : kd tb l0 = 4) (kl1 : kd tb l1 = 11) {r : Hp} (hf : f_Ho_rain tb h l0 l1 = some r) : MT g y_Ho_rain prog_5_method_13_code 3 none 1 20 tb ρ [.ref (ρ l0), .ref (ρ l1)] h (none) r := by
  refine mt_intro (by decide +kernel) ok hi (Nat.le_of_ble_eq_true rfl) (fun E X Y => ?_)
  change V E g tb ρ 3 0 [(0, .ref (ρ l0)), (1, .ref (ρ l1))] [] h
  unfold f_Ho_rain at hf
  refine v_iconst (pc := 0) (n := 0) X (by decide +kernel) ic_0 ?_
  refine v_istore_n (pc := 1) (k := 2) (lv' := [(2, .int (0 : Int32)), (0, .ref (ρ l0)), (1, .ref (ρ l1))]) X (by decide +kernel) (Nat.le_of_ble_eq_true rfl) rfl ?_
  refine v_sub [1, 2, 0] rfl ?_
  exact vlp_Ho_rain_2 ok hi X Y fu h l0 l1 (0 : Int32) kl0 kl1 hf
def jb_Ho_pass_49 (tb : Tb) (c2 : Hp → Nat → Nat → Int32 → Int32 → Option (Hp)) (h : Hp) (l0 : Nat) (l1 : Nat) (l2 : Int32) (l3 : Int32) : Option (Hp) :=
  nmd (pI h l1 0 ((h.1 l1 0) + (1 : Int32))) fun h1 =>
  nmd (l3 + (1 : Int32)) fun x2 =>
  c2 h1 l0 l1 l2 x2
def lp_Ho_pass_2 (tb : Tb) : Nat → Hp → Nat → Nat → Int32 → Int32 → Option (Hp)
  | 0, _, _, _, _, _ => none
  | n + 1, h, l0, l1, l2, l3 =>
    if l2 ≤ l3 then (
      some h
    ) else (
      (f_Ho_startLaps tb h l0 l1).bind fun r1 =>
      (f_Ho_walk tb r1 l0 l1).bind fun r2 =>
      (f_Ho_drink tb r2 l0 l1).bind fun r3 =>
      (f_Ho_encounter tb r3 l0 l1).bind fun r4 =>
      (f_Ho_fall tb r4 l0 l1).bind fun r5 =>
      if ((r5.1 l1 0) - (r5.1 l1 0) / (10 : Int32) * (10 : Int32)) = (9 : Int32) then (
        (f_Ho_rain tb r5 l0 l1).bind fun r7 =>
        jb_Ho_pass_49 tb (lp_Ho_pass_2 tb n) r7 l0 l1 l2 l3
      ) else (
        jb_Ho_pass_49 tb (lp_Ho_pass_2 tb n) r5 l0 l1 l2 l3
      )
    )
def f_Ho_pass (tb : Tb) (h : Hp) (l0 : Nat) (l1 : Nat) (l2 : Int32) : Option (Hp) :=
  lp_Ho_pass_2 tb fu h l0 l1 l2 (0 : Int32)
set_option maxRecDepth 4000 in
set_option maxHeartbeats 1000000 in
theorem vjb_Ho_pass_49 {E : En} {g : Gl} {tb : Tb} {ρ : Nat → Nat} (ok : TbOK tb) (hi : inj tb ρ) {r : Hp} (X : CX E g tb ρ prog_5_method_7_code 4 RC4 5 128) (Y : CQ E g tb ρ none (none) r) {c2 : Hp → Nat → Nat → Int32 → Int32 → Option (Hp)} (H2 : ∀ (h : Hp) (l0 : Nat) (l1 : Nat) (l2 : Int32) (l3 : Int32) (kl0 : kd tb l0 = 4) (kl1 : kd tb l1 = 11), c2 h l0 l1 l2 l3 = some r → V E g tb ρ 4 2 [(0, .ref (ρ l0)), (1, .ref (ρ l1)), (2, .int l2), (3, .int l3)] [] h) (h : Hp) (l0 : Nat) (l1 : Nat) (l2 : Int32) (l3 : Int32) (kl0 : kd tb l0 = 4) (kl1 : kd tb l1 = 11) (hf : jb_Ho_pass_49 tb c2 h l0 l1 l2 l3 = some r) : V E g tb ρ 4 49 [(0, .ref (ρ l0)), (1, .ref (ρ l1)), (2, .int l2), (3, .int l3)] [] h := by
  unfold jb_Ho_pass_49 at hf
  refine v_aload_n (pc := 49) (k := 1) X (by decide +kernel) 1 rfl ?_
  refine v_dup (pc := 50) X (by decide +kernel) rfl ?_
  refine v_geti (pc := 51) X fl_4_54 kl1 rfl (by decide +kernel) ?_
  refine v_iconst (pc := 54) (n := 1) X (by decide +kernel) ic_1 ?_
  refine v_iadd (pc := 55) X (by decide +kernel) ?_
  obtain ⟨h1, eh1, hf⟩ := nmd_e hf
  refine v_puti (pc := 56) X fp_4_54 kl1 rfl (by decide +kernel) eh1 ?_
  obtain ⟨x2, ex2, hf⟩ := nmd_e hf
  refine v_iinc (pc := 59) (k := 3) (n := 1) (v := x2) (lv' := [(3, .int x2), (0, .ref (ρ l0)), (1, .ref (ρ l1)), (2, .int l2)]) X (by decide +kernel) 3 rfl (by rw [ic_1, ex2]) (Nat.le_of_ble_eq_true rfl) rfl ?_
  refine v_goto (pc := 62) (off := -60) (tgt := 2) X (by decide +kernel) (by decide) ?_
  refine v_sub [1, 2, 3, 0] rfl ?_
  exact H2 h1 l0 l1 l2 x2 kl0 kl1 hf
set_option maxRecDepth 4000 in
set_option maxHeartbeats 1000000 in
theorem vlp_Ho_pass_2 {E : En} {g : Gl} {tb : Tb} {ρ : Nat → Nat} (ok : TbOK tb) (hi : inj tb ρ) {r : Hp} (X : CX E g tb ρ prog_5_method_7_code 4 RC4 5 128) (Y : CQ E g tb ρ none (none) r) : ∀ (n : Nat) (h : Hp) (l0 : Nat) (l1 : Nat) (l2 : Int32) (l3 : Int32) (kl0 : kd tb l0 = 4) (kl1 : kd tb l1 = 11), lp_Ho_pass_2 tb n h l0 l1 l2 l3 = some r → V E g tb ρ 4 2 [(0, .ref (ρ l0)), (1, .ref (ρ l1)), (2, .int l2), (3, .int l3)] [] h := by
  intro n
  induction n with
  | zero =>
    intro h l0 l1 l2 l3 kl0 kl1 hf
    rw [lp_Ho_pass_2] at hf
    cases hf
  | succ n ih =>
    intro h l0 l1 l2 l3 kl0 kl1 hf
    rw [lp_Ho_pass_2] at hf
    refine v_iload_n (pc := 2) (k := 3) X (by decide +kernel) 3 rfl ?_
    refine v_iload_n (pc := 3) (k := 2) X (by decide +kernel) 2 rfl ?_
    refine v_icmp_ge (pc := 4) (off := 61) (tgt := 65) X (by decide +kernel) (by decide) (fun q9 => ?_) (fun q9 => ?_)
    · rw [if_pos q9] at hf
      cases hf
      exact v_vret X Y (by decide +kernel) rfl rfl
    · rw [if_neg q9] at hf
      refine v_aload_n (pc := 7) (k := 0) X (by decide +kernel) 0 rfl ?_
      refine v_aload_n (pc := 8) (k := 1) X (by decide +kernel) 1 rfl ?_
      obtain ⟨r1, er1, hf⟩ := bnd_e hf
      refine v_callV (pc := 9) (As := [.ref (ρ l1)]) (rest := []) X (mt_Ho_startLaps ok hi kl0 kl1 er1) ml_4_38 mv_Ho_startLaps kl0 cls_4 rfl ⟨Nat.le_of_ble_eq_true rfl, Nat.le_of_ble_eq_true rfl⟩ rfl rfl (Nat.le_of_ble_eq_true rfl) (by decide +kernel) ?_
      change V E g tb ρ 4 12 [(0, .ref (ρ l0)), (1, .ref (ρ l1)), (2, .int l2), (3, .int l3)] [] r1
      refine v_aload_n (pc := 12) (k := 0) X (by decide +kernel) 0 rfl ?_
      refine v_aload_n (pc := 13) (k := 1) X (by decide +kernel) 1 rfl ?_
      obtain ⟨r2, er2, hf⟩ := bnd_e hf
      refine v_callV (pc := 14) (As := [.ref (ρ l1)]) (rest := []) X (mt_Ho_walk ok hi kl0 kl1 er2) ml_4_42 mv_Ho_walk kl0 cls_4 rfl ⟨Nat.le_of_ble_eq_true rfl, Nat.le_of_ble_eq_true rfl⟩ rfl rfl (Nat.le_of_ble_eq_true rfl) (by decide +kernel) ?_
      change V E g tb ρ 4 17 [(0, .ref (ρ l0)), (1, .ref (ρ l1)), (2, .int l2), (3, .int l3)] [] r2
      refine v_aload_n (pc := 17) (k := 0) X (by decide +kernel) 0 rfl ?_
      refine v_aload_n (pc := 18) (k := 1) X (by decide +kernel) 1 rfl ?_
      obtain ⟨r3, er3, hf⟩ := bnd_e hf
      refine v_callV (pc := 19) (As := [.ref (ρ l1)]) (rest := []) X (mt_Ho_drink ok hi kl0 kl1 er3) ml_4_45 mv_Ho_drink kl0 cls_4 rfl ⟨Nat.le_of_ble_eq_true rfl, Nat.le_of_ble_eq_true rfl⟩ rfl rfl (Nat.le_of_ble_eq_true rfl) (by decide +kernel) ?_
      change V E g tb ρ 4 22 [(0, .ref (ρ l0)), (1, .ref (ρ l1)), (2, .int l2), (3, .int l3)] [] r3
      refine v_aload_n (pc := 22) (k := 0) X (by decide +kernel) 0 rfl ?_
      refine v_aload_n (pc := 23) (k := 1) X (by decide +kernel) 1 rfl ?_
      obtain ⟨r4, er4, hf⟩ := bnd_e hf
      refine v_callV (pc := 24) (As := [.ref (ρ l1)]) (rest := []) X (mt_Ho_encounter ok hi kl0 kl1 er4) ml_4_48 mv_Ho_encounter kl0 cls_4 rfl ⟨Nat.le_of_ble_eq_true rfl, Nat.le_of_ble_eq_true rfl⟩ rfl rfl (Nat.le_of_ble_eq_true rfl) (by decide +kernel) ?_
      change V E g tb ρ 4 27 [(0, .ref (ρ l0)), (1, .ref (ρ l1)), (2, .int l2), (3, .int l3)] [] r4
      refine v_aload_n (pc := 27) (k := 0) X (by decide +kernel) 0 rfl ?_
      refine v_aload_n (pc := 28) (k := 1) X (by decide +kernel) 1 rfl ?_
      obtain ⟨r5, er5, hf⟩ := bnd_e hf
      refine v_callV (pc := 29) (As := [.ref (ρ l1)]) (rest := []) X (mt_Ho_fall ok hi kl0 kl1 er5) ml_4_51 mv_Ho_fall kl0 cls_4 rfl ⟨Nat.le_of_ble_eq_true rfl, Nat.le_of_ble_eq_true rfl⟩ rfl rfl (Nat.le_of_ble_eq_true rfl) (by decide +kernel) ?_
      change V E g tb ρ 4 32 [(0, .ref (ρ l0)), (1, .ref (ρ l1)), (2, .int l2), (3, .int l3)] [] r5
      refine v_aload_n (pc := 32) (k := 1) X (by decide +kernel) 1 rfl ?_
      refine v_geti (pc := 33) X fl_4_54 kl1 rfl (by decide +kernel) ?_
      refine v_bipush (pc := 36) (n := 10) X (by decide +kernel) bi_10 ?_
      refine v_irem (pc := 38) X (if_neg (by decide)) (by decide +kernel) ?_
      refine v_bipush (pc := 39) (n := 9) X (by decide +kernel) bi_9 ?_
      refine v_icmp_ne (pc := 41) (off := 8) (tgt := 49) X (by decide +kernel) (by decide) (fun q8 => ?_) (fun q8 => ?_)
      · rw [if_neg q8] at hf
        exact vjb_Ho_pass_49 ok hi X Y ih r5 l0 l1 l2 l3 kl0 kl1 hf
      · rw [if_pos q8] at hf
        refine v_aload_n (pc := 44) (k := 0) X (by decide +kernel) 0 rfl ?_
        refine v_aload_n (pc := 45) (k := 1) X (by decide +kernel) 1 rfl ?_
        obtain ⟨r7, er7, hf⟩ := bnd_e hf
        refine v_callV (pc := 46) (As := [.ref (ρ l1)]) (rest := []) X (mt_Ho_rain ok hi kl0 kl1 er7) ml_4_59 mv_Ho_rain kl0 cls_4 rfl ⟨Nat.le_of_ble_eq_true rfl, Nat.le_of_ble_eq_true rfl⟩ rfl rfl (Nat.le_of_ble_eq_true rfl) (by decide +kernel) ?_
        change V E g tb ρ 4 49 [(0, .ref (ρ l0)), (1, .ref (ρ l1)), (2, .int l2), (3, .int l3)] [] r7
        exact vjb_Ho_pass_49 ok hi X Y ih r7 l0 l1 l2 l3 kl0 kl1 hf
set_option maxRecDepth 4000 in
set_option maxHeartbeats 1000000 in
theorem mt_Ho_pass {g : Gl} {tb : Tb} {ρ : Nat → Nat} (ok : TbOK tb) (hi : inj tb ρ) {h : Hp} {l0 : Nat} {l1 : Nat} {l2 : Int32} (kl0 : kd tb l0 = 4) (kl1 : kd tb l1 = 11) {r : Hp} (hf : f_Ho_pass tb h l0 l1 l2 = some r) : MT g y_Ho_pass prog_5_method_7_code 4 none 5 128 tb ρ [.ref (ρ l0), .ref (ρ l1), .int l2] h (none) r := by
  refine mt_intro (by decide +kernel) ok hi (Nat.le_of_ble_eq_true rfl) (fun E X Y => ?_)
  change V E g tb ρ 4 0 [(0, .ref (ρ l0)), (1, .ref (ρ l1)), (2, .int l2)] [] h
  unfold f_Ho_pass at hf
  refine v_iconst (pc := 0) (n := 0) X (by decide +kernel) ic_0 ?_
  refine v_istore_n (pc := 1) (k := 3) (lv' := [(3, .int (0 : Int32)), (0, .ref (ρ l0)), (1, .ref (ρ l1)), (2, .int l2)]) X (by decide +kernel) (Nat.le_of_ble_eq_true rfl) rfl ?_
  refine v_sub [1, 2, 3, 0] rfl ?_
  exact vlp_Ho_pass_2 ok hi X Y fu h l0 l1 l2 (0 : Int32) kl0 kl1 hf
def jb_Tt_go_39 (tb : Tb) (h : Hp) (l0 : Nat) (l1 : Int32) : Option (Int32 × Hp) :=
  nmd (f_Ho_byChance tb h (lay tb l0 9)) fun r1 =>
  (f_Ho_pass tb r1 (lay tb l0 9) (lay tb l0 4) l1).bind fun r2 =>
  some (r2.1 (lay tb l0 4) 0, r2)
def f_Tt_go (tb : Tb) (h : Hp) (l0 : Nat) (l1 : Int32) : Option (Int32 × Hp) :=
  if l1 < (0 : Int32) then (
    some ((-1 : Int32), h)
  ) else (
    if (200 : Int32) < l1 then (
      some ((-1 : Int32), h)
    ) else (
      if ((h.1 (lay tb l0 4) 0) + l1) ≤ (9000 : Int32) then (
        if l1 ≤ (0 : Int32) then (
          jb_Tt_go_39 tb h l0 l1
        ) else (
          nmd (f_De_forget tb h (lay tb l0 7)) fun r1 =>
          jb_Tt_go_39 tb r1 l0 l1
        )
      ) else (
        some ((-1 : Int32), h)
      )
    )
  )
set_option maxRecDepth 4000 in
set_option maxHeartbeats 1000000 in
theorem vjb_Tt_go_39 {E : En} {g : Gl} {tb : Tb} {ρ : Nat → Nat} (ok : TbOK tb) (hi : inj tb ρ) {r : Int32 × Hp} (X : CX E g tb ρ prog_1_method_15_code 2 RC0 6 151) (Y : CQ E g tb ρ (some .int) (some (.int r.1)) r.2) (h : Hp) (l0 : Nat) (l1 : Int32) (kl0 : kd tb l0 = 0) (hf : jb_Tt_go_39 tb h l0 l1 = some r) : V E g tb ρ 2 39 [(0, .ref (ρ l0)), (1, .int l1)] [] h := by
  unfold jb_Tt_go_39 at hf
  refine v_aload_n (pc := 39) (k := 0) X (by decide +kernel) 0 rfl ?_
  refine v_geta (pc := 40) X fl_0_68 kl0 fk_0_9 (by decide +kernel) ?_
  obtain ⟨r1, er1, hf⟩ := nmd_e hf
  refine v_callV (pc := 43) (As := []) (rest := []) X (mt_Ho_byChance ok hi (ly_0_9 ok kl0) er1.symm) ml_0_211 mv_Ho_byChance (ly_0_9 ok kl0) cls_4 rfl ⟨Nat.le_of_ble_eq_true rfl, Nat.le_of_ble_eq_true rfl⟩ rfl rfl (Nat.le_of_ble_eq_true rfl) (by decide +kernel) ?_
  change V E g tb ρ 2 46 [(0, .ref (ρ l0)), (1, .int l1)] [] r1
  refine v_aload_n (pc := 46) (k := 0) X (by decide +kernel) 0 rfl ?_
  refine v_geta (pc := 47) X fl_0_68 kl0 fk_0_9 (by decide +kernel) ?_
  refine v_aload_n (pc := 50) (k := 0) X (by decide +kernel) 0 rfl ?_
  refine v_geta (pc := 51) X fl_0_38 kl0 fk_0_4 (by decide +kernel) ?_
  refine v_iload_n (pc := 54) (k := 1) X (by decide +kernel) 1 rfl ?_
  obtain ⟨r2, er2, hf⟩ := bnd_e hf
  refine v_callV (pc := 55) (As := [.ref (ρ (lay tb l0 4)), .int l1]) (rest := []) X (mt_Ho_pass ok hi (ly_0_9 ok kl0) (ly_0_4 ok kl0) er2) ml_0_214 mv_Ho_pass (ly_0_9 ok kl0) cls_4 rfl ⟨Nat.le_of_ble_eq_true rfl, Nat.le_of_ble_eq_true rfl⟩ rfl rfl (Nat.le_of_ble_eq_true rfl) (by decide +kernel) ?_
  change V E g tb ρ 2 58 [(0, .ref (ρ l0)), (1, .int l1)] [] r2
  refine v_aload_n (pc := 58) (k := 0) X (by decide +kernel) 0 rfl ?_
  refine v_geta (pc := 59) X fl_0_38 kl0 fk_0_4 (by decide +kernel) ?_
  refine v_geti (pc := 62) X fl_0_208 (ly_0_4 ok kl0) rfl (by decide +kernel) ?_
  cases hf
  exact v_iret X Y (by decide +kernel) rfl rfl
set_option maxRecDepth 4000 in
set_option maxHeartbeats 1000000 in
theorem mt_Tt_go {g : Gl} {tb : Tb} {ρ : Nat → Nat} (ok : TbOK tb) (hi : inj tb ρ) {h : Hp} {l0 : Nat} {l1 : Int32} (kl0 : kd tb l0 = 0) {r : Int32 × Hp} (hf : f_Tt_go tb h l0 l1 = some r) : MT g y_Tt_go prog_1_method_15_code 2 (some .int) 6 151 tb ρ [.ref (ρ l0), .int l1] h (some (.int r.1)) r.2 := by
  refine mt_intro (by decide +kernel) ok hi (Nat.le_of_ble_eq_true rfl) (fun E X Y => ?_)
  change V E g tb ρ 2 0 [(0, .ref (ρ l0)), (1, .int l1)] [] h
  unfold f_Tt_go at hf
  refine v_iload_n (pc := 0) (k := 1) X (by decide +kernel) 1 rfl ?_
  refine v_if_lt (pc := 1) (off := 25) (tgt := 26) X (by decide +kernel) (by decide) (fun q5 => ?_) (fun q5 => ?_)
  · rw [if_pos q5] at hf
    refine v_iconst (pc := 26) (n := -1) X (by decide +kernel) ic_m1 ?_
    cases hf
    exact v_iret X Y (by decide +kernel) rfl rfl
  · rw [if_neg q5] at hf
    refine v_iload_n (pc := 4) (k := 1) X (by decide +kernel) 1 rfl ?_
    refine v_sipush (pc := 5) (n := 200) X (by decide +kernel) si_200 ?_
    refine v_icmp_gt (pc := 8) (off := 18) (tgt := 26) X (by decide +kernel) (by decide) (fun q4 => ?_) (fun q4 => ?_)
    · rw [if_pos q4] at hf
      refine v_iconst (pc := 26) (n := -1) X (by decide +kernel) ic_m1 ?_
      cases hf
      exact v_iret X Y (by decide +kernel) rfl rfl
    · rw [if_neg q4] at hf
      refine v_aload_n (pc := 11) (k := 0) X (by decide +kernel) 0 rfl ?_
      refine v_geta (pc := 12) X fl_0_38 kl0 fk_0_4 (by decide +kernel) ?_
      refine v_geti (pc := 15) X fl_0_208 (ly_0_4 ok kl0) rfl (by decide +kernel) ?_
      refine v_iload_n (pc := 18) (k := 1) X (by decide +kernel) 1 rfl ?_
      refine v_iadd (pc := 19) X (by decide +kernel) ?_
      refine v_sipush (pc := 20) (n := 9000) X (by decide +kernel) si_9000 ?_
      refine v_icmp_le (pc := 23) (off := 5) (tgt := 28) X (by decide +kernel) (by decide) (fun q3 => ?_) (fun q3 => ?_)
      · rw [if_pos q3] at hf
        refine v_iload_n (pc := 28) (k := 1) X (by decide +kernel) 1 rfl ?_
        refine v_if_le (pc := 29) (off := 10) (tgt := 39) X (by decide +kernel) (by decide) (fun q2 => ?_) (fun q2 => ?_)
        · rw [if_pos q2] at hf
          exact vjb_Tt_go_39 ok hi X Y h l0 l1 kl0 hf
        · rw [if_neg q2] at hf
          refine v_aload_n (pc := 32) (k := 0) X (by decide +kernel) 0 rfl ?_
          refine v_geta (pc := 33) X fl_0_52 kl0 fk_0_7 (by decide +kernel) ?_
          obtain ⟨r1, er1, hf⟩ := nmd_e hf
          refine v_callV (pc := 36) (As := []) (rest := []) X (mt_De_forget ok hi (ly_0_7 ok kl0) er1.symm) ml_0_105 mv_De_forget (ly_0_7 ok kl0) cls_2 rfl ⟨Nat.le_of_ble_eq_true rfl, Nat.le_of_ble_eq_true rfl⟩ rfl rfl (Nat.le_of_ble_eq_true rfl) (by decide +kernel) ?_
          change V E g tb ρ 2 39 [(0, .ref (ρ l0)), (1, .int l1)] [] r1
          exact vjb_Tt_go_39 ok hi X Y r1 l0 l1 kl0 hf
      · rw [if_neg q3] at hf
        refine v_iconst (pc := 26) (n := -1) X (by decide +kernel) ic_m1 ?_
        cases hf
        exact v_iret X Y (by decide +kernel) rfl rfl
def f_Wo_become (tb : Tb) (h : Hp) (l0 : Nat) (l1 : Nat) : Option (Hp) :=
  nmd (pI h l0 0 (h.1 l1 0)) fun h1 =>
  nmd (pL h1 l0 1 (h1.2 l1 1)) fun h2 =>
  nmd (pI h2 l0 2 (h2.1 l1 2)) fun h3 =>
  nmd (pI h3 l0 3 (h3.1 l1 3)) fun h4 =>
  nmd (pI h4 l0 4 (h4.1 l1 4)) fun h5 =>
  nmd (pI h5 l0 5 (h5.1 l1 5)) fun h6 =>
  nmd (pI h6 l0 6 (h6.1 l1 6)) fun h7 =>
  nmd (pI h7 l0 7 (h7.1 l1 7)) fun h8 =>
  nmd (pI h8 l0 8 (h8.1 l1 8)) fun h9 =>
  (f_Tt_copy tb h9 (lay tb l1 9) (lay tb l0 9)).bind fun r10 =>
  (f_Tt_copy tb r10 (lay tb l1 10) (lay tb l0 10)).bind fun r11 =>
  (f_Tt_copy tb r11 (lay tb l1 11) (lay tb l0 11)).bind fun r12 =>
  (f_Tt_copy tb r12 (lay tb l1 12) (lay tb l0 12)).bind fun r13 =>
  (f_Tt_copy tb r13 (lay tb l1 13) (lay tb l0 13)).bind fun r14 =>
  (f_Tt_copy tb r14 (lay tb l1 14) (lay tb l0 14)).bind fun r15 =>
  some r15
set_option maxRecDepth 4000 in
set_option maxHeartbeats 1000000 in
theorem mt_Wo_become {g : Gl} {tb : Tb} {ρ : Nat → Nat} (ok : TbOK tb) (hi : inj tb ρ) {h : Hp} {l0 : Nat} {l1 : Nat} (kl0 : kd tb l0 = 11) (kl1 : kd tb l1 = 11) {r : Hp} (hf : f_Wo_become tb h l0 l1 = some r) : MT g y_Wo_become prog_12_method_3_code 2 none 2 39 tb ρ [.ref (ρ l0), .ref (ρ l1)] h (none) r := by
  refine mt_intro (by decide +kernel) ok hi (Nat.le_of_ble_eq_true rfl) (fun E X Y => ?_)
  change V E g tb ρ 2 0 [(0, .ref (ρ l0)), (1, .ref (ρ l1))] [] h
  unfold f_Wo_become at hf
  refine v_aload_n (pc := 0) (k := 0) X (by decide +kernel) 0 rfl ?_
  refine v_aload_n (pc := 1) (k := 1) X (by decide +kernel) 1 rfl ?_
  refine v_geti (pc := 2) X fl_11_30 kl1 rfl (by decide +kernel) ?_
  obtain ⟨h1, eh1, hf⟩ := nmd_e hf
  refine v_puti (pc := 5) X fp_11_30 kl0 rfl (by decide +kernel) eh1 ?_
  refine v_aload_n (pc := 8) (k := 0) X (by decide +kernel) 0 rfl ?_
  refine v_aload_n (pc := 9) (k := 1) X (by decide +kernel) 1 rfl ?_
  refine v_getl (pc := 10) X fl_11_39 kl1 rfl (by decide +kernel) ?_
  obtain ⟨h2, eh2, hf⟩ := nmd_e hf
  refine v_putl (pc := 13) X fp_11_39 kl0 rfl (by decide +kernel) eh2 ?_
  refine v_aload_n (pc := 16) (k := 0) X (by decide +kernel) 0 rfl ?_
  refine v_aload_n (pc := 17) (k := 1) X (by decide +kernel) 1 rfl ?_
  refine v_geti (pc := 18) X fl_11_46 kl1 rfl (by decide +kernel) ?_
  obtain ⟨h3, eh3, hf⟩ := nmd_e hf
  refine v_puti (pc := 21) X fp_11_46 kl0 rfl (by decide +kernel) eh3 ?_
  refine v_aload_n (pc := 24) (k := 0) X (by decide +kernel) 0 rfl ?_
  refine v_aload_n (pc := 25) (k := 1) X (by decide +kernel) 1 rfl ?_
  refine v_geti (pc := 26) X fl_11_49 kl1 rfl (by decide +kernel) ?_
  obtain ⟨h4, eh4, hf⟩ := nmd_e hf
  refine v_puti (pc := 29) X fp_11_49 kl0 rfl (by decide +kernel) eh4 ?_
  refine v_aload_n (pc := 32) (k := 0) X (by decide +kernel) 0 rfl ?_
  refine v_aload_n (pc := 33) (k := 1) X (by decide +kernel) 1 rfl ?_
  refine v_geti (pc := 34) X fl_11_52 kl1 rfl (by decide +kernel) ?_
  obtain ⟨h5, eh5, hf⟩ := nmd_e hf
  refine v_puti (pc := 37) X fp_11_52 kl0 rfl (by decide +kernel) eh5 ?_
  refine v_aload_n (pc := 40) (k := 0) X (by decide +kernel) 0 rfl ?_
  refine v_aload_n (pc := 41) (k := 1) X (by decide +kernel) 1 rfl ?_
  refine v_geti (pc := 42) X fl_11_55 kl1 rfl (by decide +kernel) ?_
  obtain ⟨h6, eh6, hf⟩ := nmd_e hf
  refine v_puti (pc := 45) X fp_11_55 kl0 rfl (by decide +kernel) eh6 ?_
  refine v_aload_n (pc := 48) (k := 0) X (by decide +kernel) 0 rfl ?_
  refine v_aload_n (pc := 49) (k := 1) X (by decide +kernel) 1 rfl ?_
  refine v_geti (pc := 50) X fl_11_58 kl1 rfl (by decide +kernel) ?_
  obtain ⟨h7, eh7, hf⟩ := nmd_e hf
  refine v_puti (pc := 53) X fp_11_58 kl0 rfl (by decide +kernel) eh7 ?_
  refine v_aload_n (pc := 56) (k := 0) X (by decide +kernel) 0 rfl ?_
  refine v_aload_n (pc := 57) (k := 1) X (by decide +kernel) 1 rfl ?_
  refine v_geti (pc := 58) X fl_11_61 kl1 rfl (by decide +kernel) ?_
  obtain ⟨h8, eh8, hf⟩ := nmd_e hf
  refine v_puti (pc := 61) X fp_11_61 kl0 rfl (by decide +kernel) eh8 ?_
  refine v_aload_n (pc := 64) (k := 0) X (by decide +kernel) 0 rfl ?_
  refine v_aload_n (pc := 65) (k := 1) X (by decide +kernel) 1 rfl ?_
  refine v_geti (pc := 66) X fl_11_64 kl1 rfl (by decide +kernel) ?_
  obtain ⟨h9, eh9, hf⟩ := nmd_e hf
  refine v_puti (pc := 69) X fp_11_64 kl0 rfl (by decide +kernel) eh9 ?_
  refine v_aload_n (pc := 72) (k := 1) X (by decide +kernel) 1 rfl ?_
  refine v_geta (pc := 73) X fl_11_9 kl1 fk_11_9 (by decide +kernel) ?_
  refine v_aload_n (pc := 76) (k := 0) X (by decide +kernel) 0 rfl ?_
  refine v_geta (pc := 77) X fl_11_9 kl0 fk_11_9 (by decide +kernel) ?_
  obtain ⟨r10, er10, hf⟩ := bnd_e hf
  refine v_callSN (pc := 80) (As := [.ref (ρ (lay tb l1 9)), .ref (ρ (lay tb l0 9))]) (rest := []) X (mt_Tt_copy ok hi (ly_11_9 ok kl1) (ly_11_9 ok kl0) er10) ml_11_70 ms_Tt_copy ⟨Nat.le_of_ble_eq_true rfl, Nat.le_of_ble_eq_true rfl⟩ rfl rfl (Nat.le_of_ble_eq_true rfl) (by decide +kernel) ?_
  change V E g tb ρ 2 83 [(0, .ref (ρ l0)), (1, .ref (ρ l1))] [] r10
  refine v_aload_n (pc := 83) (k := 1) X (by decide +kernel) 1 rfl ?_
  refine v_geta (pc := 84) X fl_11_15 kl1 fk_11_10 (by decide +kernel) ?_
  refine v_aload_n (pc := 87) (k := 0) X (by decide +kernel) 0 rfl ?_
  refine v_geta (pc := 88) X fl_11_15 kl0 fk_11_10 (by decide +kernel) ?_
  obtain ⟨r11, er11, hf⟩ := bnd_e hf
  refine v_callSN (pc := 91) (As := [.ref (ρ (lay tb l1 10)), .ref (ρ (lay tb l0 10))]) (rest := []) X (mt_Tt_copy ok hi (ly_11_10 ok kl1) (ly_11_10 ok kl0) er11) ml_11_70 ms_Tt_copy ⟨Nat.le_of_ble_eq_true rfl, Nat.le_of_ble_eq_true rfl⟩ rfl rfl (Nat.le_of_ble_eq_true rfl) (by decide +kernel) ?_
  change V E g tb ρ 2 94 [(0, .ref (ρ l0)), (1, .ref (ρ l1))] [] r11
  refine v_aload_n (pc := 94) (k := 1) X (by decide +kernel) 1 rfl ?_
  refine v_geta (pc := 95) X fl_11_18 kl1 fk_11_11 (by decide +kernel) ?_
  refine v_aload_n (pc := 98) (k := 0) X (by decide +kernel) 0 rfl ?_
  refine v_geta (pc := 99) X fl_11_18 kl0 fk_11_11 (by decide +kernel) ?_
  obtain ⟨r12, er12, hf⟩ := bnd_e hf
  refine v_callSN (pc := 102) (As := [.ref (ρ (lay tb l1 11)), .ref (ρ (lay tb l0 11))]) (rest := []) X (mt_Tt_copy ok hi (ly_11_11 ok kl1) (ly_11_11 ok kl0) er12) ml_11_70 ms_Tt_copy ⟨Nat.le_of_ble_eq_true rfl, Nat.le_of_ble_eq_true rfl⟩ rfl rfl (Nat.le_of_ble_eq_true rfl) (by decide +kernel) ?_
  change V E g tb ρ 2 105 [(0, .ref (ρ l0)), (1, .ref (ρ l1))] [] r12
  refine v_aload_n (pc := 105) (k := 1) X (by decide +kernel) 1 rfl ?_
  refine v_geta (pc := 106) X fl_11_21 kl1 fk_11_12 (by decide +kernel) ?_
  refine v_aload_n (pc := 109) (k := 0) X (by decide +kernel) 0 rfl ?_
  refine v_geta (pc := 110) X fl_11_21 kl0 fk_11_12 (by decide +kernel) ?_
  obtain ⟨r13, er13, hf⟩ := bnd_e hf
  refine v_callSN (pc := 113) (As := [.ref (ρ (lay tb l1 12)), .ref (ρ (lay tb l0 12))]) (rest := []) X (mt_Tt_copy ok hi (ly_11_12 ok kl1) (ly_11_12 ok kl0) er13) ml_11_70 ms_Tt_copy ⟨Nat.le_of_ble_eq_true rfl, Nat.le_of_ble_eq_true rfl⟩ rfl rfl (Nat.le_of_ble_eq_true rfl) (by decide +kernel) ?_
  change V E g tb ρ 2 116 [(0, .ref (ρ l0)), (1, .ref (ρ l1))] [] r13
  refine v_aload_n (pc := 116) (k := 1) X (by decide +kernel) 1 rfl ?_
  refine v_geta (pc := 117) X fl_11_24 kl1 fk_11_13 (by decide +kernel) ?_
  refine v_aload_n (pc := 120) (k := 0) X (by decide +kernel) 0 rfl ?_
  refine v_geta (pc := 121) X fl_11_24 kl0 fk_11_13 (by decide +kernel) ?_
  obtain ⟨r14, er14, hf⟩ := bnd_e hf
  refine v_callSN (pc := 124) (As := [.ref (ρ (lay tb l1 13)), .ref (ρ (lay tb l0 13))]) (rest := []) X (mt_Tt_copy ok hi (ly_11_13 ok kl1) (ly_11_13 ok kl0) er14) ml_11_70 ms_Tt_copy ⟨Nat.le_of_ble_eq_true rfl, Nat.le_of_ble_eq_true rfl⟩ rfl rfl (Nat.le_of_ble_eq_true rfl) (by decide +kernel) ?_
  change V E g tb ρ 2 127 [(0, .ref (ρ l0)), (1, .ref (ρ l1))] [] r14
  refine v_aload_n (pc := 127) (k := 1) X (by decide +kernel) 1 rfl ?_
  refine v_geta (pc := 128) X fl_11_27 kl1 fk_11_14 (by decide +kernel) ?_
  refine v_aload_n (pc := 131) (k := 0) X (by decide +kernel) 0 rfl ?_
  refine v_geta (pc := 132) X fl_11_27 kl0 fk_11_14 (by decide +kernel) ?_
  obtain ⟨r15, er15, hf⟩ := bnd_e hf
  refine v_callSN (pc := 135) (As := [.ref (ρ (lay tb l1 14)), .ref (ρ (lay tb l0 14))]) (rest := []) X (mt_Tt_copy ok hi (ly_11_14 ok kl1) (ly_11_14 ok kl0) er15) ml_11_70 ms_Tt_copy ⟨Nat.le_of_ble_eq_true rfl, Nat.le_of_ble_eq_true rfl⟩ rfl rfl (Nat.le_of_ble_eq_true rfl) (by decide +kernel) ?_
  change V E g tb ρ 2 138 [(0, .ref (ρ l0)), (1, .ref (ρ l1))] [] r15
  cases hf
  exact v_vret X Y (by decide +kernel) rfl rfl
def f_Fo_beginTrial (tb : Tb) (h : Hp) (l0 : Nat) : Option (Hp) :=
  (f_Wo_become tb h (lay tb l0 3) (lay tb l0 1)).bind fun r1 =>
  nmd (f_Ho_asItGoes tb r1 (lay tb l0 2)) fun r2 =>
  some r2
set_option maxRecDepth 4000 in
set_option maxHeartbeats 1000000 in
theorem mt_Fo_beginTrial {g : Gl} {tb : Tb} {ρ : Nat → Nat} (ok : TbOK tb) (hi : inj tb ρ) {h : Hp} {l0 : Nat} (kl0 : kd tb l0 = 3) {r : Hp} (hf : f_Fo_beginTrial tb h l0 = some r) : MT g y_Fo_beginTrial prog_4_method_2_code 1 none 3 60 tb ρ [.ref (ρ l0)] h (none) r := by
  refine mt_intro (by decide +kernel) ok hi (Nat.le_of_ble_eq_true rfl) (fun E X Y => ?_)
  change V E g tb ρ 1 0 [(0, .ref (ρ l0))] [] h
  unfold f_Fo_beginTrial at hf
  refine v_aload_n (pc := 0) (k := 0) X (by decide +kernel) 0 rfl ?_
  refine v_geta (pc := 1) X fl_3_12 kl0 fk_3_3 (by decide +kernel) ?_
  refine v_aload_n (pc := 4) (k := 0) X (by decide +kernel) 0 rfl ?_
  refine v_geta (pc := 5) X fl_3_29 kl0 fk_3_1 (by decide +kernel) ?_
  obtain ⟨r1, er1, hf⟩ := bnd_e hf
  refine v_callV (pc := 8) (As := [.ref (ρ (lay tb l0 1))]) (rest := []) X (mt_Wo_become ok hi (ly_3_3 ok kl0) (ly_3_1 ok kl0) er1) ml_3_36 mv_Wo_become (ly_3_3 ok kl0) cls_11 rfl ⟨Nat.le_of_ble_eq_true rfl, Nat.le_of_ble_eq_true rfl⟩ rfl rfl (Nat.le_of_ble_eq_true rfl) (by decide +kernel) ?_
  change V E g tb ρ 1 11 [(0, .ref (ρ l0))] [] r1
  refine v_aload_n (pc := 11) (k := 0) X (by decide +kernel) 0 rfl ?_
  refine v_geta (pc := 12) X fl_3_32 kl0 fk_3_2 (by decide +kernel) ?_
  obtain ⟨r2, er2, hf⟩ := nmd_e hf
  refine v_callV (pc := 15) (As := []) (rest := []) X (mt_Ho_asItGoes ok hi (ly_3_2 ok kl0) er2.symm) ml_3_40 mv_Ho_asItGoes (ly_3_2 ok kl0) cls_4 rfl ⟨Nat.le_of_ble_eq_true rfl, Nat.le_of_ble_eq_true rfl⟩ rfl rfl (Nat.le_of_ble_eq_true rfl) (by decide +kernel) ?_
  change V E g tb ρ 1 18 [(0, .ref (ρ l0))] [] r2
  cases hf
  exact v_vret X Y (by decide +kernel) rfl rfl
def f_Fo_behind (tb : Tb) (h : Hp) (l0 : Nat) (l1 : Int32) : Option (Hp) :=
  (f_Fo_beginTrial tb h l0).bind fun r1 =>
  (f_Ho_pass tb r1 (lay tb l0 2) (lay tb l0 3) l1).bind fun r2 =>
  some r2
set_option maxRecDepth 4000 in
set_option maxHeartbeats 1000000 in
theorem mt_Fo_behind {g : Gl} {tb : Tb} {ρ : Nat → Nat} (ok : TbOK tb) (hi : inj tb ρ) {h : Hp} {l0 : Nat} {l1 : Int32} (kl0 : kd tb l0 = 3) {r : Hp} (hf : f_Fo_behind tb h l0 l1 = some r) : MT g y_Fo_behind prog_4_method_3_code 2 (some (.object "TroughTreaty$World")) 6 151 tb ρ [.ref (ρ l0), .int l1] h (some (.ref (ρ (lay tb l0 3)))) r := by
  refine mt_intro (by decide +kernel) ok hi (Nat.le_of_ble_eq_true rfl) (fun E X Y => ?_)
  change V E g tb ρ 2 0 [(0, .ref (ρ l0)), (1, .int l1)] [] h
  unfold f_Fo_behind at hf
  refine v_aload_n (pc := 0) (k := 0) X (by decide +kernel) 0 rfl ?_
  obtain ⟨r1, er1, hf⟩ := bnd_e hf
  refine v_callV (pc := 1) (As := []) (rest := []) X (mt_Fo_beginTrial ok hi kl0 er1) ml_3_45 mv_Fo_beginTrial kl0 cls_3 rfl ⟨Nat.le_of_ble_eq_true rfl, Nat.le_of_ble_eq_true rfl⟩ rfl rfl (Nat.le_of_ble_eq_true rfl) (by decide +kernel) ?_
  change V E g tb ρ 2 4 [(0, .ref (ρ l0)), (1, .int l1)] [] r1
  refine v_aload_n (pc := 4) (k := 0) X (by decide +kernel) 0 rfl ?_
  refine v_geta (pc := 5) X fl_3_32 kl0 fk_3_2 (by decide +kernel) ?_
  refine v_aload_n (pc := 8) (k := 0) X (by decide +kernel) 0 rfl ?_
  refine v_geta (pc := 9) X fl_3_12 kl0 fk_3_3 (by decide +kernel) ?_
  refine v_iload_n (pc := 12) (k := 1) X (by decide +kernel) 1 rfl ?_
  obtain ⟨r2, er2, hf⟩ := bnd_e hf
  refine v_callV (pc := 13) (As := [.ref (ρ (lay tb l0 3)), .int l1]) (rest := []) X (mt_Ho_pass ok hi (ly_3_2 ok kl0) (ly_3_3 ok kl0) er2) ml_3_48 mv_Ho_pass (ly_3_2 ok kl0) cls_4 rfl ⟨Nat.le_of_ble_eq_true rfl, Nat.le_of_ble_eq_true rfl⟩ rfl rfl (Nat.le_of_ble_eq_true rfl) (by decide +kernel) ?_
  change V E g tb ρ 2 16 [(0, .ref (ρ l0)), (1, .int l1)] [] r2
  refine v_aload_n (pc := 16) (k := 0) X (by decide +kernel) 0 rfl ?_
  refine v_geta (pc := 17) X fl_3_12 kl0 fk_3_3 (by decide +kernel) ?_
  cases hf
  exact v_aret X Y (by decide +kernel) rfl rfl
def f_In_bitCount (tb : Tb) (h : Hp) (l0 : Int32) : Int32 :=
  nmd (l0 - ((ushr l0 (1 : Int32)) &&& (1431655765 : Int32))) fun x1 =>
  nmd ((x1 &&& (858993459 : Int32)) + ((ushr x1 (2 : Int32)) &&& (858993459 : Int32))) fun x2 =>
  nmd ((x2 + (ushr x2 (4 : Int32))) &&& (252645135 : Int32)) fun x3 =>
  nmd (x3 + (ushr x3 (8 : Int32))) fun x4 =>
  nmd (x4 + (ushr x4 (16 : Int32))) fun x5 =>
  x5 &&& (63 : Int32)
set_option maxRecDepth 4000 in
set_option maxHeartbeats 1000000 in
theorem mt_In_bitCount {g : Gl} {tb : Tb} {ρ : Nat → Nat} (ok : TbOK tb) (hi : inj tb ρ) {h : Hp} {l0 : Int32}  {r : Int32} (hf : f_In_bitCount tb h l0 = r) : MT g y_In_bitCount prog_20_method_49_code 1 (some .int) 0 0 tb ρ [.int l0] h (some (.int r)) h := by
  refine mt_intro (by decide +kernel) ok hi (Nat.le_of_ble_eq_true rfl) (fun E X Y => ?_)
  change V E g tb ρ 1 0 [(0, .int l0)] [] h
  unfold f_In_bitCount at hf
  refine v_iload_n (pc := 0) (k := 0) X (by decide +kernel) 0 rfl ?_
  refine v_iload_n (pc := 1) (k := 0) X (by decide +kernel) 0 rfl ?_
  refine v_iconst (pc := 2) (n := 1) X (by decide +kernel) ic_1 ?_
  refine v_iushr (pc := 3) X (by decide +kernel) ?_
  refine v_ldcw (pc := 4) X (by decide +kernel) kc_In_265 ?_
  refine v_iand (pc := 7) X (by decide +kernel) ?_
  refine v_isub (pc := 8) X (by decide +kernel) ?_
  obtain ⟨x1, ex1, hf⟩ := nmd_e hf
  refine v_nmi ex1 ?_
  refine v_istore_n (pc := 9) (k := 0) (lv' := [(0, .int x1)]) X (by decide +kernel) (Nat.le_of_ble_eq_true rfl) rfl ?_
  refine v_iload_n (pc := 10) (k := 0) X (by decide +kernel) 0 rfl ?_
  refine v_ldcw (pc := 11) X (by decide +kernel) kc_In_266 ?_
  refine v_iand (pc := 14) X (by decide +kernel) ?_
  refine v_iload_n (pc := 15) (k := 0) X (by decide +kernel) 0 rfl ?_
  refine v_iconst (pc := 16) (n := 2) X (by decide +kernel) ic_2 ?_
  refine v_iushr (pc := 17) X (by decide +kernel) ?_
  refine v_ldcw (pc := 18) X (by decide +kernel) kc_In_266 ?_
  refine v_iand (pc := 21) X (by decide +kernel) ?_
  refine v_iadd (pc := 22) X (by decide +kernel) ?_
  obtain ⟨x2, ex2, hf⟩ := nmd_e hf
  refine v_nmi ex2 ?_
  refine v_istore_n (pc := 23) (k := 0) (lv' := [(0, .int x2)]) X (by decide +kernel) (Nat.le_of_ble_eq_true rfl) rfl ?_
  refine v_iload_n (pc := 24) (k := 0) X (by decide +kernel) 0 rfl ?_
  refine v_iload_n (pc := 25) (k := 0) X (by decide +kernel) 0 rfl ?_
  refine v_iconst (pc := 26) (n := 4) X (by decide +kernel) ic_4 ?_
  refine v_iushr (pc := 27) X (by decide +kernel) ?_
  refine v_iadd (pc := 28) X (by decide +kernel) ?_
  refine v_ldcw (pc := 29) X (by decide +kernel) kc_In_267 ?_
  refine v_iand (pc := 32) X (by decide +kernel) ?_
  obtain ⟨x3, ex3, hf⟩ := nmd_e hf
  refine v_nmi ex3 ?_
  refine v_istore_n (pc := 33) (k := 0) (lv' := [(0, .int x3)]) X (by decide +kernel) (Nat.le_of_ble_eq_true rfl) rfl ?_
  refine v_iload_n (pc := 34) (k := 0) X (by decide +kernel) 0 rfl ?_
  refine v_iload_n (pc := 35) (k := 0) X (by decide +kernel) 0 rfl ?_
  refine v_bipush (pc := 36) (n := 8) X (by decide +kernel) bi_8 ?_
  refine v_iushr (pc := 38) X (by decide +kernel) ?_
  refine v_iadd (pc := 39) X (by decide +kernel) ?_
  obtain ⟨x4, ex4, hf⟩ := nmd_e hf
  refine v_nmi ex4 ?_
  refine v_istore_n (pc := 40) (k := 0) (lv' := [(0, .int x4)]) X (by decide +kernel) (Nat.le_of_ble_eq_true rfl) rfl ?_
  refine v_iload_n (pc := 41) (k := 0) X (by decide +kernel) 0 rfl ?_
  refine v_iload_n (pc := 42) (k := 0) X (by decide +kernel) 0 rfl ?_
  refine v_bipush (pc := 43) (n := 16) X (by decide +kernel) bi_16 ?_
  refine v_iushr (pc := 45) X (by decide +kernel) ?_
  refine v_iadd (pc := 46) X (by decide +kernel) ?_
  obtain ⟨x5, ex5, hf⟩ := nmd_e hf
  refine v_nmi ex5 ?_
  refine v_istore_n (pc := 47) (k := 0) (lv' := [(0, .int x5)]) X (by decide +kernel) (Nat.le_of_ble_eq_true rfl) rfl ?_
  refine v_iload_n (pc := 48) (k := 0) X (by decide +kernel) 0 rfl ?_
  refine v_bipush (pc := 49) (n := 63) X (by decide +kernel) bi_63 ?_
  refine v_iand (pc := 51) X (by decide +kernel) ?_
  cases hf
  exact v_iret X Y (by decide +kernel) rfl rfl
