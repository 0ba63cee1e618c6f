def jb_Tr_readHorse_131 (tb : Tb) (h : Hp) (l0 : Nat) (l1 : Int32) (l2 : Int32) (l3 : Int32) (l4 : Int32) (s0 : Int32) : Option (Int32 × Hp) :=
  if s0 = (-1 : Int32) then (
    some ((0 : Int32), h)
  ) else (
    (wI tb h (lay tb (lay tb l0 0) 12) l1 l2).bind fun h1 =>
    (wI tb h1 (lay tb (lay tb l0 0) 13) l1 l3).bind fun h2 =>
    (wI tb h2 (lay tb (lay tb l0 0) 14) l1 l4).bind fun h3 =>
    (wI tb h3 (lay tb (lay tb l0 0) 15) l1 s0).bind fun h4 =>
    nmd (pI h4 (lay tb l0 0) 4 ((h4.1 (lay tb l0 0) 4) + (1 : Int32))) fun h5 =>
    some ((1 : Int32), h5)
  )
def jb_Tr_readHorse_112 (tb : Tb) (h : Hp) (l0 : Nat) (l1 : Int32) (l2 : Int32) (l3 : Int32) (s0 : Int32) : Option (Int32 × Hp) :=
  if s0 = (-1 : Int32) then (
    jb_Tr_readHorse_131 tb h l0 l1 l2 l3 s0 (-1 : Int32)
  ) else (
    (f_Tr_takeNumber tb h l0 (1 : Int32) (9 : Int32)).bind fun r1 =>
    jb_Tr_readHorse_131 tb r1.2 l0 l1 l2 l3 s0 r1.1
  )
def jb_Tr_readHorse_95 (tb : Tb) (h : Hp) (l0 : Nat) (l1 : Int32) (l2 : Int32) (s0 : Int32) : Option (Int32 × Hp) :=
  if s0 = (-1 : Int32) then (
    jb_Tr_readHorse_112 tb h l0 l1 l2 s0 (-1 : Int32)
  ) else (
    (f_Tr_takeNumber tb h l0 (0 : Int32) (99 : Int32)).bind fun r1 =>
    jb_Tr_readHorse_112 tb r1.2 l0 l1 l2 s0 r1.1
  )
def f_Tr_readHorse (tb : Tb) (h : Hp) (l0 : Nat) : Option (Int32 × Hp) :=
  nmd (h.1 (lay tb l0 0) 4) fun x1 =>
  if x1 < (6 : Int32) then (
    (f_Sc_step tb h (lay tb l0 3)).bind fun r2 =>
    (f_Tr_isNewName tb r2 l0 (lay tb (lay tb l0 0) 11) x1).bind fun r3 =>
    if r3.1 = (0 : Int32) then (
      some ((0 : Int32), r3.2)
    ) else (
      (wI tb r3.2 (lay tb (lay tb l0 0) 11) x1 (r3.2.1 (lay tb l0 3) 3)).bind fun h4 =>
      (f_Sc_step tb h4 (lay tb l0 3)).bind fun r5 =>
      (f_Tr_takeNumber tb r5 l0 (0 : Int32) (3 : Int32)).bind fun r6 =>
      if r6.1 = (-1 : Int32) then (
        jb_Tr_readHorse_95 tb r6.2 l0 x1 r6.1 (-1 : Int32)
      ) else (
        (f_Tr_takeNumber tb r6.2 l0 (0 : Int32) (r6.2.1 (lay tb l0 0) 0)).bind fun r7 =>
        jb_Tr_readHorse_95 tb r7.2 l0 x1 r6.1 r7.1
      )
    )
  ) else (
    nmd (f_Tr_fail tb h l0 (2 : Int32)) fun r10 =>
    (cZ r10.1).bind fun x11 =>
    some (x11, r10.2)
  )
set_option maxRecDepth 4000 in
set_option maxHeartbeats 1000000 in
theorem vjb_Tr_readHorse_131 {E : En} {g : Gl} {tb : Tb} {ρ : Nat → Nat} (ok : TbOK tb) (hi : inj tb ρ) {r : Int32 × Hp} (X : CX E g tb ρ prog_11_method_11_code 6 RC10 4 89) (Y : CQ E g tb ρ (some .boolean) (some (.int r.1)) r.2) (h : Hp) (l0 : Nat) (l1 : Int32) (l2 : Int32) (l3 : Int32) (l4 : Int32) (s0 : Int32) (kl0 : kd tb l0 = 10) (hf : jb_Tr_readHorse_131 tb h l0 l1 l2 l3 l4 s0 = some r) : V E g tb ρ 6 131 [(0, .ref (ρ l0)), (1, .int l1), (2, .int l2), (3, .int l3), (4, .int l4)] [.int s0] h := by
  unfold jb_Tr_readHorse_131 at hf
  refine v_istore (pc := 131) (k := 5) (lv' := [(5, .int s0), (0, .ref (ρ l0)), (1, .int l1), (2, .int l2), (3, .int l3), (4, .int l4)]) X (by decide +kernel) (Nat.le_of_ble_eq_true rfl) rfl ?_
  refine v_iload (pc := 133) (k := 5) X (by decide +kernel) 0 rfl ?_
  refine v_iconst (pc := 135) (n := -1) X (by decide +kernel) ic_m1 ?_
  refine v_icmp_ne (pc := 136) (off := 5) (tgt := 141) X (by decide +kernel) (by decide) (fun q6 => ?_) (fun q6 => ?_)
  · rw [if_neg q6] at hf
    refine v_aload_n (pc := 141) (k := 0) X (by decide +kernel) 1 rfl ?_
    refine v_geta (pc := 142) X fl_10_12 kl0 fk_10_0 (by decide +kernel) ?_
    refine v_geta (pc := 145) X fl_10_152 (ly_10_0 ok kl0) fk_7_12 (by decide +kernel) ?_
    refine v_iload_n (pc := 148) (k := 1) X (by decide +kernel) 2 rfl ?_
    refine v_iload_n (pc := 149) (k := 2) X (by decide +kernel) 3 rfl ?_
    obtain ⟨h1, eh1, hf⟩ := bnd_e hf
    refine v_iast (pc := 150) X (ly_7_12 ok (ly_10_0 ok kl0)) eh1 (by decide +kernel) ?_
    refine v_aload_n (pc := 151) (k := 0) X (by decide +kernel) 1 rfl ?_
    refine v_geta (pc := 152) X fl_10_12 kl0 fk_10_0 (by decide +kernel) ?_
    refine v_geta (pc := 155) X fl_10_155 (ly_10_0 ok kl0) fk_7_13 (by decide +kernel) ?_
    refine v_iload_n (pc := 158) (k := 1) X (by decide +kernel) 2 rfl ?_
    refine v_iload_n (pc := 159) (k := 3) X (by decide +kernel) 4 rfl ?_
    obtain ⟨h2, eh2, hf⟩ := bnd_e hf
    refine v_iast (pc := 160) X (ly_7_13 ok (ly_10_0 ok kl0)) eh2 (by decide +kernel) ?_
    refine v_aload_n (pc := 161) (k := 0) X (by decide +kernel) 1 rfl ?_
    refine v_geta (pc := 162) X fl_10_12 kl0 fk_10_0 (by decide +kernel) ?_
    refine v_geta (pc := 165) X fl_10_158 (ly_10_0 ok kl0) fk_7_14 (by decide +kernel) ?_
    refine v_iload_n (pc := 168) (k := 1) X (by decide +kernel) 2 rfl ?_
    refine v_iload (pc := 169) (k := 4) X (by decide +kernel) 5 rfl ?_
    obtain ⟨h3, eh3, hf⟩ := bnd_e hf
    refine v_iast (pc := 171) X (ly_7_14 ok (ly_10_0 ok kl0)) eh3 (by decide +kernel) ?_
    refine v_aload_n (pc := 172) (k := 0) X (by decide +kernel) 1 rfl ?_
    refine v_geta (pc := 173) X fl_10_12 kl0 fk_10_0 (by decide +kernel) ?_
    refine v_geta (pc := 176) X fl_10_161 (ly_10_0 ok kl0) fk_7_15 (by decide +kernel) ?_
    refine v_iload_n (pc := 179) (k := 1) X (by decide +kernel) 2 rfl ?_
    refine v_iload (pc := 180) (k := 5) X (by decide +kernel) 0 rfl ?_
    obtain ⟨h4, eh4, hf⟩ := bnd_e hf
    refine v_iast (pc := 182) X (ly_7_15 ok (ly_10_0 ok kl0)) eh4 (by decide +kernel) ?_
    refine v_aload_n (pc := 183) (k := 0) X (by decide +kernel) 1 rfl ?_
    refine v_geta (pc := 184) X fl_10_12 kl0 fk_10_0 (by decide +kernel) ?_
    refine v_dup (pc := 187) X (by decide +kernel) rfl ?_
    refine v_geti (pc := 188) X fl_10_146 (ly_10_0 ok kl0) rfl (by decide +kernel) ?_
    refine v_iconst (pc := 191) (n := 1) X (by decide +kernel) ic_1 ?_
    refine v_iadd (pc := 192) X (by decide +kernel) ?_
    obtain ⟨h5, eh5, hf⟩ := nmd_e hf
    refine v_puti (pc := 193) X fp_10_146 (ly_10_0 ok kl0) rfl (by decide +kernel) eh5 ?_
    refine v_iconst (pc := 196) (n := 1) X (by decide +kernel) ic_1 ?_
    cases hf
    exact v_zret (hz := rfl) X Y (by decide +kernel) rfl rfl
  · rw [if_pos q6] at hf
    refine v_iconst (pc := 139) (n := 0) X (by decide +kernel) ic_0 ?_
    cases hf
    exact v_zret (hz := rfl) X Y (by decide +kernel) rfl rfl
set_option maxRecDepth 4000 in
set_option maxHeartbeats 1000000 in
theorem vjb_Tr_readHorse_112 {E : En} {g : Gl} {tb : Tb} {ρ : Nat → Nat} (ok : TbOK tb) (hi : inj tb ρ) {r : Int32 × Hp} (X : CX E g tb ρ prog_11_method_11_code 6 RC10 4 89) (Y : CQ E g tb ρ (some .boolean) (some (.int r.1)) r.2) (h : Hp) (l0 : Nat) (l1 : Int32) (l2 : Int32) (l3 : Int32) (s0 : Int32) (kl0 : kd tb l0 = 10) (hf : jb_Tr_readHorse_112 tb h l0 l1 l2 l3 s0 = some r) : V E g tb ρ 6 112 [(0, .ref (ρ l0)), (1, .int l1), (2, .int l2), (3, .int l3)] [.int s0] h := by
  unfold jb_Tr_readHorse_112 at hf
  refine v_istore (pc := 112) (k := 4) (lv' := [(4, .int s0), (0, .ref (ρ l0)), (1, .int l1), (2, .int l2), (3, .int l3)]) X (by decide +kernel) (Nat.le_of_ble_eq_true rfl) rfl ?_
  refine v_iload (pc := 114) (k := 4) X (by decide +kernel) 0 rfl ?_
  refine v_iconst (pc := 116) (n := -1) X (by decide +kernel) ic_m1 ?_
  refine v_icmp_ne (pc := 117) (off := 7) (tgt := 124) X (by decide +kernel) (by decide) (fun q2 => ?_) (fun q2 => ?_)
  · rw [if_neg q2] at hf
    refine v_aload_n (pc := 124) (k := 0) X (by decide +kernel) 1 rfl ?_
    refine v_iconst (pc := 125) (n := 1) X (by decide +kernel) ic_1 ?_
    refine v_bipush (pc := 126) (n := 9) X (by decide +kernel) bi_9 ?_
    obtain ⟨r1, er1, hf⟩ := bnd_e hf
    refine v_callV (pc := 128) (As := [.int (1 : Int32), .int (9 : Int32)]) (rest := []) X (mt_Tr_takeNumber ok hi kl0 er1) ml_10_112 mv_Tr_takeNumber kl0 cls_10 rfl ⟨Nat.le_of_ble_eq_true rfl, Nat.le_of_ble_eq_true rfl⟩ rfl rfl (Nat.le_of_ble_eq_true rfl) (by decide +kernel) ?_
    change V E g tb ρ 6 131 [(4, .int s0), (0, .ref (ρ l0)), (1, .int l1), (2, .int l2), (3, .int l3)] [.int r1.1] r1.2
    refine v_sub [1, 2, 3, 4, 0] rfl ?_
    exact vjb_Tr_readHorse_131 ok hi X Y r1.2 l0 l1 l2 l3 s0 r1.1 kl0 hf
  · rw [if_pos q2] at hf
    refine v_iconst (pc := 120) (n := -1) X (by decide +kernel) ic_m1 ?_
    refine v_goto (pc := 121) (off := 10) (tgt := 131) X (by decide +kernel) (by decide) ?_
    refine v_sub [1, 2, 3, 4, 0] rfl ?_
    exact vjb_Tr_readHorse_131 ok hi X Y h l0 l1 l2 l3 s0 (-1 : Int32) kl0 hf
set_option maxRecDepth 4000 in
set_option maxHeartbeats 1000000 in
theorem vjb_Tr_readHorse_95 {E : En} {g : Gl} {tb : Tb} {ρ : Nat → Nat} (ok : TbOK tb) (hi : inj tb ρ) {r : Int32 × Hp} (X : CX E g tb ρ prog_11_method_11_code 6 RC10 4 89) (Y : CQ E g tb ρ (some .boolean) (some (.int r.1)) r.2) (h : Hp) (l0 : Nat) (l1 : Int32) (l2 : Int32) (s0 : Int32) (kl0 : kd tb l0 = 10) (hf : jb_Tr_readHorse_95 tb h l0 l1 l2 s0 = some r) : V E g tb ρ 6 95 [(0, .ref (ρ l0)), (1, .int l1), (2, .int l2)] [.int s0] h := by
  unfold jb_Tr_readHorse_95 at hf
  refine v_istore_n (pc := 95) (k := 3) (lv' := [(3, .int s0), (0, .ref (ρ l0)), (1, .int l1), (2, .int l2)]) X (by decide +kernel) (Nat.le_of_ble_eq_true rfl) rfl ?_
  refine v_iload_n (pc := 96) (k := 3) X (by decide +kernel) 0 rfl ?_
  refine v_iconst (pc := 97) (n := -1) X (by decide +kernel) ic_m1 ?_
  refine v_icmp_ne (pc := 98) (off := 7) (tgt := 105) X (by decide +kernel) (by decide) (fun q2 => ?_) (fun q2 => ?_)
  · rw [if_neg q2] at hf
    refine v_aload_n (pc := 105) (k := 0) X (by decide +kernel) 1 rfl ?_
    refine v_iconst (pc := 106) (n := 0) X (by decide +kernel) ic_0 ?_
    refine v_bipush (pc := 107) (n := 99) X (by decide +kernel) bi_99 ?_
    obtain ⟨r1, er1, hf⟩ := bnd_e hf
    refine v_callV (pc := 109) (As := [.int (0 : Int32), .int (99 : Int32)]) (rest := []) X (mt_Tr_takeNumber ok hi kl0 er1) ml_10_112 mv_Tr_takeNumber kl0 cls_10 rfl ⟨Nat.le_of_ble_eq_true rfl, Nat.le_of_ble_eq_true rfl⟩ rfl rfl (Nat.le_of_ble_eq_true rfl) (by decide +kernel) ?_
    change V E g tb ρ 6 112 [(3, .int s0), (0, .ref (ρ l0)), (1, .int l1), (2, .int l2)] [.int r1.1] r1.2
    refine v_sub [1, 2, 3, 0] rfl ?_
    exact vjb_Tr_readHorse_112 ok hi X Y r1.2 l0 l1 l2 s0 r1.1 kl0 hf
  · rw [if_pos q2] at hf
    refine v_iconst (pc := 101) (n := -1) X (by decide +kernel) ic_m1 ?_
    refine v_goto (pc := 102) (off := 10) (tgt := 112) X (by decide +kernel) (by decide) ?_
    refine v_sub [1, 2, 3, 0] rfl ?_
    exact vjb_Tr_readHorse_112 ok hi X Y h l0 l1 l2 s0 (-1 : Int32) kl0 hf
set_option maxRecDepth 4000 in
set_option maxHeartbeats 1000000 in
theorem mt_Tr_readHorse {g : Gl} {tb : Tb} {ρ : Nat → Nat} (ok : TbOK tb) (hi : inj tb ρ) {h : Hp} {l0 : Nat} (kl0 : kd tb l0 = 10) {r : Int32 × Hp} (hf : f_Tr_readHorse tb h l0 = some r) : MT g y_Tr_readHorse prog_11_method_11_code 6 (some .boolean) 4 89 tb ρ [.ref (ρ l0)] h (some (.int r.1)) r.2 := by
  refine mt_intro (by decide +kernel) ok hi (Nat.le_of_ble_eq_true rfl) (fun E X Y => ?_)
  change V E g tb ρ 6 0 [(0, .ref (ρ l0))] [] h
  unfold f_Tr_readHorse at hf
  refine v_aload_n (pc := 0) (k := 0) X (by decide +kernel) 0 rfl ?_
  refine v_geta (pc := 1) X fl_10_12 kl0 fk_10_0 (by decide +kernel) ?_
  refine v_geti (pc := 4) X fl_10_146 (ly_10_0 ok kl0) rfl (by decide +kernel) ?_
  obtain ⟨x1, ex1, hf⟩ := nmd_e hf
  refine v_nmi ex1 ?_
  refine v_istore_n (pc := 7) (k := 1) (lv' := [(1, .int x1), (0, .ref (ρ l0))]) X (by decide +kernel) (Nat.le_of_ble_eq_true rfl) rfl ?_
  refine v_iload_n (pc := 8) (k := 1) X (by decide +kernel) 0 rfl ?_
  refine v_bipush (pc := 9) (n := 6) X (by decide +kernel) bi_6 ?_
  refine v_icmp_lt (pc := 11) (off := 9) (tgt := 20) X (by decide +kernel) (by decide) (fun q12 => ?_) (fun q12 => ?_)
  · rw [if_pos q12] at hf
    refine v_aload_n (pc := 20) (k := 0) X (by decide +kernel) 1 rfl ?_
    refine v_geta (pc := 21) X fl_10_30 kl0 fk_10_3 (by decide +kernel) ?_
    obtain ⟨r2, er2, hf⟩ := bnd_e hf
    refine v_callV (pc := 24) (As := []) (rest := []) X (mt_Sc_step ok hi (ly_10_3 ok kl0) er2) ml_10_95 mv_Sc_step (ly_10_3 ok kl0) cls_8 rfl ⟨Nat.le_of_ble_eq_true rfl, Nat.le_of_ble_eq_true rfl⟩ rfl rfl (Nat.le_of_ble_eq_true rfl) (by decide +kernel) ?_
    change V E g tb ρ 6 27 [(1, .int x1), (0, .ref (ρ l0))] [] r2
    refine v_aload_n (pc := 27) (k := 0) X (by decide +kernel) 1 rfl ?_
    refine v_aload_n (pc := 28) (k := 0) X (by decide +kernel) 1 rfl ?_
    refine v_geta (pc := 29) X fl_10_12 kl0 fk_10_0 (by decide +kernel) ?_
    refine v_geta (pc := 32) X fl_10_149 (ly_10_0 ok kl0) fk_7_11 (by decide +kernel) ?_
    refine v_iload_n (pc := 35) (k := 1) X (by decide +kernel) 0 rfl ?_
    obtain ⟨r3, er3, hf⟩ := bnd_e hf
    refine v_callV (pc := 36) (As := [.ref (ρ (lay tb (lay tb l0 0) 11)), .int x1]) (rest := []) X (mt_Tr_isNewName ok hi kl0 (ly_7_11 ok (ly_10_0 ok kl0)) er3) ml_10_126 mv_Tr_isNewName kl0 cls_10 rfl ⟨Nat.le_of_ble_eq_true rfl, Nat.le_of_ble_eq_true rfl⟩ rfl rfl (Nat.le_of_ble_eq_true rfl) (by decide +kernel) ?_
    change V E g tb ρ 6 39 [(1, .int x1), (0, .ref (ρ l0))] [.int r3.1] r3.2
    refine v_if_ne (pc := 39) (off := 5) (tgt := 44) X (by decide +kernel) (by decide) (fun q9 => ?_) (fun q9 => ?_)
    · rw [if_neg q9] at hf
      refine v_aload_n (pc := 44) (k := 0) X (by decide +kernel) 1 rfl ?_
      refine v_geta (pc := 45) X fl_10_12 kl0 fk_10_0 (by decide +kernel) ?_
      refine v_geta (pc := 48) X fl_10_149 (ly_10_0 ok kl0) fk_7_11 (by decide +kernel) ?_
      refine v_iload_n (pc := 51) (k := 1) X (by decide +kernel) 0 rfl ?_
      refine v_aload_n (pc := 52) (k := 0) X (by decide +kernel) 1 rfl ?_
      refine v_geta (pc := 53) X fl_10_30 kl0 fk_10_3 (by decide +kernel) ?_
      refine v_geti (pc := 56) X fl_10_105 (ly_10_3 ok kl0) rfl (by decide +kernel) ?_
      obtain ⟨h4, eh4, hf⟩ := bnd_e hf
      refine v_iast (pc := 59) X (ly_7_11 ok (ly_10_0 ok kl0)) eh4 (by decide +kernel) ?_
      refine v_aload_n (pc := 60) (k := 0) X (by decide +kernel) 1 rfl ?_
      refine v_geta (pc := 61) X fl_10_30 kl0 fk_10_3 (by decide +kernel) ?_
      obtain ⟨r5, er5, hf⟩ := bnd_e hf
      refine v_callV (pc := 64) (As := []) (rest := []) X (mt_Sc_step ok hi (ly_10_3 ok kl0) er5) ml_10_95 mv_Sc_step (ly_10_3 ok kl0) cls_8 rfl ⟨Nat.le_of_ble_eq_true rfl, Nat.le_of_ble_eq_true rfl⟩ rfl rfl (Nat.le_of_ble_eq_true rfl) (by decide +kernel) ?_
      change V E g tb ρ 6 67 [(1, .int x1), (0, .ref (ρ l0))] [] r5
      refine v_aload_n (pc := 67) (k := 0) X (by decide +kernel) 1 rfl ?_
      refine v_iconst (pc := 68) (n := 0) X (by decide +kernel) ic_0 ?_
      refine v_iconst (pc := 69) (n := 3) X (by decide +kernel) ic_3 ?_
      obtain ⟨r6, er6, hf⟩ := bnd_e hf
      refine v_callV (pc := 70) (As := [.int (0 : Int32), .int (3 : Int32)]) (rest := []) X (mt_Tr_takeNumber ok hi kl0 er6) ml_10_112 mv_Tr_takeNumber kl0 cls_10 rfl ⟨Nat.le_of_ble_eq_true rfl, Nat.le_of_ble_eq_true rfl⟩ rfl rfl (Nat.le_of_ble_eq_true rfl) (by decide +kernel) ?_
      change V E g tb ρ 6 73 [(1, .int x1), (0, .ref (ρ l0))] [.int r6.1] r6.2
      refine v_istore_n (pc := 73) (k := 2) (lv' := [(2, .int r6.1), (1, .int x1), (0, .ref (ρ l0))]) X (by decide +kernel) (Nat.le_of_ble_eq_true rfl) rfl ?_
      refine v_iload_n (pc := 74) (k := 2) X (by decide +kernel) 0 rfl ?_
      refine v_iconst (pc := 75) (n := -1) X (by decide +kernel) ic_m1 ?_
      refine v_icmp_ne (pc := 76) (off := 7) (tgt := 83) X (by decide +kernel) (by decide) (fun q8 => ?_) (fun q8 => ?_)
      · rw [if_neg q8] at hf
        refine v_aload_n (pc := 83) (k := 0) X (by decide +kernel) 2 rfl ?_
        refine v_iconst (pc := 84) (n := 0) X (by decide +kernel) ic_0 ?_
        refine v_aload_n (pc := 85) (k := 0) X (by decide +kernel) 2 rfl ?_
        refine v_geta (pc := 86) X fl_10_12 kl0 fk_10_0 (by decide +kernel) ?_
        refine v_geti (pc := 89) X fl_10_116 (ly_10_0 ok kl0) rfl (by decide +kernel) ?_
        obtain ⟨r7, er7, hf⟩ := bnd_e hf
        refine v_callV (pc := 92) (As := [.int (0 : Int32), .int (r6.2.1 (lay tb l0 0) 0)]) (rest := []) X (mt_Tr_takeNumber ok hi kl0 er7) ml_10_112 mv_Tr_takeNumber kl0 cls_10 rfl ⟨Nat.le_of_ble_eq_true rfl, Nat.le_of_ble_eq_true rfl⟩ rfl rfl (Nat.le_of_ble_eq_true rfl) (by decide +kernel) ?_
        change V E g tb ρ 6 95 [(2, .int r6.1), (1, .int x1), (0, .ref (ρ l0))] [.int r7.1] r7.2
        refine v_sub [2, 1, 0] rfl ?_
        exact vjb_Tr_readHorse_95 ok hi X Y r7.2 l0 x1 r6.1 r7.1 kl0 hf
      · rw [if_pos q8] at hf
        refine v_iconst (pc := 79) (n := -1) X (by decide +kernel) ic_m1 ?_
        refine v_goto (pc := 80) (off := 15) (tgt := 95) X (by decide +kernel) (by decide) ?_
        refine v_sub [2, 1, 0] rfl ?_
        exact vjb_Tr_readHorse_95 ok hi X Y r6.2 l0 x1 r6.1 (-1 : Int32) kl0 hf
    · rw [if_pos q9] at hf
      refine v_iconst (pc := 42) (n := 0) X (by decide +kernel) ic_0 ?_
      cases hf
      exact v_zret (hz := rfl) X Y (by decide +kernel) rfl rfl
  · rw [if_neg q12] at hf
    refine v_aload_n (pc := 14) (k := 0) X (by decide +kernel) 1 rfl ?_
    refine v_iconst (pc := 15) (n := 2) X (by decide +kernel) ic_2 ?_
    obtain ⟨r10, er10, hf⟩ := nmd_e hf
    refine v_callV (pc := 16) (As := [.int (2 : Int32)]) (rest := []) X (mt_Tr_fail ok hi kl0 er10.symm) ml_10_73 mv_Tr_fail kl0 cls_10 rfl ⟨Nat.le_of_ble_eq_true rfl, Nat.le_of_ble_eq_true rfl⟩ rfl rfl (Nat.le_of_ble_eq_true rfl) (by decide +kernel) ?_
    change V E g tb ρ 6 19 [(1, .int x1), (0, .ref (ρ l0))] [.int r10.1] r10.2
    obtain ⟨x11, ex11, hf⟩ := bnd_e hf
    obtain ⟨bx11, rfl⟩ := cZ_e ex11
    cases hf
    exact v_zret (hz := bx11) X Y (by decide +kernel) rfl rfl
def f_Tr_takeNamed (tb : Tb) (h : Hp) (l0 : Nat) (l1 : Nat) (l2 : Int32) : Option (Int32 × Hp) :=
  if (h.1 (lay tb l0 3) 0) = (3 : Int32) then (
    (f_Tt_find tb h l1 l2 (h.1 (lay tb l0 3) 3)).bind fun r1 =>
    if r1 = (-1 : Int32) then (
      nmd (f_Tr_fail tb h l0 (4 : Int32)) fun r3 =>
      some (r1, r3.2)
    ) else (
      (f_Sc_step tb h (lay tb l0 3)).bind fun r2 =>
      some (r1, r2)
    )
  ) else (
    nmd (f_Tr_fail tb h l0 (1 : Int32)) fun r5 =>
    some ((-1 : Int32), r5.2)
  )
set_option maxRecDepth 4000 in
set_option maxHeartbeats 1000000 in
theorem mt_Tr_takeNamed {g : Gl} {tb : Tb} {ρ : Nat → Nat} (ok : TbOK tb) (hi : inj tb ρ) {h : Hp} {l0 : Nat} {l1 : Nat} {l2 : Int32} (kl0 : kd tb l0 = 10) (kl1 : kd tb l1 = 20) {r : Int32 × Hp} (hf : f_Tr_takeNamed tb h l0 l1 l2 = some r) : MT g y_Tr_takeNamed prog_11_method_8_code 4 (some .int) 3 66 tb ρ [.ref (ρ l0), .ref (ρ l1), .int l2] h (some (.int r.1)) r.2 := by
  refine mt_intro (by decide +kernel) ok hi (Nat.le_of_ble_eq_true rfl) (fun E X Y => ?_)
  change V E g tb ρ 4 0 [(0, .ref (ρ l0)), (1, .ref (ρ l1)), (2, .int l2)] [] h
  unfold f_Tr_takeNamed at hf
  refine v_aload_n (pc := 0) (k := 0) X (by decide +kernel) 0 rfl ?_
  refine v_geta (pc := 1) X fl_10_30 kl0 fk_10_3 (by decide +kernel) ?_
  refine v_geti (pc := 4) X fl_10_61 (ly_10_3 ok kl0) rfl (by decide +kernel) ?_
  refine v_iconst (pc := 7) (n := 3) X (by decide +kernel) ic_3 ?_
  refine v_icmp_eq (pc := 8) (off := 11) (tgt := 19) X (by decide +kernel) (by decide) (fun q6 => ?_) (fun q6 => ?_)
  · rw [if_pos q6] at hf
    refine v_aload_n (pc := 19) (k := 1) X (by decide +kernel) 1 rfl ?_
    refine v_iload_n (pc := 20) (k := 2) X (by decide +kernel) 2 rfl ?_
    refine v_aload_n (pc := 21) (k := 0) X (by decide +kernel) 0 rfl ?_
    refine v_geta (pc := 22) X fl_10_30 kl0 fk_10_3 (by decide +kernel) ?_
    refine v_geti (pc := 25) X fl_10_105 (ly_10_3 ok kl0) rfl (by decide +kernel) ?_
    obtain ⟨r1, er1, hf⟩ := bnd_e hf
    refine v_callSN (pc := 28) (As := [.ref (ρ l1), .int l2, .int (h.1 (lay tb l0 3) 3)]) (rest := []) X (mt_Tt_find ok hi kl1 er1) ml_10_108 ms_Tt_find ⟨Nat.le_of_ble_eq_true rfl, Nat.le_of_ble_eq_true rfl⟩ rfl rfl (Nat.le_of_ble_eq_true rfl) (by decide +kernel) ?_
    change V E g tb ρ 4 31 [(0, .ref (ρ l0)), (1, .ref (ρ l1)), (2, .int l2)] [.int r1] h
    refine v_istore_n (pc := 31) (k := 3) (lv' := [(3, .int r1), (0, .ref (ρ l0)), (1, .ref (ρ l1)), (2, .int l2)]) X (by decide +kernel) (Nat.le_of_ble_eq_true rfl) rfl ?_
    refine v_iload_n (pc := 32) (k := 3) X (by decide +kernel) 0 rfl ?_
    refine v_iconst (pc := 33) (n := -1) X (by decide +kernel) ic_m1 ?_
    refine v_icmp_ne (pc := 34) (off := 12) (tgt := 46) X (by decide +kernel) (by decide) (fun q4 => ?_) (fun q4 => ?_)
    · rw [if_neg q4] at hf
      refine v_aload_n (pc := 46) (k := 0) X (by decide +kernel) 1 rfl ?_
      refine v_geta (pc := 47) X fl_10_30 kl0 fk_10_3 (by decide +kernel) ?_
      obtain ⟨r2, er2, hf⟩ := bnd_e hf
      refine v_callV (pc := 50) (As := []) (rest := []) X (mt_Sc_step ok hi (ly_10_3 ok kl0) er2) ml_10_95 mv_Sc_step (ly_10_3 ok kl0) cls_8 rfl ⟨Nat.le_of_ble_eq_true rfl, Nat.le_of_ble_eq_true rfl⟩ rfl rfl (Nat.le_of_ble_eq_true rfl) (by decide +kernel) ?_
      change V E g tb ρ 4 53 [(3, .int r1), (0, .ref (ρ l0)), (1, .ref (ρ l1)), (2, .int l2)] [] r2
      refine v_iload_n (pc := 53) (k := 3) X (by decide +kernel) 0 rfl ?_
      cases hf
      exact v_iret X Y (by decide +kernel) rfl rfl
    · rw [if_pos q4] at hf
      refine v_aload_n (pc := 37) (k := 0) X (by decide +kernel) 1 rfl ?_
      refine v_iconst (pc := 38) (n := 4) X (by decide +kernel) ic_4 ?_
      obtain ⟨r3, er3, hf⟩ := nmd_e hf
      refine v_callV (pc := 39) (As := [.int (4 : Int32)]) (rest := []) X (mt_Tr_fail ok hi kl0 er3.symm) ml_10_73 mv_Tr_fail kl0 cls_10 rfl ⟨Nat.le_of_ble_eq_true rfl, Nat.le_of_ble_eq_true rfl⟩ rfl rfl (Nat.le_of_ble_eq_true rfl) (by decide +kernel) ?_
      change V E g tb ρ 4 42 [(3, .int r1), (0, .ref (ρ l0)), (1, .ref (ρ l1)), (2, .int l2)] [.int r3.1] r3.2
      refine v_pop (pc := 42) X (by decide +kernel) rfl ?_
      refine v_goto (pc := 43) (off := 10) (tgt := 53) X (by decide +kernel) (by decide) ?_
      refine v_iload_n (pc := 53) (k := 3) X (by decide +kernel) 0 rfl ?_
      cases hf
      exact v_iret X Y (by decide +kernel) rfl rfl
  · rw [if_neg q6] at hf
    refine v_aload_n (pc := 11) (k := 0) X (by decide +kernel) 0 rfl ?_
    refine v_iconst (pc := 12) (n := 1) X (by decide +kernel) ic_1 ?_
    obtain ⟨r5, er5, hf⟩ := nmd_e hf
    refine v_callV (pc := 13) (As := [.int (1 : Int32)]) (rest := []) X (mt_Tr_fail ok hi kl0 er5.symm) ml_10_73 mv_Tr_fail kl0 cls_10 rfl ⟨Nat.le_of_ble_eq_true rfl, Nat.le_of_ble_eq_true rfl⟩ rfl rfl (Nat.le_of_ble_eq_true rfl) (by decide +kernel) ?_
    change V E g tb ρ 4 16 [(0, .ref (ρ l0)), (1, .ref (ρ l1)), (2, .int l2)] [.int r5.1] r5.2
    refine v_pop (pc := 16) X (by decide +kernel) rfl ?_
    refine v_iconst (pc := 17) (n := -1) X (by decide +kernel) ic_m1 ?_
    cases hf
    exact v_iret X Y (by decide +kernel) rfl rfl
def jb_Tr_readLap_90 (tb : Tb) (h : Hp) (l0 : Nat) (l1 : Int32) (l2 : Int32) (l3 : Int32) (s0 : Int32) : Option (Int32 × Hp) :=
  if s0 = (-1 : Int32) then (
    some ((0 : Int32), h)
  ) else (
    (wI tb h (lay tb (lay tb l0 0) 16) l1 l2).bind fun h1 =>
    (wI tb h1 (lay tb (lay tb l0 0) 17) l1 l3).bind fun h2 =>
    (wI tb h2 (lay tb (lay tb l0 0) 18) l1 s0).bind fun h3 =>
    nmd (pI h3 (lay tb l0 0) 5 ((h3.1 (lay tb l0 0) 5) + (1 : Int32))) fun h4 =>
    some ((1 : Int32), h4)
  )
def jb_Tr_readLap_73 (tb : Tb) (h : Hp) (l0 : Nat) (l1 : Int32) (l2 : Int32) (s0 : Int32) : Option (Int32 × Hp) :=
  if s0 = (-1 : Int32) then (
    jb_Tr_readLap_90 tb h l0 l1 l2 s0 (-1 : Int32)
  ) else (
    (f_Tr_takeNumber tb h l0 (0 : Int32) (99 : Int32)).bind fun r1 =>
    jb_Tr_readLap_90 tb r1.2 l0 l1 l2 s0 r1.1
  )
def f_Tr_readLap (tb : Tb) (h : Hp) (l0 : Nat) : Option (Int32 × Hp) :=
  nmd (h.1 (lay tb l0 0) 5) fun x1 =>
  if x1 < (12 : Int32) then (
    (f_Sc_step tb h (lay tb l0 3)).bind fun r2 =>
    (f_Tr_takeNamed tb r2 l0 (lay tb (lay tb l0 0) 11) (r2.1 (lay tb l0 0) 4)).bind fun r3 =>
    if r3.1 = (-1 : Int32) then (
      jb_Tr_readLap_73 tb r3.2 l0 x1 r3.1 (-1 : Int32)
    ) else (
      (f_Tr_takeNamed tb r3.2 l0 (lay tb (lay tb l0 0) 6) (r3.2.1 (lay tb l0 0) 3)).bind fun r4 =>
      jb_Tr_readLap_73 tb r4.2 l0 x1 r3.1 r4.1
    )
  ) else (
    nmd (f_Tr_fail tb h l0 (2 : Int32)) fun r6 =>
    (cZ r6.1).bind fun x7 =>
    some (x7, r6.2)
  )
set_option maxRecDepth 4000 in
set_option maxHeartbeats 1000000 in
theorem vjb_Tr_readLap_90 {E : En} {g : Gl} {tb : Tb} {ρ : Nat → Nat} (ok : TbOK tb) (hi : inj tb ρ) {r : Int32 × Hp} (X : CX E g tb ρ prog_11_method_12_code 5 RC10 4 89) (Y : CQ E g tb ρ (some .boolean) (some (.int r.1)) r.2) (h : Hp) (l0 : Nat) (l1 : Int32) (l2 : Int32) (l3 : Int32) (s0 : Int32) (kl0 : kd tb l0 = 10) (hf : jb_Tr_readLap_90 tb h l0 l1 l2 l3 s0 = some r) : V E g tb ρ 5 90 [(0, .ref (ρ l0)), (1, .int l1), (2, .int l2), (3, .int l3)] [.int s0] h := by
  unfold jb_Tr_readLap_90 at hf
  refine v_istore (pc := 90) (k := 4) (lv' := [(4, .int s0), (0, .ref (ρ l0)), (1, .int l1), (2, .int l2), (3, .int l3)]) X (by decide +kernel) (Nat.le_of_ble_eq_true rfl) rfl ?_
  refine v_iload (pc := 92) (k := 4) X (by decide +kernel) 0 rfl ?_
  refine v_iconst (pc := 94) (n := -1) X (by decide +kernel) ic_m1 ?_
  refine v_icmp_ne (pc := 95) (off := 5) (tgt := 100) X (by decide +kernel) (by decide) (fun q5 => ?_) (fun q5 => ?_)
  · rw [if_neg q5] at hf
    refine v_aload_n (pc := 100) (k := 0) X (by decide +kernel) 1 rfl ?_
    refine v_geta (pc := 101) X fl_10_12 kl0 fk_10_0 (by decide +kernel) ?_
    refine v_geta (pc := 104) X fl_10_171 (ly_10_0 ok kl0) fk_7_16 (by decide +kernel) ?_
    refine v_iload_n (pc := 107) (k := 1) X (by decide +kernel) 2 rfl ?_
    refine v_iload_n (pc := 108) (k := 2) X (by decide +kernel) 3 rfl ?_
    obtain ⟨h1, eh1, hf⟩ := bnd_e hf
    refine v_iast (pc := 109) X (ly_7_16 ok (ly_10_0 ok kl0)) eh1 (by decide +kernel) ?_
    refine v_aload_n (pc := 110) (k := 0) X (by decide +kernel) 1 rfl ?_
    refine v_geta (pc := 111) X fl_10_12 kl0 fk_10_0 (by decide +kernel) ?_
    refine v_geta (pc := 114) X fl_10_174 (ly_10_0 ok kl0) fk_7_17 (by decide +kernel) ?_
    refine v_iload_n (pc := 117) (k := 1) X (by decide +kernel) 2 rfl ?_
    refine v_iload_n (pc := 118) (k := 3) X (by decide +kernel) 4 rfl ?_
    obtain ⟨h2, eh2, hf⟩ := bnd_e hf
    refine v_iast (pc := 119) X (ly_7_17 ok (ly_10_0 ok kl0)) eh2 (by decide +kernel) ?_
    refine v_aload_n (pc := 120) (k := 0) X (by decide +kernel) 1 rfl ?_
    refine v_geta (pc := 121) X fl_10_12 kl0 fk_10_0 (by decide +kernel) ?_
    refine v_geta (pc := 124) X fl_10_177 (ly_10_0 ok kl0) fk_7_18 (by decide +kernel) ?_
    refine v_iload_n (pc := 127) (k := 1) X (by decide +kernel) 2 rfl ?_
    refine v_iload (pc := 128) (k := 4) X (by decide +kernel) 0 rfl ?_
    obtain ⟨h3, eh3, hf⟩ := bnd_e hf
    refine v_iast (pc := 130) X (ly_7_18 ok (ly_10_0 ok kl0)) eh3 (by decide +kernel) ?_
    refine v_aload_n (pc := 131) (k := 0) X (by decide +kernel) 1 rfl ?_
    refine v_geta (pc := 132) X fl_10_12 kl0 fk_10_0 (by decide +kernel) ?_
    refine v_dup (pc := 135) X (by decide +kernel) rfl ?_
    refine v_geti (pc := 136) X fl_10_164 (ly_10_0 ok kl0) rfl (by decide +kernel) ?_
    refine v_iconst (pc := 139) (n := 1) X (by decide +kernel) ic_1 ?_
    refine v_iadd (pc := 140) X (by decide +kernel) ?_
    obtain ⟨h4, eh4, hf⟩ := nmd_e hf
    refine v_puti (pc := 141) X fp_10_164 (ly_10_0 ok kl0) rfl (by decide +kernel) eh4 ?_
    refine v_iconst (pc := 144) (n := 1) X (by decide +kernel) ic_1 ?_
    cases hf
    exact v_zret (hz := rfl) X Y (by decide +kernel) rfl rfl
  · rw [if_pos q5] at hf
    refine v_iconst (pc := 98) (n := 0) X (by decide +kernel) ic_0 ?_
    cases hf
    exact v_zret (hz := rfl) X Y (by decide +kernel) rfl rfl
set_option maxRecDepth 4000 in
set_option maxHeartbeats 1000000 in
theorem vjb_Tr_readLap_73 {E : En} {g : Gl} {tb : Tb} {ρ : Nat → Nat} (ok : TbOK tb) (hi : inj tb ρ) {r : Int32 × Hp} (X : CX E g tb ρ prog_11_method_12_code 5 RC10 4 89) (Y : CQ E g tb ρ (some .boolean) (some (.int r.1)) r.2) (h : Hp) (l0 : Nat) (l1 : Int32) (l2 : Int32) (s0 : Int32) (kl0 : kd tb l0 = 10) (hf : jb_Tr_readLap_73 tb h l0 l1 l2 s0 = some r) : V E g tb ρ 5 73 [(0, .ref (ρ l0)), (1, .int l1), (2, .int l2)] [.int s0] h := by
  unfold jb_Tr_readLap_73 at hf
  refine v_istore_n (pc := 73) (k := 3) (lv' := [(3, .int s0), (0, .ref (ρ l0)), (1, .int l1), (2, .int l2)]) X (by decide +kernel) (Nat.le_of_ble_eq_true rfl) rfl ?_
  refine v_iload_n (pc := 74) (k := 3) X (by decide +kernel) 0 rfl ?_
  refine v_iconst (pc := 75) (n := -1) X (by decide +kernel) ic_m1 ?_
  refine v_icmp_ne (pc := 76) (off := 7) (tgt := 83) X (by decide +kernel) (by decide) (fun q2 => ?_) (fun q2 => ?_)
  · rw [if_neg q2] at hf
    refine v_aload_n (pc := 83) (k := 0) X (by decide +kernel) 1 rfl ?_
    refine v_iconst (pc := 84) (n := 0) X (by decide +kernel) ic_0 ?_
    refine v_bipush (pc := 85) (n := 99) X (by decide +kernel) bi_99 ?_
    obtain ⟨r1, er1, hf⟩ := bnd_e hf
    refine v_callV (pc := 87) (As := [.int (0 : Int32), .int (99 : Int32)]) (rest := []) X (mt_Tr_takeNumber ok hi kl0 er1) ml_10_112 mv_Tr_takeNumber kl0 cls_10 rfl ⟨Nat.le_of_ble_eq_true rfl, Nat.le_of_ble_eq_true rfl⟩ rfl rfl (Nat.le_of_ble_eq_true rfl) (by decide +kernel) ?_
    change V E g tb ρ 5 90 [(3, .int s0), (0, .ref (ρ l0)), (1, .int l1), (2, .int l2)] [.int r1.1] r1.2
    refine v_sub [1, 2, 3, 0] rfl ?_
    exact vjb_Tr_readLap_90 ok hi X Y r1.2 l0 l1 l2 s0 r1.1 kl0 hf
  · rw [if_pos q2] at hf
    refine v_iconst (pc := 79) (n := -1) X (by decide +kernel) ic_m1 ?_
    refine v_goto (pc := 80) (off := 10) (tgt := 90) X (by decide +kernel) (by decide) ?_
    refine v_sub [1, 2, 3, 0] rfl ?_
    exact vjb_Tr_readLap_90 ok hi X Y h l0 l1 l2 s0 (-1 : Int32) kl0 hf
set_option maxRecDepth 4000 in
set_option maxHeartbeats 1000000 in
theorem mt_Tr_readLap {g : Gl} {tb : Tb} {ρ : Nat → Nat} (ok : TbOK tb) (hi : inj tb ρ) {h : Hp} {l0 : Nat} (kl0 : kd tb l0 = 10) {r : Int32 × Hp} (hf : f_Tr_readLap tb h l0 = some r) : MT g y_Tr_readLap prog_11_method_12_code 5 (some .boolean) 4 89 tb ρ [.ref (ρ l0)] h (some (.int r.1)) r.2 := by
  refine mt_intro (by decide +kernel) ok hi (Nat.le_of_ble_eq_true rfl) (fun E X Y => ?_)
  change V E g tb ρ 5 0 [(0, .ref (ρ l0))] [] h
  unfold f_Tr_readLap at hf
  refine v_aload_n (pc := 0) (k := 0) X (by decide +kernel) 0 rfl ?_
  refine v_geta (pc := 1) X fl_10_12 kl0 fk_10_0 (by decide +kernel) ?_
  refine v_geti (pc := 4) X fl_10_164 (ly_10_0 ok kl0) rfl (by decide +kernel) ?_
  obtain ⟨x1, ex1, hf⟩ := nmd_e hf
  refine v_nmi ex1 ?_
  refine v_istore_n (pc := 7) (k := 1) (lv' := [(1, .int x1), (0, .ref (ρ l0))]) X (by decide +kernel) (Nat.le_of_ble_eq_true rfl) rfl ?_
  refine v_iload_n (pc := 8) (k := 1) X (by decide +kernel) 0 rfl ?_
  refine v_bipush (pc := 9) (n := 12) X (by decide +kernel) bi_12 ?_
  refine v_icmp_lt (pc := 11) (off := 9) (tgt := 20) X (by decide +kernel) (by decide) (fun q8 => ?_) (fun q8 => ?_)
  · rw [if_pos q8] at hf
    refine v_aload_n (pc := 20) (k := 0) X (by decide +kernel) 1 rfl ?_
    refine v_geta (pc := 21) X fl_10_30 kl0 fk_10_3 (by decide +kernel) ?_
    obtain ⟨r2, er2, hf⟩ := bnd_e hf
    refine v_callV (pc := 24) (As := []) (rest := []) X (mt_Sc_step ok hi (ly_10_3 ok kl0) er2) ml_10_95 mv_Sc_step (ly_10_3 ok kl0) cls_8 rfl ⟨Nat.le_of_ble_eq_true rfl, Nat.le_of_ble_eq_true rfl⟩ rfl rfl (Nat.le_of_ble_eq_true rfl) (by decide +kernel) ?_
    change V E g tb ρ 5 27 [(1, .int x1), (0, .ref (ρ l0))] [] r2
    refine v_aload_n (pc := 27) (k := 0) X (by decide +kernel) 1 rfl ?_
    refine v_aload_n (pc := 28) (k := 0) X (by decide +kernel) 1 rfl ?_
    refine v_geta (pc := 29) X fl_10_12 kl0 fk_10_0 (by decide +kernel) ?_
    refine v_geta (pc := 32) X fl_10_149 (ly_10_0 ok kl0) fk_7_11 (by decide +kernel) ?_
    refine v_aload_n (pc := 35) (k := 0) X (by decide +kernel) 1 rfl ?_
    refine v_geta (pc := 36) X fl_10_12 kl0 fk_10_0 (by decide +kernel) ?_
    refine v_geti (pc := 39) X fl_10_146 (ly_10_0 ok kl0) rfl (by decide +kernel) ?_
    obtain ⟨r3, er3, hf⟩ := bnd_e hf
    refine v_callV (pc := 42) (As := [.ref (ρ (lay tb (lay tb l0 0) 11)), .int (r2.1 (lay tb l0 0) 4)]) (rest := []) X (mt_Tr_takeNamed ok hi kl0 (ly_7_11 ok (ly_10_0 ok kl0)) er3) ml_10_167 mv_Tr_takeNamed kl0 cls_10 rfl ⟨Nat.le_of_ble_eq_true rfl, Nat.le_of_ble_eq_true rfl⟩ rfl rfl (Nat.le_of_ble_eq_true rfl) (by decide +kernel) ?_
    change V E g tb ρ 5 45 [(1, .int x1), (0, .ref (ρ l0))] [.int r3.1] r3.2
    refine v_istore_n (pc := 45) (k := 2) (lv' := [(2, .int r3.1), (1, .int x1), (0, .ref (ρ l0))]) X (by decide +kernel) (Nat.le_of_ble_eq_true rfl) rfl ?_
    refine v_iload_n (pc := 46) (k := 2) X (by decide +kernel) 0 rfl ?_
    refine v_iconst (pc := 47) (n := -1) X (by decide +kernel) ic_m1 ?_
    refine v_icmp_ne (pc := 48) (off := 7) (tgt := 55) X (by decide +kernel) (by decide) (fun q5 => ?_) (fun q5 => ?_)
    · rw [if_neg q5] at hf
      refine v_aload_n (pc := 55) (k := 0) X (by decide +kernel) 2 rfl ?_
      refine v_aload_n (pc := 56) (k := 0) X (by decide +kernel) 2 rfl ?_
      refine v_geta (pc := 57) X fl_10_12 kl0 fk_10_0 (by decide +kernel) ?_
      refine v_geta (pc := 60) X fl_10_122 (ly_10_0 ok kl0) fk_7_6 (by decide +kernel) ?_
      refine v_aload_n (pc := 63) (k := 0) X (by decide +kernel) 2 rfl ?_
      refine v_geta (pc := 64) X fl_10_12 kl0 fk_10_0 (by decide +kernel) ?_
      refine v_geti (pc := 67) X fl_10_119 (ly_10_0 ok kl0) rfl (by decide +kernel) ?_
      obtain ⟨r4, er4, hf⟩ := bnd_e hf
      refine v_callV (pc := 70) (As := [.ref (ρ (lay tb (lay tb l0 0) 6)), .int (r3.2.1 (lay tb l0 0) 3)]) (rest := []) X (mt_Tr_takeNamed ok hi kl0 (ly_7_6 ok (ly_10_0 ok kl0)) er4) ml_10_167 mv_Tr_takeNamed kl0 cls_10 rfl ⟨Nat.le_of_ble_eq_true rfl, Nat.le_of_ble_eq_true rfl⟩ rfl rfl (Nat.le_of_ble_eq_true rfl) (by decide +kernel) ?_
      change V E g tb ρ 5 73 [(2, .int r3.1), (1, .int x1), (0, .ref (ρ l0))] [.int r4.1] r4.2
      refine v_sub [2, 1, 0] rfl ?_
      exact vjb_Tr_readLap_73 ok hi X Y r4.2 l0 x1 r3.1 r4.1 kl0 hf
    · rw [if_pos q5] at hf
      refine v_iconst (pc := 51) (n := -1) X (by decide +kernel) ic_m1 ?_
      refine v_goto (pc := 52) (off := 21) (tgt := 73) X (by decide +kernel) (by decide) ?_
      refine v_sub [2, 1, 0] rfl ?_
      exact vjb_Tr_readLap_73 ok hi X Y r3.2 l0 x1 r3.1 (-1 : Int32) kl0 hf
  · rw [if_neg q8] at hf
    refine v_aload_n (pc := 14) (k := 0) X (by decide +kernel) 1 rfl ?_
    refine v_iconst (pc := 15) (n := 2) X (by decide +kernel) ic_2 ?_
    obtain ⟨r6, er6, hf⟩ := nmd_e hf
    refine v_callV (pc := 16) (As := [.int (2 : Int32)]) (rest := []) X (mt_Tr_fail ok hi kl0 er6.symm) ml_10_73 mv_Tr_fail kl0 cls_10 rfl ⟨Nat.le_of_ble_eq_true rfl, Nat.le_of_ble_eq_true rfl⟩ rfl rfl (Nat.le_of_ble_eq_true rfl) (by decide +kernel) ?_
    change V E g tb ρ 5 19 [(1, .int x1), (0, .ref (ρ l0))] [.int r6.1] r6.2
    obtain ⟨x7, ex7, hf⟩ := bnd_e hf
    obtain ⟨bx7, rfl⟩ := cZ_e ex7
    cases hf
    exact v_zret (hz := bx7) X Y (by decide +kernel) rfl rfl
def f_Tr_readRain (tb : Tb) (h : Hp) (l0 : Nat) : Option (Int32 × Hp) :=
  if (h.1 l0 5) = (0 : Int32) then (
    nmd (pI h l0 5 (1 : Int32)) fun h1 =>
    (f_Sc_step tb h1 (lay tb l0 3)).bind fun r2 =>
    (f_Tr_takeNumber tb r2 l0 (0 : Int32) (100 : Int32)).bind fun r3 =>
    if r3.1 = (-1 : Int32) then (
      some ((0 : Int32), r3.2)
    ) else (
      nmd (pI r3.2 (lay tb l0 0) 1 r3.1) fun h4 =>
      some ((1 : Int32), h4)
    )
  ) else (
    nmd (f_Tr_fail tb h l0 (3 : Int32)) fun r6 =>
    (cZ r6.1).bind fun x7 =>
    some (x7, r6.2)
  )
set_option maxRecDepth 4000 in
set_option maxHeartbeats 1000000 in
theorem mt_Tr_readRain {g : Gl} {tb : Tb} {ρ : Nat → Nat} (ok : TbOK tb) (hi : inj tb ρ) {h : Hp} {l0 : Nat} (kl0 : kd tb l0 = 10) {r : Int32 × Hp} (hf : f_Tr_readRain tb h l0 = some r) : MT g y_Tr_readRain prog_11_method_13_code 2 (some .boolean) 4 89 tb ρ [.ref (ρ l0)] h (some (.int r.1)) r.2 := by
  refine mt_intro (by decide +kernel) ok hi (Nat.le_of_ble_eq_true rfl) (fun E X Y => ?_)
  change V E g tb ρ 2 0 [(0, .ref (ρ l0))] [] h
  unfold f_Tr_readRain at hf
  refine v_aload_n (pc := 0) (k := 0) X (by decide +kernel) 0 rfl ?_
  refine v_geti (pc := 1) X fl_10_50 kl0 rfl (by decide +kernel) ?_
  refine v_if_eq (pc := 4) (off := 9) (tgt := 13) X (by decide +kernel) (by decide) (fun q8 => ?_) (fun q8 => ?_)
  · rw [if_pos q8] at hf
    refine v_aload_n (pc := 13) (k := 0) X (by decide +kernel) 0 rfl ?_
    refine v_iconst (pc := 14) (n := 1) X (by decide +kernel) ic_1 ?_
    obtain ⟨h1, eh1, hf⟩ := nmd_e hf
    refine v_putz (pc := 15) X fp_10_50 kl0 rfl rfl (by decide +kernel) eh1 ?_
    refine v_aload_n (pc := 18) (k := 0) X (by decide +kernel) 0 rfl ?_
    refine v_geta (pc := 19) X fl_10_30 kl0 fk_10_3 (by decide +kernel) ?_
    obtain ⟨r2, er2, hf⟩ := bnd_e hf
    refine v_callV (pc := 22) (As := []) (rest := []) X (mt_Sc_step ok hi (ly_10_3 ok kl0) er2) ml_10_95 mv_Sc_step (ly_10_3 ok kl0) cls_8 rfl ⟨Nat.le_of_ble_eq_true rfl, Nat.le_of_ble_eq_true rfl⟩ rfl rfl (Nat.le_of_ble_eq_true rfl) (by decide +kernel) ?_
    change V E g tb ρ 2 25 [(0, .ref (ρ l0))] [] r2
    refine v_aload_n (pc := 25) (k := 0) X (by decide +kernel) 0 rfl ?_
    refine v_iconst (pc := 26) (n := 0) X (by decide +kernel) ic_0 ?_
    refine v_bipush (pc := 27) (n := 100) X (by decide +kernel) bi_100 ?_
    obtain ⟨r3, er3, hf⟩ := bnd_e hf
    refine v_callV (pc := 29) (As := [.int (0 : Int32), .int (100 : Int32)]) (rest := []) X (mt_Tr_takeNumber ok hi kl0 er3) ml_10_112 mv_Tr_takeNumber kl0 cls_10 rfl ⟨Nat.le_of_ble_eq_true rfl, Nat.le_of_ble_eq_true rfl⟩ rfl rfl (Nat.le_of_ble_eq_true rfl) (by decide +kernel) ?_
    change V E g tb ρ 2 32 [(0, .ref (ρ l0))] [.int r3.1] r3.2
    refine v_istore_n (pc := 32) (k := 1) (lv' := [(1, .int r3.1), (0, .ref (ρ l0))]) X (by decide +kernel) (Nat.le_of_ble_eq_true rfl) rfl ?_
    refine v_iload_n (pc := 33) (k := 1) X (by decide +kernel) 0 rfl ?_
    refine v_iconst (pc := 34) (n := -1) X (by decide +kernel) ic_m1 ?_
    refine v_icmp_ne (pc := 35) (off := 5) (tgt := 40) X (by decide +kernel) (by decide) (fun q5 => ?_) (fun q5 => ?_)
    · rw [if_neg q5] at hf
      refine v_aload_n (pc := 40) (k := 0) X (by decide +kernel) 1 rfl ?_
      refine v_geta (pc := 41) X fl_10_12 kl0 fk_10_0 (by decide +kernel) ?_
      refine v_iload_n (pc := 44) (k := 1) X (by decide +kernel) 0 rfl ?_
      obtain ⟨h4, eh4, hf⟩ := nmd_e hf
      refine v_puti (pc := 45) X fp_10_180 (ly_10_0 ok kl0) rfl (by decide +kernel) eh4 ?_
      refine v_iconst (pc := 48) (n := 1) X (by decide +kernel) ic_1 ?_
      cases hf
      exact v_zret (hz := rfl) X Y (by decide +kernel) rfl rfl
    · rw [if_pos q5] at hf
      refine v_iconst (pc := 38) (n := 0) X (by decide +kernel) ic_0 ?_
      cases hf
      exact v_zret (hz := rfl) X Y (by decide +kernel) rfl rfl
  · rw [if_neg q8] at hf
    refine v_aload_n (pc := 7) (k := 0) X (by decide +kernel) 0 rfl ?_
    refine v_iconst (pc := 8) (n := 3) X (by decide +kernel) ic_3 ?_
    obtain ⟨r6, er6, hf⟩ := nmd_e hf
    refine v_callV (pc := 9) (As := [.int (3 : Int32)]) (rest := []) X (mt_Tr_fail ok hi kl0 er6.symm) ml_10_73 mv_Tr_fail kl0 cls_10 rfl ⟨Nat.le_of_ble_eq_true rfl, Nat.le_of_ble_eq_true rfl⟩ rfl rfl (Nat.le_of_ble_eq_true rfl) (by decide +kernel) ?_
    change V E g tb ρ 2 12 [(0, .ref (ρ l0))] [.int r6.1] r6.2
    obtain ⟨x7, ex7, hf⟩ := bnd_e hf
    obtain ⟨bx7, rfl⟩ := cZ_e ex7
    cases hf
    exact v_zret (hz := bx7) X Y (by decide +kernel) rfl rfl
def f_Tr_readSeed (tb : Tb) (h : Hp) (l0 : Nat) : Option (Int32 × Hp) :=
  if (h.1 l0 6) = (0 : Int32) then (
    nmd (pI h l0 6 (1 : Int32)) fun h1 =>
    (f_Sc_step tb h1 (lay tb l0 3)).bind fun r2 =>
    (f_Tr_takeNumber tb r2 l0 (0 : Int32) (99999 : Int32)).bind fun r3 =>
    if r3.1 = (-1 : Int32) then (
      some ((0 : Int32), r3.2)
    ) else (
      nmd (pI r3.2 (lay tb l0 0) 2 r3.1) fun h4 =>
      some ((1 : Int32), h4)
    )
  ) else (
    nmd (f_Tr_fail tb h l0 (3 : Int32)) fun r6 =>
    (cZ r6.1).bind fun x7 =>
    some (x7, r6.2)
  )
set_option maxRecDepth 4000 in
set_option maxHeartbeats 1000000 in
theorem mt_Tr_readSeed {g : Gl} {tb : Tb} {ρ : Nat → Nat} (ok : TbOK tb) (hi : inj tb ρ) {h : Hp} {l0 : Nat} (kl0 : kd tb l0 = 10) {r : Int32 × Hp} (hf : f_Tr_readSeed tb h l0 = some r) : MT g y_Tr_readSeed prog_11_method_14_code 2 (some .boolean) 4 89 tb ρ [.ref (ρ l0)] h (some (.int r.1)) r.2 := by
  refine mt_intro (by decide +kernel) ok hi (Nat.le_of_ble_eq_true rfl) (fun E X Y => ?_)
  change V E g tb ρ 2 0 [(0, .ref (ρ l0))] [] h
  unfold f_Tr_readSeed at hf
  refine v_aload_n (pc := 0) (k := 0) X (by decide +kernel) 0 rfl ?_
  refine v_geti (pc := 1) X fl_10_54 kl0 rfl (by decide +kernel) ?_
  refine v_if_eq (pc := 4) (off := 9) (tgt := 13) X (by decide +kernel) (by decide) (fun q8 => ?_) (fun q8 => ?_)
  · rw [if_pos q8] at hf
    refine v_aload_n (pc := 13) (k := 0) X (by decide +kernel) 0 rfl ?_
    refine v_iconst (pc := 14) (n := 1) X (by decide +kernel) ic_1 ?_
    obtain ⟨h1, eh1, hf⟩ := nmd_e hf
    refine v_putz (pc := 15) X fp_10_54 kl0 rfl rfl (by decide +kernel) eh1 ?_
    refine v_aload_n (pc := 18) (k := 0) X (by decide +kernel) 0 rfl ?_
    refine v_geta (pc := 19) X fl_10_30 kl0 fk_10_3 (by decide +kernel) ?_
    obtain ⟨r2, er2, hf⟩ := bnd_e hf
    refine v_callV (pc := 22) (As := []) (rest := []) X (mt_Sc_step ok hi (ly_10_3 ok kl0) er2) ml_10_95 mv_Sc_step (ly_10_3 ok kl0) cls_8 rfl ⟨Nat.le_of_ble_eq_true rfl, Nat.le_of_ble_eq_true rfl⟩ rfl rfl (Nat.le_of_ble_eq_true rfl) (by decide +kernel) ?_
    change V E g tb ρ 2 25 [(0, .ref (ρ l0))] [] r2
    refine v_aload_n (pc := 25) (k := 0) X (by decide +kernel) 0 rfl ?_
    refine v_iconst (pc := 26) (n := 0) X (by decide +kernel) ic_0 ?_
    refine v_ldc (pc := 27) X (by decide +kernel) kc_10_183 ?_
    obtain ⟨r3, er3, hf⟩ := bnd_e hf
    refine v_callV (pc := 29) (As := [.int (0 : Int32), .int (99999 : Int32)]) (rest := []) X (mt_Tr_takeNumber ok hi kl0 er3) ml_10_112 mv_Tr_takeNumber kl0 cls_10 rfl ⟨Nat.le_of_ble_eq_true rfl, Nat.le_of_ble_eq_true rfl⟩ rfl rfl (Nat.le_of_ble_eq_true rfl) (by decide +kernel) ?_
    change V E g tb ρ 2 32 [(0, .ref (ρ l0))] [.int r3.1] r3.2
    refine v_istore_n (pc := 32) (k := 1) (lv' := [(1, .int r3.1), (0, .ref (ρ l0))]) X (by decide +kernel) (Nat.le_of_ble_eq_true rfl) rfl ?_
    refine v_iload_n (pc := 33) (k := 1) X (by decide +kernel) 0 rfl ?_
    refine v_iconst (pc := 34) (n := -1) X (by decide +kernel) ic_m1 ?_
    refine v_icmp_ne (pc := 35) (off := 5) (tgt := 40) X (by decide +kernel) (by decide) (fun q5 => ?_) (fun q5 => ?_)
    · rw [if_neg q5] at hf
      refine v_aload_n (pc := 40) (k := 0) X (by decide +kernel) 1 rfl ?_
      refine v_geta (pc := 41) X fl_10_12 kl0 fk_10_0 (by decide +kernel) ?_
      refine v_iload_n (pc := 44) (k := 1) X (by decide +kernel) 0 rfl ?_
      obtain ⟨h4, eh4, hf⟩ := nmd_e hf
      refine v_puti (pc := 45) X fp_10_184 (ly_10_0 ok kl0) rfl (by decide +kernel) eh4 ?_
      refine v_iconst (pc := 48) (n := 1) X (by decide +kernel) ic_1 ?_
      cases hf
      exact v_zret (hz := rfl) X Y (by decide +kernel) rfl rfl
    · rw [if_pos q5] at hf
      refine v_iconst (pc := 38) (n := 0) X (by decide +kernel) ic_0 ?_
      cases hf
      exact v_zret (hz := rfl) X Y (by decide +kernel) rfl rfl
  · rw [if_neg q8] at hf
    refine v_aload_n (pc := 7) (k := 0) X (by decide +kernel) 0 rfl ?_
    refine v_iconst (pc := 8) (n := 3) X (by decide +kernel) ic_3 ?_
    obtain ⟨r6, er6, hf⟩ := nmd_e hf
    refine v_callV (pc := 9) (As := [.int (3 : Int32)]) (rest := []) X (mt_Tr_fail ok hi kl0 er6.symm) ml_10_73 mv_Tr_fail kl0 cls_10 rfl ⟨Nat.le_of_ble_eq_true rfl, Nat.le_of_ble_eq_true rfl⟩ rfl rfl (Nat.le_of_ble_eq_true rfl) (by decide +kernel) ?_
    change V E g tb ρ 2 12 [(0, .ref (ρ l0))] [.int r6.1] r6.2
    obtain ⟨x7, ex7, hf⟩ := bnd_e hf
    obtain ⟨bx7, rfl⟩ := cZ_e ex7
    cases hf
    exact v_zret (hz := bx7) X Y (by decide +kernel) rfl rfl
def f_La_isTold (tb : Tb) (h : Hp) (l0 : Nat) (l1 : Int32) : Option (Int32) :=
  (rI tb h (lay tb l0 4) l1).bind fun x1 =>
  (rI tb h (lay tb l0 3) l1).bind fun x2 =>
  if x1 ≤ x2 then (
    some (0 : Int32)
  ) else (
    some (1 : Int32)
  )
set_option maxRecDepth 4000 in
set_option maxHeartbeats 1000000 in
theorem mt_La_isTold {g : Gl} {tb : Tb} {ρ : Nat → Nat} (ok : TbOK tb) (hi : inj tb ρ) {h : Hp} {l0 : Nat} {l1 : Int32} (kl0 : kd tb l0 = 6) {r : Int32} (hf : f_La_isTold tb h l0 l1 = some r) : MT g y_La_isTold prog_7_method_4_code 2 (some .boolean) 0 0 tb ρ [.ref (ρ l0), .int l1] h (some (.int r)) h := by
  refine mt_intro (by decide +kernel) ok hi (Nat.le_of_ble_eq_true rfl) (fun E X Y => ?_)
  change V E g tb ρ 2 0 [(0, .ref (ρ l0)), (1, .int l1)] [] h
  unfold f_La_isTold at hf
  refine v_aload_n (pc := 0) (k := 0) X (by decide +kernel) 0 rfl ?_
  refine v_geta (pc := 1) X fl_6_18 kl0 fk_6_4 (by decide +kernel) ?_
  refine v_iload_n (pc := 4) (k := 1) X (by decide +kernel) 1 rfl ?_
  obtain ⟨x1, ex1, hf⟩ := bnd_e hf
  refine v_iald (pc := 5) X (ly_6_4 ok kl0) ex1 (by decide +kernel) ?_
  refine v_aload_n (pc := 6) (k := 0) X (by decide +kernel) 0 rfl ?_
  refine v_geta (pc := 7) X fl_6_15 kl0 fk_6_3 (by decide +kernel) ?_
  refine v_iload_n (pc := 10) (k := 1) X (by decide +kernel) 1 rfl ?_
  obtain ⟨x2, ex2, hf⟩ := bnd_e hf
  refine v_iald (pc := 11) X (ly_6_3 ok kl0) ex2 (by decide +kernel) ?_
  refine v_icmp_le (pc := 12) (off := 7) (tgt := 19) X (by decide +kernel) (by decide) (fun q3 => ?_) (fun q3 => ?_)
  · rw [if_pos q3] at hf
    refine v_iconst (pc := 19) (n := 0) X (by decide +kernel) ic_0 ?_
    cases hf
    exact v_zret (hz := rfl) X Y (by decide +kernel) rfl rfl
  · rw [if_neg q3] at hf
    refine v_iconst (pc := 15) (n := 1) X (by decide +kernel) ic_1 ?_
    refine v_goto (pc := 16) (off := 4) (tgt := 20) X (by decide +kernel) (by decide) ?_
    cases hf
    exact v_zret (hz := rfl) X Y (by decide +kernel) rfl rfl
def f_La_startLaw (tb : Tb) (h : Hp) (l0 : Nat) (l1 : Int32) : Option (Hp) :=
  (wI tb h (lay tb l0 3) l1 (h.1 l0 1)).bind fun h1 =>
  some h1
set_option maxRecDepth 4000 in
set_option maxHeartbeats 1000000 in
theorem mt_La_startLaw {g : Gl} {tb : Tb} {ρ : Nat → Nat} (ok : TbOK tb) (hi : inj tb ρ) {h : Hp} {l0 : Nat} {l1 : Int32} (kl0 : kd tb l0 = 6) {r : Hp} (hf : f_La_startLaw tb h l0 l1 = some r) : MT g y_La_startLaw prog_7_method_5_code 2 none 0 0 tb ρ [.ref (ρ l0), .int l1] h (none) r := by
  refine mt_intro (by decide +kernel) ok hi (Nat.le_of_ble_eq_true rfl) (fun E X Y => ?_)
  change V E g tb ρ 2 0 [(0, .ref (ρ l0)), (1, .int l1)] [] h
  unfold f_La_startLaw at hf
  refine v_aload_n (pc := 0) (k := 0) X (by decide +kernel) 0 rfl ?_
  refine v_geta (pc := 1) X fl_6_15 kl0 fk_6_3 (by decide +kernel) ?_
  refine v_iload_n (pc := 4) (k := 1) X (by decide +kernel) 1 rfl ?_
  refine v_aload_n (pc := 5) (k := 0) X (by decide +kernel) 0 rfl ?_
  refine v_geti (pc := 6) X fl_6_29 kl0 rfl (by decide +kernel) ?_
  obtain ⟨h1, eh1, hf⟩ := bnd_e hf
  refine v_iast (pc := 9) X (ly_6_3 ok kl0) eh1 (by decide +kernel) ?_
  cases hf
  exact v_vret X Y (by decide +kernel) rfl rfl
def f_Lr_strengthOf (tb : Tb) (h : Hp) (l0 : Int32) : Int32 :=
  if l0 = (20 : Int32) then (
    (2 : Int32)
  ) else (
    if l0 = (21 : Int32) then (
      (1 : Int32)
    ) else (
      if l0 = (22 : Int32) then (
        (3 : Int32)
      ) else (
        if l0 = (23 : Int32) then (
          (0 : Int32)
        ) else (
          if l0 = (24 : Int32) then (
            (0 : Int32)
          ) else (
            if l0 = (25 : Int32) then (
              (0 : Int32)
            ) else (
              if l0 = (26 : Int32) then (
                (0 : Int32)
              ) else (
                if l0 = (27 : Int32) then (
                  (0 : Int32)
                ) else (
                  if l0 = (28 : Int32) then (
                    (0 : Int32)
                  ) else (
                    if l0 = (29 : Int32) then (
                      (0 : Int32)
                    ) else (
                      if l0 = (30 : Int32) then (
                        (0 : Int32)
                      ) else (
                        if l0 = (31 : Int32) then (
                          (0 : Int32)
                        ) else (
                          if l0 = (32 : Int32) then (
                            (0 : Int32)
                          ) else (
                            if l0 = (33 : Int32) then (
                              (4 : Int32)
                            ) else (
                              if l0 = (34 : Int32) then (
                                (4 : Int32)
                              ) else (
                                if l0 = (35 : Int32) then (
                                  (4 : Int32)
                                ) else (
                                  if l0 = (36 : Int32) then (
                                    (4 : Int32)
                                  ) else (
                                    if l0 = (37 : Int32) then (
                                      (4 : Int32)
                                    ) else (
                                      if l0 = (38 : Int32) then (
                                        (4 : Int32)
                                      ) else (
                                        if l0 = (39 : Int32) then (
                                          (5 : Int32)
                                        ) else (
                                          if l0 = (40 : Int32) then (
                                            (5 : Int32)
                                          ) else (
                                            if l0 = (41 : Int32) then (
                                              (6 : Int32)
                                            ) else (
                                              if l0 = (42 : Int32) then (
                                                (6 : Int32)
                                              ) else (
                                                (0 : Int32)
                                              )
                                            )
                                          )
                                        )
                                      )
                                    )
                                  )
                                )
                              )
                            )
                          )
                        )
                      )
                    )
                  )
                )
              )
            )
          )
        )
      )
    )
  )
set_option maxRecDepth 4000 in
set_option maxHeartbeats 1000000 in
theorem mt_Lr_strengthOf {g : Gl} {tb : Tb} {ρ : Nat → Nat} (ok : TbOK tb) (hi : inj tb ρ) {h : Hp} {l0 : Int32}  {r : Int32} (hf : f_Lr_strengthOf tb h l0 = r) : MT g y_Lr_strengthOf prog_6_method_10_code 1 (some .int) 0 0 tb ρ [.int l0] h (some (.int r)) h := by
  refine mt_intro (by decide +kernel) ok hi (Nat.le_of_ble_eq_true rfl) (fun E X Y => ?_)
  change V E g tb ρ 1 0 [(0, .int l0)] [] h
  unfold f_Lr_strengthOf at hf
  refine v_iload_n (pc := 0) (k := 0) X (by decide +kernel) 0 rfl ?_
  by_cases q1 : l0 = (20 : Int32)
  · rw [if_pos q1] at hf
    refine v_tin (pc := 1) (off := 109) (tgt := 110) X (show decode prog_6_method_10_code 1 = .ok (.tableswitch 120 20 42 #[109, 107, 111, 120, 120, 120, 120, 120, 120, 120, 120, 120, 120, 113, 113, 113, 113, 113, 113, 115, 115, 117, 117], 107) from by decide +kernel) q1 (by decide) (by decide) (by decide) (by decide) ?_
    refine v_iconst (pc := 110) (n := 2) X (by decide +kernel) ic_2 ?_
    cases hf
    exact v_iret X Y (by decide +kernel) rfl rfl
  · rw [if_neg q1] at hf
    by_cases q2 : l0 = (21 : Int32)
    · rw [if_pos q2] at hf
      refine v_tin (pc := 1) (off := 107) (tgt := 108) X (show decode prog_6_method_10_code 1 = .ok (.tableswitch 120 20 42 #[109, 107, 111, 120, 120, 120, 120, 120, 120, 120, 120, 120, 120, 113, 113, 113, 113, 113, 113, 115, 115, 117, 117], 107) from by decide +kernel) q2 (by decide) (by decide) (by decide) (by decide) ?_
      refine v_iconst (pc := 108) (n := 1) X (by decide +kernel) ic_1 ?_
      cases hf
      exact v_iret X Y (by decide +kernel) rfl rfl
    · rw [if_neg q2] at hf
      by_cases q3 : l0 = (22 : Int32)
      · rw [if_pos q3] at hf
        refine v_tin (pc := 1) (off := 111) (tgt := 112) X (show decode prog_6_method_10_code 1 = .ok (.tableswitch 120 20 42 #[109, 107, 111, 120, 120, 120, 120, 120, 120, 120, 120, 120, 120, 113, 113, 113, 113, 113, 113, 115, 115, 117, 117], 107) from by decide +kernel) q3 (by decide) (by decide) (by decide) (by decide) ?_
        refine v_iconst (pc := 112) (n := 3) X (by decide +kernel) ic_3 ?_
        cases hf
        exact v_iret X Y (by decide +kernel) rfl rfl
      · rw [if_neg q3] at hf
        by_cases q4 : l0 = (23 : Int32)
        · rw [if_pos q4] at hf
          refine v_tin (pc := 1) (off := 120) (tgt := 121) X (show decode prog_6_method_10_code 1 = .ok (.tableswitch 120 20 42 #[109, 107, 111, 120, 120, 120, 120, 120, 120, 120, 120, 120, 120, 113, 113, 113, 113, 113, 113, 115, 115, 117, 117], 107) from by decide +kernel) q4 (by decide) (by decide) (by decide) (by decide) ?_
          refine v_iconst (pc := 121) (n := 0) X (by decide +kernel) ic_0 ?_
          cases hf
          exact v_iret X Y (by decide +kernel) rfl rfl
        · rw [if_neg q4] at hf
          by_cases q5 : l0 = (24 : Int32)
          · rw [if_pos q5] at hf
            refine v_tin (pc := 1) (off := 120) (tgt := 121) X (show decode prog_6_method_10_code 1 = .ok (.tableswitch 120 20 42 #[109, 107, 111, 120, 120, 120, 120, 120, 120, 120, 120, 120, 120, 113, 113, 113, 113, 113, 113, 115, 115, 117, 117], 107) from by decide +kernel) q5 (by decide) (by decide) (by decide) (by decide) ?_
            refine v_iconst (pc := 121) (n := 0) X (by decide +kernel) ic_0 ?_
            cases hf
            exact v_iret X Y (by decide +kernel) rfl rfl
          · rw [if_neg q5] at hf
            by_cases q6 : l0 = (25 : Int32)
            · rw [if_pos q6] at hf
              refine v_tin (pc := 1) (off := 120) (tgt := 121) X (show decode prog_6_method_10_code 1 = .ok (.tableswitch 120 20 42 #[109, 107, 111, 120, 120, 120, 120, 120, 120, 120, 120, 120, 120, 113, 113, 113, 113, 113, 113, 115, 115, 117, 117], 107) from by decide +kernel) q6 (by decide) (by decide) (by decide) (by decide) ?_
              refine v_iconst (pc := 121) (n := 0) X (by decide +kernel) ic_0 ?_
              cases hf
              exact v_iret X Y (by decide +kernel) rfl rfl
            · rw [if_neg q6] at hf
              by_cases q7 : l0 = (26 : Int32)
              · rw [if_pos q7] at hf
                refine v_tin (pc := 1) (off := 120) (tgt := 121) X (show decode prog_6_method_10_code 1 = .ok (.tableswitch 120 20 42 #[109, 107, 111, 120, 120, 120, 120, 120, 120, 120, 120, 120, 120, 113, 113, 113, 113, 113, 113, 115, 115, 117, 117], 107) from by decide +kernel) q7 (by decide) (by decide) (by decide) (by decide) ?_
                refine v_iconst (pc := 121) (n := 0) X (by decide +kernel) ic_0 ?_
                cases hf
                exact v_iret X Y (by decide +kernel) rfl rfl
              · rw [if_neg q7] at hf
                by_cases q8 : l0 = (27 : Int32)
                · rw [if_pos q8] at hf
                  refine v_tin (pc := 1) (off := 120) (tgt := 121) X (show decode prog_6_method_10_code 1 = .ok (.tableswitch 120 20 42 #[109, 107, 111, 120, 120, 120, 120, 120, 120, 120, 120, 120, 120, 113, 113, 113, 113, 113, 113, 115, 115, 117, 117], 107) from by decide +kernel) q8 (by decide) (by decide) (by decide) (by decide) ?_
                  refine v_iconst (pc := 121) (n := 0) X (by decide +kernel) ic_0 ?_
                  cases hf
                  exact v_iret X Y (by decide +kernel) rfl rfl
                · rw [if_neg q8] at hf
                  by_cases q9 : l0 = (28 : Int32)
                  · rw [if_pos q9] at hf
                    refine v_tin (pc := 1) (off := 120) (tgt := 121) X (show decode prog_6_method_10_code 1 = .ok (.tableswitch 120 20 42 #[109, 107, 111, 120, 120, 120, 120, 120, 120, 120, 120, 120, 120, 113, 113, 113, 113, 113, 113, 115, 115, 117, 117], 107) from by decide +kernel) q9 (by decide) (by decide) (by decide) (by decide) ?_
                    refine v_iconst (pc := 121) (n := 0) X (by decide +kernel) ic_0 ?_
                    cases hf
                    exact v_iret X Y (by decide +kernel) rfl rfl
                  · rw [if_neg q9] at hf
                    by_cases q10 : l0 = (29 : Int32)
                    · rw [if_pos q10] at hf
                      refine v_tin (pc := 1) (off := 120) (tgt := 121) X (show decode prog_6_method_10_code 1 = .ok (.tableswitch 120 20 42 #[109, 107, 111, 120, 120, 120, 120, 120, 120, 120, 120, 120, 120, 113, 113, 113, 113, 113, 113, 115, 115, 117, 117], 107) from by decide +kernel) q10 (by decide) (by decide) (by decide) (by decide) ?_
                      refine v_iconst (pc := 121) (n := 0) X (by decide +kernel) ic_0 ?_
                      cases hf
                      exact v_iret X Y (by decide +kernel) rfl rfl
                    · rw [if_neg q10] at hf
                      by_cases q11 : l0 = (30 : Int32)
                      · rw [if_pos q11] at hf
                        refine v_tin (pc := 1) (off := 120) (tgt := 121) X (show decode prog_6_method_10_code 1 = .ok (.tableswitch 120 20 42 #[109, 107, 111, 120, 120, 120, 120, 120, 120, 120, 120, 120, 120, 113, 113, 113, 113, 113, 113, 115, 115, 117, 117], 107) from by decide +kernel) q11 (by decide) (by decide) (by decide) (by decide) ?_
                        refine v_iconst (pc := 121) (n := 0) X (by decide +kernel) ic_0 ?_
                        cases hf
                        exact v_iret X Y (by decide +kernel) rfl rfl
                      · rw [if_neg q11] at hf
                        by_cases q12 : l0 = (31 : Int32)
                        · rw [if_pos q12] at hf
                          refine v_tin (pc := 1) (off := 120) (tgt := 121) X (show decode prog_6_method_10_code 1 = .ok (.tableswitch 120 20 42 #[109, 107, 111, 120, 120, 120, 120, 120, 120, 120, 120, 120, 120, 113, 113, 113, 113, 113, 113, 115, 115, 117, 117], 107) from by decide +kernel) q12 (by decide) (by decide) (by decide) (by decide) ?_
                          refine v_iconst (pc := 121) (n := 0) X (by decide +kernel) ic_0 ?_
                          cases hf
                          exact v_iret X Y (by decide +kernel) rfl rfl
                        · rw [if_neg q12] at hf
                          by_cases q13 : l0 = (32 : Int32)
                          · rw [if_pos q13] at hf
                            refine v_tin (pc := 1) (off := 120) (tgt := 121) X (show decode prog_6_method_10_code 1 = .ok (.tableswitch 120 20 42 #[109, 107, 111, 120, 120, 120, 120, 120, 120, 120, 120, 120, 120, 113, 113, 113, 113, 113, 113, 115, 115, 117, 117], 107) from by decide +kernel) q13 (by decide) (by decide) (by decide) (by decide) ?_
                            refine v_iconst (pc := 121) (n := 0) X (by decide +kernel) ic_0 ?_
                            cases hf
                            exact v_iret X Y (by decide +kernel) rfl rfl
                          · rw [if_neg q13] at hf
                            by_cases q14 : l0 = (33 : Int32)
                            · rw [if_pos q14] at hf
                              refine v_tin (pc := 1) (off := 113) (tgt := 114) X (show decode prog_6_method_10_code 1 = .ok (.tableswitch 120 20 42 #[109, 107, 111, 120, 120, 120, 120, 120, 120, 120, 120, 120, 120, 113, 113, 113, 113, 113, 113, 115, 115, 117, 117], 107) from by decide +kernel) q14 (by decide) (by decide) (by decide) (by decide) ?_
                              refine v_iconst (pc := 114) (n := 4) X (by decide +kernel) ic_4 ?_
                              cases hf
                              exact v_iret X Y (by decide +kernel) rfl rfl
                            · rw [if_neg q14] at hf
                              by_cases q15 : l0 = (34 : Int32)
                              · rw [if_pos q15] at hf
                                refine v_tin (pc := 1) (off := 113) (tgt := 114) X (show decode prog_6_method_10_code 1 = .ok (.tableswitch 120 20 42 #[109, 107, 111, 120, 120, 120, 120, 120, 120, 120, 120, 120, 120, 113, 113, 113, 113, 113, 113, 115, 115, 117, 117], 107) from by decide +kernel) q15 (by decide) (by decide) (by decide) (by decide) ?_
                                refine v_iconst (pc := 114) (n := 4) X (by decide +kernel) ic_4 ?_
                                cases hf
                                exact v_iret X Y (by decide +kernel) rfl rfl
                              · rw [if_neg q15] at hf
                                by_cases q16 : l0 = (35 : Int32)
                                · rw [if_pos q16] at hf
                                  refine v_tin (pc := 1) (off := 113) (tgt := 114) X (show decode prog_6_method_10_code 1 = .ok (.tableswitch 120 20 42 #[109, 107, 111, 120, 120, 120, 120, 120, 120, 120, 120, 120, 120, 113, 113, 113, 113, 113, 113, 115, 115, 117, 117], 107) from by decide +kernel) q16 (by decide) (by decide) (by decide) (by decide) ?_
                                  refine v_iconst (pc := 114) (n := 4) X (by decide +kernel) ic_4 ?_
                                  cases hf
                                  exact v_iret X Y (by decide +kernel) rfl rfl
                                · rw [if_neg q16] at hf
                                  by_cases q17 : l0 = (36 : Int32)
                                  · rw [if_pos q17] at hf
                                    refine v_tin (pc := 1) (off := 113) (tgt := 114) X (show decode prog_6_method_10_code 1 = .ok (.tableswitch 120 20 42 #[109, 107, 111, 120, 120, 120, 120, 120, 120, 120, 120, 120, 120, 113, 113, 113, 113, 113, 113, 115, 115, 117, 117], 107) from by decide +kernel) q17 (by decide) (by decide) (by decide) (by decide) ?_
                                    refine v_iconst (pc := 114) (n := 4) X (by decide +kernel) ic_4 ?_
                                    cases hf
                                    exact v_iret X Y (by decide +kernel) rfl rfl
                                  · rw [if_neg q17] at hf
                                    by_cases q18 : l0 = (37 : Int32)
                                    · rw [if_pos q18] at hf
                                      refine v_tin (pc := 1) (off := 113) (tgt := 114) X (show decode prog_6_method_10_code 1 = .ok (.tableswitch 120 20 42 #[109, 107, 111, 120, 120, 120, 120, 120, 120, 120, 120, 120, 120, 113, 113, 113, 113, 113, 113, 115, 115, 117, 117], 107) from by decide +kernel) q18 (by decide) (by decide) (by decide) (by decide) ?_
                                      refine v_iconst (pc := 114) (n := 4) X (by decide +kernel) ic_4 ?_
                                      cases hf
                                      exact v_iret X Y (by decide +kernel) rfl rfl
                                    · rw [if_neg q18] at hf
                                      by_cases q19 : l0 = (38 : Int32)
                                      · rw [if_pos q19] at hf
                                        refine v_tin (pc := 1) (off := 113) (tgt := 114) X (show decode prog_6_method_10_code 1 = .ok (.tableswitch 120 20 42 #[109, 107, 111, 120, 120, 120, 120, 120, 120, 120, 120, 120, 120, 113, 113, 113, 113, 113, 113, 115, 115, 117, 117], 107) from by decide +kernel) q19 (by decide) (by decide) (by decide) (by decide) ?_
                                        refine v_iconst (pc := 114) (n := 4) X (by decide +kernel) ic_4 ?_
                                        cases hf
                                        exact v_iret X Y (by decide +kernel) rfl rfl
                                      · rw [if_neg q19] at hf
                                        by_cases q20 : l0 = (39 : Int32)
                                        · rw [if_pos q20] at hf
                                          refine v_tin (pc := 1) (off := 115) (tgt := 116) X (show decode prog_6_method_10_code 1 = .ok (.tableswitch 120 20 42 #[109, 107, 111, 120, 120, 120, 120, 120, 120, 120, 120, 120, 120, 113, 113, 113, 113, 113, 113, 115, 115, 117, 117], 107) from by decide +kernel) q20 (by decide) (by decide) (by decide) (by decide) ?_
                                          refine v_iconst (pc := 116) (n := 5) X (by decide +kernel) ic_5 ?_
                                          cases hf
                                          exact v_iret X Y (by decide +kernel) rfl rfl
                                        · rw [if_neg q20] at hf
                                          by_cases q21 : l0 = (40 : Int32)
                                          · rw [if_pos q21] at hf
                                            refine v_tin (pc := 1) (off := 115) (tgt := 116) X (show decode prog_6_method_10_code 1 = .ok (.tableswitch 120 20 42 #[109, 107, 111, 120, 120, 120, 120, 120, 120, 120, 120, 120, 120, 113, 113, 113, 113, 113, 113, 115, 115, 117, 117], 107) from by decide +kernel) q21 (by decide) (by decide) (by decide) (by decide) ?_
                                            refine v_iconst (pc := 116) (n := 5) X (by decide +kernel) ic_5 ?_
                                            cases hf
                                            exact v_iret X Y (by decide +kernel) rfl rfl
                                          · rw [if_neg q21] at hf
                                            by_cases q22 : l0 = (41 : Int32)
                                            · rw [if_pos q22] at hf
                                              refine v_tin (pc := 1) (off := 117) (tgt := 118) X (show decode prog_6_method_10_code 1 = .ok (.tableswitch 120 20 42 #[109, 107, 111, 120, 120, 120, 120, 120, 120, 120, 120, 120, 120, 113, 113, 113, 113, 113, 113, 115, 115, 117, 117], 107) from by decide +kernel) q22 (by decide) (by decide) (by decide) (by decide) ?_
                                              refine v_bipush (pc := 118) (n := 6) X (by decide +kernel) bi_6 ?_
                                              cases hf
                                              exact v_iret X Y (by decide +kernel) rfl rfl
                                            · rw [if_neg q22] at hf
                                              by_cases q23 : l0 = (42 : Int32)
                                              · rw [if_pos q23] at hf
                                                refine v_tin (pc := 1) (off := 117) (tgt := 118) X (show decode prog_6_method_10_code 1 = .ok (.tableswitch 120 20 42 #[109, 107, 111, 120, 120, 120, 120, 120, 120, 120, 120, 120, 120, 113, 113, 113, 113, 113, 113, 115, 115, 117, 117], 107) from by decide +kernel) q23 (by decide) (by decide) (by decide) (by decide) ?_
                                                refine v_bipush (pc := 118) (n := 6) X (by decide +kernel) bi_6 ?_
                                                cases hf
                                                exact v_iret X Y (by decide +kernel) rfl rfl
                                              · rw [if_neg q23] at hf
                                                refine v_tout (pc := 1) (tgt := 121) X (show decode prog_6_method_10_code 1 = .ok (.tableswitch 120 20 42 #[109, 107, 111, 120, 120, 120, 120, 120, 120, 120, 120, 120, 120, 113, 113, 113, 113, 113, 113, 115, 115, 117, 117], 107) from by decide +kernel) (t_out (lo := 20) (hi := 42) [(20 : Int32), (21 : Int32), (22 : Int32), (23 : Int32), (24 : Int32), (25 : Int32), (26 : Int32), (27 : Int32), (28 : Int32), (29 : Int32), (30 : Int32), (31 : Int32), (32 : Int32), (33 : Int32), (34 : Int32), (35 : Int32), (36 : Int32), (37 : Int32), (38 : Int32), (39 : Int32), (40 : Int32), (41 : Int32), (42 : Int32)] (by decide) (List.forall_mem_cons.mpr ⟨q1, List.forall_mem_cons.mpr ⟨q2, List.forall_mem_cons.mpr ⟨q3, List.forall_mem_cons.mpr ⟨q4, List.forall_mem_cons.mpr ⟨q5, List.forall_mem_cons.mpr ⟨q6, List.forall_mem_cons.mpr ⟨q7, List.forall_mem_cons.mpr ⟨q8, List.forall_mem_cons.mpr ⟨q9, List.forall_mem_cons.mpr ⟨q10, List.forall_mem_cons.mpr ⟨q11, List.forall_mem_cons.mpr ⟨q12, List.forall_mem_cons.mpr ⟨q13, List.forall_mem_cons.mpr ⟨q14, List.forall_mem_cons.mpr ⟨q15, List.forall_mem_cons.mpr ⟨q16, List.forall_mem_cons.mpr ⟨q17, List.forall_mem_cons.mpr ⟨q18, List.forall_mem_cons.mpr ⟨q19, List.forall_mem_cons.mpr ⟨q20, List.forall_mem_cons.mpr ⟨q21, List.forall_mem_cons.mpr ⟨q22, List.forall_mem_cons.mpr ⟨q23, fun _ h => absurd h List.not_mem_nil⟩⟩⟩⟩⟩⟩⟩⟩⟩⟩⟩⟩⟩⟩⟩⟩⟩⟩⟩⟩⟩⟩⟩)) (by decide) ?_
                                                refine v_iconst (pc := 121) (n := 0) X (by decide +kernel) ic_0 ?_
                                                cases hf
                                                exact v_iret X Y (by decide +kernel) rfl rfl
def f_La_append (tb : Tb) (h : Hp) (l0 : Nat) (l1 : Int32) : Option (Hp) :=
  if (Int32.ofNat (al tb (lay tb l0 2))) ≤ (h.1 l0 1) then (
    some h
  ) else (
    (wI tb h (lay tb l0 2) (h.1 l0 1) l1).bind fun h1 =>
    nmd (pI h1 l0 1 ((h1.1 l0 1) + (1 : Int32))) fun h2 =>
    some h2
  )
set_option maxRecDepth 4000 in
set_option maxHeartbeats 1000000 in
theorem mt_La_append {g : Gl} {tb : Tb} {ρ : Nat → Nat} (ok : TbOK tb) (hi : inj tb ρ) {h : Hp} {l0 : Nat} {l1 : Int32} (kl0 : kd tb l0 = 6) {r : Hp} (hf : f_La_append tb h l0 l1 = some r) : MT g y_La_append prog_7_method_7_code 2 none 0 0 tb ρ [.ref (ρ l0), .int l1] h (none) r := by
  refine mt_intro (by decide +kernel) ok hi (Nat.le_of_ble_eq_true rfl) (fun E X Y => ?_)
  change V E g tb ρ 2 0 [(0, .ref (ρ l0)), (1, .int l1)] [] h
  unfold f_La_append at hf
  refine v_aload_n (pc := 0) (k := 0) X (by decide +kernel) 0 rfl ?_
  refine v_geti (pc := 1) X fl_6_29 kl0 rfl (by decide +kernel) ?_
  refine v_aload_n (pc := 4) (k := 0) X (by decide +kernel) 0 rfl ?_
  refine v_geta (pc := 5) X fl_6_9 kl0 fk_6_2 (by decide +kernel) ?_
  refine v_alen (pc := 8) X (by rw [(ly_6_2 ok kl0)]; decide) (by decide +kernel) ?_
  refine v_icmp_ge (pc := 9) (off := 23) (tgt := 32) X (by decide +kernel) (by decide) (fun q3 => ?_) (fun q3 => ?_)
  · rw [if_pos q3] at hf
    cases hf
    exact v_vret X Y (by decide +kernel) rfl rfl
  · rw [if_neg q3] at hf
    refine v_aload_n (pc := 12) (k := 0) X (by decide +kernel) 0 rfl ?_
    refine v_geta (pc := 13) X fl_6_9 kl0 fk_6_2 (by decide +kernel) ?_
    refine v_aload_n (pc := 16) (k := 0) X (by decide +kernel) 0 rfl ?_
    refine v_geti (pc := 17) X fl_6_29 kl0 rfl (by decide +kernel) ?_
    refine v_iload_n (pc := 20) (k := 1) X (by decide +kernel) 1 rfl ?_
    obtain ⟨h1, eh1, hf⟩ := bnd_e hf
    refine v_iast (pc := 21) X (ly_6_2 ok kl0) eh1 (by decide +kernel) ?_
    refine v_aload_n (pc := 22) (k := 0) X (by decide +kernel) 0 rfl ?_
    refine v_dup (pc := 23) X (by decide +kernel) rfl ?_
    refine v_geti (pc := 24) X fl_6_29 kl0 rfl (by decide +kernel) ?_
    refine v_iconst (pc := 27) (n := 1) X (by decide +kernel) ic_1 ?_
    refine v_iadd (pc := 28) X (by decide +kernel) ?_
    obtain ⟨h2, eh2, hf⟩ := nmd_e hf
    refine v_puti (pc := 29) X fp_6_29 kl0 rfl (by decide +kernel) eh2 ?_
    cases hf
    exact v_vret X Y (by decide +kernel) rfl rfl
def lp_Lr_settle_0 (tb : Tb) : Nat → Hp → Nat → Int32 → Option (Hp)
  | 0, _, _, _ => none
  | n + 1, h, l0, l1 =>
    if (h.1 l0 3) ≤ (0 : Int32) then (
      some h
    ) else (
      (rI tb h (lay tb l0 2) ((h.1 l0 3) - (1 : Int32))).bind fun x1 =>
      nmd (f_Lr_strengthOf tb h x1) fun r2 =>
      if r2 < l1 then (
        some h
      ) else (
        nmd (pI h l0 3 ((h.1 l0 3) - (1 : Int32))) fun h3 =>
        (rI tb h3 (lay tb l0 2) (h3.1 l0 3)).bind fun x4 =>
        (f_La_append tb h3 (lay tb l0 1) (-x4)).bind fun r5 =>
        lp_Lr_settle_0 tb n r5 l0 l1
      )
    )
def f_Lr_settle (tb : Tb) (h : Hp) (l0 : Nat) (l1 : Int32) : Option (Hp) :=
  lp_Lr_settle_0 tb fu h l0 l1
set_option maxRecDepth 4000 in
set_option maxHeartbeats 1000000 in
theorem vlp_Lr_settle_0 {E : En} {g : Gl} {tb : Tb} {ρ : Nat → Nat} (ok : TbOK tb) (hi : inj tb ρ) {r : Hp} (X : CX E g tb ρ prog_6_method_8_code 2 RC5 1 21) (Y : CQ E g tb ρ none (none) r) : ∀ (n : Nat) (h : Hp) (l0 : Nat) (l1 : Int32) (kl0 : kd tb l0 = 5), lp_Lr_settle_0 tb n h l0 l1 = some r → V E g tb ρ 2 0 [(0, .ref (ρ l0)), (1, .int l1)] [] h := by
  intro n
  induction n with
  | zero =>
    intro h l0 l1 kl0 hf
    rw [lp_Lr_settle_0] at hf
    cases hf
  | succ n ih =>
    intro h l0 l1 kl0 hf
    rw [lp_Lr_settle_0] at hf
    refine v_aload_n (pc := 0) (k := 0) X (by decide +kernel) 0 rfl ?_
    refine v_geti (pc := 1) X fl_5_23 kl0 rfl (by decide +kernel) ?_
    refine v_if_le (pc := 4) (off := 51) (tgt := 55) X (by decide +kernel) (by decide) (fun q7 => ?_) (fun q7 => ?_)
    · rw [if_pos q7] at hf
      cases hf
      exact v_vret X Y (by decide +kernel) rfl rfl
    · rw [if_neg q7] at hf
      refine v_aload_n (pc := 7) (k := 0) X (by decide +kernel) 0 rfl ?_
      refine v_geta (pc := 8) X fl_5_9 kl0 fk_5_2 (by decide +kernel) ?_
      refine v_aload_n (pc := 11) (k := 0) X (by decide +kernel) 0 rfl ?_
      refine v_geti (pc := 12) X fl_5_23 kl0 rfl (by decide +kernel) ?_
      refine v_iconst (pc := 15) (n := 1) X (by decide +kernel) ic_1 ?_
      refine v_isub (pc := 16) X (by decide +kernel) ?_
      obtain ⟨x1, ex1, hf⟩ := bnd_e hf
      refine v_iald (pc := 17) X (ly_5_2 ok kl0) ex1 (by decide +kernel) ?_
      obtain ⟨r2, er2, hf⟩ := nmd_e hf
      refine v_callS (pc := 18) (As := [.int x1]) (rest := []) X (mt_Lr_strengthOf ok hi er2.symm) ml_5_75 ms_Lr_strengthOf ⟨Nat.le_of_ble_eq_true rfl, Nat.le_of_ble_eq_true rfl⟩ rfl rfl (Nat.le_of_ble_eq_true rfl) (by decide +kernel) ?_
      change V E g tb ρ 2 21 [(0, .ref (ρ l0)), (1, .int l1)] [.int r2] h
      refine v_iload_n (pc := 21) (k := 1) X (by decide +kernel) 1 rfl ?_
      refine v_icmp_lt (pc := 22) (off := 33) (tgt := 55) X (by decide +kernel) (by decide) (fun q6 => ?_) (fun q6 => ?_)
      · rw [if_pos q6] at hf
        cases hf
        exact v_vret X Y (by decide +kernel) rfl rfl
      · rw [if_neg q6] at hf
        refine v_aload_n (pc := 25) (k := 0) X (by decide +kernel) 0 rfl ?_
        refine v_dup (pc := 26) X (by decide +kernel) rfl ?_
        refine v_geti (pc := 27) X fl_5_23 kl0 rfl (by decide +kernel) ?_
        refine v_iconst (pc := 30) (n := 1) X (by decide +kernel) ic_1 ?_
        refine v_isub (pc := 31) X (by decide +kernel) ?_
        obtain ⟨h3, eh3, hf⟩ := nmd_e hf
        refine v_puti (pc := 32) X fp_5_23 kl0 rfl (by decide +kernel) eh3 ?_
        refine v_aload_n (pc := 35) (k := 0) X (by decide +kernel) 0 rfl ?_
        refine v_geta (pc := 36) X fl_5_19 kl0 fk_5_1 (by decide +kernel) ?_
        refine v_aload_n (pc := 39) (k := 0) X (by decide +kernel) 0 rfl ?_
        refine v_geta (pc := 40) X fl_5_9 kl0 fk_5_2 (by decide +kernel) ?_
        refine v_aload_n (pc := 43) (k := 0) X (by decide +kernel) 0 rfl ?_
        refine v_geti (pc := 44) X fl_5_23 kl0 rfl (by decide +kernel) ?_
        obtain ⟨x4, ex4, hf⟩ := bnd_e hf
        refine v_iald (pc := 47) X (ly_5_2 ok kl0) ex4 (by decide +kernel) ?_
        refine v_ineg (pc := 48) X (by decide +kernel) ?_
        obtain ⟨r5, er5, hf⟩ := bnd_e hf
        refine v_callV (pc := 49) (As := [.int (-x4)]) (rest := []) X (mt_La_append ok hi (ly_5_1 ok kl0) er5) ml_5_93 mv_La_append (ly_5_1 ok kl0) cls_6 rfl ⟨Nat.le_of_ble_eq_true rfl, Nat.le_of_ble_eq_true rfl⟩ rfl rfl (Nat.le_of_ble_eq_true rfl) (by decide +kernel) ?_
        change V E g tb ρ 2 52 [(0, .ref (ρ l0)), (1, .int l1)] [] r5
        refine v_goto (pc := 52) (off := -52) (tgt := 0) X (by decide +kernel) (by decide) ?_
        exact ih r5 l0 l1 kl0 hf
set_option maxRecDepth 4000 in
set_option maxHeartbeats 1000000 in
theorem mt_Lr_settle {g : Gl} {tb : Tb} {ρ : Nat → Nat} (ok : TbOK tb) (hi : inj tb ρ) {h : Hp} {l0 : Nat} {l1 : Int32} (kl0 : kd tb l0 = 5) {r : Hp} (hf : f_Lr_settle tb h l0 l1 = some r) : MT g y_Lr_settle prog_6_method_8_code 2 none 1 21 tb ρ [.ref (ρ l0), .int l1] h (none) r := by
  refine mt_intro (by decide +kernel) ok hi (Nat.le_of_ble_eq_true rfl) (fun E X Y => ?_)
  change V E g tb ρ 2 0 [(0, .ref (ρ l0)), (1, .int l1)] [] h
  unfold f_Lr_settle at hf
  exact vlp_Lr_settle_0 ok hi X Y fu h l0 l1 kl0 hf
def f_La_endLaw (tb : Tb) (h : Hp) (l0 : Nat) (l1 : Int32) : Option (Hp) :=
  (wI tb h (lay tb l0 4) l1 (h.1 l0 1)).bind fun h1 =>
  some h1
set_option maxRecDepth 4000 in
set_option maxHeartbeats 1000000 in
theorem mt_La_endLaw {g : Gl} {tb : Tb} {ρ : Nat → Nat} (ok : TbOK tb) (hi : inj tb ρ) {h : Hp} {l0 : Nat} {l1 : Int32} (kl0 : kd tb l0 = 6) {r : Hp} (hf : f_La_endLaw tb h l0 l1 = some r) : MT g y_La_endLaw prog_7_method_6_code 2 none 0 0 tb ρ [.ref (ρ l0), .int l1] h (none) r := by
  refine mt_intro (by decide +kernel) ok hi (Nat.le_of_ble_eq_true rfl) (fun E X Y => ?_)
  change V E g tb ρ 2 0 [(0, .ref (ρ l0)), (1, .int l1)] [] h
  unfold f_La_endLaw at hf
  refine v_aload_n (pc := 0) (k := 0) X (by decide +kernel) 0 rfl ?_
  refine v_geta (pc := 1) X fl_6_18 kl0 fk_6_4 (by decide +kernel) ?_
  refine v_iload_n (pc := 4) (k := 1) X (by decide +kernel) 1 rfl ?_
  refine v_aload_n (pc := 5) (k := 0) X (by decide +kernel) 0 rfl ?_
  refine v_geti (pc := 6) X fl_6_29 kl0 rfl (by decide +kernel) ?_
  obtain ⟨h1, eh1, hf⟩ := bnd_e hf
  refine v_iast (pc := 9) X (ly_6_4 ok kl0) eh1 (by decide +kernel) ?_
  cases hf
  exact v_vret X Y (by decide +kernel) rfl rfl
def f_Lr_takeKnot (tb : Tb) (h : Hp) (l0 : Nat) (l1 : Int32) : Option (Int32 × Hp) :=
  if (h.1 (lay tb l0 1) 0) < (64 : Int32) then (
    nmd (pI h (lay tb l0 1) 0 ((h.1 (lay tb l0 1) 0) + (1 : Int32))) fun h1 =>
    (f_La_append tb h1 (lay tb l0 1) l1).bind fun r2 =>
    some ((0 : Int32), r2)
  ) else (
    some ((2 : Int32), h)
  )
set_option maxRecDepth 4000 in
set_option maxHeartbeats 1000000 in
theorem mt_Lr_takeKnot {g : Gl} {tb : Tb} {ρ : Nat → Nat} (ok : TbOK tb) (hi : inj tb ρ) {h : Hp} {l0 : Nat} {l1 : Int32} (kl0 : kd tb l0 = 5) {r : Int32 × Hp} (hf : f_Lr_takeKnot tb h l0 l1 = some r) : MT g y_Lr_takeKnot prog_6_method_5_code 2 (some .int) 1 21 tb ρ [.ref (ρ l0), .int l1] h (some (.int r.1)) r.2 := by
  refine mt_intro (by decide +kernel) ok hi (Nat.le_of_ble_eq_true rfl) (fun E X Y => ?_)
  change V E g tb ρ 2 0 [(0, .ref (ρ l0)), (1, .int l1)] [] h
  unfold f_Lr_takeKnot at hf
  refine v_aload_n (pc := 0) (k := 0) X (by decide +kernel) 0 rfl ?_
  refine v_geta (pc := 1) X fl_5_19 kl0 fk_5_1 (by decide +kernel) ?_
  refine v_geti (pc := 4) X fl_5_90 (ly_5_1 ok kl0) rfl (by decide +kernel) ?_
  refine v_bipush (pc := 7) (n := 64) X (by decide +kernel) bi_64 ?_
  refine v_icmp_lt (pc := 9) (off := 5) (tgt := 14) X (by decide +kernel) (by decide) (fun q3 => ?_) (fun q3 => ?_)
  · rw [if_pos q3] at hf
    refine v_aload_n (pc := 14) (k := 0) X (by decide +kernel) 0 rfl ?_
    refine v_geta (pc := 15) X fl_5_19 kl0 fk_5_1 (by decide +kernel) ?_
    refine v_dup (pc := 18) X (by decide +kernel) rfl ?_
    refine v_geti (pc := 19) X fl_5_90 (ly_5_1 ok kl0) rfl (by decide +kernel) ?_
    refine v_iconst (pc := 22) (n := 1) X (by decide +kernel) ic_1 ?_
    refine v_iadd (pc := 23) X (by decide +kernel) ?_
    obtain ⟨h1, eh1, hf⟩ := nmd_e hf
    refine v_puti (pc := 24) X fp_5_90 (ly_5_1 ok kl0) rfl (by decide +kernel) eh1 ?_
    refine v_aload_n (pc := 27) (k := 0) X (by decide +kernel) 0 rfl ?_
    refine v_geta (pc := 28) X fl_5_19 kl0 fk_5_1 (by decide +kernel) ?_
    refine v_iload_n (pc := 31) (k := 1) X (by decide +kernel) 1 rfl ?_
    obtain ⟨r2, er2, hf⟩ := bnd_e hf
    refine v_callV (pc := 32) (As := [.int l1]) (rest := []) X (mt_La_append ok hi (ly_5_1 ok kl0) er2) ml_5_93 mv_La_append (ly_5_1 ok kl0) cls_6 rfl ⟨Nat.le_of_ble_eq_true rfl, Nat.le_of_ble_eq_true rfl⟩ rfl rfl (Nat.le_of_ble_eq_true rfl) (by decide +kernel) ?_
    change V E g tb ρ 2 35 [(0, .ref (ρ l0)), (1, .int l1)] [] r2
    refine v_iconst (pc := 35) (n := 0) X (by decide +kernel) ic_0 ?_
    cases hf
    exact v_iret X Y (by decide +kernel) rfl rfl
  · rw [if_neg q3] at hf
    refine v_iconst (pc := 12) (n := 2) X (by decide +kernel) ic_2 ?_
    cases hf
    exact v_iret X Y (by decide +kernel) rfl rfl
def f_Tt_isName (tb : Tb) (h : Hp) (l0 : Int32) : Int32 :=
  if l0 < (23 : Int32) then (
    (0 : Int32)
  ) else (
    if (29 : Int32) < l0 then (
      (0 : Int32)
    ) else (
      (1 : Int32)
    )
  )
set_option maxRecDepth 4000 in
set_option maxHeartbeats 1000000 in
theorem mt_Tt_isName {g : Gl} {tb : Tb} {ρ : Nat → Nat} (ok : TbOK tb) (hi : inj tb ρ) {h : Hp} {l0 : Int32}  {r : Int32} (hf : f_Tt_isName tb h l0 = r) : MT g y_Tt_isName prog_1_method_51_code 1 (some .boolean) 0 0 tb ρ [.int l0] h (some (.int r)) h := by
  refine mt_intro (by decide +kernel) ok hi (Nat.le_of_ble_eq_true rfl) (fun E X Y => ?_)
  change V E g tb ρ 1 0 [(0, .int l0)] [] h
  unfold f_Tt_isName at hf
  refine v_iload_n (pc := 0) (k := 0) X (by decide +kernel) 0 rfl ?_
  refine v_bipush (pc := 1) (n := 23) X (by decide +kernel) bi_23 ?_
  refine v_icmp_lt (pc := 3) (off := 13) (tgt := 16) X (by decide +kernel) (by decide) (fun q2 => ?_) (fun q2 => ?_)
  · rw [if_pos q2] at hf
    refine v_iconst (pc := 16) (n := 0) X (by decide +kernel) ic_0 ?_
    cases hf
    exact v_zret (hz := rfl) X Y (by decide +kernel) rfl rfl
  · rw [if_neg q2] at hf
    refine v_iload_n (pc := 6) (k := 0) X (by decide +kernel) 0 rfl ?_
    refine v_bipush (pc := 7) (n := 29) X (by decide +kernel) bi_29 ?_
    refine v_icmp_gt (pc := 9) (off := 7) (tgt := 16) X (by decide +kernel) (by decide) (fun q1 => ?_) (fun q1 => ?_)
    · rw [if_pos q1] at hf
      refine v_iconst (pc := 16) (n := 0) X (by decide +kernel) ic_0 ?_
      cases hf
      exact v_zret (hz := rfl) X Y (by decide +kernel) rfl rfl
    · rw [if_neg q1] at hf
      refine v_iconst (pc := 12) (n := 1) X (by decide +kernel) ic_1 ?_
      refine v_goto (pc := 13) (off := 4) (tgt := 17) X (by decide +kernel) (by decide) ?_
      cases hf
      exact v_zret (hz := rfl) X Y (by decide +kernel) rfl rfl
def f_Lr_topStrength (tb : Tb) (h : Hp) (l0 : Nat) : Option (Int32) :=
  if (h.1 l0 3) ≤ (0 : Int32) then (
    some (0 : Int32)
  ) else (
    (rI tb h (lay tb l0 2) ((h.1 l0 3) - (1 : Int32))).bind fun x1 =>
    nmd (f_Lr_strengthOf tb h x1) fun r2 =>
    some r2
  )
set_option maxRecDepth 4000 in
set_option maxHeartbeats 1000000 in
theorem mt_Lr_topStrength {g : Gl} {tb : Tb} {ρ : Nat → Nat} (ok : TbOK tb) (hi : inj tb ρ) {h : Hp} {l0 : Nat} (kl0 : kd tb l0 = 5) {r : Int32} (hf : f_Lr_topStrength tb h l0 = some r) : MT g y_Lr_topStrength prog_6_method_9_code 1 (some .int) 1 20 tb ρ [.ref (ρ l0)] h (some (.int r)) h := by
  refine mt_intro (by decide +kernel) ok hi (Nat.le_of_ble_eq_true rfl) (fun E X Y => ?_)
  change V E g tb ρ 1 0 [(0, .ref (ρ l0))] [] h
  unfold f_Lr_topStrength at hf
  refine v_aload_n (pc := 0) (k := 0) X (by decide +kernel) 0 rfl ?_
  refine v_geti (pc := 1) X fl_5_23 kl0 rfl (by decide +kernel) ?_
  refine v_if_le (pc := 4) (off := 20) (tgt := 24) X (by decide +kernel) (by decide) (fun q3 => ?_) (fun q3 => ?_)
  · rw [if_pos q3] at hf
    refine v_iconst (pc := 24) (n := 0) X (by decide +kernel) ic_0 ?_
    cases hf
    exact v_iret X Y (by decide +kernel) rfl rfl
  · rw [if_neg q3] at hf
    refine v_aload_n (pc := 7) (k := 0) X (by decide +kernel) 0 rfl ?_
    refine v_geta (pc := 8) X fl_5_9 kl0 fk_5_2 (by decide +kernel) ?_
    refine v_aload_n (pc := 11) (k := 0) X (by decide +kernel) 0 rfl ?_
    refine v_geti (pc := 12) X fl_5_23 kl0 rfl (by decide +kernel) ?_
    refine v_iconst (pc := 15) (n := 1) X (by decide +kernel) ic_1 ?_
    refine v_isub (pc := 16) X (by decide +kernel) ?_
    obtain ⟨x1, ex1, hf⟩ := bnd_e hf
    refine v_iald (pc := 17) X (ly_5_2 ok kl0) ex1 (by decide +kernel) ?_
    obtain ⟨r2, er2, hf⟩ := nmd_e hf
    refine v_callS (pc := 18) (As := [.int x1]) (rest := []) X (mt_Lr_strengthOf ok hi er2.symm) ml_5_75 ms_Lr_strengthOf ⟨Nat.le_of_ble_eq_true rfl, Nat.le_of_ble_eq_true rfl⟩ rfl rfl (Nat.le_of_ble_eq_true rfl) (by decide +kernel) ?_
    change V E g tb ρ 1 21 [(0, .ref (ρ l0))] [.int r2] h
    refine v_goto (pc := 21) (off := 4) (tgt := 25) X (by decide +kernel) (by decide) ?_
    cases hf
    exact v_iret X Y (by decide +kernel) rfl rfl
def f_Lr_push (tb : Tb) (h : Hp) (l0 : Nat) (l1 : Int32) : Option (Int32 × Hp) :=
  if (h.1 l0 3) < (Int32.ofNat (al tb (lay tb l0 2))) then (
    (wI tb h (lay tb l0 2) (h.1 l0 3) l1).bind fun h1 =>
    nmd (pI h1 l0 3 ((h1.1 l0 3) + (1 : Int32))) fun h2 =>
    some ((0 : Int32), h2)
  ) else (
    some ((2 : Int32), h)
  )
set_option maxRecDepth 4000 in
set_option maxHeartbeats 1000000 in
theorem mt_Lr_push {g : Gl} {tb : Tb} {ρ : Nat → Nat} (ok : TbOK tb) (hi : inj tb ρ) {h : Hp} {l0 : Nat} {l1 : Int32} (kl0 : kd tb l0 = 5) {r : Int32 × Hp} (hf : f_Lr_push tb h l0 l1 = some r) : MT g y_Lr_push prog_6_method_7_code 2 (some .int) 0 0 tb ρ [.ref (ρ l0), .int l1] h (some (.int r.1)) r.2 := by
  refine mt_intro (by decide +kernel) ok hi (Nat.le_of_ble_eq_true rfl) (fun E X Y => ?_)
  change V E g tb ρ 2 0 [(0, .ref (ρ l0)), (1, .int l1)] [] h
  unfold f_Lr_push at hf
  refine v_aload_n (pc := 0) (k := 0) X (by decide +kernel) 0 rfl ?_
  refine v_geti (pc := 1) X fl_5_23 kl0 rfl (by decide +kernel) ?_
  refine v_aload_n (pc := 4) (k := 0) X (by decide +kernel) 0 rfl ?_
  refine v_geta (pc := 5) X fl_5_9 kl0 fk_5_2 (by decide +kernel) ?_
  refine v_alen (pc := 8) X (by rw [(ly_5_2 ok kl0)]; decide) (by decide +kernel) ?_
  refine v_icmp_lt (pc := 9) (off := 5) (tgt := 14) X (by decide +kernel) (by decide) (fun q3 => ?_) (fun q3 => ?_)
  · rw [if_pos q3] at hf
    refine v_aload_n (pc := 14) (k := 0) X (by decide +kernel) 0 rfl ?_
    refine v_geta (pc := 15) X fl_5_9 kl0 fk_5_2 (by decide +kernel) ?_
    refine v_aload_n (pc := 18) (k := 0) X (by decide +kernel) 0 rfl ?_
    refine v_geti (pc := 19) X fl_5_23 kl0 rfl (by decide +kernel) ?_
    refine v_iload_n (pc := 22) (k := 1) X (by decide +kernel) 1 rfl ?_
    obtain ⟨h1, eh1, hf⟩ := bnd_e hf
    refine v_iast (pc := 23) X (ly_5_2 ok kl0) eh1 (by decide +kernel) ?_
    refine v_aload_n (pc := 24) (k := 0) X (by decide +kernel) 0 rfl ?_
    refine v_dup (pc := 25) X (by decide +kernel) rfl ?_
    refine v_geti (pc := 26) X fl_5_23 kl0 rfl (by decide +kernel) ?_
    refine v_iconst (pc := 29) (n := 1) X (by decide +kernel) ic_1 ?_
    refine v_iadd (pc := 30) X (by decide +kernel) ?_
    obtain ⟨h2, eh2, hf⟩ := nmd_e hf
    refine v_puti (pc := 31) X fp_5_23 kl0 rfl (by decide +kernel) eh2 ?_
    refine v_iconst (pc := 34) (n := 0) X (by decide +kernel) ic_0 ?_
    cases hf
    exact v_iret X Y (by decide +kernel) rfl rfl
  · rw [if_neg q3] at hf
    refine v_iconst (pc := 12) (n := 2) X (by decide +kernel) ic_2 ?_
    cases hf
    exact v_iret X Y (by decide +kernel) rfl rfl
def f_Lr_waitKnot (tb : Tb) (h : Hp) (l0 : Nat) (l1 : Int32) : Option (Int32 × Hp) :=
  if (h.1 (lay tb l0 1) 0) < (64 : Int32) then (
    nmd (pI h (lay tb l0 1) 0 ((h.1 (lay tb l0 1) 0) + (1 : Int32))) fun h1 =>
    (f_Lr_push tb h1 l0 l1).bind fun r2 =>
    some (r2.1, r2.2)
  ) else (
    some ((2 : Int32), h)
  )
set_option maxRecDepth 4000 in
set_option maxHeartbeats 1000000 in
theorem mt_Lr_waitKnot {g : Gl} {tb : Tb} {ρ : Nat → Nat} (ok : TbOK tb) (hi : inj tb ρ) {h : Hp} {l0 : Nat} {l1 : Int32} (kl0 : kd tb l0 = 5) {r : Int32 × Hp} (hf : f_Lr_waitKnot tb h l0 l1 = some r) : MT g y_Lr_waitKnot prog_6_method_6_code 2 (some .int) 1 21 tb ρ [.ref (ρ l0), .int l1] h (some (.int r.1)) r.2 := by
  refine mt_intro (by decide +kernel) ok hi (Nat.le_of_ble_eq_true rfl) (fun E X Y => ?_)
  change V E g tb ρ 2 0 [(0, .ref (ρ l0)), (1, .int l1)] [] h
  unfold f_Lr_waitKnot at hf
  refine v_aload_n (pc := 0) (k := 0) X (by decide +kernel) 0 rfl ?_
  refine v_geta (pc := 1) X fl_5_19 kl0 fk_5_1 (by decide +kernel) ?_
  refine v_geti (pc := 4) X fl_5_90 (ly_5_1 ok kl0) rfl (by decide +kernel) ?_
  refine v_bipush (pc := 7) (n := 64) X (by decide +kernel) bi_64 ?_
  refine v_icmp_lt (pc := 9) (off := 5) (tgt := 14) X (by decide +kernel) (by decide) (fun q3 => ?_) (fun q3 => ?_)
  · rw [if_pos q3] at hf
    refine v_aload_n (pc := 14) (k := 0) X (by decide +kernel) 0 rfl ?_
    refine v_geta (pc := 15) X fl_5_19 kl0 fk_5_1 (by decide +kernel) ?_
    refine v_dup (pc := 18) X (by decide +kernel) rfl ?_
    refine v_geti (pc := 19) X fl_5_90 (ly_5_1 ok kl0) rfl (by decide +kernel) ?_
    refine v_iconst (pc := 22) (n := 1) X (by decide +kernel) ic_1 ?_
    refine v_iadd (pc := 23) X (by decide +kernel) ?_
    obtain ⟨h1, eh1, hf⟩ := nmd_e hf
    refine v_puti (pc := 24) X fp_5_90 (ly_5_1 ok kl0) rfl (by decide +kernel) eh1 ?_
    refine v_aload_n (pc := 27) (k := 0) X (by decide +kernel) 0 rfl ?_
    refine v_iload_n (pc := 28) (k := 1) X (by decide +kernel) 1 rfl ?_
    obtain ⟨r2, er2, hf⟩ := bnd_e hf
    refine v_callV (pc := 29) (As := [.int l1]) (rest := []) X (mt_Lr_push ok hi kl0 er2) ml_5_81 mv_Lr_push kl0 cls_5 rfl ⟨Nat.le_of_ble_eq_true rfl, Nat.le_of_ble_eq_true rfl⟩ rfl rfl (Nat.le_of_ble_eq_true rfl) (by decide +kernel) ?_
    change V E g tb ρ 2 32 [(0, .ref (ρ l0)), (1, .int l1)] [.int r2.1] r2.2
    cases hf
    exact v_iret X Y (by decide +kernel) rfl rfl
  · rw [if_neg q3] at hf
    refine v_iconst (pc := 12) (n := 2) X (by decide +kernel) ic_2 ?_
    cases hf
    exact v_iret X Y (by decide +kernel) rfl rfl
def jb_Lr_takePart_91 (tb : Tb) (h : Hp) (l0 : Nat) (l1 : Int32) : Option (Int32 × Hp) :=
  if l1 = (31 : Int32) then (
    if (h.1 l0 4) < (8 : Int32) then (
      nmd (pI h l0 4 ((h.1 l0 4) + (1 : Int32))) fun h1 =>
      (f_Lr_push tb h1 l0 (31 : Int32)).bind fun r2 =>
      some (r2.1, r2.2)
    ) else (
      some ((2 : Int32), h)
    )
  ) else (
    some ((1 : Int32), h)
  )
def f_Lr_takePart (tb : Tb) (h : Hp) (l0 : Nat) : Option (Int32 × Hp) :=
  nmd (h.1 (lay tb l0 0) 0) fun x1 =>
  if x1 = (2 : Int32) then (
    nmd (pI h l0 5 (0 : Int32)) fun h11 =>
    if (h11.1 (lay tb l0 0) 2) ≤ (9999 : Int32) then (
      (f_Lr_takeKnot tb h11 l0 (h11.1 (lay tb l0 0) 2)).bind fun r12 =>
      some (r12.1, r12.2)
    ) else (
      some ((2 : Int32), h11)
    )
  ) else (
    nmd (f_Tt_isName tb h x1) fun r2 =>
    if r2 = (0 : Int32) then (
      if x1 = (22 : Int32) then (
        (f_Lr_topStrength tb h l0).bind fun r3 =>
        nmd (f_Lr_strengthOf tb h (22 : Int32)) fun r4 =>
        if r4 < r3 then (
          jb_Lr_takePart_91 tb h l0 x1
        ) else (
          (f_Lr_waitKnot tb h l0 (22 : Int32)).bind fun r5 =>
          some (r5.1, r5.2)
        )
      ) else (
        jb_Lr_takePart_91 tb h l0 x1
      )
    ) else (
      nmd (pI h l0 5 (0 : Int32)) fun h8 =>
      (f_Lr_takeKnot tb h8 l0 (-x1)).bind fun r9 =>
      some (r9.1, r9.2)
    )
  )
set_option maxRecDepth 4000 in
set_option maxHeartbeats 1000000 in
theorem vjb_Lr_takePart_91 {E : En} {g : Gl} {tb : Tb} {ρ : Nat → Nat} (ok : TbOK tb) (hi : inj tb ρ) {r : Int32 × Hp} (X : CX E g tb ρ prog_6_method_3_code 2 RC5 2 42) (Y : CQ E g tb ρ (some .int) (some (.int r.1)) r.2) (h : Hp) (l0 : Nat) (l1 : Int32) (kl0 : kd tb l0 = 5) (hf : jb_Lr_takePart_91 tb h l0 l1 = some r) : V E g tb ρ 2 91 [(0, .ref (ρ l0)), (1, .int l1)] [] h := by
  unfold jb_Lr_takePart_91 at hf
  refine v_iload_n (pc := 91) (k := 1) X (by decide +kernel) 1 rfl ?_
  refine v_bipush (pc := 92) (n := 31) X (by decide +kernel) bi_31 ?_
  refine v_icmp_eq (pc := 94) (off := 5) (tgt := 99) X (by decide +kernel) (by decide) (fun q4 => ?_) (fun q4 => ?_)
  · rw [if_pos q4] at hf
    refine v_aload_n (pc := 99) (k := 0) X (by decide +kernel) 0 rfl ?_
    refine v_geti (pc := 100) X fl_5_27 kl0 rfl (by decide +kernel) ?_
    refine v_bipush (pc := 103) (n := 8) X (by decide +kernel) bi_8 ?_
    refine v_icmp_lt (pc := 105) (off := 5) (tgt := 110) X (by decide +kernel) (by decide) (fun q3 => ?_) (fun q3 => ?_)
    · rw [if_pos q3] at hf
      refine v_aload_n (pc := 110) (k := 0) X (by decide +kernel) 0 rfl ?_
      refine v_dup (pc := 111) X (by decide +kernel) rfl ?_
      refine v_geti (pc := 112) X fl_5_27 kl0 rfl (by decide +kernel) ?_
      refine v_iconst (pc := 115) (n := 1) X (by decide +kernel) ic_1 ?_
      refine v_iadd (pc := 116) X (by decide +kernel) ?_
      obtain ⟨h1, eh1, hf⟩ := nmd_e hf
      refine v_puti (pc := 117) X fp_5_27 kl0 rfl (by decide +kernel) eh1 ?_
      refine v_aload_n (pc := 120) (k := 0) X (by decide +kernel) 0 rfl ?_
      refine v_bipush (pc := 121) (n := 31) X (by decide +kernel) bi_31 ?_
      obtain ⟨r2, er2, hf⟩ := bnd_e hf
      refine v_callV (pc := 123) (As := [.int (31 : Int32)]) (rest := []) X (mt_Lr_push ok hi kl0 er2) ml_5_81 mv_Lr_push kl0 cls_5 rfl ⟨Nat.le_of_ble_eq_true rfl, Nat.le_of_ble_eq_true rfl⟩ rfl rfl (Nat.le_of_ble_eq_true rfl) (by decide +kernel) ?_
      change V E g tb ρ 2 126 [(0, .ref (ρ l0)), (1, .int l1)] [.int r2.1] r2.2
      cases hf
      exact v_iret X Y (by decide +kernel) rfl rfl
    · rw [if_neg q3] at hf
      refine v_iconst (pc := 108) (n := 2) X (by decide +kernel) ic_2 ?_
      cases hf
      exact v_iret X Y (by decide +kernel) rfl rfl
  · rw [if_neg q4] at hf
    refine v_iconst (pc := 97) (n := 1) X (by decide +kernel) ic_1 ?_
    cases hf
    exact v_iret X Y (by decide +kernel) rfl rfl
set_option maxRecDepth 4000 in
set_option maxHeartbeats 1000000 in
theorem mt_Lr_takePart {g : Gl} {tb : Tb} {ρ : Nat → Nat} (ok : TbOK tb) (hi : inj tb ρ) {h : Hp} {l0 : Nat} (kl0 : kd tb l0 = 5) {r : Int32 × Hp} (hf : f_Lr_takePart tb h l0 = some r) : MT g y_Lr_takePart prog_6_method_3_code 2 (some .int) 2 42 tb ρ [.ref (ρ l0)] h (some (.int r.1)) r.2 := by
  refine mt_intro (by decide +kernel) ok hi (Nat.le_of_ble_eq_true rfl) (fun E X Y => ?_)
  change V E g tb ρ 2 0 [(0, .ref (ρ l0))] [] h
  unfold f_Lr_takePart at hf
  refine v_aload_n (pc := 0) (k := 0) X (by decide +kernel) 0 rfl ?_
  refine v_geta (pc := 1) X fl_5_15 kl0 fk_5_0 (by decide +kernel) ?_
  refine v_geti (pc := 4) X fl_5_40 (ly_5_0 ok kl0) rfl (by decide +kernel) ?_
  obtain ⟨x1, ex1, hf⟩ := nmd_e hf
  refine v_nmi ex1 ?_
  refine v_istore_n (pc := 7) (k := 1) (lv' := [(1, .int x1), (0, .ref (ρ l0))]) X (by decide +kernel) (Nat.le_of_ble_eq_true rfl) rfl ?_
  refine v_iload_n (pc := 8) (k := 1) X (by decide +kernel) 0 rfl ?_
  refine v_iconst (pc := 9) (n := 2) X (by decide +kernel) ic_2 ?_
  refine v_icmp_ne (pc := 10) (off := 37) (tgt := 47) X (by decide +kernel) (by decide) (fun q14 => ?_) (fun q14 => ?_)
  · rw [if_neg q14] at hf
    refine v_iload_n (pc := 47) (k := 1) X (by decide +kernel) 0 rfl ?_
    obtain ⟨r2, er2, hf⟩ := nmd_e hf
    refine v_callSN (pc := 48) (As := [.int x1]) (rest := []) X (mt_Tt_isName ok hi er2.symm) ml_5_68 ms_Tt_isName ⟨Nat.le_of_ble_eq_true rfl, Nat.le_of_ble_eq_true rfl⟩ rfl rfl (Nat.le_of_ble_eq_true rfl) (by decide +kernel) ?_
    change V E g tb ρ 2 51 [(1, .int x1), (0, .ref (ρ l0))] [.int r2] h
    refine v_if_eq (pc := 51) (off := 15) (tgt := 66) X (by decide +kernel) (by decide) (fun q10 => ?_) (fun q10 => ?_)
    · rw [if_pos q10] at hf
      refine v_iload_n (pc := 66) (k := 1) X (by decide +kernel) 0 rfl ?_
      refine v_bipush (pc := 67) (n := 22) X (by decide +kernel) bi_22 ?_
      refine v_icmp_ne (pc := 69) (off := 22) (tgt := 91) X (by decide +kernel) (by decide) (fun q7 => ?_) (fun q7 => ?_)
      · rw [if_neg q7] at hf
        refine v_sub [1, 0] rfl ?_
        exact vjb_Lr_takePart_91 ok hi X Y h l0 x1 kl0 hf
      · rw [if_pos q7] at hf
        refine v_aload_n (pc := 72) (k := 0) X (by decide +kernel) 1 rfl ?_
        obtain ⟨r3, er3, hf⟩ := bnd_e hf
        refine v_callV (pc := 73) (As := []) (rest := []) X (mt_Lr_topStrength ok hi kl0 er3) ml_5_72 mv_Lr_topStrength kl0 cls_5 rfl ⟨Nat.le_of_ble_eq_true rfl, Nat.le_of_ble_eq_true rfl⟩ rfl rfl (Nat.le_of_ble_eq_true rfl) (by decide +kernel) ?_
        change V E g tb ρ 2 76 [(1, .int x1), (0, .ref (ρ l0))] [.int r3] h
        refine v_bipush (pc := 76) (n := 22) X (by decide +kernel) bi_22 ?_
        obtain ⟨r4, er4, hf⟩ := nmd_e hf
        refine v_callS (pc := 78) (As := [.int (22 : Int32)]) (rest := [.int r3]) X (mt_Lr_strengthOf ok hi er4.symm) ml_5_75 ms_Lr_strengthOf ⟨Nat.le_of_ble_eq_true rfl, Nat.le_of_ble_eq_true rfl⟩ rfl rfl (Nat.le_of_ble_eq_true rfl) (by decide +kernel) ?_
        change V E g tb ρ 2 81 [(1, .int x1), (0, .ref (ρ l0))] [.int r4, .int r3] h
        refine v_icmp_gt (pc := 81) (off := 10) (tgt := 91) X (by decide +kernel) (by decide) (fun q6 => ?_) (fun q6 => ?_)
        · rw [if_pos q6] at hf
          refine v_sub [1, 0] rfl ?_
          exact vjb_Lr_takePart_91 ok hi X Y h l0 x1 kl0 hf
        · rw [if_neg q6] at hf
          refine v_aload_n (pc := 84) (k := 0) X (by decide +kernel) 1 rfl ?_
          refine v_bipush (pc := 85) (n := 22) X (by decide +kernel) bi_22 ?_
          obtain ⟨r5, er5, hf⟩ := bnd_e hf
          refine v_callV (pc := 87) (As := [.int (22 : Int32)]) (rest := []) X (mt_Lr_waitKnot ok hi kl0 er5) ml_5_78 mv_Lr_waitKnot kl0 cls_5 rfl ⟨Nat.le_of_ble_eq_true rfl, Nat.le_of_ble_eq_true rfl⟩ rfl rfl (Nat.le_of_ble_eq_true rfl) (by decide +kernel) ?_
          change V E g tb ρ 2 90 [(1, .int x1), (0, .ref (ρ l0))] [.int r5.1] r5.2
          cases hf
          exact v_iret X Y (by decide +kernel) rfl rfl
    · rw [if_neg q10] at hf
      refine v_aload_n (pc := 54) (k := 0) X (by decide +kernel) 1 rfl ?_
      refine v_iconst (pc := 55) (n := 0) X (by decide +kernel) ic_0 ?_
      obtain ⟨h8, eh8, hf⟩ := nmd_e hf
      refine v_putz (pc := 56) X fp_5_30 kl0 rfl rfl (by decide +kernel) eh8 ?_
      refine v_aload_n (pc := 59) (k := 0) X (by decide +kernel) 1 rfl ?_
      refine v_iload_n (pc := 60) (k := 1) X (by decide +kernel) 0 rfl ?_
      refine v_ineg (pc := 61) X (by decide +kernel) ?_
      obtain ⟨r9, er9, hf⟩ := bnd_e hf
      refine v_callV (pc := 62) (As := [.int (-x1)]) (rest := []) X (mt_Lr_takeKnot ok hi kl0 er9) ml_5_64 mv_Lr_takeKnot kl0 cls_5 rfl ⟨Nat.le_of_ble_eq_true rfl, Nat.le_of_ble_eq_true rfl⟩ rfl rfl (Nat.le_of_ble_eq_true rfl) (by decide +kernel) ?_
      change V E g tb ρ 2 65 [(1, .int x1), (0, .ref (ρ l0))] [.int r9.1] r9.2
      cases hf
      exact v_iret X Y (by decide +kernel) rfl rfl
  · rw [if_pos q14] at hf
    refine v_aload_n (pc := 13) (k := 0) X (by decide +kernel) 1 rfl ?_
    refine v_iconst (pc := 14) (n := 0) X (by decide +kernel) ic_0 ?_
    obtain ⟨h11, eh11, hf⟩ := nmd_e hf
    refine v_putz (pc := 15) X fp_5_30 kl0 rfl rfl (by decide +kernel) eh11 ?_
    refine v_aload_n (pc := 18) (k := 0) X (by decide +kernel) 1 rfl ?_
    refine v_geta (pc := 19) X fl_5_15 kl0 fk_5_0 (by decide +kernel) ?_
    refine v_geti (pc := 22) X fl_5_61 (ly_5_0 ok kl0) rfl (by decide +kernel) ?_
    refine v_sipush (pc := 25) (n := 9999) X (by decide +kernel) si_9999 ?_
    refine v_icmp_le (pc := 28) (off := 7) (tgt := 35) X (by decide +kernel) (by decide) (fun q13 => ?_) (fun q13 => ?_)
    · rw [if_pos q13] at hf
      refine v_aload_n (pc := 35) (k := 0) X (by decide +kernel) 1 rfl ?_
      refine v_aload_n (pc := 36) (k := 0) X (by decide +kernel) 1 rfl ?_
      refine v_geta (pc := 37) X fl_5_15 kl0 fk_5_0 (by decide +kernel) ?_
      refine v_geti (pc := 40) X fl_5_61 (ly_5_0 ok kl0) rfl (by decide +kernel) ?_
      obtain ⟨r12, er12, hf⟩ := bnd_e hf
      refine v_callV (pc := 43) (As := [.int (h11.1 (lay tb l0 0) 2)]) (rest := []) X (mt_Lr_takeKnot ok hi kl0 er12) ml_5_64 mv_Lr_takeKnot kl0 cls_5 rfl ⟨Nat.le_of_ble_eq_true rfl, Nat.le_of_ble_eq_true rfl⟩ rfl rfl (Nat.le_of_ble_eq_true rfl) (by decide +kernel) ?_
      change V E g tb ρ 2 46 [(1, .int x1), (0, .ref (ρ l0))] [.int r12.1] r12.2
      cases hf
      exact v_iret X Y (by decide +kernel) rfl rfl
    · rw [if_neg q13] at hf
      refine v_iconst (pc := 31) (n := 2) X (by decide +kernel) ic_2 ?_
      refine v_goto (pc := 32) (off := 14) (tgt := 46) X (by decide +kernel) (by decide) ?_
      cases hf
      exact v_iret X Y (by decide +kernel) rfl rfl
def jb_Lr_takeSign_108 (tb : Tb) (h : Hp) (l0 : Nat) (l1 : Int32) (l2 : Int32) : Option (Int32 × Hp) :=
  (f_Lr_settle tb h l0 l2).bind fun r1 =>
  nmd (pI r1 l0 5 (1 : Int32)) fun h2 =>
  (f_Lr_waitKnot tb h2 l0 l1).bind fun r3 =>
  some (r3.1, r3.2)
def jb_Lr_takeSign_93 (tb : Tb) (h : Hp) (l0 : Nat) (l1 : Int32) (l2 : Int32) (s0 : Int32) : Option (Int32 × Hp) :=
  if s0 = (0 : Int32) then (
    jb_Lr_takeSign_108 tb h l0 l1 l2
  ) else (
    (f_Lr_topStrength tb h l0).bind fun r1 =>
    if r1 = l2 then (
      some ((1 : Int32), h)
    ) else (
      jb_Lr_takeSign_108 tb h l0 l1 l2
    )
  )
def jb_Lr_takeSign_92 (tb : Tb) (h : Hp) (l0 : Nat) (l1 : Int32) (l2 : Int32) : Option (Int32 × Hp) :=
  jb_Lr_takeSign_93 tb h l0 l1 l2 (0 : Int32)
def jb_Lr_takeSign_52 (tb : Tb) (h : Hp) (l0 : Nat) (l1 : Int32) : Option (Int32 × Hp) :=
  nmd (f_Lr_strengthOf tb h l1) fun r1 =>
  if r1 = (0 : Int32) then (
    some ((1 : Int32), h)
  ) else (
    if l1 = (22 : Int32) then (
      some ((1 : Int32), h)
    ) else (
      (f_Lr_settle tb h l0 (r1 + (1 : Int32))).bind fun r2 =>
      if l1 < (33 : Int32) then (
        jb_Lr_takeSign_92 tb r2 l0 l1 r1
      ) else (
        if (38 : Int32) < l1 then (
          jb_Lr_takeSign_92 tb r2 l0 l1 r1
        ) else (
          jb_Lr_takeSign_93 tb r2 l0 l1 r1 (1 : Int32)
        )
      )
    )
  )
def f_Lr_takeSign (tb : Tb) (h : Hp) (l0 : Nat) : Option (Int32 × Hp) :=
  nmd (h.1 (lay tb l0 0) 0) fun x1 =>
  if x1 = (32 : Int32) then (
    if (h.1 l0 4) ≤ (0 : Int32) then (
      jb_Lr_takeSign_52 tb h l0 x1
    ) else (
      (f_Lr_settle tb h l0 (1 : Int32)).bind fun r2 =>
      nmd (pI r2 l0 3 (mxI (0 : Int32) ((r2.1 l0 3) - (1 : Int32)))) fun h3 =>
      nmd (pI h3 l0 4 ((h3.1 l0 4) - (1 : Int32))) fun h4 =>
      some ((0 : Int32), h4)
    )
  ) else (
    jb_Lr_takeSign_52 tb h l0 x1
  )
set_option maxRecDepth 4000 in
set_option maxHeartbeats 1000000 in
theorem vjb_Lr_takeSign_108 {E : En} {g : Gl} {tb : Tb} {ρ : Nat → Nat} (ok : TbOK tb) (hi : inj tb ρ) {r : Int32 × Hp} (X : CX E g tb ρ prog_6_method_4_code 4 RC5 2 42) (Y : CQ E g tb ρ (some .int) (some (.int r.1)) r.2) (h : Hp) (l0 : Nat) (l1 : Int32) (l2 : Int32) (kl0 : kd tb l0 = 5) (hf : jb_Lr_takeSign_108 tb h l0 l1 l2 = some r) : V E g tb ρ 4 108 [(0, .ref (ρ l0)), (1, .int l1), (2, .int l2)] [] h := by
  unfold jb_Lr_takeSign_108 at hf
  refine v_aload_n (pc := 108) (k := 0) X (by decide +kernel) 0 rfl ?_
  refine v_iload_n (pc := 109) (k := 2) X (by decide +kernel) 2 rfl ?_
  obtain ⟨r1, er1, hf⟩ := bnd_e hf
  refine v_callV (pc := 110) (As := [.int l2]) (rest := []) X (mt_Lr_settle ok hi kl0 er1) ml_5_45 mv_Lr_settle kl0 cls_5 rfl ⟨Nat.le_of_ble_eq_true rfl, Nat.le_of_ble_eq_true rfl⟩ rfl rfl (Nat.le_of_ble_eq_true rfl) (by decide +kernel) ?_
  change V E g tb ρ 4 113 [(0, .ref (ρ l0)), (1, .int l1), (2, .int l2)] [] r1
  refine v_aload_n (pc := 113) (k := 0) X (by decide +kernel) 0 rfl ?_
  refine v_iconst (pc := 114) (n := 1) X (by decide +kernel) ic_1 ?_
  obtain ⟨h2, eh2, hf⟩ := nmd_e hf
  refine v_putz (pc := 115) X fp_5_30 kl0 rfl rfl (by decide +kernel) eh2 ?_
  refine v_aload_n (pc := 118) (k := 0) X (by decide +kernel) 0 rfl ?_
  refine v_iload_n (pc := 119) (k := 1) X (by decide +kernel) 1 rfl ?_
  obtain ⟨r3, er3, hf⟩ := bnd_e hf
  refine v_callV (pc := 120) (As := [.int l1]) (rest := []) X (mt_Lr_waitKnot ok hi kl0 er3) ml_5_78 mv_Lr_waitKnot kl0 cls_5 rfl ⟨Nat.le_of_ble_eq_true rfl, Nat.le_of_ble_eq_true rfl⟩ rfl rfl (Nat.le_of_ble_eq_true rfl) (by decide +kernel) ?_
  change V E g tb ρ 4 123 [(0, .ref (ρ l0)), (1, .int l1), (2, .int l2)] [.int r3.1] r3.2
  cases hf
  exact v_iret X Y (by decide +kernel) rfl rfl
set_option maxRecDepth 4000 in
set_option maxHeartbeats 1000000 in
theorem vjb_Lr_takeSign_93 {E : En} {g : Gl} {tb : Tb} {ρ : Nat → Nat} (ok : TbOK tb) (hi : inj tb ρ) {r : Int32 × Hp} (X : CX E g tb ρ prog_6_method_4_code 4 RC5 2 42) (Y : CQ E g tb ρ (some .int) (some (.int r.1)) r.2) (h : Hp) (l0 : Nat) (l1 : Int32) (l2 : Int32) (s0 : Int32) (kl0 : kd tb l0 = 5) (hf : jb_Lr_takeSign_93 tb h l0 l1 l2 s0 = some r) : V E g tb ρ 4 93 [(0, .ref (ρ l0)), (1, .int l1), (2, .int l2)] [.int s0] h := by
  unfold jb_Lr_takeSign_93 at hf
  refine v_istore_n (pc := 93) (k := 3) (lv' := [(3, .int s0), (0, .ref (ρ l0)), (1, .int l1), (2, .int l2)]) X (by decide +kernel) (Nat.le_of_ble_eq_true rfl) rfl ?_
  refine v_iload_n (pc := 94) (k := 3) X (by decide +kernel) 0 rfl ?_
  refine v_if_eq (pc := 95) (off := 13) (tgt := 108) X (by decide +kernel) (by decide) (fun q3 => ?_) (fun q3 => ?_)
  · rw [if_pos q3] at hf
    refine v_sub [1, 2, 3] rfl ?_
    exact vjb_Lr_takeSign_108 ok hi X Y h l0 l1 l2 kl0 hf
  · rw [if_neg q3] at hf
    refine v_aload_n (pc := 98) (k := 0) X (by decide +kernel) 1 rfl ?_
    obtain ⟨r1, er1, hf⟩ := bnd_e hf
    refine v_callV (pc := 99) (As := []) (rest := []) X (mt_Lr_topStrength ok hi kl0 er1) ml_5_72 mv_Lr_topStrength kl0 cls_5 rfl ⟨Nat.le_of_ble_eq_true rfl, Nat.le_of_ble_eq_true rfl⟩ rfl rfl (Nat.le_of_ble_eq_true rfl) (by decide +kernel) ?_
    change V E g tb ρ 4 102 [(3, .int s0), (0, .ref (ρ l0)), (1, .int l1), (2, .int l2)] [.int r1] h
    refine v_iload_n (pc := 102) (k := 2) X (by decide +kernel) 3 rfl ?_
    refine v_icmp_ne (pc := 103) (off := 5) (tgt := 108) X (by decide +kernel) (by decide) (fun q2 => ?_) (fun q2 => ?_)
    · rw [if_neg q2] at hf
      refine v_sub [1, 2, 3] rfl ?_
      exact vjb_Lr_takeSign_108 ok hi X Y h l0 l1 l2 kl0 hf
    · rw [if_pos q2] at hf
      refine v_iconst (pc := 106) (n := 1) X (by decide +kernel) ic_1 ?_
      cases hf
      exact v_iret X Y (by decide +kernel) rfl rfl
set_option maxRecDepth 4000 in
set_option maxHeartbeats 1000000 in
theorem vjb_Lr_takeSign_92 {E : En} {g : Gl} {tb : Tb} {ρ : Nat → Nat} (ok : TbOK tb) (hi : inj tb ρ) {r : Int32 × Hp} (X : CX E g tb ρ prog_6_method_4_code 4 RC5 2 42) (Y : CQ E g tb ρ (some .int) (some (.int r.1)) r.2) (h : Hp) (l0 : Nat) (l1 : Int32) (l2 : Int32) (kl0 : kd tb l0 = 5) (hf : jb_Lr_takeSign_92 tb h l0 l1 l2 = some r) : V E g tb ρ 4 92 [(0, .ref (ρ l0)), (1, .int l1), (2, .int l2)] [] h := by
  unfold jb_Lr_takeSign_92 at hf
  refine v_iconst (pc := 92) (n := 0) X (by decide +kernel) ic_0 ?_
  exact vjb_Lr_takeSign_93 ok hi X Y h l0 l1 l2 (0 : Int32) kl0 hf
set_option maxRecDepth 4000 in
set_option maxHeartbeats 1000000 in
theorem vjb_Lr_takeSign_52 {E : En} {g : Gl} {tb : Tb} {ρ : Nat → Nat} (ok : TbOK tb) (hi : inj tb ρ) {r : Int32 × Hp} (X : CX E g tb ρ prog_6_method_4_code 4 RC5 2 42) (Y : CQ E g tb ρ (some .int) (some (.int r.1)) r.2) (h : Hp) (l0 : Nat) (l1 : Int32) (kl0 : kd tb l0 = 5) (hf : jb_Lr_takeSign_52 tb h l0 l1 = some r) : V E g tb ρ 4 52 [(0, .ref (ρ l0)), (1, .int l1)] [] h := by
  unfold jb_Lr_takeSign_52 at hf
  refine v_iload_n (pc := 52) (k := 1) X (by decide +kernel) 1 rfl ?_
  obtain ⟨r1, er1, hf⟩ := nmd_e hf
  refine v_callS (pc := 53) (As := [.int l1]) (rest := []) X (mt_Lr_strengthOf ok hi er1.symm) ml_5_75 ms_Lr_strengthOf ⟨Nat.le_of_ble_eq_true rfl, Nat.le_of_ble_eq_true rfl⟩ rfl rfl (Nat.le_of_ble_eq_true rfl) (by decide +kernel) ?_
  change V E g tb ρ 4 56 [(0, .ref (ρ l0)), (1, .int l1)] [.int r1] h
  refine v_istore_n (pc := 56) (k := 2) (lv' := [(2, .int r1), (0, .ref (ρ l0)), (1, .int l1)]) X (by decide +kernel) (Nat.le_of_ble_eq_true rfl) rfl ?_
  refine v_iload_n (pc := 57) (k := 2) X (by decide +kernel) 0 rfl ?_
  refine v_if_eq (pc := 58) (off := 9) (tgt := 67) X (by decide +kernel) (by decide) (fun q6 => ?_) (fun q6 => ?_)
  · rw [if_pos q6] at hf
    refine v_iconst (pc := 67) (n := 1) X (by decide +kernel) ic_1 ?_
    cases hf
    exact v_iret X Y (by decide +kernel) rfl rfl
  · rw [if_neg q6] at hf
    refine v_iload_n (pc := 61) (k := 1) X (by decide +kernel) 2 rfl ?_
    refine v_bipush (pc := 62) (n := 22) X (by decide +kernel) bi_22 ?_
    refine v_icmp_ne (pc := 64) (off := 5) (tgt := 69) X (by decide +kernel) (by decide) (fun q5 => ?_) (fun q5 => ?_)
    · rw [if_neg q5] at hf
      refine v_aload_n (pc := 69) (k := 0) X (by decide +kernel) 1 rfl ?_
      refine v_iload_n (pc := 70) (k := 2) X (by decide +kernel) 0 rfl ?_
      refine v_iconst (pc := 71) (n := 1) X (by decide +kernel) ic_1 ?_
      refine v_iadd (pc := 72) X (by decide +kernel) ?_
      obtain ⟨r2, er2, hf⟩ := bnd_e hf
      refine v_callV (pc := 73) (As := [.int (r1 + (1 : Int32))]) (rest := []) X (mt_Lr_settle ok hi kl0 er2) ml_5_45 mv_Lr_settle kl0 cls_5 rfl ⟨Nat.le_of_ble_eq_true rfl, Nat.le_of_ble_eq_true rfl⟩ rfl rfl (Nat.le_of_ble_eq_true rfl) (by decide +kernel) ?_
      change V E g tb ρ 4 76 [(2, .int r1), (0, .ref (ρ l0)), (1, .int l1)] [] r2
      refine v_iload_n (pc := 76) (k := 1) X (by decide +kernel) 2 rfl ?_
      refine v_bipush (pc := 77) (n := 33) X (by decide +kernel) bi_33 ?_
      refine v_icmp_lt (pc := 79) (off := 13) (tgt := 92) X (by decide +kernel) (by decide) (fun q4 => ?_) (fun q4 => ?_)
      · rw [if_pos q4] at hf
        refine v_sub [1, 2, 0] rfl ?_
        exact vjb_Lr_takeSign_92 ok hi X Y r2 l0 l1 r1 kl0 hf
      · rw [if_neg q4] at hf
        refine v_iload_n (pc := 82) (k := 1) X (by decide +kernel) 2 rfl ?_
        refine v_bipush (pc := 83) (n := 38) X (by decide +kernel) bi_38 ?_
        refine v_icmp_gt (pc := 85) (off := 7) (tgt := 92) X (by decide +kernel) (by decide) (fun q3 => ?_) (fun q3 => ?_)
        · rw [if_pos q3] at hf
          refine v_sub [1, 2, 0] rfl ?_
          exact vjb_Lr_takeSign_92 ok hi X Y r2 l0 l1 r1 kl0 hf
        · rw [if_neg q3] at hf
          refine v_iconst (pc := 88) (n := 1) X (by decide +kernel) ic_1 ?_
          refine v_goto (pc := 89) (off := 4) (tgt := 93) X (by decide +kernel) (by decide) ?_
          refine v_sub [1, 2, 0] rfl ?_
          exact vjb_Lr_takeSign_93 ok hi X Y r2 l0 l1 r1 (1 : Int32) kl0 hf
    · rw [if_pos q5] at hf
      refine v_iconst (pc := 67) (n := 1) X (by decide +kernel) ic_1 ?_
      cases hf
      exact v_iret X Y (by decide +kernel) rfl rfl
set_option maxRecDepth 4000 in
set_option maxHeartbeats 1000000 in
theorem mt_Lr_takeSign {g : Gl} {tb : Tb} {ρ : Nat → Nat} (ok : TbOK tb) (hi : inj tb ρ) {h : Hp} {l0 : Nat} (kl0 : kd tb l0 = 5) {r : Int32 × Hp} (hf : f_Lr_takeSign tb h l0 = some r) : MT g y_Lr_takeSign prog_6_method_4_code 4 (some .int) 2 42 tb ρ [.ref (ρ l0)] h (some (.int r.1)) r.2 := by
  refine mt_intro (by decide +kernel) ok hi (Nat.le_of_ble_eq_true rfl) (fun E X Y => ?_)
  change V E g tb ρ 4 0 [(0, .ref (ρ l0))] [] h
  unfold f_Lr_takeSign at hf
  refine v_aload_n (pc := 0) (k := 0) X (by decide +kernel) 0 rfl ?_
  refine v_geta (pc := 1) X fl_5_15 kl0 fk_5_0 (by decide +kernel) ?_
  refine v_geti (pc := 4) X fl_5_40 (ly_5_0 ok kl0) rfl (by decide +kernel) ?_
  obtain ⟨x1, ex1, hf⟩ := nmd_e hf
  refine v_nmi ex1 ?_
  refine v_istore_n (pc := 7) (k := 1) (lv' := [(1, .int x1), (0, .ref (ρ l0))]) X (by decide +kernel) (Nat.le_of_ble_eq_true rfl) rfl ?_
  refine v_iload_n (pc := 8) (k := 1) X (by decide +kernel) 0 rfl ?_
  refine v_bipush (pc := 9) (n := 32) X (by decide +kernel) bi_32 ?_
  refine v_icmp_ne (pc := 11) (off := 41) (tgt := 52) X (by decide +kernel) (by decide) (fun q6 => ?_) (fun q6 => ?_)
  · rw [if_neg q6] at hf
    refine v_sub [1, 0] rfl ?_
    exact vjb_Lr_takeSign_52 ok hi X Y h l0 x1 kl0 hf
  · rw [if_pos q6] at hf
    refine v_aload_n (pc := 14) (k := 0) X (by decide +kernel) 1 rfl ?_
    refine v_geti (pc := 15) X fl_5_27 kl0 rfl (by decide +kernel) ?_
    refine v_if_le (pc := 18) (off := 34) (tgt := 52) X (by decide +kernel) (by decide) (fun q5 => ?_) (fun q5 => ?_)
    · rw [if_pos q5] at hf
      refine v_sub [1, 0] rfl ?_
      exact vjb_Lr_takeSign_52 ok hi X Y h l0 x1 kl0 hf
    · rw [if_neg q5] at hf
      refine v_aload_n (pc := 21) (k := 0) X (by decide +kernel) 1 rfl ?_
      refine v_iconst (pc := 22) (n := 1) X (by decide +kernel) ic_1 ?_
      obtain ⟨r2, er2, hf⟩ := bnd_e hf
      refine v_callV (pc := 23) (As := [.int (1 : Int32)]) (rest := []) X (mt_Lr_settle ok hi kl0 er2) ml_5_45 mv_Lr_settle kl0 cls_5 rfl ⟨Nat.le_of_ble_eq_true rfl, Nat.le_of_ble_eq_true rfl⟩ rfl rfl (Nat.le_of_ble_eq_true rfl) (by decide +kernel) ?_
      change V E g tb ρ 4 26 [(1, .int x1), (0, .ref (ρ l0))] [] r2
      refine v_aload_n (pc := 26) (k := 0) X (by decide +kernel) 1 rfl ?_
      refine v_iconst (pc := 27) (n := 0) X (by decide +kernel) ic_0 ?_
      refine v_aload_n (pc := 28) (k := 0) X (by decide +kernel) 1 rfl ?_
      refine v_geti (pc := 29) X fl_5_23 kl0 rfl (by decide +kernel) ?_
      refine v_iconst (pc := 32) (n := 1) X (by decide +kernel) ic_1 ?_
      refine v_isub (pc := 33) X (by decide +kernel) ?_
      refine v_mmax (pc := 34) X mm_5_84 ms_mmax mc_mmax mi_math ⟨Nat.le_of_ble_eq_true rfl, Nat.le_of_ble_eq_true rfl⟩ (by decide +kernel) ?_
      obtain ⟨h3, eh3, hf⟩ := nmd_e hf
      refine v_puti (pc := 37) X fp_5_23 kl0 rfl (by decide +kernel) eh3 ?_
      refine v_aload_n (pc := 40) (k := 0) X (by decide +kernel) 1 rfl ?_
      refine v_dup (pc := 41) X (by decide +kernel) rfl ?_
      refine v_geti (pc := 42) X fl_5_27 kl0 rfl (by decide +kernel) ?_
      refine v_iconst (pc := 45) (n := 1) X (by decide +kernel) ic_1 ?_
      refine v_isub (pc := 46) X (by decide +kernel) ?_
      obtain ⟨h4, eh4, hf⟩ := nmd_e hf
      refine v_puti (pc := 47) X fp_5_27 kl0 rfl (by decide +kernel) eh4 ?_
      refine v_iconst (pc := 50) (n := 0) X (by decide +kernel) ic_0 ?_
      cases hf
      exact v_iret X Y (by decide +kernel) rfl rfl
def jb_Lr_readE_91 (tb : Tb) (c25 : Hp → Nat → Int32 → Int32 → Option (Int32 × Hp)) (h : Hp) (l0 : Nat) (l1 : Int32) (l2 : Int32) (s0 : Int32) : Option (Int32 × Hp) :=
  if s0 = (0 : Int32) then (
    (f_Sc_step tb h (lay tb l0 0)).bind fun r1 =>
    nmd (l2 + (1 : Int32)) fun x2 =>
    c25 r1 l0 l1 x2
  ) else (
    some (s0, h)
  )
def jb_Lr_readE_73 (tb : Tb) (c25 : Hp → Nat → Int32 → Int32 → Option (Int32 × Hp)) (h : Hp) (l0 : Nat) (l1 : Int32) (l2 : Int32) : Option (Int32 × Hp) :=
  if (h.1 l0 5) = (0 : Int32) then (
    (f_Lr_takeSign tb h l0).bind fun r1 =>
    jb_Lr_readE_91 tb c25 r1.2 l0 l1 l2 r1.1
  ) else (
    (f_Lr_takePart tb h l0).bind fun r2 =>
    jb_Lr_readE_91 tb c25 r2.2 l0 l1 l2 r2.1
  )
def lp_Lr_readE_25 (tb : Tb) : Nat → Hp → Nat → Int32 → Int32 → Option (Int32 × Hp)
  | 0, _, _, _, _ => none
  | n + 1, h, l0, l1, l2 =>
    if (700 : Int32) < l2 then (
      some ((1 : Int32), h)
    ) else (
      if (h.1 l0 5) = (0 : Int32) then (
        if (h.1 l0 4) = (0 : Int32) then (
          if (h.1 (lay tb l0 0) 0) = (30 : Int32) then (
            (f_Lr_settle tb h l0 (1 : Int32)).bind fun r1 =>
            (f_La_endLaw tb r1 (lay tb l0 1) l1).bind fun r2 =>
            some ((0 : Int32), r2)
          ) else (
            jb_Lr_readE_73 tb (lp_Lr_readE_25 tb n) h l0 l1 l2
          )
        ) else (
          jb_Lr_readE_73 tb (lp_Lr_readE_25 tb n) h l0 l1 l2
        )
      ) else (
        jb_Lr_readE_73 tb (lp_Lr_readE_25 tb n) h l0 l1 l2
      )
    )
def f_Lr_readE (tb : Tb) (h : Hp) (l0 : Nat) (l1 : Int32) : Option (Int32 × Hp) :=
  nmd (pI h l0 3 (0 : Int32)) fun h1 =>
  nmd (pI h1 l0 4 (0 : Int32)) fun h2 =>
  nmd (pI h2 l0 5 (1 : Int32)) fun h3 =>
  (f_La_startLaw tb h3 (lay tb l0 1) l1).bind fun r4 =>
  lp_Lr_readE_25 tb fu r4 l0 l1 (0 : Int32)
set_option maxRecDepth 4000 in
set_option maxHeartbeats 1000000 in
theorem vjb_Lr_readE_91 {E : En} {g : Gl} {tb : Tb} {ρ : Nat → Nat} (ok : TbOK tb) (hi : inj tb ρ) {r : Int32 × Hp} (X : CX E g tb ρ prog_6_method_2_code 4 RC5 3 66) (Y : CQ E g tb ρ (some .int) (some (.int r.1)) r.2) {c25 : Hp → Nat → Int32 → Int32 → Option (Int32 × Hp)} (H25 : ∀ (h : Hp) (l0 : Nat) (l1 : Int32) (l2 : Int32) (kl0 : kd tb l0 = 5), c25 h l0 l1 l2 = some r → V E g tb ρ 4 25 [(0, .ref (ρ l0)), (1, .int l1), (2, .int l2)] [] h) (h : Hp) (l0 : Nat) (l1 : Int32) (l2 : Int32) (s0 : Int32) (kl0 : kd tb l0 = 5) (hf : jb_Lr_readE_91 tb c25 h l0 l1 l2 s0 = some r) : V E g tb ρ 4 91 [(0, .ref (ρ l0)), (1, .int l1), (2, .int l2)] [.int s0] h := by
  unfold jb_Lr_readE_91 at hf
  refine v_istore_n (pc := 91) (k := 3) (lv' := [(3, .int s0), (0, .ref (ρ l0)), (1, .int l1), (2, .int l2)]) X (by decide +kernel) (Nat.le_of_ble_eq_true rfl) rfl ?_
  refine v_iload_n (pc := 92) (k := 3) X (by decide +kernel) 0 rfl ?_
  refine v_if_eq (pc := 93) (off := 5) (tgt := 98) X (by decide +kernel) (by decide) (fun q3 => ?_) (fun q3 => ?_)
  · rw [if_pos q3] at hf
    refine v_aload_n (pc := 98) (k := 0) X (by decide +kernel) 1 rfl ?_
    refine v_geta (pc := 99) X fl_5_15 kl0 fk_5_0 (by decide +kernel) ?_
    obtain ⟨r1, er1, hf⟩ := bnd_e hf
    refine v_callV (pc := 102) (As := []) (rest := []) X (mt_Sc_step ok hi (ly_5_0 ok kl0) er1) ml_5_58 mv_Sc_step (ly_5_0 ok kl0) cls_8 rfl ⟨Nat.le_of_ble_eq_true rfl, Nat.le_of_ble_eq_true rfl⟩ rfl rfl (Nat.le_of_ble_eq_true rfl) (by decide +kernel) ?_
    change V E g tb ρ 4 105 [(3, .int s0), (0, .ref (ρ l0)), (1, .int l1), (2, .int l2)] [] r1
    obtain ⟨x2, ex2, hf⟩ := nmd_e hf
    refine v_iinc (pc := 105) (k := 2) (n := 1) (v := x2) (lv' := [(2, .int x2), (3, .int s0), (0, .ref (ρ l0)), (1, .int l1)]) X (by decide +kernel) 3 rfl (by rw [ic_1, ex2]) (Nat.le_of_ble_eq_true rfl) rfl ?_
    refine v_goto (pc := 108) (off := -83) (tgt := 25) X (by decide +kernel) (by decide) ?_
    refine v_sub [2, 3, 0] rfl ?_
    exact H25 r1 l0 l1 x2 kl0 hf
  · rw [if_neg q3] at hf
    refine v_iload_n (pc := 96) (k := 3) X (by decide +kernel) 0 rfl ?_
    cases hf
    exact v_iret X Y (by decide +kernel) rfl rfl
set_option maxRecDepth 4000 in
set_option maxHeartbeats 1000000 in
theorem vjb_Lr_readE_73 {E : En} {g : Gl} {tb : Tb} {ρ : Nat → Nat} (ok : TbOK tb) (hi : inj tb ρ) {r : Int32 × Hp} (X : CX E g tb ρ prog_6_method_2_code 4 RC5 3 66) (Y : CQ E g tb ρ (some .int) (some (.int r.1)) r.2) {c25 : Hp → Nat → Int32 → Int32 → Option (Int32 × Hp)} (H25 : ∀ (h : Hp) (l0 : Nat) (l1 : Int32) (l2 : Int32) (kl0 : kd tb l0 = 5), c25 h l0 l1 l2 = some r → V E g tb ρ 4 25 [(0, .ref (ρ l0)), (1, .int l1), (2, .int l2)] [] h) (h : Hp) (l0 : Nat) (l1 : Int32) (l2 : Int32) (kl0 : kd tb l0 = 5) (hf : jb_Lr_readE_73 tb c25 h l0 l1 l2 = some r) : V E g tb ρ 4 73 [(0, .ref (ρ l0)), (1, .int l1), (2, .int l2)] [] h := by
  unfold jb_Lr_readE_73 at hf
  refine v_aload_n (pc := 73) (k := 0) X (by decide +kernel) 0 rfl ?_
  refine v_geti (pc := 74) X fl_5_30 kl0 rfl (by decide +kernel) ?_
  refine v_if_eq (pc := 77) (off := 10) (tgt := 87) X (by decide +kernel) (by decide) (fun q3 => ?_) (fun q3 => ?_)
  · rw [if_pos q3] at hf
    refine v_aload_n (pc := 87) (k := 0) X (by decide +kernel) 0 rfl ?_
    obtain ⟨r1, er1, hf⟩ := bnd_e hf
    refine v_callV (pc := 88) (As := []) (rest := []) X (mt_Lr_takeSign ok hi kl0 er1) ml_5_55 mv_Lr_takeSign kl0 cls_5 rfl ⟨Nat.le_of_ble_eq_true rfl, Nat.le_of_ble_eq_true rfl⟩ rfl rfl (Nat.le_of_ble_eq_true rfl) (by decide +kernel) ?_
    change V E g tb ρ 4 91 [(0, .ref (ρ l0)), (1, .int l1), (2, .int l2)] [.int r1.1] r1.2
    exact vjb_Lr_readE_91 ok hi X Y H25 r1.2 l0 l1 l2 r1.1 kl0 hf
  · rw [if_neg q3] at hf
    refine v_aload_n (pc := 80) (k := 0) X (by decide +kernel) 0 rfl ?_
    obtain ⟨r2, er2, hf⟩ := bnd_e hf
    refine v_callV (pc := 81) (As := []) (rest := []) X (mt_Lr_takePart ok hi kl0 er2) ml_5_51 mv_Lr_takePart kl0 cls_5 rfl ⟨Nat.le_of_ble_eq_true rfl, Nat.le_of_ble_eq_true rfl⟩ rfl rfl (Nat.le_of_ble_eq_true rfl) (by decide +kernel) ?_
    change V E g tb ρ 4 84 [(0, .ref (ρ l0)), (1, .int l1), (2, .int l2)] [.int r2.1] r2.2
    refine v_goto (pc := 84) (off := 7) (tgt := 91) X (by decide +kernel) (by decide) ?_
    exact vjb_Lr_readE_91 ok hi X Y H25 r2.2 l0 l1 l2 r2.1 kl0 hf
set_option maxRecDepth 4000 in
set_option maxHeartbeats 1000000 in
theorem vlp_Lr_readE_25 {E : En} {g : Gl} {tb : Tb} {ρ : Nat → Nat} (ok : TbOK tb) (hi : inj tb ρ) {r : Int32 × Hp} (X : CX E g tb ρ prog_6_method_2_code 4 RC5 3 66) (Y : CQ E g tb ρ (some .int) (some (.int r.1)) r.2) : ∀ (n : Nat) (h : Hp) (l0 : Nat) (l1 : Int32) (l2 : Int32) (kl0 : kd tb l0 = 5), lp_Lr_readE_25 tb n h l0 l1 l2 = some r → V E g tb ρ 4 25 [(0, .ref (ρ l0)), (1, .int l1), (2, .int l2)] [] h := by
  intro n
  induction n with
  | zero =>
    intro h l0 l1 l2 kl0 hf
    rw [lp_Lr_readE_25] at hf
    cases hf
  | succ n ih =>
    intro h l0 l1 l2 kl0 hf
    rw [lp_Lr_readE_25] at hf
    refine v_iload_n (pc := 25) (k := 2) X (by decide +kernel) 2 rfl ?_
    refine v_sipush (pc := 26) (n := 700) X (by decide +kernel) si_700 ?_
    refine v_icmp_gt (pc := 29) (off := 82) (tgt := 111) X (by decide +kernel) (by decide) (fun q6 => ?_) (fun q6 => ?_)
    · rw [if_pos q6] at hf
      refine v_iconst (pc := 111) (n := 1) X (by decide +kernel) ic_1 ?_
      cases hf
      exact v_iret X Y (by decide +kernel) rfl rfl
    · rw [if_neg q6] at hf
      refine v_aload_n (pc := 32) (k := 0) X (by decide +kernel) 0 rfl ?_
      refine v_geti (pc := 33) X fl_5_30 kl0 rfl (by decide +kernel) ?_
      refine v_if_ne (pc := 36) (off := 37) (tgt := 73) X (by decide +kernel) (by decide) (fun q5 => ?_) (fun q5 => ?_)
      · rw [if_neg q5] at hf
        exact vjb_Lr_readE_73 ok hi X Y ih h l0 l1 l2 kl0 hf
      · rw [if_pos q5] at hf
        refine v_aload_n (pc := 39) (k := 0) X (by decide +kernel) 0 rfl ?_
        refine v_geti (pc := 40) X fl_5_27 kl0 rfl (by decide +kernel) ?_
        refine v_if_ne (pc := 43) (off := 30) (tgt := 73) X (by decide +kernel) (by decide) (fun q4 => ?_) (fun q4 => ?_)
        · rw [if_neg q4] at hf
          exact vjb_Lr_readE_73 ok hi X Y ih h l0 l1 l2 kl0 hf
        · rw [if_pos q4] at hf
          refine v_aload_n (pc := 46) (k := 0) X (by decide +kernel) 0 rfl ?_
          refine v_geta (pc := 47) X fl_5_15 kl0 fk_5_0 (by decide +kernel) ?_
          refine v_geti (pc := 50) X fl_5_40 (ly_5_0 ok kl0) rfl (by decide +kernel) ?_
          refine v_bipush (pc := 53) (n := 30) X (by decide +kernel) bi_30 ?_
          refine v_icmp_ne (pc := 55) (off := 18) (tgt := 73) X (by decide +kernel) (by decide) (fun q3 => ?_) (fun q3 => ?_)
          · rw [if_neg q3] at hf
            exact vjb_Lr_readE_73 ok hi X Y ih h l0 l1 l2 kl0 hf
          · rw [if_pos q3] at hf
            refine v_aload_n (pc := 58) (k := 0) X (by decide +kernel) 0 rfl ?_
            refine v_iconst (pc := 59) (n := 1) X (by decide +kernel) ic_1 ?_
            obtain ⟨r1, er1, hf⟩ := bnd_e hf
            refine v_callV (pc := 60) (As := [.int (1 : Int32)]) (rest := []) X (mt_Lr_settle ok hi kl0 er1) ml_5_45 mv_Lr_settle kl0 cls_5 rfl ⟨Nat.le_of_ble_eq_true rfl, Nat.le_of_ble_eq_true rfl⟩ rfl rfl (Nat.le_of_ble_eq_true rfl) (by decide +kernel) ?_
            change V E g tb ρ 4 63 [(0, .ref (ρ l0)), (1, .int l1), (2, .int l2)] [] r1
            refine v_aload_n (pc := 63) (k := 0) X (by decide +kernel) 0 rfl ?_
            refine v_geta (pc := 64) X fl_5_19 kl0 fk_5_1 (by decide +kernel) ?_
            refine v_iload_n (pc := 67) (k := 1) X (by decide +kernel) 1 rfl ?_
            obtain ⟨r2, er2, hf⟩ := bnd_e hf
            refine v_callV (pc := 68) (As := [.int l1]) (rest := []) X (mt_La_endLaw ok hi (ly_5_1 ok kl0) er2) ml_5_48 mv_La_endLaw (ly_5_1 ok kl0) cls_6 rfl ⟨Nat.le_of_ble_eq_true rfl, Nat.le_of_ble_eq_true rfl⟩ rfl rfl (Nat.le_of_ble_eq_true rfl) (by decide +kernel) ?_
            change V E g tb ρ 4 71 [(0, .ref (ρ l0)), (1, .int l1), (2, .int l2)] [] r2
            refine v_iconst (pc := 71) (n := 0) X (by decide +kernel) ic_0 ?_
            cases hf
            exact v_iret X Y (by decide +kernel) rfl rfl
set_option maxRecDepth 4000 in
set_option maxHeartbeats 1000000 in
theorem mt_Lr_readE {g : Gl} {tb : Tb} {ρ : Nat → Nat} (ok : TbOK tb) (hi : inj tb ρ) {h : Hp} {l0 : Nat} {l1 : Int32} (kl0 : kd tb l0 = 5) {r : Int32 × Hp} (hf : f_Lr_readE tb h l0 l1 = some r) : MT g y_Lr_readE prog_6_method_2_code 4 (some .int) 3 66 tb ρ [.ref (ρ l0), .int l1] h (some (.int r.1)) r.2 := by
  refine mt_intro (by decide +kernel) ok hi (Nat.le_of_ble_eq_true rfl) (fun E X Y => ?_)
  change V E g tb ρ 4 0 [(0, .ref (ρ l0)), (1, .int l1)] [] h
  unfold f_Lr_readE at hf
  refine v_aload_n (pc := 0) (k := 0) X (by decide +kernel) 0 rfl ?_
  refine v_iconst (pc := 1) (n := 0) X (by decide +kernel) ic_0 ?_
  obtain ⟨h1, eh1, hf⟩ := nmd_e hf
  refine v_puti (pc := 2) X fp_5_23 kl0 rfl (by decide +kernel) eh1 ?_
  refine v_aload_n (pc := 5) (k := 0) X (by decide +kernel) 0 rfl ?_
  refine v_iconst (pc := 6) (n := 0) X (by decide +kernel) ic_0 ?_
  obtain ⟨h2, eh2, hf⟩ := nmd_e hf
  refine v_puti (pc := 7) X fp_5_27 kl0 rfl (by decide +kernel) eh2 ?_
  refine v_aload_n (pc := 10) (k := 0) X (by decide +kernel) 0 rfl ?_
  refine v_iconst (pc := 11) (n := 1) X (by decide +kernel) ic_1 ?_
  obtain ⟨h3, eh3, hf⟩ := nmd_e hf
  refine v_putz (pc := 12) X fp_5_30 kl0 rfl rfl (by decide +kernel) eh3 ?_
  refine v_aload_n (pc := 15) (k := 0) X (by decide +kernel) 0 rfl ?_
  refine v_geta (pc := 16) X fl_5_19 kl0 fk_5_1 (by decide +kernel) ?_
  refine v_iload_n (pc := 19) (k := 1) X (by decide +kernel) 1 rfl ?_
  obtain ⟨r4, er4, hf⟩ := bnd_e hf
  refine v_callV (pc := 20) (As := [.int l1]) (rest := []) X (mt_La_startLaw ok hi (ly_5_1 ok kl0) er4) ml_5_34 mv_La_startLaw (ly_5_1 ok kl0) cls_6 rfl ⟨Nat.le_of_ble_eq_true rfl, Nat.le_of_ble_eq_true rfl⟩ rfl rfl (Nat.le_of_ble_eq_true rfl) (by decide +kernel) ?_
  change V E g tb ρ 4 23 [(0, .ref (ρ l0)), (1, .int l1)] [] r4
  refine v_iconst (pc := 23) (n := 0) X (by decide +kernel) ic_0 ?_
  refine v_istore_n (pc := 24) (k := 2) (lv' := [(2, .int (0 : Int32)), (0, .ref (ρ l0)), (1, .int l1)]) X (by decide +kernel) (Nat.le_of_ble_eq_true rfl) rfl ?_
  refine v_sub [1, 2, 0] rfl ?_
  exact vlp_Lr_readE_25 ok hi X Y fu r4 l0 l1 (0 : Int32) kl0 hf
