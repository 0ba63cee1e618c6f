def kf_La_init_17 (h : Hp) : Option Hp :=
  nmd (zc h 18) fun h1 =>
  nmd (zc h1 19) fun h2 =>
  nmd (zc h2 20) fun h3 =>
  nmd (zc h3 21) fun h4 =>
  some h4
set_option maxRecDepth 8000 in
set_option maxHeartbeats 4000000 in
theorem mk_La_init_17 {g : Gl} {z a v : Nat} {h h' : Hp} (hf : kf_La_init_17 h = some h') : MK g y_La_init prog_7_method_1_code 1 1 12 4 134 dC z a v 18 14 [.ref (rz z 17)] h 22 18 h' := by
  refine mk_intro (by decide +kernel) rfl (Nat.le_of_ble_eq_true rfl) (fun E X Y => ?_)
  change VK E g dC z 1 18 14 0 0 0 [(0, .ref (rz z 17))] [] h
  unfold kf_La_init_17 at hf
  refine k_aload_n (pc := 0) (i := 0) X (by decide +kernel) 0 rfl ?_
  refine k_obj (pc := 1) X ob_6_3 ob_i ob_c ⟨Nat.le_of_ble_eq_true rfl, Nat.le_of_ble_eq_true rfl⟩ (by decide +kernel) ?_
  refine k_aload_n (pc := 4) (i := 0) X (by decide +kernel) 0 rfl ?_
  refine k_bipush (pc := 5) (n0 := 64) X (by decide +kernel) bi_64 ?_
  obtain ⟨h1, eh1, hf⟩ := nmd_e hf
  refine k_newa_i (pc := 7) (n := 18) (N := 64) X ac_int rfl rfl (by decide) (by decide) (by decide) ⟨Nat.le_of_ble_eq_true rfl, Nat.le_of_ble_eq_true rfl⟩ (by decide +kernel) eh1 ?_
  change VK E g dC z 1 19 14 1 64 9 [(0, .ref (rz z 17))] [.ref (rz z 18), .ref (rz z 17)] h1
  refine k_puta (pc := 9) (c := 17) (t := 18) X ff_6_9 (by decide) rfl rfl rfl (by decide +kernel) (by decide +kernel) ?_
  refine k_aload_n (pc := 12) (i := 0) X (by decide +kernel) 0 rfl ?_
  refine k_iconst (pc := 13) (n0 := 3) X (by decide +kernel) ic_3 ?_
  obtain ⟨h2, eh2, hf⟩ := nmd_e hf
  refine k_newa_i (pc := 14) (n := 19) (N := 3) X ac_int rfl rfl (by decide) (by decide) (by decide) ⟨Nat.le_of_ble_eq_true rfl, Nat.le_of_ble_eq_true rfl⟩ (by decide +kernel) eh2 ?_
  change VK E g dC z 1 20 15 2 67 16 [(0, .ref (rz z 17))] [.ref (rz z 19), .ref (rz z 17)] h2
  refine k_puta (pc := 16) (c := 17) (t := 19) X ff_6_15 (by decide) rfl rfl rfl (by decide +kernel) (by decide +kernel) ?_
  refine k_aload_n (pc := 19) (i := 0) X (by decide +kernel) 0 rfl ?_
  refine k_iconst (pc := 20) (n0 := 3) X (by decide +kernel) ic_3 ?_
  obtain ⟨h3, eh3, hf⟩ := nmd_e hf
  refine k_newa_i (pc := 21) (n := 20) (N := 3) X ac_int rfl rfl (by decide) (by decide) (by decide) ⟨Nat.le_of_ble_eq_true rfl, Nat.le_of_ble_eq_true rfl⟩ (by decide +kernel) eh3 ?_
  change VK E g dC z 1 21 16 3 70 23 [(0, .ref (rz z 17))] [.ref (rz z 20), .ref (rz z 17)] h3
  refine k_puta (pc := 23) (c := 17) (t := 20) X ff_6_18 (by decide) rfl rfl rfl (by decide +kernel) (by decide +kernel) ?_
  refine k_aload_n (pc := 26) (i := 0) X (by decide +kernel) 0 rfl ?_
  refine k_bipush (pc := 27) (n0 := 64) X (by decide +kernel) bi_64 ?_
  obtain ⟨h4, eh4, hf⟩ := nmd_e hf
  refine k_newa_l (pc := 29) (n := 21) (N := 64) X ac_long rfl rfl (by decide) (by decide) (by decide) ⟨Nat.le_of_ble_eq_true rfl, Nat.le_of_ble_eq_true rfl⟩ (by decide +kernel) eh4 ?_
  change VK E g dC z 1 22 17 4 134 31 [(0, .ref (rz z 17))] [.ref (rz z 21), .ref (rz z 17)] h4
  refine k_puta (pc := 31) (c := 17) (t := 21) X ff_6_21 (by decide) rfl rfl rfl (by decide +kernel) (by decide +kernel) ?_
  cases hf
  exact k_vret X Y (by decide +kernel) rfl rfl rfl rfl rfl
def kf_Pl_init_3 (h : Hp) : Option Hp :=
  nmd (zc h 4) fun h1 =>
  nmd (zc h1 5) fun h2 =>
  nmd (zc h2 6) fun h3 =>
  nmd (zc h3 7) fun h4 =>
  nmd (zc h4 8) fun h5 =>
  nmd (zc h5 9) fun h6 =>
  nmd (zc h6 10) fun h7 =>
  nmd (zc h7 11) fun h8 =>
  nmd (zc h8 12) fun h9 =>
  nmd (zc h9 13) fun h10 =>
  nmd (zc h10 14) fun h11 =>
  nmd (zc h11 15) fun h12 =>
  nmd (zc h12 16) fun h13 =>
  nmd (zc h13 17) fun h14 =>
  (kf_La_init_17 h14).bind fun h15 =>
  (f_Pl_clear (pt dC 22 19) h15 3).bind fun h16 =>
  some h16
set_option maxRecDepth 8000 in
set_option maxHeartbeats 4000000 in
theorem mk_Pl_init_3 {g : Gl} {z a v : Nat} {h h' : Hp} (hf : kf_Pl_init_3 h = some h') : MK g y_Pl_init prog_8_method_1_code 1 3 63 18 291 dC z a v 4 1 [.ref (rz z 3)] h 22 19 h' := by
  refine mk_intro (by decide +kernel) rfl (Nat.le_of_ble_eq_true rfl) (fun E X Y => ?_)
  change VK E g dC z 1 4 1 0 0 0 [(0, .ref (rz z 3))] [] h
  unfold kf_Pl_init_3 at hf
  refine k_aload_n (pc := 0) (i := 0) X (by decide +kernel) 0 rfl ?_
  refine k_obj (pc := 1) X ob_7_3 ob_i ob_c ⟨Nat.le_of_ble_eq_true rfl, Nat.le_of_ble_eq_true rfl⟩ (by decide +kernel) ?_
  refine k_aload_n (pc := 4) (i := 0) X (by decide +kernel) 0 rfl ?_
  refine k_bipush (pc := 5) (n0 := 6) X (by decide +kernel) bi_6 ?_
  obtain ⟨h1, eh1, hf⟩ := nmd_e hf
  refine k_newa_i (pc := 7) (n := 4) (N := 6) X ac_int rfl rfl (by decide) (by decide) (by decide) ⟨Nat.le_of_ble_eq_true rfl, Nat.le_of_ble_eq_true rfl⟩ (by decide +kernel) eh1 ?_
  change VK E g dC z 1 5 1 1 6 9 [(0, .ref (rz z 3))] [.ref (rz z 4), .ref (rz z 3)] h1
  refine k_puta (pc := 9) (c := 3) (t := 4) X ff_7_9 (by decide) rfl rfl rfl (by decide +kernel) (by decide +kernel) ?_
  refine k_aload_n (pc := 12) (i := 0) X (by decide +kernel) 0 rfl ?_
  refine k_bipush (pc := 13) (n0 := 6) X (by decide +kernel) bi_6 ?_
  obtain ⟨h2, eh2, hf⟩ := nmd_e hf
  refine k_newa_i (pc := 15) (n := 5) (N := 6) X ac_int rfl rfl (by decide) (by decide) (by decide) ⟨Nat.le_of_ble_eq_true rfl, Nat.le_of_ble_eq_true rfl⟩ (by decide +kernel) eh2 ?_
  change VK E g dC z 1 6 2 2 12 17 [(0, .ref (rz z 3))] [.ref (rz z 5), .ref (rz z 3)] h2
  refine k_puta (pc := 17) (c := 3) (t := 5) X ff_7_15 (by decide) rfl rfl rfl (by decide +kernel) (by decide +kernel) ?_
  refine k_aload_n (pc := 20) (i := 0) X (by decide +kernel) 0 rfl ?_
  refine k_bipush (pc := 21) (n0 := 6) X (by decide +kernel) bi_6 ?_
  obtain ⟨h3, eh3, hf⟩ := nmd_e hf
  refine k_newa_i (pc := 23) (n := 6) (N := 6) X ac_int rfl rfl (by decide) (by decide) (by decide) ⟨Nat.le_of_ble_eq_true rfl, Nat.le_of_ble_eq_true rfl⟩ (by decide +kernel) eh3 ?_
  change VK E g dC z 1 7 3 3 18 25 [(0, .ref (rz z 3))] [.ref (rz z 6), .ref (rz z 3)] h3
  refine k_puta (pc := 25) (c := 3) (t := 6) X ff_7_18 (by decide) rfl rfl rfl (by decide +kernel) (by decide +kernel) ?_
  refine k_aload_n (pc := 28) (i := 0) X (by decide +kernel) 0 rfl ?_
  refine k_bipush (pc := 29) (n0 := 6) X (by decide +kernel) bi_6 ?_
  obtain ⟨h4, eh4, hf⟩ := nmd_e hf
  refine k_newa_i (pc := 31) (n := 7) (N := 6) X ac_int rfl rfl (by decide) (by decide) (by decide) ⟨Nat.le_of_ble_eq_true rfl, Nat.le_of_ble_eq_true rfl⟩ (by decide +kernel) eh4 ?_
  change VK E g dC z 1 8 4 4 24 33 [(0, .ref (rz z 3))] [.ref (rz z 7), .ref (rz z 3)] h4
  refine k_puta (pc := 33) (c := 3) (t := 7) X ff_7_21 (by decide) rfl rfl rfl (by decide +kernel) (by decide +kernel) ?_
  refine k_aload_n (pc := 36) (i := 0) X (by decide +kernel) 0 rfl ?_
  refine k_bipush (pc := 37) (n0 := 61) X (by decide +kernel) bi_61 ?_
  obtain ⟨h5, eh5, hf⟩ := nmd_e hf
  refine k_newa_i (pc := 39) (n := 8) (N := 61) X ac_int rfl rfl (by decide) (by decide) (by decide) ⟨Nat.le_of_ble_eq_true rfl, Nat.le_of_ble_eq_true rfl⟩ (by decide +kernel) eh5 ?_
  change VK E g dC z 1 9 5 5 85 41 [(0, .ref (rz z 3))] [.ref (rz z 8), .ref (rz z 3)] h5
  refine k_puta (pc := 41) (c := 3) (t := 8) X ff_7_24 (by decide) rfl rfl rfl (by decide +kernel) (by decide +kernel) ?_
  refine k_aload_n (pc := 44) (i := 0) X (by decide +kernel) 0 rfl ?_
  refine k_bipush (pc := 45) (n0 := 6) X (by decide +kernel) bi_6 ?_
  obtain ⟨h6, eh6, hf⟩ := nmd_e hf
  refine k_newa_i (pc := 47) (n := 9) (N := 6) X ac_int rfl rfl (by decide) (by decide) (by decide) ⟨Nat.le_of_ble_eq_true rfl, Nat.le_of_ble_eq_true rfl⟩ (by decide +kernel) eh6 ?_
  change VK E g dC z 1 10 6 6 91 49 [(0, .ref (rz z 3))] [.ref (rz z 9), .ref (rz z 3)] h6
  refine k_puta (pc := 49) (c := 3) (t := 9) X ff_7_27 (by decide) rfl rfl rfl (by decide +kernel) (by decide +kernel) ?_
  refine k_aload_n (pc := 52) (i := 0) X (by decide +kernel) 0 rfl ?_
  refine k_bipush (pc := 53) (n0 := 6) X (by decide +kernel) bi_6 ?_
  obtain ⟨h7, eh7, hf⟩ := nmd_e hf
  refine k_newa_i (pc := 55) (n := 10) (N := 6) X ac_int rfl rfl (by decide) (by decide) (by decide) ⟨Nat.le_of_ble_eq_true rfl, Nat.le_of_ble_eq_true rfl⟩ (by decide +kernel) eh7 ?_
  change VK E g dC z 1 11 7 7 97 57 [(0, .ref (rz z 3))] [.ref (rz z 10), .ref (rz z 3)] h7
  refine k_puta (pc := 57) (c := 3) (t := 10) X ff_7_30 (by decide) rfl rfl rfl (by decide +kernel) (by decide +kernel) ?_
  refine k_aload_n (pc := 60) (i := 0) X (by decide +kernel) 0 rfl ?_
  refine k_bipush (pc := 61) (n0 := 6) X (by decide +kernel) bi_6 ?_
  obtain ⟨h8, eh8, hf⟩ := nmd_e hf
  refine k_newa_i (pc := 63) (n := 11) (N := 6) X ac_int rfl rfl (by decide) (by decide) (by decide) ⟨Nat.le_of_ble_eq_true rfl, Nat.le_of_ble_eq_true rfl⟩ (by decide +kernel) eh8 ?_
  change VK E g dC z 1 12 8 8 103 65 [(0, .ref (rz z 3))] [.ref (rz z 11), .ref (rz z 3)] h8
  refine k_puta (pc := 65) (c := 3) (t := 11) X ff_7_33 (by decide) rfl rfl rfl (by decide +kernel) (by decide +kernel) ?_
  refine k_aload_n (pc := 68) (i := 0) X (by decide +kernel) 0 rfl ?_
  refine k_bipush (pc := 69) (n0 := 6) X (by decide +kernel) bi_6 ?_
  obtain ⟨h9, eh9, hf⟩ := nmd_e hf
  refine k_newa_i (pc := 71) (n := 12) (N := 6) X ac_int rfl rfl (by decide) (by decide) (by decide) ⟨Nat.le_of_ble_eq_true rfl, Nat.le_of_ble_eq_true rfl⟩ (by decide +kernel) eh9 ?_
  change VK E g dC z 1 13 9 9 109 73 [(0, .ref (rz z 3))] [.ref (rz z 12), .ref (rz z 3)] h9
  refine k_puta (pc := 73) (c := 3) (t := 12) X ff_7_36 (by decide) rfl rfl rfl (by decide +kernel) (by decide +kernel) ?_
  refine k_aload_n (pc := 76) (i := 0) X (by decide +kernel) 0 rfl ?_
  refine k_bipush (pc := 77) (n0 := 6) X (by decide +kernel) bi_6 ?_
  obtain ⟨h10, eh10, hf⟩ := nmd_e hf
  refine k_newa_i (pc := 79) (n := 13) (N := 6) X ac_int rfl rfl (by decide) (by decide) (by decide) ⟨Nat.le_of_ble_eq_true rfl, Nat.le_of_ble_eq_true rfl⟩ (by decide +kernel) eh10 ?_
  change VK E g dC z 1 14 10 10 115 81 [(0, .ref (rz z 3))] [.ref (rz z 13), .ref (rz z 3)] h10
  refine k_puta (pc := 81) (c := 3) (t := 13) X ff_7_39 (by decide) rfl rfl rfl (by decide +kernel) (by decide +kernel) ?_
  refine k_aload_n (pc := 84) (i := 0) X (by decide +kernel) 0 rfl ?_
  refine k_bipush (pc := 85) (n0 := 12) X (by decide +kernel) bi_12 ?_
  obtain ⟨h11, eh11, hf⟩ := nmd_e hf
  refine k_newa_i (pc := 87) (n := 14) (N := 12) X ac_int rfl rfl (by decide) (by decide) (by decide) ⟨Nat.le_of_ble_eq_true rfl, Nat.le_of_ble_eq_true rfl⟩ (by decide +kernel) eh11 ?_
  change VK E g dC z 1 15 11 11 127 89 [(0, .ref (rz z 3))] [.ref (rz z 14), .ref (rz z 3)] h11
  refine k_puta (pc := 89) (c := 3) (t := 14) X ff_7_42 (by decide) rfl rfl rfl (by decide +kernel) (by decide +kernel) ?_
  refine k_aload_n (pc := 92) (i := 0) X (by decide +kernel) 0 rfl ?_
  refine k_bipush (pc := 93) (n0 := 12) X (by decide +kernel) bi_12 ?_
  obtain ⟨h12, eh12, hf⟩ := nmd_e hf
  refine k_newa_i (pc := 95) (n := 15) (N := 12) X ac_int rfl rfl (by decide) (by decide) (by decide) ⟨Nat.le_of_ble_eq_true rfl, Nat.le_of_ble_eq_true rfl⟩ (by decide +kernel) eh12 ?_
  change VK E g dC z 1 16 12 12 139 97 [(0, .ref (rz z 3))] [.ref (rz z 15), .ref (rz z 3)] h12
  refine k_puta (pc := 97) (c := 3) (t := 15) X ff_7_45 (by decide) rfl rfl rfl (by decide +kernel) (by decide +kernel) ?_
  refine k_aload_n (pc := 100) (i := 0) X (by decide +kernel) 0 rfl ?_
  refine k_bipush (pc := 101) (n0 := 12) X (by decide +kernel) bi_12 ?_
  obtain ⟨h13, eh13, hf⟩ := nmd_e hf
  refine k_newa_i (pc := 103) (n := 16) (N := 12) X ac_int rfl rfl (by decide) (by decide) (by decide) ⟨Nat.le_of_ble_eq_true rfl, Nat.le_of_ble_eq_true rfl⟩ (by decide +kernel) eh13 ?_
  change VK E g dC z 1 17 13 13 151 105 [(0, .ref (rz z 3))] [.ref (rz z 16), .ref (rz z 3)] h13
  refine k_puta (pc := 105) (c := 3) (t := 16) X ff_7_48 (by decide) rfl rfl rfl (by decide +kernel) (by decide +kernel) ?_
  refine k_aload_n (pc := 108) (i := 0) X (by decide +kernel) 0 rfl ?_
  obtain ⟨h14, eh14, hf⟩ := nmd_e hf
  refine k_new (pc := 109) (n := 17) X cls_6 cl_7_51 in_6 mi_6 rfl (by decide +kernel) (by decide +kernel) ⟨Nat.le_of_ble_eq_true rfl, Nat.le_of_ble_eq_true rfl⟩ (by decide +kernel) eh14 ?_
  change VK E g dC z 1 18 14 14 157 112 [(0, .ref (rz z 3))] [.ref (rz z 17), .ref (rz z 3)] h14
  refine k_dup (pc := 112) X (by decide +kernel) rfl ?_
  obtain ⟨h15, eh15, hf⟩ := bnd_e hf
  refine k_callIN (pc := 113) (As := []) (rest := [.ref (rz z 17), .ref (rz z 3)]) X (mk_La_init_17 eh15) ml_7_53 mj_La_init rfl ⟨Nat.le_of_ble_eq_true rfl, Nat.le_of_ble_eq_true rfl⟩ ⟨Nat.le_of_ble_eq_true rfl, Nat.le_of_ble_eq_true rfl⟩ rfl rfl (Nat.le_of_ble_eq_true rfl) (by decide +kernel) rfl ?_
  change VK E g dC z 1 22 18 18 291 116 [(0, .ref (rz z 3))] [.ref (rz z 17), .ref (rz z 3)] h15
  refine k_puta (pc := 116) (c := 3) (t := 17) X ff_7_54 (by decide) rfl rfl rfl (by decide +kernel) (by decide +kernel) ?_
  refine k_aload_n (pc := 119) (i := 0) X (by decide +kernel) 0 rfl ?_
  obtain ⟨h16, eh16, hf⟩ := bnd_e hf
  refine k_callV (pc := 120) (As := []) (rest := []) X (mt_Pl_clear okC_22_19 (inj_rz _ z) (by decide +kernel) eh16) ml_7_58 mv_Pl_clear (by decide) rfl cls_7 rfl ⟨Nat.le_of_ble_eq_true rfl, Nat.le_of_ble_eq_true rfl⟩ ⟨Nat.le_of_ble_eq_true rfl, Nat.le_of_ble_eq_true rfl⟩ rfl rfl (Nat.le_of_ble_eq_true rfl) (by decide +kernel) ?_
  change VK E g dC z 1 22 19 18 291 123 [(0, .ref (rz z 3))] [] h16
  cases hf
  exact k_vret X Y (by decide +kernel) rfl rfl rfl rfl rfl
def kf_Sc_init_22 (h : Hp) : Option Hp :=
  nmd (zc h 23) fun h1 =>
  (wI (pt dC 24 22) h1 23 (0 : Int32) (619745280 : Int32)).bind fun h2 =>
  (wI (pt dC 24 22) h2 23 (1 : Int32) (690476264 : Int32)).bind fun h3 =>
  (wI (pt dC 24 22) h3 23 (2 : Int32) (284773536 : Int32)).bind fun h4 =>
  (wI (pt dC 24 22) h4 23 (3 : Int32) (404226048 : Int32)).bind fun h5 =>
  (wI (pt dC 24 22) h5 23 (4 : Int32) (605337600 : Int32)).bind fun h6 =>
  (wI (pt dC 24 22) h6 23 (5 : Int32) (642945024 : Int32)).bind fun h7 =>
  (wI (pt dC 24 22) h7 23 (6 : Int32) (404455424 : Int32)).bind fun h8 =>
  (wI (pt dC 24 22) h8 23 (7 : Int32) (153911296 : Int32)).bind fun h9 =>
  (wI (pt dC 24 22) h9 23 (8 : Int32) (257310720 : Int32)).bind fun h10 =>
  (wI (pt dC 24 22) h10 23 (9 : Int32) (211001984 : Int32)).bind fun h11 =>
  (wI (pt dC 24 22) h11 23 (10 : Int32) (48365568 : Int32)).bind fun h12 =>
  (wI (pt dC 24 22) h12 23 (11 : Int32) (522190848 : Int32)).bind fun h13 =>
  (wI (pt dC 24 22) h13 23 (12 : Int32) (486146048 : Int32)).bind fun h14 =>
  (wI (pt dC 24 22) h14 23 (13 : Int32) (679791220 : Int32)).bind fun h15 =>
  (wI (pt dC 24 22) h15 23 (14 : Int32) (538022912 : Int32)).bind fun h16 =>
  (wI (pt dC 24 22) h16 23 (15 : Int32) (647107584 : Int32)).bind fun h17 =>
  (wI (pt dC 24 22) h17 23 (16 : Int32) (773461568 : Int32)).bind fun h18 =>
  (wI (pt dC 24 22) h18 23 (17 : Int32) (202964992 : Int32)).bind fun h19 =>
  (wI (pt dC 24 22) h19 23 (18 : Int32) (291065856 : Int32)).bind fun h20 =>
  (wI (pt dC 24 22) h20 23 (19 : Int32) (284870656 : Int32)).bind fun h21 =>
  some h21
set_option maxRecDepth 8000 in
set_option maxHeartbeats 4000000 in
theorem mk_Sc_init_22 {g : Gl} {z a v : Nat} {h h' : Hp} (hf : kf_Sc_init_22 h = some h') : MK g y_Sc_init prog_9_method_1_code 3 5 108 1 20 dC z a v 23 20 [.ref (rz z 22), .ref (rz z 1)] h 24 22 h' := by
  refine mk_intro (by decide +kernel) rfl (Nat.le_of_ble_eq_true rfl) (fun E X Y => ?_)
  change VK E g dC z 3 23 20 0 0 0 [(0, .ref (rz z 22)), (1, .ref (rz z 1))] [] h
  unfold kf_Sc_init_22 at hf
  refine k_aload_n (pc := 0) (i := 0) X (by decide +kernel) 0 rfl ?_
  refine k_obj (pc := 1) X ob_8_3 ob_i ob_c ⟨Nat.le_of_ble_eq_true rfl, Nat.le_of_ble_eq_true rfl⟩ (by decide +kernel) ?_
  refine k_aload_n (pc := 4) (i := 0) X (by decide +kernel) 0 rfl ?_
  refine k_bipush (pc := 5) (n0 := 20) X (by decide +kernel) bi_20 ?_
  obtain ⟨h1, eh1, hf⟩ := nmd_e hf
  refine k_newa_i (pc := 7) (n := 23) (N := 20) X ac_int rfl rfl (by decide) (by decide) (by decide) ⟨Nat.le_of_ble_eq_true rfl, Nat.le_of_ble_eq_true rfl⟩ (by decide +kernel) eh1 ?_
  change VK E g dC z 3 24 20 1 20 9 [(0, .ref (rz z 22)), (1, .ref (rz z 1))] [.ref (rz z 23), .ref (rz z 22)] h1
  refine k_puta (pc := 9) (c := 22) (t := 23) X ff_8_9 (by decide) rfl rfl rfl (by decide +kernel) (by decide +kernel) ?_
  refine k_aload_n (pc := 12) (i := 0) X (by decide +kernel) 0 rfl ?_
  refine k_aload_n (pc := 13) (i := 1) X (by decide +kernel) 1 rfl ?_
  refine k_puta (pc := 14) (c := 22) (t := 1) X ff_8_15 (by decide) rfl rfl rfl (by decide +kernel) (by decide +kernel) ?_
  refine k_iconst (pc := 17) (n0 := 0) X (by decide +kernel) ic_0 ?_
  refine k_istore_n (pc := 18) (i := 2) (lv' := [(2, .int (0 : Int32)), (0, .ref (rz z 22)), (1, .ref (rz z 1))]) X (by decide +kernel) (Nat.le_of_ble_eq_true rfl) rfl ?_
  refine k_iload_n (pc := 19) (i := 2) X (by decide +kernel) 0 rfl ?_
  refine k_bipush (pc := 20) (n0 := 20) X (by decide +kernel) bi_20 ?_
  refine k_icmp_ge (pc := 22) (off := 19) (tgt := 41) X (by decide +kernel) (by decide) (fun q => absurd q (by decide)) (fun _ => ?_)
  refine k_aload_n (pc := 25) (i := 0) X (by decide +kernel) 1 rfl ?_
  refine k_geta (pc := 26) (c := 22) (t := 23) X fl_8_9 (by decide) rfl rfl (by decide +kernel) (by decide +kernel) ?_
  refine k_iload_n (pc := 29) (i := 2) X (by decide +kernel) 0 rfl ?_
  refine k_iload_n (pc := 30) (i := 2) X (by decide +kernel) 0 rfl ?_
  refine k_packed (pc := 31) (x := (0 : Int32)) (y := (619745280 : Int32)) (rest := [.int (0 : Int32), .ref (rz z 23)]) X (by decide +kernel) (by decide) ⟨Nat.le_of_ble_eq_true rfl, Nat.le_of_ble_eq_true rfl⟩ ⟨Nat.le_of_ble_eq_true rfl, Nat.le_of_ble_eq_true rfl⟩ (Nat.le_of_ble_eq_true rfl) (by decide +kernel) ?_
  obtain ⟨h2, eh2, hf⟩ := bnd_e hf
  refine k_iast (pc := 34) (c := 23) X (by decide) rfl eh2 (by decide +kernel) ?_
  refine k_iinc (pc := 35) (i := 2) (n0 := 1) (y := (1 : Int32)) (lv' := [(2, .int (1 : Int32)), (0, .ref (rz z 22)), (1, .ref (rz z 1))]) X (by decide +kernel) 0 rfl (by decide) (Nat.le_of_ble_eq_true rfl) rfl ?_
  refine k_goto (pc := 38) (off := -19) (tgt := 19) X (by decide +kernel) (by decide) ?_
  refine k_iload_n (pc := 19) (i := 2) X (by decide +kernel) 0 rfl ?_
  refine k_bipush (pc := 20) (n0 := 20) X (by decide +kernel) bi_20 ?_
  refine k_icmp_ge (pc := 22) (off := 19) (tgt := 41) X (by decide +kernel) (by decide) (fun q => absurd q (by decide)) (fun _ => ?_)
  refine k_aload_n (pc := 25) (i := 0) X (by decide +kernel) 1 rfl ?_
  refine k_geta (pc := 26) (c := 22) (t := 23) X fl_8_9 (by decide) rfl rfl (by decide +kernel) (by decide +kernel) ?_
  refine k_iload_n (pc := 29) (i := 2) X (by decide +kernel) 0 rfl ?_
  refine k_iload_n (pc := 30) (i := 2) X (by decide +kernel) 0 rfl ?_
  refine k_packed (pc := 31) (x := (1 : Int32)) (y := (690476264 : Int32)) (rest := [.int (1 : Int32), .ref (rz z 23)]) X (by decide +kernel) (by decide) ⟨Nat.le_of_ble_eq_true rfl, Nat.le_of_ble_eq_true rfl⟩ ⟨Nat.le_of_ble_eq_true rfl, Nat.le_of_ble_eq_true rfl⟩ (Nat.le_of_ble_eq_true rfl) (by decide +kernel) ?_
  obtain ⟨h3, eh3, hf⟩ := bnd_e hf
  refine k_iast (pc := 34) (c := 23) X (by decide) rfl eh3 (by decide +kernel) ?_
  refine k_iinc (pc := 35) (i := 2) (n0 := 1) (y := (2 : Int32)) (lv' := [(2, .int (2 : Int32)), (0, .ref (rz z 22)), (1, .ref (rz z 1))]) X (by decide +kernel) 0 rfl (by decide) (Nat.le_of_ble_eq_true rfl) rfl ?_
  refine k_goto (pc := 38) (off := -19) (tgt := 19) X (by decide +kernel) (by decide) ?_
  refine k_iload_n (pc := 19) (i := 2) X (by decide +kernel) 0 rfl ?_
  refine k_bipush (pc := 20) (n0 := 20) X (by decide +kernel) bi_20 ?_
  refine k_icmp_ge (pc := 22) (off := 19) (tgt := 41) X (by decide +kernel) (by decide) (fun q => absurd q (by decide)) (fun _ => ?_)
  refine k_aload_n (pc := 25) (i := 0) X (by decide +kernel) 1 rfl ?_
  refine k_geta (pc := 26) (c := 22) (t := 23) X fl_8_9 (by decide) rfl rfl (by decide +kernel) (by decide +kernel) ?_
  refine k_iload_n (pc := 29) (i := 2) X (by decide +kernel) 0 rfl ?_
  refine k_iload_n (pc := 30) (i := 2) X (by decide +kernel) 0 rfl ?_
  refine k_packed (pc := 31) (x := (2 : Int32)) (y := (284773536 : Int32)) (rest := [.int (2 : Int32), .ref (rz z 23)]) X (by decide +kernel) (by decide) ⟨Nat.le_of_ble_eq_true rfl, Nat.le_of_ble_eq_true rfl⟩ ⟨Nat.le_of_ble_eq_true rfl, Nat.le_of_ble_eq_true rfl⟩ (Nat.le_of_ble_eq_true rfl) (by decide +kernel) ?_
  obtain ⟨h4, eh4, hf⟩ := bnd_e hf
  refine k_iast (pc := 34) (c := 23) X (by decide) rfl eh4 (by decide +kernel) ?_
  refine k_iinc (pc := 35) (i := 2) (n0 := 1) (y := (3 : Int32)) (lv' := [(2, .int (3 : Int32)), (0, .ref (rz z 22)), (1, .ref (rz z 1))]) X (by decide +kernel) 0 rfl (by decide) (Nat.le_of_ble_eq_true rfl) rfl ?_
  refine k_goto (pc := 38) (off := -19) (tgt := 19) X (by decide +kernel) (by decide) ?_
  refine k_iload_n (pc := 19) (i := 2) X (by decide +kernel) 0 rfl ?_
  refine k_bipush (pc := 20) (n0 := 20) X (by decide +kernel) bi_20 ?_
  refine k_icmp_ge (pc := 22) (off := 19) (tgt := 41) X (by decide +kernel) (by decide) (fun q => absurd q (by decide)) (fun _ => ?_)
  refine k_aload_n (pc := 25) (i := 0) X (by decide +kernel) 1 rfl ?_
  refine k_geta (pc := 26) (c := 22) (t := 23) X fl_8_9 (by decide) rfl rfl (by decide +kernel) (by decide +kernel) ?_
  refine k_iload_n (pc := 29) (i := 2) X (by decide +kernel) 0 rfl ?_
  refine k_iload_n (pc := 30) (i := 2) X (by decide +kernel) 0 rfl ?_
  refine k_packed (pc := 31) (x := (3 : Int32)) (y := (404226048 : Int32)) (rest := [.int (3 : Int32), .ref (rz z 23)]) X (by decide +kernel) (by decide) ⟨Nat.le_of_ble_eq_true rfl, Nat.le_of_ble_eq_true rfl⟩ ⟨Nat.le_of_ble_eq_true rfl, Nat.le_of_ble_eq_true rfl⟩ (Nat.le_of_ble_eq_true rfl) (by decide +kernel) ?_
  obtain ⟨h5, eh5, hf⟩ := bnd_e hf
  refine k_iast (pc := 34) (c := 23) X (by decide) rfl eh5 (by decide +kernel) ?_
  refine k_iinc (pc := 35) (i := 2) (n0 := 1) (y := (4 : Int32)) (lv' := [(2, .int (4 : Int32)), (0, .ref (rz z 22)), (1, .ref (rz z 1))]) X (by decide +kernel) 0 rfl (by decide) (Nat.le_of_ble_eq_true rfl) rfl ?_
  refine k_goto (pc := 38) (off := -19) (tgt := 19) X (by decide +kernel) (by decide) ?_
  refine k_iload_n (pc := 19) (i := 2) X (by decide +kernel) 0 rfl ?_
  refine k_bipush (pc := 20) (n0 := 20) X (by decide +kernel) bi_20 ?_
  refine k_icmp_ge (pc := 22) (off := 19) (tgt := 41) X (by decide +kernel) (by decide) (fun q => absurd q (by decide)) (fun _ => ?_)
  refine k_aload_n (pc := 25) (i := 0) X (by decide +kernel) 1 rfl ?_
  refine k_geta (pc := 26) (c := 22) (t := 23) X fl_8_9 (by decide) rfl rfl (by decide +kernel) (by decide +kernel) ?_
  refine k_iload_n (pc := 29) (i := 2) X (by decide +kernel) 0 rfl ?_
  refine k_iload_n (pc := 30) (i := 2) X (by decide +kernel) 0 rfl ?_
  refine k_packed (pc := 31) (x := (4 : Int32)) (y := (605337600 : Int32)) (rest := [.int (4 : Int32), .ref (rz z 23)]) X (by decide +kernel) (by decide) ⟨Nat.le_of_ble_eq_true rfl, Nat.le_of_ble_eq_true rfl⟩ ⟨Nat.le_of_ble_eq_true rfl, Nat.le_of_ble_eq_true rfl⟩ (Nat.le_of_ble_eq_true rfl) (by decide +kernel) ?_
  obtain ⟨h6, eh6, hf⟩ := bnd_e hf
  refine k_iast (pc := 34) (c := 23) X (by decide) rfl eh6 (by decide +kernel) ?_
  refine k_iinc (pc := 35) (i := 2) (n0 := 1) (y := (5 : Int32)) (lv' := [(2, .int (5 : Int32)), (0, .ref (rz z 22)), (1, .ref (rz z 1))]) X (by decide +kernel) 0 rfl (by decide) (Nat.le_of_ble_eq_true rfl) rfl ?_
  refine k_goto (pc := 38) (off := -19) (tgt := 19) X (by decide +kernel) (by decide) ?_
  refine k_iload_n (pc := 19) (i := 2) X (by decide +kernel) 0 rfl ?_
  refine k_bipush (pc := 20) (n0 := 20) X (by decide +kernel) bi_20 ?_
  refine k_icmp_ge (pc := 22) (off := 19) (tgt := 41) X (by decide +kernel) (by decide) (fun q => absurd q (by decide)) (fun _ => ?_)
  refine k_aload_n (pc := 25) (i := 0) X (by decide +kernel) 1 rfl ?_
  refine k_geta (pc := 26) (c := 22) (t := 23) X fl_8_9 (by decide) rfl rfl (by decide +kernel) (by decide +kernel) ?_
  refine k_iload_n (pc := 29) (i := 2) X (by decide +kernel) 0 rfl ?_
  refine k_iload_n (pc := 30) (i := 2) X (by decide +kernel) 0 rfl ?_
  refine k_packed (pc := 31) (x := (5 : Int32)) (y := (642945024 : Int32)) (rest := [.int (5 : Int32), .ref (rz z 23)]) X (by decide +kernel) (by decide) ⟨Nat.le_of_ble_eq_true rfl, Nat.le_of_ble_eq_true rfl⟩ ⟨Nat.le_of_ble_eq_true rfl, Nat.le_of_ble_eq_true rfl⟩ (Nat.le_of_ble_eq_true rfl) (by decide +kernel) ?_
  obtain ⟨h7, eh7, hf⟩ := bnd_e hf
  refine k_iast (pc := 34) (c := 23) X (by decide) rfl eh7 (by decide +kernel) ?_
  refine k_iinc (pc := 35) (i := 2) (n0 := 1) (y := (6 : Int32)) (lv' := [(2, .int (6 : Int32)), (0, .ref (rz z 22)), (1, .ref (rz z 1))]) X (by decide +kernel) 0 rfl (by decide) (Nat.le_of_ble_eq_true rfl) rfl ?_
  refine k_goto (pc := 38) (off := -19) (tgt := 19) X (by decide +kernel) (by decide) ?_
  refine k_iload_n (pc := 19) (i := 2) X (by decide +kernel) 0 rfl ?_
  refine k_bipush (pc := 20) (n0 := 20) X (by decide +kernel) bi_20 ?_
  refine k_icmp_ge (pc := 22) (off := 19) (tgt := 41) X (by decide +kernel) (by decide) (fun q => absurd q (by decide)) (fun _ => ?_)
  refine k_aload_n (pc := 25) (i := 0) X (by decide +kernel) 1 rfl ?_
  refine k_geta (pc := 26) (c := 22) (t := 23) X fl_8_9 (by decide) rfl rfl (by decide +kernel) (by decide +kernel) ?_
  refine k_iload_n (pc := 29) (i := 2) X (by decide +kernel) 0 rfl ?_
  refine k_iload_n (pc := 30) (i := 2) X (by decide +kernel) 0 rfl ?_
  refine k_packed (pc := 31) (x := (6 : Int32)) (y := (404455424 : Int32)) (rest := [.int (6 : Int32), .ref (rz z 23)]) X (by decide +kernel) (by decide) ⟨Nat.le_of_ble_eq_true rfl, Nat.le_of_ble_eq_true rfl⟩ ⟨Nat.le_of_ble_eq_true rfl, Nat.le_of_ble_eq_true rfl⟩ (Nat.le_of_ble_eq_true rfl) (by decide +kernel) ?_
  obtain ⟨h8, eh8, hf⟩ := bnd_e hf
  refine k_iast (pc := 34) (c := 23) X (by decide) rfl eh8 (by decide +kernel) ?_
  refine k_iinc (pc := 35) (i := 2) (n0 := 1) (y := (7 : Int32)) (lv' := [(2, .int (7 : Int32)), (0, .ref (rz z 22)), (1, .ref (rz z 1))]) X (by decide +kernel) 0 rfl (by decide) (Nat.le_of_ble_eq_true rfl) rfl ?_
  refine k_goto (pc := 38) (off := -19) (tgt := 19) X (by decide +kernel) (by decide) ?_
  refine k_iload_n (pc := 19) (i := 2) X (by decide +kernel) 0 rfl ?_
  refine k_bipush (pc := 20) (n0 := 20) X (by decide +kernel) bi_20 ?_
  refine k_icmp_ge (pc := 22) (off := 19) (tgt := 41) X (by decide +kernel) (by decide) (fun q => absurd q (by decide)) (fun _ => ?_)
  refine k_aload_n (pc := 25) (i := 0) X (by decide +kernel) 1 rfl ?_
  refine k_geta (pc := 26) (c := 22) (t := 23) X fl_8_9 (by decide) rfl rfl (by decide +kernel) (by decide +kernel) ?_
  refine k_iload_n (pc := 29) (i := 2) X (by decide +kernel) 0 rfl ?_
  refine k_iload_n (pc := 30) (i := 2) X (by decide +kernel) 0 rfl ?_
  refine k_packed (pc := 31) (x := (7 : Int32)) (y := (153911296 : Int32)) (rest := [.int (7 : Int32), .ref (rz z 23)]) X (by decide +kernel) (by decide) ⟨Nat.le_of_ble_eq_true rfl, Nat.le_of_ble_eq_true rfl⟩ ⟨Nat.le_of_ble_eq_true rfl, Nat.le_of_ble_eq_true rfl⟩ (Nat.le_of_ble_eq_true rfl) (by decide +kernel) ?_
  obtain ⟨h9, eh9, hf⟩ := bnd_e hf
  refine k_iast (pc := 34) (c := 23) X (by decide) rfl eh9 (by decide +kernel) ?_
  refine k_iinc (pc := 35) (i := 2) (n0 := 1) (y := (8 : Int32)) (lv' := [(2, .int (8 : Int32)), (0, .ref (rz z 22)), (1, .ref (rz z 1))]) X (by decide +kernel) 0 rfl (by decide) (Nat.le_of_ble_eq_true rfl) rfl ?_
  refine k_goto (pc := 38) (off := -19) (tgt := 19) X (by decide +kernel) (by decide) ?_
  refine k_iload_n (pc := 19) (i := 2) X (by decide +kernel) 0 rfl ?_
  refine k_bipush (pc := 20) (n0 := 20) X (by decide +kernel) bi_20 ?_
  refine k_icmp_ge (pc := 22) (off := 19) (tgt := 41) X (by decide +kernel) (by decide) (fun q => absurd q (by decide)) (fun _ => ?_)
  refine k_aload_n (pc := 25) (i := 0) X (by decide +kernel) 1 rfl ?_
  refine k_geta (pc := 26) (c := 22) (t := 23) X fl_8_9 (by decide) rfl rfl (by decide +kernel) (by decide +kernel) ?_
  refine k_iload_n (pc := 29) (i := 2) X (by decide +kernel) 0 rfl ?_
  refine k_iload_n (pc := 30) (i := 2) X (by decide +kernel) 0 rfl ?_
  refine k_packed (pc := 31) (x := (8 : Int32)) (y := (257310720 : Int32)) (rest := [.int (8 : Int32), .ref (rz z 23)]) X (by decide +kernel) (by decide) ⟨Nat.le_of_ble_eq_true rfl, Nat.le_of_ble_eq_true rfl⟩ ⟨Nat.le_of_ble_eq_true rfl, Nat.le_of_ble_eq_true rfl⟩ (Nat.le_of_ble_eq_true rfl) (by decide +kernel) ?_
  obtain ⟨h10, eh10, hf⟩ := bnd_e hf
  refine k_iast (pc := 34) (c := 23) X (by decide) rfl eh10 (by decide +kernel) ?_
  refine k_iinc (pc := 35) (i := 2) (n0 := 1) (y := (9 : Int32)) (lv' := [(2, .int (9 : Int32)), (0, .ref (rz z 22)), (1, .ref (rz z 1))]) X (by decide +kernel) 0 rfl (by decide) (Nat.le_of_ble_eq_true rfl) rfl ?_
  refine k_goto (pc := 38) (off := -19) (tgt := 19) X (by decide +kernel) (by decide) ?_
  refine k_iload_n (pc := 19) (i := 2) X (by decide +kernel) 0 rfl ?_
  refine k_bipush (pc := 20) (n0 := 20) X (by decide +kernel) bi_20 ?_
  refine k_icmp_ge (pc := 22) (off := 19) (tgt := 41) X (by decide +kernel) (by decide) (fun q => absurd q (by decide)) (fun _ => ?_)
  refine k_aload_n (pc := 25) (i := 0) X (by decide +kernel) 1 rfl ?_
  refine k_geta (pc := 26) (c := 22) (t := 23) X fl_8_9 (by decide) rfl rfl (by decide +kernel) (by decide +kernel) ?_
  refine k_iload_n (pc := 29) (i := 2) X (by decide +kernel) 0 rfl ?_
  refine k_iload_n (pc := 30) (i := 2) X (by decide +kernel) 0 rfl ?_
  refine k_packed (pc := 31) (x := (9 : Int32)) (y := (211001984 : Int32)) (rest := [.int (9 : Int32), .ref (rz z 23)]) X (by decide +kernel) (by decide) ⟨Nat.le_of_ble_eq_true rfl, Nat.le_of_ble_eq_true rfl⟩ ⟨Nat.le_of_ble_eq_true rfl, Nat.le_of_ble_eq_true rfl⟩ (Nat.le_of_ble_eq_true rfl) (by decide +kernel) ?_
  obtain ⟨h11, eh11, hf⟩ := bnd_e hf
  refine k_iast (pc := 34) (c := 23) X (by decide) rfl eh11 (by decide +kernel) ?_
  refine k_iinc (pc := 35) (i := 2) (n0 := 1) (y := (10 : Int32)) (lv' := [(2, .int (10 : Int32)), (0, .ref (rz z 22)), (1, .ref (rz z 1))]) X (by decide +kernel) 0 rfl (by decide) (Nat.le_of_ble_eq_true rfl) rfl ?_
  refine k_goto (pc := 38) (off := -19) (tgt := 19) X (by decide +kernel) (by decide) ?_
  refine k_iload_n (pc := 19) (i := 2) X (by decide +kernel) 0 rfl ?_
  refine k_bipush (pc := 20) (n0 := 20) X (by decide +kernel) bi_20 ?_
  refine k_icmp_ge (pc := 22) (off := 19) (tgt := 41) X (by decide +kernel) (by decide) (fun q => absurd q (by decide)) (fun _ => ?_)
  refine k_aload_n (pc := 25) (i := 0) X (by decide +kernel) 1 rfl ?_
  refine k_geta (pc := 26) (c := 22) (t := 23) X fl_8_9 (by decide) rfl rfl (by decide +kernel) (by decide +kernel) ?_
  refine k_iload_n (pc := 29) (i := 2) X (by decide +kernel) 0 rfl ?_
  refine k_iload_n (pc := 30) (i := 2) X (by decide +kernel) 0 rfl ?_
  refine k_packed (pc := 31) (x := (10 : Int32)) (y := (48365568 : Int32)) (rest := [.int (10 : Int32), .ref (rz z 23)]) X (by decide +kernel) (by decide) ⟨Nat.le_of_ble_eq_true rfl, Nat.le_of_ble_eq_true rfl⟩ ⟨Nat.le_of_ble_eq_true rfl, Nat.le_of_ble_eq_true rfl⟩ (Nat.le_of_ble_eq_true rfl) (by decide +kernel) ?_
  obtain ⟨h12, eh12, hf⟩ := bnd_e hf
  refine k_iast (pc := 34) (c := 23) X (by decide) rfl eh12 (by decide +kernel) ?_
  refine k_iinc (pc := 35) (i := 2) (n0 := 1) (y := (11 : Int32)) (lv' := [(2, .int (11 : Int32)), (0, .ref (rz z 22)), (1, .ref (rz z 1))]) X (by decide +kernel) 0 rfl (by decide) (Nat.le_of_ble_eq_true rfl) rfl ?_
  refine k_goto (pc := 38) (off := -19) (tgt := 19) X (by decide +kernel) (by decide) ?_
  refine k_iload_n (pc := 19) (i := 2) X (by decide +kernel) 0 rfl ?_
  refine k_bipush (pc := 20) (n0 := 20) X (by decide +kernel) bi_20 ?_
  refine k_icmp_ge (pc := 22) (off := 19) (tgt := 41) X (by decide +kernel) (by decide) (fun q => absurd q (by decide)) (fun _ => ?_)
  refine k_aload_n (pc := 25) (i := 0) X (by decide +kernel) 1 rfl ?_
  refine k_geta (pc := 26) (c := 22) (t := 23) X fl_8_9 (by decide) rfl rfl (by decide +kernel) (by decide +kernel) ?_
  refine k_iload_n (pc := 29) (i := 2) X (by decide +kernel) 0 rfl ?_
  refine k_iload_n (pc := 30) (i := 2) X (by decide +kernel) 0 rfl ?_
  refine k_packed (pc := 31) (x := (11 : Int32)) (y := (522190848 : Int32)) (rest := [.int (11 : Int32), .ref (rz z 23)]) X (by decide +kernel) (by decide) ⟨Nat.le_of_ble_eq_true rfl, Nat.le_of_ble_eq_true rfl⟩ ⟨Nat.le_of_ble_eq_true rfl, Nat.le_of_ble_eq_true rfl⟩ (Nat.le_of_ble_eq_true rfl) (by decide +kernel) ?_
  obtain ⟨h13, eh13, hf⟩ := bnd_e hf
  refine k_iast (pc := 34) (c := 23) X (by decide) rfl eh13 (by decide +kernel) ?_
  refine k_iinc (pc := 35) (i := 2) (n0 := 1) (y := (12 : Int32)) (lv' := [(2, .int (12 : Int32)), (0, .ref (rz z 22)), (1, .ref (rz z 1))]) X (by decide +kernel) 0 rfl (by decide) (Nat.le_of_ble_eq_true rfl) rfl ?_
  refine k_goto (pc := 38) (off := -19) (tgt := 19) X (by decide +kernel) (by decide) ?_
  refine k_iload_n (pc := 19) (i := 2) X (by decide +kernel) 0 rfl ?_
  refine k_bipush (pc := 20) (n0 := 20) X (by decide +kernel) bi_20 ?_
  refine k_icmp_ge (pc := 22) (off := 19) (tgt := 41) X (by decide +kernel) (by decide) (fun q => absurd q (by decide)) (fun _ => ?_)
  refine k_aload_n (pc := 25) (i := 0) X (by decide +kernel) 1 rfl ?_
  refine k_geta (pc := 26) (c := 22) (t := 23) X fl_8_9 (by decide) rfl rfl (by decide +kernel) (by decide +kernel) ?_
  refine k_iload_n (pc := 29) (i := 2) X (by decide +kernel) 0 rfl ?_
  refine k_iload_n (pc := 30) (i := 2) X (by decide +kernel) 0 rfl ?_
  refine k_packed (pc := 31) (x := (12 : Int32)) (y := (486146048 : Int32)) (rest := [.int (12 : Int32), .ref (rz z 23)]) X (by decide +kernel) (by decide) ⟨Nat.le_of_ble_eq_true rfl, Nat.le_of_ble_eq_true rfl⟩ ⟨Nat.le_of_ble_eq_true rfl, Nat.le_of_ble_eq_true rfl⟩ (Nat.le_of_ble_eq_true rfl) (by decide +kernel) ?_
  obtain ⟨h14, eh14, hf⟩ := bnd_e hf
  refine k_iast (pc := 34) (c := 23) X (by decide) rfl eh14 (by decide +kernel) ?_
  refine k_iinc (pc := 35) (i := 2) (n0 := 1) (y := (13 : Int32)) (lv' := [(2, .int (13 : Int32)), (0, .ref (rz z 22)), (1, .ref (rz z 1))]) X (by decide +kernel) 0 rfl (by decide) (Nat.le_of_ble_eq_true rfl) rfl ?_
  refine k_goto (pc := 38) (off := -19) (tgt := 19) X (by decide +kernel) (by decide) ?_
  refine k_iload_n (pc := 19) (i := 2) X (by decide +kernel) 0 rfl ?_
  refine k_bipush (pc := 20) (n0 := 20) X (by decide +kernel) bi_20 ?_
  refine k_icmp_ge (pc := 22) (off := 19) (tgt := 41) X (by decide +kernel) (by decide) (fun q => absurd q (by decide)) (fun _ => ?_)
  refine k_aload_n (pc := 25) (i := 0) X (by decide +kernel) 1 rfl ?_
  refine k_geta (pc := 26) (c := 22) (t := 23) X fl_8_9 (by decide) rfl rfl (by decide +kernel) (by decide +kernel) ?_
  refine k_iload_n (pc := 29) (i := 2) X (by decide +kernel) 0 rfl ?_
  refine k_iload_n (pc := 30) (i := 2) X (by decide +kernel) 0 rfl ?_
  refine k_packed (pc := 31) (x := (13 : Int32)) (y := (679791220 : Int32)) (rest := [.int (13 : Int32), .ref (rz z 23)]) X (by decide +kernel) (by decide) ⟨Nat.le_of_ble_eq_true rfl, Nat.le_of_ble_eq_true rfl⟩ ⟨Nat.le_of_ble_eq_true rfl, Nat.le_of_ble_eq_true rfl⟩ (Nat.le_of_ble_eq_true rfl) (by decide +kernel) ?_
  obtain ⟨h15, eh15, hf⟩ := bnd_e hf
  refine k_iast (pc := 34) (c := 23) X (by decide) rfl eh15 (by decide +kernel) ?_
  refine k_iinc (pc := 35) (i := 2) (n0 := 1) (y := (14 : Int32)) (lv' := [(2, .int (14 : Int32)), (0, .ref (rz z 22)), (1, .ref (rz z 1))]) X (by decide +kernel) 0 rfl (by decide) (Nat.le_of_ble_eq_true rfl) rfl ?_
  refine k_goto (pc := 38) (off := -19) (tgt := 19) X (by decide +kernel) (by decide) ?_
  refine k_iload_n (pc := 19) (i := 2) X (by decide +kernel) 0 rfl ?_
  refine k_bipush (pc := 20) (n0 := 20) X (by decide +kernel) bi_20 ?_
  refine k_icmp_ge (pc := 22) (off := 19) (tgt := 41) X (by decide +kernel) (by decide) (fun q => absurd q (by decide)) (fun _ => ?_)
  refine k_aload_n (pc := 25) (i := 0) X (by decide +kernel) 1 rfl ?_
  refine k_geta (pc := 26) (c := 22) (t := 23) X fl_8_9 (by decide) rfl rfl (by decide +kernel) (by decide +kernel) ?_
  refine k_iload_n (pc := 29) (i := 2) X (by decide +kernel) 0 rfl ?_
  refine k_iload_n (pc := 30) (i := 2) X (by decide +kernel) 0 rfl ?_
  refine k_packed (pc := 31) (x := (14 : Int32)) (y := (538022912 : Int32)) (rest := [.int (14 : Int32), .ref (rz z 23)]) X (by decide +kernel) (by decide) ⟨Nat.le_of_ble_eq_true rfl, Nat.le_of_ble_eq_true rfl⟩ ⟨Nat.le_of_ble_eq_true rfl, Nat.le_of_ble_eq_true rfl⟩ (Nat.le_of_ble_eq_true rfl) (by decide +kernel) ?_
  obtain ⟨h16, eh16, hf⟩ := bnd_e hf
  refine k_iast (pc := 34) (c := 23) X (by decide) rfl eh16 (by decide +kernel) ?_
  refine k_iinc (pc := 35) (i := 2) (n0 := 1) (y := (15 : Int32)) (lv' := [(2, .int (15 : Int32)), (0, .ref (rz z 22)), (1, .ref (rz z 1))]) X (by decide +kernel) 0 rfl (by decide) (Nat.le_of_ble_eq_true rfl) rfl ?_
  refine k_goto (pc := 38) (off := -19) (tgt := 19) X (by decide +kernel) (by decide) ?_
  refine k_iload_n (pc := 19) (i := 2) X (by decide +kernel) 0 rfl ?_
  refine k_bipush (pc := 20) (n0 := 20) X (by decide +kernel) bi_20 ?_
  refine k_icmp_ge (pc := 22) (off := 19) (tgt := 41) X (by decide +kernel) (by decide) (fun q => absurd q (by decide)) (fun _ => ?_)
  refine k_aload_n (pc := 25) (i := 0) X (by decide +kernel) 1 rfl ?_
  refine k_geta (pc := 26) (c := 22) (t := 23) X fl_8_9 (by decide) rfl rfl (by decide +kernel) (by decide +kernel) ?_
  refine k_iload_n (pc := 29) (i := 2) X (by decide +kernel) 0 rfl ?_
  refine k_iload_n (pc := 30) (i := 2) X (by decide +kernel) 0 rfl ?_
  refine k_packed (pc := 31) (x := (15 : Int32)) (y := (647107584 : Int32)) (rest := [.int (15 : Int32), .ref (rz z 23)]) X (by decide +kernel) (by decide) ⟨Nat.le_of_ble_eq_true rfl, Nat.le_of_ble_eq_true rfl⟩ ⟨Nat.le_of_ble_eq_true rfl, Nat.le_of_ble_eq_true rfl⟩ (Nat.le_of_ble_eq_true rfl) (by decide +kernel) ?_
  obtain ⟨h17, eh17, hf⟩ := bnd_e hf
  refine k_iast (pc := 34) (c := 23) X (by decide) rfl eh17 (by decide +kernel) ?_
  refine k_iinc (pc := 35) (i := 2) (n0 := 1) (y := (16 : Int32)) (lv' := [(2, .int (16 : Int32)), (0, .ref (rz z 22)), (1, .ref (rz z 1))]) X (by decide +kernel) 0 rfl (by decide) (Nat.le_of_ble_eq_true rfl) rfl ?_
  refine k_goto (pc := 38) (off := -19) (tgt := 19) X (by decide +kernel) (by decide) ?_
  refine k_iload_n (pc := 19) (i := 2) X (by decide +kernel) 0 rfl ?_
  refine k_bipush (pc := 20) (n0 := 20) X (by decide +kernel) bi_20 ?_
  refine k_icmp_ge (pc := 22) (off := 19) (tgt := 41) X (by decide +kernel) (by decide) (fun q => absurd q (by decide)) (fun _ => ?_)
  refine k_aload_n (pc := 25) (i := 0) X (by decide +kernel) 1 rfl ?_
  refine k_geta (pc := 26) (c := 22) (t := 23) X fl_8_9 (by decide) rfl rfl (by decide +kernel) (by decide +kernel) ?_
  refine k_iload_n (pc := 29) (i := 2) X (by decide +kernel) 0 rfl ?_
  refine k_iload_n (pc := 30) (i := 2) X (by decide +kernel) 0 rfl ?_
  refine k_packed (pc := 31) (x := (16 : Int32)) (y := (773461568 : Int32)) (rest := [.int (16 : Int32), .ref (rz z 23)]) X (by decide +kernel) (by decide) ⟨Nat.le_of_ble_eq_true rfl, Nat.le_of_ble_eq_true rfl⟩ ⟨Nat.le_of_ble_eq_true rfl, Nat.le_of_ble_eq_true rfl⟩ (Nat.le_of_ble_eq_true rfl) (by decide +kernel) ?_
  obtain ⟨h18, eh18, hf⟩ := bnd_e hf
  refine k_iast (pc := 34) (c := 23) X (by decide) rfl eh18 (by decide +kernel) ?_
  refine k_iinc (pc := 35) (i := 2) (n0 := 1) (y := (17 : Int32)) (lv' := [(2, .int (17 : Int32)), (0, .ref (rz z 22)), (1, .ref (rz z 1))]) X (by decide +kernel) 0 rfl (by decide) (Nat.le_of_ble_eq_true rfl) rfl ?_
  refine k_goto (pc := 38) (off := -19) (tgt := 19) X (by decide +kernel) (by decide) ?_
  refine k_iload_n (pc := 19) (i := 2) X (by decide +kernel) 0 rfl ?_
  refine k_bipush (pc := 20) (n0 := 20) X (by decide +kernel) bi_20 ?_
  refine k_icmp_ge (pc := 22) (off := 19) (tgt := 41) X (by decide +kernel) (by decide) (fun q => absurd q (by decide)) (fun _ => ?_)
  refine k_aload_n (pc := 25) (i := 0) X (by decide +kernel) 1 rfl ?_
  refine k_geta (pc := 26) (c := 22) (t := 23) X fl_8_9 (by decide) rfl rfl (by decide +kernel) (by decide +kernel) ?_
  refine k_iload_n (pc := 29) (i := 2) X (by decide +kernel) 0 rfl ?_
  refine k_iload_n (pc := 30) (i := 2) X (by decide +kernel) 0 rfl ?_
  refine k_packed (pc := 31) (x := (17 : Int32)) (y := (202964992 : Int32)) (rest := [.int (17 : Int32), .ref (rz z 23)]) X (by decide +kernel) (by decide) ⟨Nat.le_of_ble_eq_true rfl, Nat.le_of_ble_eq_true rfl⟩ ⟨Nat.le_of_ble_eq_true rfl, Nat.le_of_ble_eq_true rfl⟩ (Nat.le_of_ble_eq_true rfl) (by decide +kernel) ?_
  obtain ⟨h19, eh19, hf⟩ := bnd_e hf
  refine k_iast (pc := 34) (c := 23) X (by decide) rfl eh19 (by decide +kernel) ?_
  refine k_iinc (pc := 35) (i := 2) (n0 := 1) (y := (18 : Int32)) (lv' := [(2, .int (18 : Int32)), (0, .ref (rz z 22)), (1, .ref (rz z 1))]) X (by decide +kernel) 0 rfl (by decide) (Nat.le_of_ble_eq_true rfl) rfl ?_
  refine k_goto (pc := 38) (off := -19) (tgt := 19) X (by decide +kernel) (by decide) ?_
  refine k_iload_n (pc := 19) (i := 2) X (by decide +kernel) 0 rfl ?_
  refine k_bipush (pc := 20) (n0 := 20) X (by decide +kernel) bi_20 ?_
  refine k_icmp_ge (pc := 22) (off := 19) (tgt := 41) X (by decide +kernel) (by decide) (fun q => absurd q (by decide)) (fun _ => ?_)
  refine k_aload_n (pc := 25) (i := 0) X (by decide +kernel) 1 rfl ?_
  refine k_geta (pc := 26) (c := 22) (t := 23) X fl_8_9 (by decide) rfl rfl (by decide +kernel) (by decide +kernel) ?_
  refine k_iload_n (pc := 29) (i := 2) X (by decide +kernel) 0 rfl ?_
  refine k_iload_n (pc := 30) (i := 2) X (by decide +kernel) 0 rfl ?_
  refine k_packed (pc := 31) (x := (18 : Int32)) (y := (291065856 : Int32)) (rest := [.int (18 : Int32), .ref (rz z 23)]) X (by decide +kernel) (by decide) ⟨Nat.le_of_ble_eq_true rfl, Nat.le_of_ble_eq_true rfl⟩ ⟨Nat.le_of_ble_eq_true rfl, Nat.le_of_ble_eq_true rfl⟩ (Nat.le_of_ble_eq_true rfl) (by decide +kernel) ?_
  obtain ⟨h20, eh20, hf⟩ := bnd_e hf
  refine k_iast (pc := 34) (c := 23) X (by decide) rfl eh20 (by decide +kernel) ?_
  refine k_iinc (pc := 35) (i := 2) (n0 := 1) (y := (19 : Int32)) (lv' := [(2, .int (19 : Int32)), (0, .ref (rz z 22)), (1, .ref (rz z 1))]) X (by decide +kernel) 0 rfl (by decide) (Nat.le_of_ble_eq_true rfl) rfl ?_
  refine k_goto (pc := 38) (off := -19) (tgt := 19) X (by decide +kernel) (by decide) ?_
  refine k_iload_n (pc := 19) (i := 2) X (by decide +kernel) 0 rfl ?_
  refine k_bipush (pc := 20) (n0 := 20) X (by decide +kernel) bi_20 ?_
  refine k_icmp_ge (pc := 22) (off := 19) (tgt := 41) X (by decide +kernel) (by decide) (fun q => absurd q (by decide)) (fun _ => ?_)
  refine k_aload_n (pc := 25) (i := 0) X (by decide +kernel) 1 rfl ?_
  refine k_geta (pc := 26) (c := 22) (t := 23) X fl_8_9 (by decide) rfl rfl (by decide +kernel) (by decide +kernel) ?_
  refine k_iload_n (pc := 29) (i := 2) X (by decide +kernel) 0 rfl ?_
  refine k_iload_n (pc := 30) (i := 2) X (by decide +kernel) 0 rfl ?_
  refine k_packed (pc := 31) (x := (19 : Int32)) (y := (284870656 : Int32)) (rest := [.int (19 : Int32), .ref (rz z 23)]) X (by decide +kernel) (by decide) ⟨Nat.le_of_ble_eq_true rfl, Nat.le_of_ble_eq_true rfl⟩ ⟨Nat.le_of_ble_eq_true rfl, Nat.le_of_ble_eq_true rfl⟩ (Nat.le_of_ble_eq_true rfl) (by decide +kernel) ?_
  obtain ⟨h21, eh21, hf⟩ := bnd_e hf
  refine k_iast (pc := 34) (c := 23) X (by decide) rfl eh21 (by decide +kernel) ?_
  refine k_iinc (pc := 35) (i := 2) (n0 := 1) (y := (20 : Int32)) (lv' := [(2, .int (20 : Int32)), (0, .ref (rz z 22)), (1, .ref (rz z 1))]) X (by decide +kernel) 0 rfl (by decide) (Nat.le_of_ble_eq_true rfl) rfl ?_
  refine k_goto (pc := 38) (off := -19) (tgt := 19) X (by decide +kernel) (by decide) ?_
  refine k_iload_n (pc := 19) (i := 2) X (by decide +kernel) 0 rfl ?_
  refine k_bipush (pc := 20) (n0 := 20) X (by decide +kernel) bi_20 ?_
  refine k_icmp_ge (pc := 22) (off := 19) (tgt := 41) X (by decide +kernel) (by decide) (fun _ => ?_) (fun q => absurd (by decide) q)
  cases hf
  exact k_vret X Y (by decide +kernel) rfl rfl rfl rfl rfl
def kf_Lr_init_24 (h : Hp) : Option Hp :=
  nmd (zc h 25) fun h1 =>
  some h1
set_option maxRecDepth 8000 in
set_option maxHeartbeats 4000000 in
theorem mk_Lr_init_24 {g : Gl} {z a v : Nat} {h h' : Hp} (hf : kf_Lr_init_24 h = some h') : MK g y_Lr_init prog_6_method_1_code 3 1 12 1 72 dC z a v 25 23 [.ref (rz z 24), .ref (rz z 22), .ref (rz z 17)] h 26 26 h' := by
  refine mk_intro (by decide +kernel) rfl (Nat.le_of_ble_eq_true rfl) (fun E X Y => ?_)
  change VK E g dC z 3 25 23 0 0 0 [(0, .ref (rz z 24)), (1, .ref (rz z 22)), (2, .ref (rz z 17))] [] h
  unfold kf_Lr_init_24 at hf
  refine k_aload_n (pc := 0) (i := 0) X (by decide +kernel) 0 rfl ?_
  refine k_obj (pc := 1) X ob_5_3 ob_i ob_c ⟨Nat.le_of_ble_eq_true rfl, Nat.le_of_ble_eq_true rfl⟩ (by decide +kernel) ?_
  refine k_aload_n (pc := 4) (i := 0) X (by decide +kernel) 0 rfl ?_
  refine k_bipush (pc := 5) (n0 := 72) X (by decide +kernel) bi_72 ?_
  obtain ⟨h1, eh1, hf⟩ := nmd_e hf
  refine k_newa_i (pc := 7) (n := 25) (N := 72) X ac_int rfl rfl (by decide) (by decide) (by decide) ⟨Nat.le_of_ble_eq_true rfl, Nat.le_of_ble_eq_true rfl⟩ (by decide +kernel) eh1 ?_
  change VK E g dC z 3 26 23 1 72 9 [(0, .ref (rz z 24)), (1, .ref (rz z 22)), (2, .ref (rz z 17))] [.ref (rz z 25), .ref (rz z 24)] h1
  refine k_puta (pc := 9) (c := 24) (t := 25) X ff_5_9 (by decide) rfl rfl rfl (by decide +kernel) (by decide +kernel) ?_
  refine k_aload_n (pc := 12) (i := 0) X (by decide +kernel) 0 rfl ?_
  refine k_aload_n (pc := 13) (i := 1) X (by decide +kernel) 1 rfl ?_
  refine k_puta (pc := 14) (c := 24) (t := 22) X ff_5_15 (by decide) rfl rfl rfl (by decide +kernel) (by decide +kernel) ?_
  refine k_aload_n (pc := 17) (i := 0) X (by decide +kernel) 0 rfl ?_
  refine k_aload_n (pc := 18) (i := 2) X (by decide +kernel) 2 rfl ?_
  refine k_puta (pc := 19) (c := 24) (t := 17) X ff_5_19 (by decide) rfl rfl rfl (by decide +kernel) (by decide +kernel) ?_
  cases hf
  exact k_vret X Y (by decide +kernel) rfl rfl rfl rfl rfl
def kf_Tr_init_2 (h : Hp) : Option Hp :=
  nmd (zc h 3) fun h1 =>
  (kf_Pl_init_3 h1).bind fun h2 =>
  nmd (pI h2 2 1 (0 : Int32)) fun h3 =>
  nmd (pI h3 2 2 (-1 : Int32)) fun h4 =>
  nmd (zc h4 22) fun h5 =>
  (kf_Sc_init_22 h5).bind fun h6 =>
  nmd (zc h6 24) fun h7 =>
  (kf_Lr_init_24 h7).bind fun h8 =>
  some h8
set_option maxRecDepth 8000 in
set_option maxHeartbeats 4000000 in
theorem mk_Tr_init_2 {g : Gl} {z a v : Nat} {h h' : Hp} (hf : kf_Tr_init_2 h = some h') : MK g y_Tr_init prog_11_method_1_code 2 6 130 23 417 dC z a v 3 1 [.ref (rz z 2), .ref (rz z 1)] h 26 27 h' := by
  refine mk_intro (by decide +kernel) rfl (Nat.le_of_ble_eq_true rfl) (fun E X Y => ?_)
  change VK E g dC z 2 3 1 0 0 0 [(0, .ref (rz z 2)), (1, .ref (rz z 1))] [] h
  unfold kf_Tr_init_2 at hf
  refine k_aload_n (pc := 0) (i := 0) X (by decide +kernel) 0 rfl ?_
  refine k_obj (pc := 1) X ob_10_3 ob_i ob_c ⟨Nat.le_of_ble_eq_true rfl, Nat.le_of_ble_eq_true rfl⟩ (by decide +kernel) ?_
  refine k_aload_n (pc := 4) (i := 0) X (by decide +kernel) 0 rfl ?_
  obtain ⟨h1, eh1, hf⟩ := nmd_e hf
  refine k_new (pc := 5) (n := 3) X cls_7 cl_10_9 in_7 mi_7 rfl (by decide +kernel) (by decide +kernel) ⟨Nat.le_of_ble_eq_true rfl, Nat.le_of_ble_eq_true rfl⟩ (by decide +kernel) eh1 ?_
  change VK E g dC z 2 4 1 1 20 8 [(0, .ref (rz z 2)), (1, .ref (rz z 1))] [.ref (rz z 3), .ref (rz z 2)] h1
  refine k_dup (pc := 8) X (by decide +kernel) rfl ?_
  obtain ⟨h2, eh2, hf⟩ := bnd_e hf
  refine k_callI (pc := 9) (As := []) (rest := [.ref (rz z 3), .ref (rz z 2)]) X (mk_Pl_init_3 eh2) ml_10_11 mj_Pl_init rfl ⟨Nat.le_of_ble_eq_true rfl, Nat.le_of_ble_eq_true rfl⟩ ⟨Nat.le_of_ble_eq_true rfl, Nat.le_of_ble_eq_true rfl⟩ rfl rfl (Nat.le_of_ble_eq_true rfl) (by decide +kernel) rfl ?_
  change VK E g dC z 2 22 19 19 311 12 [(0, .ref (rz z 2)), (1, .ref (rz z 1))] [.ref (rz z 3), .ref (rz z 2)] h2
  refine k_puta (pc := 12) (c := 2) (t := 3) X ff_10_12 (by decide) rfl rfl rfl (by decide +kernel) (by decide +kernel) ?_
  refine k_aload_n (pc := 15) (i := 0) X (by decide +kernel) 0 rfl ?_
  refine k_iconst (pc := 16) (n0 := 0) X (by decide +kernel) ic_0 ?_
  obtain ⟨h3, eh3, hf⟩ := nmd_e hf
  refine k_puti (pc := 17) (c := 2) X fp_10_18 (by decide) rfl rfl (by decide +kernel) eh3 ?_
  refine k_aload_n (pc := 20) (i := 0) X (by decide +kernel) 0 rfl ?_
  refine k_iconst (pc := 21) (n0 := -1) X (by decide +kernel) ic_m1 ?_
  obtain ⟨h4, eh4, hf⟩ := nmd_e hf
  refine k_puti (pc := 22) (c := 2) X fp_10_22 (by decide) rfl rfl (by decide +kernel) eh4 ?_
  refine k_aload_n (pc := 25) (i := 0) X (by decide +kernel) 0 rfl ?_
  obtain ⟨h5, eh5, hf⟩ := nmd_e hf
  refine k_new (pc := 26) (n := 22) X cls_8 cl_10_25 in_8 mi_8 rfl (by decide +kernel) (by decide +kernel) ⟨Nat.le_of_ble_eq_true rfl, Nat.le_of_ble_eq_true rfl⟩ (by decide +kernel) eh5 ?_
  change VK E g dC z 2 23 20 20 319 29 [(0, .ref (rz z 2)), (1, .ref (rz z 1))] [.ref (rz z 22), .ref (rz z 2)] h5
  refine k_dup (pc := 29) X (by decide +kernel) rfl ?_
  refine k_aload_n (pc := 30) (i := 1) X (by decide +kernel) 1 rfl ?_
  obtain ⟨h6, eh6, hf⟩ := bnd_e hf
  refine k_callI (pc := 31) (As := [.ref (rz z 1)]) (rest := [.ref (rz z 22), .ref (rz z 2)]) X (mk_Sc_init_22 eh6) ml_10_27 mj_Sc_init rfl ⟨Nat.le_of_ble_eq_true rfl, Nat.le_of_ble_eq_true rfl⟩ ⟨Nat.le_of_ble_eq_true rfl, Nat.le_of_ble_eq_true rfl⟩ rfl rfl (Nat.le_of_ble_eq_true rfl) (by decide +kernel) rfl ?_
  change VK E g dC z 2 24 22 21 339 34 [(0, .ref (rz z 2)), (1, .ref (rz z 1))] [.ref (rz z 22), .ref (rz z 2)] h6
  refine k_puta (pc := 34) (c := 2) (t := 22) X ff_10_30 (by decide) rfl rfl rfl (by decide +kernel) (by decide +kernel) ?_
  refine k_aload_n (pc := 37) (i := 0) X (by decide +kernel) 0 rfl ?_
  obtain ⟨h7, eh7, hf⟩ := nmd_e hf
  refine k_new (pc := 38) (n := 24) X cls_5 cl_10_34 in_5 mi_5 rfl (by decide +kernel) (by decide +kernel) ⟨Nat.le_of_ble_eq_true rfl, Nat.le_of_ble_eq_true rfl⟩ (by decide +kernel) eh7 ?_
  change VK E g dC z 2 25 23 22 345 41 [(0, .ref (rz z 2)), (1, .ref (rz z 1))] [.ref (rz z 24), .ref (rz z 2)] h7
  refine k_dup (pc := 41) X (by decide +kernel) rfl ?_
  refine k_aload_n (pc := 42) (i := 0) X (by decide +kernel) 0 rfl ?_
  refine k_geta (pc := 43) (c := 2) (t := 22) X fl_10_30 (by decide) rfl rfl (by decide +kernel) (by decide +kernel) ?_
  refine k_aload_n (pc := 46) (i := 0) X (by decide +kernel) 0 rfl ?_
  refine k_geta (pc := 47) (c := 2) (t := 3) X fl_10_12 (by decide) rfl rfl (by decide +kernel) (by decide +kernel) ?_
  refine k_geta (pc := 50) (c := 3) (t := 17) X fl_10_36 (by decide) rfl rfl (by decide +kernel) (by decide +kernel) ?_
  obtain ⟨h8, eh8, hf⟩ := bnd_e hf
  refine k_callI (pc := 53) (As := [.ref (rz z 22), .ref (rz z 17)]) (rest := [.ref (rz z 24), .ref (rz z 2)]) X (mk_Lr_init_24 eh8) ml_10_40 mj_Lr_init rfl ⟨Nat.le_of_ble_eq_true rfl, Nat.le_of_ble_eq_true rfl⟩ ⟨Nat.le_of_ble_eq_true rfl, Nat.le_of_ble_eq_true rfl⟩ rfl rfl (Nat.le_of_ble_eq_true rfl) (by decide +kernel) rfl ?_
  change VK E g dC z 2 26 26 23 417 56 [(0, .ref (rz z 2)), (1, .ref (rz z 1))] [.ref (rz z 24), .ref (rz z 2)] h8
  refine k_puta (pc := 56) (c := 2) (t := 24) X ff_10_43 (by decide) rfl rfl rfl (by decide +kernel) (by decide +kernel) ?_
  cases hf
  exact k_vret X Y (by decide +kernel) rfl rfl rfl rfl rfl
def kf_La_init_40 (h : Hp) : Option Hp :=
  nmd (zc h 41) fun h1 =>
  nmd (zc h1 42) fun h2 =>
  nmd (zc h2 43) fun h3 =>
  nmd (zc h3 44) fun h4 =>
  some h4
set_option maxRecDepth 8000 in
set_option maxHeartbeats 4000000 in
theorem mk_La_init_40 {g : Gl} {z a v : Nat} {h h' : Hp} (hf : kf_La_init_40 h = some h') : MK g y_La_init prog_7_method_1_code 1 1 12 4 134 dC z a v 41 41 [.ref (rz z 40)] h 45 45 h' := by
  refine mk_intro (by decide +kernel) rfl (Nat.le_of_ble_eq_true rfl) (fun E X Y => ?_)
  change VK E g dC z 1 41 41 0 0 0 [(0, .ref (rz z 40))] [] h
  unfold kf_La_init_40 at hf
  refine k_aload_n (pc := 0) (i := 0) X (by decide +kernel) 0 rfl ?_
  refine k_obj (pc := 1) X ob_6_3 ob_i ob_c ⟨Nat.le_of_ble_eq_true rfl, Nat.le_of_ble_eq_true rfl⟩ (by decide +kernel) ?_
  refine k_aload_n (pc := 4) (i := 0) X (by decide +kernel) 0 rfl ?_
  refine k_bipush (pc := 5) (n0 := 64) X (by decide +kernel) bi_64 ?_
  obtain ⟨h1, eh1, hf⟩ := nmd_e hf
  refine k_newa_i (pc := 7) (n := 41) (N := 64) X ac_int rfl rfl (by decide) (by decide) (by decide) ⟨Nat.le_of_ble_eq_true rfl, Nat.le_of_ble_eq_true rfl⟩ (by decide +kernel) eh1 ?_
  change VK E g dC z 1 42 41 1 64 9 [(0, .ref (rz z 40))] [.ref (rz z 41), .ref (rz z 40)] h1
  refine k_puta (pc := 9) (c := 40) (t := 41) X ff_6_9 (by decide) rfl rfl rfl (by decide +kernel) (by decide +kernel) ?_
  refine k_aload_n (pc := 12) (i := 0) X (by decide +kernel) 0 rfl ?_
  refine k_iconst (pc := 13) (n0 := 3) X (by decide +kernel) ic_3 ?_
  obtain ⟨h2, eh2, hf⟩ := nmd_e hf
  refine k_newa_i (pc := 14) (n := 42) (N := 3) X ac_int rfl rfl (by decide) (by decide) (by decide) ⟨Nat.le_of_ble_eq_true rfl, Nat.le_of_ble_eq_true rfl⟩ (by decide +kernel) eh2 ?_
  change VK E g dC z 1 43 42 2 67 16 [(0, .ref (rz z 40))] [.ref (rz z 42), .ref (rz z 40)] h2
  refine k_puta (pc := 16) (c := 40) (t := 42) X ff_6_15 (by decide) rfl rfl rfl (by decide +kernel) (by decide +kernel) ?_
  refine k_aload_n (pc := 19) (i := 0) X (by decide +kernel) 0 rfl ?_
  refine k_iconst (pc := 20) (n0 := 3) X (by decide +kernel) ic_3 ?_
  obtain ⟨h3, eh3, hf⟩ := nmd_e hf
  refine k_newa_i (pc := 21) (n := 43) (N := 3) X ac_int rfl rfl (by decide) (by decide) (by decide) ⟨Nat.le_of_ble_eq_true rfl, Nat.le_of_ble_eq_true rfl⟩ (by decide +kernel) eh3 ?_
  change VK E g dC z 1 44 43 3 70 23 [(0, .ref (rz z 40))] [.ref (rz z 43), .ref (rz z 40)] h3
  refine k_puta (pc := 23) (c := 40) (t := 43) X ff_6_18 (by decide) rfl rfl rfl (by decide +kernel) (by decide +kernel) ?_
  refine k_aload_n (pc := 26) (i := 0) X (by decide +kernel) 0 rfl ?_
  refine k_bipush (pc := 27) (n0 := 64) X (by decide +kernel) bi_64 ?_
  obtain ⟨h4, eh4, hf⟩ := nmd_e hf
  refine k_newa_l (pc := 29) (n := 44) (N := 64) X ac_long rfl rfl (by decide) (by decide) (by decide) ⟨Nat.le_of_ble_eq_true rfl, Nat.le_of_ble_eq_true rfl⟩ (by decide +kernel) eh4 ?_
  change VK E g dC z 1 45 44 4 134 31 [(0, .ref (rz z 40))] [.ref (rz z 44), .ref (rz z 40)] h4
  refine k_puta (pc := 31) (c := 40) (t := 44) X ff_6_21 (by decide) rfl rfl rfl (by decide +kernel) (by decide +kernel) ?_
  cases hf
  exact k_vret X Y (by decide +kernel) rfl rfl rfl rfl rfl
def kf_Pl_init_26 (h : Hp) : Option Hp :=
  nmd (zc h 27) fun h1 =>
  nmd (zc h1 28) fun h2 =>
  nmd (zc h2 29) fun h3 =>
  nmd (zc h3 30) fun h4 =>
  nmd (zc h4 31) fun h5 =>
  nmd (zc h5 32) fun h6 =>
  nmd (zc h6 33) fun h7 =>
  nmd (zc h7 34) fun h8 =>
  nmd (zc h8 35) fun h9 =>
  nmd (zc h9 36) fun h10 =>
  nmd (zc h10 37) fun h11 =>
  nmd (zc h11 38) fun h12 =>
  nmd (zc h12 39) fun h13 =>
  nmd (zc h13 40) fun h14 =>
  (kf_La_init_40 h14).bind fun h15 =>
  (f_Pl_clear (pt dC 45 46) h15 26).bind fun h16 =>
  some h16
set_option maxRecDepth 8000 in
set_option maxHeartbeats 4000000 in
theorem mk_Pl_init_26 {g : Gl} {z a v : Nat} {h h' : Hp} (hf : kf_Pl_init_26 h = some h') : MK g y_Pl_init prog_8_method_1_code 1 3 63 18 291 dC z a v 27 28 [.ref (rz z 26)] h 45 46 h' := by
  refine mk_intro (by decide +kernel) rfl (Nat.le_of_ble_eq_true rfl) (fun E X Y => ?_)
  change VK E g dC z 1 27 28 0 0 0 [(0, .ref (rz z 26))] [] h
  unfold kf_Pl_init_26 at hf
  refine k_aload_n (pc := 0) (i := 0) X (by decide +kernel) 0 rfl ?_
  refine k_obj (pc := 1) X ob_7_3 ob_i ob_c ⟨Nat.le_of_ble_eq_true rfl, Nat.le_of_ble_eq_true rfl⟩ (by decide +kernel) ?_
  refine k_aload_n (pc := 4) (i := 0) X (by decide +kernel) 0 rfl ?_
  refine k_bipush (pc := 5) (n0 := 6) X (by decide +kernel) bi_6 ?_
  obtain ⟨h1, eh1, hf⟩ := nmd_e hf
  refine k_newa_i (pc := 7) (n := 27) (N := 6) X ac_int rfl rfl (by decide) (by decide) (by decide) ⟨Nat.le_of_ble_eq_true rfl, Nat.le_of_ble_eq_true rfl⟩ (by decide +kernel) eh1 ?_
  change VK E g dC z 1 28 28 1 6 9 [(0, .ref (rz z 26))] [.ref (rz z 27), .ref (rz z 26)] h1
  refine k_puta (pc := 9) (c := 26) (t := 27) X ff_7_9 (by decide) rfl rfl rfl (by decide +kernel) (by decide +kernel) ?_
  refine k_aload_n (pc := 12) (i := 0) X (by decide +kernel) 0 rfl ?_
  refine k_bipush (pc := 13) (n0 := 6) X (by decide +kernel) bi_6 ?_
  obtain ⟨h2, eh2, hf⟩ := nmd_e hf
  refine k_newa_i (pc := 15) (n := 28) (N := 6) X ac_int rfl rfl (by decide) (by decide) (by decide) ⟨Nat.le_of_ble_eq_true rfl, Nat.le_of_ble_eq_true rfl⟩ (by decide +kernel) eh2 ?_
  change VK E g dC z 1 29 29 2 12 17 [(0, .ref (rz z 26))] [.ref (rz z 28), .ref (rz z 26)] h2
  refine k_puta (pc := 17) (c := 26) (t := 28) X ff_7_15 (by decide) rfl rfl rfl (by decide +kernel) (by decide +kernel) ?_
  refine k_aload_n (pc := 20) (i := 0) X (by decide +kernel) 0 rfl ?_
  refine k_bipush (pc := 21) (n0 := 6) X (by decide +kernel) bi_6 ?_
  obtain ⟨h3, eh3, hf⟩ := nmd_e hf
  refine k_newa_i (pc := 23) (n := 29) (N := 6) X ac_int rfl rfl (by decide) (by decide) (by decide) ⟨Nat.le_of_ble_eq_true rfl, Nat.le_of_ble_eq_true rfl⟩ (by decide +kernel) eh3 ?_
  change VK E g dC z 1 30 30 3 18 25 [(0, .ref (rz z 26))] [.ref (rz z 29), .ref (rz z 26)] h3
  refine k_puta (pc := 25) (c := 26) (t := 29) X ff_7_18 (by decide) rfl rfl rfl (by decide +kernel) (by decide +kernel) ?_
  refine k_aload_n (pc := 28) (i := 0) X (by decide +kernel) 0 rfl ?_
  refine k_bipush (pc := 29) (n0 := 6) X (by decide +kernel) bi_6 ?_
  obtain ⟨h4, eh4, hf⟩ := nmd_e hf
  refine k_newa_i (pc := 31) (n := 30) (N := 6) X ac_int rfl rfl (by decide) (by decide) (by decide) ⟨Nat.le_of_ble_eq_true rfl, Nat.le_of_ble_eq_true rfl⟩ (by decide +kernel) eh4 ?_
  change VK E g dC z 1 31 31 4 24 33 [(0, .ref (rz z 26))] [.ref (rz z 30), .ref (rz z 26)] h4
  refine k_puta (pc := 33) (c := 26) (t := 30) X ff_7_21 (by decide) rfl rfl rfl (by decide +kernel) (by decide +kernel) ?_
  refine k_aload_n (pc := 36) (i := 0) X (by decide +kernel) 0 rfl ?_
  refine k_bipush (pc := 37) (n0 := 61) X (by decide +kernel) bi_61 ?_
  obtain ⟨h5, eh5, hf⟩ := nmd_e hf
  refine k_newa_i (pc := 39) (n := 31) (N := 61) X ac_int rfl rfl (by decide) (by decide) (by decide) ⟨Nat.le_of_ble_eq_true rfl, Nat.le_of_ble_eq_true rfl⟩ (by decide +kernel) eh5 ?_
  change VK E g dC z 1 32 32 5 85 41 [(0, .ref (rz z 26))] [.ref (rz z 31), .ref (rz z 26)] h5
  refine k_puta (pc := 41) (c := 26) (t := 31) X ff_7_24 (by decide) rfl rfl rfl (by decide +kernel) (by decide +kernel) ?_
  refine k_aload_n (pc := 44) (i := 0) X (by decide +kernel) 0 rfl ?_
  refine k_bipush (pc := 45) (n0 := 6) X (by decide +kernel) bi_6 ?_
  obtain ⟨h6, eh6, hf⟩ := nmd_e hf
  refine k_newa_i (pc := 47) (n := 32) (N := 6) X ac_int rfl rfl (by decide) (by decide) (by decide) ⟨Nat.le_of_ble_eq_true rfl, Nat.le_of_ble_eq_true rfl⟩ (by decide +kernel) eh6 ?_
  change VK E g dC z 1 33 33 6 91 49 [(0, .ref (rz z 26))] [.ref (rz z 32), .ref (rz z 26)] h6
  refine k_puta (pc := 49) (c := 26) (t := 32) X ff_7_27 (by decide) rfl rfl rfl (by decide +kernel) (by decide +kernel) ?_
  refine k_aload_n (pc := 52) (i := 0) X (by decide +kernel) 0 rfl ?_
  refine k_bipush (pc := 53) (n0 := 6) X (by decide +kernel) bi_6 ?_
  obtain ⟨h7, eh7, hf⟩ := nmd_e hf
  refine k_newa_i (pc := 55) (n := 33) (N := 6) X ac_int rfl rfl (by decide) (by decide) (by decide) ⟨Nat.le_of_ble_eq_true rfl, Nat.le_of_ble_eq_true rfl⟩ (by decide +kernel) eh7 ?_
  change VK E g dC z 1 34 34 7 97 57 [(0, .ref (rz z 26))] [.ref (rz z 33), .ref (rz z 26)] h7
  refine k_puta (pc := 57) (c := 26) (t := 33) X ff_7_30 (by decide) rfl rfl rfl (by decide +kernel) (by decide +kernel) ?_
  refine k_aload_n (pc := 60) (i := 0) X (by decide +kernel) 0 rfl ?_
  refine k_bipush (pc := 61) (n0 := 6) X (by decide +kernel) bi_6 ?_
  obtain ⟨h8, eh8, hf⟩ := nmd_e hf
  refine k_newa_i (pc := 63) (n := 34) (N := 6) X ac_int rfl rfl (by decide) (by decide) (by decide) ⟨Nat.le_of_ble_eq_true rfl, Nat.le_of_ble_eq_true rfl⟩ (by decide +kernel) eh8 ?_
  change VK E g dC z 1 35 35 8 103 65 [(0, .ref (rz z 26))] [.ref (rz z 34), .ref (rz z 26)] h8
  refine k_puta (pc := 65) (c := 26) (t := 34) X ff_7_33 (by decide) rfl rfl rfl (by decide +kernel) (by decide +kernel) ?_
  refine k_aload_n (pc := 68) (i := 0) X (by decide +kernel) 0 rfl ?_
  refine k_bipush (pc := 69) (n0 := 6) X (by decide +kernel) bi_6 ?_
  obtain ⟨h9, eh9, hf⟩ := nmd_e hf
  refine k_newa_i (pc := 71) (n := 35) (N := 6) X ac_int rfl rfl (by decide) (by decide) (by decide) ⟨Nat.le_of_ble_eq_true rfl, Nat.le_of_ble_eq_true rfl⟩ (by decide +kernel) eh9 ?_
  change VK E g dC z 1 36 36 9 109 73 [(0, .ref (rz z 26))] [.ref (rz z 35), .ref (rz z 26)] h9
  refine k_puta (pc := 73) (c := 26) (t := 35) X ff_7_36 (by decide) rfl rfl rfl (by decide +kernel) (by decide +kernel) ?_
  refine k_aload_n (pc := 76) (i := 0) X (by decide +kernel) 0 rfl ?_
  refine k_bipush (pc := 77) (n0 := 6) X (by decide +kernel) bi_6 ?_
  obtain ⟨h10, eh10, hf⟩ := nmd_e hf
  refine k_newa_i (pc := 79) (n := 36) (N := 6) X ac_int rfl rfl (by decide) (by decide) (by decide) ⟨Nat.le_of_ble_eq_true rfl, Nat.le_of_ble_eq_true rfl⟩ (by decide +kernel) eh10 ?_
  change VK E g dC z 1 37 37 10 115 81 [(0, .ref (rz z 26))] [.ref (rz z 36), .ref (rz z 26)] h10
  refine k_puta (pc := 81) (c := 26) (t := 36) X ff_7_39 (by decide) rfl rfl rfl (by decide +kernel) (by decide +kernel) ?_
  refine k_aload_n (pc := 84) (i := 0) X (by decide +kernel) 0 rfl ?_
  refine k_bipush (pc := 85) (n0 := 12) X (by decide +kernel) bi_12 ?_
  obtain ⟨h11, eh11, hf⟩ := nmd_e hf
  refine k_newa_i (pc := 87) (n := 37) (N := 12) X ac_int rfl rfl (by decide) (by decide) (by decide) ⟨Nat.le_of_ble_eq_true rfl, Nat.le_of_ble_eq_true rfl⟩ (by decide +kernel) eh11 ?_
  change VK E g dC z 1 38 38 11 127 89 [(0, .ref (rz z 26))] [.ref (rz z 37), .ref (rz z 26)] h11
  refine k_puta (pc := 89) (c := 26) (t := 37) X ff_7_42 (by decide) rfl rfl rfl (by decide +kernel) (by decide +kernel) ?_
  refine k_aload_n (pc := 92) (i := 0) X (by decide +kernel) 0 rfl ?_
  refine k_bipush (pc := 93) (n0 := 12) X (by decide +kernel) bi_12 ?_
  obtain ⟨h12, eh12, hf⟩ := nmd_e hf
  refine k_newa_i (pc := 95) (n := 38) (N := 12) X ac_int rfl rfl (by decide) (by decide) (by decide) ⟨Nat.le_of_ble_eq_true rfl, Nat.le_of_ble_eq_true rfl⟩ (by decide +kernel) eh12 ?_
  change VK E g dC z 1 39 39 12 139 97 [(0, .ref (rz z 26))] [.ref (rz z 38), .ref (rz z 26)] h12
  refine k_puta (pc := 97) (c := 26) (t := 38) X ff_7_45 (by decide) rfl rfl rfl (by decide +kernel) (by decide +kernel) ?_
  refine k_aload_n (pc := 100) (i := 0) X (by decide +kernel) 0 rfl ?_
  refine k_bipush (pc := 101) (n0 := 12) X (by decide +kernel) bi_12 ?_
  obtain ⟨h13, eh13, hf⟩ := nmd_e hf
  refine k_newa_i (pc := 103) (n := 39) (N := 12) X ac_int rfl rfl (by decide) (by decide) (by decide) ⟨Nat.le_of_ble_eq_true rfl, Nat.le_of_ble_eq_true rfl⟩ (by decide +kernel) eh13 ?_
  change VK E g dC z 1 40 40 13 151 105 [(0, .ref (rz z 26))] [.ref (rz z 39), .ref (rz z 26)] h13
  refine k_puta (pc := 105) (c := 26) (t := 39) X ff_7_48 (by decide) rfl rfl rfl (by decide +kernel) (by decide +kernel) ?_
  refine k_aload_n (pc := 108) (i := 0) X (by decide +kernel) 0 rfl ?_
  obtain ⟨h14, eh14, hf⟩ := nmd_e hf
  refine k_new (pc := 109) (n := 40) X cls_6 cl_7_51 in_6 mi_6 rfl (by decide +kernel) (by decide +kernel) ⟨Nat.le_of_ble_eq_true rfl, Nat.le_of_ble_eq_true rfl⟩ (by decide +kernel) eh14 ?_
  change VK E g dC z 1 41 41 14 157 112 [(0, .ref (rz z 26))] [.ref (rz z 40), .ref (rz z 26)] h14
  refine k_dup (pc := 112) X (by decide +kernel) rfl ?_
  obtain ⟨h15, eh15, hf⟩ := bnd_e hf
  refine k_callIN (pc := 113) (As := []) (rest := [.ref (rz z 40), .ref (rz z 26)]) X (mk_La_init_40 eh15) ml_7_53 mj_La_init rfl ⟨Nat.le_of_ble_eq_true rfl, Nat.le_of_ble_eq_true rfl⟩ ⟨Nat.le_of_ble_eq_true rfl, Nat.le_of_ble_eq_true rfl⟩ rfl rfl (Nat.le_of_ble_eq_true rfl) (by decide +kernel) rfl ?_
  change VK E g dC z 1 45 45 18 291 116 [(0, .ref (rz z 26))] [.ref (rz z 40), .ref (rz z 26)] h15
  refine k_puta (pc := 116) (c := 26) (t := 40) X ff_7_54 (by decide) rfl rfl rfl (by decide +kernel) (by decide +kernel) ?_
  refine k_aload_n (pc := 119) (i := 0) X (by decide +kernel) 0 rfl ?_
  obtain ⟨h16, eh16, hf⟩ := bnd_e hf
  refine k_callV (pc := 120) (As := []) (rest := []) X (mt_Pl_clear okC_45_46 (inj_rz _ z) (by decide +kernel) eh16) ml_7_58 mv_Pl_clear (by decide) rfl cls_7 rfl ⟨Nat.le_of_ble_eq_true rfl, Nat.le_of_ble_eq_true rfl⟩ ⟨Nat.le_of_ble_eq_true rfl, Nat.le_of_ble_eq_true rfl⟩ rfl rfl (Nat.le_of_ble_eq_true rfl) (by decide +kernel) ?_
  change VK E g dC z 1 45 46 18 291 123 [(0, .ref (rz z 26))] [] h16
  cases hf
  exact k_vret X Y (by decide +kernel) rfl rfl rfl rfl rfl
def kf_Wo_init_45 (h : Hp) : Option Hp :=
  nmd (zc h 46) fun h1 =>
  nmd (zc h1 47) fun h2 =>
  nmd (zc h2 48) fun h3 =>
  nmd (zc h3 49) fun h4 =>
  nmd (zc h4 50) fun h5 =>
  nmd (zc h5 51) fun h6 =>
  some h6
set_option maxRecDepth 8000 in
set_option maxHeartbeats 4000000 in
theorem mk_Wo_init_45 {g : Gl} {z a v : Nat} {h h' : Hp} (hf : kf_Wo_init_45 h = some h') : MK g y_Wo_init prog_12_method_1_code 1 1 12 6 36 dC z a v 46 47 [.ref (rz z 45)] h 52 53 h' := by
  refine mk_intro (by decide +kernel) rfl (Nat.le_of_ble_eq_true rfl) (fun E X Y => ?_)
  change VK E g dC z 1 46 47 0 0 0 [(0, .ref (rz z 45))] [] h
  unfold kf_Wo_init_45 at hf
  refine k_aload_n (pc := 0) (i := 0) X (by decide +kernel) 0 rfl ?_
  refine k_obj (pc := 1) X ob_11_3 ob_i ob_c ⟨Nat.le_of_ble_eq_true rfl, Nat.le_of_ble_eq_true rfl⟩ (by decide +kernel) ?_
  refine k_aload_n (pc := 4) (i := 0) X (by decide +kernel) 0 rfl ?_
  refine k_bipush (pc := 5) (n0 := 6) X (by decide +kernel) bi_6 ?_
  obtain ⟨h1, eh1, hf⟩ := nmd_e hf
  refine k_newa_i (pc := 7) (n := 46) (N := 6) X ac_int rfl rfl (by decide) (by decide) (by decide) ⟨Nat.le_of_ble_eq_true rfl, Nat.le_of_ble_eq_true rfl⟩ (by decide +kernel) eh1 ?_
  change VK E g dC z 1 47 47 1 6 9 [(0, .ref (rz z 45))] [.ref (rz z 46), .ref (rz z 45)] h1
  refine k_puta (pc := 9) (c := 45) (t := 46) X ff_11_9 (by decide) rfl rfl rfl (by decide +kernel) (by decide +kernel) ?_
  refine k_aload_n (pc := 12) (i := 0) X (by decide +kernel) 0 rfl ?_
  refine k_bipush (pc := 13) (n0 := 6) X (by decide +kernel) bi_6 ?_
  obtain ⟨h2, eh2, hf⟩ := nmd_e hf
  refine k_newa_i (pc := 15) (n := 47) (N := 6) X ac_int rfl rfl (by decide) (by decide) (by decide) ⟨Nat.le_of_ble_eq_true rfl, Nat.le_of_ble_eq_true rfl⟩ (by decide +kernel) eh2 ?_
  change VK E g dC z 1 48 48 2 12 17 [(0, .ref (rz z 45))] [.ref (rz z 47), .ref (rz z 45)] h2
  refine k_puta (pc := 17) (c := 45) (t := 47) X ff_11_15 (by decide) rfl rfl rfl (by decide +kernel) (by decide +kernel) ?_
  refine k_aload_n (pc := 20) (i := 0) X (by decide +kernel) 0 rfl ?_
  refine k_bipush (pc := 21) (n0 := 6) X (by decide +kernel) bi_6 ?_
  obtain ⟨h3, eh3, hf⟩ := nmd_e hf
  refine k_newa_i (pc := 23) (n := 48) (N := 6) X ac_int rfl rfl (by decide) (by decide) (by decide) ⟨Nat.le_of_ble_eq_true rfl, Nat.le_of_ble_eq_true rfl⟩ (by decide +kernel) eh3 ?_
  change VK E g dC z 1 49 49 3 18 25 [(0, .ref (rz z 45))] [.ref (rz z 48), .ref (rz z 45)] h3
  refine k_puta (pc := 25) (c := 45) (t := 48) X ff_11_18 (by decide) rfl rfl rfl (by decide +kernel) (by decide +kernel) ?_
  refine k_aload_n (pc := 28) (i := 0) X (by decide +kernel) 0 rfl ?_
  refine k_bipush (pc := 29) (n0 := 6) X (by decide +kernel) bi_6 ?_
  obtain ⟨h4, eh4, hf⟩ := nmd_e hf
  refine k_newa_i (pc := 31) (n := 49) (N := 6) X ac_int rfl rfl (by decide) (by decide) (by decide) ⟨Nat.le_of_ble_eq_true rfl, Nat.le_of_ble_eq_true rfl⟩ (by decide +kernel) eh4 ?_
  change VK E g dC z 1 50 50 4 24 33 [(0, .ref (rz z 45))] [.ref (rz z 49), .ref (rz z 45)] h4
  refine k_puta (pc := 33) (c := 45) (t := 49) X ff_11_21 (by decide) rfl rfl rfl (by decide +kernel) (by decide +kernel) ?_
  refine k_aload_n (pc := 36) (i := 0) X (by decide +kernel) 0 rfl ?_
  refine k_bipush (pc := 37) (n0 := 6) X (by decide +kernel) bi_6 ?_
  obtain ⟨h5, eh5, hf⟩ := nmd_e hf
  refine k_newa_i (pc := 39) (n := 50) (N := 6) X ac_int rfl rfl (by decide) (by decide) (by decide) ⟨Nat.le_of_ble_eq_true rfl, Nat.le_of_ble_eq_true rfl⟩ (by decide +kernel) eh5 ?_
  change VK E g dC z 1 51 51 5 30 41 [(0, .ref (rz z 45))] [.ref (rz z 50), .ref (rz z 45)] h5
  refine k_puta (pc := 41) (c := 45) (t := 50) X ff_11_24 (by decide) rfl rfl rfl (by decide +kernel) (by decide +kernel) ?_
  refine k_aload_n (pc := 44) (i := 0) X (by decide +kernel) 0 rfl ?_
  refine k_bipush (pc := 45) (n0 := 6) X (by decide +kernel) bi_6 ?_
  obtain ⟨h6, eh6, hf⟩ := nmd_e hf
  refine k_newa_i (pc := 47) (n := 51) (N := 6) X ac_int rfl rfl (by decide) (by decide) (by decide) ⟨Nat.le_of_ble_eq_true rfl, Nat.le_of_ble_eq_true rfl⟩ (by decide +kernel) eh6 ?_
  change VK E g dC z 1 52 52 6 36 49 [(0, .ref (rz z 45))] [.ref (rz z 51), .ref (rz z 45)] h6
  refine k_puta (pc := 49) (c := 45) (t := 51) X ff_11_27 (by decide) rfl rfl rfl (by decide +kernel) (by decide +kernel) ?_
  cases hf
  exact k_vret X Y (by decide +kernel) rfl rfl rfl rfl rfl
def kf_Wo_init_52 (h : Hp) : Option Hp :=
  nmd (zc h 53) fun h1 =>
  nmd (zc h1 54) fun h2 =>
  nmd (zc h2 55) fun h3 =>
  nmd (zc h3 56) fun h4 =>
  nmd (zc h4 57) fun h5 =>
  nmd (zc h5 58) fun h6 =>
  some h6
set_option maxRecDepth 8000 in
set_option maxHeartbeats 4000000 in
theorem mk_Wo_init_52 {g : Gl} {z a v : Nat} {h h' : Hp} (hf : kf_Wo_init_52 h = some h') : MK g y_Wo_init prog_12_method_1_code 1 1 12 6 36 dC z a v 53 54 [.ref (rz z 52)] h 59 60 h' := by
  refine mk_intro (by decide +kernel) rfl (Nat.le_of_ble_eq_true rfl) (fun E X Y => ?_)
  change VK E g dC z 1 53 54 0 0 0 [(0, .ref (rz z 52))] [] h
  unfold kf_Wo_init_52 at hf
  refine k_aload_n (pc := 0) (i := 0) X (by decide +kernel) 0 rfl ?_
  refine k_obj (pc := 1) X ob_11_3 ob_i ob_c ⟨Nat.le_of_ble_eq_true rfl, Nat.le_of_ble_eq_true rfl⟩ (by decide +kernel) ?_
  refine k_aload_n (pc := 4) (i := 0) X (by decide +kernel) 0 rfl ?_
  refine k_bipush (pc := 5) (n0 := 6) X (by decide +kernel) bi_6 ?_
  obtain ⟨h1, eh1, hf⟩ := nmd_e hf
  refine k_newa_i (pc := 7) (n := 53) (N := 6) X ac_int rfl rfl (by decide) (by decide) (by decide) ⟨Nat.le_of_ble_eq_true rfl, Nat.le_of_ble_eq_true rfl⟩ (by decide +kernel) eh1 ?_
  change VK E g dC z 1 54 54 1 6 9 [(0, .ref (rz z 52))] [.ref (rz z 53), .ref (rz z 52)] h1
  refine k_puta (pc := 9) (c := 52) (t := 53) X ff_11_9 (by decide) rfl rfl rfl (by decide +kernel) (by decide +kernel) ?_
  refine k_aload_n (pc := 12) (i := 0) X (by decide +kernel) 0 rfl ?_
  refine k_bipush (pc := 13) (n0 := 6) X (by decide +kernel) bi_6 ?_
  obtain ⟨h2, eh2, hf⟩ := nmd_e hf
  refine k_newa_i (pc := 15) (n := 54) (N := 6) X ac_int rfl rfl (by decide) (by decide) (by decide) ⟨Nat.le_of_ble_eq_true rfl, Nat.le_of_ble_eq_true rfl⟩ (by decide +kernel) eh2 ?_
  change VK E g dC z 1 55 55 2 12 17 [(0, .ref (rz z 52))] [.ref (rz z 54), .ref (rz z 52)] h2
  refine k_puta (pc := 17) (c := 52) (t := 54) X ff_11_15 (by decide) rfl rfl rfl (by decide +kernel) (by decide +kernel) ?_
  refine k_aload_n (pc := 20) (i := 0) X (by decide +kernel) 0 rfl ?_
  refine k_bipush (pc := 21) (n0 := 6) X (by decide +kernel) bi_6 ?_
  obtain ⟨h3, eh3, hf⟩ := nmd_e hf
  refine k_newa_i (pc := 23) (n := 55) (N := 6) X ac_int rfl rfl (by decide) (by decide) (by decide) ⟨Nat.le_of_ble_eq_true rfl, Nat.le_of_ble_eq_true rfl⟩ (by decide +kernel) eh3 ?_
  change VK E g dC z 1 56 56 3 18 25 [(0, .ref (rz z 52))] [.ref (rz z 55), .ref (rz z 52)] h3
  refine k_puta (pc := 25) (c := 52) (t := 55) X ff_11_18 (by decide) rfl rfl rfl (by decide +kernel) (by decide +kernel) ?_
  refine k_aload_n (pc := 28) (i := 0) X (by decide +kernel) 0 rfl ?_
  refine k_bipush (pc := 29) (n0 := 6) X (by decide +kernel) bi_6 ?_
  obtain ⟨h4, eh4, hf⟩ := nmd_e hf
  refine k_newa_i (pc := 31) (n := 56) (N := 6) X ac_int rfl rfl (by decide) (by decide) (by decide) ⟨Nat.le_of_ble_eq_true rfl, Nat.le_of_ble_eq_true rfl⟩ (by decide +kernel) eh4 ?_
  change VK E g dC z 1 57 57 4 24 33 [(0, .ref (rz z 52))] [.ref (rz z 56), .ref (rz z 52)] h4
  refine k_puta (pc := 33) (c := 52) (t := 56) X ff_11_21 (by decide) rfl rfl rfl (by decide +kernel) (by decide +kernel) ?_
  refine k_aload_n (pc := 36) (i := 0) X (by decide +kernel) 0 rfl ?_
  refine k_bipush (pc := 37) (n0 := 6) X (by decide +kernel) bi_6 ?_
  obtain ⟨h5, eh5, hf⟩ := nmd_e hf
  refine k_newa_i (pc := 39) (n := 57) (N := 6) X ac_int rfl rfl (by decide) (by decide) (by decide) ⟨Nat.le_of_ble_eq_true rfl, Nat.le_of_ble_eq_true rfl⟩ (by decide +kernel) eh5 ?_
  change VK E g dC z 1 58 58 5 30 41 [(0, .ref (rz z 52))] [.ref (rz z 57), .ref (rz z 52)] h5
  refine k_puta (pc := 41) (c := 52) (t := 57) X ff_11_24 (by decide) rfl rfl rfl (by decide +kernel) (by decide +kernel) ?_
  refine k_aload_n (pc := 44) (i := 0) X (by decide +kernel) 0 rfl ?_
  refine k_bipush (pc := 45) (n0 := 6) X (by decide +kernel) bi_6 ?_
  obtain ⟨h6, eh6, hf⟩ := nmd_e hf
  refine k_newa_i (pc := 47) (n := 58) (N := 6) X ac_int rfl rfl (by decide) (by decide) (by decide) ⟨Nat.le_of_ble_eq_true rfl, Nat.le_of_ble_eq_true rfl⟩ (by decide +kernel) eh6 ?_
  change VK E g dC z 1 59 59 6 36 49 [(0, .ref (rz z 52))] [.ref (rz z 58), .ref (rz z 52)] h6
  refine k_puta (pc := 49) (c := 52) (t := 58) X ff_11_27 (by decide) rfl rfl rfl (by decide +kernel) (by decide +kernel) ?_
  cases hf
  exact k_vret X Y (by decide +kernel) rfl rfl rfl rfl rfl
def kf_De_init_59 (h : Hp) : Option Hp :=
  nmd (pI h 59 0 (0 : Int32)) fun h1 =>
  nmd (zc h1 60) fun h2 =>
  nmd (zc h2 61) fun h3 =>
  nmd (zc h3 62) fun h4 =>
  nmd (zc h4 63) fun h5 =>
  nmd (zc h5 64) fun h6 =>
  some h6
set_option maxRecDepth 8000 in
set_option maxHeartbeats 4000000 in
theorem mk_De_init_59 {g : Gl} {z a v : Nat} {h h' : Hp} (hf : kf_De_init_59 h = some h') : MK g y_De_init prog_3_method_1_code 1 1 12 5 100 dC z a v 60 61 [.ref (rz z 59)] h 65 66 h' := by
  refine mk_intro (by decide +kernel) rfl (Nat.le_of_ble_eq_true rfl) (fun E X Y => ?_)
  change VK E g dC z 1 60 61 0 0 0 [(0, .ref (rz z 59))] [] h
  unfold kf_De_init_59 at hf
  refine k_aload_n (pc := 0) (i := 0) X (by decide +kernel) 0 rfl ?_
  refine k_obj (pc := 1) X ob_2_3 ob_i ob_c ⟨Nat.le_of_ble_eq_true rfl, Nat.le_of_ble_eq_true rfl⟩ (by decide +kernel) ?_
  refine k_aload_n (pc := 4) (i := 0) X (by decide +kernel) 0 rfl ?_
  refine k_iconst (pc := 5) (n0 := 0) X (by decide +kernel) ic_0 ?_
  obtain ⟨h1, eh1, hf⟩ := nmd_e hf
  refine k_puti (pc := 6) (c := 59) X fp_2_9 (by decide) rfl rfl (by decide +kernel) eh1 ?_
  refine k_aload_n (pc := 9) (i := 0) X (by decide +kernel) 0 rfl ?_
  refine k_bipush (pc := 10) (n0 := 20) X (by decide +kernel) bi_20 ?_
  obtain ⟨h2, eh2, hf⟩ := nmd_e hf
  refine k_newa_i (pc := 12) (n := 60) (N := 20) X ac_int rfl rfl (by decide) (by decide) (by decide) ⟨Nat.le_of_ble_eq_true rfl, Nat.le_of_ble_eq_true rfl⟩ (by decide +kernel) eh2 ?_
  change VK E g dC z 1 61 61 1 20 14 [(0, .ref (rz z 59))] [.ref (rz z 60), .ref (rz z 59)] h2
  refine k_puta (pc := 14) (c := 59) (t := 60) X ff_2_15 (by decide) rfl rfl rfl (by decide +kernel) (by decide +kernel) ?_
  refine k_aload_n (pc := 17) (i := 0) X (by decide +kernel) 0 rfl ?_
  refine k_bipush (pc := 18) (n0 := 20) X (by decide +kernel) bi_20 ?_
  obtain ⟨h3, eh3, hf⟩ := nmd_e hf
  refine k_newa_i (pc := 20) (n := 61) (N := 20) X ac_int rfl rfl (by decide) (by decide) (by decide) ⟨Nat.le_of_ble_eq_true rfl, Nat.le_of_ble_eq_true rfl⟩ (by decide +kernel) eh3 ?_
  change VK E g dC z 1 62 62 2 40 22 [(0, .ref (rz z 59))] [.ref (rz z 61), .ref (rz z 59)] h3
  refine k_puta (pc := 22) (c := 59) (t := 61) X ff_2_19 (by decide) rfl rfl rfl (by decide +kernel) (by decide +kernel) ?_
  refine k_aload_n (pc := 25) (i := 0) X (by decide +kernel) 0 rfl ?_
  refine k_bipush (pc := 26) (n0 := 20) X (by decide +kernel) bi_20 ?_
  obtain ⟨h4, eh4, hf⟩ := nmd_e hf
  refine k_newa_i (pc := 28) (n := 62) (N := 20) X ac_int rfl rfl (by decide) (by decide) (by decide) ⟨Nat.le_of_ble_eq_true rfl, Nat.le_of_ble_eq_true rfl⟩ (by decide +kernel) eh4 ?_
  change VK E g dC z 1 63 63 3 60 30 [(0, .ref (rz z 59))] [.ref (rz z 62), .ref (rz z 59)] h4
  refine k_puta (pc := 30) (c := 59) (t := 62) X ff_2_22 (by decide) rfl rfl rfl (by decide +kernel) (by decide +kernel) ?_
  refine k_aload_n (pc := 33) (i := 0) X (by decide +kernel) 0 rfl ?_
  refine k_bipush (pc := 34) (n0 := 20) X (by decide +kernel) bi_20 ?_
  obtain ⟨h5, eh5, hf⟩ := nmd_e hf
  refine k_newa_i (pc := 36) (n := 63) (N := 20) X ac_int rfl rfl (by decide) (by decide) (by decide) ⟨Nat.le_of_ble_eq_true rfl, Nat.le_of_ble_eq_true rfl⟩ (by decide +kernel) eh5 ?_
  change VK E g dC z 1 64 64 4 80 38 [(0, .ref (rz z 59))] [.ref (rz z 63), .ref (rz z 59)] h5
  refine k_puta (pc := 38) (c := 59) (t := 63) X ff_2_25 (by decide) rfl rfl rfl (by decide +kernel) (by decide +kernel) ?_
  refine k_aload_n (pc := 41) (i := 0) X (by decide +kernel) 0 rfl ?_
  refine k_bipush (pc := 42) (n0 := 20) X (by decide +kernel) bi_20 ?_
  obtain ⟨h6, eh6, hf⟩ := nmd_e hf
  refine k_newa_i (pc := 44) (n := 64) (N := 20) X ac_int rfl rfl (by decide) (by decide) (by decide) ⟨Nat.le_of_ble_eq_true rfl, Nat.le_of_ble_eq_true rfl⟩ (by decide +kernel) eh6 ?_
  change VK E g dC z 1 65 65 5 100 46 [(0, .ref (rz z 59))] [.ref (rz z 64), .ref (rz z 59)] h6
  refine k_puta (pc := 46) (c := 59) (t := 64) X ff_2_28 (by decide) rfl rfl rfl (by decide +kernel) (by decide +kernel) ?_
  cases hf
  exact k_vret X Y (by decide +kernel) rfl rfl rfl rfl rfl
def kf_Se_init_65 (h : Hp) : Option Hp :=
  nmd (pI h 65 0 (0 : Int32)) fun h1 =>
  nmd (pI h1 65 1 (-1 : Int32)) fun h2 =>
  nmd (zc h2 66) fun h3 =>
  nmd (zc h3 67) fun h4 =>
  nmd (zc h4 68) fun h5 =>
  nmd (zc h5 69) fun h6 =>
  nmd (zc h6 70) fun h7 =>
  nmd (zc h7 71) fun h8 =>
  some h8
set_option maxRecDepth 8000 in
set_option maxHeartbeats 4000000 in
theorem mk_Se_init_65 {g : Gl} {z a v : Nat} {h h' : Hp} (hf : kf_Se_init_65 h = some h') : MK g y_Se_init prog_10_method_1_code 1 1 12 6 144 dC z a v 66 67 [.ref (rz z 65)] h 72 73 h' := by
  refine mk_intro (by decide +kernel) rfl (Nat.le_of_ble_eq_true rfl) (fun E X Y => ?_)
  change VK E g dC z 1 66 67 0 0 0 [(0, .ref (rz z 65))] [] h
  unfold kf_Se_init_65 at hf
  refine k_aload_n (pc := 0) (i := 0) X (by decide +kernel) 0 rfl ?_
  refine k_obj (pc := 1) X ob_9_3 ob_i ob_c ⟨Nat.le_of_ble_eq_true rfl, Nat.le_of_ble_eq_true rfl⟩ (by decide +kernel) ?_
  refine k_aload_n (pc := 4) (i := 0) X (by decide +kernel) 0 rfl ?_
  refine k_iconst (pc := 5) (n0 := 0) X (by decide +kernel) ic_0 ?_
  obtain ⟨h1, eh1, hf⟩ := nmd_e hf
  refine k_puti (pc := 6) (c := 65) X fp_9_9 (by decide) rfl rfl (by decide +kernel) eh1 ?_
  refine k_aload_n (pc := 9) (i := 0) X (by decide +kernel) 0 rfl ?_
  refine k_iconst (pc := 10) (n0 := -1) X (by decide +kernel) ic_m1 ?_
  obtain ⟨h2, eh2, hf⟩ := nmd_e hf
  refine k_puti (pc := 11) (c := 65) X fp_9_15 (by decide) rfl rfl (by decide +kernel) eh2 ?_
  refine k_aload_n (pc := 14) (i := 0) X (by decide +kernel) 0 rfl ?_
  refine k_bipush (pc := 15) (n0 := 24) X (by decide +kernel) bi_24 ?_
  obtain ⟨h3, eh3, hf⟩ := nmd_e hf
  refine k_newa_i (pc := 17) (n := 66) (N := 24) X ac_int rfl rfl (by decide) (by decide) (by decide) ⟨Nat.le_of_ble_eq_true rfl, Nat.le_of_ble_eq_true rfl⟩ (by decide +kernel) eh3 ?_
  change VK E g dC z 1 67 67 1 24 19 [(0, .ref (rz z 65))] [.ref (rz z 66), .ref (rz z 65)] h3
  refine k_puta (pc := 19) (c := 65) (t := 66) X ff_9_18 (by decide) rfl rfl rfl (by decide +kernel) (by decide +kernel) ?_
  refine k_aload_n (pc := 22) (i := 0) X (by decide +kernel) 0 rfl ?_
  refine k_bipush (pc := 23) (n0 := 24) X (by decide +kernel) bi_24 ?_
  obtain ⟨h4, eh4, hf⟩ := nmd_e hf
  refine k_newa_i (pc := 25) (n := 67) (N := 24) X ac_int rfl rfl (by decide) (by decide) (by decide) ⟨Nat.le_of_ble_eq_true rfl, Nat.le_of_ble_eq_true rfl⟩ (by decide +kernel) eh4 ?_
  change VK E g dC z 1 68 68 2 48 27 [(0, .ref (rz z 65))] [.ref (rz z 67), .ref (rz z 65)] h4
  refine k_puta (pc := 27) (c := 65) (t := 67) X ff_9_22 (by decide) rfl rfl rfl (by decide +kernel) (by decide +kernel) ?_
  refine k_aload_n (pc := 30) (i := 0) X (by decide +kernel) 0 rfl ?_
  refine k_bipush (pc := 31) (n0 := 24) X (by decide +kernel) bi_24 ?_
  obtain ⟨h5, eh5, hf⟩ := nmd_e hf
  refine k_newa_i (pc := 33) (n := 68) (N := 24) X ac_int rfl rfl (by decide) (by decide) (by decide) ⟨Nat.le_of_ble_eq_true rfl, Nat.le_of_ble_eq_true rfl⟩ (by decide +kernel) eh5 ?_
  change VK E g dC z 1 69 69 3 72 35 [(0, .ref (rz z 65))] [.ref (rz z 68), .ref (rz z 65)] h5
  refine k_puta (pc := 35) (c := 65) (t := 68) X ff_9_25 (by decide) rfl rfl rfl (by decide +kernel) (by decide +kernel) ?_
  refine k_aload_n (pc := 38) (i := 0) X (by decide +kernel) 0 rfl ?_
  refine k_bipush (pc := 39) (n0 := 24) X (by decide +kernel) bi_24 ?_
  obtain ⟨h6, eh6, hf⟩ := nmd_e hf
  refine k_newa_z (pc := 41) (n := 69) (N := 24) X ac_boolean rfl rfl (by decide) (by decide) (by decide) ⟨Nat.le_of_ble_eq_true rfl, Nat.le_of_ble_eq_true rfl⟩ (by decide +kernel) eh6 ?_
  change VK E g dC z 1 70 70 4 96 43 [(0, .ref (rz z 65))] [.ref (rz z 69), .ref (rz z 65)] h6
  refine k_puta (pc := 43) (c := 65) (t := 69) X ff_9_28 (by decide) rfl rfl rfl (by decide +kernel) (by decide +kernel) ?_
  refine k_aload_n (pc := 46) (i := 0) X (by decide +kernel) 0 rfl ?_
  refine k_bipush (pc := 47) (n0 := 24) X (by decide +kernel) bi_24 ?_
  obtain ⟨h7, eh7, hf⟩ := nmd_e hf
  refine k_newa_i (pc := 49) (n := 70) (N := 24) X ac_int rfl rfl (by decide) (by decide) (by decide) ⟨Nat.le_of_ble_eq_true rfl, Nat.le_of_ble_eq_true rfl⟩ (by decide +kernel) eh7 ?_
  change VK E g dC z 1 71 71 5 120 51 [(0, .ref (rz z 65))] [.ref (rz z 70), .ref (rz z 65)] h7
  refine k_puta (pc := 51) (c := 65) (t := 70) X ff_9_32 (by decide) rfl rfl rfl (by decide +kernel) (by decide +kernel) ?_
  refine k_aload_n (pc := 54) (i := 0) X (by decide +kernel) 0 rfl ?_
  refine k_bipush (pc := 55) (n0 := 24) X (by decide +kernel) bi_24 ?_
  obtain ⟨h8, eh8, hf⟩ := nmd_e hf
  refine k_newa_z (pc := 57) (n := 71) (N := 24) X ac_boolean rfl rfl (by decide) (by decide) (by decide) ⟨Nat.le_of_ble_eq_true rfl, Nat.le_of_ble_eq_true rfl⟩ (by decide +kernel) eh8 ?_
  change VK E g dC z 1 72 72 6 144 59 [(0, .ref (rz z 65))] [.ref (rz z 71), .ref (rz z 65)] h8
  refine k_puta (pc := 59) (c := 65) (t := 71) X ff_9_35 (by decide) rfl rfl rfl (by decide +kernel) (by decide +kernel) ?_
  cases hf
  exact k_vret X Y (by decide +kernel) rfl rfl rfl rfl rfl
def kf_Ho_init_72 (h : Hp) : Option Hp :=
  nmd (zc h 73) fun h1 =>
  nmd (f_Ho_byChance (pt dC 74 76) h1 72) fun h2 =>
  some h2
set_option maxRecDepth 8000 in
set_option maxHeartbeats 4000000 in
theorem mk_Ho_init_72 {g : Gl} {z a v : Nat} {h h' : Hp} (hf : kf_Ho_init_72 h = some h') : MK g y_Ho_init prog_5_method_1_code 2 1 20 1 7 dC z a v 73 74 [.ref (rz z 72), .ref (rz z 26)] h 74 76 h' := by
  refine mk_intro (by decide +kernel) rfl (Nat.le_of_ble_eq_true rfl) (fun E X Y => ?_)
  change VK E g dC z 2 73 74 0 0 0 [(0, .ref (rz z 72)), (1, .ref (rz z 26))] [] h
  unfold kf_Ho_init_72 at hf
  refine k_aload_n (pc := 0) (i := 0) X (by decide +kernel) 0 rfl ?_
  refine k_obj (pc := 1) X ob_4_3 ob_i ob_c ⟨Nat.le_of_ble_eq_true rfl, Nat.le_of_ble_eq_true rfl⟩ (by decide +kernel) ?_
  refine k_aload_n (pc := 4) (i := 0) X (by decide +kernel) 0 rfl ?_
  refine k_bipush (pc := 5) (n0 := 7) X (by decide +kernel) bi_7 ?_
  obtain ⟨h1, eh1, hf⟩ := nmd_e hf
  refine k_newa_i (pc := 7) (n := 73) (N := 7) X ac_int rfl rfl (by decide) (by decide) (by decide) ⟨Nat.le_of_ble_eq_true rfl, Nat.le_of_ble_eq_true rfl⟩ (by decide +kernel) eh1 ?_
  change VK E g dC z 2 74 74 1 7 9 [(0, .ref (rz z 72)), (1, .ref (rz z 26))] [.ref (rz z 73), .ref (rz z 72)] h1
  refine k_puta (pc := 9) (c := 72) (t := 73) X ff_4_9 (by decide) rfl rfl rfl (by decide +kernel) (by decide +kernel) ?_
  refine k_aload_n (pc := 12) (i := 0) X (by decide +kernel) 0 rfl ?_
  refine k_aload_n (pc := 13) (i := 1) X (by decide +kernel) 1 rfl ?_
  refine k_puta (pc := 14) (c := 72) (t := 26) X ff_4_15 (by decide) rfl rfl rfl (by decide +kernel) (by decide +kernel) ?_
  refine k_aload_n (pc := 17) (i := 0) X (by decide +kernel) 0 rfl ?_
  obtain ⟨h2, eh2, hf⟩ := nmd_e hf
  refine k_callV (pc := 18) (As := []) (rest := []) X (mt_Ho_byChance okC_74_76 (inj_rz _ z) (by decide +kernel) eh2.symm) ml_4_19 mv_Ho_byChance (by decide) rfl cls_4 rfl ⟨Nat.le_of_ble_eq_true rfl, Nat.le_of_ble_eq_true rfl⟩ ⟨Nat.le_of_ble_eq_true rfl, Nat.le_of_ble_eq_true rfl⟩ rfl rfl (Nat.le_of_ble_eq_true rfl) (by decide +kernel) ?_
  change VK E g dC z 2 74 76 1 7 21 [(0, .ref (rz z 72)), (1, .ref (rz z 26))] [] h2
  cases hf
  exact k_vret X Y (by decide +kernel) rfl rfl rfl rfl rfl
def kf_Wo_init_75 (h : Hp) : Option Hp :=
  nmd (zc h 76) fun h1 =>
  nmd (zc h1 77) fun h2 =>
  nmd (zc h2 78) fun h3 =>
  nmd (zc h3 79) fun h4 =>
  nmd (zc h4 80) fun h5 =>
  nmd (zc h5 81) fun h6 =>
  some h6
set_option maxRecDepth 8000 in
set_option maxHeartbeats 4000000 in
theorem mk_Wo_init_75 {g : Gl} {z a v : Nat} {h h' : Hp} (hf : kf_Wo_init_75 h = some h') : MK g y_Wo_init prog_12_method_1_code 1 1 12 6 36 dC z a v 76 77 [.ref (rz z 75)] h 82 83 h' := by
  refine mk_intro (by decide +kernel) rfl (Nat.le_of_ble_eq_true rfl) (fun E X Y => ?_)
  change VK E g dC z 1 76 77 0 0 0 [(0, .ref (rz z 75))] [] h
  unfold kf_Wo_init_75 at hf
  refine k_aload_n (pc := 0) (i := 0) X (by decide +kernel) 0 rfl ?_
  refine k_obj (pc := 1) X ob_11_3 ob_i ob_c ⟨Nat.le_of_ble_eq_true rfl, Nat.le_of_ble_eq_true rfl⟩ (by decide +kernel) ?_
  refine k_aload_n (pc := 4) (i := 0) X (by decide +kernel) 0 rfl ?_
  refine k_bipush (pc := 5) (n0 := 6) X (by decide +kernel) bi_6 ?_
  obtain ⟨h1, eh1, hf⟩ := nmd_e hf
  refine k_newa_i (pc := 7) (n := 76) (N := 6) X ac_int rfl rfl (by decide) (by decide) (by decide) ⟨Nat.le_of_ble_eq_true rfl, Nat.le_of_ble_eq_true rfl⟩ (by decide +kernel) eh1 ?_
  change VK E g dC z 1 77 77 1 6 9 [(0, .ref (rz z 75))] [.ref (rz z 76), .ref (rz z 75)] h1
  refine k_puta (pc := 9) (c := 75) (t := 76) X ff_11_9 (by decide) rfl rfl rfl (by decide +kernel) (by decide +kernel) ?_
  refine k_aload_n (pc := 12) (i := 0) X (by decide +kernel) 0 rfl ?_
  refine k_bipush (pc := 13) (n0 := 6) X (by decide +kernel) bi_6 ?_
  obtain ⟨h2, eh2, hf⟩ := nmd_e hf
  refine k_newa_i (pc := 15) (n := 77) (N := 6) X ac_int rfl rfl (by decide) (by decide) (by decide) ⟨Nat.le_of_ble_eq_true rfl, Nat.le_of_ble_eq_true rfl⟩ (by decide +kernel) eh2 ?_
  change VK E g dC z 1 78 78 2 12 17 [(0, .ref (rz z 75))] [.ref (rz z 77), .ref (rz z 75)] h2
  refine k_puta (pc := 17) (c := 75) (t := 77) X ff_11_15 (by decide) rfl rfl rfl (by decide +kernel) (by decide +kernel) ?_
  refine k_aload_n (pc := 20) (i := 0) X (by decide +kernel) 0 rfl ?_
  refine k_bipush (pc := 21) (n0 := 6) X (by decide +kernel) bi_6 ?_
  obtain ⟨h3, eh3, hf⟩ := nmd_e hf
  refine k_newa_i (pc := 23) (n := 78) (N := 6) X ac_int rfl rfl (by decide) (by decide) (by decide) ⟨Nat.le_of_ble_eq_true rfl, Nat.le_of_ble_eq_true rfl⟩ (by decide +kernel) eh3 ?_
  change VK E g dC z 1 79 79 3 18 25 [(0, .ref (rz z 75))] [.ref (rz z 78), .ref (rz z 75)] h3
  refine k_puta (pc := 25) (c := 75) (t := 78) X ff_11_18 (by decide) rfl rfl rfl (by decide +kernel) (by decide +kernel) ?_
  refine k_aload_n (pc := 28) (i := 0) X (by decide +kernel) 0 rfl ?_
  refine k_bipush (pc := 29) (n0 := 6) X (by decide +kernel) bi_6 ?_
  obtain ⟨h4, eh4, hf⟩ := nmd_e hf
  refine k_newa_i (pc := 31) (n := 79) (N := 6) X ac_int rfl rfl (by decide) (by decide) (by decide) ⟨Nat.le_of_ble_eq_true rfl, Nat.le_of_ble_eq_true rfl⟩ (by decide +kernel) eh4 ?_
  change VK E g dC z 1 80 80 4 24 33 [(0, .ref (rz z 75))] [.ref (rz z 79), .ref (rz z 75)] h4
  refine k_puta (pc := 33) (c := 75) (t := 79) X ff_11_21 (by decide) rfl rfl rfl (by decide +kernel) (by decide +kernel) ?_
  refine k_aload_n (pc := 36) (i := 0) X (by decide +kernel) 0 rfl ?_
  refine k_bipush (pc := 37) (n0 := 6) X (by decide +kernel) bi_6 ?_
  obtain ⟨h5, eh5, hf⟩ := nmd_e hf
  refine k_newa_i (pc := 39) (n := 80) (N := 6) X ac_int rfl rfl (by decide) (by decide) (by decide) ⟨Nat.le_of_ble_eq_true rfl, Nat.le_of_ble_eq_true rfl⟩ (by decide +kernel) eh5 ?_
  change VK E g dC z 1 81 81 5 30 41 [(0, .ref (rz z 75))] [.ref (rz z 80), .ref (rz z 75)] h5
  refine k_puta (pc := 41) (c := 75) (t := 80) X ff_11_24 (by decide) rfl rfl rfl (by decide +kernel) (by decide +kernel) ?_
  refine k_aload_n (pc := 44) (i := 0) X (by decide +kernel) 0 rfl ?_
  refine k_bipush (pc := 45) (n0 := 6) X (by decide +kernel) bi_6 ?_
  obtain ⟨h6, eh6, hf⟩ := nmd_e hf
  refine k_newa_i (pc := 47) (n := 81) (N := 6) X ac_int rfl rfl (by decide) (by decide) (by decide) ⟨Nat.le_of_ble_eq_true rfl, Nat.le_of_ble_eq_true rfl⟩ (by decide +kernel) eh6 ?_
  change VK E g dC z 1 82 82 6 36 49 [(0, .ref (rz z 75))] [.ref (rz z 81), .ref (rz z 75)] h6
  refine k_puta (pc := 49) (c := 75) (t := 81) X ff_11_27 (by decide) rfl rfl rfl (by decide +kernel) (by decide +kernel) ?_
  cases hf
  exact k_vret X Y (by decide +kernel) rfl rfl rfl rfl rfl
def kf_Wo_init_82 (h : Hp) : Option Hp :=
  nmd (zc h 83) fun h1 =>
  nmd (zc h1 84) fun h2 =>
  nmd (zc h2 85) fun h3 =>
  nmd (zc h3 86) fun h4 =>
  nmd (zc h4 87) fun h5 =>
  nmd (zc h5 88) fun h6 =>
  some h6
set_option maxRecDepth 8000 in
set_option maxHeartbeats 4000000 in
theorem mk_Wo_init_82 {g : Gl} {z a v : Nat} {h h' : Hp} (hf : kf_Wo_init_82 h = some h') : MK g y_Wo_init prog_12_method_1_code 1 1 12 6 36 dC z a v 83 84 [.ref (rz z 82)] h 89 90 h' := by
  refine mk_intro (by decide +kernel) rfl (Nat.le_of_ble_eq_true rfl) (fun E X Y => ?_)
  change VK E g dC z 1 83 84 0 0 0 [(0, .ref (rz z 82))] [] h
  unfold kf_Wo_init_82 at hf
  refine k_aload_n (pc := 0) (i := 0) X (by decide +kernel) 0 rfl ?_
  refine k_obj (pc := 1) X ob_11_3 ob_i ob_c ⟨Nat.le_of_ble_eq_true rfl, Nat.le_of_ble_eq_true rfl⟩ (by decide +kernel) ?_
  refine k_aload_n (pc := 4) (i := 0) X (by decide +kernel) 0 rfl ?_
  refine k_bipush (pc := 5) (n0 := 6) X (by decide +kernel) bi_6 ?_
  obtain ⟨h1, eh1, hf⟩ := nmd_e hf
  refine k_newa_i (pc := 7) (n := 83) (N := 6) X ac_int rfl rfl (by decide) (by decide) (by decide) ⟨Nat.le_of_ble_eq_true rfl, Nat.le_of_ble_eq_true rfl⟩ (by decide +kernel) eh1 ?_
  change VK E g dC z 1 84 84 1 6 9 [(0, .ref (rz z 82))] [.ref (rz z 83), .ref (rz z 82)] h1
  refine k_puta (pc := 9) (c := 82) (t := 83) X ff_11_9 (by decide) rfl rfl rfl (by decide +kernel) (by decide +kernel) ?_
  refine k_aload_n (pc := 12) (i := 0) X (by decide +kernel) 0 rfl ?_
  refine k_bipush (pc := 13) (n0 := 6) X (by decide +kernel) bi_6 ?_
  obtain ⟨h2, eh2, hf⟩ := nmd_e hf
  refine k_newa_i (pc := 15) (n := 84) (N := 6) X ac_int rfl rfl (by decide) (by decide) (by decide) ⟨Nat.le_of_ble_eq_true rfl, Nat.le_of_ble_eq_true rfl⟩ (by decide +kernel) eh2 ?_
  change VK E g dC z 1 85 85 2 12 17 [(0, .ref (rz z 82))] [.ref (rz z 84), .ref (rz z 82)] h2
  refine k_puta (pc := 17) (c := 82) (t := 84) X ff_11_15 (by decide) rfl rfl rfl (by decide +kernel) (by decide +kernel) ?_
  refine k_aload_n (pc := 20) (i := 0) X (by decide +kernel) 0 rfl ?_
  refine k_bipush (pc := 21) (n0 := 6) X (by decide +kernel) bi_6 ?_
  obtain ⟨h3, eh3, hf⟩ := nmd_e hf
  refine k_newa_i (pc := 23) (n := 85) (N := 6) X ac_int rfl rfl (by decide) (by decide) (by decide) ⟨Nat.le_of_ble_eq_true rfl, Nat.le_of_ble_eq_true rfl⟩ (by decide +kernel) eh3 ?_
  change VK E g dC z 1 86 86 3 18 25 [(0, .ref (rz z 82))] [.ref (rz z 85), .ref (rz z 82)] h3
  refine k_puta (pc := 25) (c := 82) (t := 85) X ff_11_18 (by decide) rfl rfl rfl (by decide +kernel) (by decide +kernel) ?_
  refine k_aload_n (pc := 28) (i := 0) X (by decide +kernel) 0 rfl ?_
  refine k_bipush (pc := 29) (n0 := 6) X (by decide +kernel) bi_6 ?_
  obtain ⟨h4, eh4, hf⟩ := nmd_e hf
  refine k_newa_i (pc := 31) (n := 86) (N := 6) X ac_int rfl rfl (by decide) (by decide) (by decide) ⟨Nat.le_of_ble_eq_true rfl, Nat.le_of_ble_eq_true rfl⟩ (by decide +kernel) eh4 ?_
  change VK E g dC z 1 87 87 4 24 33 [(0, .ref (rz z 82))] [.ref (rz z 86), .ref (rz z 82)] h4
  refine k_puta (pc := 33) (c := 82) (t := 86) X ff_11_21 (by decide) rfl rfl rfl (by decide +kernel) (by decide +kernel) ?_
  refine k_aload_n (pc := 36) (i := 0) X (by decide +kernel) 0 rfl ?_
  refine k_bipush (pc := 37) (n0 := 6) X (by decide +kernel) bi_6 ?_
  obtain ⟨h5, eh5, hf⟩ := nmd_e hf
  refine k_newa_i (pc := 39) (n := 87) (N := 6) X ac_int rfl rfl (by decide) (by decide) (by decide) ⟨Nat.le_of_ble_eq_true rfl, Nat.le_of_ble_eq_true rfl⟩ (by decide +kernel) eh5 ?_
  change VK E g dC z 1 88 88 5 30 41 [(0, .ref (rz z 82))] [.ref (rz z 87), .ref (rz z 82)] h5
  refine k_puta (pc := 41) (c := 82) (t := 87) X ff_11_24 (by decide) rfl rfl rfl (by decide +kernel) (by decide +kernel) ?_
  refine k_aload_n (pc := 44) (i := 0) X (by decide +kernel) 0 rfl ?_
  refine k_bipush (pc := 45) (n0 := 6) X (by decide +kernel) bi_6 ?_
  obtain ⟨h6, eh6, hf⟩ := nmd_e hf
  refine k_newa_i (pc := 47) (n := 88) (N := 6) X ac_int rfl rfl (by decide) (by decide) (by decide) ⟨Nat.le_of_ble_eq_true rfl, Nat.le_of_ble_eq_true rfl⟩ (by decide +kernel) eh6 ?_
  change VK E g dC z 1 89 89 6 36 49 [(0, .ref (rz z 82))] [.ref (rz z 88), .ref (rz z 82)] h6
  refine k_puta (pc := 49) (c := 82) (t := 88) X ff_11_27 (by decide) rfl rfl rfl (by decide +kernel) (by decide +kernel) ?_
  cases hf
  exact k_vret X Y (by decide +kernel) rfl rfl rfl rfl rfl
def kf_Fo_init_74 (h : Hp) : Option Hp :=
  nmd (zc h 75) fun h1 =>
  (kf_Wo_init_75 h1).bind fun h2 =>
  nmd (zc h2 82) fun h3 =>
  (kf_Wo_init_82 h3).bind fun h4 =>
  nmd (zc h4 89) fun h5 =>
  some h5
set_option maxRecDepth 8000 in
set_option maxHeartbeats 4000000 in
theorem mk_Fo_init_74 {g : Gl} {z a v : Nat} {h h' : Hp} (hf : kf_Fo_init_74 h = some h') : MK g y_Fo_init prog_4_method_1_code 4 2 32 15 166 dC z a v 75 77 [.ref (rz z 74), .ref (rz z 26), .ref (rz z 45), .ref (rz z 72)] h 90 95 h' := by
  refine mk_intro (by decide +kernel) rfl (Nat.le_of_ble_eq_true rfl) (fun E X Y => ?_)
  change VK E g dC z 4 75 77 0 0 0 [(0, .ref (rz z 74)), (1, .ref (rz z 26)), (2, .ref (rz z 45)), (3, .ref (rz z 72))] [] h
  unfold kf_Fo_init_74 at hf
  refine k_aload_n (pc := 0) (i := 0) X (by decide +kernel) 0 rfl ?_
  refine k_obj (pc := 1) X ob_3_3 ob_i ob_c ⟨Nat.le_of_ble_eq_true rfl, Nat.le_of_ble_eq_true rfl⟩ (by decide +kernel) ?_
  refine k_aload_n (pc := 4) (i := 0) X (by decide +kernel) 0 rfl ?_
  obtain ⟨h1, eh1, hf⟩ := nmd_e hf
  refine k_new (pc := 5) (n := 75) X cls_11 cl_3_9 in_11 mi_11 rfl (by decide +kernel) (by decide +kernel) ⟨Nat.le_of_ble_eq_true rfl, Nat.le_of_ble_eq_true rfl⟩ (by decide +kernel) eh1 ?_
  change VK E g dC z 4 76 77 1 15 8 [(0, .ref (rz z 74)), (1, .ref (rz z 26)), (2, .ref (rz z 45)), (3, .ref (rz z 72))] [.ref (rz z 75), .ref (rz z 74)] h1
  refine k_dup (pc := 8) X (by decide +kernel) rfl ?_
  obtain ⟨h2, eh2, hf⟩ := bnd_e hf
  refine k_callIN (pc := 9) (As := []) (rest := [.ref (rz z 75), .ref (rz z 74)]) X (mk_Wo_init_75 eh2) ml_3_11 mj_Wo_init rfl ⟨Nat.le_of_ble_eq_true rfl, Nat.le_of_ble_eq_true rfl⟩ ⟨Nat.le_of_ble_eq_true rfl, Nat.le_of_ble_eq_true rfl⟩ rfl rfl (Nat.le_of_ble_eq_true rfl) (by decide +kernel) rfl ?_
  change VK E g dC z 4 82 83 7 51 12 [(0, .ref (rz z 74)), (1, .ref (rz z 26)), (2, .ref (rz z 45)), (3, .ref (rz z 72))] [.ref (rz z 75), .ref (rz z 74)] h2
  refine k_puta (pc := 12) (c := 74) (t := 75) X ff_3_12 (by decide) rfl rfl rfl (by decide +kernel) (by decide +kernel) ?_
  refine k_aload_n (pc := 15) (i := 0) X (by decide +kernel) 0 rfl ?_
  obtain ⟨h3, eh3, hf⟩ := nmd_e hf
  refine k_new (pc := 16) (n := 82) X cls_11 cl_3_9 in_11 mi_11 rfl (by decide +kernel) (by decide +kernel) ⟨Nat.le_of_ble_eq_true rfl, Nat.le_of_ble_eq_true rfl⟩ (by decide +kernel) eh3 ?_
  change VK E g dC z 4 83 84 8 66 19 [(0, .ref (rz z 74)), (1, .ref (rz z 26)), (2, .ref (rz z 45)), (3, .ref (rz z 72))] [.ref (rz z 82), .ref (rz z 74)] h3
  refine k_dup (pc := 19) X (by decide +kernel) rfl ?_
  obtain ⟨h4, eh4, hf⟩ := bnd_e hf
  refine k_callIN (pc := 20) (As := []) (rest := [.ref (rz z 82), .ref (rz z 74)]) X (mk_Wo_init_82 eh4) ml_3_11 mj_Wo_init rfl ⟨Nat.le_of_ble_eq_true rfl, Nat.le_of_ble_eq_true rfl⟩ ⟨Nat.le_of_ble_eq_true rfl, Nat.le_of_ble_eq_true rfl⟩ rfl rfl (Nat.le_of_ble_eq_true rfl) (by decide +kernel) rfl ?_
  change VK E g dC z 4 89 90 14 102 23 [(0, .ref (rz z 74)), (1, .ref (rz z 26)), (2, .ref (rz z 45)), (3, .ref (rz z 72))] [.ref (rz z 82), .ref (rz z 74)] h4
  refine k_puta (pc := 23) (c := 74) (t := 82) X ff_3_18 (by decide) rfl rfl rfl (by decide +kernel) (by decide +kernel) ?_
  refine k_aload_n (pc := 26) (i := 0) X (by decide +kernel) 0 rfl ?_
  refine k_bipush (pc := 27) (n0 := 64) X (by decide +kernel) bi_64 ?_
  obtain ⟨h5, eh5, hf⟩ := nmd_e hf
  refine k_newa_i (pc := 29) (n := 89) (N := 64) X ac_int rfl rfl (by decide) (by decide) (by decide) ⟨Nat.le_of_ble_eq_true rfl, Nat.le_of_ble_eq_true rfl⟩ (by decide +kernel) eh5 ?_
  change VK E g dC z 4 90 91 15 166 31 [(0, .ref (rz z 74)), (1, .ref (rz z 26)), (2, .ref (rz z 45)), (3, .ref (rz z 72))] [.ref (rz z 89), .ref (rz z 74)] h5
  refine k_puta (pc := 31) (c := 74) (t := 89) X ff_3_21 (by decide) rfl rfl rfl (by decide +kernel) (by decide +kernel) ?_
  refine k_aload_n (pc := 34) (i := 0) X (by decide +kernel) 0 rfl ?_
  refine k_aload_n (pc := 35) (i := 1) X (by decide +kernel) 1 rfl ?_
  refine k_puta (pc := 36) (c := 74) (t := 26) X ff_3_25 (by decide) rfl rfl rfl (by decide +kernel) (by decide +kernel) ?_
  refine k_aload_n (pc := 39) (i := 0) X (by decide +kernel) 0 rfl ?_
  refine k_aload_n (pc := 40) (i := 2) X (by decide +kernel) 2 rfl ?_
  refine k_puta (pc := 41) (c := 74) (t := 45) X ff_3_29 (by decide) rfl rfl rfl (by decide +kernel) (by decide +kernel) ?_
  refine k_aload_n (pc := 44) (i := 0) X (by decide +kernel) 0 rfl ?_
  refine k_aload_n (pc := 45) (i := 3) X (by decide +kernel) 3 rfl ?_
  refine k_puta (pc := 46) (c := 74) (t := 72) X ff_3_32 (by decide) rfl rfl rfl (by decide +kernel) (by decide +kernel) ?_
  cases hf
  exact k_vret X Y (by decide +kernel) rfl rfl rfl rfl rfl
def kf_Cn_init_90 (h : Hp) : Option Hp :=
  nmd (zc h 91) fun h1 =>
  nmd (zc h1 92) fun h2 =>
  some h2
set_option maxRecDepth 8000 in
set_option maxHeartbeats 4000000 in
theorem mk_Cn_init_90 {g : Gl} {z a v : Nat} {h h' : Hp} (hf : kf_Cn_init_90 h = some h') : MK g y_Cn_init prog_2_method_1_code 3 1 12 2 12 dC z a v 91 96 [.ref (rz z 90), .ref (rz z 26), .ref (rz z 45)] h 93 100 h' := by
  refine mk_intro (by decide +kernel) rfl (Nat.le_of_ble_eq_true rfl) (fun E X Y => ?_)
  change VK E g dC z 3 91 96 0 0 0 [(0, .ref (rz z 90)), (1, .ref (rz z 26)), (2, .ref (rz z 45))] [] h
  unfold kf_Cn_init_90 at hf
  refine k_aload_n (pc := 0) (i := 0) X (by decide +kernel) 0 rfl ?_
  refine k_obj (pc := 1) X ob_1_3 ob_i ob_c ⟨Nat.le_of_ble_eq_true rfl, Nat.le_of_ble_eq_true rfl⟩ (by decide +kernel) ?_
  refine k_aload_n (pc := 4) (i := 0) X (by decide +kernel) 0 rfl ?_
  refine k_bipush (pc := 5) (n0 := 6) X (by decide +kernel) bi_6 ?_
  obtain ⟨h1, eh1, hf⟩ := nmd_e hf
  refine k_newa_i (pc := 7) (n := 91) (N := 6) X ac_int rfl rfl (by decide) (by decide) (by decide) ⟨Nat.le_of_ble_eq_true rfl, Nat.le_of_ble_eq_true rfl⟩ (by decide +kernel) eh1 ?_
  change VK E g dC z 3 92 96 1 6 9 [(0, .ref (rz z 90)), (1, .ref (rz z 26)), (2, .ref (rz z 45))] [.ref (rz z 91), .ref (rz z 90)] h1
  refine k_puta (pc := 9) (c := 90) (t := 91) X ff_1_9 (by decide) rfl rfl rfl (by decide +kernel) (by decide +kernel) ?_
  refine k_aload_n (pc := 12) (i := 0) X (by decide +kernel) 0 rfl ?_
  refine k_bipush (pc := 13) (n0 := 6) X (by decide +kernel) bi_6 ?_
  obtain ⟨h2, eh2, hf⟩ := nmd_e hf
  refine k_newa_i (pc := 15) (n := 92) (N := 6) X ac_int rfl rfl (by decide) (by decide) (by decide) ⟨Nat.le_of_ble_eq_true rfl, Nat.le_of_ble_eq_true rfl⟩ (by decide +kernel) eh2 ?_
  change VK E g dC z 3 93 97 2 12 17 [(0, .ref (rz z 90)), (1, .ref (rz z 26)), (2, .ref (rz z 45))] [.ref (rz z 92), .ref (rz z 90)] h2
  refine k_puta (pc := 17) (c := 90) (t := 92) X ff_1_15 (by decide) rfl rfl rfl (by decide +kernel) (by decide +kernel) ?_
  refine k_aload_n (pc := 20) (i := 0) X (by decide +kernel) 0 rfl ?_
  refine k_aload_n (pc := 21) (i := 1) X (by decide +kernel) 1 rfl ?_
  refine k_puta (pc := 22) (c := 90) (t := 26) X ff_1_18 (by decide) rfl rfl rfl (by decide +kernel) (by decide +kernel) ?_
  refine k_aload_n (pc := 25) (i := 0) X (by decide +kernel) 0 rfl ?_
  refine k_aload_n (pc := 26) (i := 2) X (by decide +kernel) 2 rfl ?_
  refine k_puta (pc := 27) (c := 90) (t := 45) X ff_1_22 (by decide) rfl rfl rfl (by decide +kernel) (by decide +kernel) ?_
  cases hf
  exact k_vret X Y (by decide +kernel) rfl rfl rfl rfl rfl
def kf_Tt_init_0 (h : Hp) : Option Hp :=
  nmd (zc h 1) fun h1 =>
  nmd (pI h1 0 1 (0 : Int32)) fun h2 =>
  nmd (zc h2 2) fun h3 =>
  (kf_Tr_init_2 h3).bind fun h4 =>
  nmd (zc h4 26) fun h5 =>
  (kf_Pl_init_26 h5).bind fun h6 =>
  nmd (zc h6 45) fun h7 =>
  (kf_Wo_init_45 h7).bind fun h8 =>
  nmd (zc h8 52) fun h9 =>
  (kf_Wo_init_52 h9).bind fun h10 =>
  nmd (pI h10 0 6 (0 : Int32)) fun h11 =>
  nmd (zc h11 59) fun h12 =>
  (kf_De_init_59 h12).bind fun h13 =>
  nmd (zc h13 65) fun h14 =>
  (kf_Se_init_65 h14).bind fun h15 =>
  nmd (zc h15 72) fun h16 =>
  (kf_Ho_init_72 h16).bind fun h17 =>
  nmd (zc h17 74) fun h18 =>
  (kf_Fo_init_74 h18).bind fun h19 =>
  nmd (zc h19 90) fun h20 =>
  (kf_Cn_init_90 h20).bind fun h21 =>
  (f_Wo_begin (pt dC 93 101) h21 45 26).bind fun h22 =>
  some h22
set_option maxRecDepth 8000 in
set_option maxHeartbeats 4000000 in
theorem mk_Tt_init_0 {g : Gl} {z a v : Nat} {h h' : Hp} (hf : kf_Tt_init_0 h = some h') : MK g y_Tt_init prog_1_method_1_code 1 7 151 92 1995 dC z a v 1 0 [.ref (rz z 0)] h 93 101 h' := by
  refine mk_intro (by decide +kernel) rfl (Nat.le_of_ble_eq_true rfl) (fun E X Y => ?_)
  change VK E g dC z 1 1 0 0 0 0 [(0, .ref (rz z 0))] [] h
  unfold kf_Tt_init_0 at hf
  refine k_aload_n (pc := 0) (i := 0) X (by decide +kernel) 0 rfl ?_
  refine k_obj (pc := 1) X ob_0_3 ob_i ob_c ⟨Nat.le_of_ble_eq_true rfl, Nat.le_of_ble_eq_true rfl⟩ (by decide +kernel) ?_
  refine k_aload_n (pc := 4) (i := 0) X (by decide +kernel) 0 rfl ?_
  refine k_sipush (pc := 5) (n0 := 700) X (by decide +kernel) si_700 ?_
  obtain ⟨h1, eh1, hf⟩ := nmd_e hf
  refine k_newa_b (pc := 8) (n := 1) (N := 700) X ac_byte rfl rfl (by decide) (by decide) (by decide) ⟨Nat.le_of_ble_eq_true rfl, Nat.le_of_ble_eq_true rfl⟩ (by decide +kernel) eh1 ?_
  change VK E g dC z 1 2 0 1 700 10 [(0, .ref (rz z 0))] [.ref (rz z 1), .ref (rz z 0)] h1
  refine k_puta (pc := 10) (c := 0) (t := 1) X ff_0_11 (by decide) rfl rfl rfl (by decide +kernel) (by decide +kernel) ?_
  refine k_aload_n (pc := 13) (i := 0) X (by decide +kernel) 0 rfl ?_
  refine k_iconst (pc := 14) (n0 := 0) X (by decide +kernel) ic_0 ?_
  obtain ⟨h2, eh2, hf⟩ := nmd_e hf
  refine k_puti (pc := 15) (c := 0) X fp_0_15 (by decide) rfl rfl (by decide +kernel) eh2 ?_
  refine k_aload_n (pc := 18) (i := 0) X (by decide +kernel) 0 rfl ?_
  obtain ⟨h3, eh3, hf⟩ := nmd_e hf
  refine k_new (pc := 19) (n := 2) X cls_10 cl_0_19 in_10 mi_10 rfl (by decide +kernel) (by decide +kernel) ⟨Nat.le_of_ble_eq_true rfl, Nat.le_of_ble_eq_true rfl⟩ (by decide +kernel) eh3 ?_
  change VK E g dC z 1 3 1 2 707 22 [(0, .ref (rz z 0))] [.ref (rz z 2), .ref (rz z 0)] h3
  refine k_dup (pc := 22) X (by decide +kernel) rfl ?_
  refine k_aload_n (pc := 23) (i := 0) X (by decide +kernel) 0 rfl ?_
  refine k_geta (pc := 24) (c := 0) (t := 1) X fl_0_11 (by decide) rfl rfl (by decide +kernel) (by decide +kernel) ?_
  obtain ⟨h4, eh4, hf⟩ := bnd_e hf
  refine k_callI (pc := 27) (As := [.ref (rz z 1)]) (rest := [.ref (rz z 2), .ref (rz z 0)]) X (mk_Tr_init_2 eh4) ml_0_21 mj_Tr_init rfl ⟨Nat.le_of_ble_eq_true rfl, Nat.le_of_ble_eq_true rfl⟩ ⟨Nat.le_of_ble_eq_true rfl, Nat.le_of_ble_eq_true rfl⟩ rfl rfl (Nat.le_of_ble_eq_true rfl) (by decide +kernel) rfl ?_
  change VK E g dC z 1 26 27 25 1124 30 [(0, .ref (rz z 0))] [.ref (rz z 2), .ref (rz z 0)] h4
  refine k_puta (pc := 30) (c := 0) (t := 2) X ff_0_24 (by decide) rfl rfl rfl (by decide +kernel) (by decide +kernel) ?_
  refine k_aload_n (pc := 33) (i := 0) X (by decide +kernel) 0 rfl ?_
  obtain ⟨h5, eh5, hf⟩ := nmd_e hf
  refine k_new (pc := 34) (n := 26) X cls_7 cl_0_28 in_7 mi_7 rfl (by decide +kernel) (by decide +kernel) ⟨Nat.le_of_ble_eq_true rfl, Nat.le_of_ble_eq_true rfl⟩ (by decide +kernel) eh5 ?_
  change VK E g dC z 1 27 28 26 1144 37 [(0, .ref (rz z 0))] [.ref (rz z 26), .ref (rz z 0)] h5
  refine k_dup (pc := 37) X (by decide +kernel) rfl ?_
  obtain ⟨h6, eh6, hf⟩ := bnd_e hf
  refine k_callI (pc := 38) (As := []) (rest := [.ref (rz z 26), .ref (rz z 0)]) X (mk_Pl_init_26 eh6) ml_0_30 mj_Pl_init rfl ⟨Nat.le_of_ble_eq_true rfl, Nat.le_of_ble_eq_true rfl⟩ ⟨Nat.le_of_ble_eq_true rfl, Nat.le_of_ble_eq_true rfl⟩ rfl rfl (Nat.le_of_ble_eq_true rfl) (by decide +kernel) rfl ?_
  change VK E g dC z 1 45 46 44 1435 41 [(0, .ref (rz z 0))] [.ref (rz z 26), .ref (rz z 0)] h6
  refine k_puta (pc := 41) (c := 0) (t := 26) X ff_0_31 (by decide) rfl rfl rfl (by decide +kernel) (by decide +kernel) ?_
  refine k_aload_n (pc := 44) (i := 0) X (by decide +kernel) 0 rfl ?_
  obtain ⟨h7, eh7, hf⟩ := nmd_e hf
  refine k_new (pc := 45) (n := 45) X cls_11 cl_0_35 in_11 mi_11 rfl (by decide +kernel) (by decide +kernel) ⟨Nat.le_of_ble_eq_true rfl, Nat.le_of_ble_eq_true rfl⟩ (by decide +kernel) eh7 ?_
  change VK E g dC z 1 46 47 45 1450 48 [(0, .ref (rz z 0))] [.ref (rz z 45), .ref (rz z 0)] h7
  refine k_dup (pc := 48) X (by decide +kernel) rfl ?_
  obtain ⟨h8, eh8, hf⟩ := bnd_e hf
  refine k_callIN (pc := 49) (As := []) (rest := [.ref (rz z 45), .ref (rz z 0)]) X (mk_Wo_init_45 eh8) ml_0_37 mj_Wo_init rfl ⟨Nat.le_of_ble_eq_true rfl, Nat.le_of_ble_eq_true rfl⟩ ⟨Nat.le_of_ble_eq_true rfl, Nat.le_of_ble_eq_true rfl⟩ rfl rfl (Nat.le_of_ble_eq_true rfl) (by decide +kernel) rfl ?_
  change VK E g dC z 1 52 53 51 1486 52 [(0, .ref (rz z 0))] [.ref (rz z 45), .ref (rz z 0)] h8
  refine k_puta (pc := 52) (c := 0) (t := 45) X ff_0_38 (by decide) rfl rfl rfl (by decide +kernel) (by decide +kernel) ?_
  refine k_aload_n (pc := 55) (i := 0) X (by decide +kernel) 0 rfl ?_
  obtain ⟨h9, eh9, hf⟩ := nmd_e hf
  refine k_new (pc := 56) (n := 52) X cls_11 cl_0_35 in_11 mi_11 rfl (by decide +kernel) (by decide +kernel) ⟨Nat.le_of_ble_eq_true rfl, Nat.le_of_ble_eq_true rfl⟩ (by decide +kernel) eh9 ?_
  change VK E g dC z 1 53 54 52 1501 59 [(0, .ref (rz z 0))] [.ref (rz z 52), .ref (rz z 0)] h9
  refine k_dup (pc := 59) X (by decide +kernel) rfl ?_
  obtain ⟨h10, eh10, hf⟩ := bnd_e hf
  refine k_callIN (pc := 60) (As := []) (rest := [.ref (rz z 52), .ref (rz z 0)]) X (mk_Wo_init_52 eh10) ml_0_37 mj_Wo_init rfl ⟨Nat.le_of_ble_eq_true rfl, Nat.le_of_ble_eq_true rfl⟩ ⟨Nat.le_of_ble_eq_true rfl, Nat.le_of_ble_eq_true rfl⟩ rfl rfl (Nat.le_of_ble_eq_true rfl) (by decide +kernel) rfl ?_
  change VK E g dC z 1 59 60 58 1537 63 [(0, .ref (rz z 0))] [.ref (rz z 52), .ref (rz z 0)] h10
  refine k_puta (pc := 63) (c := 0) (t := 52) X ff_0_42 (by decide) rfl rfl rfl (by decide +kernel) (by decide +kernel) ?_
  refine k_aload_n (pc := 66) (i := 0) X (by decide +kernel) 0 rfl ?_
  refine k_iconst (pc := 67) (n0 := 0) X (by decide +kernel) ic_0 ?_
  obtain ⟨h11, eh11, hf⟩ := nmd_e hf
  refine k_putz (pc := 68) (c := 0) X fp_0_45 (by decide) rfl rfl rfl (by decide +kernel) eh11 ?_
  refine k_aload_n (pc := 71) (i := 0) X (by decide +kernel) 0 rfl ?_
  obtain ⟨h12, eh12, hf⟩ := nmd_e hf
  refine k_new (pc := 72) (n := 59) X cls_2 cl_0_49 in_2 mi_2 rfl (by decide +kernel) (by decide +kernel) ⟨Nat.le_of_ble_eq_true rfl, Nat.le_of_ble_eq_true rfl⟩ (by decide +kernel) eh12 ?_
  change VK E g dC z 1 60 61 59 1543 75 [(0, .ref (rz z 0))] [.ref (rz z 59), .ref (rz z 0)] h12
  refine k_dup (pc := 75) X (by decide +kernel) rfl ?_
  obtain ⟨h13, eh13, hf⟩ := bnd_e hf
  refine k_callIN (pc := 76) (As := []) (rest := [.ref (rz z 59), .ref (rz z 0)]) X (mk_De_init_59 eh13) ml_0_51 mj_De_init rfl ⟨Nat.le_of_ble_eq_true rfl, Nat.le_of_ble_eq_true rfl⟩ ⟨Nat.le_of_ble_eq_true rfl, Nat.le_of_ble_eq_true rfl⟩ rfl rfl (Nat.le_of_ble_eq_true rfl) (by decide +kernel) rfl ?_
  change VK E g dC z 1 65 66 64 1643 79 [(0, .ref (rz z 0))] [.ref (rz z 59), .ref (rz z 0)] h13
  refine k_puta (pc := 79) (c := 0) (t := 59) X ff_0_52 (by decide) rfl rfl rfl (by decide +kernel) (by decide +kernel) ?_
  refine k_aload_n (pc := 82) (i := 0) X (by decide +kernel) 0 rfl ?_
  obtain ⟨h14, eh14, hf⟩ := nmd_e hf
  refine k_new (pc := 83) (n := 65) X cls_9 cl_0_56 in_9 mi_9 rfl (by decide +kernel) (by decide +kernel) ⟨Nat.le_of_ble_eq_true rfl, Nat.le_of_ble_eq_true rfl⟩ (by decide +kernel) eh14 ?_
  change VK E g dC z 1 66 67 65 1651 86 [(0, .ref (rz z 0))] [.ref (rz z 65), .ref (rz z 0)] h14
  refine k_dup (pc := 86) X (by decide +kernel) rfl ?_
  obtain ⟨h15, eh15, hf⟩ := bnd_e hf
  refine k_callIN (pc := 87) (As := []) (rest := [.ref (rz z 65), .ref (rz z 0)]) X (mk_Se_init_65 eh15) ml_0_58 mj_Se_init rfl ⟨Nat.le_of_ble_eq_true rfl, Nat.le_of_ble_eq_true rfl⟩ ⟨Nat.le_of_ble_eq_true rfl, Nat.le_of_ble_eq_true rfl⟩ rfl rfl (Nat.le_of_ble_eq_true rfl) (by decide +kernel) rfl ?_
  change VK E g dC z 1 72 73 71 1795 90 [(0, .ref (rz z 0))] [.ref (rz z 65), .ref (rz z 0)] h15
  refine k_puta (pc := 90) (c := 0) (t := 65) X ff_0_59 (by decide) rfl rfl rfl (by decide +kernel) (by decide +kernel) ?_
  refine k_aload_n (pc := 93) (i := 0) X (by decide +kernel) 0 rfl ?_
  obtain ⟨h16, eh16, hf⟩ := nmd_e hf
  refine k_new (pc := 94) (n := 72) X cls_4 cl_0_63 in_4 mi_4 rfl (by decide +kernel) (by decide +kernel) ⟨Nat.le_of_ble_eq_true rfl, Nat.le_of_ble_eq_true rfl⟩ (by decide +kernel) eh16 ?_
  change VK E g dC z 1 73 74 72 1800 97 [(0, .ref (rz z 0))] [.ref (rz z 72), .ref (rz z 0)] h16
  refine k_dup (pc := 97) X (by decide +kernel) rfl ?_
  refine k_aload_n (pc := 98) (i := 0) X (by decide +kernel) 0 rfl ?_
  refine k_geta (pc := 99) (c := 0) (t := 26) X fl_0_31 (by decide) rfl rfl (by decide +kernel) (by decide +kernel) ?_
  obtain ⟨h17, eh17, hf⟩ := bnd_e hf
  refine k_callI (pc := 102) (As := [.ref (rz z 26)]) (rest := [.ref (rz z 72), .ref (rz z 0)]) X (mk_Ho_init_72 eh17) ml_0_65 mj_Ho_init rfl ⟨Nat.le_of_ble_eq_true rfl, Nat.le_of_ble_eq_true rfl⟩ ⟨Nat.le_of_ble_eq_true rfl, Nat.le_of_ble_eq_true rfl⟩ rfl rfl (Nat.le_of_ble_eq_true rfl) (by decide +kernel) rfl ?_
  change VK E g dC z 1 74 76 73 1807 105 [(0, .ref (rz z 0))] [.ref (rz z 72), .ref (rz z 0)] h17
  refine k_puta (pc := 105) (c := 0) (t := 72) X ff_0_68 (by decide) rfl rfl rfl (by decide +kernel) (by decide +kernel) ?_
  refine k_aload_n (pc := 108) (i := 0) X (by decide +kernel) 0 rfl ?_
  obtain ⟨h18, eh18, hf⟩ := nmd_e hf
  refine k_new (pc := 109) (n := 74) X cls_3 cl_0_72 in_3 mi_3 rfl (by decide +kernel) (by decide +kernel) ⟨Nat.le_of_ble_eq_true rfl, Nat.le_of_ble_eq_true rfl⟩ (by decide +kernel) eh18 ?_
  change VK E g dC z 1 75 77 74 1813 112 [(0, .ref (rz z 0))] [.ref (rz z 74), .ref (rz z 0)] h18
  refine k_dup (pc := 112) X (by decide +kernel) rfl ?_
  refine k_aload_n (pc := 113) (i := 0) X (by decide +kernel) 0 rfl ?_
  refine k_geta (pc := 114) (c := 0) (t := 26) X fl_0_31 (by decide) rfl rfl (by decide +kernel) (by decide +kernel) ?_
  refine k_aload_n (pc := 117) (i := 0) X (by decide +kernel) 0 rfl ?_
  refine k_geta (pc := 118) (c := 0) (t := 45) X fl_0_38 (by decide) rfl rfl (by decide +kernel) (by decide +kernel) ?_
  refine k_aload_n (pc := 121) (i := 0) X (by decide +kernel) 0 rfl ?_
  refine k_geta (pc := 122) (c := 0) (t := 72) X fl_0_68 (by decide) rfl rfl (by decide +kernel) (by decide +kernel) ?_
  obtain ⟨h19, eh19, hf⟩ := bnd_e hf
  refine k_callI (pc := 125) (As := [.ref (rz z 26), .ref (rz z 45), .ref (rz z 72)]) (rest := [.ref (rz z 74), .ref (rz z 0)]) X (mk_Fo_init_74 eh19) ml_0_74 mj_Fo_init rfl ⟨Nat.le_of_ble_eq_true rfl, Nat.le_of_ble_eq_true rfl⟩ ⟨Nat.le_of_ble_eq_true rfl, Nat.le_of_ble_eq_true rfl⟩ rfl rfl (Nat.le_of_ble_eq_true rfl) (by decide +kernel) rfl ?_
  change VK E g dC z 1 90 95 89 1979 128 [(0, .ref (rz z 0))] [.ref (rz z 74), .ref (rz z 0)] h19
  refine k_puta (pc := 128) (c := 0) (t := 74) X ff_0_77 (by decide) rfl rfl rfl (by decide +kernel) (by decide +kernel) ?_
  refine k_aload_n (pc := 131) (i := 0) X (by decide +kernel) 0 rfl ?_
  obtain ⟨h20, eh20, hf⟩ := nmd_e hf
  refine k_new (pc := 132) (n := 90) X cls_1 cl_0_81 in_1 mi_1 rfl (by decide +kernel) (by decide +kernel) ⟨Nat.le_of_ble_eq_true rfl, Nat.le_of_ble_eq_true rfl⟩ (by decide +kernel) eh20 ?_
  change VK E g dC z 1 91 96 90 1983 135 [(0, .ref (rz z 0))] [.ref (rz z 90), .ref (rz z 0)] h20
  refine k_dup (pc := 135) X (by decide +kernel) rfl ?_
  refine k_aload_n (pc := 136) (i := 0) X (by decide +kernel) 0 rfl ?_
  refine k_geta (pc := 137) (c := 0) (t := 26) X fl_0_31 (by decide) rfl rfl (by decide +kernel) (by decide +kernel) ?_
  refine k_aload_n (pc := 140) (i := 0) X (by decide +kernel) 0 rfl ?_
  refine k_geta (pc := 141) (c := 0) (t := 45) X fl_0_38 (by decide) rfl rfl (by decide +kernel) (by decide +kernel) ?_
  obtain ⟨h21, eh21, hf⟩ := bnd_e hf
  refine k_callI (pc := 144) (As := [.ref (rz z 26), .ref (rz z 45)]) (rest := [.ref (rz z 90), .ref (rz z 0)]) X (mk_Cn_init_90 eh21) ml_0_83 mj_Cn_init rfl ⟨Nat.le_of_ble_eq_true rfl, Nat.le_of_ble_eq_true rfl⟩ ⟨Nat.le_of_ble_eq_true rfl, Nat.le_of_ble_eq_true rfl⟩ rfl rfl (Nat.le_of_ble_eq_true rfl) (by decide +kernel) rfl ?_
  change VK E g dC z 1 93 100 92 1995 147 [(0, .ref (rz z 0))] [.ref (rz z 90), .ref (rz z 0)] h21
  refine k_puta (pc := 147) (c := 0) (t := 90) X ff_0_86 (by decide) rfl rfl rfl (by decide +kernel) (by decide +kernel) ?_
  refine k_aload_n (pc := 150) (i := 0) X (by decide +kernel) 0 rfl ?_
  refine k_geta (pc := 151) (c := 0) (t := 45) X fl_0_38 (by decide) rfl rfl (by decide +kernel) (by decide +kernel) ?_
  refine k_aload_n (pc := 154) (i := 0) X (by decide +kernel) 0 rfl ?_
  refine k_geta (pc := 155) (c := 0) (t := 26) X fl_0_31 (by decide) rfl rfl (by decide +kernel) (by decide +kernel) ?_
  obtain ⟨h22, eh22, hf⟩ := bnd_e hf
  refine k_callV (pc := 158) (As := [.ref (rz z 26)]) (rest := []) X (mt_Wo_begin okC_93_101 (inj_rz _ z) (by decide +kernel) (by decide +kernel) eh22) ml_0_90 mv_Wo_begin (by decide) rfl cls_11 rfl ⟨Nat.le_of_ble_eq_true rfl, Nat.le_of_ble_eq_true rfl⟩ ⟨Nat.le_of_ble_eq_true rfl, Nat.le_of_ble_eq_true rfl⟩ rfl rfl (Nat.le_of_ble_eq_true rfl) (by decide +kernel) ?_
  change VK E g dC z 1 93 101 92 1995 161 [(0, .ref (rz z 0))] [] h22
  cases hf
  exact k_vret X Y (by decide +kernel) rfl rfl rfl rfl rfl
