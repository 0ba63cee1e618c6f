def kf_Md_init_0 (h : Hp) : Option Hp :=
  nmd (zc h 1) fun h1 =>
  nmd (zc h1 2) fun h2 =>
  (wI (pt dR 3 1) h2 2 (0 : Int32) (114 : Int32)).bind fun h3 =>
  (wI (pt dR 3 1) h3 2 (1 : Int32) (111 : Int32)).bind fun h4 =>
  (wI (pt dR 3 1) h4 2 (2 : Int32) (97 : Int32)).bind fun h5 =>
  (wI (pt dR 3 1) h5 2 (3 : Int32) (100 : Int32)).bind fun h6 =>
  (wI (pt dR 3 1) h6 2 (4 : Int32) (32 : Int32)).bind fun h7 =>
  (wI (pt dR 3 1) h7 2 (5 : Int32) (116 : Int32)).bind fun h8 =>
  (wI (pt dR 3 1) h8 2 (6 : Int32) (114 : Int32)).bind fun h9 =>
  (wI (pt dR 3 1) h9 2 (7 : Int32) (111 : Int32)).bind fun h10 =>
  (wI (pt dR 3 1) h10 2 (8 : Int32) (117 : Int32)).bind fun h11 =>
  (wI (pt dR 3 1) h11 2 (9 : Int32) (103 : Int32)).bind fun h12 =>
  (wI (pt dR 3 1) h12 2 (10 : Int32) (104 : Int32)).bind fun h13 =>
  (wI (pt dR 3 1) h13 2 (11 : Int32) (32 : Int32)).bind fun h14 =>
  (wI (pt dR 3 1) h14 2 (12 : Int32) (104 : Int32)).bind fun h15 =>
  (wI (pt dR 3 1) h15 2 (13 : Int32) (111 : Int32)).bind fun h16 =>
  (wI (pt dR 3 1) h16 2 (14 : Int32) (114 : Int32)).bind fun h17 =>
  (wI (pt dR 3 1) h17 2 (15 : Int32) (115 : Int32)).bind fun h18 =>
  (wI (pt dR 3 1) h18 2 (16 : Int32) (101 : Int32)).bind fun h19 =>
  (wI (pt dR 3 1) h19 2 (17 : Int32) (32 : Int32)).bind fun h20 =>
  (wI (pt dR 3 1) h20 2 (18 : Int32) (108 : Int32)).bind fun h21 =>
  (wI (pt dR 3 1) h21 2 (19 : Int32) (97 : Int32)).bind fun h22 =>
  (wI (pt dR 3 1) h22 2 (20 : Int32) (112 : Int32)).bind fun h23 =>
  (wI (pt dR 3 1) h23 2 (21 : Int32) (32 : Int32)).bind fun h24 =>
  (wI (pt dR 3 1) h24 2 (22 : Int32) (114 : Int32)).bind fun h25 =>
  (wI (pt dR 3 1) h25 2 (23 : Int32) (97 : Int32)).bind fun h26 =>
  (wI (pt dR 3 1) h26 2 (24 : Int32) (105 : Int32)).bind fun h27 =>
  (wI (pt dR 3 1) h27 2 (25 : Int32) (110 : Int32)).bind fun h28 =>
  (wI (pt dR 3 1) h28 2 (26 : Int32) (32 : Int32)).bind fun h29 =>
  (wI (pt dR 3 1) h29 2 (27 : Int32) (115 : Int32)).bind fun h30 =>
  (wI (pt dR 3 1) h30 2 (28 : Int32) (101 : Int32)).bind fun h31 =>
  (wI (pt dR 3 1) h31 2 (29 : Int32) (101 : Int32)).bind fun h32 =>
  (wI (pt dR 3 1) h32 2 (30 : Int32) (100 : Int32)).bind fun h33 =>
  (wI (pt dR 3 1) h33 2 (31 : Int32) (32 : Int32)).bind fun h34 =>
  (wI (pt dR 3 1) h34 2 (32 : Int32) (108 : Int32)).bind fun h35 =>
  (wI (pt dR 3 1) h35 2 (33 : Int32) (97 : Int32)).bind fun h36 =>
  (wI (pt dR 3 1) h36 2 (34 : Int32) (119 : Int32)).bind fun h37 =>
  (wI (pt dR 3 1) h37 2 (35 : Int32) (32 : Int32)).bind fun h38 =>
  (wI (pt dR 3 1) h38 2 (36 : Int32) (100 : Int32)).bind fun h39 =>
  (wI (pt dR 3 1) h39 2 (37 : Int32) (114 : Int32)).bind fun h40 =>
  (wI (pt dR 3 1) h40 2 (38 : Int32) (121 : Int32)).bind fun h41 =>
  (wI (pt dR 3 1) h41 2 (39 : Int32) (32 : Int32)).bind fun h42 =>
  (wI (pt dR 3 1) h42 2 (40 : Int32) (103 : Int32)).bind fun h43 =>
  (wI (pt dR 3 1) h43 2 (41 : Int32) (117 : Int32)).bind fun h44 =>
  (wI (pt dR 3 1) h44 2 (42 : Int32) (108 : Int32)).bind fun h45 =>
  (wI (pt dR 3 1) h45 2 (43 : Int32) (112 : Int32)).bind fun h46 =>
  (wI (pt dR 3 1) h46 2 (44 : Int32) (32 : Int32)).bind fun h47 =>
  (wI (pt dR 3 1) h47 2 (45 : Int32) (102 : Int32)).bind fun h48 =>
  (wI (pt dR 3 1) h48 2 (46 : Int32) (105 : Int32)).bind fun h49 =>
  (wI (pt dR 3 1) h49 2 (47 : Int32) (103 : Int32)).bind fun h50 =>
  (wI (pt dR 3 1) h50 2 (48 : Int32) (104 : Int32)).bind fun h51 =>
  (wI (pt dR 3 1) h51 2 (49 : Int32) (116 : Int32)).bind fun h52 =>
  (wI (pt dR 3 1) h52 2 (50 : Int32) (32 : Int32)).bind fun h53 =>
  (wI (pt dR 3 1) h53 2 (51 : Int32) (97 : Int32)).bind fun h54 =>
  (wI (pt dR 3 1) h54 2 (52 : Int32) (110 : Int32)).bind fun h55 =>
  (wI (pt dR 3 1) h55 2 (53 : Int32) (100 : Int32)).bind fun h56 =>
  (wI (pt dR 3 1) h56 2 (54 : Int32) (32 : Int32)).bind fun h57 =>
  (wI (pt dR 3 1) h57 2 (55 : Int32) (111 : Int32)).bind fun h58 =>
  (wI (pt dR 3 1) h58 2 (56 : Int32) (114 : Int32)).bind fun h59 =>
  (wI (pt dR 3 1) h59 2 (57 : Int32) (32 : Int32)).bind fun h60 =>
  (wI (pt dR 3 1) h60 2 (58 : Int32) (110 : Int32)).bind fun h61 =>
  (wI (pt dR 3 1) h61 2 (59 : Int32) (111 : Int32)).bind fun h62 =>
  (wI (pt dR 3 1) h62 2 (60 : Int32) (116 : Int32)).bind fun h63 =>
  (wI (pt dR 3 1) h63 2 (61 : Int32) (32 : Int32)).bind fun h64 =>
  (wI (pt dR 3 1) h64 2 (62 : Int32) (116 : Int32)).bind fun h65 =>
  (wI (pt dR 3 1) h65 2 (63 : Int32) (104 : Int32)).bind fun h66 =>
  (wI (pt dR 3 1) h66 2 (64 : Int32) (105 : Int32)).bind fun h67 =>
  (wI (pt dR 3 1) h67 2 (65 : Int32) (114 : Int32)).bind fun h68 =>
  (wI (pt dR 3 1) h68 2 (66 : Int32) (115 : Int32)).bind fun h69 =>
  (wI (pt dR 3 1) h69 2 (67 : Int32) (116 : Int32)).bind fun h70 =>
  (wI (pt dR 3 1) h70 2 (68 : Int32) (32 : Int32)).bind fun h71 =>
  (wI (pt dR 3 1) h71 2 (69 : Int32) (112 : Int32)).bind fun h72 =>
  (wI (pt dR 3 1) h72 2 (70 : Int32) (97 : Int32)).bind fun h73 =>
  (wI (pt dR 3 1) h73 2 (71 : Int32) (99 : Int32)).bind fun h74 =>
  (wI (pt dR 3 1) h74 2 (72 : Int32) (101 : Int32)).bind fun h75 =>
  (wI (pt dR 3 1) h75 2 (73 : Int32) (32 : Int32)).bind fun h76 =>
  (wI (pt dR 3 1) h76 2 (74 : Int32) (115 : Int32)).bind fun h77 =>
  (wI (pt dR 3 1) h77 2 (75 : Int32) (105 : Int32)).bind fun h78 =>
  (wI (pt dR 3 1) h78 2 (76 : Int32) (100 : Int32)).bind fun h79 =>
  (wI (pt dR 3 1) h79 2 (77 : Int32) (101 : Int32)).bind fun h80 =>
  (wI (pt dR 3 1) h80 2 (78 : Int32) (32 : Int32)).bind fun h81 =>
  (wI (pt dR 3 1) h81 2 (79 : Int32) (119 : Int32)).bind fun h82 =>
  (wI (pt dR 3 1) h82 2 (80 : Int32) (97 : Int32)).bind fun h83 =>
  (wI (pt dR 3 1) h83 2 (81 : Int32) (116 : Int32)).bind fun h84 =>
  (wI (pt dR 3 1) h84 2 (82 : Int32) (101 : Int32)).bind fun h85 =>
  (wI (pt dR 3 1) h85 2 (83 : Int32) (114 : Int32)).bind fun h86 =>
  (wI (pt dR 3 1) h86 2 (84 : Int32) (32 : Int32)).bind fun h87 =>
  (wI (pt dR 3 1) h87 2 (85 : Int32) (102 : Int32)).bind fun h88 =>
  (wI (pt dR 3 1) h88 2 (86 : Int32) (97 : Int32)).bind fun h89 =>
  (wI (pt dR 3 1) h89 2 (87 : Int32) (114 : Int32)).bind fun h90 =>
  (wI (pt dR 3 1) h90 2 (88 : Int32) (32 : Int32)).bind fun h91 =>
  (wI (pt dR 3 1) h91 2 (89 : Int32) (104 : Int32)).bind fun h92 =>
  (wI (pt dR 3 1) h92 2 (90 : Int32) (117 : Int32)).bind fun h93 =>
  (wI (pt dR 3 1) h93 2 (91 : Int32) (114 : Int32)).bind fun h94 =>
  (wI (pt dR 3 1) h94 2 (92 : Int32) (116 : Int32)).bind fun h95 =>
  (wI (pt dR 3 1) h95 2 (93 : Int32) (32 : Int32)).bind fun h96 =>
  (wI (pt dR 3 1) h96 2 (94 : Int32) (104 : Int32)).bind fun h97 =>
  (wI (pt dR 3 1) h97 2 (95 : Int32) (111 : Int32)).bind fun h98 =>
  (wI (pt dR 3 1) h98 2 (96 : Int32) (117 : Int32)).bind fun h99 =>
  (wI (pt dR 3 1) h99 2 (97 : Int32) (114 : Int32)).bind fun h100 =>
  (wI (pt dR 3 1) h100 2 (98 : Int32) (32 : Int32)).bind fun h101 =>
  nmd (pI h101 0 5 (-1 : Int32)) fun h102 =>
  nmd (zc h102 3) fun h103 =>
  nmd (zc h103 4) fun h104 =>
  nmd (zc h104 5) fun h105 =>
  nmd (zc h105 6) fun h106 =>
  nmd (zc h106 7) fun h107 =>
  nmd (zc h107 8) fun h108 =>
  nmd (zc h108 9) fun h109 =>
  nmd (zc h109 10) fun h110 =>
  nmd (zc h110 11) fun h111 =>
  nmd (zc h111 12) fun h112 =>
  nmd (zc h112 13) fun h113 =>
  nmd (zc h113 14) fun h114 =>
  nmd (zc h114 15) fun h115 =>
  nmd (zc h115 16) fun h116 =>
  nmd (zc h116 17) fun h117 =>
  nmd (zc h117 18) fun h118 =>
  nmd (zc h118 19) fun h119 =>
  nmd (zc h119 20) fun h120 =>
  nmd (zc h120 21) fun h121 =>
  nmd (zc h121 22) fun h122 =>
  nmd (zc h122 23) fun h123 =>
  nmd (zc h123 24) fun h124 =>
  nmd (zc h124 25) fun h125 =>
  nmd (zc h125 26) fun h126 =>
  nmd (zc h126 27) fun h127 =>
  nmd (zc h127 28) fun h128 =>
  nmd (zc h128 29) fun h129 =>
  nmd (zc h129 30) fun h130 =>
  nmd (zc h130 31) fun h131 =>
  nmd (zc h131 32) fun h132 =>
  nmd (zc h132 33) fun h133 =>
  nmd (zc h133 34) fun h134 =>
  nmd (zc h134 35) fun h135 =>
  nmd (zc h135 36) fun h136 =>
  nmd (zc h136 37) fun h137 =>
  nmd (zc h137 38) fun h138 =>
  nmd (zc h138 39) fun h139 =>
  nmd (zc h139 40) fun h140 =>
  nmd (pI h140 0 75 (-1 : Int32)) fun h141 =>
  nmd (zc h141 41) fun h142 =>
  nmd (zc h142 42) fun h143 =>
  nmd (zc h143 43) fun h144 =>
  nmd (zc h144 44) fun h145 =>
  nmd (zc h145 45) fun h146 =>
  (f_Md_plain (pt dR 46 45) h146 0).bind fun h147 =>
  (f_Md_keepText (pt dR 46 45) h147 0).bind fun h148 =>
  some h148
set_option maxRecDepth 8000 in
set_option maxHeartbeats 4000000 in
theorem mk_Md_init_0 {g : Gl} {z a v : Nat} {h h' : Hp} (hf : kf_Md_init_0 h = some h') : MK g y_Md_init prog_14_method_1_code 1 3 63 45 2286 dR z a v 1 0 [.ref (rz z 0)] h 46 45 h' := by
  refine mk_intro (by decide +kernel) rfl (Nat.le_of_ble_eq_true rfl) (fun E X Y => ?_)
  change VK E g dR z 1 1 0 0 0 0 [(0, .ref (rz z 0))] [] h
  unfold kf_Md_init_0 at hf
  refine k_aload_n (pc := 0) (i := 0) X (by decide +kernel) 0 rfl ?_
  refine k_obj (pc := 1) X ob_12_1 ob_i ob_c ⟨Nat.le_of_ble_eq_true rfl, Nat.le_of_ble_eq_true rfl⟩ (by decide +kernel) ?_
  refine k_aload_n (pc := 4) (i := 0) X (by decide +kernel) 0 rfl ?_
  refine k_sipush (pc := 5) (n0 := 700) X (by decide +kernel) si_700 ?_
  obtain ⟨h1, eh1, hf⟩ := nmd_e hf
  refine k_newa_i (pc := 8) (n := 1) (N := 700) X ac_int rfl rfl (by decide) (by decide) (by decide) ⟨Nat.le_of_ble_eq_true rfl, Nat.le_of_ble_eq_true rfl⟩ (by decide +kernel) eh1 ?_
  change VK E g dR z 1 2 0 1 700 10 [(0, .ref (rz z 0))] [.ref (rz z 1), .ref (rz z 0)] h1
  refine k_puta (pc := 10) (c := 0) (t := 1) X ff_12_7 (by decide) rfl rfl rfl (by decide +kernel) (by decide +kernel) ?_
  refine k_aload_n (pc := 13) (i := 0) X (by decide +kernel) 0 rfl ?_
  refine k_bipush (pc := 14) (n0 := 99) X (by decide +kernel) bi_99 ?_
  obtain ⟨h2, eh2, hf⟩ := nmd_e hf
  refine k_newa_i (pc := 16) (n := 2) (N := 99) X ac_int rfl rfl (by decide) (by decide) (by decide) ⟨Nat.le_of_ble_eq_true rfl, Nat.le_of_ble_eq_true rfl⟩ (by decide +kernel) eh2 ?_
  change VK E g dR z 1 3 1 2 799 18 [(0, .ref (rz z 0))] [.ref (rz z 2), .ref (rz z 0)] h2
  refine k_dup (pc := 18) X (by decide +kernel) rfl ?_
  refine k_iconst (pc := 19) (n0 := 0) X (by decide +kernel) ic_0 ?_
  refine k_bipush (pc := 20) (n0 := 114) X (by decide +kernel) bi_114 ?_
  obtain ⟨h3, eh3, hf⟩ := bnd_e hf
  refine k_iast (pc := 22) (c := 2) X (by decide) rfl eh3 (by decide +kernel) ?_
  refine k_dup (pc := 23) X (by decide +kernel) rfl ?_
  refine k_iconst (pc := 24) (n0 := 1) X (by decide +kernel) ic_1 ?_
  refine k_bipush (pc := 25) (n0 := 111) X (by decide +kernel) bi_111 ?_
  obtain ⟨h4, eh4, hf⟩ := bnd_e hf
  refine k_iast (pc := 27) (c := 2) X (by decide) rfl eh4 (by decide +kernel) ?_
  refine k_dup (pc := 28) X (by decide +kernel) rfl ?_
  refine k_iconst (pc := 29) (n0 := 2) X (by decide +kernel) ic_2 ?_
  refine k_bipush (pc := 30) (n0 := 97) X (by decide +kernel) bi_97 ?_
  obtain ⟨h5, eh5, hf⟩ := bnd_e hf
  refine k_iast (pc := 32) (c := 2) X (by decide) rfl eh5 (by decide +kernel) ?_
  refine k_dup (pc := 33) X (by decide +kernel) rfl ?_
  refine k_iconst (pc := 34) (n0 := 3) X (by decide +kernel) ic_3 ?_
  refine k_bipush (pc := 35) (n0 := 100) X (by decide +kernel) bi_100 ?_
  obtain ⟨h6, eh6, hf⟩ := bnd_e hf
  refine k_iast (pc := 37) (c := 2) X (by decide) rfl eh6 (by decide +kernel) ?_
  refine k_dup (pc := 38) X (by decide +kernel) rfl ?_
  refine k_iconst (pc := 39) (n0 := 4) X (by decide +kernel) ic_4 ?_
  refine k_bipush (pc := 40) (n0 := 32) X (by decide +kernel) bi_32 ?_
  obtain ⟨h7, eh7, hf⟩ := bnd_e hf
  refine k_iast (pc := 42) (c := 2) X (by decide) rfl eh7 (by decide +kernel) ?_
  refine k_dup (pc := 43) X (by decide +kernel) rfl ?_
  refine k_iconst (pc := 44) (n0 := 5) X (by decide +kernel) ic_5 ?_
  refine k_bipush (pc := 45) (n0 := 116) X (by decide +kernel) bi_116 ?_
  obtain ⟨h8, eh8, hf⟩ := bnd_e hf
  refine k_iast (pc := 47) (c := 2) X (by decide) rfl eh8 (by decide +kernel) ?_
  refine k_dup (pc := 48) X (by decide +kernel) rfl ?_
  refine k_bipush (pc := 49) (n0 := 6) X (by decide +kernel) bi_6 ?_
  refine k_bipush (pc := 51) (n0 := 114) X (by decide +kernel) bi_114 ?_
  obtain ⟨h9, eh9, hf⟩ := bnd_e hf
  refine k_iast (pc := 53) (c := 2) X (by decide) rfl eh9 (by decide +kernel) ?_
  refine k_dup (pc := 54) X (by decide +kernel) rfl ?_
  refine k_bipush (pc := 55) (n0 := 7) X (by decide +kernel) bi_7 ?_
  refine k_bipush (pc := 57) (n0 := 111) X (by decide +kernel) bi_111 ?_
  obtain ⟨h10, eh10, hf⟩ := bnd_e hf
  refine k_iast (pc := 59) (c := 2) X (by decide) rfl eh10 (by decide +kernel) ?_
  refine k_dup (pc := 60) X (by decide +kernel) rfl ?_
  refine k_bipush (pc := 61) (n0 := 8) X (by decide +kernel) bi_8 ?_
  refine k_bipush (pc := 63) (n0 := 117) X (by decide +kernel) bi_117 ?_
  obtain ⟨h11, eh11, hf⟩ := bnd_e hf
  refine k_iast (pc := 65) (c := 2) X (by decide) rfl eh11 (by decide +kernel) ?_
  refine k_dup (pc := 66) X (by decide +kernel) rfl ?_
  refine k_bipush (pc := 67) (n0 := 9) X (by decide +kernel) bi_9 ?_
  refine k_bipush (pc := 69) (n0 := 103) X (by decide +kernel) bi_103 ?_
  obtain ⟨h12, eh12, hf⟩ := bnd_e hf
  refine k_iast (pc := 71) (c := 2) X (by decide) rfl eh12 (by decide +kernel) ?_
  refine k_dup (pc := 72) X (by decide +kernel) rfl ?_
  refine k_bipush (pc := 73) (n0 := 10) X (by decide +kernel) bi_10 ?_
  refine k_bipush (pc := 75) (n0 := 104) X (by decide +kernel) bi_104 ?_
  obtain ⟨h13, eh13, hf⟩ := bnd_e hf
  refine k_iast (pc := 77) (c := 2) X (by decide) rfl eh13 (by decide +kernel) ?_
  refine k_dup (pc := 78) X (by decide +kernel) rfl ?_
  refine k_bipush (pc := 79) (n0 := 11) X (by decide +kernel) bi_11 ?_
  refine k_bipush (pc := 81) (n0 := 32) X (by decide +kernel) bi_32 ?_
  obtain ⟨h14, eh14, hf⟩ := bnd_e hf
  refine k_iast (pc := 83) (c := 2) X (by decide) rfl eh14 (by decide +kernel) ?_
  refine k_dup (pc := 84) X (by decide +kernel) rfl ?_
  refine k_bipush (pc := 85) (n0 := 12) X (by decide +kernel) bi_12 ?_
  refine k_bipush (pc := 87) (n0 := 104) X (by decide +kernel) bi_104 ?_
  obtain ⟨h15, eh15, hf⟩ := bnd_e hf
  refine k_iast (pc := 89) (c := 2) X (by decide) rfl eh15 (by decide +kernel) ?_
  refine k_dup (pc := 90) X (by decide +kernel) rfl ?_
  refine k_bipush (pc := 91) (n0 := 13) X (by decide +kernel) bi_13 ?_
  refine k_bipush (pc := 93) (n0 := 111) X (by decide +kernel) bi_111 ?_
  obtain ⟨h16, eh16, hf⟩ := bnd_e hf
  refine k_iast (pc := 95) (c := 2) X (by decide) rfl eh16 (by decide +kernel) ?_
  refine k_dup (pc := 96) X (by decide +kernel) rfl ?_
  refine k_bipush (pc := 97) (n0 := 14) X (by decide +kernel) bi_14 ?_
  refine k_bipush (pc := 99) (n0 := 114) X (by decide +kernel) bi_114 ?_
  obtain ⟨h17, eh17, hf⟩ := bnd_e hf
  refine k_iast (pc := 101) (c := 2) X (by decide) rfl eh17 (by decide +kernel) ?_
  refine k_dup (pc := 102) X (by decide +kernel) rfl ?_
  refine k_bipush (pc := 103) (n0 := 15) X (by decide +kernel) bi_15 ?_
  refine k_bipush (pc := 105) (n0 := 115) X (by decide +kernel) bi_115 ?_
  obtain ⟨h18, eh18, hf⟩ := bnd_e hf
  refine k_iast (pc := 107) (c := 2) X (by decide) rfl eh18 (by decide +kernel) ?_
  refine k_dup (pc := 108) X (by decide +kernel) rfl ?_
  refine k_bipush (pc := 109) (n0 := 16) X (by decide +kernel) bi_16 ?_
  refine k_bipush (pc := 111) (n0 := 101) X (by decide +kernel) bi_101 ?_
  obtain ⟨h19, eh19, hf⟩ := bnd_e hf
  refine k_iast (pc := 113) (c := 2) X (by decide) rfl eh19 (by decide +kernel) ?_
  refine k_dup (pc := 114) X (by decide +kernel) rfl ?_
  refine k_bipush (pc := 115) (n0 := 17) X (by decide +kernel) bi_17 ?_
  refine k_bipush (pc := 117) (n0 := 32) X (by decide +kernel) bi_32 ?_
  obtain ⟨h20, eh20, hf⟩ := bnd_e hf
  refine k_iast (pc := 119) (c := 2) X (by decide) rfl eh20 (by decide +kernel) ?_
  refine k_dup (pc := 120) X (by decide +kernel) rfl ?_
  refine k_bipush (pc := 121) (n0 := 18) X (by decide +kernel) bi_18 ?_
  refine k_bipush (pc := 123) (n0 := 108) X (by decide +kernel) bi_108 ?_
  obtain ⟨h21, eh21, hf⟩ := bnd_e hf
  refine k_iast (pc := 125) (c := 2) X (by decide) rfl eh21 (by decide +kernel) ?_
  refine k_dup (pc := 126) X (by decide +kernel) rfl ?_
  refine k_bipush (pc := 127) (n0 := 19) X (by decide +kernel) bi_19 ?_
  refine k_bipush (pc := 129) (n0 := 97) X (by decide +kernel) bi_97 ?_
  obtain ⟨h22, eh22, hf⟩ := bnd_e hf
  refine k_iast (pc := 131) (c := 2) X (by decide) rfl eh22 (by decide +kernel) ?_
  refine k_dup (pc := 132) X (by decide +kernel) rfl ?_
  refine k_bipush (pc := 133) (n0 := 20) X (by decide +kernel) bi_20 ?_
  refine k_bipush (pc := 135) (n0 := 112) X (by decide +kernel) bi_112 ?_
  obtain ⟨h23, eh23, hf⟩ := bnd_e hf
  refine k_iast (pc := 137) (c := 2) X (by decide) rfl eh23 (by decide +kernel) ?_
  refine k_dup (pc := 138) X (by decide +kernel) rfl ?_
  refine k_bipush (pc := 139) (n0 := 21) X (by decide +kernel) bi_21 ?_
  refine k_bipush (pc := 141) (n0 := 32) X (by decide +kernel) bi_32 ?_
  obtain ⟨h24, eh24, hf⟩ := bnd_e hf
  refine k_iast (pc := 143) (c := 2) X (by decide) rfl eh24 (by decide +kernel) ?_
  refine k_dup (pc := 144) X (by decide +kernel) rfl ?_
  refine k_bipush (pc := 145) (n0 := 22) X (by decide +kernel) bi_22 ?_
  refine k_bipush (pc := 147) (n0 := 114) X (by decide +kernel) bi_114 ?_
  obtain ⟨h25, eh25, hf⟩ := bnd_e hf
  refine k_iast (pc := 149) (c := 2) X (by decide) rfl eh25 (by decide +kernel) ?_
  refine k_dup (pc := 150) X (by decide +kernel) rfl ?_
  refine k_bipush (pc := 151) (n0 := 23) X (by decide +kernel) bi_23 ?_
  refine k_bipush (pc := 153) (n0 := 97) X (by decide +kernel) bi_97 ?_
  obtain ⟨h26, eh26, hf⟩ := bnd_e hf
  refine k_iast (pc := 155) (c := 2) X (by decide) rfl eh26 (by decide +kernel) ?_
  refine k_dup (pc := 156) X (by decide +kernel) rfl ?_
  refine k_bipush (pc := 157) (n0 := 24) X (by decide +kernel) bi_24 ?_
  refine k_bipush (pc := 159) (n0 := 105) X (by decide +kernel) bi_105 ?_
  obtain ⟨h27, eh27, hf⟩ := bnd_e hf
  refine k_iast (pc := 161) (c := 2) X (by decide) rfl eh27 (by decide +kernel) ?_
  refine k_dup (pc := 162) X (by decide +kernel) rfl ?_
  refine k_bipush (pc := 163) (n0 := 25) X (by decide +kernel) bi_25 ?_
  refine k_bipush (pc := 165) (n0 := 110) X (by decide +kernel) bi_110 ?_
  obtain ⟨h28, eh28, hf⟩ := bnd_e hf
  refine k_iast (pc := 167) (c := 2) X (by decide) rfl eh28 (by decide +kernel) ?_
  refine k_dup (pc := 168) X (by decide +kernel) rfl ?_
  refine k_bipush (pc := 169) (n0 := 26) X (by decide +kernel) bi_26 ?_
  refine k_bipush (pc := 171) (n0 := 32) X (by decide +kernel) bi_32 ?_
  obtain ⟨h29, eh29, hf⟩ := bnd_e hf
  refine k_iast (pc := 173) (c := 2) X (by decide) rfl eh29 (by decide +kernel) ?_
  refine k_dup (pc := 174) X (by decide +kernel) rfl ?_
  refine k_bipush (pc := 175) (n0 := 27) X (by decide +kernel) bi_27 ?_
  refine k_bipush (pc := 177) (n0 := 115) X (by decide +kernel) bi_115 ?_
  obtain ⟨h30, eh30, hf⟩ := bnd_e hf
  refine k_iast (pc := 179) (c := 2) X (by decide) rfl eh30 (by decide +kernel) ?_
  refine k_dup (pc := 180) X (by decide +kernel) rfl ?_
  refine k_bipush (pc := 181) (n0 := 28) X (by decide +kernel) bi_28 ?_
  refine k_bipush (pc := 183) (n0 := 101) X (by decide +kernel) bi_101 ?_
  obtain ⟨h31, eh31, hf⟩ := bnd_e hf
  refine k_iast (pc := 185) (c := 2) X (by decide) rfl eh31 (by decide +kernel) ?_
  refine k_dup (pc := 186) X (by decide +kernel) rfl ?_
  refine k_bipush (pc := 187) (n0 := 29) X (by decide +kernel) bi_29 ?_
  refine k_bipush (pc := 189) (n0 := 101) X (by decide +kernel) bi_101 ?_
  obtain ⟨h32, eh32, hf⟩ := bnd_e hf
  refine k_iast (pc := 191) (c := 2) X (by decide) rfl eh32 (by decide +kernel) ?_
  refine k_dup (pc := 192) X (by decide +kernel) rfl ?_
  refine k_bipush (pc := 193) (n0 := 30) X (by decide +kernel) bi_30 ?_
  refine k_bipush (pc := 195) (n0 := 100) X (by decide +kernel) bi_100 ?_
  obtain ⟨h33, eh33, hf⟩ := bnd_e hf
  refine k_iast (pc := 197) (c := 2) X (by decide) rfl eh33 (by decide +kernel) ?_
  refine k_dup (pc := 198) X (by decide +kernel) rfl ?_
  refine k_bipush (pc := 199) (n0 := 31) X (by decide +kernel) bi_31 ?_
  refine k_bipush (pc := 201) (n0 := 32) X (by decide +kernel) bi_32 ?_
  obtain ⟨h34, eh34, hf⟩ := bnd_e hf
  refine k_iast (pc := 203) (c := 2) X (by decide) rfl eh34 (by decide +kernel) ?_
  refine k_dup (pc := 204) X (by decide +kernel) rfl ?_
  refine k_bipush (pc := 205) (n0 := 32) X (by decide +kernel) bi_32 ?_
  refine k_bipush (pc := 207) (n0 := 108) X (by decide +kernel) bi_108 ?_
  obtain ⟨h35, eh35, hf⟩ := bnd_e hf
  refine k_iast (pc := 209) (c := 2) X (by decide) rfl eh35 (by decide +kernel) ?_
  refine k_dup (pc := 210) X (by decide +kernel) rfl ?_
  refine k_bipush (pc := 211) (n0 := 33) X (by decide +kernel) bi_33 ?_
  refine k_bipush (pc := 213) (n0 := 97) X (by decide +kernel) bi_97 ?_
  obtain ⟨h36, eh36, hf⟩ := bnd_e hf
  refine k_iast (pc := 215) (c := 2) X (by decide) rfl eh36 (by decide +kernel) ?_
  refine k_dup (pc := 216) X (by decide +kernel) rfl ?_
  refine k_bipush (pc := 217) (n0 := 34) X (by decide +kernel) bi_34 ?_
  refine k_bipush (pc := 219) (n0 := 119) X (by decide +kernel) bi_119 ?_
  obtain ⟨h37, eh37, hf⟩ := bnd_e hf
  refine k_iast (pc := 221) (c := 2) X (by decide) rfl eh37 (by decide +kernel) ?_
  refine k_dup (pc := 222) X (by decide +kernel) rfl ?_
  refine k_bipush (pc := 223) (n0 := 35) X (by decide +kernel) bi_35 ?_
  refine k_bipush (pc := 225) (n0 := 32) X (by decide +kernel) bi_32 ?_
  obtain ⟨h38, eh38, hf⟩ := bnd_e hf
  refine k_iast (pc := 227) (c := 2) X (by decide) rfl eh38 (by decide +kernel) ?_
  refine k_dup (pc := 228) X (by decide +kernel) rfl ?_
  refine k_bipush (pc := 229) (n0 := 36) X (by decide +kernel) bi_36 ?_
  refine k_bipush (pc := 231) (n0 := 100) X (by decide +kernel) bi_100 ?_
  obtain ⟨h39, eh39, hf⟩ := bnd_e hf
  refine k_iast (pc := 233) (c := 2) X (by decide) rfl eh39 (by decide +kernel) ?_
  refine k_dup (pc := 234) X (by decide +kernel) rfl ?_
  refine k_bipush (pc := 235) (n0 := 37) X (by decide +kernel) bi_37 ?_
  refine k_bipush (pc := 237) (n0 := 114) X (by decide +kernel) bi_114 ?_
  obtain ⟨h40, eh40, hf⟩ := bnd_e hf
  refine k_iast (pc := 239) (c := 2) X (by decide) rfl eh40 (by decide +kernel) ?_
  refine k_dup (pc := 240) X (by decide +kernel) rfl ?_
  refine k_bipush (pc := 241) (n0 := 38) X (by decide +kernel) bi_38 ?_
  refine k_bipush (pc := 243) (n0 := 121) X (by decide +kernel) bi_121 ?_
  obtain ⟨h41, eh41, hf⟩ := bnd_e hf
  refine k_iast (pc := 245) (c := 2) X (by decide) rfl eh41 (by decide +kernel) ?_
  refine k_dup (pc := 246) X (by decide +kernel) rfl ?_
  refine k_bipush (pc := 247) (n0 := 39) X (by decide +kernel) bi_39 ?_
  refine k_bipush (pc := 249) (n0 := 32) X (by decide +kernel) bi_32 ?_
  obtain ⟨h42, eh42, hf⟩ := bnd_e hf
  refine k_iast (pc := 251) (c := 2) X (by decide) rfl eh42 (by decide +kernel) ?_
  refine k_dup (pc := 252) X (by decide +kernel) rfl ?_
  refine k_bipush (pc := 253) (n0 := 40) X (by decide +kernel) bi_40 ?_
  refine k_bipush (pc := 255) (n0 := 103) X (by decide +kernel) bi_103 ?_
  obtain ⟨h43, eh43, hf⟩ := bnd_e hf
  refine k_iast (pc := 257) (c := 2) X (by decide) rfl eh43 (by decide +kernel) ?_
  refine k_dup (pc := 258) X (by decide +kernel) rfl ?_
  refine k_bipush (pc := 259) (n0 := 41) X (by decide +kernel) bi_41 ?_
  refine k_bipush (pc := 261) (n0 := 117) X (by decide +kernel) bi_117 ?_
  obtain ⟨h44, eh44, hf⟩ := bnd_e hf
  refine k_iast (pc := 263) (c := 2) X (by decide) rfl eh44 (by decide +kernel) ?_
  refine k_dup (pc := 264) X (by decide +kernel) rfl ?_
  refine k_bipush (pc := 265) (n0 := 42) X (by decide +kernel) bi_42 ?_
  refine k_bipush (pc := 267) (n0 := 108) X (by decide +kernel) bi_108 ?_
  obtain ⟨h45, eh45, hf⟩ := bnd_e hf
  refine k_iast (pc := 269) (c := 2) X (by decide) rfl eh45 (by decide +kernel) ?_
  refine k_dup (pc := 270) X (by decide +kernel) rfl ?_
  refine k_bipush (pc := 271) (n0 := 43) X (by decide +kernel) bi_43 ?_
  refine k_bipush (pc := 273) (n0 := 112) X (by decide +kernel) bi_112 ?_
  obtain ⟨h46, eh46, hf⟩ := bnd_e hf
  refine k_iast (pc := 275) (c := 2) X (by decide) rfl eh46 (by decide +kernel) ?_
  refine k_dup (pc := 276) X (by decide +kernel) rfl ?_
  refine k_bipush (pc := 277) (n0 := 44) X (by decide +kernel) bi_44 ?_
  refine k_bipush (pc := 279) (n0 := 32) X (by decide +kernel) bi_32 ?_
  obtain ⟨h47, eh47, hf⟩ := bnd_e hf
  refine k_iast (pc := 281) (c := 2) X (by decide) rfl eh47 (by decide +kernel) ?_
  refine k_dup (pc := 282) X (by decide +kernel) rfl ?_
  refine k_bipush (pc := 283) (n0 := 45) X (by decide +kernel) bi_45 ?_
  refine k_bipush (pc := 285) (n0 := 102) X (by decide +kernel) bi_102 ?_
  obtain ⟨h48, eh48, hf⟩ := bnd_e hf
  refine k_iast (pc := 287) (c := 2) X (by decide) rfl eh48 (by decide +kernel) ?_
  refine k_dup (pc := 288) X (by decide +kernel) rfl ?_
  refine k_bipush (pc := 289) (n0 := 46) X (by decide +kernel) bi_46 ?_
  refine k_bipush (pc := 291) (n0 := 105) X (by decide +kernel) bi_105 ?_
  obtain ⟨h49, eh49, hf⟩ := bnd_e hf
  refine k_iast (pc := 293) (c := 2) X (by decide) rfl eh49 (by decide +kernel) ?_
  refine k_dup (pc := 294) X (by decide +kernel) rfl ?_
  refine k_bipush (pc := 295) (n0 := 47) X (by decide +kernel) bi_47 ?_
  refine k_bipush (pc := 297) (n0 := 103) X (by decide +kernel) bi_103 ?_
  obtain ⟨h50, eh50, hf⟩ := bnd_e hf
  refine k_iast (pc := 299) (c := 2) X (by decide) rfl eh50 (by decide +kernel) ?_
  refine k_dup (pc := 300) X (by decide +kernel) rfl ?_
  refine k_bipush (pc := 301) (n0 := 48) X (by decide +kernel) bi_48 ?_
  refine k_bipush (pc := 303) (n0 := 104) X (by decide +kernel) bi_104 ?_
  obtain ⟨h51, eh51, hf⟩ := bnd_e hf
  refine k_iast (pc := 305) (c := 2) X (by decide) rfl eh51 (by decide +kernel) ?_
  refine k_dup (pc := 306) X (by decide +kernel) rfl ?_
  refine k_bipush (pc := 307) (n0 := 49) X (by decide +kernel) bi_49 ?_
  refine k_bipush (pc := 309) (n0 := 116) X (by decide +kernel) bi_116 ?_
  obtain ⟨h52, eh52, hf⟩ := bnd_e hf
  refine k_iast (pc := 311) (c := 2) X (by decide) rfl eh52 (by decide +kernel) ?_
  refine k_dup (pc := 312) X (by decide +kernel) rfl ?_
  refine k_bipush (pc := 313) (n0 := 50) X (by decide +kernel) bi_50 ?_
  refine k_bipush (pc := 315) (n0 := 32) X (by decide +kernel) bi_32 ?_
  obtain ⟨h53, eh53, hf⟩ := bnd_e hf
  refine k_iast (pc := 317) (c := 2) X (by decide) rfl eh53 (by decide +kernel) ?_
  refine k_dup (pc := 318) X (by decide +kernel) rfl ?_
  refine k_bipush (pc := 319) (n0 := 51) X (by decide +kernel) bi_51 ?_
  refine k_bipush (pc := 321) (n0 := 97) X (by decide +kernel) bi_97 ?_
  obtain ⟨h54, eh54, hf⟩ := bnd_e hf
  refine k_iast (pc := 323) (c := 2) X (by decide) rfl eh54 (by decide +kernel) ?_
  refine k_dup (pc := 324) X (by decide +kernel) rfl ?_
  refine k_bipush (pc := 325) (n0 := 52) X (by decide +kernel) bi_52 ?_
  refine k_bipush (pc := 327) (n0 := 110) X (by decide +kernel) bi_110 ?_
  obtain ⟨h55, eh55, hf⟩ := bnd_e hf
  refine k_iast (pc := 329) (c := 2) X (by decide) rfl eh55 (by decide +kernel) ?_
  refine k_dup (pc := 330) X (by decide +kernel) rfl ?_
  refine k_bipush (pc := 331) (n0 := 53) X (by decide +kernel) bi_53 ?_
  refine k_bipush (pc := 333) (n0 := 100) X (by decide +kernel) bi_100 ?_
  obtain ⟨h56, eh56, hf⟩ := bnd_e hf
  refine k_iast (pc := 335) (c := 2) X (by decide) rfl eh56 (by decide +kernel) ?_
  refine k_dup (pc := 336) X (by decide +kernel) rfl ?_
  refine k_bipush (pc := 337) (n0 := 54) X (by decide +kernel) bi_54 ?_
  refine k_bipush (pc := 339) (n0 := 32) X (by decide +kernel) bi_32 ?_
  obtain ⟨h57, eh57, hf⟩ := bnd_e hf
  refine k_iast (pc := 341) (c := 2) X (by decide) rfl eh57 (by decide +kernel) ?_
  refine k_dup (pc := 342) X (by decide +kernel) rfl ?_
  refine k_bipush (pc := 343) (n0 := 55) X (by decide +kernel) bi_55 ?_
  refine k_bipush (pc := 345) (n0 := 111) X (by decide +kernel) bi_111 ?_
  obtain ⟨h58, eh58, hf⟩ := bnd_e hf
  refine k_iast (pc := 347) (c := 2) X (by decide) rfl eh58 (by decide +kernel) ?_
  refine k_dup (pc := 348) X (by decide +kernel) rfl ?_
  refine k_bipush (pc := 349) (n0 := 56) X (by decide +kernel) bi_56 ?_
  refine k_bipush (pc := 351) (n0 := 114) X (by decide +kernel) bi_114 ?_
  obtain ⟨h59, eh59, hf⟩ := bnd_e hf
  refine k_iast (pc := 353) (c := 2) X (by decide) rfl eh59 (by decide +kernel) ?_
  refine k_dup (pc := 354) X (by decide +kernel) rfl ?_
  refine k_bipush (pc := 355) (n0 := 57) X (by decide +kernel) bi_57 ?_
  refine k_bipush (pc := 357) (n0 := 32) X (by decide +kernel) bi_32 ?_
  obtain ⟨h60, eh60, hf⟩ := bnd_e hf
  refine k_iast (pc := 359) (c := 2) X (by decide) rfl eh60 (by decide +kernel) ?_
  refine k_dup (pc := 360) X (by decide +kernel) rfl ?_
  refine k_bipush (pc := 361) (n0 := 58) X (by decide +kernel) bi_58 ?_
  refine k_bipush (pc := 363) (n0 := 110) X (by decide +kernel) bi_110 ?_
  obtain ⟨h61, eh61, hf⟩ := bnd_e hf
  refine k_iast (pc := 365) (c := 2) X (by decide) rfl eh61 (by decide +kernel) ?_
  refine k_dup (pc := 366) X (by decide +kernel) rfl ?_
  refine k_bipush (pc := 367) (n0 := 59) X (by decide +kernel) bi_59 ?_
  refine k_bipush (pc := 369) (n0 := 111) X (by decide +kernel) bi_111 ?_
  obtain ⟨h62, eh62, hf⟩ := bnd_e hf
  refine k_iast (pc := 371) (c := 2) X (by decide) rfl eh62 (by decide +kernel) ?_
  refine k_dup (pc := 372) X (by decide +kernel) rfl ?_
  refine k_bipush (pc := 373) (n0 := 60) X (by decide +kernel) bi_60 ?_
  refine k_bipush (pc := 375) (n0 := 116) X (by decide +kernel) bi_116 ?_
  obtain ⟨h63, eh63, hf⟩ := bnd_e hf
  refine k_iast (pc := 377) (c := 2) X (by decide) rfl eh63 (by decide +kernel) ?_
  refine k_dup (pc := 378) X (by decide +kernel) rfl ?_
  refine k_bipush (pc := 379) (n0 := 61) X (by decide +kernel) bi_61 ?_
  refine k_bipush (pc := 381) (n0 := 32) X (by decide +kernel) bi_32 ?_
  obtain ⟨h64, eh64, hf⟩ := bnd_e hf
  refine k_iast (pc := 383) (c := 2) X (by decide) rfl eh64 (by decide +kernel) ?_
  refine k_dup (pc := 384) X (by decide +kernel) rfl ?_
  refine k_bipush (pc := 385) (n0 := 62) X (by decide +kernel) bi_62 ?_
  refine k_bipush (pc := 387) (n0 := 116) X (by decide +kernel) bi_116 ?_
  obtain ⟨h65, eh65, hf⟩ := bnd_e hf
  refine k_iast (pc := 389) (c := 2) X (by decide) rfl eh65 (by decide +kernel) ?_
  refine k_dup (pc := 390) X (by decide +kernel) rfl ?_
  refine k_bipush (pc := 391) (n0 := 63) X (by decide +kernel) bi_63 ?_
  refine k_bipush (pc := 393) (n0 := 104) X (by decide +kernel) bi_104 ?_
  obtain ⟨h66, eh66, hf⟩ := bnd_e hf
  refine k_iast (pc := 395) (c := 2) X (by decide) rfl eh66 (by decide +kernel) ?_
  refine k_dup (pc := 396) X (by decide +kernel) rfl ?_
  refine k_bipush (pc := 397) (n0 := 64) X (by decide +kernel) bi_64 ?_
  refine k_bipush (pc := 399) (n0 := 105) X (by decide +kernel) bi_105 ?_
  obtain ⟨h67, eh67, hf⟩ := bnd_e hf
  refine k_iast (pc := 401) (c := 2) X (by decide) rfl eh67 (by decide +kernel) ?_
  refine k_dup (pc := 402) X (by decide +kernel) rfl ?_
  refine k_bipush (pc := 403) (n0 := 65) X (by decide +kernel) bi_65 ?_
  refine k_bipush (pc := 405) (n0 := 114) X (by decide +kernel) bi_114 ?_
  obtain ⟨h68, eh68, hf⟩ := bnd_e hf
  refine k_iast (pc := 407) (c := 2) X (by decide) rfl eh68 (by decide +kernel) ?_
  refine k_dup (pc := 408) X (by decide +kernel) rfl ?_
  refine k_bipush (pc := 409) (n0 := 66) X (by decide +kernel) bi_66 ?_
  refine k_bipush (pc := 411) (n0 := 115) X (by decide +kernel) bi_115 ?_
  obtain ⟨h69, eh69, hf⟩ := bnd_e hf
  refine k_iast (pc := 413) (c := 2) X (by decide) rfl eh69 (by decide +kernel) ?_
  refine k_dup (pc := 414) X (by decide +kernel) rfl ?_
  refine k_bipush (pc := 415) (n0 := 67) X (by decide +kernel) bi_67 ?_
  refine k_bipush (pc := 417) (n0 := 116) X (by decide +kernel) bi_116 ?_
  obtain ⟨h70, eh70, hf⟩ := bnd_e hf
  refine k_iast (pc := 419) (c := 2) X (by decide) rfl eh70 (by decide +kernel) ?_
  refine k_dup (pc := 420) X (by decide +kernel) rfl ?_
  refine k_bipush (pc := 421) (n0 := 68) X (by decide +kernel) bi_68 ?_
  refine k_bipush (pc := 423) (n0 := 32) X (by decide +kernel) bi_32 ?_
  obtain ⟨h71, eh71, hf⟩ := bnd_e hf
  refine k_iast (pc := 425) (c := 2) X (by decide) rfl eh71 (by decide +kernel) ?_
  refine k_dup (pc := 426) X (by decide +kernel) rfl ?_
  refine k_bipush (pc := 427) (n0 := 69) X (by decide +kernel) bi_69 ?_
  refine k_bipush (pc := 429) (n0 := 112) X (by decide +kernel) bi_112 ?_
  obtain ⟨h72, eh72, hf⟩ := bnd_e hf
  refine k_iast (pc := 431) (c := 2) X (by decide) rfl eh72 (by decide +kernel) ?_
  refine k_dup (pc := 432) X (by decide +kernel) rfl ?_
  refine k_bipush (pc := 433) (n0 := 70) X (by decide +kernel) bi_70 ?_
  refine k_bipush (pc := 435) (n0 := 97) X (by decide +kernel) bi_97 ?_
  obtain ⟨h73, eh73, hf⟩ := bnd_e hf
  refine k_iast (pc := 437) (c := 2) X (by decide) rfl eh73 (by decide +kernel) ?_
  refine k_dup (pc := 438) X (by decide +kernel) rfl ?_
  refine k_bipush (pc := 439) (n0 := 71) X (by decide +kernel) bi_71 ?_
  refine k_bipush (pc := 441) (n0 := 99) X (by decide +kernel) bi_99 ?_
  obtain ⟨h74, eh74, hf⟩ := bnd_e hf
  refine k_iast (pc := 443) (c := 2) X (by decide) rfl eh74 (by decide +kernel) ?_
  refine k_dup (pc := 444) X (by decide +kernel) rfl ?_
  refine k_bipush (pc := 445) (n0 := 72) X (by decide +kernel) bi_72 ?_
  refine k_bipush (pc := 447) (n0 := 101) X (by decide +kernel) bi_101 ?_
  obtain ⟨h75, eh75, hf⟩ := bnd_e hf
  refine k_iast (pc := 449) (c := 2) X (by decide) rfl eh75 (by decide +kernel) ?_
  refine k_dup (pc := 450) X (by decide +kernel) rfl ?_
  refine k_bipush (pc := 451) (n0 := 73) X (by decide +kernel) bi_73 ?_
  refine k_bipush (pc := 453) (n0 := 32) X (by decide +kernel) bi_32 ?_
  obtain ⟨h76, eh76, hf⟩ := bnd_e hf
  refine k_iast (pc := 455) (c := 2) X (by decide) rfl eh76 (by decide +kernel) ?_
  refine k_dup (pc := 456) X (by decide +kernel) rfl ?_
  refine k_bipush (pc := 457) (n0 := 74) X (by decide +kernel) bi_74 ?_
  refine k_bipush (pc := 459) (n0 := 115) X (by decide +kernel) bi_115 ?_
  obtain ⟨h77, eh77, hf⟩ := bnd_e hf
  refine k_iast (pc := 461) (c := 2) X (by decide) rfl eh77 (by decide +kernel) ?_
  refine k_dup (pc := 462) X (by decide +kernel) rfl ?_
  refine k_bipush (pc := 463) (n0 := 75) X (by decide +kernel) bi_75 ?_
  refine k_bipush (pc := 465) (n0 := 105) X (by decide +kernel) bi_105 ?_
  obtain ⟨h78, eh78, hf⟩ := bnd_e hf
  refine k_iast (pc := 467) (c := 2) X (by decide) rfl eh78 (by decide +kernel) ?_
  refine k_dup (pc := 468) X (by decide +kernel) rfl ?_
  refine k_bipush (pc := 469) (n0 := 76) X (by decide +kernel) bi_76 ?_
  refine k_bipush (pc := 471) (n0 := 100) X (by decide +kernel) bi_100 ?_
  obtain ⟨h79, eh79, hf⟩ := bnd_e hf
  refine k_iast (pc := 473) (c := 2) X (by decide) rfl eh79 (by decide +kernel) ?_
  refine k_dup (pc := 474) X (by decide +kernel) rfl ?_
  refine k_bipush (pc := 475) (n0 := 77) X (by decide +kernel) bi_77 ?_
  refine k_bipush (pc := 477) (n0 := 101) X (by decide +kernel) bi_101 ?_
  obtain ⟨h80, eh80, hf⟩ := bnd_e hf
  refine k_iast (pc := 479) (c := 2) X (by decide) rfl eh80 (by decide +kernel) ?_
  refine k_dup (pc := 480) X (by decide +kernel) rfl ?_
  refine k_bipush (pc := 481) (n0 := 78) X (by decide +kernel) bi_78 ?_
  refine k_bipush (pc := 483) (n0 := 32) X (by decide +kernel) bi_32 ?_
  obtain ⟨h81, eh81, hf⟩ := bnd_e hf
  refine k_iast (pc := 485) (c := 2) X (by decide) rfl eh81 (by decide +kernel) ?_
  refine k_dup (pc := 486) X (by decide +kernel) rfl ?_
  refine k_bipush (pc := 487) (n0 := 79) X (by decide +kernel) bi_79 ?_
  refine k_bipush (pc := 489) (n0 := 119) X (by decide +kernel) bi_119 ?_
  obtain ⟨h82, eh82, hf⟩ := bnd_e hf
  refine k_iast (pc := 491) (c := 2) X (by decide) rfl eh82 (by decide +kernel) ?_
  refine k_dup (pc := 492) X (by decide +kernel) rfl ?_
  refine k_bipush (pc := 493) (n0 := 80) X (by decide +kernel) bi_80 ?_
  refine k_bipush (pc := 495) (n0 := 97) X (by decide +kernel) bi_97 ?_
  obtain ⟨h83, eh83, hf⟩ := bnd_e hf
  refine k_iast (pc := 497) (c := 2) X (by decide) rfl eh83 (by decide +kernel) ?_
  refine k_dup (pc := 498) X (by decide +kernel) rfl ?_
  refine k_bipush (pc := 499) (n0 := 81) X (by decide +kernel) bi_81 ?_
  refine k_bipush (pc := 501) (n0 := 116) X (by decide +kernel) bi_116 ?_
  obtain ⟨h84, eh84, hf⟩ := bnd_e hf
  refine k_iast (pc := 503) (c := 2) X (by decide) rfl eh84 (by decide +kernel) ?_
  refine k_dup (pc := 504) X (by decide +kernel) rfl ?_
  refine k_bipush (pc := 505) (n0 := 82) X (by decide +kernel) bi_82 ?_
  refine k_bipush (pc := 507) (n0 := 101) X (by decide +kernel) bi_101 ?_
  obtain ⟨h85, eh85, hf⟩ := bnd_e hf
  refine k_iast (pc := 509) (c := 2) X (by decide) rfl eh85 (by decide +kernel) ?_
  refine k_dup (pc := 510) X (by decide +kernel) rfl ?_
  refine k_bipush (pc := 511) (n0 := 83) X (by decide +kernel) bi_83 ?_
  refine k_bipush (pc := 513) (n0 := 114) X (by decide +kernel) bi_114 ?_
  obtain ⟨h86, eh86, hf⟩ := bnd_e hf
  refine k_iast (pc := 515) (c := 2) X (by decide) rfl eh86 (by decide +kernel) ?_
  refine k_dup (pc := 516) X (by decide +kernel) rfl ?_
  refine k_bipush (pc := 517) (n0 := 84) X (by decide +kernel) bi_84 ?_
  refine k_bipush (pc := 519) (n0 := 32) X (by decide +kernel) bi_32 ?_
  obtain ⟨h87, eh87, hf⟩ := bnd_e hf
  refine k_iast (pc := 521) (c := 2) X (by decide) rfl eh87 (by decide +kernel) ?_
  refine k_dup (pc := 522) X (by decide +kernel) rfl ?_
  refine k_bipush (pc := 523) (n0 := 85) X (by decide +kernel) bi_85 ?_
  refine k_bipush (pc := 525) (n0 := 102) X (by decide +kernel) bi_102 ?_
  obtain ⟨h88, eh88, hf⟩ := bnd_e hf
  refine k_iast (pc := 527) (c := 2) X (by decide) rfl eh88 (by decide +kernel) ?_
  refine k_dup (pc := 528) X (by decide +kernel) rfl ?_
  refine k_bipush (pc := 529) (n0 := 86) X (by decide +kernel) bi_86 ?_
  refine k_bipush (pc := 531) (n0 := 97) X (by decide +kernel) bi_97 ?_
  obtain ⟨h89, eh89, hf⟩ := bnd_e hf
  refine k_iast (pc := 533) (c := 2) X (by decide) rfl eh89 (by decide +kernel) ?_
  refine k_dup (pc := 534) X (by decide +kernel) rfl ?_
  refine k_bipush (pc := 535) (n0 := 87) X (by decide +kernel) bi_87 ?_
  refine k_bipush (pc := 537) (n0 := 114) X (by decide +kernel) bi_114 ?_
  obtain ⟨h90, eh90, hf⟩ := bnd_e hf
  refine k_iast (pc := 539) (c := 2) X (by decide) rfl eh90 (by decide +kernel) ?_
  refine k_dup (pc := 540) X (by decide +kernel) rfl ?_
  refine k_bipush (pc := 541) (n0 := 88) X (by decide +kernel) bi_88 ?_
  refine k_bipush (pc := 543) (n0 := 32) X (by decide +kernel) bi_32 ?_
  obtain ⟨h91, eh91, hf⟩ := bnd_e hf
  refine k_iast (pc := 545) (c := 2) X (by decide) rfl eh91 (by decide +kernel) ?_
  refine k_dup (pc := 546) X (by decide +kernel) rfl ?_
  refine k_bipush (pc := 547) (n0 := 89) X (by decide +kernel) bi_89 ?_
  refine k_bipush (pc := 549) (n0 := 104) X (by decide +kernel) bi_104 ?_
  obtain ⟨h92, eh92, hf⟩ := bnd_e hf
  refine k_iast (pc := 551) (c := 2) X (by decide) rfl eh92 (by decide +kernel) ?_
  refine k_dup (pc := 552) X (by decide +kernel) rfl ?_
  refine k_bipush (pc := 553) (n0 := 90) X (by decide +kernel) bi_90 ?_
  refine k_bipush (pc := 555) (n0 := 117) X (by decide +kernel) bi_117 ?_
  obtain ⟨h93, eh93, hf⟩ := bnd_e hf
  refine k_iast (pc := 557) (c := 2) X (by decide) rfl eh93 (by decide +kernel) ?_
  refine k_dup (pc := 558) X (by decide +kernel) rfl ?_
  refine k_bipush (pc := 559) (n0 := 91) X (by decide +kernel) bi_91 ?_
  refine k_bipush (pc := 561) (n0 := 114) X (by decide +kernel) bi_114 ?_
  obtain ⟨h94, eh94, hf⟩ := bnd_e hf
  refine k_iast (pc := 563) (c := 2) X (by decide) rfl eh94 (by decide +kernel) ?_
  refine k_dup (pc := 564) X (by decide +kernel) rfl ?_
  refine k_bipush (pc := 565) (n0 := 92) X (by decide +kernel) bi_92 ?_
  refine k_bipush (pc := 567) (n0 := 116) X (by decide +kernel) bi_116 ?_
  obtain ⟨h95, eh95, hf⟩ := bnd_e hf
  refine k_iast (pc := 569) (c := 2) X (by decide) rfl eh95 (by decide +kernel) ?_
  refine k_dup (pc := 570) X (by decide +kernel) rfl ?_
  refine k_bipush (pc := 571) (n0 := 93) X (by decide +kernel) bi_93 ?_
  refine k_bipush (pc := 573) (n0 := 32) X (by decide +kernel) bi_32 ?_
  obtain ⟨h96, eh96, hf⟩ := bnd_e hf
  refine k_iast (pc := 575) (c := 2) X (by decide) rfl eh96 (by decide +kernel) ?_
  refine k_dup (pc := 576) X (by decide +kernel) rfl ?_
  refine k_bipush (pc := 577) (n0 := 94) X (by decide +kernel) bi_94 ?_
  refine k_bipush (pc := 579) (n0 := 104) X (by decide +kernel) bi_104 ?_
  obtain ⟨h97, eh97, hf⟩ := bnd_e hf
  refine k_iast (pc := 581) (c := 2) X (by decide) rfl eh97 (by decide +kernel) ?_
  refine k_dup (pc := 582) X (by decide +kernel) rfl ?_
  refine k_bipush (pc := 583) (n0 := 95) X (by decide +kernel) bi_95 ?_
  refine k_bipush (pc := 585) (n0 := 111) X (by decide +kernel) bi_111 ?_
  obtain ⟨h98, eh98, hf⟩ := bnd_e hf
  refine k_iast (pc := 587) (c := 2) X (by decide) rfl eh98 (by decide +kernel) ?_
  refine k_dup (pc := 588) X (by decide +kernel) rfl ?_
  refine k_bipush (pc := 589) (n0 := 96) X (by decide +kernel) bi_96 ?_
  refine k_bipush (pc := 591) (n0 := 117) X (by decide +kernel) bi_117 ?_
  obtain ⟨h99, eh99, hf⟩ := bnd_e hf
  refine k_iast (pc := 593) (c := 2) X (by decide) rfl eh99 (by decide +kernel) ?_
  refine k_dup (pc := 594) X (by decide +kernel) rfl ?_
  refine k_bipush (pc := 595) (n0 := 97) X (by decide +kernel) bi_97 ?_
  refine k_bipush (pc := 597) (n0 := 114) X (by decide +kernel) bi_114 ?_
  obtain ⟨h100, eh100, hf⟩ := bnd_e hf
  refine k_iast (pc := 599) (c := 2) X (by decide) rfl eh100 (by decide +kernel) ?_
  refine k_dup (pc := 600) X (by decide +kernel) rfl ?_
  refine k_bipush (pc := 601) (n0 := 98) X (by decide +kernel) bi_98 ?_
  refine k_bipush (pc := 603) (n0 := 32) X (by decide +kernel) bi_32 ?_
  obtain ⟨h101, eh101, hf⟩ := bnd_e hf
  refine k_iast (pc := 605) (c := 2) X (by decide) rfl eh101 (by decide +kernel) ?_
  refine k_puta (pc := 606) (c := 0) (t := 2) X ff_12_13 (by decide) rfl rfl rfl (by decide +kernel) (by decide +kernel) ?_
  refine k_aload_n (pc := 609) (i := 0) X (by decide +kernel) 0 rfl ?_
  refine k_iconst (pc := 610) (n0 := -1) X (by decide +kernel) ic_m1 ?_
  obtain ⟨h102, eh102, hf⟩ := nmd_e hf
  refine k_puti (pc := 611) (c := 0) X fp_12_16 (by decide) rfl rfl (by decide +kernel) eh102 ?_
  refine k_aload_n (pc := 614) (i := 0) X (by decide +kernel) 0 rfl ?_
  refine k_iconst (pc := 615) (n0 := 2) X (by decide +kernel) ic_2 ?_
  obtain ⟨h103, eh103, hf⟩ := nmd_e hf
  refine k_newa_z (pc := 616) (n := 3) (N := 2) X ac_boolean rfl rfl (by decide) (by decide) (by decide) ⟨Nat.le_of_ble_eq_true rfl, Nat.le_of_ble_eq_true rfl⟩ (by decide +kernel) eh103 ?_
  change VK E g dR z 1 4 2 3 801 618 [(0, .ref (rz z 0))] [.ref (rz z 3), .ref (rz z 0)] h103
  refine k_puta (pc := 618) (c := 0) (t := 3) X ff_12_20 (by decide) rfl rfl rfl (by decide +kernel) (by decide +kernel) ?_
  refine k_aload_n (pc := 621) (i := 0) X (by decide +kernel) 0 rfl ?_
  refine k_iconst (pc := 622) (n0 := 4) X (by decide +kernel) ic_4 ?_
  obtain ⟨h104, eh104, hf⟩ := nmd_e hf
  refine k_newa_i (pc := 623) (n := 4) (N := 4) X ac_int rfl rfl (by decide) (by decide) (by decide) ⟨Nat.le_of_ble_eq_true rfl, Nat.le_of_ble_eq_true rfl⟩ (by decide +kernel) eh104 ?_
  change VK E g dR z 1 5 3 4 805 625 [(0, .ref (rz z 0))] [.ref (rz z 4), .ref (rz z 0)] h104
  refine k_puta (pc := 625) (c := 0) (t := 4) X ff_12_24 (by decide) rfl rfl rfl (by decide +kernel) (by decide +kernel) ?_
  refine k_aload_n (pc := 628) (i := 0) X (by decide +kernel) 0 rfl ?_
  refine k_bipush (pc := 629) (n0 := 12) X (by decide +kernel) bi_12 ?_
  obtain ⟨h105, eh105, hf⟩ := nmd_e hf
  refine k_newa_i (pc := 631) (n := 5) (N := 12) X ac_int rfl rfl (by decide) (by decide) (by decide) ⟨Nat.le_of_ble_eq_true rfl, Nat.le_of_ble_eq_true rfl⟩ (by decide +kernel) eh105 ?_
  change VK E g dR z 1 6 4 5 817 633 [(0, .ref (rz z 0))] [.ref (rz z 5), .ref (rz z 0)] h105
  refine k_puta (pc := 633) (c := 0) (t := 5) X ff_12_27 (by decide) rfl rfl rfl (by decide +kernel) (by decide +kernel) ?_
  refine k_aload_n (pc := 636) (i := 0) X (by decide +kernel) 0 rfl ?_
  refine k_bipush (pc := 637) (n0 := 12) X (by decide +kernel) bi_12 ?_
  obtain ⟨h106, eh106, hf⟩ := nmd_e hf
  refine k_newa_i (pc := 639) (n := 6) (N := 12) X ac_int rfl rfl (by decide) (by decide) (by decide) ⟨Nat.le_of_ble_eq_true rfl, Nat.le_of_ble_eq_true rfl⟩ (by decide +kernel) eh106 ?_
  change VK E g dR z 1 7 5 6 829 641 [(0, .ref (rz z 0))] [.ref (rz z 6), .ref (rz z 0)] h106
  refine k_puta (pc := 641) (c := 0) (t := 6) X ff_12_30 (by decide) rfl rfl rfl (by decide +kernel) (by decide +kernel) ?_
  refine k_aload_n (pc := 644) (i := 0) X (by decide +kernel) 0 rfl ?_
  refine k_bipush (pc := 645) (n0 := 12) X (by decide +kernel) bi_12 ?_
  obtain ⟨h107, eh107, hf⟩ := nmd_e hf
  refine k_newa_i (pc := 647) (n := 7) (N := 12) X ac_int rfl rfl (by decide) (by decide) (by decide) ⟨Nat.le_of_ble_eq_true rfl, Nat.le_of_ble_eq_true rfl⟩ (by decide +kernel) eh107 ?_
  change VK E g dR z 1 8 6 7 841 649 [(0, .ref (rz z 0))] [.ref (rz z 7), .ref (rz z 0)] h107
  refine k_puta (pc := 649) (c := 0) (t := 7) X ff_12_33 (by decide) rfl rfl rfl (by decide +kernel) (by decide +kernel) ?_
  refine k_aload_n (pc := 652) (i := 0) X (by decide +kernel) 0 rfl ?_
  refine k_bipush (pc := 653) (n0 := 12) X (by decide +kernel) bi_12 ?_
  obtain ⟨h108, eh108, hf⟩ := nmd_e hf
  refine k_newa_i (pc := 655) (n := 8) (N := 12) X ac_int rfl rfl (by decide) (by decide) (by decide) ⟨Nat.le_of_ble_eq_true rfl, Nat.le_of_ble_eq_true rfl⟩ (by decide +kernel) eh108 ?_
  change VK E g dR z 1 9 7 8 853 657 [(0, .ref (rz z 0))] [.ref (rz z 8), .ref (rz z 0)] h108
  refine k_puta (pc := 657) (c := 0) (t := 8) X ff_12_36 (by decide) rfl rfl rfl (by decide +kernel) (by decide +kernel) ?_
  refine k_aload_n (pc := 660) (i := 0) X (by decide +kernel) 0 rfl ?_
  refine k_bipush (pc := 661) (n0 := 12) X (by decide +kernel) bi_12 ?_
  obtain ⟨h109, eh109, hf⟩ := nmd_e hf
  refine k_newa_i (pc := 663) (n := 9) (N := 12) X ac_int rfl rfl (by decide) (by decide) (by decide) ⟨Nat.le_of_ble_eq_true rfl, Nat.le_of_ble_eq_true rfl⟩ (by decide +kernel) eh109 ?_
  change VK E g dR z 1 10 8 9 865 665 [(0, .ref (rz z 0))] [.ref (rz z 9), .ref (rz z 0)] h109
  refine k_puta (pc := 665) (c := 0) (t := 9) X ff_12_39 (by decide) rfl rfl rfl (by decide +kernel) (by decide +kernel) ?_
  refine k_aload_n (pc := 668) (i := 0) X (by decide +kernel) 0 rfl ?_
  refine k_bipush (pc := 669) (n0 := 12) X (by decide +kernel) bi_12 ?_
  obtain ⟨h110, eh110, hf⟩ := nmd_e hf
  refine k_newa_i (pc := 671) (n := 10) (N := 12) X ac_int rfl rfl (by decide) (by decide) (by decide) ⟨Nat.le_of_ble_eq_true rfl, Nat.le_of_ble_eq_true rfl⟩ (by decide +kernel) eh110 ?_
  change VK E g dR z 1 11 9 10 877 673 [(0, .ref (rz z 0))] [.ref (rz z 10), .ref (rz z 0)] h110
  refine k_puta (pc := 673) (c := 0) (t := 10) X ff_12_42 (by decide) rfl rfl rfl (by decide +kernel) (by decide +kernel) ?_
  refine k_aload_n (pc := 676) (i := 0) X (by decide +kernel) 0 rfl ?_
  refine k_bipush (pc := 677) (n0 := 12) X (by decide +kernel) bi_12 ?_
  obtain ⟨h111, eh111, hf⟩ := nmd_e hf
  refine k_newa_i (pc := 679) (n := 11) (N := 12) X ac_int rfl rfl (by decide) (by decide) (by decide) ⟨Nat.le_of_ble_eq_true rfl, Nat.le_of_ble_eq_true rfl⟩ (by decide +kernel) eh111 ?_
  change VK E g dR z 1 12 10 11 889 681 [(0, .ref (rz z 0))] [.ref (rz z 11), .ref (rz z 0)] h111
  refine k_puta (pc := 681) (c := 0) (t := 11) X ff_12_45 (by decide) rfl rfl rfl (by decide +kernel) (by decide +kernel) ?_
  refine k_aload_n (pc := 684) (i := 0) X (by decide +kernel) 0 rfl ?_
  refine k_bipush (pc := 685) (n0 := 12) X (by decide +kernel) bi_12 ?_
  obtain ⟨h112, eh112, hf⟩ := nmd_e hf
  refine k_newa_i (pc := 687) (n := 12) (N := 12) X ac_int rfl rfl (by decide) (by decide) (by decide) ⟨Nat.le_of_ble_eq_true rfl, Nat.le_of_ble_eq_true rfl⟩ (by decide +kernel) eh112 ?_
  change VK E g dR z 1 13 11 12 901 689 [(0, .ref (rz z 0))] [.ref (rz z 12), .ref (rz z 0)] h112
  refine k_puta (pc := 689) (c := 0) (t := 12) X ff_12_48 (by decide) rfl rfl rfl (by decide +kernel) (by decide +kernel) ?_
  refine k_aload_n (pc := 692) (i := 0) X (by decide +kernel) 0 rfl ?_
  refine k_bipush (pc := 693) (n0 := 12) X (by decide +kernel) bi_12 ?_
  obtain ⟨h113, eh113, hf⟩ := nmd_e hf
  refine k_newa_i (pc := 695) (n := 13) (N := 12) X ac_int rfl rfl (by decide) (by decide) (by decide) ⟨Nat.le_of_ble_eq_true rfl, Nat.le_of_ble_eq_true rfl⟩ (by decide +kernel) eh113 ?_
  change VK E g dR z 1 14 12 13 913 697 [(0, .ref (rz z 0))] [.ref (rz z 13), .ref (rz z 0)] h113
  refine k_puta (pc := 697) (c := 0) (t := 13) X ff_12_51 (by decide) rfl rfl rfl (by decide +kernel) (by decide +kernel) ?_
  refine k_aload_n (pc := 700) (i := 0) X (by decide +kernel) 0 rfl ?_
  refine k_bipush (pc := 701) (n0 := 24) X (by decide +kernel) bi_24 ?_
  obtain ⟨h114, eh114, hf⟩ := nmd_e hf
  refine k_newa_i (pc := 703) (n := 14) (N := 24) X ac_int rfl rfl (by decide) (by decide) (by decide) ⟨Nat.le_of_ble_eq_true rfl, Nat.le_of_ble_eq_true rfl⟩ (by decide +kernel) eh114 ?_
  change VK E g dR z 1 15 13 14 937 705 [(0, .ref (rz z 0))] [.ref (rz z 14), .ref (rz z 0)] h114
  refine k_puta (pc := 705) (c := 0) (t := 14) X ff_12_54 (by decide) rfl rfl rfl (by decide +kernel) (by decide +kernel) ?_
  refine k_aload_n (pc := 708) (i := 0) X (by decide +kernel) 0 rfl ?_
  refine k_bipush (pc := 709) (n0 := 24) X (by decide +kernel) bi_24 ?_
  obtain ⟨h115, eh115, hf⟩ := nmd_e hf
  refine k_newa_i (pc := 711) (n := 15) (N := 24) X ac_int rfl rfl (by decide) (by decide) (by decide) ⟨Nat.le_of_ble_eq_true rfl, Nat.le_of_ble_eq_true rfl⟩ (by decide +kernel) eh115 ?_
  change VK E g dR z 1 16 14 15 961 713 [(0, .ref (rz z 0))] [.ref (rz z 15), .ref (rz z 0)] h115
  refine k_puta (pc := 713) (c := 0) (t := 15) X ff_12_57 (by decide) rfl rfl rfl (by decide +kernel) (by decide +kernel) ?_
  refine k_aload_n (pc := 716) (i := 0) X (by decide +kernel) 0 rfl ?_
  refine k_bipush (pc := 717) (n0 := 24) X (by decide +kernel) bi_24 ?_
  obtain ⟨h116, eh116, hf⟩ := nmd_e hf
  refine k_newa_i (pc := 719) (n := 16) (N := 24) X ac_int rfl rfl (by decide) (by decide) (by decide) ⟨Nat.le_of_ble_eq_true rfl, Nat.le_of_ble_eq_true rfl⟩ (by decide +kernel) eh116 ?_
  change VK E g dR z 1 17 15 16 985 721 [(0, .ref (rz z 0))] [.ref (rz z 16), .ref (rz z 0)] h116
  refine k_puta (pc := 721) (c := 0) (t := 16) X ff_12_60 (by decide) rfl rfl rfl (by decide +kernel) (by decide +kernel) ?_
  refine k_aload_n (pc := 724) (i := 0) X (by decide +kernel) 0 rfl ?_
  refine k_bipush (pc := 725) (n0 := 6) X (by decide +kernel) bi_6 ?_
  obtain ⟨h117, eh117, hf⟩ := nmd_e hf
  refine k_newa_z (pc := 727) (n := 17) (N := 6) X ac_boolean rfl rfl (by decide) (by decide) (by decide) ⟨Nat.le_of_ble_eq_true rfl, Nat.le_of_ble_eq_true rfl⟩ (by decide +kernel) eh117 ?_
  change VK E g dR z 1 18 16 17 991 729 [(0, .ref (rz z 0))] [.ref (rz z 17), .ref (rz z 0)] h117
  refine k_puta (pc := 729) (c := 0) (t := 17) X ff_12_63 (by decide) rfl rfl rfl (by decide +kernel) (by decide +kernel) ?_
  refine k_aload_n (pc := 732) (i := 0) X (by decide +kernel) 0 rfl ?_
  refine k_bipush (pc := 733) (n0 := 6) X (by decide +kernel) bi_6 ?_
  obtain ⟨h118, eh118, hf⟩ := nmd_e hf
  refine k_newa_i (pc := 735) (n := 18) (N := 6) X ac_int rfl rfl (by decide) (by decide) (by decide) ⟨Nat.le_of_ble_eq_true rfl, Nat.le_of_ble_eq_true rfl⟩ (by decide +kernel) eh118 ?_
  change VK E g dR z 1 19 17 18 997 737 [(0, .ref (rz z 0))] [.ref (rz z 18), .ref (rz z 0)] h118
  refine k_puta (pc := 737) (c := 0) (t := 18) X ff_12_66 (by decide) rfl rfl rfl (by decide +kernel) (by decide +kernel) ?_
  refine k_aload_n (pc := 740) (i := 0) X (by decide +kernel) 0 rfl ?_
  refine k_bipush (pc := 741) (n0 := 6) X (by decide +kernel) bi_6 ?_
  obtain ⟨h119, eh119, hf⟩ := nmd_e hf
  refine k_newa_i (pc := 743) (n := 19) (N := 6) X ac_int rfl rfl (by decide) (by decide) (by decide) ⟨Nat.le_of_ble_eq_true rfl, Nat.le_of_ble_eq_true rfl⟩ (by decide +kernel) eh119 ?_
  change VK E g dR z 1 20 18 19 1003 745 [(0, .ref (rz z 0))] [.ref (rz z 19), .ref (rz z 0)] h119
  refine k_puta (pc := 745) (c := 0) (t := 19) X ff_12_69 (by decide) rfl rfl rfl (by decide +kernel) (by decide +kernel) ?_
  refine k_aload_n (pc := 748) (i := 0) X (by decide +kernel) 0 rfl ?_
  refine k_sipush (pc := 749) (n0 := 128) X (by decide +kernel) si_128 ?_
  obtain ⟨h120, eh120, hf⟩ := nmd_e hf
  refine k_newa_i (pc := 752) (n := 20) (N := 128) X ac_int rfl rfl (by decide) (by decide) (by decide) ⟨Nat.le_of_ble_eq_true rfl, Nat.le_of_ble_eq_true rfl⟩ (by decide +kernel) eh120 ?_
  change VK E g dR z 1 21 19 20 1131 754 [(0, .ref (rz z 0))] [.ref (rz z 20), .ref (rz z 0)] h120
  refine k_puta (pc := 754) (c := 0) (t := 20) X ff_12_72 (by decide) rfl rfl rfl (by decide +kernel) (by decide +kernel) ?_
  refine k_aload_n (pc := 757) (i := 0) X (by decide +kernel) 0 rfl ?_
  refine k_sipush (pc := 758) (n0 := 128) X (by decide +kernel) si_128 ?_
  obtain ⟨h121, eh121, hf⟩ := nmd_e hf
  refine k_newa_i (pc := 761) (n := 21) (N := 128) X ac_int rfl rfl (by decide) (by decide) (by decide) ⟨Nat.le_of_ble_eq_true rfl, Nat.le_of_ble_eq_true rfl⟩ (by decide +kernel) eh121 ?_
  change VK E g dR z 1 22 20 21 1259 763 [(0, .ref (rz z 0))] [.ref (rz z 21), .ref (rz z 0)] h121
  refine k_puta (pc := 763) (c := 0) (t := 21) X ff_12_75 (by decide) rfl rfl rfl (by decide +kernel) (by decide +kernel) ?_
  refine k_aload_n (pc := 766) (i := 0) X (by decide +kernel) 0 rfl ?_
  refine k_sipush (pc := 767) (n0 := 128) X (by decide +kernel) si_128 ?_
  obtain ⟨h122, eh122, hf⟩ := nmd_e hf
  refine k_newa_i (pc := 770) (n := 22) (N := 128) X ac_int rfl rfl (by decide) (by decide) (by decide) ⟨Nat.le_of_ble_eq_true rfl, Nat.le_of_ble_eq_true rfl⟩ (by decide +kernel) eh122 ?_
  change VK E g dR z 1 23 21 22 1387 772 [(0, .ref (rz z 0))] [.ref (rz z 22), .ref (rz z 0)] h122
  refine k_puta (pc := 772) (c := 0) (t := 22) X ff_12_78 (by decide) rfl rfl rfl (by decide +kernel) (by decide +kernel) ?_
  refine k_aload_n (pc := 775) (i := 0) X (by decide +kernel) 0 rfl ?_
  refine k_bipush (pc := 776) (n0 := 96) X (by decide +kernel) bi_96 ?_
  obtain ⟨h123, eh123, hf⟩ := nmd_e hf
  refine k_newa_i (pc := 778) (n := 23) (N := 96) X ac_int rfl rfl (by decide) (by decide) (by decide) ⟨Nat.le_of_ble_eq_true rfl, Nat.le_of_ble_eq_true rfl⟩ (by decide +kernel) eh123 ?_
  change VK E g dR z 1 24 22 23 1483 780 [(0, .ref (rz z 0))] [.ref (rz z 23), .ref (rz z 0)] h123
  refine k_puta (pc := 780) (c := 0) (t := 23) X ff_12_81 (by decide) rfl rfl rfl (by decide +kernel) (by decide +kernel) ?_
  refine k_aload_n (pc := 783) (i := 0) X (by decide +kernel) 0 rfl ?_
  refine k_bipush (pc := 784) (n0 := 96) X (by decide +kernel) bi_96 ?_
  obtain ⟨h124, eh124, hf⟩ := nmd_e hf
  refine k_newa_i (pc := 786) (n := 24) (N := 96) X ac_int rfl rfl (by decide) (by decide) (by decide) ⟨Nat.le_of_ble_eq_true rfl, Nat.le_of_ble_eq_true rfl⟩ (by decide +kernel) eh124 ?_
  change VK E g dR z 1 25 23 24 1579 788 [(0, .ref (rz z 0))] [.ref (rz z 24), .ref (rz z 0)] h124
  refine k_puta (pc := 788) (c := 0) (t := 24) X ff_12_84 (by decide) rfl rfl rfl (by decide +kernel) (by decide +kernel) ?_
  refine k_aload_n (pc := 791) (i := 0) X (by decide +kernel) 0 rfl ?_
  refine k_bipush (pc := 792) (n0 := 7) X (by decide +kernel) bi_7 ?_
  obtain ⟨h125, eh125, hf⟩ := nmd_e hf
  refine k_newa_l (pc := 794) (n := 25) (N := 7) X ac_long rfl rfl (by decide) (by decide) (by decide) ⟨Nat.le_of_ble_eq_true rfl, Nat.le_of_ble_eq_true rfl⟩ (by decide +kernel) eh125 ?_
  change VK E g dR z 1 26 24 25 1586 796 [(0, .ref (rz z 0))] [.ref (rz z 25), .ref (rz z 0)] h125
  refine k_puta (pc := 796) (c := 0) (t := 25) X ff_12_87 (by decide) rfl rfl rfl (by decide +kernel) (by decide +kernel) ?_
  refine k_aload_n (pc := 799) (i := 0) X (by decide +kernel) 0 rfl ?_
  refine k_bipush (pc := 800) (n0 := 64) X (by decide +kernel) bi_64 ?_
  obtain ⟨h126, eh126, hf⟩ := nmd_e hf
  refine k_newa_l (pc := 802) (n := 26) (N := 64) X ac_long rfl rfl (by decide) (by decide) (by decide) ⟨Nat.le_of_ble_eq_true rfl, Nat.le_of_ble_eq_true rfl⟩ (by decide +kernel) eh126 ?_
  change VK E g dR z 1 27 25 26 1650 804 [(0, .ref (rz z 0))] [.ref (rz z 26), .ref (rz z 0)] h126
  refine k_puta (pc := 804) (c := 0) (t := 26) X ff_12_91 (by decide) rfl rfl rfl (by decide +kernel) (by decide +kernel) ?_
  refine k_aload_n (pc := 807) (i := 0) X (by decide +kernel) 0 rfl ?_
  refine k_bipush (pc := 808) (n0 := 12) X (by decide +kernel) bi_12 ?_
  obtain ⟨h127, eh127, hf⟩ := nmd_e hf
  refine k_newa_i (pc := 810) (n := 27) (N := 12) X ac_int rfl rfl (by decide) (by decide) (by decide) ⟨Nat.le_of_ble_eq_true rfl, Nat.le_of_ble_eq_true rfl⟩ (by decide +kernel) eh127 ?_
  change VK E g dR z 1 28 26 27 1662 812 [(0, .ref (rz z 0))] [.ref (rz z 27), .ref (rz z 0)] h127
  refine k_puta (pc := 812) (c := 0) (t := 27) X ff_12_94 (by decide) rfl rfl rfl (by decide +kernel) (by decide +kernel) ?_
  refine k_aload_n (pc := 815) (i := 0) X (by decide +kernel) 0 rfl ?_
  refine k_bipush (pc := 816) (n0 := 12) X (by decide +kernel) bi_12 ?_
  obtain ⟨h128, eh128, hf⟩ := nmd_e hf
  refine k_newa_i (pc := 818) (n := 28) (N := 12) X ac_int rfl rfl (by decide) (by decide) (by decide) ⟨Nat.le_of_ble_eq_true rfl, Nat.le_of_ble_eq_true rfl⟩ (by decide +kernel) eh128 ?_
  change VK E g dR z 1 29 27 28 1674 820 [(0, .ref (rz z 0))] [.ref (rz z 28), .ref (rz z 0)] h128
  refine k_puta (pc := 820) (c := 0) (t := 28) X ff_12_97 (by decide) rfl rfl rfl (by decide +kernel) (by decide +kernel) ?_
  refine k_aload_n (pc := 823) (i := 0) X (by decide +kernel) 0 rfl ?_
  refine k_bipush (pc := 824) (n0 := 12) X (by decide +kernel) bi_12 ?_
  obtain ⟨h129, eh129, hf⟩ := nmd_e hf
  refine k_newa_i (pc := 826) (n := 29) (N := 12) X ac_int rfl rfl (by decide) (by decide) (by decide) ⟨Nat.le_of_ble_eq_true rfl, Nat.le_of_ble_eq_true rfl⟩ (by decide +kernel) eh129 ?_
  change VK E g dR z 1 30 28 29 1686 828 [(0, .ref (rz z 0))] [.ref (rz z 29), .ref (rz z 0)] h129
  refine k_puta (pc := 828) (c := 0) (t := 29) X ff_12_100 (by decide) rfl rfl rfl (by decide +kernel) (by decide +kernel) ?_
  refine k_aload_n (pc := 831) (i := 0) X (by decide +kernel) 0 rfl ?_
  refine k_bipush (pc := 832) (n0 := 12) X (by decide +kernel) bi_12 ?_
  obtain ⟨h130, eh130, hf⟩ := nmd_e hf
  refine k_newa_i (pc := 834) (n := 30) (N := 12) X ac_int rfl rfl (by decide) (by decide) (by decide) ⟨Nat.le_of_ble_eq_true rfl, Nat.le_of_ble_eq_true rfl⟩ (by decide +kernel) eh130 ?_
  change VK E g dR z 1 31 29 30 1698 836 [(0, .ref (rz z 0))] [.ref (rz z 30), .ref (rz z 0)] h130
  refine k_puta (pc := 836) (c := 0) (t := 30) X ff_12_103 (by decide) rfl rfl rfl (by decide +kernel) (by decide +kernel) ?_
  refine k_aload_n (pc := 839) (i := 0) X (by decide +kernel) 0 rfl ?_
  refine k_bipush (pc := 840) (n0 := 12) X (by decide +kernel) bi_12 ?_
  obtain ⟨h131, eh131, hf⟩ := nmd_e hf
  refine k_newa_z (pc := 842) (n := 31) (N := 12) X ac_boolean rfl rfl (by decide) (by decide) (by decide) ⟨Nat.le_of_ble_eq_true rfl, Nat.le_of_ble_eq_true rfl⟩ (by decide +kernel) eh131 ?_
  change VK E g dR z 1 32 30 31 1710 844 [(0, .ref (rz z 0))] [.ref (rz z 31), .ref (rz z 0)] h131
  refine k_puta (pc := 844) (c := 0) (t := 31) X ff_12_106 (by decide) rfl rfl rfl (by decide +kernel) (by decide +kernel) ?_
  refine k_aload_n (pc := 847) (i := 0) X (by decide +kernel) 0 rfl ?_
  refine k_bipush (pc := 848) (n0 := 12) X (by decide +kernel) bi_12 ?_
  obtain ⟨h132, eh132, hf⟩ := nmd_e hf
  refine k_newa_i (pc := 850) (n := 32) (N := 12) X ac_int rfl rfl (by decide) (by decide) (by decide) ⟨Nat.le_of_ble_eq_true rfl, Nat.le_of_ble_eq_true rfl⟩ (by decide +kernel) eh132 ?_
  change VK E g dR z 1 33 31 32 1722 852 [(0, .ref (rz z 0))] [.ref (rz z 32), .ref (rz z 0)] h132
  refine k_puta (pc := 852) (c := 0) (t := 32) X ff_12_109 (by decide) rfl rfl rfl (by decide +kernel) (by decide +kernel) ?_
  refine k_aload_n (pc := 855) (i := 0) X (by decide +kernel) 0 rfl ?_
  refine k_bipush (pc := 856) (n0 := 12) X (by decide +kernel) bi_12 ?_
  obtain ⟨h133, eh133, hf⟩ := nmd_e hf
  refine k_newa_i (pc := 858) (n := 33) (N := 12) X ac_int rfl rfl (by decide) (by decide) (by decide) ⟨Nat.le_of_ble_eq_true rfl, Nat.le_of_ble_eq_true rfl⟩ (by decide +kernel) eh133 ?_
  change VK E g dR z 1 34 32 33 1734 860 [(0, .ref (rz z 0))] [.ref (rz z 33), .ref (rz z 0)] h133
  refine k_puta (pc := 860) (c := 0) (t := 33) X ff_12_112 (by decide) rfl rfl rfl (by decide +kernel) (by decide +kernel) ?_
  refine k_aload_n (pc := 863) (i := 0) X (by decide +kernel) 0 rfl ?_
  refine k_iconst (pc := 864) (n0 := 2) X (by decide +kernel) ic_2 ?_
  obtain ⟨h134, eh134, hf⟩ := nmd_e hf
  refine k_newa_i (pc := 865) (n := 34) (N := 2) X ac_int rfl rfl (by decide) (by decide) (by decide) ⟨Nat.le_of_ble_eq_true rfl, Nat.le_of_ble_eq_true rfl⟩ (by decide +kernel) eh134 ?_
  change VK E g dR z 1 35 33 34 1736 867 [(0, .ref (rz z 0))] [.ref (rz z 34), .ref (rz z 0)] h134
  refine k_puta (pc := 867) (c := 0) (t := 34) X ff_12_115 (by decide) rfl rfl rfl (by decide +kernel) (by decide +kernel) ?_
  refine k_aload_n (pc := 870) (i := 0) X (by decide +kernel) 0 rfl ?_
  refine k_iconst (pc := 871) (n0 := 2) X (by decide +kernel) ic_2 ?_
  obtain ⟨h135, eh135, hf⟩ := nmd_e hf
  refine k_newa_i (pc := 872) (n := 35) (N := 2) X ac_int rfl rfl (by decide) (by decide) (by decide) ⟨Nat.le_of_ble_eq_true rfl, Nat.le_of_ble_eq_true rfl⟩ (by decide +kernel) eh135 ?_
  change VK E g dR z 1 36 34 35 1738 874 [(0, .ref (rz z 0))] [.ref (rz z 35), .ref (rz z 0)] h135
  refine k_puta (pc := 874) (c := 0) (t := 35) X ff_12_118 (by decide) rfl rfl rfl (by decide +kernel) (by decide +kernel) ?_
  refine k_aload_n (pc := 877) (i := 0) X (by decide +kernel) 0 rfl ?_
  refine k_iconst (pc := 878) (n0 := 2) X (by decide +kernel) ic_2 ?_
  obtain ⟨h136, eh136, hf⟩ := nmd_e hf
  refine k_newa_i (pc := 879) (n := 36) (N := 2) X ac_int rfl rfl (by decide) (by decide) (by decide) ⟨Nat.le_of_ble_eq_true rfl, Nat.le_of_ble_eq_true rfl⟩ (by decide +kernel) eh136 ?_
  change VK E g dR z 1 37 35 36 1740 881 [(0, .ref (rz z 0))] [.ref (rz z 36), .ref (rz z 0)] h136
  refine k_puta (pc := 881) (c := 0) (t := 36) X ff_12_121 (by decide) rfl rfl rfl (by decide +kernel) (by decide +kernel) ?_
  refine k_aload_n (pc := 884) (i := 0) X (by decide +kernel) 0 rfl ?_
  refine k_iconst (pc := 885) (n0 := 2) X (by decide +kernel) ic_2 ?_
  obtain ⟨h137, eh137, hf⟩ := nmd_e hf
  refine k_newa_i (pc := 886) (n := 37) (N := 2) X ac_int rfl rfl (by decide) (by decide) (by decide) ⟨Nat.le_of_ble_eq_true rfl, Nat.le_of_ble_eq_true rfl⟩ (by decide +kernel) eh137 ?_
  change VK E g dR z 1 38 36 37 1742 888 [(0, .ref (rz z 0))] [.ref (rz z 37), .ref (rz z 0)] h137
  refine k_puta (pc := 888) (c := 0) (t := 37) X ff_12_124 (by decide) rfl rfl rfl (by decide +kernel) (by decide +kernel) ?_
  refine k_aload_n (pc := 891) (i := 0) X (by decide +kernel) 0 rfl ?_
  refine k_iconst (pc := 892) (n0 := 2) X (by decide +kernel) ic_2 ?_
  obtain ⟨h138, eh138, hf⟩ := nmd_e hf
  refine k_newa_i (pc := 893) (n := 38) (N := 2) X ac_int rfl rfl (by decide) (by decide) (by decide) ⟨Nat.le_of_ble_eq_true rfl, Nat.le_of_ble_eq_true rfl⟩ (by decide +kernel) eh138 ?_
  change VK E g dR z 1 39 37 38 1744 895 [(0, .ref (rz z 0))] [.ref (rz z 38), .ref (rz z 0)] h138
  refine k_puta (pc := 895) (c := 0) (t := 38) X ff_12_127 (by decide) rfl rfl rfl (by decide +kernel) (by decide +kernel) ?_
  refine k_aload_n (pc := 898) (i := 0) X (by decide +kernel) 0 rfl ?_
  refine k_iconst (pc := 899) (n0 := 2) X (by decide +kernel) ic_2 ?_
  obtain ⟨h139, eh139, hf⟩ := nmd_e hf
  refine k_newa_i (pc := 900) (n := 39) (N := 2) X ac_int rfl rfl (by decide) (by decide) (by decide) ⟨Nat.le_of_ble_eq_true rfl, Nat.le_of_ble_eq_true rfl⟩ (by decide +kernel) eh139 ?_
  change VK E g dR z 1 40 38 39 1746 902 [(0, .ref (rz z 0))] [.ref (rz z 39), .ref (rz z 0)] h139
  refine k_puta (pc := 902) (c := 0) (t := 39) X ff_12_130 (by decide) rfl rfl rfl (by decide +kernel) (by decide +kernel) ?_
  refine k_aload_n (pc := 905) (i := 0) X (by decide +kernel) 0 rfl ?_
  refine k_bipush (pc := 906) (n0 := 12) X (by decide +kernel) bi_12 ?_
  obtain ⟨h140, eh140, hf⟩ := nmd_e hf
  refine k_newa_i (pc := 908) (n := 40) (N := 12) X ac_int rfl rfl (by decide) (by decide) (by decide) ⟨Nat.le_of_ble_eq_true rfl, Nat.le_of_ble_eq_true rfl⟩ (by decide +kernel) eh140 ?_
  change VK E g dR z 1 41 39 40 1758 910 [(0, .ref (rz z 0))] [.ref (rz z 40), .ref (rz z 0)] h140
  refine k_puta (pc := 910) (c := 0) (t := 40) X ff_12_133 (by decide) rfl rfl rfl (by decide +kernel) (by decide +kernel) ?_
  refine k_aload_n (pc := 913) (i := 0) X (by decide +kernel) 0 rfl ?_
  refine k_iconst (pc := 914) (n0 := -1) X (by decide +kernel) ic_m1 ?_
  obtain ⟨h141, eh141, hf⟩ := nmd_e hf
  refine k_puti (pc := 915) (c := 0) X fp_12_136 (by decide) rfl rfl (by decide +kernel) eh141 ?_
  refine k_aload_n (pc := 918) (i := 0) X (by decide +kernel) 0 rfl ?_
  refine k_bipush (pc := 919) (n0 := 96) X (by decide +kernel) bi_96 ?_
  obtain ⟨h142, eh142, hf⟩ := nmd_e hf
  refine k_newa_i (pc := 921) (n := 41) (N := 96) X ac_int rfl rfl (by decide) (by decide) (by decide) ⟨Nat.le_of_ble_eq_true rfl, Nat.le_of_ble_eq_true rfl⟩ (by decide +kernel) eh142 ?_
  change VK E g dR z 1 42 40 41 1854 923 [(0, .ref (rz z 0))] [.ref (rz z 41), .ref (rz z 0)] h142
  refine k_puta (pc := 923) (c := 0) (t := 41) X ff_12_139 (by decide) rfl rfl rfl (by decide +kernel) (by decide +kernel) ?_
  refine k_aload_n (pc := 926) (i := 0) X (by decide +kernel) 0 rfl ?_
  refine k_bipush (pc := 927) (n0 := 24) X (by decide +kernel) bi_24 ?_
  obtain ⟨h143, eh143, hf⟩ := nmd_e hf
  refine k_newa_z (pc := 929) (n := 42) (N := 24) X ac_boolean rfl rfl (by decide) (by decide) (by decide) ⟨Nat.le_of_ble_eq_true rfl, Nat.le_of_ble_eq_true rfl⟩ (by decide +kernel) eh143 ?_
  change VK E g dR z 1 43 41 42 1878 931 [(0, .ref (rz z 0))] [.ref (rz z 42), .ref (rz z 0)] h143
  refine k_puta (pc := 931) (c := 0) (t := 42) X ff_12_142 (by decide) rfl rfl rfl (by decide +kernel) (by decide +kernel) ?_
  refine k_aload_n (pc := 934) (i := 0) X (by decide +kernel) 0 rfl ?_
  refine k_sipush (pc := 935) (n0 := 360) X (by decide +kernel) si_360 ?_
  obtain ⟨h144, eh144, hf⟩ := nmd_e hf
  refine k_newa_i (pc := 938) (n := 43) (N := 360) X ac_int rfl rfl (by decide) (by decide) (by decide) ⟨Nat.le_of_ble_eq_true rfl, Nat.le_of_ble_eq_true rfl⟩ (by decide +kernel) eh144 ?_
  change VK E g dR z 1 44 42 43 2238 940 [(0, .ref (rz z 0))] [.ref (rz z 43), .ref (rz z 0)] h144
  refine k_puta (pc := 940) (c := 0) (t := 43) X ff_12_145 (by decide) rfl rfl rfl (by decide +kernel) (by decide +kernel) ?_
  refine k_aload_n (pc := 943) (i := 0) X (by decide +kernel) 0 rfl ?_
  refine k_bipush (pc := 944) (n0 := 18) X (by decide +kernel) bi_18 ?_
  obtain ⟨h145, eh145, hf⟩ := nmd_e hf
  refine k_newa_i (pc := 946) (n := 44) (N := 18) X ac_int rfl rfl (by decide) (by decide) (by decide) ⟨Nat.le_of_ble_eq_true rfl, Nat.le_of_ble_eq_true rfl⟩ (by decide +kernel) eh145 ?_
  change VK E g dR z 1 45 43 44 2256 948 [(0, .ref (rz z 0))] [.ref (rz z 44), .ref (rz z 0)] h145
  refine k_puta (pc := 948) (c := 0) (t := 44) X ff_12_148 (by decide) rfl rfl rfl (by decide +kernel) (by decide +kernel) ?_
  refine k_aload_n (pc := 951) (i := 0) X (by decide +kernel) 0 rfl ?_
  refine k_bipush (pc := 952) (n0 := 30) X (by decide +kernel) bi_30 ?_
  obtain ⟨h146, eh146, hf⟩ := nmd_e hf
  refine k_newa_i (pc := 954) (n := 45) (N := 30) X ac_int rfl rfl (by decide) (by decide) (by decide) ⟨Nat.le_of_ble_eq_true rfl, Nat.le_of_ble_eq_true rfl⟩ (by decide +kernel) eh146 ?_
  change VK E g dR z 1 46 44 45 2286 956 [(0, .ref (rz z 0))] [.ref (rz z 45), .ref (rz z 0)] h146
  refine k_puta (pc := 956) (c := 0) (t := 45) X ff_12_151 (by decide) rfl rfl rfl (by decide +kernel) (by decide +kernel) ?_
  refine k_aload_n (pc := 959) (i := 0) X (by decide +kernel) 0 rfl ?_
  obtain ⟨h147, eh147, hf⟩ := bnd_e hf
  refine k_callV (pc := 960) (As := []) (rest := []) X (mt_Md_plain okR_46_45 (inj_rz _ z) (by decide +kernel) eh147) ml_12_154 mv_Md_plain (by decide) rfl cls_12 rfl ⟨Nat.le_of_ble_eq_true rfl, Nat.le_of_ble_eq_true rfl⟩ ⟨Nat.le_of_ble_eq_true rfl, Nat.le_of_ble_eq_true rfl⟩ rfl rfl (Nat.le_of_ble_eq_true rfl) (by decide +kernel) ?_
  change VK E g dR z 1 46 45 45 2286 963 [(0, .ref (rz z 0))] [] h147
  refine k_aload_n (pc := 963) (i := 0) X (by decide +kernel) 0 rfl ?_
  obtain ⟨h148, eh148, hf⟩ := bnd_e hf
  refine k_callV (pc := 964) (As := []) (rest := []) X (mt_Md_keepText okR_46_45 (inj_rz _ z) (by decide +kernel) eh148) ml_12_157 mv_Md_keepText (by decide) rfl cls_12 rfl ⟨Nat.le_of_ble_eq_true rfl, Nat.le_of_ble_eq_true rfl⟩ ⟨Nat.le_of_ble_eq_true rfl, Nat.le_of_ble_eq_true rfl⟩ rfl rfl (Nat.le_of_ble_eq_true rfl) (by decide +kernel) ?_
  change VK E g dR z 1 46 45 45 2286 967 [(0, .ref (rz z 0))] [] h148
  cases hf
  exact k_vret X Y (by decide +kernel) rfl rfl rfl rfl rfl
