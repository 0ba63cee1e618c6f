theorem fk_far {ci j : Nat} (hj : 90 ≤ j) : fkind ci j = none := by
  have h : fty ci j = .int := by
    unfold fty
    cases hq : tfs[ci]? with
    | none => rfl
    | some q =>
      have hm : q ∈ tfs := List.mem_of_getElem? hq
      have hl : q.length ≤ 84 := (show ∀ q ∈ tfs, q.length ≤ 84 by decide +kernel) q hm
      dsimp only
      rw [List.getElem?_eq_none (by omega)]
  unfold fkind
  rw [h]
def okB (d : Dt) (n r : Nat) : Bool := (List.range n).all (fun c => if pk d n r c < 20 then (List.range 90).all (fun j => match fkind (pk d n r c) j with
  | some k => (match pr d r c j with
    | some c' => pk d n r c' == k
    | none => false)
  | none => true) else true)
theorem okB_ok {d : Dt} {n r : Nat} (h : okB d n r = true) : TbOK (pt d n r) := by
  have h0 : ∀ c, kd (pt d n r) c < 99 → c < (pt d n r).1 := by
    intro c hc
    have hc : pk d n r c < 99 := hc
    show c < n
    unfold pk at hc
    split at hc
    · omega
    · omega
  refine ⟨h0, fun c hc j k hk => ?_⟩
  have hc2 : pk d n r c < 20 := hc
  have hcn : c < n := h0 c (by omega)
  have h1 := List.all_eq_true.mp h c (List.mem_range.mpr hcn)
  rw [if_pos hc2] at h1
  have hj : j < 90 := by
    rcases Nat.lt_or_ge j 90 with q | q
    · exact q
    · rw [fk_far q] at hk; cases hk
  have h2 := List.all_eq_true.mp h1 j (List.mem_range.mpr hj)
  have hk2 : fkind (pk d n r c) j = some k := hk
  rw [hk2] at h2
  dsimp only at h2
  cases hp : pr d r c j with
  | none => rw [hp] at h2; cases h2
  | some c' =>
    rw [hp] at h2
    exact ⟨c', hp, show pk d n r c' = k by simpa using h2⟩
/-! tables of the cells; constructors (written by wip/whole/ctor.py) -/
def dC : Dt := ([0, 21, 10, 7, 20, 20, 20, 20, 20, 20, 20, 20, 20, 20, 20, 20, 20, 6, 20, 20, 20, 23, 8, 20, 5, 20, 7, 20, 20, 20, 20, 20, 20, 20, 20, 20, 20, 20, 20, 20, 6, 20, 20, 20, 23, 11, 20, 20, 20, 20, 20, 20, 11, 20, 20, 20, 20, 20, 20, 2, 20, 20, 20, 20, 20, 9, 20, 20, 20, 22, 20, 22, 4, 20, 3, 11, 20, 20, 20, 20, 20, 20, 11, 20, 20, 20, 20, 20, 20, 20, 1, 20, 20], [0, 700, 0, 0, 6, 6, 6, 6, 61, 6, 6, 6, 6, 6, 12, 12, 12, 0, 64, 3, 3, 64, 0, 20, 0, 72, 0, 6, 6, 6, 6, 61, 6, 6, 6, 6, 6, 12, 12, 12, 0, 64, 3, 3, 64, 0, 6, 6, 6, 6, 6, 6, 0, 6, 6, 6, 6, 6, 6, 0, 20, 20, 20, 20, 20, 0, 24, 24, 24, 24, 24, 24, 0, 7, 0, 0, 6, 6, 6, 6, 6, 6, 0, 6, 6, 6, 6, 6, 6, 64, 0, 6, 6], [(0, 0, 1), (3, 6, 4), (3, 7, 5), (3, 8, 6), (3, 9, 7), (3, 10, 8), (3, 11, 9), (3, 12, 10), (3, 13, 11), (3, 14, 12), (3, 15, 13), (3, 16, 14), (3, 17, 15), (3, 18, 16), (17, 2, 18), (17, 3, 19), (17, 4, 20), (17, 5, 21), (3, 19, 17), (2, 0, 3), (22, 5, 23), (22, 4, 1), (2, 3, 22), (24, 2, 25), (24, 0, 22), (24, 1, 17), (2, 4, 24), (0, 2, 2), (26, 6, 27), (26, 7, 28), (26, 8, 29), (26, 9, 30), (26, 10, 31), (26, 11, 32), (26, 12, 33), (26, 13, 34), (26, 14, 35), (26, 15, 36), (26, 16, 37), (26, 17, 38), (26, 18, 39), (40, 2, 41), (40, 3, 42), (40, 4, 43), (40, 5, 44), (26, 19, 40), (0, 3, 26), (45, 9, 46), (45, 10, 47), (45, 11, 48), (45, 12, 49), (45, 13, 50), (45, 14, 51), (0, 4, 45), (52, 9, 53), (52, 10, 54), (52, 11, 55), (52, 12, 56), (52, 13, 57), (52, 14, 58), (0, 5, 52), (59, 1, 60), (59, 2, 61), (59, 3, 62), (59, 4, 63), (59, 5, 64), (0, 7, 59), (65, 2, 66), (65, 3, 67), (65, 4, 68), (65, 5, 69), (65, 6, 70), (65, 7, 71), (0, 8, 65), (72, 1, 73), (72, 0, 26), (0, 9, 72), (75, 9, 76), (75, 10, 77), (75, 11, 78), (75, 12, 79), (75, 13, 80), (75, 14, 81), (74, 3, 75), (82, 9, 83), (82, 10, 84), (82, 11, 85), (82, 12, 86), (82, 13, 87), (82, 14, 88), (74, 4, 82), (74, 5, 89), (74, 0, 26), (74, 1, 45), (74, 2, 72), (0, 10, 74), (90, 2, 91), (90, 3, 92), (90, 0, 26), (90, 1, 45), (0, 11, 90)], [101, 0, 27, 19, 0, 0, 0, 0, 0, 0, 0, 0, 0, 0, 0, 0, 0, 18, 0, 0, 0, 0, 22, 0, 26, 0, 46, 0, 0, 0, 0, 0, 0, 0, 0, 0, 0, 0, 0, 0, 45, 0, 0, 0, 0, 53, 0, 0, 0, 0, 0, 0, 60, 0, 0, 0, 0, 0, 0, 66, 0, 0, 0, 0, 0, 73, 0, 0, 0, 0, 0, 0, 76, 0, 95, 83, 0, 0, 0, 0, 0, 0, 90, 0, 0, 0, 0, 0, 0, 0, 100, 0, 0])
abbrev TC : Tb := pt dC 93 101
theorem okC_22_19 : TbOK (pt dC 22 19) := okB_ok (by decide +kernel)
theorem okC_45_46 : TbOK (pt dC 45 46) := okB_ok (by decide +kernel)
theorem okC_74_76 : TbOK (pt dC 74 76) := okB_ok (by decide +kernel)
theorem okC_93_101 : TbOK (pt dC 93 101) := okB_ok (by decide +kernel)
def dR : Dt := ([12, 20, 20, 22, 20, 20, 20, 20, 20, 20, 20, 20, 20, 20, 20, 20, 20, 22, 20, 20, 20, 20, 20, 20, 20, 23, 23, 20, 20, 20, 20, 22, 20, 20, 20, 20, 20, 20, 20, 20, 20, 20, 22, 20, 20, 20], [0, 700, 99, 2, 4, 12, 12, 12, 12, 12, 12, 12, 12, 12, 24, 24, 24, 6, 6, 6, 128, 128, 128, 96, 96, 7, 64, 12, 12, 12, 12, 12, 12, 12, 2, 2, 2, 2, 2, 2, 12, 96, 24, 360, 18, 30], [(0, 0, 1), (0, 3, 2), (0, 23, 3), (0, 24, 4), (0, 25, 5), (0, 26, 6), (0, 27, 7), (0, 28, 8), (0, 29, 9), (0, 30, 10), (0, 31, 11), (0, 32, 12), (0, 33, 13), (0, 34, 14), (0, 35, 15), (0, 36, 16), (0, 37, 17), (0, 38, 18), (0, 39, 19), (0, 40, 20), (0, 41, 21), (0, 42, 22), (0, 43, 23), (0, 44, 24), (0, 51, 25), (0, 52, 26), (0, 54, 27), (0, 55, 28), (0, 56, 29), (0, 57, 30), (0, 58, 31), (0, 59, 32), (0, 60, 33), (0, 61, 34), (0, 62, 35), (0, 63, 36), (0, 64, 37), (0, 65, 38), (0, 66, 39), (0, 73, 40), (0, 76, 41), (0, 77, 42), (0, 79, 43), (0, 81, 44), (0, 82, 45)], [45, 0, 0, 0, 0, 0, 0, 0, 0, 0, 0, 0, 0, 0, 0, 0, 0, 0, 0, 0, 0, 0, 0, 0, 0, 0, 0, 0, 0, 0, 0, 0, 0, 0, 0, 0, 0, 0, 0, 0, 0, 0, 0, 0, 0, 0])
abbrev TR : Tb := pt dR 46 45
theorem okR_46_45 : TbOK (pt dR 46 45) := okB_ok (by decide +kernel)
def y_La_init : MethodName := ⟨RC6, "<init>", "()V"⟩
def y_Pl_init : MethodName := ⟨RC7, "<init>", "()V"⟩
def y_Sc_init : MethodName := ⟨RC8, "<init>", "([B)V"⟩
def y_Lr_init : MethodName := ⟨RC5, "<init>", "(LTroughTreaty$Scanner;LTroughTreaty$Laws;)V"⟩
def y_Tr_init : MethodName := ⟨RC10, "<init>", "([B)V"⟩
def y_Wo_init : MethodName := ⟨RC11, "<init>", "()V"⟩
def y_De_init : MethodName := ⟨RC2, "<init>", "()V"⟩
def y_Se_init : MethodName := ⟨RC9, "<init>", "()V"⟩
def y_Ho_init : MethodName := ⟨RC4, "<init>", "(LTroughTreaty$Plan;)V"⟩
def y_Fo_init : MethodName := ⟨RC3, "<init>", "(LTroughTreaty$Plan;LTroughTreaty$World;LTroughTreaty$Hours;)V"⟩
def y_Cn_init : MethodName := ⟨RC1, "<init>", "(LTroughTreaty$Plan;LTroughTreaty$World;)V"⟩
def y_Tt_init : MethodName := ⟨RC0, "<init>", "()V"⟩
def y_Md_init : MethodName := ⟨RC12, "<init>", "()V"⟩
theorem mc_La_init : Cond.code y_La_init prog_7_method_1_code 1 none ∈ GW := gw_in 162 (by decide +kernel) rfl
theorem my_La_init : okY y_La_init 0 := ⟨by decide +kernel, by decide +kernel, by decide +kernel⟩
theorem mc_Pl_init : Cond.code y_Pl_init prog_8_method_1_code 1 none ∈ GW := gw_in 156 (by decide +kernel) rfl
theorem my_Pl_init : okY y_Pl_init 0 := ⟨by decide +kernel, by decide +kernel, by decide +kernel⟩
theorem mc_Sc_init : Cond.code y_Sc_init prog_9_method_1_code 3 none ∈ GW := gw_in 322 (by decide +kernel) rfl
theorem my_Sc_init : okY y_Sc_init 1 := ⟨by decide +kernel, by decide +kernel, by decide +kernel⟩
theorem mc_Lr_init : Cond.code y_Lr_init prog_6_method_1_code 3 none ∈ GW := gw_in 411 (by decide +kernel) rfl
theorem my_Lr_init : okY y_Lr_init 2 := ⟨by decide +kernel, by decide +kernel, by decide +kernel⟩
theorem mc_Tr_init : Cond.code y_Tr_init prog_11_method_1_code 2 none ∈ GW := gw_in 150 (by decide +kernel) rfl
theorem my_Tr_init : okY y_Tr_init 1 := ⟨by decide +kernel, by decide +kernel, by decide +kernel⟩
theorem mc_Wo_init : Cond.code y_Wo_init prog_12_method_1_code 1 none ∈ GW := gw_in 463 (by decide +kernel) rfl
theorem my_Wo_init : okY y_Wo_init 0 := ⟨by decide +kernel, by decide +kernel, by decide +kernel⟩
theorem mc_De_init : Cond.code y_De_init prog_3_method_1_code 1 none ∈ GW := gw_in 555 (by decide +kernel) rfl
theorem my_De_init : okY y_De_init 0 := ⟨by decide +kernel, by decide +kernel, by decide +kernel⟩
theorem mc_Se_init : Cond.code y_Se_init prog_10_method_1_code 1 none ∈ GW := gw_in 581 (by decide +kernel) rfl
theorem my_Se_init : okY y_Se_init 0 := ⟨by decide +kernel, by decide +kernel, by decide +kernel⟩
theorem mc_Ho_init : Cond.code y_Ho_init prog_5_method_1_code 2 none ∈ GW := gw_in 614 (by decide +kernel) rfl
theorem my_Ho_init : okY y_Ho_init 1 := ⟨by decide +kernel, by decide +kernel, by decide +kernel⟩
theorem mc_Fo_init : Cond.code y_Fo_init prog_4_method_1_code 4 none ∈ GW := gw_in 640 (by decide +kernel) rfl
theorem my_Fo_init : okY y_Fo_init 3 := ⟨by decide +kernel, by decide +kernel, by decide +kernel⟩
theorem mc_Cn_init : Cond.code y_Cn_init prog_2_method_1_code 3 none ∈ GW := gw_in 667 (by decide +kernel) rfl
theorem my_Cn_init : okY y_Cn_init 2 := ⟨by decide +kernel, by decide +kernel, by decide +kernel⟩
theorem ob_0_3 : Cond.methodLink RC0 3 Lib.objectInit ∈ GW := gw_in 143 (by decide +kernel) rfl
theorem ob_i : Cond.instanceMethod Lib.objectInit ∈ GW := gw_in 144 (by decide +kernel) rfl
theorem ob_c : Cond.code Lib.objectInit ⟨#[0xb1]⟩ 1 none ∈ GW := gw_in 145 (by decide +kernel) rfl
theorem ac_byte : Cond.arrayClass .byte ∈ GW := gw_in 185 (by decide +kernel) rfl
theorem ff_0_11 : FF RC0 11 0 0 := ⟨_, _, _, cls_0, by decide, gw_in 696 (by decide +kernel) rfl, by decide, rfl⟩
theorem cl_0_19 : Cond.classLink RC0 19 RC10 ∈ GW := gw_in 146 (by decide +kernel) rfl
theorem in_10 : Cond.instantiable RC10 7 ∈ GW := gw_in 147 (by decide +kernel) rfl
theorem ob_10_3 : Cond.methodLink RC10 3 Lib.objectInit ∈ GW := gw_in 151 (by decide +kernel) rfl
theorem cl_10_9 : Cond.classLink RC10 9 RC7 ∈ GW := gw_in 152 (by decide +kernel) rfl
theorem in_7 : Cond.instantiable RC7 20 ∈ GW := gw_in 153 (by decide +kernel) rfl
theorem ob_7_3 : Cond.methodLink RC7 3 Lib.objectInit ∈ GW := gw_in 157 (by decide +kernel) rfl
theorem ac_int : Cond.arrayClass .int ∈ GW := gw_in 186 (by decide +kernel) rfl
theorem ff_7_9 : FF RC7 9 7 6 := ⟨_, _, _, cls_7, by decide, gw_in 228 (by decide +kernel) rfl, by decide, rfl⟩
theorem ff_7_15 : FF RC7 15 7 7 := ⟨_, _, _, cls_7, by decide, gw_in 231 (by decide +kernel) rfl, by decide, rfl⟩
theorem ff_7_18 : FF RC7 18 7 8 := ⟨_, _, _, cls_7, by decide, gw_in 236 (by decide +kernel) rfl, by decide, rfl⟩
theorem ff_7_21 : FF RC7 21 7 9 := ⟨_, _, _, cls_7, by decide, gw_in 239 (by decide +kernel) rfl, by decide, rfl⟩
theorem ff_7_24 : FF RC7 24 7 10 := ⟨_, _, _, cls_7, by decide, gw_in 243 (by decide +kernel) rfl, by decide, rfl⟩
theorem ff_7_27 : FF RC7 27 7 11 := ⟨_, _, _, cls_7, by decide, gw_in 245 (by decide +kernel) rfl, by decide, rfl⟩
theorem ff_7_30 : FF RC7 30 7 12 := ⟨_, _, _, cls_7, by decide, gw_in 248 (by decide +kernel) rfl, by decide, rfl⟩
theorem ff_7_33 : FF RC7 33 7 13 := ⟨_, _, _, cls_7, by decide, gw_in 253 (by decide +kernel) rfl, by decide, rfl⟩
theorem ff_7_36 : FF RC7 36 7 14 := ⟨_, _, _, cls_7, by decide, gw_in 256 (by decide +kernel) rfl, by decide, rfl⟩
theorem ff_7_39 : FF RC7 39 7 15 := ⟨_, _, _, cls_7, by decide, gw_in 259 (by decide +kernel) rfl, by decide, rfl⟩
theorem ff_7_42 : FF RC7 42 7 16 := ⟨_, _, _, cls_7, by decide, gw_in 264 (by decide +kernel) rfl, by decide, rfl⟩
theorem ff_7_45 : FF RC7 45 7 17 := ⟨_, _, _, cls_7, by decide, gw_in 267 (by decide +kernel) rfl, by decide, rfl⟩
theorem ff_7_48 : FF RC7 48 7 18 := ⟨_, _, _, cls_7, by decide, gw_in 270 (by decide +kernel) rfl, by decide, rfl⟩
theorem cl_7_51 : Cond.classLink RC7 51 RC6 ∈ GW := gw_in 158 (by decide +kernel) rfl
theorem in_6 : Cond.instantiable RC6 6 ∈ GW := gw_in 159 (by decide +kernel) rfl
theorem ob_6_3 : Cond.methodLink RC6 3 Lib.objectInit ∈ GW := gw_in 163 (by decide +kernel) rfl
theorem ff_6_9 : FF RC6 9 6 2 := ⟨_, _, _, cls_6, by decide, gw_in 168 (by decide +kernel) rfl, by decide, rfl⟩
theorem ff_6_15 : FF RC6 15 6 3 := ⟨_, _, _, cls_6, by decide, gw_in 169 (by decide +kernel) rfl, by decide, rfl⟩
theorem ff_6_18 : FF RC6 18 6 4 := ⟨_, _, _, cls_6, by decide, gw_in 170 (by decide +kernel) rfl, by decide, rfl⟩
theorem ac_long : Cond.arrayClass .long ∈ GW := gw_in 187 (by decide +kernel) rfl
theorem ff_6_21 : FF RC6 21 6 5 := ⟨_, _, _, cls_6, by decide, gw_in 171 (by decide +kernel) rfl, by decide, rfl⟩
theorem ml_7_53 : MN RC7 53 y_La_init prog_7_method_1_code 1 none 0 := ⟨nw_in 160 (by decide +kernel) rfl, mi_6, mc_La_init, my_La_init⟩
theorem mj_La_init : Cond.instanceMethod y_La_init ∈ GW := gw_in 161 (by decide +kernel) rfl
theorem ff_7_54 : FF RC7 54 7 19 := ⟨_, _, _, cls_7, by decide, gw_in 274 (by decide +kernel) rfl, by decide, rfl⟩
theorem ml_7_58 : ML RC7 58 y_Pl_clear prog_8_method_2_code 1 none 0 := ⟨gw_in 188 (by decide +kernel) rfl, mi_7, mc_Pl_clear, my_Pl_clear⟩
theorem ml_10_11 : ML RC10 11 y_Pl_init prog_8_method_1_code 1 none 0 := ⟨gw_in 154 (by decide +kernel) rfl, mi_7, mc_Pl_init, my_Pl_init⟩
theorem mj_Pl_init : Cond.instanceMethod y_Pl_init ∈ GW := gw_in 155 (by decide +kernel) rfl
theorem ff_10_12 : FF RC10 12 10 0 := ⟨_, _, _, cls_10, by decide, gw_in 432 (by decide +kernel) rfl, by decide, rfl⟩
theorem cl_10_25 : Cond.classLink RC10 25 RC8 ∈ GW := gw_in 318 (by decide +kernel) rfl
theorem in_8 : Cond.instantiable RC8 8 ∈ GW := gw_in 319 (by decide +kernel) rfl
theorem ob_8_3 : Cond.methodLink RC8 3 Lib.objectInit ∈ GW := gw_in 323 (by decide +kernel) rfl
theorem ff_8_9 : FF RC8 9 8 5 := ⟨_, _, _, cls_8, by decide, gw_in 387 (by decide +kernel) rfl, by decide, rfl⟩
theorem ff_8_15 : FF RC8 15 8 4 := ⟨_, _, _, cls_8, by decide, gw_in 386 (by decide +kernel) rfl, by decide, rfl⟩
theorem ml_10_27 : ML RC10 27 y_Sc_init prog_9_method_1_code 3 none 1 := ⟨gw_in 320 (by decide +kernel) rfl, mi_8, mc_Sc_init, my_Sc_init⟩
theorem mj_Sc_init : Cond.instanceMethod y_Sc_init ∈ GW := gw_in 321 (by decide +kernel) rfl
theorem ff_10_30 : FF RC10 30 10 3 := ⟨_, _, _, cls_10, by decide, gw_in 438 (by decide +kernel) rfl, by decide, rfl⟩
theorem cl_10_34 : Cond.classLink RC10 34 RC5 ∈ GW := gw_in 407 (by decide +kernel) rfl
theorem in_5 : Cond.instantiable RC5 6 ∈ GW := gw_in 408 (by decide +kernel) rfl
theorem ob_5_3 : Cond.methodLink RC5 3 Lib.objectInit ∈ GW := gw_in 412 (by decide +kernel) rfl
theorem bi_72 : (Int8.ofInt (72)).toInt32 = (72 : Int32) := by decide
theorem ff_5_9 : FF RC5 9 5 2 := ⟨_, _, _, cls_5, by decide, gw_in 415 (by decide +kernel) rfl, by decide, rfl⟩
theorem ff_5_15 : FF RC5 15 5 0 := ⟨_, _, _, cls_5, by decide, gw_in 413 (by decide +kernel) rfl, by decide, rfl⟩
theorem ff_5_19 : FF RC5 19 5 1 := ⟨_, _, _, cls_5, by decide, gw_in 414 (by decide +kernel) rfl, by decide, rfl⟩
theorem ml_10_40 : ML RC10 40 y_Lr_init prog_6_method_1_code 3 none 2 := ⟨gw_in 409 (by decide +kernel) rfl, mi_5, mc_Lr_init, my_Lr_init⟩
theorem mj_Lr_init : Cond.instanceMethod y_Lr_init ∈ GW := gw_in 410 (by decide +kernel) rfl
theorem ff_10_43 : FF RC10 43 10 4 := ⟨_, _, _, cls_10, by decide, gw_in 439 (by decide +kernel) rfl, by decide, rfl⟩
theorem ml_0_21 : ML RC0 21 y_Tr_init prog_11_method_1_code 2 none 1 := ⟨gw_in 148 (by decide +kernel) rfl, mi_10, mc_Tr_init, my_Tr_init⟩
theorem mj_Tr_init : Cond.instanceMethod y_Tr_init ∈ GW := gw_in 149 (by decide +kernel) rfl
theorem ff_0_24 : FF RC0 24 0 2 := ⟨_, _, _, cls_0, by decide, gw_in 698 (by decide +kernel) rfl, by decide, rfl⟩
theorem cl_0_28 : Cond.classLink RC0 28 RC7 ∈ GW := gw_in 457 (by decide +kernel) rfl
theorem ml_0_30 : ML RC0 30 y_Pl_init prog_8_method_1_code 1 none 0 := ⟨gw_in 458 (by decide +kernel) rfl, mi_7, mc_Pl_init, my_Pl_init⟩
theorem ff_0_31 : FF RC0 31 0 3 := ⟨_, _, _, cls_0, by decide, gw_in 699 (by decide +kernel) rfl, by decide, rfl⟩
theorem cl_0_35 : Cond.classLink RC0 35 RC11 ∈ GW := gw_in 459 (by decide +kernel) rfl
theorem in_11 : Cond.instantiable RC11 15 ∈ GW := gw_in 460 (by decide +kernel) rfl
theorem ob_11_3 : Cond.methodLink RC11 3 Lib.objectInit ∈ GW := gw_in 464 (by decide +kernel) rfl
theorem ff_11_9 : FF RC11 9 11 9 := ⟨_, _, _, cls_11, by decide, gw_in 490 (by decide +kernel) rfl, by decide, rfl⟩
theorem ff_11_15 : FF RC11 15 11 10 := ⟨_, _, _, cls_11, by decide, gw_in 497 (by decide +kernel) rfl, by decide, rfl⟩
theorem ff_11_18 : FF RC11 18 11 11 := ⟨_, _, _, cls_11, by decide, gw_in 502 (by decide +kernel) rfl, by decide, rfl⟩
theorem ff_11_21 : FF RC11 21 11 12 := ⟨_, _, _, cls_11, by decide, gw_in 505 (by decide +kernel) rfl, by decide, rfl⟩
theorem ff_11_24 : FF RC11 24 11 13 := ⟨_, _, _, cls_11, by decide, gw_in 510 (by decide +kernel) rfl, by decide, rfl⟩
theorem ff_11_27 : FF RC11 27 11 14 := ⟨_, _, _, cls_11, by decide, gw_in 513 (by decide +kernel) rfl, by decide, rfl⟩
theorem ml_0_37 : MN RC0 37 y_Wo_init prog_12_method_1_code 1 none 0 := ⟨nw_in 461 (by decide +kernel) rfl, mi_11, mc_Wo_init, my_Wo_init⟩
theorem mj_Wo_init : Cond.instanceMethod y_Wo_init ∈ GW := gw_in 462 (by decide +kernel) rfl
theorem ff_0_38 : FF RC0 38 0 4 := ⟨_, _, _, cls_0, by decide, gw_in 700 (by decide +kernel) rfl, by decide, rfl⟩
theorem ff_0_42 : FF RC0 42 0 5 := ⟨_, _, _, cls_0, by decide, gw_in 701 (by decide +kernel) rfl, by decide, rfl⟩
theorem cl_0_49 : Cond.classLink RC0 49 RC2 ∈ GW := gw_in 551 (by decide +kernel) rfl
theorem in_2 : Cond.instantiable RC2 6 ∈ GW := gw_in 552 (by decide +kernel) rfl
theorem ob_2_3 : Cond.methodLink RC2 3 Lib.objectInit ∈ GW := gw_in 556 (by decide +kernel) rfl
theorem ff_2_15 : FF RC2 15 2 1 := ⟨_, _, _, cls_2, by decide, gw_in 559 (by decide +kernel) rfl, by decide, rfl⟩
theorem ff_2_19 : FF RC2 19 2 2 := ⟨_, _, _, cls_2, by decide, gw_in 560 (by decide +kernel) rfl, by decide, rfl⟩
theorem ff_2_22 : FF RC2 22 2 3 := ⟨_, _, _, cls_2, by decide, gw_in 561 (by decide +kernel) rfl, by decide, rfl⟩
theorem ff_2_25 : FF RC2 25 2 4 := ⟨_, _, _, cls_2, by decide, gw_in 562 (by decide +kernel) rfl, by decide, rfl⟩
theorem ff_2_28 : FF RC2 28 2 5 := ⟨_, _, _, cls_2, by decide, gw_in 563 (by decide +kernel) rfl, by decide, rfl⟩
theorem ml_0_51 : MN RC0 51 y_De_init prog_3_method_1_code 1 none 0 := ⟨nw_in 553 (by decide +kernel) rfl, mi_2, mc_De_init, my_De_init⟩
theorem mj_De_init : Cond.instanceMethod y_De_init ∈ GW := gw_in 554 (by decide +kernel) rfl
theorem ff_0_52 : FF RC0 52 0 7 := ⟨_, _, _, cls_0, by decide, gw_in 703 (by decide +kernel) rfl, by decide, rfl⟩
theorem cl_0_56 : Cond.classLink RC0 56 RC9 ∈ GW := gw_in 577 (by decide +kernel) rfl
theorem in_9 : Cond.instantiable RC9 8 ∈ GW := gw_in 578 (by decide +kernel) rfl
theorem ob_9_3 : Cond.methodLink RC9 3 Lib.objectInit ∈ GW := gw_in 582 (by decide +kernel) rfl
theorem ff_9_18 : FF RC9 18 9 2 := ⟨_, _, _, cls_9, by decide, gw_in 586 (by decide +kernel) rfl, by decide, rfl⟩
theorem ff_9_22 : FF RC9 22 9 3 := ⟨_, _, _, cls_9, by decide, gw_in 587 (by decide +kernel) rfl, by decide, rfl⟩
theorem ff_9_25 : FF RC9 25 9 4 := ⟨_, _, _, cls_9, by decide, gw_in 588 (by decide +kernel) rfl, by decide, rfl⟩
theorem ac_boolean : Cond.arrayClass .boolean ∈ GW := gw_in 609 (by decide +kernel) rfl
theorem ff_9_28 : FF RC9 28 9 5 := ⟨_, _, _, cls_9, by decide, gw_in 589 (by decide +kernel) rfl, by decide, rfl⟩
theorem ff_9_32 : FF RC9 32 9 6 := ⟨_, _, _, cls_9, by decide, gw_in 590 (by decide +kernel) rfl, by decide, rfl⟩
theorem ff_9_35 : FF RC9 35 9 7 := ⟨_, _, _, cls_9, by decide, gw_in 591 (by decide +kernel) rfl, by decide, rfl⟩
theorem ml_0_58 : MN RC0 58 y_Se_init prog_10_method_1_code 1 none 0 := ⟨nw_in 579 (by decide +kernel) rfl, mi_9, mc_Se_init, my_Se_init⟩
theorem mj_Se_init : Cond.instanceMethod y_Se_init ∈ GW := gw_in 580 (by decide +kernel) rfl
theorem ff_0_59 : FF RC0 59 0 8 := ⟨_, _, _, cls_0, by decide, gw_in 704 (by decide +kernel) rfl, by decide, rfl⟩
theorem cl_0_63 : Cond.classLink RC0 63 RC4 ∈ GW := gw_in 610 (by decide +kernel) rfl
theorem in_4 : Cond.instantiable RC4 5 ∈ GW := gw_in 611 (by decide +kernel) rfl
theorem ob_4_3 : Cond.methodLink RC4 3 Lib.objectInit ∈ GW := gw_in 615 (by decide +kernel) rfl
theorem ff_4_9 : FF RC4 9 4 1 := ⟨_, _, _, cls_4, by decide, gw_in 621 (by decide +kernel) rfl, by decide, rfl⟩
theorem ff_4_15 : FF RC4 15 4 0 := ⟨_, _, _, cls_4, by decide, gw_in 620 (by decide +kernel) rfl, by decide, rfl⟩
theorem ml_4_19 : ML RC4 19 y_Ho_byChance prog_5_method_2_code 1 none 0 := ⟨gw_in 616 (by decide +kernel) rfl, mi_4, mc_Ho_byChance, my_Ho_byChance⟩
theorem ml_0_65 : ML RC0 65 y_Ho_init prog_5_method_1_code 2 none 1 := ⟨gw_in 612 (by decide +kernel) rfl, mi_4, mc_Ho_init, my_Ho_init⟩
theorem mj_Ho_init : Cond.instanceMethod y_Ho_init ∈ GW := gw_in 613 (by decide +kernel) rfl
theorem ff_0_68 : FF RC0 68 0 9 := ⟨_, _, _, cls_0, by decide, gw_in 705 (by decide +kernel) rfl, by decide, rfl⟩
theorem cl_0_72 : Cond.classLink RC0 72 RC3 ∈ GW := gw_in 636 (by decide +kernel) rfl
theorem in_3 : Cond.instantiable RC3 6 ∈ GW := gw_in 637 (by decide +kernel) rfl
theorem ob_3_3 : Cond.methodLink RC3 3 Lib.objectInit ∈ GW := gw_in 641 (by decide +kernel) rfl
theorem cl_3_9 : Cond.classLink RC3 9 RC11 ∈ GW := gw_in 642 (by decide +kernel) rfl
theorem ml_3_11 : MN RC3 11 y_Wo_init prog_12_method_1_code 1 none 0 := ⟨nw_in 643 (by decide +kernel) rfl, mi_11, mc_Wo_init, my_Wo_init⟩
theorem ff_3_12 : FF RC3 12 3 3 := ⟨_, _, _, cls_3, by decide, gw_in 647 (by decide +kernel) rfl, by decide, rfl⟩
theorem ff_3_18 : FF RC3 18 3 4 := ⟨_, _, _, cls_3, by decide, gw_in 648 (by decide +kernel) rfl, by decide, rfl⟩
theorem ff_3_21 : FF RC3 21 3 5 := ⟨_, _, _, cls_3, by decide, gw_in 649 (by decide +kernel) rfl, by decide, rfl⟩
theorem ff_3_25 : FF RC3 25 3 0 := ⟨_, _, _, cls_3, by decide, gw_in 644 (by decide +kernel) rfl, by decide, rfl⟩
theorem ff_3_29 : FF RC3 29 3 1 := ⟨_, _, _, cls_3, by decide, gw_in 645 (by decide +kernel) rfl, by decide, rfl⟩
theorem ff_3_32 : FF RC3 32 3 2 := ⟨_, _, _, cls_3, by decide, gw_in 646 (by decide +kernel) rfl, by decide, rfl⟩
theorem ml_0_74 : ML RC0 74 y_Fo_init prog_4_method_1_code 4 none 3 := ⟨gw_in 638 (by decide +kernel) rfl, mi_3, mc_Fo_init, my_Fo_init⟩
theorem mj_Fo_init : Cond.instanceMethod y_Fo_init ∈ GW := gw_in 639 (by decide +kernel) rfl
theorem ff_0_77 : FF RC0 77 0 10 := ⟨_, _, _, cls_0, by decide, gw_in 706 (by decide +kernel) rfl, by decide, rfl⟩
theorem cl_0_81 : Cond.classLink RC0 81 RC1 ∈ GW := gw_in 663 (by decide +kernel) rfl
theorem in_1 : Cond.instantiable RC1 4 ∈ GW := gw_in 664 (by decide +kernel) rfl
theorem ob_1_3 : Cond.methodLink RC1 3 Lib.objectInit ∈ GW := gw_in 668 (by decide +kernel) rfl
theorem ff_1_9 : FF RC1 9 1 2 := ⟨_, _, _, cls_1, by decide, gw_in 671 (by decide +kernel) rfl, by decide, rfl⟩
theorem ff_1_15 : FF RC1 15 1 3 := ⟨_, _, _, cls_1, by decide, gw_in 672 (by decide +kernel) rfl, by decide, rfl⟩
theorem ff_1_18 : FF RC1 18 1 0 := ⟨_, _, _, cls_1, by decide, gw_in 669 (by decide +kernel) rfl, by decide, rfl⟩
theorem ff_1_22 : FF RC1 22 1 1 := ⟨_, _, _, cls_1, by decide, gw_in 670 (by decide +kernel) rfl, by decide, rfl⟩
theorem ml_0_83 : ML RC0 83 y_Cn_init prog_2_method_1_code 3 none 2 := ⟨gw_in 665 (by decide +kernel) rfl, mi_1, mc_Cn_init, my_Cn_init⟩
theorem mj_Cn_init : Cond.instanceMethod y_Cn_init ∈ GW := gw_in 666 (by decide +kernel) rfl
theorem ff_0_86 : FF RC0 86 0 11 := ⟨_, _, _, cls_0, by decide, gw_in 707 (by decide +kernel) rfl, by decide, rfl⟩
theorem ob_12_1 : Cond.methodLink RC12 1 Lib.objectInit ∈ GW := gw_in 1504 (by decide +kernel) rfl
theorem ff_12_7 : FF RC12 7 12 0 := ⟨_, _, _, cls_12, by decide, gw_in 1528 (by decide +kernel) rfl, by decide, rfl⟩
theorem bi_114 : (Int8.ofInt (114)).toInt32 = (114 : Int32) := by decide
theorem bi_111 : (Int8.ofInt (111)).toInt32 = (111 : Int32) := by decide
theorem bi_116 : (Int8.ofInt (116)).toInt32 = (116 : Int32) := by decide
theorem bi_117 : (Int8.ofInt (117)).toInt32 = (117 : Int32) := by decide
theorem bi_103 : (Int8.ofInt (103)).toInt32 = (103 : Int32) := by decide
theorem bi_104 : (Int8.ofInt (104)).toInt32 = (104 : Int32) := by decide
theorem bi_15 : (Int8.ofInt (15)).toInt32 = (15 : Int32) := by decide
theorem bi_115 : (Int8.ofInt (115)).toInt32 = (115 : Int32) := by decide
theorem bi_101 : (Int8.ofInt (101)).toInt32 = (101 : Int32) := by decide
theorem bi_108 : (Int8.ofInt (108)).toInt32 = (108 : Int32) := by decide
theorem bi_112 : (Int8.ofInt (112)).toInt32 = (112 : Int32) := by decide
theorem bi_21 : (Int8.ofInt (21)).toInt32 = (21 : Int32) := by decide
theorem bi_105 : (Int8.ofInt (105)).toInt32 = (105 : Int32) := by decide
theorem bi_110 : (Int8.ofInt (110)).toInt32 = (110 : Int32) := by decide
theorem bi_119 : (Int8.ofInt (119)).toInt32 = (119 : Int32) := by decide
theorem bi_121 : (Int8.ofInt (121)).toInt32 = (121 : Int32) := by decide
theorem bi_44 : (Int8.ofInt (44)).toInt32 = (44 : Int32) := by decide
theorem bi_102 : (Int8.ofInt (102)).toInt32 = (102 : Int32) := by decide
theorem bi_46 : (Int8.ofInt (46)).toInt32 = (46 : Int32) := by decide
theorem bi_49 : (Int8.ofInt (49)).toInt32 = (49 : Int32) := by decide
theorem bi_51 : (Int8.ofInt (51)).toInt32 = (51 : Int32) := by decide
theorem bi_52 : (Int8.ofInt (52)).toInt32 = (52 : Int32) := by decide
theorem bi_53 : (Int8.ofInt (53)).toInt32 = (53 : Int32) := by decide
theorem bi_54 : (Int8.ofInt (54)).toInt32 = (54 : Int32) := by decide
theorem bi_55 : (Int8.ofInt (55)).toInt32 = (55 : Int32) := by decide
theorem bi_56 : (Int8.ofInt (56)).toInt32 = (56 : Int32) := by decide
theorem bi_58 : (Int8.ofInt (58)).toInt32 = (58 : Int32) := by decide
theorem bi_65 : (Int8.ofInt (65)).toInt32 = (65 : Int32) := by decide
theorem bi_66 : (Int8.ofInt (66)).toInt32 = (66 : Int32) := by decide
theorem bi_67 : (Int8.ofInt (67)).toInt32 = (67 : Int32) := by decide
theorem bi_68 : (Int8.ofInt (68)).toInt32 = (68 : Int32) := by decide
theorem bi_69 : (Int8.ofInt (69)).toInt32 = (69 : Int32) := by decide
theorem bi_70 : (Int8.ofInt (70)).toInt32 = (70 : Int32) := by decide
theorem bi_71 : (Int8.ofInt (71)).toInt32 = (71 : Int32) := by decide
theorem bi_73 : (Int8.ofInt (73)).toInt32 = (73 : Int32) := by decide
theorem bi_74 : (Int8.ofInt (74)).toInt32 = (74 : Int32) := by decide
theorem bi_75 : (Int8.ofInt (75)).toInt32 = (75 : Int32) := by decide
theorem bi_76 : (Int8.ofInt (76)).toInt32 = (76 : Int32) := by decide
theorem bi_77 : (Int8.ofInt (77)).toInt32 = (77 : Int32) := by decide
theorem bi_78 : (Int8.ofInt (78)).toInt32 = (78 : Int32) := by decide
theorem bi_79 : (Int8.ofInt (79)).toInt32 = (79 : Int32) := by decide
theorem bi_80 : (Int8.ofInt (80)).toInt32 = (80 : Int32) := by decide
theorem bi_81 : (Int8.ofInt (81)).toInt32 = (81 : Int32) := by decide
theorem bi_82 : (Int8.ofInt (82)).toInt32 = (82 : Int32) := by decide
theorem bi_83 : (Int8.ofInt (83)).toInt32 = (83 : Int32) := by decide
theorem bi_84 : (Int8.ofInt (84)).toInt32 = (84 : Int32) := by decide
theorem bi_85 : (Int8.ofInt (85)).toInt32 = (85 : Int32) := by decide
theorem bi_86 : (Int8.ofInt (86)).toInt32 = (86 : Int32) := by decide
theorem bi_87 : (Int8.ofInt (87)).toInt32 = (87 : Int32) := by decide
theorem bi_88 : (Int8.ofInt (88)).toInt32 = (88 : Int32) := by decide
theorem bi_89 : (Int8.ofInt (89)).toInt32 = (89 : Int32) := by decide
theorem bi_90 : (Int8.ofInt (90)).toInt32 = (90 : Int32) := by decide
theorem bi_91 : (Int8.ofInt (91)).toInt32 = (91 : Int32) := by decide
theorem bi_92 : (Int8.ofInt (92)).toInt32 = (92 : Int32) := by decide
theorem bi_93 : (Int8.ofInt (93)).toInt32 = (93 : Int32) := by decide
theorem bi_94 : (Int8.ofInt (94)).toInt32 = (94 : Int32) := by decide
theorem bi_95 : (Int8.ofInt (95)).toInt32 = (95 : Int32) := by decide
theorem bi_98 : (Int8.ofInt (98)).toInt32 = (98 : Int32) := by decide
theorem ff_12_13 : FF RC12 13 12 3 := ⟨_, _, _, cls_12, by decide, gw_in 1531 (by decide +kernel) rfl, by decide, rfl⟩
theorem ff_12_20 : FF RC12 20 12 23 := ⟨_, _, _, cls_12, by decide, gw_in 1551 (by decide +kernel) rfl, by decide, rfl⟩
theorem ff_12_24 : FF RC12 24 12 24 := ⟨_, _, _, cls_12, by decide, gw_in 1552 (by decide +kernel) rfl, by decide, rfl⟩
theorem ff_12_27 : FF RC12 27 12 25 := ⟨_, _, _, cls_12, by decide, gw_in 1553 (by decide +kernel) rfl, by decide, rfl⟩
theorem ff_12_30 : FF RC12 30 12 26 := ⟨_, _, _, cls_12, by decide, gw_in 1554 (by decide +kernel) rfl, by decide, rfl⟩
theorem ff_12_33 : FF RC12 33 12 27 := ⟨_, _, _, cls_12, by decide, gw_in 1555 (by decide +kernel) rfl, by decide, rfl⟩
theorem ff_12_36 : FF RC12 36 12 28 := ⟨_, _, _, cls_12, by decide, gw_in 1556 (by decide +kernel) rfl, by decide, rfl⟩
theorem ff_12_39 : FF RC12 39 12 29 := ⟨_, _, _, cls_12, by decide, gw_in 1557 (by decide +kernel) rfl, by decide, rfl⟩
theorem ff_12_42 : FF RC12 42 12 30 := ⟨_, _, _, cls_12, by decide, gw_in 1558 (by decide +kernel) rfl, by decide, rfl⟩
theorem ff_12_45 : FF RC12 45 12 31 := ⟨_, _, _, cls_12, by decide, gw_in 1559 (by decide +kernel) rfl, by decide, rfl⟩
theorem ff_12_48 : FF RC12 48 12 32 := ⟨_, _, _, cls_12, by decide, gw_in 1560 (by decide +kernel) rfl, by decide, rfl⟩
theorem ff_12_51 : FF RC12 51 12 33 := ⟨_, _, _, cls_12, by decide, gw_in 1561 (by decide +kernel) rfl, by decide, rfl⟩
theorem ff_12_54 : FF RC12 54 12 34 := ⟨_, _, _, cls_12, by decide, gw_in 1562 (by decide +kernel) rfl, by decide, rfl⟩
theorem ff_12_57 : FF RC12 57 12 35 := ⟨_, _, _, cls_12, by decide, gw_in 1563 (by decide +kernel) rfl, by decide, rfl⟩
theorem ff_12_60 : FF RC12 60 12 36 := ⟨_, _, _, cls_12, by decide, gw_in 1564 (by decide +kernel) rfl, by decide, rfl⟩
theorem ff_12_63 : FF RC12 63 12 37 := ⟨_, _, _, cls_12, by decide, gw_in 1565 (by decide +kernel) rfl, by decide, rfl⟩
theorem ff_12_66 : FF RC12 66 12 38 := ⟨_, _, _, cls_12, by decide, gw_in 1566 (by decide +kernel) rfl, by decide, rfl⟩
theorem ff_12_69 : FF RC12 69 12 39 := ⟨_, _, _, cls_12, by decide, gw_in 1567 (by decide +kernel) rfl, by decide, rfl⟩
theorem si_128 : (Int16.ofInt (128)).toInt32 = (128 : Int32) := by decide
theorem ff_12_72 : FF RC12 72 12 40 := ⟨_, _, _, cls_12, by decide, gw_in 1568 (by decide +kernel) rfl, by decide, rfl⟩
theorem ff_12_75 : FF RC12 75 12 41 := ⟨_, _, _, cls_12, by decide, gw_in 1569 (by decide +kernel) rfl, by decide, rfl⟩
theorem ff_12_78 : FF RC12 78 12 42 := ⟨_, _, _, cls_12, by decide, gw_in 1570 (by decide +kernel) rfl, by decide, rfl⟩
theorem ff_12_81 : FF RC12 81 12 43 := ⟨_, _, _, cls_12, by decide, gw_in 1571 (by decide +kernel) rfl, by decide, rfl⟩
theorem ff_12_84 : FF RC12 84 12 44 := ⟨_, _, _, cls_12, by decide, gw_in 1572 (by decide +kernel) rfl, by decide, rfl⟩
theorem ff_12_87 : FF RC12 87 12 51 := ⟨_, _, _, cls_12, by decide, gw_in 1579 (by decide +kernel) rfl, by decide, rfl⟩
theorem ff_12_91 : FF RC12 91 12 52 := ⟨_, _, _, cls_12, by decide, gw_in 1580 (by decide +kernel) rfl, by decide, rfl⟩
theorem ff_12_94 : FF RC12 94 12 54 := ⟨_, _, _, cls_12, by decide, gw_in 1582 (by decide +kernel) rfl, by decide, rfl⟩
theorem ff_12_97 : FF RC12 97 12 55 := ⟨_, _, _, cls_12, by decide, gw_in 1583 (by decide +kernel) rfl, by decide, rfl⟩
theorem ff_12_100 : FF RC12 100 12 56 := ⟨_, _, _, cls_12, by decide, gw_in 1584 (by decide +kernel) rfl, by decide, rfl⟩
theorem ff_12_103 : FF RC12 103 12 57 := ⟨_, _, _, cls_12, by decide, gw_in 1585 (by decide +kernel) rfl, by decide, rfl⟩
theorem ff_12_106 : FF RC12 106 12 58 := ⟨_, _, _, cls_12, by decide, gw_in 1586 (by decide +kernel) rfl, by decide, rfl⟩
theorem ff_12_109 : FF RC12 109 12 59 := ⟨_, _, _, cls_12, by decide, gw_in 1587 (by decide +kernel) rfl, by decide, rfl⟩
theorem ff_12_112 : FF RC12 112 12 60 := ⟨_, _, _, cls_12, by decide, gw_in 1588 (by decide +kernel) rfl, by decide, rfl⟩
theorem ff_12_115 : FF RC12 115 12 61 := ⟨_, _, _, cls_12, by decide, gw_in 1589 (by decide +kernel) rfl, by decide, rfl⟩
theorem ff_12_118 : FF RC12 118 12 62 := ⟨_, _, _, cls_12, by decide, gw_in 1590 (by decide +kernel) rfl, by decide, rfl⟩
theorem ff_12_121 : FF RC12 121 12 63 := ⟨_, _, _, cls_12, by decide, gw_in 1591 (by decide +kernel) rfl, by decide, rfl⟩
theorem ff_12_124 : FF RC12 124 12 64 := ⟨_, _, _, cls_12, by decide, gw_in 1592 (by decide +kernel) rfl, by decide, rfl⟩
theorem ff_12_127 : FF RC12 127 12 65 := ⟨_, _, _, cls_12, by decide, gw_in 1593 (by decide +kernel) rfl, by decide, rfl⟩
theorem ff_12_130 : FF RC12 130 12 66 := ⟨_, _, _, cls_12, by decide, gw_in 1594 (by decide +kernel) rfl, by decide, rfl⟩
theorem ff_12_133 : FF RC12 133 12 73 := ⟨_, _, _, cls_12, by decide, gw_in 1601 (by decide +kernel) rfl, by decide, rfl⟩
theorem ff_12_139 : FF RC12 139 12 76 := ⟨_, _, _, cls_12, by decide, gw_in 1604 (by decide +kernel) rfl, by decide, rfl⟩
theorem ff_12_142 : FF RC12 142 12 77 := ⟨_, _, _, cls_12, by decide, gw_in 1605 (by decide +kernel) rfl, by decide, rfl⟩
theorem si_360 : (Int16.ofInt (360)).toInt32 = (360 : Int32) := by decide
theorem ff_12_145 : FF RC12 145 12 79 := ⟨_, _, _, cls_12, by decide, gw_in 1607 (by decide +kernel) rfl, by decide, rfl⟩
theorem ff_12_148 : FF RC12 148 12 81 := ⟨_, _, _, cls_12, by decide, gw_in 1609 (by decide +kernel) rfl, by decide, rfl⟩
theorem ff_12_151 : FF RC12 151 12 82 := ⟨_, _, _, cls_12, by decide, gw_in 1610 (by decide +kernel) rfl, by decide, rfl⟩
