def jb_Md_hourGoes_317 (tb : Tb) (h : Hp) (l0 : Nat) (l1 : Int32) : Option (Hp) :=
  (rI tb h (lay tb l0 64) l1).bind fun x1 =>
  (wI tb h (lay tb l0 64) l1 (x1 + (1 : Int32))).bind fun h2 =>
  some h2
def jb_Md_hourGoes_311 (tb : Tb) (c237 : Hp → Nat → Int32 → Int32 → Option (Hp)) (h : Hp) (l0 : Nat) (l1 : Int32) (l2 : Int32) : Option (Hp) :=
  nmd (l2 + (1 : Int32)) fun x1 =>
  c237 h l0 l1 x1
def jb_Md_hourGoes_310 (tb : Tb) (c237 : Hp → Nat → Int32 → Int32 → Option (Hp)) (h : Hp) (l0 : Nat) (l1 : Int32) (l2 : Int32) (s0 : Nat) (s1 : Int32) (s2 : Int32) : Option (Hp) :=
  (wI tb h s0 s1 s2).bind fun h1 =>
  jb_Md_hourGoes_311 tb c237 h1 l0 l1 l2
def lp_Md_hourGoes_237 (tb : Tb) : Nat → Hp → Nat → Int32 → Int32 → Option (Hp)
  | 0, _, _, _, _ => none
  | n + 1, h, l0, l1, l2 =>
    if (h.1 l0 12) ≤ l2 then (
      jb_Md_hourGoes_317 tb h l0 l1
    ) else (
      (rI tb h (lay tb l0 64) l1).bind fun x1 =>
      if (x1 - x1 / (10 : Int32) * (10 : Int32)) = (9 : Int32) then (
        (f_Md_isRain tb h l0).bind fun r2 =>
        if r2.1 = (0 : Int32) then (
          jb_Md_hourGoes_311 tb (lp_Md_hourGoes_237 tb n) r2.2 l0 l1 l2
        ) else (
          (rI tb r2.2 (lay tb l0 60) (((6 : Int32) * l1) + l2)).bind fun x3 =>
          (rI tb r2.2 (lay tb l0 28) l2).bind fun x4 =>
          nmd (x3 + x4) fun x5 =>
          if x5 ≤ (99 : Int32) then (
            jb_Md_hourGoes_310 tb (lp_Md_hourGoes_237 tb n) r2.2 l0 l1 l2 (lay tb l0 60) (((6 : Int32) * l1) + l2) x5
          ) else (
            jb_Md_hourGoes_310 tb (lp_Md_hourGoes_237 tb n) r2.2 l0 l1 l2 (lay tb l0 60) (((6 : Int32) * l1) + l2) (99 : Int32)
          )
        )
      ) else (
        jb_Md_hourGoes_317 tb h l0 l1
      )
    )
def jb_Md_hourGoes_228 (tb : Tb) (c159 : Hp → Nat → Int32 → Int32 → Option (Hp)) (h : Hp) (l0 : Nat) (l1 : Int32) (l2 : Int32) (s0 : Nat) (s1 : Int32) (s2 : Int32) : Option (Hp) :=
  (wZ tb h s0 s1 s2).bind fun h1 =>
  nmd (l2 + (1 : Int32)) fun x2 =>
  c159 h1 l0 l1 x2
def jb_Md_hourGoes_227 (tb : Tb) (c159 : Hp → Nat → Int32 → Int32 → Option (Hp)) (h : Hp) (l0 : Nat) (l1 : Int32) (l2 : Int32) (s0 : Nat) (s1 : Int32) : Option (Hp) :=
  jb_Md_hourGoes_228 tb c159 h l0 l1 l2 s0 s1 (0 : Int32)
def lp_Md_hourGoes_159 (tb : Tb) : Nat → Hp → Nat → Int32 → Int32 → Option (Hp)
  | 0, _, _, _, _ => none
  | n + 1, h, l0, l1, l2 =>
    if (h.1 l0 13) ≤ l2 then (
      lp_Md_hourGoes_237 tb fu h l0 l1 (0 : Int32)
    ) else (
      (rI tb h (lay tb l0 58) (((6 : Int32) * l1) + l2)).bind fun x1 =>
      if x1 = (0 : Int32) then (
        jb_Md_hourGoes_227 tb (lp_Md_hourGoes_159 tb n) h l0 l1 l2 (lay tb l0 58) (((6 : Int32) * l1) + l2)
      ) else (
        (rI tb h (lay tb l0 55) (((6 : Int32) * l1) + l2)).bind fun x2 =>
        if (100 : Int32) ≤ x2 then (
          jb_Md_hourGoes_227 tb (lp_Md_hourGoes_159 tb n) h l0 l1 l2 (lay tb l0 58) (((6 : Int32) * l1) + l2)
        ) else (
          (rI tb h (lay tb l0 57) (((6 : Int32) * l1) + l2)).bind fun x3 =>
          if (100 : Int32) ≤ x3 then (
            jb_Md_hourGoes_227 tb (lp_Md_hourGoes_159 tb n) h l0 l1 l2 (lay tb l0 58) (((6 : Int32) * l1) + l2)
          ) else (
            jb_Md_hourGoes_228 tb (lp_Md_hourGoes_159 tb n) h l0 l1 l2 (lay tb l0 58) (((6 : Int32) * l1) + l2) (1 : Int32)
          )
        )
      )
    )
def lp_Md_hourGoes_130 (tb : Tb) (c118 : Hp → Nat → Int32 → Int32 → Option (Hp)) : Nat → Hp → Nat → Int32 → Int32 → Int32 → Option (Hp)
  | 0, _, _, _, _, _ => none
  | n + 1, h, l0, l1, l2, l3 =>
    if (h.1 l0 13) ≤ l3 then (
      nmd (l2 + (1 : Int32)) fun x1 =>
      c118 h l0 l1 x1
    ) else (
      (f_Md_meets tb h l0 l1 l2 l3).bind fun r2 =>
      nmd (l3 + (1 : Int32)) fun x3 =>
      lp_Md_hourGoes_130 tb c118 n r2 l0 l1 l2 x3
    )
def lp_Md_hourGoes_118 (tb : Tb) : Nat → Hp → Nat → Int32 → Int32 → Option (Hp)
  | 0, _, _, _, _ => none
  | n + 1, h, l0, l1, l2 =>
    if (h.1 l0 13) ≤ l2 then (
      lp_Md_hourGoes_159 tb fu h l0 l1 (0 : Int32)
    ) else (
      nmd (l2 + (1 : Int32)) fun x1 =>
      lp_Md_hourGoes_130 tb (lp_Md_hourGoes_118 tb n) fu h l0 l1 l2 x1
    )
def lp_Md_hourGoes_96 (tb : Tb) : Nat → Hp → Nat → Int32 → Int32 → Option (Hp)
  | 0, _, _, _, _ => none
  | n + 1, h, l0, l1, l2 =>
    if (h.1 l0 13) ≤ l2 then (
      lp_Md_hourGoes_118 tb fu h l0 l1 (0 : Int32)
    ) else (
      (f_Md_drinks tb h l0 l1 l2).bind fun r1 =>
      nmd (l2 + (1 : Int32)) fun x2 =>
      lp_Md_hourGoes_96 tb n r1 l0 l1 x2
    )
def jb_Md_hourGoes_88 (tb : Tb) (c60 : Hp → Nat → Int32 → Int32 → Option (Hp)) (h : Hp) (l0 : Nat) (l1 : Int32) (l2 : Int32) : Option (Hp) :=
  nmd (l2 + (1 : Int32)) fun x1 =>
  c60 h l0 l1 x1
def lp_Md_hourGoes_60 (tb : Tb) : Nat → Hp → Nat → Int32 → Int32 → Option (Hp)
  | 0, _, _, _, _ => none
  | n + 1, h, l0, l1, l2 =>
    if (h.1 l0 13) ≤ l2 then (
      lp_Md_hourGoes_96 tb fu h l0 l1 (0 : Int32)
    ) else (
      (rI tb h (lay tb l0 58) (((6 : Int32) * l1) + l2)).bind fun x1 =>
      if x1 = (0 : Int32) then (
        jb_Md_hourGoes_88 tb (lp_Md_hourGoes_60 tb n) h l0 l1 l2
      ) else (
        (f_Md_walks tb h l0 l1 l2).bind fun r2 =>
        jb_Md_hourGoes_88 tb (lp_Md_hourGoes_60 tb n) r2 l0 l1 l2
      )
    )
def jb_Md_hourGoes_52 (tb : Tb) (c7 : Hp → Nat → Int32 → Int32 → Option (Hp)) (h : Hp) (l0 : Nat) (l1 : Int32) (l2 : Int32) : Option (Hp) :=
  nmd (l2 + (1 : Int32)) fun x1 =>
  c7 h l0 l1 x1
def lp_Md_hourGoes_7 (tb : Tb) : Nat → Hp → Nat → Int32 → Int32 → Option (Hp)
  | 0, _, _, _, _ => none
  | n + 1, h, l0, l1, l2 =>
    if (h.1 l0 14) ≤ l2 then (
      lp_Md_hourGoes_60 tb fu h l0 l1 (0 : Int32)
    ) else (
      (rI tb h (lay tb l0 36) l2).bind fun x1 =>
      (rI tb h (lay tb l0 64) l1).bind fun x2 =>
      if x1 = x2 then (
        (rI tb h (lay tb l0 34) l2).bind fun x3 =>
        (rI tb h (lay tb l0 35) l2).bind fun x4 =>
        (wI tb h (lay tb l0 56) (((6 : Int32) * l1) + x3) x4).bind fun h5 =>
        jb_Md_hourGoes_52 tb (lp_Md_hourGoes_7 tb n) h5 l0 l1 l2
      ) else (
        jb_Md_hourGoes_52 tb (lp_Md_hourGoes_7 tb n) h l0 l1 l2
      )
    )
def f_Md_hourGoes (tb : Tb) (h : Hp) (l0 : Nat) (l1 : Int32) : Option (Hp) :=
  nmd (pI h l0 68 (-1 : Int32)) fun h1 =>
  lp_Md_hourGoes_7 tb fu h1 l0 l1 (0 : Int32)
set_option maxRecDepth 4000 in
set_option maxHeartbeats 1000000 in
theorem vjb_Md_hourGoes_317 {E : En} {g : Gl} {tb : Tb} {ρ : Nat → Nat} (ok : TbOK tb) (hi : inj tb ρ) {r : Hp} (X : CX E g tb ρ prog_14_method_65_code 4 RC12 5 124) (Y : CQ E g tb ρ none (none) r) (h : Hp) (l0 : Nat) (l1 : Int32) (kl0 : kd tb l0 = 12) (hf : jb_Md_hourGoes_317 tb h l0 l1 = some r) : V E g tb ρ 4 317 [(0, .ref (ρ l0)), (1, .int l1)] [] h := by
  unfold jb_Md_hourGoes_317 at hf
  refine v_aload_n (pc := 317) (k := 0) X (by decide +kernel) 0 rfl ?_
  refine v_geta (pc := 318) X fl_12_124 kl0 fk_12_64 (by decide +kernel) ?_
  refine v_iload_n (pc := 321) (k := 1) X (by decide +kernel) 1 rfl ?_
  refine v_dup2 (pc := 322) X (by decide +kernel) rfl rfl ?_
  obtain ⟨x1, ex1, hf⟩ := bnd_e hf
  refine v_iald (pc := 323) X (ly_12_64 ok kl0) ex1 (by decide +kernel) ?_
  refine v_iconst (pc := 324) (n := 1) X (by decide +kernel) ic_1 ?_
  refine v_iadd (pc := 325) X (by decide +kernel) ?_
  obtain ⟨h2, eh2, hf⟩ := bnd_e hf
  refine v_iast (pc := 326) X (ly_12_64 ok kl0) eh2 (by decide +kernel) ?_
  cases hf
  exact v_vret X Y (by decide +kernel) rfl rfl
set_option maxRecDepth 4000 in
set_option maxHeartbeats 1000000 in
theorem vjb_Md_hourGoes_311 {E : En} {g : Gl} {tb : Tb} {ρ : Nat → Nat} (ok : TbOK tb) (hi : inj tb ρ) {r : Hp} (X : CX E g tb ρ prog_14_method_65_code 4 RC12 5 124) (Y : CQ E g tb ρ none (none) r) {c237 : Hp → Nat → Int32 → Int32 → Option (Hp)} (H237 : ∀ (h : Hp) (l0 : Nat) (l1 : Int32) (l2 : Int32) (kl0 : kd tb l0 = 12), c237 h l0 l1 l2 = some r → V E g tb ρ 4 237 [(0, .ref (ρ l0)), (1, .int l1), (2, .int l2)] [] h) (h : Hp) (l0 : Nat) (l1 : Int32) (l2 : Int32) (kl0 : kd tb l0 = 12) (hf : jb_Md_hourGoes_311 tb c237 h l0 l1 l2 = some r) : V E g tb ρ 4 311 [(0, .ref (ρ l0)), (1, .int l1), (2, .int l2)] [] h := by
  unfold jb_Md_hourGoes_311 at hf
  obtain ⟨x1, ex1, hf⟩ := nmd_e hf
  refine v_iinc (pc := 311) (k := 2) (n := 1) (v := x1) (lv' := [(2, .int x1), (0, .ref (ρ l0)), (1, .int l1)]) X (by decide +kernel) 2 rfl (by rw [ic_1, ex1]) (Nat.le_of_ble_eq_true rfl) rfl ?_
  refine v_goto (pc := 314) (off := -77) (tgt := 237) X (by decide +kernel) (by decide) ?_
  refine v_sub [1, 2, 0] rfl ?_
  exact H237 h l0 l1 x1 kl0 hf
set_option maxRecDepth 4000 in
set_option maxHeartbeats 1000000 in
theorem vjb_Md_hourGoes_310 {E : En} {g : Gl} {tb : Tb} {ρ : Nat → Nat} (ok : TbOK tb) (hi : inj tb ρ) {r : Hp} (X : CX E g tb ρ prog_14_method_65_code 4 RC12 5 124) (Y : CQ E g tb ρ none (none) r) {c237 : Hp → Nat → Int32 → Int32 → Option (Hp)} (H237 : ∀ (h : Hp) (l0 : Nat) (l1 : Int32) (l2 : Int32) (kl0 : kd tb l0 = 12), c237 h l0 l1 l2 = some r → V E g tb ρ 4 237 [(0, .ref (ρ l0)), (1, .int l1), (2, .int l2)] [] h) (h : Hp) (l0 : Nat) (l1 : Int32) (l2 : Int32) (s0 : Nat) (s1 : Int32) (s2 : Int32) (kl0 : kd tb l0 = 12) (ks0 : kd tb s0 = 20) (hf : jb_Md_hourGoes_310 tb c237 h l0 l1 l2 s0 s1 s2 = some r) : V E g tb ρ 4 310 [(0, .ref (ρ l0)), (1, .int l1), (2, .int l2)] [.int s2, .int s1, .ref (ρ s0)] h := by
  unfold jb_Md_hourGoes_310 at hf
  obtain ⟨h1, eh1, hf⟩ := bnd_e hf
  refine v_iast (pc := 310) X ks0 eh1 (by decide +kernel) ?_
  exact vjb_Md_hourGoes_311 ok hi X Y H237 h1 l0 l1 l2 kl0 hf
set_option maxRecDepth 4000 in
set_option maxHeartbeats 1000000 in
theorem vlp_Md_hourGoes_237 {E : En} {g : Gl} {tb : Tb} {ρ : Nat → Nat} (ok : TbOK tb) (hi : inj tb ρ) {r : Hp} (X : CX E g tb ρ prog_14_method_65_code 4 RC12 5 124) (Y : CQ E g tb ρ none (none) r) : ∀ (n : Nat) (h : Hp) (l0 : Nat) (l1 : Int32) (l2 : Int32) (kl0 : kd tb l0 = 12), lp_Md_hourGoes_237 tb n h l0 l1 l2 = some r → V E g tb ρ 4 237 [(0, .ref (ρ l0)), (1, .int l1), (2, .int l2)] [] h := by
  intro n
  induction n with
  | zero =>
    intro h l0 l1 l2 kl0 hf
    rw [lp_Md_hourGoes_237] at hf
    cases hf
  | succ n ih =>
    intro h l0 l1 l2 kl0 hf
    rw [lp_Md_hourGoes_237] at hf
    refine v_iload_n (pc := 237) (k := 2) X (by decide +kernel) 2 rfl ?_
    refine v_aload_n (pc := 238) (k := 0) X (by decide +kernel) 0 rfl ?_
    refine v_geti (pc := 239) X fl_12_243 kl0 rfl (by decide +kernel) ?_
    refine v_icmp_ge (pc := 242) (off := 75) (tgt := 317) X (by decide +kernel) (by decide) (fun q9 => ?_) (fun q9 => ?_)
    · rw [if_pos q9] at hf
      refine v_sub [0, 1] rfl ?_
      exact vjb_Md_hourGoes_317 ok hi X Y h l0 l1 kl0 hf
    · rw [if_neg q9] at hf
      refine v_aload_n (pc := 245) (k := 0) X (by decide +kernel) 0 rfl ?_
      refine v_geta (pc := 246) X fl_12_124 kl0 fk_12_64 (by decide +kernel) ?_
      refine v_iload_n (pc := 249) (k := 1) X (by decide +kernel) 1 rfl ?_
      obtain ⟨x1, ex1, hf⟩ := bnd_e hf
      refine v_iald (pc := 250) X (ly_12_64 ok kl0) ex1 (by decide +kernel) ?_
      refine v_bipush (pc := 251) (n := 10) X (by decide +kernel) bi_10 ?_
      refine v_irem (pc := 253) X (if_neg (by decide)) (by decide +kernel) ?_
      refine v_bipush (pc := 254) (n := 9) X (by decide +kernel) bi_9 ?_
      refine v_icmp_ne (pc := 256) (off := 61) (tgt := 317) X (by decide +kernel) (by decide) (fun q8 => ?_) (fun q8 => ?_)
      · rw [if_neg q8] at hf
        refine v_sub [0, 1] rfl ?_
        exact vjb_Md_hourGoes_317 ok hi X Y h l0 l1 kl0 hf
      · rw [if_pos q8] at hf
        refine v_aload_n (pc := 259) (k := 0) X (by decide +kernel) 0 rfl ?_
        obtain ⟨r2, er2, hf⟩ := bnd_e hf
        refine v_callV (pc := 260) (As := []) (rest := []) X (mt_Md_isRain ok hi kl0 er2) ml_12_453 mv_Md_isRain kl0 cls_12 rfl ⟨Nat.le_of_ble_eq_true rfl, Nat.le_of_ble_eq_true rfl⟩ rfl rfl (Nat.le_of_ble_eq_true rfl) (by decide +kernel) ?_
        change V E g tb ρ 4 263 [(0, .ref (ρ l0)), (1, .int l1), (2, .int l2)] [.int r2.1] r2.2
        refine v_if_ne (pc := 263) (off := 6) (tgt := 269) X (by decide +kernel) (by decide) (fun q7 => ?_) (fun q7 => ?_)
        · rw [if_neg q7] at hf
          refine v_aload_n (pc := 269) (k := 0) X (by decide +kernel) 0 rfl ?_
          refine v_geta (pc := 270) X fl_12_112 kl0 fk_12_60 (by decide +kernel) ?_
          refine v_bipush (pc := 273) (n := 6) X (by decide +kernel) bi_6 ?_
          refine v_iload_n (pc := 275) (k := 1) X (by decide +kernel) 1 rfl ?_
          refine v_imul (pc := 276) X (by decide +kernel) ?_
          refine v_iload_n (pc := 277) (k := 2) X (by decide +kernel) 2 rfl ?_
          refine v_iadd (pc := 278) X (by decide +kernel) ?_
          obtain ⟨x3, ex3, hf⟩ := bnd_e hf
          refine v_iald (pc := 279) X (ly_12_60 ok kl0) ex3 (by decide +kernel) ?_
          refine v_aload_n (pc := 280) (k := 0) X (by decide +kernel) 0 rfl ?_
          refine v_geta (pc := 281) X fl_12_36 kl0 fk_12_28 (by decide +kernel) ?_
          refine v_iload_n (pc := 284) (k := 2) X (by decide +kernel) 2 rfl ?_
          obtain ⟨x4, ex4, hf⟩ := bnd_e hf
          refine v_iald (pc := 285) X (ly_12_28 ok kl0) ex4 (by decide +kernel) ?_
          refine v_iadd (pc := 286) X (by decide +kernel) ?_
          obtain ⟨x5, ex5, hf⟩ := nmd_e hf
          refine v_nmi ex5 ?_
          refine v_istore_n (pc := 287) (k := 3) (lv' := [(3, .int x5), (0, .ref (ρ l0)), (1, .int l1), (2, .int l2)]) X (by decide +kernel) (Nat.le_of_ble_eq_true rfl) rfl ?_
          refine v_aload_n (pc := 288) (k := 0) X (by decide +kernel) 1 rfl ?_
          refine v_geta (pc := 289) X fl_12_112 kl0 fk_12_60 (by decide +kernel) ?_
          refine v_bipush (pc := 292) (n := 6) X (by decide +kernel) bi_6 ?_
          refine v_iload_n (pc := 294) (k := 1) X (by decide +kernel) 2 rfl ?_
          refine v_imul (pc := 295) X (by decide +kernel) ?_
          refine v_iload_n (pc := 296) (k := 2) X (by decide +kernel) 3 rfl ?_
          refine v_iadd (pc := 297) X (by decide +kernel) ?_
          refine v_iload_n (pc := 298) (k := 3) X (by decide +kernel) 0 rfl ?_
          refine v_bipush (pc := 299) (n := 99) X (by decide +kernel) bi_99 ?_
          refine v_icmp_le (pc := 301) (off := 8) (tgt := 309) X (by decide +kernel) (by decide) (fun q6 => ?_) (fun q6 => ?_)
          · rw [if_pos q6] at hf
            refine v_iload_n (pc := 309) (k := 3) X (by decide +kernel) 0 rfl ?_
            refine v_sub [1, 2, 3] rfl ?_
            exact vjb_Md_hourGoes_310 ok hi X Y ih r2.2 l0 l1 l2 (lay tb l0 60) (((6 : Int32) * l1) + l2) x5 kl0 (ly_12_60 ok kl0) hf
          · rw [if_neg q6] at hf
            refine v_bipush (pc := 304) (n := 99) X (by decide +kernel) bi_99 ?_
            refine v_goto (pc := 306) (off := 4) (tgt := 310) X (by decide +kernel) (by decide) ?_
            refine v_sub [1, 2, 3] rfl ?_
            exact vjb_Md_hourGoes_310 ok hi X Y ih r2.2 l0 l1 l2 (lay tb l0 60) (((6 : Int32) * l1) + l2) (99 : Int32) kl0 (ly_12_60 ok kl0) hf
        · rw [if_pos q7] at hf
          refine v_goto (pc := 266) (off := 45) (tgt := 311) X (by decide +kernel) (by decide) ?_
          exact vjb_Md_hourGoes_311 ok hi X Y ih r2.2 l0 l1 l2 kl0 hf
set_option maxRecDepth 4000 in
set_option maxHeartbeats 1000000 in
theorem vjb_Md_hourGoes_228 {E : En} {g : Gl} {tb : Tb} {ρ : Nat → Nat} (ok : TbOK tb) (hi : inj tb ρ) {r : Hp} (X : CX E g tb ρ prog_14_method_65_code 4 RC12 5 124) (Y : CQ E g tb ρ none (none) r) {c159 : Hp → Nat → Int32 → Int32 → Option (Hp)} (H159 : ∀ (h : Hp) (l0 : Nat) (l1 : Int32) (l2 : Int32) (kl0 : kd tb l0 = 12), c159 h l0 l1 l2 = some r → V E g tb ρ 4 159 [(0, .ref (ρ l0)), (1, .int l1), (2, .int l2)] [] h) (h : Hp) (l0 : Nat) (l1 : Int32) (l2 : Int32) (s0 : Nat) (s1 : Int32) (s2 : Int32) (kl0 : kd tb l0 = 12) (ks0 : kd tb s0 = 22) (hf : jb_Md_hourGoes_228 tb c159 h l0 l1 l2 s0 s1 s2 = some r) : V E g tb ρ 4 228 [(0, .ref (ρ l0)), (1, .int l1), (2, .int l2)] [.int s2, .int s1, .ref (ρ s0)] h := by
  unfold jb_Md_hourGoes_228 at hf
  obtain ⟨h1, eh1, hf⟩ := bnd_e hf
  refine v_zast (pc := 228) X ks0 eh1 (by decide +kernel) ?_
  obtain ⟨x2, ex2, hf⟩ := nmd_e hf
  refine v_iinc (pc := 229) (k := 2) (n := 1) (v := x2) (lv' := [(2, .int x2), (0, .ref (ρ l0)), (1, .int l1)]) X (by decide +kernel) 2 rfl (by rw [ic_1, ex2]) (Nat.le_of_ble_eq_true rfl) rfl ?_
  refine v_goto (pc := 232) (off := -73) (tgt := 159) X (by decide +kernel) (by decide) ?_
  refine v_sub [1, 2, 0] rfl ?_
  exact H159 h1 l0 l1 x2 kl0 hf
set_option maxRecDepth 4000 in
set_option maxHeartbeats 1000000 in
theorem vjb_Md_hourGoes_227 {E : En} {g : Gl} {tb : Tb} {ρ : Nat → Nat} (ok : TbOK tb) (hi : inj tb ρ) {r : Hp} (X : CX E g tb ρ prog_14_method_65_code 4 RC12 5 124) (Y : CQ E g tb ρ none (none) r) {c159 : Hp → Nat → Int32 → Int32 → Option (Hp)} (H159 : ∀ (h : Hp) (l0 : Nat) (l1 : Int32) (l2 : Int32) (kl0 : kd tb l0 = 12), c159 h l0 l1 l2 = some r → V E g tb ρ 4 159 [(0, .ref (ρ l0)), (1, .int l1), (2, .int l2)] [] h) (h : Hp) (l0 : Nat) (l1 : Int32) (l2 : Int32) (s0 : Nat) (s1 : Int32) (kl0 : kd tb l0 = 12) (ks0 : kd tb s0 = 22) (hf : jb_Md_hourGoes_227 tb c159 h l0 l1 l2 s0 s1 = some r) : V E g tb ρ 4 227 [(0, .ref (ρ l0)), (1, .int l1), (2, .int l2)] [.int s1, .ref (ρ s0)] h := by
  unfold jb_Md_hourGoes_227 at hf
  refine v_iconst (pc := 227) (n := 0) X (by decide +kernel) ic_0 ?_
  exact vjb_Md_hourGoes_228 ok hi X Y H159 h l0 l1 l2 s0 s1 (0 : Int32) kl0 ks0 hf
set_option maxRecDepth 4000 in
set_option maxHeartbeats 1000000 in
theorem vlp_Md_hourGoes_159 {E : En} {g : Gl} {tb : Tb} {ρ : Nat → Nat} (ok : TbOK tb) (hi : inj tb ρ) {r : Hp} (X : CX E g tb ρ prog_14_method_65_code 4 RC12 5 124) (Y : CQ E g tb ρ none (none) r) : ∀ (n : Nat) (h : Hp) (l0 : Nat) (l1 : Int32) (l2 : Int32) (kl0 : kd tb l0 = 12), lp_Md_hourGoes_159 tb n h l0 l1 l2 = some r → V E g tb ρ 4 159 [(0, .ref (ρ l0)), (1, .int l1), (2, .int l2)] [] h := by
  intro n
  induction n with
  | zero =>
    intro h l0 l1 l2 kl0 hf
    rw [lp_Md_hourGoes_159] at hf
    cases hf
  | succ n ih =>
    intro h l0 l1 l2 kl0 hf
    rw [lp_Md_hourGoes_159] at hf
    refine v_iload_n (pc := 159) (k := 2) X (by decide +kernel) 2 rfl ?_
    refine v_aload_n (pc := 160) (k := 0) X (by decide +kernel) 0 rfl ?_
    refine v_geti (pc := 161) X fl_12_246 kl0 rfl (by decide +kernel) ?_
    refine v_icmp_ge (pc := 164) (off := 71) (tgt := 235) X (by decide +kernel) (by decide) (fun q7 => ?_) (fun q7 => ?_)
    · rw [if_pos q7] at hf
      refine v_iconst (pc := 235) (n := 0) X (by decide +kernel) ic_0 ?_
      refine v_istore_n (pc := 236) (k := 2) (lv' := [(2, .int (0 : Int32)), (0, .ref (ρ l0)), (1, .int l1)]) X (by decide +kernel) (Nat.le_of_ble_eq_true rfl) rfl ?_
      refine v_sub [1, 2, 0] rfl ?_
      exact vlp_Md_hourGoes_237 ok hi X Y fu h l0 l1 (0 : Int32) kl0 hf
    · rw [if_neg q7] at hf
      refine v_aload_n (pc := 167) (k := 0) X (by decide +kernel) 0 rfl ?_
      refine v_geta (pc := 168) X fl_12_106 kl0 fk_12_58 (by decide +kernel) ?_
      refine v_bipush (pc := 171) (n := 6) X (by decide +kernel) bi_6 ?_
      refine v_iload_n (pc := 173) (k := 1) X (by decide +kernel) 1 rfl ?_
      refine v_imul (pc := 174) X (by decide +kernel) ?_
      refine v_iload_n (pc := 175) (k := 2) X (by decide +kernel) 2 rfl ?_
      refine v_iadd (pc := 176) X (by decide +kernel) ?_
      refine v_aload_n (pc := 177) (k := 0) X (by decide +kernel) 0 rfl ?_
      refine v_geta (pc := 178) X fl_12_106 kl0 fk_12_58 (by decide +kernel) ?_
      refine v_bipush (pc := 181) (n := 6) X (by decide +kernel) bi_6 ?_
      refine v_iload_n (pc := 183) (k := 1) X (by decide +kernel) 1 rfl ?_
      refine v_imul (pc := 184) X (by decide +kernel) ?_
      refine v_iload_n (pc := 185) (k := 2) X (by decide +kernel) 2 rfl ?_
      refine v_iadd (pc := 186) X (by decide +kernel) ?_
      obtain ⟨x1, ex1, hf⟩ := bnd_e hf
      refine v_zald (pc := 187) X (ly_12_58 ok kl0) ex1 (by decide +kernel) ?_
      refine v_if_eq (pc := 188) (off := 39) (tgt := 227) X (by decide +kernel) (by decide) (fun q6 => ?_) (fun q6 => ?_)
      · rw [if_pos q6] at hf
        exact vjb_Md_hourGoes_227 ok hi X Y ih h l0 l1 l2 (lay tb l0 58) (((6 : Int32) * l1) + l2) kl0 (ly_12_58 ok kl0) hf
      · rw [if_neg q6] at hf
        refine v_aload_n (pc := 191) (k := 0) X (by decide +kernel) 0 rfl ?_
        refine v_geta (pc := 192) X fl_12_97 kl0 fk_12_55 (by decide +kernel) ?_
        refine v_bipush (pc := 195) (n := 6) X (by decide +kernel) bi_6 ?_
        refine v_iload_n (pc := 197) (k := 1) X (by decide +kernel) 1 rfl ?_
        refine v_imul (pc := 198) X (by decide +kernel) ?_
        refine v_iload_n (pc := 199) (k := 2) X (by decide +kernel) 2 rfl ?_
        refine v_iadd (pc := 200) X (by decide +kernel) ?_
        obtain ⟨x2, ex2, hf⟩ := bnd_e hf
        refine v_iald (pc := 201) X (ly_12_55 ok kl0) ex2 (by decide +kernel) ?_
        refine v_bipush (pc := 202) (n := 100) X (by decide +kernel) bi_100 ?_
        refine v_icmp_ge (pc := 204) (off := 23) (tgt := 227) X (by decide +kernel) (by decide) (fun q5 => ?_) (fun q5 => ?_)
        · rw [if_pos q5] at hf
          exact vjb_Md_hourGoes_227 ok hi X Y ih h l0 l1 l2 (lay tb l0 58) (((6 : Int32) * l1) + l2) kl0 (ly_12_58 ok kl0) hf
        · rw [if_neg q5] at hf
          refine v_aload_n (pc := 207) (k := 0) X (by decide +kernel) 0 rfl ?_
          refine v_geta (pc := 208) X fl_12_103 kl0 fk_12_57 (by decide +kernel) ?_
          refine v_bipush (pc := 211) (n := 6) X (by decide +kernel) bi_6 ?_
          refine v_iload_n (pc := 213) (k := 1) X (by decide +kernel) 1 rfl ?_
          refine v_imul (pc := 214) X (by decide +kernel) ?_
          refine v_iload_n (pc := 215) (k := 2) X (by decide +kernel) 2 rfl ?_
          refine v_iadd (pc := 216) X (by decide +kernel) ?_
          obtain ⟨x3, ex3, hf⟩ := bnd_e hf
          refine v_iald (pc := 217) X (ly_12_57 ok kl0) ex3 (by decide +kernel) ?_
          refine v_bipush (pc := 218) (n := 100) X (by decide +kernel) bi_100 ?_
          refine v_icmp_ge (pc := 220) (off := 7) (tgt := 227) X (by decide +kernel) (by decide) (fun q4 => ?_) (fun q4 => ?_)
          · rw [if_pos q4] at hf
            exact vjb_Md_hourGoes_227 ok hi X Y ih h l0 l1 l2 (lay tb l0 58) (((6 : Int32) * l1) + l2) kl0 (ly_12_58 ok kl0) hf
          · rw [if_neg q4] at hf
            refine v_iconst (pc := 223) (n := 1) X (by decide +kernel) ic_1 ?_
            refine v_goto (pc := 224) (off := 4) (tgt := 228) X (by decide +kernel) (by decide) ?_
            exact vjb_Md_hourGoes_228 ok hi X Y ih h l0 l1 l2 (lay tb l0 58) (((6 : Int32) * l1) + l2) (1 : Int32) kl0 (ly_12_58 ok kl0) hf
set_option maxRecDepth 4000 in
set_option maxHeartbeats 1000000 in
theorem vlp_Md_hourGoes_130 {E : En} {g : Gl} {tb : Tb} {ρ : Nat → Nat} (ok : TbOK tb) (hi : inj tb ρ) {r : Hp} (X : CX E g tb ρ prog_14_method_65_code 4 RC12 5 124) (Y : CQ E g tb ρ none (none) r) {c118 : Hp → Nat → Int32 → Int32 → Option (Hp)} (H118 : ∀ (h : Hp) (l0 : Nat) (l1 : Int32) (l2 : Int32) (kl0 : kd tb l0 = 12), c118 h l0 l1 l2 = some r → V E g tb ρ 4 118 [(0, .ref (ρ l0)), (1, .int l1), (2, .int l2)] [] h) : ∀ (n : Nat) (h : Hp) (l0 : Nat) (l1 : Int32) (l2 : Int32) (l3 : Int32) (kl0 : kd tb l0 = 12), lp_Md_hourGoes_130 tb c118 n h l0 l1 l2 l3 = some r → V E g tb ρ 4 130 [(0, .ref (ρ l0)), (1, .int l1), (2, .int l2), (3, .int l3)] [] h := by
  intro n
  induction n with
  | zero =>
    intro h l0 l1 l2 l3 kl0 hf
    rw [lp_Md_hourGoes_130] at hf
    cases hf
  | succ n ih =>
    intro h l0 l1 l2 l3 kl0 hf
    rw [lp_Md_hourGoes_130] at hf
    refine v_iload_n (pc := 130) (k := 3) X (by decide +kernel) 3 rfl ?_
    refine v_aload_n (pc := 131) (k := 0) X (by decide +kernel) 0 rfl ?_
    refine v_geti (pc := 132) X fl_12_246 kl0 rfl (by decide +kernel) ?_
    refine v_icmp_ge (pc := 135) (off := 16) (tgt := 151) X (by decide +kernel) (by decide) (fun q4 => ?_) (fun q4 => ?_)
    · rw [if_pos q4] at hf
      obtain ⟨x1, ex1, hf⟩ := nmd_e hf
      refine v_iinc (pc := 151) (k := 2) (n := 1) (v := x1) (lv' := [(2, .int x1), (0, .ref (ρ l0)), (1, .int l1), (3, .int l3)]) X (by decide +kernel) 2 rfl (by rw [ic_1, ex1]) (Nat.le_of_ble_eq_true rfl) rfl ?_
      refine v_goto (pc := 154) (off := -36) (tgt := 118) X (by decide +kernel) (by decide) ?_
      refine v_sub [1, 2, 0] rfl ?_
      exact H118 h l0 l1 x1 kl0 hf
    · rw [if_neg q4] at hf
      refine v_aload_n (pc := 138) (k := 0) X (by decide +kernel) 0 rfl ?_
      refine v_iload_n (pc := 139) (k := 1) X (by decide +kernel) 1 rfl ?_
      refine v_iload_n (pc := 140) (k := 2) X (by decide +kernel) 2 rfl ?_
      refine v_iload_n (pc := 141) (k := 3) X (by decide +kernel) 3 rfl ?_
      obtain ⟨r2, er2, hf⟩ := bnd_e hf
      refine v_callV (pc := 142) (As := [.int l1, .int l2, .int l3]) (rest := []) X (mt_Md_meets ok hi kl0 er2) ml_12_450 mv_Md_meets kl0 cls_12 rfl ⟨Nat.le_of_ble_eq_true rfl, Nat.le_of_ble_eq_true rfl⟩ rfl rfl (Nat.le_of_ble_eq_true rfl) (by decide +kernel) ?_
      change V E g tb ρ 4 145 [(0, .ref (ρ l0)), (1, .int l1), (2, .int l2), (3, .int l3)] [] r2
      obtain ⟨x3, ex3, hf⟩ := nmd_e hf
      refine v_iinc (pc := 145) (k := 3) (n := 1) (v := x3) (lv' := [(3, .int x3), (0, .ref (ρ l0)), (1, .int l1), (2, .int l2)]) X (by decide +kernel) 3 rfl (by rw [ic_1, ex3]) (Nat.le_of_ble_eq_true rfl) rfl ?_
      refine v_goto (pc := 148) (off := -18) (tgt := 130) X (by decide +kernel) (by decide) ?_
      refine v_sub [1, 2, 3, 0] rfl ?_
      exact ih r2 l0 l1 l2 x3 kl0 hf
set_option maxRecDepth 4000 in
set_option maxHeartbeats 1000000 in
theorem vlp_Md_hourGoes_118 {E : En} {g : Gl} {tb : Tb} {ρ : Nat → Nat} (ok : TbOK tb) (hi : inj tb ρ) {r : Hp} (X : CX E g tb ρ prog_14_method_65_code 4 RC12 5 124) (Y : CQ E g tb ρ none (none) r) : ∀ (n : Nat) (h : Hp) (l0 : Nat) (l1 : Int32) (l2 : Int32) (kl0 : kd tb l0 = 12), lp_Md_hourGoes_118 tb n h l0 l1 l2 = some r → V E g tb ρ 4 118 [(0, .ref (ρ l0)), (1, .int l1), (2, .int l2)] [] h := by
  intro n
  induction n with
  | zero =>
    intro h l0 l1 l2 kl0 hf
    rw [lp_Md_hourGoes_118] at hf
    cases hf
  | succ n ih =>
    intro h l0 l1 l2 kl0 hf
    rw [lp_Md_hourGoes_118] at hf
    refine v_iload_n (pc := 118) (k := 2) X (by decide +kernel) 2 rfl ?_
    refine v_aload_n (pc := 119) (k := 0) X (by decide +kernel) 0 rfl ?_
    refine v_geti (pc := 120) X fl_12_246 kl0 rfl (by decide +kernel) ?_
    refine v_icmp_ge (pc := 123) (off := 34) (tgt := 157) X (by decide +kernel) (by decide) (fun q2 => ?_) (fun q2 => ?_)
    · rw [if_pos q2] at hf
      refine v_iconst (pc := 157) (n := 0) X (by decide +kernel) ic_0 ?_
      refine v_istore_n (pc := 158) (k := 2) (lv' := [(2, .int (0 : Int32)), (0, .ref (ρ l0)), (1, .int l1)]) X (by decide +kernel) (Nat.le_of_ble_eq_true rfl) rfl ?_
      refine v_sub [1, 2, 0] rfl ?_
      exact vlp_Md_hourGoes_159 ok hi X Y fu h l0 l1 (0 : Int32) kl0 hf
    · rw [if_neg q2] at hf
      refine v_iload_n (pc := 126) (k := 2) X (by decide +kernel) 2 rfl ?_
      refine v_iconst (pc := 127) (n := 1) X (by decide +kernel) ic_1 ?_
      refine v_iadd (pc := 128) X (by decide +kernel) ?_
      obtain ⟨x1, ex1, hf⟩ := nmd_e hf
      refine v_nmi ex1 ?_
      refine v_istore_n (pc := 129) (k := 3) (lv' := [(3, .int x1), (0, .ref (ρ l0)), (1, .int l1), (2, .int l2)]) X (by decide +kernel) (Nat.le_of_ble_eq_true rfl) rfl ?_
      refine v_sub [1, 2, 3, 0] rfl ?_
      exact vlp_Md_hourGoes_130 ok hi X Y ih fu h l0 l1 l2 x1 kl0 hf
set_option maxRecDepth 4000 in
set_option maxHeartbeats 1000000 in
theorem vlp_Md_hourGoes_96 {E : En} {g : Gl} {tb : Tb} {ρ : Nat → Nat} (ok : TbOK tb) (hi : inj tb ρ) {r : Hp} (X : CX E g tb ρ prog_14_method_65_code 4 RC12 5 124) (Y : CQ E g tb ρ none (none) r) : ∀ (n : Nat) (h : Hp) (l0 : Nat) (l1 : Int32) (l2 : Int32) (kl0 : kd tb l0 = 12), lp_Md_hourGoes_96 tb n h l0 l1 l2 = some r → V E g tb ρ 4 96 [(0, .ref (ρ l0)), (1, .int l1), (2, .int l2)] [] h := by
  intro n
  induction n with
  | zero =>
    intro h l0 l1 l2 kl0 hf
    rw [lp_Md_hourGoes_96] at hf
    cases hf
  | succ n ih =>
    intro h l0 l1 l2 kl0 hf
    rw [lp_Md_hourGoes_96] at hf
    refine v_iload_n (pc := 96) (k := 2) X (by decide +kernel) 2 rfl ?_
    refine v_aload_n (pc := 97) (k := 0) X (by decide +kernel) 0 rfl ?_
    refine v_geti (pc := 98) X fl_12_246 kl0 rfl (by decide +kernel) ?_
    refine v_icmp_ge (pc := 101) (off := 15) (tgt := 116) X (by decide +kernel) (by decide) (fun q3 => ?_) (fun q3 => ?_)
    · rw [if_pos q3] at hf
      refine v_iconst (pc := 116) (n := 0) X (by decide +kernel) ic_0 ?_
      refine v_istore_n (pc := 117) (k := 2) (lv' := [(2, .int (0 : Int32)), (0, .ref (ρ l0)), (1, .int l1)]) X (by decide +kernel) (Nat.le_of_ble_eq_true rfl) rfl ?_
      refine v_sub [1, 2, 0] rfl ?_
      exact vlp_Md_hourGoes_118 ok hi X Y fu h l0 l1 (0 : Int32) kl0 hf
    · rw [if_neg q3] at hf
      refine v_aload_n (pc := 104) (k := 0) X (by decide +kernel) 0 rfl ?_
      refine v_iload_n (pc := 105) (k := 1) X (by decide +kernel) 1 rfl ?_
      refine v_iload_n (pc := 106) (k := 2) X (by decide +kernel) 2 rfl ?_
      obtain ⟨r1, er1, hf⟩ := bnd_e hf
      refine v_callV (pc := 107) (As := [.int l1, .int l2]) (rest := []) X (mt_Md_drinks ok hi kl0 er1) ml_12_447 mv_Md_drinks kl0 cls_12 rfl ⟨Nat.le_of_ble_eq_true rfl, Nat.le_of_ble_eq_true rfl⟩ rfl rfl (Nat.le_of_ble_eq_true rfl) (by decide +kernel) ?_
      change V E g tb ρ 4 110 [(0, .ref (ρ l0)), (1, .int l1), (2, .int l2)] [] r1
      obtain ⟨x2, ex2, hf⟩ := nmd_e hf
      refine v_iinc (pc := 110) (k := 2) (n := 1) (v := x2) (lv' := [(2, .int x2), (0, .ref (ρ l0)), (1, .int l1)]) X (by decide +kernel) 2 rfl (by rw [ic_1, ex2]) (Nat.le_of_ble_eq_true rfl) rfl ?_
      refine v_goto (pc := 113) (off := -17) (tgt := 96) X (by decide +kernel) (by decide) ?_
      refine v_sub [1, 2, 0] rfl ?_
      exact ih r1 l0 l1 x2 kl0 hf
set_option maxRecDepth 4000 in
set_option maxHeartbeats 1000000 in
theorem vjb_Md_hourGoes_88 {E : En} {g : Gl} {tb : Tb} {ρ : Nat → Nat} (ok : TbOK tb) (hi : inj tb ρ) {r : Hp} (X : CX E g tb ρ prog_14_method_65_code 4 RC12 5 124) (Y : CQ E g tb ρ none (none) r) {c60 : Hp → Nat → Int32 → Int32 → Option (Hp)} (H60 : ∀ (h : Hp) (l0 : Nat) (l1 : Int32) (l2 : Int32) (kl0 : kd tb l0 = 12), c60 h l0 l1 l2 = some r → V E g tb ρ 4 60 [(0, .ref (ρ l0)), (1, .int l1), (2, .int l2)] [] h) (h : Hp) (l0 : Nat) (l1 : Int32) (l2 : Int32) (kl0 : kd tb l0 = 12) (hf : jb_Md_hourGoes_88 tb c60 h l0 l1 l2 = some r) : V E g tb ρ 4 88 [(0, .ref (ρ l0)), (1, .int l1), (2, .int l2)] [] h := by
  unfold jb_Md_hourGoes_88 at hf
  obtain ⟨x1, ex1, hf⟩ := nmd_e hf
  refine v_iinc (pc := 88) (k := 2) (n := 1) (v := x1) (lv' := [(2, .int x1), (0, .ref (ρ l0)), (1, .int l1)]) X (by decide +kernel) 2 rfl (by rw [ic_1, ex1]) (Nat.le_of_ble_eq_true rfl) rfl ?_
  refine v_goto (pc := 91) (off := -31) (tgt := 60) X (by decide +kernel) (by decide) ?_
  refine v_sub [1, 2, 0] rfl ?_
  exact H60 h l0 l1 x1 kl0 hf
set_option maxRecDepth 4000 in
set_option maxHeartbeats 1000000 in
theorem vlp_Md_hourGoes_60 {E : En} {g : Gl} {tb : Tb} {ρ : Nat → Nat} (ok : TbOK tb) (hi : inj tb ρ) {r : Hp} (X : CX E g tb ρ prog_14_method_65_code 4 RC12 5 124) (Y : CQ E g tb ρ none (none) r) : ∀ (n : Nat) (h : Hp) (l0 : Nat) (l1 : Int32) (l2 : Int32) (kl0 : kd tb l0 = 12), lp_Md_hourGoes_60 tb n h l0 l1 l2 = some r → V E g tb ρ 4 60 [(0, .ref (ρ l0)), (1, .int l1), (2, .int l2)] [] h := by
  intro n
  induction n with
  | zero =>
    intro h l0 l1 l2 kl0 hf
    rw [lp_Md_hourGoes_60] at hf
    cases hf
  | succ n ih =>
    intro h l0 l1 l2 kl0 hf
    rw [lp_Md_hourGoes_60] at hf
    refine v_iload_n (pc := 60) (k := 2) X (by decide +kernel) 2 rfl ?_
    refine v_aload_n (pc := 61) (k := 0) X (by decide +kernel) 0 rfl ?_
    refine v_geti (pc := 62) X fl_12_246 kl0 rfl (by decide +kernel) ?_
    refine v_icmp_ge (pc := 65) (off := 29) (tgt := 94) X (by decide +kernel) (by decide) (fun q4 => ?_) (fun q4 => ?_)
    · rw [if_pos q4] at hf
      refine v_iconst (pc := 94) (n := 0) X (by decide +kernel) ic_0 ?_
      refine v_istore_n (pc := 95) (k := 2) (lv' := [(2, .int (0 : Int32)), (0, .ref (ρ l0)), (1, .int l1)]) X (by decide +kernel) (Nat.le_of_ble_eq_true rfl) rfl ?_
      refine v_sub [1, 2, 0] rfl ?_
      exact vlp_Md_hourGoes_96 ok hi X Y fu h l0 l1 (0 : Int32) kl0 hf
    · rw [if_neg q4] at hf
      refine v_aload_n (pc := 68) (k := 0) X (by decide +kernel) 0 rfl ?_
      refine v_geta (pc := 69) X fl_12_106 kl0 fk_12_58 (by decide +kernel) ?_
      refine v_bipush (pc := 72) (n := 6) X (by decide +kernel) bi_6 ?_
      refine v_iload_n (pc := 74) (k := 1) X (by decide +kernel) 1 rfl ?_
      refine v_imul (pc := 75) X (by decide +kernel) ?_
      refine v_iload_n (pc := 76) (k := 2) X (by decide +kernel) 2 rfl ?_
      refine v_iadd (pc := 77) X (by decide +kernel) ?_
      obtain ⟨x1, ex1, hf⟩ := bnd_e hf
      refine v_zald (pc := 78) X (ly_12_58 ok kl0) ex1 (by decide +kernel) ?_
      refine v_if_eq (pc := 79) (off := 9) (tgt := 88) X (by decide +kernel) (by decide) (fun q3 => ?_) (fun q3 => ?_)
      · rw [if_pos q3] at hf
        exact vjb_Md_hourGoes_88 ok hi X Y ih h l0 l1 l2 kl0 hf
      · rw [if_neg q3] at hf
        refine v_aload_n (pc := 82) (k := 0) X (by decide +kernel) 0 rfl ?_
        refine v_iload_n (pc := 83) (k := 1) X (by decide +kernel) 1 rfl ?_
        refine v_iload_n (pc := 84) (k := 2) X (by decide +kernel) 2 rfl ?_
        obtain ⟨r2, er2, hf⟩ := bnd_e hf
        refine v_callV (pc := 85) (As := [.int l1, .int l2]) (rest := []) X (mt_Md_walks ok hi kl0 er2) ml_12_444 mv_Md_walks kl0 cls_12 rfl ⟨Nat.le_of_ble_eq_true rfl, Nat.le_of_ble_eq_true rfl⟩ rfl rfl (Nat.le_of_ble_eq_true rfl) (by decide +kernel) ?_
        change V E g tb ρ 4 88 [(0, .ref (ρ l0)), (1, .int l1), (2, .int l2)] [] r2
        exact vjb_Md_hourGoes_88 ok hi X Y ih r2 l0 l1 l2 kl0 hf
set_option maxRecDepth 4000 in
set_option maxHeartbeats 1000000 in
theorem vjb_Md_hourGoes_52 {E : En} {g : Gl} {tb : Tb} {ρ : Nat → Nat} (ok : TbOK tb) (hi : inj tb ρ) {r : Hp} (X : CX E g tb ρ prog_14_method_65_code 4 RC12 5 124) (Y : CQ E g tb ρ none (none) r) {c7 : Hp → Nat → Int32 → Int32 → Option (Hp)} (H7 : ∀ (h : Hp) (l0 : Nat) (l1 : Int32) (l2 : Int32) (kl0 : kd tb l0 = 12), c7 h l0 l1 l2 = some r → V E g tb ρ 4 7 [(0, .ref (ρ l0)), (1, .int l1), (2, .int l2)] [] h) (h : Hp) (l0 : Nat) (l1 : Int32) (l2 : Int32) (kl0 : kd tb l0 = 12) (hf : jb_Md_hourGoes_52 tb c7 h l0 l1 l2 = some r) : V E g tb ρ 4 52 [(0, .ref (ρ l0)), (1, .int l1), (2, .int l2)] [] h := by
  unfold jb_Md_hourGoes_52 at hf
  obtain ⟨x1, ex1, hf⟩ := nmd_e hf
  refine v_iinc (pc := 52) (k := 2) (n := 1) (v := x1) (lv' := [(2, .int x1), (0, .ref (ρ l0)), (1, .int l1)]) X (by decide +kernel) 2 rfl (by rw [ic_1, ex1]) (Nat.le_of_ble_eq_true rfl) rfl ?_
  refine v_goto (pc := 55) (off := -48) (tgt := 7) X (by decide +kernel) (by decide) ?_
  refine v_sub [1, 2, 0] rfl ?_
  exact H7 h l0 l1 x1 kl0 hf
set_option maxRecDepth 4000 in
set_option maxHeartbeats 1000000 in
theorem vlp_Md_hourGoes_7 {E : En} {g : Gl} {tb : Tb} {ρ : Nat → Nat} (ok : TbOK tb) (hi : inj tb ρ) {r : Hp} (X : CX E g tb ρ prog_14_method_65_code 4 RC12 5 124) (Y : CQ E g tb ρ none (none) r) : ∀ (n : Nat) (h : Hp) (l0 : Nat) (l1 : Int32) (l2 : Int32) (kl0 : kd tb l0 = 12), lp_Md_hourGoes_7 tb n h l0 l1 l2 = some r → V E g tb ρ 4 7 [(0, .ref (ρ l0)), (1, .int l1), (2, .int l2)] [] h := by
  intro n
  induction n with
  | zero =>
    intro h l0 l1 l2 kl0 hf
    rw [lp_Md_hourGoes_7] at hf
    cases hf
  | succ n ih =>
    intro h l0 l1 l2 kl0 hf
    rw [lp_Md_hourGoes_7] at hf
    refine v_iload_n (pc := 7) (k := 2) X (by decide +kernel) 2 rfl ?_
    refine v_aload_n (pc := 8) (k := 0) X (by decide +kernel) 0 rfl ?_
    refine v_geti (pc := 9) X fl_12_249 kl0 rfl (by decide +kernel) ?_
    refine v_icmp_ge (pc := 12) (off := 46) (tgt := 58) X (by decide +kernel) (by decide) (fun q7 => ?_) (fun q7 => ?_)
    · rw [if_pos q7] at hf
      refine v_iconst (pc := 58) (n := 0) X (by decide +kernel) ic_0 ?_
      refine v_istore_n (pc := 59) (k := 2) (lv' := [(2, .int (0 : Int32)), (0, .ref (ρ l0)), (1, .int l1)]) X (by decide +kernel) (Nat.le_of_ble_eq_true rfl) rfl ?_
      refine v_sub [1, 2, 0] rfl ?_
      exact vlp_Md_hourGoes_60 ok hi X Y fu h l0 l1 (0 : Int32) kl0 hf
    · rw [if_neg q7] at hf
      refine v_aload_n (pc := 15) (k := 0) X (by decide +kernel) 0 rfl ?_
      refine v_geta (pc := 16) X fl_12_60 kl0 fk_12_36 (by decide +kernel) ?_
      refine v_iload_n (pc := 19) (k := 2) X (by decide +kernel) 2 rfl ?_
      obtain ⟨x1, ex1, hf⟩ := bnd_e hf
      refine v_iald (pc := 20) X (ly_12_36 ok kl0) ex1 (by decide +kernel) ?_
      refine v_aload_n (pc := 21) (k := 0) X (by decide +kernel) 0 rfl ?_
      refine v_geta (pc := 22) X fl_12_124 kl0 fk_12_64 (by decide +kernel) ?_
      refine v_iload_n (pc := 25) (k := 1) X (by decide +kernel) 1 rfl ?_
      obtain ⟨x2, ex2, hf⟩ := bnd_e hf
      refine v_iald (pc := 26) X (ly_12_64 ok kl0) ex2 (by decide +kernel) ?_
      refine v_icmp_ne (pc := 27) (off := 25) (tgt := 52) X (by decide +kernel) (by decide) (fun q6 => ?_) (fun q6 => ?_)
      · rw [if_neg q6] at hf
        exact vjb_Md_hourGoes_52 ok hi X Y ih h l0 l1 l2 kl0 hf
      · rw [if_pos q6] at hf
        refine v_aload_n (pc := 30) (k := 0) X (by decide +kernel) 0 rfl ?_
        refine v_geta (pc := 31) X fl_12_100 kl0 fk_12_56 (by decide +kernel) ?_
        refine v_bipush (pc := 34) (n := 6) X (by decide +kernel) bi_6 ?_
        refine v_iload_n (pc := 36) (k := 1) X (by decide +kernel) 1 rfl ?_
        refine v_imul (pc := 37) X (by decide +kernel) ?_
        refine v_aload_n (pc := 38) (k := 0) X (by decide +kernel) 0 rfl ?_
        refine v_geta (pc := 39) X fl_12_54 kl0 fk_12_34 (by decide +kernel) ?_
        refine v_iload_n (pc := 42) (k := 2) X (by decide +kernel) 2 rfl ?_
        obtain ⟨x3, ex3, hf⟩ := bnd_e hf
        refine v_iald (pc := 43) X (ly_12_34 ok kl0) ex3 (by decide +kernel) ?_
        refine v_iadd (pc := 44) X (by decide +kernel) ?_
        refine v_aload_n (pc := 45) (k := 0) X (by decide +kernel) 0 rfl ?_
        refine v_geta (pc := 46) X fl_12_57 kl0 fk_12_35 (by decide +kernel) ?_
        refine v_iload_n (pc := 49) (k := 2) X (by decide +kernel) 2 rfl ?_
        obtain ⟨x4, ex4, hf⟩ := bnd_e hf
        refine v_iald (pc := 50) X (ly_12_35 ok kl0) ex4 (by decide +kernel) ?_
        obtain ⟨h5, eh5, hf⟩ := bnd_e hf
        refine v_iast (pc := 51) X (ly_12_56 ok kl0) eh5 (by decide +kernel) ?_
        exact vjb_Md_hourGoes_52 ok hi X Y ih h5 l0 l1 l2 kl0 hf
set_option maxRecDepth 4000 in
set_option maxHeartbeats 1000000 in
theorem mt_Md_hourGoes {g : Gl} {tb : Tb} {ρ : Nat → Nat} (ok : TbOK tb) (hi : inj tb ρ) {h : Hp} {l0 : Nat} {l1 : Int32} (kl0 : kd tb l0 = 12) {r : Hp} (hf : f_Md_hourGoes tb h l0 l1 = some r) : MT g y_Md_hourGoes prog_14_method_65_code 4 none 5 124 tb ρ [.ref (ρ l0), .int l1] h (none) r := by
  refine mt_intro (by decide +kernel) ok hi (Nat.le_of_ble_eq_true rfl) (fun E X Y => ?_)
  change V E g tb ρ 4 0 [(0, .ref (ρ l0)), (1, .int l1)] [] h
  unfold f_Md_hourGoes at hf
  refine v_aload_n (pc := 0) (k := 0) X (by decide +kernel) 0 rfl ?_
  refine v_iconst (pc := 1) (n := -1) X (by decide +kernel) ic_m1 ?_
  obtain ⟨h1, eh1, hf⟩ := nmd_e hf
  refine v_puti (pc := 2) X fp_12_438 kl0 rfl (by decide +kernel) eh1 ?_
  refine v_iconst (pc := 5) (n := 0) X (by decide +kernel) ic_0 ?_
  refine v_istore_n (pc := 6) (k := 2) (lv' := [(2, .int (0 : Int32)), (0, .ref (ρ l0)), (1, .int l1)]) X (by decide +kernel) (Nat.le_of_ble_eq_true rfl) rfl ?_
  refine v_sub [1, 2, 0] rfl ?_
  exact vlp_Md_hourGoes_7 ok hi X Y fu h1 l0 l1 (0 : Int32) kl0 hf
def lp_Md_goMany_2 (tb : Tb) : Nat → Hp → Nat → Int32 → Int32 → Option (Hp)
  | 0, _, _, _, _ => none
  | n + 1, h, l0, l1, l2 =>
    if l1 ≤ l2 then (
      some h
    ) else (
      (f_Md_hourGoes tb h l0 (1 : Int32)).bind fun r1 =>
      nmd (l2 + (1 : Int32)) fun x2 =>
      lp_Md_goMany_2 tb n r1 l0 l1 x2
    )
def f_Md_goMany (tb : Tb) (h : Hp) (l0 : Nat) (l1 : Int32) : Option (Hp) :=
  lp_Md_goMany_2 tb fu h l0 l1 (0 : Int32)
set_option maxRecDepth 4000 in
set_option maxHeartbeats 1000000 in
theorem vlp_Md_goMany_2 {E : En} {g : Gl} {tb : Tb} {ρ : Nat → Nat} (ok : TbOK tb) (hi : inj tb ρ) {r : Hp} (X : CX E g tb ρ prog_14_method_66_code 3 RC12 6 147) (Y : CQ E g tb ρ none (none) r) : ∀ (n : Nat) (h : Hp) (l0 : Nat) (l1 : Int32) (l2 : Int32) (kl0 : kd tb l0 = 12), lp_Md_goMany_2 tb n h l0 l1 l2 = some r → V E g tb ρ 3 2 [(0, .ref (ρ l0)), (1, .int l1), (2, .int l2)] [] h := by
  intro n
  induction n with
  | zero =>
    intro h l0 l1 l2 kl0 hf
    rw [lp_Md_goMany_2] at hf
    cases hf
  | succ n ih =>
    intro h l0 l1 l2 kl0 hf
    rw [lp_Md_goMany_2] at hf
    refine v_iload_n (pc := 2) (k := 2) X (by decide +kernel) 2 rfl ?_
    refine v_iload_n (pc := 3) (k := 1) X (by decide +kernel) 1 rfl ?_
    refine v_icmp_ge (pc := 4) (off := 14) (tgt := 18) X (by decide +kernel) (by decide) (fun q3 => ?_) (fun q3 => ?_)
    · rw [if_pos q3] at hf
      cases hf
      exact v_vret X Y (by decide +kernel) rfl rfl
    · rw [if_neg q3] at hf
      refine v_aload_n (pc := 7) (k := 0) X (by decide +kernel) 0 rfl ?_
      refine v_iconst (pc := 8) (n := 1) X (by decide +kernel) ic_1 ?_
      obtain ⟨r1, er1, hf⟩ := bnd_e hf
      refine v_callV (pc := 9) (As := [.int (1 : Int32)]) (rest := []) X (mt_Md_hourGoes ok hi kl0 er1) ml_12_456 mv_Md_hourGoes kl0 cls_12 rfl ⟨Nat.le_of_ble_eq_true rfl, Nat.le_of_ble_eq_true rfl⟩ rfl rfl (Nat.le_of_ble_eq_true rfl) (by decide +kernel) ?_
      change V E g tb ρ 3 12 [(0, .ref (ρ l0)), (1, .int l1), (2, .int l2)] [] r1
      obtain ⟨x2, ex2, hf⟩ := nmd_e hf
      refine v_iinc (pc := 12) (k := 2) (n := 1) (v := x2) (lv' := [(2, .int x2), (0, .ref (ρ l0)), (1, .int l1)]) X (by decide +kernel) 2 rfl (by rw [ic_1, ex2]) (Nat.le_of_ble_eq_true rfl) rfl ?_
      refine v_goto (pc := 15) (off := -13) (tgt := 2) X (by decide +kernel) (by decide) ?_
      refine v_sub [1, 2, 0] rfl ?_
      exact ih r1 l0 l1 x2 kl0 hf
set_option maxRecDepth 4000 in
set_option maxHeartbeats 1000000 in
theorem mt_Md_goMany {g : Gl} {tb : Tb} {ρ : Nat → Nat} (ok : TbOK tb) (hi : inj tb ρ) {h : Hp} {l0 : Nat} {l1 : Int32} (kl0 : kd tb l0 = 12) {r : Hp} (hf : f_Md_goMany tb h l0 l1 = some r) : MT g y_Md_goMany prog_14_method_66_code 3 none 6 147 tb ρ [.ref (ρ l0), .int l1] h (none) r := by
  refine mt_intro (by decide +kernel) ok hi (Nat.le_of_ble_eq_true rfl) (fun E X Y => ?_)
  change V E g tb ρ 3 0 [(0, .ref (ρ l0)), (1, .int l1)] [] h
  unfold f_Md_goMany at hf
  refine v_iconst (pc := 0) (n := 0) X (by decide +kernel) ic_0 ?_
  refine v_istore_n (pc := 1) (k := 2) (lv' := [(2, .int (0 : Int32)), (0, .ref (ρ l0)), (1, .int l1)]) X (by decide +kernel) (Nat.le_of_ble_eq_true rfl) rfl ?_
  refine v_sub [1, 2, 0] rfl ?_
  exact vlp_Md_goMany_2 ok hi X Y fu h l0 l1 (0 : Int32) kl0 hf
def jb_Md_onMany_32 (tb : Tb) (c4 : Hp → Nat → Int32 → Int32 → Int32 → Option (Int32)) (h : Hp) (l0 : Nat) (l1 : Int32) (l3 : Int32) (s0 : Int32) (s1 : Int32) : Option (Int32) :=
  nmd (s0 + s1) fun x1 =>
  nmd (l3 + (1 : Int32)) fun x2 =>
  c4 h l0 l1 x1 x2
def lp_Md_onMany_4 (tb : Tb) : Nat → Hp → Nat → Int32 → Int32 → Int32 → Option (Int32)
  | 0, _, _, _, _, _ => none
  | n + 1, h, l0, l1, l2, l3 =>
    if (h.1 l0 13) ≤ l3 then (
      some l2
    ) else (
      (rI tb h (lay tb l0 58) (((6 : Int32) * l1) + l3)).bind fun x1 =>
      if x1 = (0 : Int32) then (
        jb_Md_onMany_32 tb (lp_Md_onMany_4 tb n) h l0 l1 l3 l2 (0 : Int32)
      ) else (
        jb_Md_onMany_32 tb (lp_Md_onMany_4 tb n) h l0 l1 l3 l2 (1 : Int32)
      )
    )
def f_Md_onMany (tb : Tb) (h : Hp) (l0 : Nat) (l1 : Int32) : Option (Int32) :=
  lp_Md_onMany_4 tb fu h l0 l1 (0 : Int32) (0 : Int32)
set_option maxRecDepth 4000 in
set_option maxHeartbeats 1000000 in
theorem vjb_Md_onMany_32 {E : En} {g : Gl} {tb : Tb} {ρ : Nat → Nat} (ok : TbOK tb) (hi : inj tb ρ) {r : Int32} (X : CX E g tb ρ prog_14_method_67_code 4 RC12 0 0) {h : Hp} (Y : CQ E g tb ρ (some .int) (some (.int r)) h) {c4 : Hp → Nat → Int32 → Int32 → Int32 → Option (Int32)} (H4 : ∀ (l0 : Nat) (l1 : Int32) (l2 : Int32) (l3 : Int32) (kl0 : kd tb l0 = 12), c4 h l0 l1 l2 l3 = some r → V E g tb ρ 4 4 [(0, .ref (ρ l0)), (1, .int l1), (2, .int l2), (3, .int l3)] [] h) (l0 : Nat) (l1 : Int32) (l3 : Int32) (s0 : Int32) (s1 : Int32) (kl0 : kd tb l0 = 12) (hf : jb_Md_onMany_32 tb c4 h l0 l1 l3 s0 s1 = some r) : V E g tb ρ 4 32 [(0, .ref (ρ l0)), (1, .int l1), (3, .int l3)] [.int s1, .int s0] h := by
  unfold jb_Md_onMany_32 at hf
  refine v_iadd (pc := 32) X (by decide +kernel) ?_
  obtain ⟨x1, ex1, hf⟩ := nmd_e hf
  refine v_nmi ex1 ?_
  refine v_istore_n (pc := 33) (k := 2) (lv' := [(2, .int x1), (0, .ref (ρ l0)), (1, .int l1), (3, .int l3)]) X (by decide +kernel) (Nat.le_of_ble_eq_true rfl) rfl ?_
  obtain ⟨x2, ex2, hf⟩ := nmd_e hf
  refine v_iinc (pc := 34) (k := 3) (n := 1) (v := x2) (lv' := [(3, .int x2), (2, .int x1), (0, .ref (ρ l0)), (1, .int l1)]) X (by decide +kernel) 3 rfl (by rw [ic_1, ex2]) (Nat.le_of_ble_eq_true rfl) rfl ?_
  refine v_goto (pc := 37) (off := -33) (tgt := 4) X (by decide +kernel) (by decide) ?_
  refine v_sub [2, 3, 1, 0] rfl ?_
  exact H4 l0 l1 x1 x2 kl0 hf
set_option maxRecDepth 4000 in
set_option maxHeartbeats 1000000 in
theorem vlp_Md_onMany_4 {E : En} {g : Gl} {tb : Tb} {ρ : Nat → Nat} (ok : TbOK tb) (hi : inj tb ρ) {r : Int32} (X : CX E g tb ρ prog_14_method_67_code 4 RC12 0 0) {h : Hp} (Y : CQ E g tb ρ (some .int) (some (.int r)) h) : ∀ (n : Nat) (l0 : Nat) (l1 : Int32) (l2 : Int32) (l3 : Int32) (kl0 : kd tb l0 = 12), lp_Md_onMany_4 tb n h l0 l1 l2 l3 = some r → V E g tb ρ 4 4 [(0, .ref (ρ l0)), (1, .int l1), (2, .int l2), (3, .int l3)] [] h := by
  intro n
  induction n with
  | zero =>
    intro l0 l1 l2 l3 kl0 hf
    rw [lp_Md_onMany_4] at hf
    cases hf
  | succ n ih =>
    intro l0 l1 l2 l3 kl0 hf
    rw [lp_Md_onMany_4] at hf
    refine v_iload_n (pc := 4) (k := 3) X (by decide +kernel) 3 rfl ?_
    refine v_aload_n (pc := 5) (k := 0) X (by decide +kernel) 0 rfl ?_
    refine v_geti (pc := 6) X fl_12_246 kl0 rfl (by decide +kernel) ?_
    refine v_icmp_ge (pc := 9) (off := 31) (tgt := 40) X (by decide +kernel) (by decide) (fun q3 => ?_) (fun q3 => ?_)
    · rw [if_pos q3] at hf
      refine v_iload_n (pc := 40) (k := 2) X (by decide +kernel) 2 rfl ?_
      cases hf
      exact v_iret X Y (by decide +kernel) rfl rfl
    · rw [if_neg q3] at hf
      refine v_iload_n (pc := 12) (k := 2) X (by decide +kernel) 2 rfl ?_
      refine v_aload_n (pc := 13) (k := 0) X (by decide +kernel) 0 rfl ?_
      refine v_geta (pc := 14) X fl_12_106 kl0 fk_12_58 (by decide +kernel) ?_
      refine v_bipush (pc := 17) (n := 6) X (by decide +kernel) bi_6 ?_
      refine v_iload_n (pc := 19) (k := 1) X (by decide +kernel) 1 rfl ?_
      refine v_imul (pc := 20) X (by decide +kernel) ?_
      refine v_iload_n (pc := 21) (k := 3) X (by decide +kernel) 3 rfl ?_
      refine v_iadd (pc := 22) X (by decide +kernel) ?_
      obtain ⟨x1, ex1, hf⟩ := bnd_e hf
      refine v_zald (pc := 23) X (ly_12_58 ok kl0) ex1 (by decide +kernel) ?_
      refine v_if_eq (pc := 24) (off := 7) (tgt := 31) X (by decide +kernel) (by decide) (fun q2 => ?_) (fun q2 => ?_)
      · rw [if_pos q2] at hf
        refine v_iconst (pc := 31) (n := 0) X (by decide +kernel) ic_0 ?_
        refine v_sub [0, 1, 3] rfl ?_
        exact vjb_Md_onMany_32 ok hi X Y ih l0 l1 l3 l2 (0 : Int32) kl0 hf
      · rw [if_neg q2] at hf
        refine v_iconst (pc := 27) (n := 1) X (by decide +kernel) ic_1 ?_
        refine v_goto (pc := 28) (off := 4) (tgt := 32) X (by decide +kernel) (by decide) ?_
        refine v_sub [0, 1, 3] rfl ?_
        exact vjb_Md_onMany_32 ok hi X Y ih l0 l1 l3 l2 (1 : Int32) kl0 hf
set_option maxRecDepth 4000 in
set_option maxHeartbeats 1000000 in
theorem mt_Md_onMany {g : Gl} {tb : Tb} {ρ : Nat → Nat} (ok : TbOK tb) (hi : inj tb ρ) {h : Hp} {l0 : Nat} {l1 : Int32} (kl0 : kd tb l0 = 12) {r : Int32} (hf : f_Md_onMany tb h l0 l1 = some r) : MT g y_Md_onMany prog_14_method_67_code 4 (some .int) 0 0 tb ρ [.ref (ρ l0), .int l1] h (some (.int r)) h := by
  refine mt_intro (by decide +kernel) ok hi (Nat.le_of_ble_eq_true rfl) (fun E X Y => ?_)
  change V E g tb ρ 4 0 [(0, .ref (ρ l0)), (1, .int l1)] [] h
  unfold f_Md_onMany at hf
  refine v_iconst (pc := 0) (n := 0) X (by decide +kernel) ic_0 ?_
  refine v_istore_n (pc := 1) (k := 2) (lv' := [(2, .int (0 : Int32)), (0, .ref (ρ l0)), (1, .int l1)]) X (by decide +kernel) (Nat.le_of_ble_eq_true rfl) rfl ?_
  refine v_iconst (pc := 2) (n := 0) X (by decide +kernel) ic_0 ?_
  refine v_istore_n (pc := 3) (k := 3) (lv' := [(3, .int (0 : Int32)), (2, .int (0 : Int32)), (0, .ref (ρ l0)), (1, .int l1)]) X (by decide +kernel) (Nat.le_of_ble_eq_true rfl) rfl ?_
  refine v_sub [2, 3, 1, 0] rfl ?_
  exact vlp_Md_onMany_4 ok hi X Y fu l0 l1 (0 : Int32) (0 : Int32) kl0 hf
def f_Md_fails (tb : Tb) (h : Hp) (l0 : Nat) (l1 : Int32) : Int32 × Hp :=
  nmd (pI h l0 2 l1) fun h1 =>
  ((0 : Int32), h1)
set_option maxRecDepth 4000 in
set_option maxHeartbeats 1000000 in
theorem mt_Md_fails {g : Gl} {tb : Tb} {ρ : Nat → Nat} (ok : TbOK tb) (hi : inj tb ρ) {h : Hp} {l0 : Nat} {l1 : Int32} (kl0 : kd tb l0 = 12) {r : Int32 × Hp} (hf : f_Md_fails tb h l0 l1 = r) : MT g y_Md_fails prog_14_method_68_code 2 (some .int) 0 0 tb ρ [.ref (ρ l0), .int l1] h (some (.int r.1)) r.2 := by
  refine mt_intro (by decide +kernel) ok hi (Nat.le_of_ble_eq_true rfl) (fun E X Y => ?_)
  change V E g tb ρ 2 0 [(0, .ref (ρ l0)), (1, .int l1)] [] h
  unfold f_Md_fails at hf
  refine v_aload_n (pc := 0) (k := 0) X (by decide +kernel) 0 rfl ?_
  refine v_iload_n (pc := 1) (k := 1) X (by decide +kernel) 1 rfl ?_
  obtain ⟨h1, eh1, hf⟩ := nmd_e hf
  refine v_puti (pc := 2) X fp_12_160 kl0 rfl (by decide +kernel) eh1 ?_
  refine v_iconst (pc := 5) (n := 0) X (by decide +kernel) ic_0 ?_
  cases hf
  exact v_iret X Y (by decide +kernel) rfl rfl
def f_Md_horse (tb : Tb) (h : Hp) (l0 : Nat) (l1 : Int32) (l2 : Int32) : Option (Int32 × Hp) :=
  nmd (pI h l0 2 (0 : Int32)) fun h1 =>
  nmd (f_Md_isHorse tb h1 l0 l1) fun r2 =>
  if r2 = (0 : Int32) then (
    nmd (f_Md_fails tb h1 l0 (1 : Int32)) fun r23 =>
    some (r23.1, r23.2)
  ) else (
    if l2 = (0 : Int32) then (
      (rI tb h1 (lay tb l0 30) l1).bind fun x4 =>
      some (x4, h1)
    ) else (
      if l2 = (1 : Int32) then (
        (rI tb h1 (lay tb l0 54) l1).bind fun x6 =>
        some (x6, h1)
      ) else (
        if l2 = (2 : Int32) then (
          (rI tb h1 (lay tb l0 55) l1).bind fun x8 =>
          some (x8, h1)
        ) else (
          if l2 = (3 : Int32) then (
            (rI tb h1 (lay tb l0 33) l1).bind fun x10 =>
            some (x10, h1)
          ) else (
            if l2 = (4 : Int32) then (
              (rI tb h1 (lay tb l0 56) l1).bind fun x12 =>
              if (0 : Int32) ≤ x12 then (
                (rI tb h1 (lay tb l0 56) l1).bind fun x13 =>
                some (x13, h1)
              ) else (
                some ((-2 : Int32), h1)
              )
            ) else (
              if l2 = (5 : Int32) then (
                (rI tb h1 (lay tb l0 57) l1).bind fun x16 =>
                some (x16, h1)
              ) else (
                if l2 = (6 : Int32) then (
                  (rI tb h1 (lay tb l0 58) l1).bind fun x18 =>
                  if x18 = (0 : Int32) then (
                    some ((0 : Int32), h1)
                  ) else (
                    some ((1 : Int32), h1)
                  )
                ) else (
                  if l2 = (7 : Int32) then (
                    (rI tb h1 (lay tb l0 59) l1).bind fun x21 =>
                    some (x21, h1)
                  ) else (
                    nmd (f_Md_fails tb h1 l0 (2 : Int32)) fun r22 =>
                    some (r22.1, r22.2)
                  )
                )
              )
            )
          )
        )
      )
    )
  )
set_option maxRecDepth 4000 in
set_option maxHeartbeats 1000000 in
theorem mt_Md_horse {g : Gl} {tb : Tb} {ρ : Nat → Nat} (ok : TbOK tb) (hi : inj tb ρ) {h : Hp} {l0 : Nat} {l1 : Int32} {l2 : Int32} (kl0 : kd tb l0 = 12) {r : Int32 × Hp} (hf : f_Md_horse tb h l0 l1 l2 = some r) : MT g y_Md_horse prog_14_method_69_code 3 (some .int) 1 21 tb ρ [.ref (ρ l0), .int l1, .int l2] h (some (.int r.1)) r.2 := by
  refine mt_intro (by decide +kernel) ok hi (Nat.le_of_ble_eq_true rfl) (fun E X Y => ?_)
  change V E g tb ρ 3 0 [(0, .ref (ρ l0)), (1, .int l1), (2, .int l2)] [] h
  unfold f_Md_horse at hf
  refine v_aload_n (pc := 0) (k := 0) X (by decide +kernel) 0 rfl ?_
  refine v_iconst (pc := 1) (n := 0) X (by decide +kernel) ic_0 ?_
  obtain ⟨h1, eh1, hf⟩ := nmd_e hf
  refine v_puti (pc := 2) X fp_12_160 kl0 rfl (by decide +kernel) eh1 ?_
  refine v_aload_n (pc := 5) (k := 0) X (by decide +kernel) 0 rfl ?_
  refine v_iload_n (pc := 6) (k := 1) X (by decide +kernel) 1 rfl ?_
  obtain ⟨r2, er2, hf⟩ := nmd_e hf
  refine v_callV (pc := 7) (As := [.int l1]) (rest := []) X (mt_Md_isHorse ok hi kl0 er2.symm) ml_12_459 mv_Md_isHorse kl0 cls_12 rfl ⟨Nat.le_of_ble_eq_true rfl, Nat.le_of_ble_eq_true rfl⟩ rfl rfl (Nat.le_of_ble_eq_true rfl) (by decide +kernel) ?_
  change V E g tb ρ 3 10 [(0, .ref (ρ l0)), (1, .int l1), (2, .int l2)] [.int r2] h1
  refine v_if_ne (pc := 10) (off := 9) (tgt := 19) X (by decide +kernel) (by decide) (fun q24 => ?_) (fun q24 => ?_)
  · rw [if_neg q24] at hf
    refine v_iload_n (pc := 19) (k := 2) X (by decide +kernel) 2 rfl ?_
    by_cases q3 : l2 = (0 : Int32)
    · rw [if_pos q3] at hf
      refine v_tin (pc := 20) (off := 48) (tgt := 68) X (show decode prog_14_method_69_code 20 = .ok (.tableswitch 126 0 7 #[48, 55, 62, 69, 76, 97, 104, 119], 48) from by decide +kernel) q3 (by decide) (by decide) (by decide) (by decide) ?_
      refine v_aload_n (pc := 68) (k := 0) X (by decide +kernel) 0 rfl ?_
      refine v_geta (pc := 69) X fl_12_42 kl0 fk_12_30 (by decide +kernel) ?_
      refine v_iload_n (pc := 72) (k := 1) X (by decide +kernel) 1 rfl ?_
      obtain ⟨x4, ex4, hf⟩ := bnd_e hf
      refine v_iald (pc := 73) X (ly_12_30 ok kl0) ex4 (by decide +kernel) ?_
      cases hf
      exact v_iret X Y (by decide +kernel) rfl rfl
    · rw [if_neg q3] at hf
      by_cases q5 : l2 = (1 : Int32)
      · rw [if_pos q5] at hf
        refine v_tin (pc := 20) (off := 55) (tgt := 75) X (show decode prog_14_method_69_code 20 = .ok (.tableswitch 126 0 7 #[48, 55, 62, 69, 76, 97, 104, 119], 48) from by decide +kernel) q5 (by decide) (by decide) (by decide) (by decide) ?_
        refine v_aload_n (pc := 75) (k := 0) X (by decide +kernel) 0 rfl ?_
        refine v_geta (pc := 76) X fl_12_94 kl0 fk_12_54 (by decide +kernel) ?_
        refine v_iload_n (pc := 79) (k := 1) X (by decide +kernel) 1 rfl ?_
        obtain ⟨x6, ex6, hf⟩ := bnd_e hf
        refine v_iald (pc := 80) X (ly_12_54 ok kl0) ex6 (by decide +kernel) ?_
        cases hf
        exact v_iret X Y (by decide +kernel) rfl rfl
      · rw [if_neg q5] at hf
        by_cases q7 : l2 = (2 : Int32)
        · rw [if_pos q7] at hf
          refine v_tin (pc := 20) (off := 62) (tgt := 82) X (show decode prog_14_method_69_code 20 = .ok (.tableswitch 126 0 7 #[48, 55, 62, 69, 76, 97, 104, 119], 48) from by decide +kernel) q7 (by decide) (by decide) (by decide) (by decide) ?_
          refine v_aload_n (pc := 82) (k := 0) X (by decide +kernel) 0 rfl ?_
          refine v_geta (pc := 83) X fl_12_97 kl0 fk_12_55 (by decide +kernel) ?_
          refine v_iload_n (pc := 86) (k := 1) X (by decide +kernel) 1 rfl ?_
          obtain ⟨x8, ex8, hf⟩ := bnd_e hf
          refine v_iald (pc := 87) X (ly_12_55 ok kl0) ex8 (by decide +kernel) ?_
          cases hf
          exact v_iret X Y (by decide +kernel) rfl rfl
        · rw [if_neg q7] at hf
          by_cases q9 : l2 = (3 : Int32)
          · rw [if_pos q9] at hf
            refine v_tin (pc := 20) (off := 69) (tgt := 89) X (show decode prog_14_method_69_code 20 = .ok (.tableswitch 126 0 7 #[48, 55, 62, 69, 76, 97, 104, 119], 48) from by decide +kernel) q9 (by decide) (by decide) (by decide) (by decide) ?_
            refine v_aload_n (pc := 89) (k := 0) X (by decide +kernel) 0 rfl ?_
            refine v_geta (pc := 90) X fl_12_51 kl0 fk_12_33 (by decide +kernel) ?_
            refine v_iload_n (pc := 93) (k := 1) X (by decide +kernel) 1 rfl ?_
            obtain ⟨x10, ex10, hf⟩ := bnd_e hf
            refine v_iald (pc := 94) X (ly_12_33 ok kl0) ex10 (by decide +kernel) ?_
            cases hf
            exact v_iret X Y (by decide +kernel) rfl rfl
          · rw [if_neg q9] at hf
            by_cases q11 : l2 = (4 : Int32)
            · rw [if_pos q11] at hf
              refine v_tin (pc := 20) (off := 76) (tgt := 96) X (show decode prog_14_method_69_code 20 = .ok (.tableswitch 126 0 7 #[48, 55, 62, 69, 76, 97, 104, 119], 48) from by decide +kernel) q11 (by decide) (by decide) (by decide) (by decide) ?_
              refine v_aload_n (pc := 96) (k := 0) X (by decide +kernel) 0 rfl ?_
              refine v_geta (pc := 97) X fl_12_100 kl0 fk_12_56 (by decide +kernel) ?_
              refine v_iload_n (pc := 100) (k := 1) X (by decide +kernel) 1 rfl ?_
              obtain ⟨x12, ex12, hf⟩ := bnd_e hf
              refine v_iald (pc := 101) X (ly_12_56 ok kl0) ex12 (by decide +kernel) ?_
              refine v_if_ge (pc := 102) (off := 8) (tgt := 110) X (by decide +kernel) (by decide) (fun q14 => ?_) (fun q14 => ?_)
              · rw [if_pos q14] at hf
                refine v_aload_n (pc := 110) (k := 0) X (by decide +kernel) 0 rfl ?_
                refine v_geta (pc := 111) X fl_12_100 kl0 fk_12_56 (by decide +kernel) ?_
                refine v_iload_n (pc := 114) (k := 1) X (by decide +kernel) 1 rfl ?_
                obtain ⟨x13, ex13, hf⟩ := bnd_e hf
                refine v_iald (pc := 115) X (ly_12_56 ok kl0) ex13 (by decide +kernel) ?_
                cases hf
                exact v_iret X Y (by decide +kernel) rfl rfl
              · rw [if_neg q14] at hf
                refine v_bipush (pc := 105) (n := -2) X (by decide +kernel) bi_m2 ?_
                refine v_goto (pc := 107) (off := 9) (tgt := 116) X (by decide +kernel) (by decide) ?_
                cases hf
                exact v_iret X Y (by decide +kernel) rfl rfl
            · rw [if_neg q11] at hf
              by_cases q15 : l2 = (5 : Int32)
              · rw [if_pos q15] at hf
                refine v_tin (pc := 20) (off := 97) (tgt := 117) X (show decode prog_14_method_69_code 20 = .ok (.tableswitch 126 0 7 #[48, 55, 62, 69, 76, 97, 104, 119], 48) from by decide +kernel) q15 (by decide) (by decide) (by decide) (by decide) ?_
                refine v_aload_n (pc := 117) (k := 0) X (by decide +kernel) 0 rfl ?_
                refine v_geta (pc := 118) X fl_12_103 kl0 fk_12_57 (by decide +kernel) ?_
                refine v_iload_n (pc := 121) (k := 1) X (by decide +kernel) 1 rfl ?_
                obtain ⟨x16, ex16, hf⟩ := bnd_e hf
                refine v_iald (pc := 122) X (ly_12_57 ok kl0) ex16 (by decide +kernel) ?_
                cases hf
                exact v_iret X Y (by decide +kernel) rfl rfl
              · rw [if_neg q15] at hf
                by_cases q17 : l2 = (6 : Int32)
                · rw [if_pos q17] at hf
                  refine v_tin (pc := 20) (off := 104) (tgt := 124) X (show decode prog_14_method_69_code 20 = .ok (.tableswitch 126 0 7 #[48, 55, 62, 69, 76, 97, 104, 119], 48) from by decide +kernel) q17 (by decide) (by decide) (by decide) (by decide) ?_
                  refine v_aload_n (pc := 124) (k := 0) X (by decide +kernel) 0 rfl ?_
                  refine v_geta (pc := 125) X fl_12_106 kl0 fk_12_58 (by decide +kernel) ?_
                  refine v_iload_n (pc := 128) (k := 1) X (by decide +kernel) 1 rfl ?_
                  obtain ⟨x18, ex18, hf⟩ := bnd_e hf
                  refine v_zald (pc := 129) X (ly_12_58 ok kl0) ex18 (by decide +kernel) ?_
                  refine v_if_eq (pc := 130) (off := 7) (tgt := 137) X (by decide +kernel) (by decide) (fun q19 => ?_) (fun q19 => ?_)
                  · rw [if_pos q19] at hf
                    refine v_iconst (pc := 137) (n := 0) X (by decide +kernel) ic_0 ?_
                    cases hf
                    exact v_iret X Y (by decide +kernel) rfl rfl
                  · rw [if_neg q19] at hf
                    refine v_iconst (pc := 133) (n := 1) X (by decide +kernel) ic_1 ?_
                    refine v_goto (pc := 134) (off := 4) (tgt := 138) X (by decide +kernel) (by decide) ?_
                    cases hf
                    exact v_iret X Y (by decide +kernel) rfl rfl
                · rw [if_neg q17] at hf
                  by_cases q20 : l2 = (7 : Int32)
                  · rw [if_pos q20] at hf
                    refine v_tin (pc := 20) (off := 119) (tgt := 139) X (show decode prog_14_method_69_code 20 = .ok (.tableswitch 126 0 7 #[48, 55, 62, 69, 76, 97, 104, 119], 48) from by decide +kernel) q20 (by decide) (by decide) (by decide) (by decide) ?_
                    refine v_aload_n (pc := 139) (k := 0) X (by decide +kernel) 0 rfl ?_
                    refine v_geta (pc := 140) X fl_12_109 kl0 fk_12_59 (by decide +kernel) ?_
                    refine v_iload_n (pc := 143) (k := 1) X (by decide +kernel) 1 rfl ?_
                    obtain ⟨x21, ex21, hf⟩ := bnd_e hf
                    refine v_iald (pc := 144) X (ly_12_59 ok kl0) ex21 (by decide +kernel) ?_
                    cases hf
                    exact v_iret X Y (by decide +kernel) rfl rfl
                  · rw [if_neg q20] at hf
                    refine v_tout (pc := 20) (tgt := 146) X (show decode prog_14_method_69_code 20 = .ok (.tableswitch 126 0 7 #[48, 55, 62, 69, 76, 97, 104, 119], 48) from by decide +kernel) (t_out (lo := 0) (hi := 7) [(0 : Int32), (1 : Int32), (2 : Int32), (3 : Int32), (4 : Int32), (5 : Int32), (6 : Int32), (7 : Int32)] (by decide) (List.forall_mem_cons.mpr ⟨q3, List.forall_mem_cons.mpr ⟨q5, List.forall_mem_cons.mpr ⟨q7, List.forall_mem_cons.mpr ⟨q9, List.forall_mem_cons.mpr ⟨q11, List.forall_mem_cons.mpr ⟨q15, List.forall_mem_cons.mpr ⟨q17, List.forall_mem_cons.mpr ⟨q20, fun _ h => absurd h List.not_mem_nil⟩⟩⟩⟩⟩⟩⟩⟩)) (by decide) ?_
                    refine v_aload_n (pc := 146) (k := 0) X (by decide +kernel) 0 rfl ?_
                    refine v_iconst (pc := 147) (n := 2) X (by decide +kernel) ic_2 ?_
                    obtain ⟨r22, er22, hf⟩ := nmd_e hf
                    refine v_callV (pc := 148) (As := [.int (2 : Int32)]) (rest := []) X (mt_Md_fails ok hi kl0 er22.symm) ml_12_462 mv_Md_fails kl0 cls_12 rfl ⟨Nat.le_of_ble_eq_true rfl, Nat.le_of_ble_eq_true rfl⟩ rfl rfl (Nat.le_of_ble_eq_true rfl) (by decide +kernel) ?_
                    change V E g tb ρ 3 151 [(0, .ref (ρ l0)), (1, .int l1), (2, .int l2)] [.int r22.1] r22.2
                    cases hf
                    exact v_iret X Y (by decide +kernel) rfl rfl
  · rw [if_pos q24] at hf
    refine v_aload_n (pc := 13) (k := 0) X (by decide +kernel) 0 rfl ?_
    refine v_iconst (pc := 14) (n := 1) X (by decide +kernel) ic_1 ?_
    obtain ⟨r23, er23, hf⟩ := nmd_e hf
    refine v_callV (pc := 15) (As := [.int (1 : Int32)]) (rest := []) X (mt_Md_fails ok hi kl0 er23.symm) ml_12_462 mv_Md_fails kl0 cls_12 rfl ⟨Nat.le_of_ble_eq_true rfl, Nat.le_of_ble_eq_true rfl⟩ rfl rfl (Nat.le_of_ble_eq_true rfl) (by decide +kernel) ?_
    change V E g tb ρ 3 18 [(0, .ref (ρ l0)), (1, .int l1), (2, .int l2)] [.int r23.1] r23.2
    cases hf
    exact v_iret X Y (by decide +kernel) rfl rfl
def jb_Md_trough_64 (tb : Tb) (c20 : Hp → Nat → Int32 → Int32 → Int32 → Int32 → Option (Int32 × Hp)) (h : Hp) (l0 : Nat) (l1 : Int32) (l2 : Int32) (l4 : Int32) (s0 : Int32) (s1 : Int32) : Option (Int32 × Hp) :=
  nmd (s0 ||| s1) fun x1 =>
  nmd (l4 + (1 : Int32)) fun x2 =>
  c20 h l0 l1 l2 x1 x2
def jb_Md_trough_63 (tb : Tb) (c20 : Hp → Nat → Int32 → Int32 → Int32 → Int32 → Option (Int32 × Hp)) (h : Hp) (l0 : Nat) (l1 : Int32) (l2 : Int32) (l4 : Int32) (s0 : Int32) : Option (Int32 × Hp) :=
  jb_Md_trough_64 tb c20 h l0 l1 l2 l4 s0 (0 : Int32)
def lp_Md_trough_20 (tb : Tb) : Nat → Hp → Nat → Int32 → Int32 → Int32 → Int32 → Option (Int32 × Hp)
  | 0, _, _, _, _, _, _ => none
  | n + 1, h, l0, l1, l2, l3, l4 =>
    if (h.1 l0 13) ≤ l4 then (
      if l2 = (0 : Int32) then (
        (rI tb h (lay tb l0 26) l1).bind fun x6 =>
        some (x6, h)
      ) else (
        if l2 = (1 : Int32) then (
          (rI tb h (lay tb l0 60) l1).bind fun x4 =>
          some (x4, h)
        ) else (
          if l2 = (2 : Int32) then (
            (rI tb h (lay tb l0 28) l1).bind fun x2 =>
            some (x2, h)
          ) else (
            if l2 = (3 : Int32) then (
              some (l3, h)
            ) else (
              some ((-1 : Int32), h)
            )
          )
        )
      )
    ) else (
      (rI tb h (lay tb l0 58) l4).bind fun x8 =>
      if x8 = (0 : Int32) then (
        jb_Md_trough_63 tb (lp_Md_trough_20 tb n) h l0 l1 l2 l4 l3
      ) else (
        (rI tb h (lay tb l0 54) l4).bind fun x9 =>
        (rI tb h (lay tb l0 26) l1).bind fun x10 =>
        if x9 = x10 then (
          jb_Md_trough_64 tb (lp_Md_trough_20 tb n) h l0 l1 l2 l4 l3 ((1 : Int32) <<< (l4 &&& 31))
        ) else (
          jb_Md_trough_63 tb (lp_Md_trough_20 tb n) h l0 l1 l2 l4 l3
        )
      )
    )
def f_Md_trough (tb : Tb) (h : Hp) (l0 : Nat) (l1 : Int32) (l2 : Int32) : Option (Int32 × Hp) :=
  nmd (pI h l0 2 (0 : Int32)) fun h1 =>
  nmd (f_Md_isTrough tb h1 l0 l1) fun r2 =>
  if r2 = (0 : Int32) then (
    some ((-1 : Int32), h1)
  ) else (
    lp_Md_trough_20 tb fu h1 l0 l1 l2 (0 : Int32) (0 : Int32)
  )
set_option maxRecDepth 4000 in
set_option maxHeartbeats 1000000 in
theorem vjb_Md_trough_64 {E : En} {g : Gl} {tb : Tb} {ρ : Nat → Nat} (ok : TbOK tb) (hi : inj tb ρ) {r : Int32 × Hp} (X : CX E g tb ρ prog_14_method_70_code 5 RC12 1 21) (Y : CQ E g tb ρ (some .int) (some (.int r.1)) r.2) {c20 : Hp → Nat → Int32 → Int32 → Int32 → Int32 → Option (Int32 × Hp)} (H20 : ∀ (h : Hp) (l0 : Nat) (l1 : Int32) (l2 : Int32) (l3 : Int32) (l4 : Int32) (kl0 : kd tb l0 = 12), c20 h l0 l1 l2 l3 l4 = some r → V E g tb ρ 5 20 [(0, .ref (ρ l0)), (1, .int l1), (2, .int l2), (3, .int l3), (4, .int l4)] [] h) (h : Hp) (l0 : Nat) (l1 : Int32) (l2 : Int32) (l4 : Int32) (s0 : Int32) (s1 : Int32) (kl0 : kd tb l0 = 12) (hf : jb_Md_trough_64 tb c20 h l0 l1 l2 l4 s0 s1 = some r) : V E g tb ρ 5 64 [(0, .ref (ρ l0)), (1, .int l1), (2, .int l2), (4, .int l4)] [.int s1, .int s0] h := by
  unfold jb_Md_trough_64 at hf
  refine v_ior (pc := 64) X (by decide +kernel) ?_
  obtain ⟨x1, ex1, hf⟩ := nmd_e hf
  refine v_nmi ex1 ?_
  refine v_istore_n (pc := 65) (k := 3) (lv' := [(3, .int x1), (0, .ref (ρ l0)), (1, .int l1), (2, .int l2), (4, .int l4)]) X (by decide +kernel) (Nat.le_of_ble_eq_true rfl) rfl ?_
  obtain ⟨x2, ex2, hf⟩ := nmd_e hf
  refine v_iinc (pc := 66) (k := 4) (n := 1) (v := x2) (lv' := [(4, .int x2), (3, .int x1), (0, .ref (ρ l0)), (1, .int l1), (2, .int l2)]) X (by decide +kernel) 4 rfl (by rw [ic_1, ex2]) (Nat.le_of_ble_eq_true rfl) rfl ?_
  refine v_goto (pc := 69) (off := -49) (tgt := 20) X (by decide +kernel) (by decide) ?_
  refine v_sub [2, 3, 4, 1, 0] rfl ?_
  exact H20 h l0 l1 l2 x1 x2 kl0 hf
set_option maxRecDepth 4000 in
set_option maxHeartbeats 1000000 in
theorem vjb_Md_trough_63 {E : En} {g : Gl} {tb : Tb} {ρ : Nat → Nat} (ok : TbOK tb) (hi : inj tb ρ) {r : Int32 × Hp} (X : CX E g tb ρ prog_14_method_70_code 5 RC12 1 21) (Y : CQ E g tb ρ (some .int) (some (.int r.1)) r.2) {c20 : Hp → Nat → Int32 → Int32 → Int32 → Int32 → Option (Int32 × Hp)} (H20 : ∀ (h : Hp) (l0 : Nat) (l1 : Int32) (l2 : Int32) (l3 : Int32) (l4 : Int32) (kl0 : kd tb l0 = 12), c20 h l0 l1 l2 l3 l4 = some r → V E g tb ρ 5 20 [(0, .ref (ρ l0)), (1, .int l1), (2, .int l2), (3, .int l3), (4, .int l4)] [] h) (h : Hp) (l0 : Nat) (l1 : Int32) (l2 : Int32) (l4 : Int32) (s0 : Int32) (kl0 : kd tb l0 = 12) (hf : jb_Md_trough_63 tb c20 h l0 l1 l2 l4 s0 = some r) : V E g tb ρ 5 63 [(0, .ref (ρ l0)), (1, .int l1), (2, .int l2), (4, .int l4)] [.int s0] h := by
  unfold jb_Md_trough_63 at hf
  refine v_iconst (pc := 63) (n := 0) X (by decide +kernel) ic_0 ?_
  exact vjb_Md_trough_64 ok hi X Y H20 h l0 l1 l2 l4 s0 (0 : Int32) kl0 hf
set_option maxRecDepth 4000 in
set_option maxHeartbeats 1000000 in
theorem vlp_Md_trough_20 {E : En} {g : Gl} {tb : Tb} {ρ : Nat → Nat} (ok : TbOK tb) (hi : inj tb ρ) {r : Int32 × Hp} (X : CX E g tb ρ prog_14_method_70_code 5 RC12 1 21) (Y : CQ E g tb ρ (some .int) (some (.int r.1)) r.2) : ∀ (n : Nat) (h : Hp) (l0 : Nat) (l1 : Int32) (l2 : Int32) (l3 : Int32) (l4 : Int32) (kl0 : kd tb l0 = 12), lp_Md_trough_20 tb n h l0 l1 l2 l3 l4 = some r → V E g tb ρ 5 20 [(0, .ref (ρ l0)), (1, .int l1), (2, .int l2), (3, .int l3), (4, .int l4)] [] h := by
  intro n
  induction n with
  | zero =>
    intro h l0 l1 l2 l3 l4 kl0 hf
    rw [lp_Md_trough_20] at hf
    cases hf
  | succ n ih =>
    intro h l0 l1 l2 l3 l4 kl0 hf
    rw [lp_Md_trough_20] at hf
    refine v_iload (pc := 20) (k := 4) X (by decide +kernel) 4 rfl ?_
    refine v_aload_n (pc := 22) (k := 0) X (by decide +kernel) 0 rfl ?_
    refine v_geti (pc := 23) X fl_12_246 kl0 rfl (by decide +kernel) ?_
    refine v_icmp_ge (pc := 26) (off := 46) (tgt := 72) X (by decide +kernel) (by decide) (fun q13 => ?_) (fun q13 => ?_)
    · rw [if_pos q13] at hf
      refine v_iload_n (pc := 72) (k := 2) X (by decide +kernel) 2 rfl ?_
      refine v_if_ne (pc := 73) (off := 12) (tgt := 85) X (by decide +kernel) (by decide) (fun q7 => ?_) (fun q7 => ?_)
      · rw [if_neg q7] at hf
        refine v_iload_n (pc := 85) (k := 2) X (by decide +kernel) 2 rfl ?_
        refine v_iconst (pc := 86) (n := 1) X (by decide +kernel) ic_1 ?_
        refine v_icmp_ne (pc := 87) (off := 12) (tgt := 99) X (by decide +kernel) (by decide) (fun q5 => ?_) (fun q5 => ?_)
        · rw [if_neg q5] at hf
          refine v_iload_n (pc := 99) (k := 2) X (by decide +kernel) 2 rfl ?_
          refine v_iconst (pc := 100) (n := 2) X (by decide +kernel) ic_2 ?_
          refine v_icmp_ne (pc := 101) (off := 12) (tgt := 113) X (by decide +kernel) (by decide) (fun q3 => ?_) (fun q3 => ?_)
          · rw [if_neg q3] at hf
            refine v_iload_n (pc := 113) (k := 2) X (by decide +kernel) 2 rfl ?_
            refine v_iconst (pc := 114) (n := 3) X (by decide +kernel) ic_3 ?_
            refine v_icmp_ne (pc := 115) (off := 7) (tgt := 122) X (by decide +kernel) (by decide) (fun q1 => ?_) (fun q1 => ?_)
            · rw [if_neg q1] at hf
              refine v_iconst (pc := 122) (n := -1) X (by decide +kernel) ic_m1 ?_
              cases hf
              exact v_iret X Y (by decide +kernel) rfl rfl
            · rw [if_pos q1] at hf
              refine v_iload_n (pc := 118) (k := 3) X (by decide +kernel) 3 rfl ?_
              refine v_goto (pc := 119) (off := 4) (tgt := 123) X (by decide +kernel) (by decide) ?_
              cases hf
              exact v_iret X Y (by decide +kernel) rfl rfl
          · rw [if_pos q3] at hf
            refine v_aload_n (pc := 104) (k := 0) X (by decide +kernel) 0 rfl ?_
            refine v_geta (pc := 105) X fl_12_36 kl0 fk_12_28 (by decide +kernel) ?_
            refine v_iload_n (pc := 108) (k := 1) X (by decide +kernel) 1 rfl ?_
            obtain ⟨x2, ex2, hf⟩ := bnd_e hf
            refine v_iald (pc := 109) X (ly_12_28 ok kl0) ex2 (by decide +kernel) ?_
            refine v_goto (pc := 110) (off := 13) (tgt := 123) X (by decide +kernel) (by decide) ?_
            cases hf
            exact v_iret X Y (by decide +kernel) rfl rfl
        · rw [if_pos q5] at hf
          refine v_aload_n (pc := 90) (k := 0) X (by decide +kernel) 0 rfl ?_
          refine v_geta (pc := 91) X fl_12_112 kl0 fk_12_60 (by decide +kernel) ?_
          refine v_iload_n (pc := 94) (k := 1) X (by decide +kernel) 1 rfl ?_
          obtain ⟨x4, ex4, hf⟩ := bnd_e hf
          refine v_iald (pc := 95) X (ly_12_60 ok kl0) ex4 (by decide +kernel) ?_
          refine v_goto (pc := 96) (off := 27) (tgt := 123) X (by decide +kernel) (by decide) ?_
          cases hf
          exact v_iret X Y (by decide +kernel) rfl rfl
      · rw [if_pos q7] at hf
        refine v_aload_n (pc := 76) (k := 0) X (by decide +kernel) 0 rfl ?_
        refine v_geta (pc := 77) X fl_12_30 kl0 fk_12_26 (by decide +kernel) ?_
        refine v_iload_n (pc := 80) (k := 1) X (by decide +kernel) 1 rfl ?_
        obtain ⟨x6, ex6, hf⟩ := bnd_e hf
        refine v_iald (pc := 81) X (ly_12_26 ok kl0) ex6 (by decide +kernel) ?_
        refine v_goto (pc := 82) (off := 41) (tgt := 123) X (by decide +kernel) (by decide) ?_
        cases hf
        exact v_iret X Y (by decide +kernel) rfl rfl
    · rw [if_neg q13] at hf
      refine v_iload_n (pc := 29) (k := 3) X (by decide +kernel) 3 rfl ?_
      refine v_aload_n (pc := 30) (k := 0) X (by decide +kernel) 0 rfl ?_
      refine v_geta (pc := 31) X fl_12_106 kl0 fk_12_58 (by decide +kernel) ?_
      refine v_iload (pc := 34) (k := 4) X (by decide +kernel) 4 rfl ?_
      obtain ⟨x8, ex8, hf⟩ := bnd_e hf
      refine v_zald (pc := 36) X (ly_12_58 ok kl0) ex8 (by decide +kernel) ?_
      refine v_if_eq (pc := 37) (off := 26) (tgt := 63) X (by decide +kernel) (by decide) (fun q12 => ?_) (fun q12 => ?_)
      · rw [if_pos q12] at hf
        refine v_sub [0, 1, 2, 4] rfl ?_
        exact vjb_Md_trough_63 ok hi X Y ih h l0 l1 l2 l4 l3 kl0 hf
      · rw [if_neg q12] at hf
        refine v_aload_n (pc := 40) (k := 0) X (by decide +kernel) 0 rfl ?_
        refine v_geta (pc := 41) X fl_12_94 kl0 fk_12_54 (by decide +kernel) ?_
        refine v_iload (pc := 44) (k := 4) X (by decide +kernel) 4 rfl ?_
        obtain ⟨x9, ex9, hf⟩ := bnd_e hf
        refine v_iald (pc := 46) X (ly_12_54 ok kl0) ex9 (by decide +kernel) ?_
        refine v_aload_n (pc := 47) (k := 0) X (by decide +kernel) 0 rfl ?_
        refine v_geta (pc := 48) X fl_12_30 kl0 fk_12_26 (by decide +kernel) ?_
        refine v_iload_n (pc := 51) (k := 1) X (by decide +kernel) 1 rfl ?_
        obtain ⟨x10, ex10, hf⟩ := bnd_e hf
        refine v_iald (pc := 52) X (ly_12_26 ok kl0) ex10 (by decide +kernel) ?_
        refine v_icmp_ne (pc := 53) (off := 10) (tgt := 63) X (by decide +kernel) (by decide) (fun q11 => ?_) (fun q11 => ?_)
        · rw [if_neg q11] at hf
          refine v_sub [0, 1, 2, 4] rfl ?_
          exact vjb_Md_trough_63 ok hi X Y ih h l0 l1 l2 l4 l3 kl0 hf
        · rw [if_pos q11] at hf
          refine v_iconst (pc := 56) (n := 1) X (by decide +kernel) ic_1 ?_
          refine v_iload (pc := 57) (k := 4) X (by decide +kernel) 4 rfl ?_
          refine v_ishl (pc := 59) X (by decide +kernel) ?_
          refine v_goto (pc := 60) (off := 4) (tgt := 64) X (by decide +kernel) (by decide) ?_
          refine v_sub [0, 1, 2, 4] rfl ?_
          exact vjb_Md_trough_64 ok hi X Y ih h l0 l1 l2 l4 l3 ((1 : Int32) <<< (l4 &&& 31)) kl0 hf
set_option maxRecDepth 4000 in
set_option maxHeartbeats 1000000 in
theorem mt_Md_trough {g : Gl} {tb : Tb} {ρ : Nat → Nat} (ok : TbOK tb) (hi : inj tb ρ) {h : Hp} {l0 : Nat} {l1 : Int32} {l2 : Int32} (kl0 : kd tb l0 = 12) {r : Int32 × Hp} (hf : f_Md_trough tb h l0 l1 l2 = some r) : MT g y_Md_trough prog_14_method_70_code 5 (some .int) 1 21 tb ρ [.ref (ρ l0), .int l1, .int l2] h (some (.int r.1)) r.2 := by
  refine mt_intro (by decide +kernel) ok hi (Nat.le_of_ble_eq_true rfl) (fun E X Y => ?_)
  change V E g tb ρ 5 0 [(0, .ref (ρ l0)), (1, .int l1), (2, .int l2)] [] h
  unfold f_Md_trough at hf
  refine v_aload_n (pc := 0) (k := 0) X (by decide +kernel) 0 rfl ?_
  refine v_iconst (pc := 1) (n := 0) X (by decide +kernel) ic_0 ?_
  obtain ⟨h1, eh1, hf⟩ := nmd_e hf
  refine v_puti (pc := 2) X fp_12_160 kl0 rfl (by decide +kernel) eh1 ?_
  refine v_aload_n (pc := 5) (k := 0) X (by decide +kernel) 0 rfl ?_
  refine v_iload_n (pc := 6) (k := 1) X (by decide +kernel) 1 rfl ?_
  obtain ⟨r2, er2, hf⟩ := nmd_e hf
  refine v_callV (pc := 7) (As := [.int l1]) (rest := []) X (mt_Md_isTrough ok hi kl0 er2.symm) ml_12_465 mv_Md_isTrough kl0 cls_12 rfl ⟨Nat.le_of_ble_eq_true rfl, Nat.le_of_ble_eq_true rfl⟩ rfl rfl (Nat.le_of_ble_eq_true rfl) (by decide +kernel) ?_
  change V E g tb ρ 5 10 [(0, .ref (ρ l0)), (1, .int l1), (2, .int l2)] [.int r2] h1
  refine v_if_ne (pc := 10) (off := 5) (tgt := 15) X (by decide +kernel) (by decide) (fun q3 => ?_) (fun q3 => ?_)
  · rw [if_neg q3] at hf
    refine v_iconst (pc := 15) (n := 0) X (by decide +kernel) ic_0 ?_
    refine v_istore_n (pc := 16) (k := 3) (lv' := [(3, .int (0 : Int32)), (0, .ref (ρ l0)), (1, .int l1), (2, .int l2)]) X (by decide +kernel) (Nat.le_of_ble_eq_true rfl) rfl ?_
    refine v_iconst (pc := 17) (n := 0) X (by decide +kernel) ic_0 ?_
    refine v_istore (pc := 18) (k := 4) (lv' := [(4, .int (0 : Int32)), (3, .int (0 : Int32)), (0, .ref (ρ l0)), (1, .int l1), (2, .int l2)]) X (by decide +kernel) (Nat.le_of_ble_eq_true rfl) rfl ?_
    refine v_sub [2, 3, 4, 1, 0] rfl ?_
    exact vlp_Md_trough_20 ok hi X Y fu h1 l0 l1 l2 (0 : Int32) (0 : Int32) kl0 hf
  · rw [if_pos q3] at hf
    refine v_iconst (pc := 13) (n := -1) X (by decide +kernel) ic_m1 ?_
    cases hf
    exact v_iret X Y (by decide +kernel) rfl rfl
def f_Md_law (tb : Tb) (h : Hp) (l0 : Nat) (l1 : Int32) (l2 : Int32) : Option (Int64 × Hp) :=
  nmd (pI h l0 2 (0 : Int32)) fun h1 =>
  nmd (f_Md_isIn tb h1 l1 (0 : Int32) (2 : Int32)) fun r2 =>
  if r2 = (0 : Int32) then (
    some ((-9223372036854775808 : Int64), h1)
  ) else (
    (rI tb h1 (lay tb l0 37) l1).bind fun x3 =>
    if x3 = (0 : Int32) then (
      some ((-9223372036854775808 : Int64), h1)
    ) else (
      nmd (f_Md_isHorse tb h1 l0 l2) fun r4 =>
      if r4 = (0 : Int32) then (
        some ((-9223372036854775808 : Int64), h1)
      ) else (
        nmd (f_Md_plainTried tb h1 l0) fun r5 =>
        (f_Md_layNames tb r5 l0 (0 : Int32) l2).bind fun r6 =>
        (f_Md_lawOf tb r6 l0 l1).bind fun r7 =>
        if (r7.2.1 l0 53) = (0 : Int32) then (
          some (r7.1, r7.2)
        ) else (
          some ((-9223372036854775808 : Int64), r7.2)
        )
      )
    )
  )
set_option maxRecDepth 4000 in
set_option maxHeartbeats 1000000 in
theorem mt_Md_law {g : Gl} {tb : Tb} {ρ : Nat → Nat} (ok : TbOK tb) (hi : inj tb ρ) {h : Hp} {l0 : Nat} {l1 : Int32} {l2 : Int32} (kl0 : kd tb l0 = 12) {r : Int64 × Hp} (hf : f_Md_law tb h l0 l1 l2 = some r) : MT g y_Md_law prog_14_method_71_code 5 (some .long) 3 72 tb ρ [.ref (ρ l0), .int l1, .int l2] h (some (.long r.1)) r.2 := by
  refine mt_intro (by decide +kernel) ok hi (Nat.le_of_ble_eq_true rfl) (fun E X Y => ?_)
  change V E g tb ρ 5 0 [(0, .ref (ρ l0)), (1, .int l1), (2, .int l2)] [] h
  unfold f_Md_law at hf
  refine v_aload_n (pc := 0) (k := 0) X (by decide +kernel) 0 rfl ?_
  refine v_iconst (pc := 1) (n := 0) X (by decide +kernel) ic_0 ?_
  obtain ⟨h1, eh1, hf⟩ := nmd_e hf
  refine v_puti (pc := 2) X fp_12_160 kl0 rfl (by decide +kernel) eh1 ?_
  refine v_iload_n (pc := 5) (k := 1) X (by decide +kernel) 1 rfl ?_
  refine v_iconst (pc := 6) (n := 0) X (by decide +kernel) ic_0 ?_
  refine v_iconst (pc := 7) (n := 2) X (by decide +kernel) ic_2 ?_
  obtain ⟨r2, er2, hf⟩ := nmd_e hf
  refine v_callS (pc := 8) (As := [.int l1, .int (0 : Int32), .int (2 : Int32)]) (rest := []) X (mt_Md_isIn ok hi er2.symm) ml_12_205 ms_Md_isIn ⟨Nat.le_of_ble_eq_true rfl, Nat.le_of_ble_eq_true rfl⟩ rfl rfl (Nat.le_of_ble_eq_true rfl) (by decide +kernel) ?_
  change V E g tb ρ 5 11 [(0, .ref (ρ l0)), (1, .int l1), (2, .int l2)] [.int r2] h1
  refine v_if_eq (pc := 11) (off := 20) (tgt := 31) X (by decide +kernel) (by decide) (fun q11 => ?_) (fun q11 => ?_)
  · rw [if_pos q11] at hf
    refine v_ldc2 (pc := 31) X (by decide +kernel) kl_12_468 ?_
    cases hf
    exact v_lret X Y (by decide +kernel) rfl rfl
  · rw [if_neg q11] at hf
    refine v_aload_n (pc := 14) (k := 0) X (by decide +kernel) 0 rfl ?_
    refine v_geta (pc := 15) X fl_12_63 kl0 fk_12_37 (by decide +kernel) ?_
    refine v_iload_n (pc := 18) (k := 1) X (by decide +kernel) 1 rfl ?_
    obtain ⟨x3, ex3, hf⟩ := bnd_e hf
    refine v_zald (pc := 19) X (ly_12_37 ok kl0) ex3 (by decide +kernel) ?_
    refine v_if_eq (pc := 20) (off := 11) (tgt := 31) X (by decide +kernel) (by decide) (fun q10 => ?_) (fun q10 => ?_)
    · rw [if_pos q10] at hf
      refine v_ldc2 (pc := 31) X (by decide +kernel) kl_12_468 ?_
      cases hf
      exact v_lret X Y (by decide +kernel) rfl rfl
    · rw [if_neg q10] at hf
      refine v_aload_n (pc := 23) (k := 0) X (by decide +kernel) 0 rfl ?_
      refine v_iload_n (pc := 24) (k := 2) X (by decide +kernel) 2 rfl ?_
      obtain ⟨r4, er4, hf⟩ := nmd_e hf
      refine v_callV (pc := 25) (As := [.int l2]) (rest := []) X (mt_Md_isHorse ok hi kl0 er4.symm) ml_12_459 mv_Md_isHorse kl0 cls_12 rfl ⟨Nat.le_of_ble_eq_true rfl, Nat.le_of_ble_eq_true rfl⟩ rfl rfl (Nat.le_of_ble_eq_true rfl) (by decide +kernel) ?_
      change V E g tb ρ 5 28 [(0, .ref (ρ l0)), (1, .int l1), (2, .int l2)] [.int r4] h1
      refine v_if_ne (pc := 28) (off := 7) (tgt := 35) X (by decide +kernel) (by decide) (fun q9 => ?_) (fun q9 => ?_)
      · rw [if_neg q9] at hf
        refine v_aload_n (pc := 35) (k := 0) X (by decide +kernel) 0 rfl ?_
        obtain ⟨r5, er5, hf⟩ := nmd_e hf
        refine v_callV (pc := 36) (As := []) (rest := []) X (mt_Md_plainTried ok hi kl0 er5.symm) ml_12_374 mv_Md_plainTried kl0 cls_12 rfl ⟨Nat.le_of_ble_eq_true rfl, Nat.le_of_ble_eq_true rfl⟩ rfl rfl (Nat.le_of_ble_eq_true rfl) (by decide +kernel) ?_
        change V E g tb ρ 5 39 [(0, .ref (ρ l0)), (1, .int l1), (2, .int l2)] [] r5
        refine v_aload_n (pc := 39) (k := 0) X (by decide +kernel) 0 rfl ?_
        refine v_iconst (pc := 40) (n := 0) X (by decide +kernel) ic_0 ?_
        refine v_iload_n (pc := 41) (k := 2) X (by decide +kernel) 2 rfl ?_
        obtain ⟨r6, er6, hf⟩ := bnd_e hf
        refine v_callV (pc := 42) (As := [.int (0 : Int32), .int l2]) (rest := []) X (mt_Md_layNames ok hi kl0 er6) ml_12_414 mv_Md_layNames kl0 cls_12 rfl ⟨Nat.le_of_ble_eq_true rfl, Nat.le_of_ble_eq_true rfl⟩ rfl rfl (Nat.le_of_ble_eq_true rfl) (by decide +kernel) ?_
        change V E g tb ρ 5 45 [(0, .ref (ρ l0)), (1, .int l1), (2, .int l2)] [] r6
        refine v_aload_n (pc := 45) (k := 0) X (by decide +kernel) 0 rfl ?_
        refine v_iload_n (pc := 46) (k := 1) X (by decide +kernel) 1 rfl ?_
        obtain ⟨r7, er7, hf⟩ := bnd_e hf
        refine v_callV (pc := 47) (As := [.int l1]) (rest := []) X (mt_Md_lawOf ok hi kl0 er7) ml_12_418 mv_Md_lawOf kl0 cls_12 rfl ⟨Nat.le_of_ble_eq_true rfl, Nat.le_of_ble_eq_true rfl⟩ rfl rfl (Nat.le_of_ble_eq_true rfl) (by decide +kernel) ?_
        change V E g tb ρ 5 50 [(0, .ref (ρ l0)), (1, .int l1), (2, .int l2)] [.long r7.1] r7.2
        refine v_lstore_n (pc := 50) (k := 3) (lv' := [(3, .long r7.1), (0, .ref (ρ l0)), (1, .int l1), (2, .int l2)]) X (by decide +kernel) (Nat.le_of_ble_eq_true rfl) rfl ?_
        refine v_aload_n (pc := 51) (k := 0) X (by decide +kernel) 1 rfl ?_
        refine v_geti (pc := 52) X fl_12_348 kl0 rfl (by decide +kernel) ?_
        refine v_if_eq (pc := 55) (off := 9) (tgt := 64) X (by decide +kernel) (by decide) (fun q8 => ?_) (fun q8 => ?_)
        · rw [if_pos q8] at hf
          refine v_lload_n (pc := 64) (k := 3) X (by decide +kernel) 0 rfl ?_
          cases hf
          exact v_lret X Y (by decide +kernel) rfl rfl
        · rw [if_neg q8] at hf
          refine v_ldc2 (pc := 58) X (by decide +kernel) kl_12_468 ?_
          refine v_goto (pc := 61) (off := 4) (tgt := 65) X (by decide +kernel) (by decide) ?_
          cases hf
          exact v_lret X Y (by decide +kernel) rfl rfl
      · rw [if_pos q9] at hf
        refine v_ldc2 (pc := 31) X (by decide +kernel) kl_12_468 ?_
        cases hf
        exact v_lret X Y (by decide +kernel) rfl rfl
def lp_Md_put_2 (tb : Tb) : Nat → Hp → Nat → Nat → Int32 → Int32 → Option (Hp)
  | 0, _, _, _, _, _ => none
  | n + 1, h, l0, l1, l2, l3 =>
    if (6 : Int32) ≤ l3 then (
      some h
    ) else (
      (rI tb h (lay tb l0 54) l3).bind fun x1 =>
      (wI tb h l1 (l2 + l3) x1).bind fun h2 =>
      (rI tb h2 (lay tb l0 56) l3).bind fun x3 =>
      (wI tb h2 l1 ((l2 + (6 : Int32)) + l3) x3).bind fun h4 =>
      (rI tb h4 (lay tb l0 60) l3).bind fun x5 =>
      (wI tb h4 l1 ((l2 + (12 : Int32)) + l3) x5).bind fun h6 =>
      nmd (l3 + (1 : Int32)) fun x7 =>
      lp_Md_put_2 tb n h6 l0 l1 l2 x7
    )
def f_Md_put (tb : Tb) (h : Hp) (l0 : Nat) (l1 : Nat) (l2 : Int32) : Option (Hp) :=
  lp_Md_put_2 tb fu h l0 l1 l2 (0 : Int32)
set_option maxRecDepth 4000 in
set_option maxHeartbeats 1000000 in
theorem vlp_Md_put_2 {E : En} {g : Gl} {tb : Tb} {ρ : Nat → Nat} (ok : TbOK tb) (hi : inj tb ρ) {r : Hp} (X : CX E g tb ρ prog_14_method_113_code 4 RC12 0 0) (Y : CQ E g tb ρ none (none) r) : ∀ (n : Nat) (h : Hp) (l0 : Nat) (l1 : Nat) (l2 : Int32) (l3 : Int32) (kl0 : kd tb l0 = 12) (kl1 : kd tb l1 = 20), lp_Md_put_2 tb n h l0 l1 l2 l3 = some r → V E g tb ρ 4 2 [(0, .ref (ρ l0)), (1, .ref (ρ l1)), (2, .int l2), (3, .int l3)] [] h := by
  intro n
  induction n with
  | zero =>
    intro h l0 l1 l2 l3 kl0 kl1 hf
    rw [lp_Md_put_2] at hf
    cases hf
  | succ n ih =>
    intro h l0 l1 l2 l3 kl0 kl1 hf
    rw [lp_Md_put_2] at hf
    refine v_iload_n (pc := 2) (k := 3) X (by decide +kernel) 3 rfl ?_
    refine v_bipush (pc := 3) (n := 6) X (by decide +kernel) bi_6 ?_
    refine v_icmp_ge (pc := 5) (off := 48) (tgt := 53) X (by decide +kernel) (by decide) (fun q8 => ?_) (fun q8 => ?_)
    · rw [if_pos q8] at hf
      cases hf
      exact v_vret X Y (by decide +kernel) rfl rfl
    · rw [if_neg q8] at hf
      refine v_aload_n (pc := 8) (k := 1) X (by decide +kernel) 1 rfl ?_
      refine v_iload_n (pc := 9) (k := 2) X (by decide +kernel) 2 rfl ?_
      refine v_iload_n (pc := 10) (k := 3) X (by decide +kernel) 3 rfl ?_
      refine v_iadd (pc := 11) X (by decide +kernel) ?_
      refine v_aload_n (pc := 12) (k := 0) X (by decide +kernel) 0 rfl ?_
      refine v_geta (pc := 13) X fl_12_94 kl0 fk_12_54 (by decide +kernel) ?_
      refine v_iload_n (pc := 16) (k := 3) X (by decide +kernel) 3 rfl ?_
      obtain ⟨x1, ex1, hf⟩ := bnd_e hf
      refine v_iald (pc := 17) X (ly_12_54 ok kl0) ex1 (by decide +kernel) ?_
      obtain ⟨h2, eh2, hf⟩ := bnd_e hf
      refine v_iast (pc := 18) X kl1 eh2 (by decide +kernel) ?_
      refine v_aload_n (pc := 19) (k := 1) X (by decide +kernel) 1 rfl ?_
      refine v_iload_n (pc := 20) (k := 2) X (by decide +kernel) 2 rfl ?_
      refine v_bipush (pc := 21) (n := 6) X (by decide +kernel) bi_6 ?_
      refine v_iadd (pc := 23) X (by decide +kernel) ?_
      refine v_iload_n (pc := 24) (k := 3) X (by decide +kernel) 3 rfl ?_
      refine v_iadd (pc := 25) X (by decide +kernel) ?_
      refine v_aload_n (pc := 26) (k := 0) X (by decide +kernel) 0 rfl ?_
      refine v_geta (pc := 27) X fl_12_100 kl0 fk_12_56 (by decide +kernel) ?_
      refine v_iload_n (pc := 30) (k := 3) X (by decide +kernel) 3 rfl ?_
      obtain ⟨x3, ex3, hf⟩ := bnd_e hf
      refine v_iald (pc := 31) X (ly_12_56 ok kl0) ex3 (by decide +kernel) ?_
      obtain ⟨h4, eh4, hf⟩ := bnd_e hf
      refine v_iast (pc := 32) X kl1 eh4 (by decide +kernel) ?_
      refine v_aload_n (pc := 33) (k := 1) X (by decide +kernel) 1 rfl ?_
      refine v_iload_n (pc := 34) (k := 2) X (by decide +kernel) 2 rfl ?_
      refine v_bipush (pc := 35) (n := 12) X (by decide +kernel) bi_12 ?_
      refine v_iadd (pc := 37) X (by decide +kernel) ?_
      refine v_iload_n (pc := 38) (k := 3) X (by decide +kernel) 3 rfl ?_
      refine v_iadd (pc := 39) X (by decide +kernel) ?_
      refine v_aload_n (pc := 40) (k := 0) X (by decide +kernel) 0 rfl ?_
      refine v_geta (pc := 41) X fl_12_112 kl0 fk_12_60 (by decide +kernel) ?_
      refine v_iload_n (pc := 44) (k := 3) X (by decide +kernel) 3 rfl ?_
      obtain ⟨x5, ex5, hf⟩ := bnd_e hf
      refine v_iald (pc := 45) X (ly_12_60 ok kl0) ex5 (by decide +kernel) ?_
      obtain ⟨h6, eh6, hf⟩ := bnd_e hf
      refine v_iast (pc := 46) X kl1 eh6 (by decide +kernel) ?_
      obtain ⟨x7, ex7, hf⟩ := nmd_e hf
      refine v_iinc (pc := 47) (k := 3) (n := 1) (v := x7) (lv' := [(3, .int x7), (0, .ref (ρ l0)), (1, .ref (ρ l1)), (2, .int l2)]) X (by decide +kernel) 3 rfl (by rw [ic_1, ex7]) (Nat.le_of_ble_eq_true rfl) rfl ?_
      refine v_goto (pc := 50) (off := -48) (tgt := 2) X (by decide +kernel) (by decide) ?_
      refine v_sub [1, 2, 3, 0] rfl ?_
      exact ih h6 l0 l1 l2 x7 kl0 kl1 hf
set_option maxRecDepth 4000 in
set_option maxHeartbeats 1000000 in
theorem mt_Md_put {g : Gl} {tb : Tb} {ρ : Nat → Nat} (ok : TbOK tb) (hi : inj tb ρ) {h : Hp} {l0 : Nat} {l1 : Nat} {l2 : Int32} (kl0 : kd tb l0 = 12) (kl1 : kd tb l1 = 20) {r : Hp} (hf : f_Md_put tb h l0 l1 l2 = some r) : MT g y_Md_put prog_14_method_113_code 4 none 0 0 tb ρ [.ref (ρ l0), .ref (ρ l1), .int l2] h (none) r := by
  refine mt_intro (by decide +kernel) ok hi (Nat.le_of_ble_eq_true rfl) (fun E X Y => ?_)
  change V E g tb ρ 4 0 [(0, .ref (ρ l0)), (1, .ref (ρ l1)), (2, .int l2)] [] h
  unfold f_Md_put at hf
  refine v_iconst (pc := 0) (n := 0) X (by decide +kernel) ic_0 ?_
  refine v_istore_n (pc := 1) (k := 3) (lv' := [(3, .int (0 : Int32)), (0, .ref (ρ l0)), (1, .ref (ρ l1)), (2, .int l2)]) X (by decide +kernel) (Nat.le_of_ble_eq_true rfl) rfl ?_
  refine v_sub [1, 2, 3, 0] rfl ?_
  exact vlp_Md_put_2 ok hi X Y fu h l0 l1 l2 (0 : Int32) kl0 kl1 hf
def jb_Md_remember_49 (tb : Tb) (h : Hp) (l0 : Nat) : Option (Hp) :=
  (f_Md_put tb h l0 (lay tb l0 79) ((18 : Int32) * (h.1 l0 78))).bind fun r1 =>
  nmd (pI r1 l0 78 ((r1.1 l0 78) + (1 : Int32))) fun h2 =>
  some h2
def lp_Md_remember_11 (tb : Tb) : Nat → Hp → Nat → Int32 → Option (Hp)
  | 0, _, _, _ => none
  | n + 1, h, l0, l1 =>
    if (342 : Int32) ≤ l1 then (
      nmd (pI h l0 78 ((h.1 l0 78) - (1 : Int32))) fun h1 =>
      jb_Md_remember_49 tb h1 l0
    ) else (
      (rI tb h (lay tb l0 79) (l1 + (18 : Int32))).bind fun x2 =>
      (wI tb h (lay tb l0 79) l1 x2).bind fun h3 =>
      nmd (l1 + (1 : Int32)) fun x4 =>
      lp_Md_remember_11 tb n h3 l0 x4
    )
def f_Md_remember (tb : Tb) (h : Hp) (l0 : Nat) : Option (Hp) :=
  if (h.1 l0 78) = (20 : Int32) then (
    lp_Md_remember_11 tb fu h l0 (0 : Int32)
  ) else (
    jb_Md_remember_49 tb h l0
  )
set_option maxRecDepth 4000 in
set_option maxHeartbeats 1000000 in
theorem vjb_Md_remember_49 {E : En} {g : Gl} {tb : Tb} {ρ : Nat → Nat} (ok : TbOK tb) (hi : inj tb ρ) {r : Hp} (X : CX E g tb ρ prog_14_method_115_code 2 RC12 1 23) (Y : CQ E g tb ρ none (none) r) (h : Hp) (l0 : Nat) (kl0 : kd tb l0 = 12) (hf : jb_Md_remember_49 tb h l0 = some r) : V E g tb ρ 2 49 [(0, .ref (ρ l0))] [] h := by
  unfold jb_Md_remember_49 at hf
  refine v_aload_n (pc := 49) (k := 0) X (by decide +kernel) 0 rfl ?_
  refine v_aload_n (pc := 50) (k := 0) X (by decide +kernel) 0 rfl ?_
  refine v_geta (pc := 51) X fl_12_145 kl0 fk_12_79 (by decide +kernel) ?_
  refine v_bipush (pc := 54) (n := 18) X (by decide +kernel) bi_18 ?_
  refine v_aload_n (pc := 56) (k := 0) X (by decide +kernel) 0 rfl ?_
  refine v_geti (pc := 57) X fl_12_380 kl0 rfl (by decide +kernel) ?_
  refine v_imul (pc := 60) X (by decide +kernel) ?_
  obtain ⟨r1, er1, hf⟩ := bnd_e hf
  refine v_callV (pc := 61) (As := [.ref (ρ (lay tb l0 79)), .int ((18 : Int32) * (h.1 l0 78))]) (rest := []) X (mt_Md_put ok hi kl0 (ly_12_79 ok kl0) er1) ml_12_520 mv_Md_put kl0 cls_12 rfl ⟨Nat.le_of_ble_eq_true rfl, Nat.le_of_ble_eq_true rfl⟩ rfl rfl (Nat.le_of_ble_eq_true rfl) (by decide +kernel) ?_
  change V E g tb ρ 2 64 [(0, .ref (ρ l0))] [] r1
  refine v_aload_n (pc := 64) (k := 0) X (by decide +kernel) 0 rfl ?_
  refine v_dup (pc := 65) X (by decide +kernel) rfl ?_
  refine v_geti (pc := 66) X fl_12_380 kl0 rfl (by decide +kernel) ?_
  refine v_iconst (pc := 69) (n := 1) X (by decide +kernel) ic_1 ?_
  refine v_iadd (pc := 70) X (by decide +kernel) ?_
  obtain ⟨h2, eh2, hf⟩ := nmd_e hf
  refine v_puti (pc := 71) X fp_12_380 kl0 rfl (by decide +kernel) eh2 ?_
  cases hf
  exact v_vret X Y (by decide +kernel) rfl rfl
set_option maxRecDepth 4000 in
set_option maxHeartbeats 1000000 in
theorem vlp_Md_remember_11 {E : En} {g : Gl} {tb : Tb} {ρ : Nat → Nat} (ok : TbOK tb) (hi : inj tb ρ) {r : Hp} (X : CX E g tb ρ prog_14_method_115_code 2 RC12 1 23) (Y : CQ E g tb ρ none (none) r) : ∀ (n : Nat) (h : Hp) (l0 : Nat) (l1 : Int32) (kl0 : kd tb l0 = 12), lp_Md_remember_11 tb n h l0 l1 = some r → V E g tb ρ 2 11 [(0, .ref (ρ l0)), (1, .int l1)] [] h := by
  intro n
  induction n with
  | zero =>
    intro h l0 l1 kl0 hf
    rw [lp_Md_remember_11] at hf
    cases hf
  | succ n ih =>
    intro h l0 l1 kl0 hf
    rw [lp_Md_remember_11] at hf
    refine v_iload_n (pc := 11) (k := 1) X (by decide +kernel) 1 rfl ?_
    refine v_sipush (pc := 12) (n := 342) X (by decide +kernel) si_342 ?_
    refine v_icmp_ge (pc := 15) (off := 24) (tgt := 39) X (by decide +kernel) (by decide) (fun q5 => ?_) (fun q5 => ?_)
    · rw [if_pos q5] at hf
      refine v_aload_n (pc := 39) (k := 0) X (by decide +kernel) 0 rfl ?_
      refine v_dup (pc := 40) X (by decide +kernel) rfl ?_
      refine v_geti (pc := 41) X fl_12_380 kl0 rfl (by decide +kernel) ?_
      refine v_iconst (pc := 44) (n := 1) X (by decide +kernel) ic_1 ?_
      refine v_isub (pc := 45) X (by decide +kernel) ?_
      obtain ⟨h1, eh1, hf⟩ := nmd_e hf
      refine v_puti (pc := 46) X fp_12_380 kl0 rfl (by decide +kernel) eh1 ?_
      refine v_sub [0] rfl ?_
      exact vjb_Md_remember_49 ok hi X Y h1 l0 kl0 hf
    · rw [if_neg q5] at hf
      refine v_aload_n (pc := 18) (k := 0) X (by decide +kernel) 0 rfl ?_
      refine v_geta (pc := 19) X fl_12_145 kl0 fk_12_79 (by decide +kernel) ?_
      refine v_iload_n (pc := 22) (k := 1) X (by decide +kernel) 1 rfl ?_
      refine v_aload_n (pc := 23) (k := 0) X (by decide +kernel) 0 rfl ?_
      refine v_geta (pc := 24) X fl_12_145 kl0 fk_12_79 (by decide +kernel) ?_
      refine v_iload_n (pc := 27) (k := 1) X (by decide +kernel) 1 rfl ?_
      refine v_bipush (pc := 28) (n := 18) X (by decide +kernel) bi_18 ?_
      refine v_iadd (pc := 30) X (by decide +kernel) ?_
      obtain ⟨x2, ex2, hf⟩ := bnd_e hf
      refine v_iald (pc := 31) X (ly_12_79 ok kl0) ex2 (by decide +kernel) ?_
      obtain ⟨h3, eh3, hf⟩ := bnd_e hf
      refine v_iast (pc := 32) X (ly_12_79 ok kl0) eh3 (by decide +kernel) ?_
      obtain ⟨x4, ex4, hf⟩ := nmd_e hf
      refine v_iinc (pc := 33) (k := 1) (n := 1) (v := x4) (lv' := [(1, .int x4), (0, .ref (ρ l0))]) X (by decide +kernel) 1 rfl (by rw [ic_1, ex4]) (Nat.le_of_ble_eq_true rfl) rfl ?_
      refine v_goto (pc := 36) (off := -25) (tgt := 11) X (by decide +kernel) (by decide) ?_
      refine v_sub [1, 0] rfl ?_
      exact ih h3 l0 x4 kl0 hf
set_option maxRecDepth 4000 in
set_option maxHeartbeats 1000000 in
theorem mt_Md_remember {g : Gl} {tb : Tb} {ρ : Nat → Nat} (ok : TbOK tb) (hi : inj tb ρ) {h : Hp} {l0 : Nat} (kl0 : kd tb l0 = 12) {r : Hp} (hf : f_Md_remember tb h l0 = some r) : MT g y_Md_remember prog_14_method_115_code 2 none 1 23 tb ρ [.ref (ρ l0)] h (none) r := by
  refine mt_intro (by decide +kernel) ok hi (Nat.le_of_ble_eq_true rfl) (fun E X Y => ?_)
  change V E g tb ρ 2 0 [(0, .ref (ρ l0))] [] h
  unfold f_Md_remember at hf
  refine v_aload_n (pc := 0) (k := 0) X (by decide +kernel) 0 rfl ?_
  refine v_geti (pc := 1) X fl_12_380 kl0 rfl (by decide +kernel) ?_
  refine v_bipush (pc := 4) (n := 20) X (by decide +kernel) bi_20 ?_
  refine v_icmp_ne (pc := 6) (off := 43) (tgt := 49) X (by decide +kernel) (by decide) (fun q1 => ?_) (fun q1 => ?_)
  · rw [if_neg q1] at hf
    exact vjb_Md_remember_49 ok hi X Y h l0 kl0 hf
  · rw [if_pos q1] at hf
    refine v_iconst (pc := 9) (n := 0) X (by decide +kernel) ic_0 ?_
    refine v_istore_n (pc := 10) (k := 1) (lv' := [(1, .int (0 : Int32)), (0, .ref (ρ l0))]) X (by decide +kernel) (Nat.le_of_ble_eq_true rfl) rfl ?_
    refine v_sub [1, 0] rfl ?_
    exact vlp_Md_remember_11 ok hi X Y fu h l0 (0 : Int32) kl0 hf
def f_Md_send (tb : Tb) (h : Hp) (l0 : Nat) (l1 : Int32) (l2 : Int32) : Option (Int32 × Hp) :=
  nmd (pI h l0 2 (0 : Int32)) fun h1 =>
  nmd (f_Md_isHorse tb h1 l0 l1) fun r2 =>
  if r2 = (0 : Int32) then (
    some ((-1 : Int32), h1)
  ) else (
    nmd (f_Md_isTrough tb h1 l0 l2) fun r3 =>
    if r3 = (0 : Int32) then (
      some ((-1 : Int32), h1)
    ) else (
      (rI tb h1 (lay tb l0 58) l1).bind fun x4 =>
      if x4 = (0 : Int32) then (
        some ((-1 : Int32), h1)
      ) else (
        (rI tb h1 (lay tb l0 56) l1).bind fun x5 =>
        if x5 = l2 then (
          some ((-2 : Int32), h1)
        ) else (
          (f_Md_remember tb h1 l0).bind fun r6 =>
          (wI tb r6 (lay tb l0 56) l1 l2).bind fun h7 =>
          (f_Md_farOf tb h7 l0 (0 : Int32) l1).bind fun r8 =>
          some (r8, h7)
        )
      )
    )
  )
set_option maxRecDepth 4000 in
set_option maxHeartbeats 1000000 in
theorem mt_Md_send {g : Gl} {tb : Tb} {ρ : Nat → Nat} (ok : TbOK tb) (hi : inj tb ρ) {h : Hp} {l0 : Nat} {l1 : Int32} {l2 : Int32} (kl0 : kd tb l0 = 12) {r : Int32 × Hp} (hf : f_Md_send tb h l0 l1 l2 = some r) : MT g y_Md_send prog_14_method_72_code 3 (some .int) 2 44 tb ρ [.ref (ρ l0), .int l1, .int l2] h (some (.int r.1)) r.2 := by
  refine mt_intro (by decide +kernel) ok hi (Nat.le_of_ble_eq_true rfl) (fun E X Y => ?_)
  change V E g tb ρ 3 0 [(0, .ref (ρ l0)), (1, .int l1), (2, .int l2)] [] h
  unfold f_Md_send at hf
  refine v_aload_n (pc := 0) (k := 0) X (by decide +kernel) 0 rfl ?_
  refine v_iconst (pc := 1) (n := 0) X (by decide +kernel) ic_0 ?_
  obtain ⟨h1, eh1, hf⟩ := nmd_e hf
  refine v_puti (pc := 2) X fp_12_160 kl0 rfl (by decide +kernel) eh1 ?_
  refine v_aload_n (pc := 5) (k := 0) X (by decide +kernel) 0 rfl ?_
  refine v_iload_n (pc := 6) (k := 1) X (by decide +kernel) 1 rfl ?_
  obtain ⟨r2, er2, hf⟩ := nmd_e hf
  refine v_callV (pc := 7) (As := [.int l1]) (rest := []) X (mt_Md_isHorse ok hi kl0 er2.symm) ml_12_459 mv_Md_isHorse kl0 cls_12 rfl ⟨Nat.le_of_ble_eq_true rfl, Nat.le_of_ble_eq_true rfl⟩ rfl rfl (Nat.le_of_ble_eq_true rfl) (by decide +kernel) ?_
  change V E g tb ρ 3 10 [(0, .ref (ρ l0)), (1, .int l1), (2, .int l2)] [.int r2] h1
  refine v_if_eq (pc := 10) (off := 20) (tgt := 30) X (by decide +kernel) (by decide) (fun q12 => ?_) (fun q12 => ?_)
  · rw [if_pos q12] at hf
    refine v_iconst (pc := 30) (n := -1) X (by decide +kernel) ic_m1 ?_
    cases hf
    exact v_iret X Y (by decide +kernel) rfl rfl
  · rw [if_neg q12] at hf
    refine v_aload_n (pc := 13) (k := 0) X (by decide +kernel) 0 rfl ?_
    refine v_iload_n (pc := 14) (k := 2) X (by decide +kernel) 2 rfl ?_
    obtain ⟨r3, er3, hf⟩ := nmd_e hf
    refine v_callV (pc := 15) (As := [.int l2]) (rest := []) X (mt_Md_isTrough ok hi kl0 er3.symm) ml_12_465 mv_Md_isTrough kl0 cls_12 rfl ⟨Nat.le_of_ble_eq_true rfl, Nat.le_of_ble_eq_true rfl⟩ rfl rfl (Nat.le_of_ble_eq_true rfl) (by decide +kernel) ?_
    change V E g tb ρ 3 18 [(0, .ref (ρ l0)), (1, .int l1), (2, .int l2)] [.int r3] h1
    refine v_if_eq (pc := 18) (off := 12) (tgt := 30) X (by decide +kernel) (by decide) (fun q11 => ?_) (fun q11 => ?_)
    · rw [if_pos q11] at hf
      refine v_iconst (pc := 30) (n := -1) X (by decide +kernel) ic_m1 ?_
      cases hf
      exact v_iret X Y (by decide +kernel) rfl rfl
    · rw [if_neg q11] at hf
      refine v_aload_n (pc := 21) (k := 0) X (by decide +kernel) 0 rfl ?_
      refine v_geta (pc := 22) X fl_12_106 kl0 fk_12_58 (by decide +kernel) ?_
      refine v_iload_n (pc := 25) (k := 1) X (by decide +kernel) 1 rfl ?_
      obtain ⟨x4, ex4, hf⟩ := bnd_e hf
      refine v_zald (pc := 26) X (ly_12_58 ok kl0) ex4 (by decide +kernel) ?_
      refine v_if_ne (pc := 27) (off := 5) (tgt := 32) X (by decide +kernel) (by decide) (fun q10 => ?_) (fun q10 => ?_)
      · rw [if_neg q10] at hf
        refine v_aload_n (pc := 32) (k := 0) X (by decide +kernel) 0 rfl ?_
        refine v_geta (pc := 33) X fl_12_100 kl0 fk_12_56 (by decide +kernel) ?_
        refine v_iload_n (pc := 36) (k := 1) X (by decide +kernel) 1 rfl ?_
        obtain ⟨x5, ex5, hf⟩ := bnd_e hf
        refine v_iald (pc := 37) X (ly_12_56 ok kl0) ex5 (by decide +kernel) ?_
        refine v_iload_n (pc := 38) (k := 2) X (by decide +kernel) 2 rfl ?_
        refine v_icmp_ne (pc := 39) (off := 6) (tgt := 45) X (by decide +kernel) (by decide) (fun q9 => ?_) (fun q9 => ?_)
        · rw [if_neg q9] at hf
          refine v_aload_n (pc := 45) (k := 0) X (by decide +kernel) 0 rfl ?_
          obtain ⟨r6, er6, hf⟩ := bnd_e hf
          refine v_callV (pc := 46) (As := []) (rest := []) X (mt_Md_remember ok hi kl0 er6) ml_12_470 mv_Md_remember kl0 cls_12 rfl ⟨Nat.le_of_ble_eq_true rfl, Nat.le_of_ble_eq_true rfl⟩ rfl rfl (Nat.le_of_ble_eq_true rfl) (by decide +kernel) ?_
          change V E g tb ρ 3 49 [(0, .ref (ρ l0)), (1, .int l1), (2, .int l2)] [] r6
          refine v_aload_n (pc := 49) (k := 0) X (by decide +kernel) 0 rfl ?_
          refine v_geta (pc := 50) X fl_12_100 kl0 fk_12_56 (by decide +kernel) ?_
          refine v_iload_n (pc := 53) (k := 1) X (by decide +kernel) 1 rfl ?_
          refine v_iload_n (pc := 54) (k := 2) X (by decide +kernel) 2 rfl ?_
          obtain ⟨h7, eh7, hf⟩ := bnd_e hf
          refine v_iast (pc := 55) X (ly_12_56 ok kl0) eh7 (by decide +kernel) ?_
          refine v_aload_n (pc := 56) (k := 0) X (by decide +kernel) 0 rfl ?_
          refine v_iconst (pc := 57) (n := 0) X (by decide +kernel) ic_0 ?_
          refine v_iload_n (pc := 58) (k := 1) X (by decide +kernel) 1 rfl ?_
          obtain ⟨r8, er8, hf⟩ := bnd_e hf
          refine v_callV (pc := 59) (As := [.int (0 : Int32), .int l1]) (rest := []) X (mt_Md_farOf ok hi kl0 er8) ml_12_407 mv_Md_farOf kl0 cls_12 rfl ⟨Nat.le_of_ble_eq_true rfl, Nat.le_of_ble_eq_true rfl⟩ rfl rfl (Nat.le_of_ble_eq_true rfl) (by decide +kernel) ?_
          change V E g tb ρ 3 62 [(0, .ref (ρ l0)), (1, .int l1), (2, .int l2)] [.int r8] h7
          cases hf
          exact v_iret X Y (by decide +kernel) rfl rfl
        · rw [if_pos q9] at hf
          refine v_bipush (pc := 42) (n := -2) X (by decide +kernel) bi_m2 ?_
          cases hf
          exact v_iret X Y (by decide +kernel) rfl rfl
      · rw [if_pos q10] at hf
        refine v_iconst (pc := 30) (n := -1) X (by decide +kernel) ic_m1 ?_
        cases hf
        exact v_iret X Y (by decide +kernel) rfl rfl
def jb_Md_fill_60 (tb : Tb) (h : Hp) (l0 : Nat) (l1 : Int32) (s0 : Nat) (s1 : Int32) (s2 : Int32) : Option (Int32 × Hp) :=
  (wI tb h s0 s1 s2).bind fun h1 =>
  (rI tb h1 (lay tb l0 60) l1).bind fun x2 =>
  some (x2, h1)
def f_Md_fill (tb : Tb) (h : Hp) (l0 : Nat) (l1 : Int32) (l2 : Int32) : Option (Int32 × Hp) :=
  nmd (pI h l0 2 (0 : Int32)) fun h1 =>
  nmd (f_Md_isTrough tb h1 l0 l1) fun r2 =>
  if r2 = (0 : Int32) then (
    some ((-1 : Int32), h1)
  ) else (
    nmd (f_Md_isIn tb h1 l2 (1 : Int32) (99 : Int32)) fun r3 =>
    if r3 = (0 : Int32) then (
      some ((-1 : Int32), h1)
    ) else (
      (f_Md_remember tb h1 l0).bind fun r4 =>
      (rI tb r4 (lay tb l0 60) l1).bind fun x5 =>
      if (x5 + l2) ≤ (99 : Int32) then (
        (rI tb r4 (lay tb l0 60) l1).bind fun x6 =>
        jb_Md_fill_60 tb r4 l0 l1 (lay tb l0 60) l1 (x6 + l2)
      ) else (
        jb_Md_fill_60 tb r4 l0 l1 (lay tb l0 60) l1 (99 : Int32)
      )
    )
  )
set_option maxRecDepth 4000 in
set_option maxHeartbeats 1000000 in
theorem vjb_Md_fill_60 {E : En} {g : Gl} {tb : Tb} {ρ : Nat → Nat} (ok : TbOK tb) (hi : inj tb ρ) {r : Int32 × Hp} (X : CX E g tb ρ prog_14_method_73_code 3 RC12 2 44) (Y : CQ E g tb ρ (some .int) (some (.int r.1)) r.2) (h : Hp) (l0 : Nat) (l1 : Int32) (s0 : Nat) (s1 : Int32) (s2 : Int32) (kl0 : kd tb l0 = 12) (ks0 : kd tb s0 = 20) (hf : jb_Md_fill_60 tb h l0 l1 s0 s1 s2 = some r) : V E g tb ρ 3 60 [(0, .ref (ρ l0)), (1, .int l1)] [.int s2, .int s1, .ref (ρ s0)] h := by
  unfold jb_Md_fill_60 at hf
  obtain ⟨h1, eh1, hf⟩ := bnd_e hf
  refine v_iast (pc := 60) X ks0 eh1 (by decide +kernel) ?_
  refine v_aload_n (pc := 61) (k := 0) X (by decide +kernel) 0 rfl ?_
  refine v_geta (pc := 62) X fl_12_112 kl0 fk_12_60 (by decide +kernel) ?_
  refine v_iload_n (pc := 65) (k := 1) X (by decide +kernel) 1 rfl ?_
  obtain ⟨x2, ex2, hf⟩ := bnd_e hf
  refine v_iald (pc := 66) X (ly_12_60 ok kl0) ex2 (by decide +kernel) ?_
  cases hf
  exact v_iret X Y (by decide +kernel) rfl rfl
set_option maxRecDepth 4000 in
set_option maxHeartbeats 1000000 in
theorem mt_Md_fill {g : Gl} {tb : Tb} {ρ : Nat → Nat} (ok : TbOK tb) (hi : inj tb ρ) {h : Hp} {l0 : Nat} {l1 : Int32} {l2 : Int32} (kl0 : kd tb l0 = 12) {r : Int32 × Hp} (hf : f_Md_fill tb h l0 l1 l2 = some r) : MT g y_Md_fill prog_14_method_73_code 3 (some .int) 2 44 tb ρ [.ref (ρ l0), .int l1, .int l2] h (some (.int r.1)) r.2 := by
  refine mt_intro (by decide +kernel) ok hi (Nat.le_of_ble_eq_true rfl) (fun E X Y => ?_)
  change V E g tb ρ 3 0 [(0, .ref (ρ l0)), (1, .int l1), (2, .int l2)] [] h
  unfold f_Md_fill at hf
  refine v_aload_n (pc := 0) (k := 0) X (by decide +kernel) 0 rfl ?_
  refine v_iconst (pc := 1) (n := 0) X (by decide +kernel) ic_0 ?_
  obtain ⟨h1, eh1, hf⟩ := nmd_e hf
  refine v_puti (pc := 2) X fp_12_160 kl0 rfl (by decide +kernel) eh1 ?_
  refine v_aload_n (pc := 5) (k := 0) X (by decide +kernel) 0 rfl ?_
  refine v_iload_n (pc := 6) (k := 1) X (by decide +kernel) 1 rfl ?_
  obtain ⟨r2, er2, hf⟩ := nmd_e hf
  refine v_callV (pc := 7) (As := [.int l1]) (rest := []) X (mt_Md_isTrough ok hi kl0 er2.symm) ml_12_465 mv_Md_isTrough kl0 cls_12 rfl ⟨Nat.le_of_ble_eq_true rfl, Nat.le_of_ble_eq_true rfl⟩ rfl rfl (Nat.le_of_ble_eq_true rfl) (by decide +kernel) ?_
  change V E g tb ρ 3 10 [(0, .ref (ρ l0)), (1, .int l1), (2, .int l2)] [.int r2] h1
  refine v_if_eq (pc := 10) (off := 13) (tgt := 23) X (by decide +kernel) (by decide) (fun q9 => ?_) (fun q9 => ?_)
  · rw [if_pos q9] at hf
    refine v_iconst (pc := 23) (n := -1) X (by decide +kernel) ic_m1 ?_
    cases hf
    exact v_iret X Y (by decide +kernel) rfl rfl
  · rw [if_neg q9] at hf
    refine v_iload_n (pc := 13) (k := 2) X (by decide +kernel) 2 rfl ?_
    refine v_iconst (pc := 14) (n := 1) X (by decide +kernel) ic_1 ?_
    refine v_bipush (pc := 15) (n := 99) X (by decide +kernel) bi_99 ?_
    obtain ⟨r3, er3, hf⟩ := nmd_e hf
    refine v_callS (pc := 17) (As := [.int l2, .int (1 : Int32), .int (99 : Int32)]) (rest := []) X (mt_Md_isIn ok hi er3.symm) ml_12_205 ms_Md_isIn ⟨Nat.le_of_ble_eq_true rfl, Nat.le_of_ble_eq_true rfl⟩ rfl rfl (Nat.le_of_ble_eq_true rfl) (by decide +kernel) ?_
    change V E g tb ρ 3 20 [(0, .ref (ρ l0)), (1, .int l1), (2, .int l2)] [.int r3] h1
    refine v_if_ne (pc := 20) (off := 5) (tgt := 25) X (by decide +kernel) (by decide) (fun q8 => ?_) (fun q8 => ?_)
    · rw [if_neg q8] at hf
      refine v_aload_n (pc := 25) (k := 0) X (by decide +kernel) 0 rfl ?_
      obtain ⟨r4, er4, hf⟩ := bnd_e hf
      refine v_callV (pc := 26) (As := []) (rest := []) X (mt_Md_remember ok hi kl0 er4) ml_12_470 mv_Md_remember kl0 cls_12 rfl ⟨Nat.le_of_ble_eq_true rfl, Nat.le_of_ble_eq_true rfl⟩ rfl rfl (Nat.le_of_ble_eq_true rfl) (by decide +kernel) ?_
      change V E g tb ρ 3 29 [(0, .ref (ρ l0)), (1, .int l1), (2, .int l2)] [] r4
      refine v_aload_n (pc := 29) (k := 0) X (by decide +kernel) 0 rfl ?_
      refine v_geta (pc := 30) X fl_12_112 kl0 fk_12_60 (by decide +kernel) ?_
      refine v_iload_n (pc := 33) (k := 1) X (by decide +kernel) 1 rfl ?_
      refine v_aload_n (pc := 34) (k := 0) X (by decide +kernel) 0 rfl ?_
      refine v_geta (pc := 35) X fl_12_112 kl0 fk_12_60 (by decide +kernel) ?_
      refine v_iload_n (pc := 38) (k := 1) X (by decide +kernel) 1 rfl ?_
      obtain ⟨x5, ex5, hf⟩ := bnd_e hf
      refine v_iald (pc := 39) X (ly_12_60 ok kl0) ex5 (by decide +kernel) ?_
      refine v_iload_n (pc := 40) (k := 2) X (by decide +kernel) 2 rfl ?_
      refine v_iadd (pc := 41) X (by decide +kernel) ?_
      refine v_bipush (pc := 42) (n := 99) X (by decide +kernel) bi_99 ?_
      refine v_icmp_le (pc := 44) (off := 8) (tgt := 52) X (by decide +kernel) (by decide) (fun q7 => ?_) (fun q7 => ?_)
      · rw [if_pos q7] at hf
        refine v_aload_n (pc := 52) (k := 0) X (by decide +kernel) 0 rfl ?_
        refine v_geta (pc := 53) X fl_12_112 kl0 fk_12_60 (by decide +kernel) ?_
        refine v_iload_n (pc := 56) (k := 1) X (by decide +kernel) 1 rfl ?_
        obtain ⟨x6, ex6, hf⟩ := bnd_e hf
        refine v_iald (pc := 57) X (ly_12_60 ok kl0) ex6 (by decide +kernel) ?_
        refine v_iload_n (pc := 58) (k := 2) X (by decide +kernel) 2 rfl ?_
        refine v_iadd (pc := 59) X (by decide +kernel) ?_
        refine v_sub [0, 1] rfl ?_
        exact vjb_Md_fill_60 ok hi X Y r4 l0 l1 (lay tb l0 60) l1 (x6 + l2) kl0 (ly_12_60 ok kl0) hf
      · rw [if_neg q7] at hf
        refine v_bipush (pc := 47) (n := 99) X (by decide +kernel) bi_99 ?_
        refine v_goto (pc := 49) (off := 11) (tgt := 60) X (by decide +kernel) (by decide) ?_
        refine v_sub [0, 1] rfl ?_
        exact vjb_Md_fill_60 ok hi X Y r4 l0 l1 (lay tb l0 60) l1 (99 : Int32) kl0 (ly_12_60 ok kl0) hf
    · rw [if_pos q8] at hf
      refine v_iconst (pc := 23) (n := -1) X (by decide +kernel) ic_m1 ?_
      cases hf
      exact v_iret X Y (by decide +kernel) rfl rfl
def jb_Md_lead_55 (tb : Tb) (h : Hp) (l0 : Nat) (l1 : Int32) (l2 : Int32) : Option (Int32 × Hp) :=
  (f_Md_remember tb h l0).bind fun r1 =>
  (wI tb r1 (lay tb l0 54) l1 l2).bind fun h2 =>
  (wI tb h2 (lay tb l0 56) l1 (-1 : Int32)).bind fun h3 =>
  some ((1 : Int32), h3)
def f_Md_lead (tb : Tb) (h : Hp) (l0 : Nat) (l1 : Int32) (l2 : Int32) : Option (Int32 × Hp) :=
  nmd (pI h l0 2 (0 : Int32)) fun h1 =>
  nmd (f_Md_isHorse tb h1 l0 l1) fun r2 =>
  if r2 = (0 : Int32) then (
    some ((0 : Int32), h1)
  ) else (
    (rI tb h1 (lay tb l0 58) l1).bind fun x3 =>
    if x3 = (0 : Int32) then (
      some ((0 : Int32), h1)
    ) else (
      nmd (f_Md_isIn tb h1 l2 (0 : Int32) (h1.1 l0 15)) fun r4 =>
      if r4 = (0 : Int32) then (
        some ((0 : Int32), h1)
      ) else (
        (rI tb h1 (lay tb l0 54) l1).bind fun x5 =>
        if x5 = l2 then (
          (rI tb h1 (lay tb l0 56) l1).bind fun x6 =>
          if (0 : Int32) ≤ x6 then (
            jb_Md_lead_55 tb h1 l0 l1 l2
          ) else (
            some ((0 : Int32), h1)
          )
        ) else (
          jb_Md_lead_55 tb h1 l0 l1 l2
        )
      )
    )
  )
set_option maxRecDepth 4000 in
set_option maxHeartbeats 1000000 in
theorem vjb_Md_lead_55 {E : En} {g : Gl} {tb : Tb} {ρ : Nat → Nat} (ok : TbOK tb) (hi : inj tb ρ) {r : Int32 × Hp} (X : CX E g tb ρ prog_14_method_74_code 3 RC12 2 44) (Y : CQ E g tb ρ (some .boolean) (some (.int r.1)) r.2) (h : Hp) (l0 : Nat) (l1 : Int32) (l2 : Int32) (kl0 : kd tb l0 = 12) (hf : jb_Md_lead_55 tb h l0 l1 l2 = some r) : V E g tb ρ 3 55 [(0, .ref (ρ l0)), (1, .int l1), (2, .int l2)] [] h := by
  unfold jb_Md_lead_55 at hf
  refine v_aload_n (pc := 55) (k := 0) X (by decide +kernel) 0 rfl ?_
  obtain ⟨r1, er1, hf⟩ := bnd_e hf
  refine v_callV (pc := 56) (As := []) (rest := []) X (mt_Md_remember ok hi kl0 er1) ml_12_470 mv_Md_remember kl0 cls_12 rfl ⟨Nat.le_of_ble_eq_true rfl, Nat.le_of_ble_eq_true rfl⟩ rfl rfl (Nat.le_of_ble_eq_true rfl) (by decide +kernel) ?_
  change V E g tb ρ 3 59 [(0, .ref (ρ l0)), (1, .int l1), (2, .int l2)] [] r1
  refine v_aload_n (pc := 59) (k := 0) X (by decide +kernel) 0 rfl ?_
  refine v_geta (pc := 60) X fl_12_94 kl0 fk_12_54 (by decide +kernel) ?_
  refine v_iload_n (pc := 63) (k := 1) X (by decide +kernel) 1 rfl ?_
  refine v_iload_n (pc := 64) (k := 2) X (by decide +kernel) 2 rfl ?_
  obtain ⟨h2, eh2, hf⟩ := bnd_e hf
  refine v_iast (pc := 65) X (ly_12_54 ok kl0) eh2 (by decide +kernel) ?_
  refine v_aload_n (pc := 66) (k := 0) X (by decide +kernel) 0 rfl ?_
  refine v_geta (pc := 67) X fl_12_100 kl0 fk_12_56 (by decide +kernel) ?_
  refine v_iload_n (pc := 70) (k := 1) X (by decide +kernel) 1 rfl ?_
  refine v_iconst (pc := 71) (n := -1) X (by decide +kernel) ic_m1 ?_
  obtain ⟨h3, eh3, hf⟩ := bnd_e hf
  refine v_iast (pc := 72) X (ly_12_56 ok kl0) eh3 (by decide +kernel) ?_
  refine v_iconst (pc := 73) (n := 1) X (by decide +kernel) ic_1 ?_
  cases hf
  exact v_zret (hz := rfl) X Y (by decide +kernel) rfl rfl
set_option maxRecDepth 4000 in
set_option maxHeartbeats 1000000 in
theorem mt_Md_lead {g : Gl} {tb : Tb} {ρ : Nat → Nat} (ok : TbOK tb) (hi : inj tb ρ) {h : Hp} {l0 : Nat} {l1 : Int32} {l2 : Int32} (kl0 : kd tb l0 = 12) {r : Int32 × Hp} (hf : f_Md_lead tb h l0 l1 l2 = some r) : MT g y_Md_lead prog_14_method_74_code 3 (some .boolean) 2 44 tb ρ [.ref (ρ l0), .int l1, .int l2] h (some (.int r.1)) r.2 := by
  refine mt_intro (by decide +kernel) ok hi (Nat.le_of_ble_eq_true rfl) (fun E X Y => ?_)
  change V E g tb ρ 3 0 [(0, .ref (ρ l0)), (1, .int l1), (2, .int l2)] [] h
  unfold f_Md_lead at hf
  refine v_aload_n (pc := 0) (k := 0) X (by decide +kernel) 0 rfl ?_
  refine v_iconst (pc := 1) (n := 0) X (by decide +kernel) ic_0 ?_
  obtain ⟨h1, eh1, hf⟩ := nmd_e hf
  refine v_puti (pc := 2) X fp_12_160 kl0 rfl (by decide +kernel) eh1 ?_
  refine v_aload_n (pc := 5) (k := 0) X (by decide +kernel) 0 rfl ?_
  refine v_iload_n (pc := 6) (k := 1) X (by decide +kernel) 1 rfl ?_
  obtain ⟨r2, er2, hf⟩ := nmd_e hf
  refine v_callV (pc := 7) (As := [.int l1]) (rest := []) X (mt_Md_isHorse ok hi kl0 er2.symm) ml_12_459 mv_Md_isHorse kl0 cls_12 rfl ⟨Nat.le_of_ble_eq_true rfl, Nat.le_of_ble_eq_true rfl⟩ rfl rfl (Nat.le_of_ble_eq_true rfl) (by decide +kernel) ?_
  change V E g tb ρ 3 10 [(0, .ref (ρ l0)), (1, .int l1), (2, .int l2)] [.int r2] h1
  refine v_if_eq (pc := 10) (off := 43) (tgt := 53) X (by decide +kernel) (by decide) (fun q11 => ?_) (fun q11 => ?_)
  · rw [if_pos q11] at hf
    refine v_iconst (pc := 53) (n := 0) X (by decide +kernel) ic_0 ?_
    cases hf
    exact v_zret (hz := rfl) X Y (by decide +kernel) rfl rfl
  · rw [if_neg q11] at hf
    refine v_aload_n (pc := 13) (k := 0) X (by decide +kernel) 0 rfl ?_
    refine v_geta (pc := 14) X fl_12_106 kl0 fk_12_58 (by decide +kernel) ?_
    refine v_iload_n (pc := 17) (k := 1) X (by decide +kernel) 1 rfl ?_
    obtain ⟨x3, ex3, hf⟩ := bnd_e hf
    refine v_zald (pc := 18) X (ly_12_58 ok kl0) ex3 (by decide +kernel) ?_
    refine v_if_eq (pc := 19) (off := 34) (tgt := 53) X (by decide +kernel) (by decide) (fun q10 => ?_) (fun q10 => ?_)
    · rw [if_pos q10] at hf
      refine v_iconst (pc := 53) (n := 0) X (by decide +kernel) ic_0 ?_
      cases hf
      exact v_zret (hz := rfl) X Y (by decide +kernel) rfl rfl
    · rw [if_neg q10] at hf
      refine v_iload_n (pc := 22) (k := 2) X (by decide +kernel) 2 rfl ?_
      refine v_iconst (pc := 23) (n := 0) X (by decide +kernel) ic_0 ?_
      refine v_aload_n (pc := 24) (k := 0) X (by decide +kernel) 0 rfl ?_
      refine v_geti (pc := 25) X fl_12_252 kl0 rfl (by decide +kernel) ?_
      obtain ⟨r4, er4, hf⟩ := nmd_e hf
      refine v_callS (pc := 28) (As := [.int l2, .int (0 : Int32), .int (h1.1 l0 15)]) (rest := []) X (mt_Md_isIn ok hi er4.symm) ml_12_205 ms_Md_isIn ⟨Nat.le_of_ble_eq_true rfl, Nat.le_of_ble_eq_true rfl⟩ rfl rfl (Nat.le_of_ble_eq_true rfl) (by decide +kernel) ?_
      change V E g tb ρ 3 31 [(0, .ref (ρ l0)), (1, .int l1), (2, .int l2)] [.int r4] h1
      refine v_if_eq (pc := 31) (off := 22) (tgt := 53) X (by decide +kernel) (by decide) (fun q9 => ?_) (fun q9 => ?_)
      · rw [if_pos q9] at hf
        refine v_iconst (pc := 53) (n := 0) X (by decide +kernel) ic_0 ?_
        cases hf
        exact v_zret (hz := rfl) X Y (by decide +kernel) rfl rfl
      · rw [if_neg q9] at hf
        refine v_aload_n (pc := 34) (k := 0) X (by decide +kernel) 0 rfl ?_
        refine v_geta (pc := 35) X fl_12_94 kl0 fk_12_54 (by decide +kernel) ?_
        refine v_iload_n (pc := 38) (k := 1) X (by decide +kernel) 1 rfl ?_
        obtain ⟨x5, ex5, hf⟩ := bnd_e hf
        refine v_iald (pc := 39) X (ly_12_54 ok kl0) ex5 (by decide +kernel) ?_
        refine v_iload_n (pc := 40) (k := 2) X (by decide +kernel) 2 rfl ?_
        refine v_icmp_ne (pc := 41) (off := 14) (tgt := 55) X (by decide +kernel) (by decide) (fun q8 => ?_) (fun q8 => ?_)
        · rw [if_neg q8] at hf
          exact vjb_Md_lead_55 ok hi X Y h1 l0 l1 l2 kl0 hf
        · rw [if_pos q8] at hf
          refine v_aload_n (pc := 44) (k := 0) X (by decide +kernel) 0 rfl ?_
          refine v_geta (pc := 45) X fl_12_100 kl0 fk_12_56 (by decide +kernel) ?_
          refine v_iload_n (pc := 48) (k := 1) X (by decide +kernel) 1 rfl ?_
          obtain ⟨x6, ex6, hf⟩ := bnd_e hf
          refine v_iald (pc := 49) X (ly_12_56 ok kl0) ex6 (by decide +kernel) ?_
          refine v_if_ge (pc := 50) (off := 5) (tgt := 55) X (by decide +kernel) (by decide) (fun q7 => ?_) (fun q7 => ?_)
          · rw [if_pos q7] at hf
            exact vjb_Md_lead_55 ok hi X Y h1 l0 l1 l2 kl0 hf
          · rw [if_neg q7] at hf
            refine v_iconst (pc := 53) (n := 0) X (by decide +kernel) ic_0 ?_
            cases hf
            exact v_zret (hz := rfl) X Y (by decide +kernel) rfl rfl
