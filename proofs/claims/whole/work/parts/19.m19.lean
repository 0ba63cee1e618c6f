def jb_Md_token_261 (tb : Tb) (c213 : Hp → Nat → Option (Hp)) (h : Hp) (l0 : Nat) (s0 : Nat) (s1 : Int32) : Option (Hp) :=
  nmd (pI h s0 9 s1) fun h1 =>
  nmd (pI h1 l0 7 ((h1.1 l0 7) + (1 : Int32))) fun h2 =>
  c213 h2 l0
def lp_Md_token_213 (tb : Tb) : Nat → Hp → Nat → Option (Hp)
  | 0, _, _ => none
  | n + 1, h, l0 =>
    (f_Md_isDigit tb h l0 (h.1 l0 7)).bind fun r1 =>
    if r1 = (0 : Int32) then (
      some h
    ) else (
      if (h.1 l0 9) ≤ (99999 : Int32) then (
        (rI tb h (lay tb l0 0) (h.1 l0 7)).bind fun x2 =>
        jb_Md_token_261 tb (lp_Md_token_213 tb n) h l0 l0 ((((10 : Int32) * (h.1 l0 9)) + x2) - (48 : Int32))
      ) else (
        jb_Md_token_261 tb (lp_Md_token_213 tb n) h l0 l0 (h.1 l0 9)
      )
    )
def jb_Md_token_162 (tb : Tb) (h : Hp) (l0 : Nat) (s0 : Nat) (s1 : Int32) : Option (Hp) :=
  nmd (pI h s0 8 s1) fun h1 =>
  if (h1.1 l0 8) = (2 : Int32) then (
    (f_Md_packed tb h1 l0 (h1.1 l0 10) (h1.1 l0 7)).bind fun r2 =>
    nmd (pI h1 l0 9 r2) fun h3 =>
    some h3
  ) else (
    some h1
  )
def lp_Md_token_90 (tb : Tb) : Nat → Hp → Nat → Option (Hp)
  | 0, _, _ => none
  | n + 1, h, l0 =>
    (f_Md_isSmall tb h l0 (h.1 l0 7)).bind fun r1 =>
    if r1 = (0 : Int32) then (
      (f_Md_wordAt tb h l0 (h.1 l0 10) (h.1 l0 7)).bind fun r2 =>
      nmd (pI h l0 9 r2) fun h3 =>
      if (h3.1 l0 9) < (0 : Int32) then (
        if ((h3.1 l0 7) - (h3.1 l0 10)) ≤ (6 : Int32) then (
          jb_Md_token_162 tb h3 l0 l0 (2 : Int32)
        ) else (
          jb_Md_token_162 tb h3 l0 l0 (6 : Int32)
        )
      ) else (
        jb_Md_token_162 tb h3 l0 l0 (1 : Int32)
      )
    ) else (
      nmd (pI h l0 7 ((h.1 l0 7) + (1 : Int32))) fun h6 =>
      lp_Md_token_90 tb n h6 l0
    )
def jb_Md_token_52 (tb : Tb) (h : Hp) (l0 : Nat) : Option (Hp) :=
  nmd (pI h l0 10 (h.1 l0 7)) fun h1 =>
  if (h1.1 l0 7) = (h1.1 l0 6) then (
    nmd (pI h1 l0 8 (0 : Int32)) fun h9 =>
    some h9
  ) else (
    (f_Md_isSmall tb h1 l0 (h1.1 l0 7)).bind fun r2 =>
    if r2 = (0 : Int32) then (
      (f_Md_isDigit tb h1 l0 (h1.1 l0 7)).bind fun r3 =>
      if r3 = (0 : Int32) then (
        (f_Md_signToken tb h1 l0).bind fun r4 =>
        some r4
      ) else (
        nmd (pI h1 l0 8 (3 : Int32)) fun h5 =>
        nmd (pI h5 l0 9 (0 : Int32)) fun h6 =>
        lp_Md_token_213 tb fu h6 l0
      )
    ) else (
      lp_Md_token_90 tb fu h1 l0
    )
  )
def jb_Md_token_39 (tb : Tb) (c0 : Hp → Nat → Option (Hp)) (h : Hp) (l0 : Nat) : Option (Hp) :=
  nmd (pI h l0 7 ((h.1 l0 7) + (1 : Int32))) fun h1 =>
  c0 h1 l0
def lp_Md_token_0 (tb : Tb) : Nat → Hp → Nat → Option (Hp)
  | 0, _, _ => none
  | n + 1, h, l0 =>
    if (h.1 l0 6) ≤ (h.1 l0 7) then (
      jb_Md_token_52 tb h l0
    ) else (
      (rI tb h (lay tb l0 0) (h.1 l0 7)).bind fun x1 =>
      if x1 = (10 : Int32) then (
        jb_Md_token_39 tb (lp_Md_token_0 tb n) h l0
      ) else (
        (rI tb h (lay tb l0 0) (h.1 l0 7)).bind fun x2 =>
        if x2 = (32 : Int32) then (
          jb_Md_token_39 tb (lp_Md_token_0 tb n) h l0
        ) else (
          jb_Md_token_52 tb h l0
        )
      )
    )
def f_Md_token (tb : Tb) (h : Hp) (l0 : Nat) : Option (Hp) :=
  lp_Md_token_0 tb fu h l0
set_option maxRecDepth 4000 in
set_option maxHeartbeats 1000000 in
theorem vjb_Md_token_261 {E : En} {g : Gl} {tb : Tb} {ρ : Nat → Nat} (ok : TbOK tb) (hi : inj tb ρ) {r : Hp} (X : CX E g tb ρ prog_14_method_10_code 1 RC12 1 27) (Y : CQ E g tb ρ none (none) r) {c213 : Hp → Nat → Option (Hp)} (H213 : ∀ (h : Hp) (l0 : Nat) (kl0 : kd tb l0 = 12), c213 h l0 = some r → V E g tb ρ 1 213 [(0, .ref (ρ l0))] [] h) (h : Hp) (l0 : Nat) (s0 : Nat) (s1 : Int32) (kl0 : kd tb l0 = 12) (ks0 : kd tb s0 = 12) (hf : jb_Md_token_261 tb c213 h l0 s0 s1 = some r) : V E g tb ρ 1 261 [(0, .ref (ρ l0))] [.int s1, .ref (ρ s0)] h := by
  unfold jb_Md_token_261 at hf
  obtain ⟨h1, eh1, hf⟩ := nmd_e hf
  refine v_puti (pc := 261) X fp_12_189 ks0 rfl (by decide +kernel) eh1 ?_
  refine v_aload_n (pc := 264) (k := 0) X (by decide +kernel) 0 rfl ?_
  refine v_dup (pc := 265) X (by decide +kernel) rfl ?_
  refine v_geti (pc := 266) X fl_12_175 kl0 rfl (by decide +kernel) ?_
  refine v_iconst (pc := 269) (n := 1) X (by decide +kernel) ic_1 ?_
  refine v_iadd (pc := 270) X (by decide +kernel) ?_
  obtain ⟨h2, eh2, hf⟩ := nmd_e hf
  refine v_puti (pc := 271) X fp_12_175 kl0 rfl (by decide +kernel) eh2 ?_
  refine v_goto (pc := 274) (off := -61) (tgt := 213) X (by decide +kernel) (by decide) ?_
  exact H213 h2 l0 kl0 hf
set_option maxRecDepth 4000 in
set_option maxHeartbeats 1000000 in
theorem vlp_Md_token_213 {E : En} {g : Gl} {tb : Tb} {ρ : Nat → Nat} (ok : TbOK tb) (hi : inj tb ρ) {r : Hp} (X : CX E g tb ρ prog_14_method_10_code 1 RC12 1 27) (Y : CQ E g tb ρ none (none) r) : ∀ (n : Nat) (h : Hp) (l0 : Nat) (kl0 : kd tb l0 = 12), lp_Md_token_213 tb n h l0 = some r → V E g tb ρ 1 213 [(0, .ref (ρ l0))] [] h := by
  intro n
  induction n with
  | zero =>
    intro h l0 kl0 hf
    rw [lp_Md_token_213] at hf
    cases hf
  | succ n ih =>
    intro h l0 kl0 hf
    rw [lp_Md_token_213] at hf
    refine v_aload_n (pc := 213) (k := 0) X (by decide +kernel) 0 rfl ?_
    refine v_aload_n (pc := 214) (k := 0) X (by decide +kernel) 0 rfl ?_
    refine v_geti (pc := 215) X fl_12_175 kl0 rfl (by decide +kernel) ?_
    obtain ⟨r1, er1, hf⟩ := bnd_e hf
    refine v_callV (pc := 218) (As := [.int (h.1 l0 7)]) (rest := []) X (mt_Md_isDigit ok hi kl0 er1) ml_12_195 mv_Md_isDigit kl0 cls_12 rfl ⟨Nat.le_of_ble_eq_true rfl, Nat.le_of_ble_eq_true rfl⟩ rfl rfl (Nat.le_of_ble_eq_true rfl) (by decide +kernel) ?_
    change V E g tb ρ 1 221 [(0, .ref (ρ l0))] [.int r1] h
    refine v_if_eq (pc := 221) (off := 60) (tgt := 281) X (by decide +kernel) (by decide) (fun q4 => ?_) (fun q4 => ?_)
    · rw [if_pos q4] at hf
      cases hf
      exact v_vret X Y (by decide +kernel) rfl rfl
    · rw [if_neg q4] at hf
      refine v_aload_n (pc := 224) (k := 0) X (by decide +kernel) 0 rfl ?_
      refine v_aload_n (pc := 225) (k := 0) X (by decide +kernel) 0 rfl ?_
      refine v_geti (pc := 226) X fl_12_189 kl0 rfl (by decide +kernel) ?_
      refine v_ldc (pc := 229) X (by decide +kernel) kc_12_198 ?_
      refine v_icmp_le (pc := 231) (off := 10) (tgt := 241) X (by decide +kernel) (by decide) (fun q3 => ?_) (fun q3 => ?_)
      · rw [if_pos q3] at hf
        refine v_bipush (pc := 241) (n := 10) X (by decide +kernel) bi_10 ?_
        refine v_aload_n (pc := 243) (k := 0) X (by decide +kernel) 0 rfl ?_
        refine v_geti (pc := 244) X fl_12_189 kl0 rfl (by decide +kernel) ?_
        refine v_imul (pc := 247) X (by decide +kernel) ?_
        refine v_aload_n (pc := 248) (k := 0) X (by decide +kernel) 0 rfl ?_
        refine v_geta (pc := 249) X fl_12_7 kl0 fk_12_0 (by decide +kernel) ?_
        refine v_aload_n (pc := 252) (k := 0) X (by decide +kernel) 0 rfl ?_
        refine v_geti (pc := 253) X fl_12_175 kl0 rfl (by decide +kernel) ?_
        obtain ⟨x2, ex2, hf⟩ := bnd_e hf
        refine v_iald (pc := 256) X (ly_12_0 ok kl0) ex2 (by decide +kernel) ?_
        refine v_iadd (pc := 257) X (by decide +kernel) ?_
        refine v_bipush (pc := 258) (n := 48) X (by decide +kernel) bi_48 ?_
        refine v_isub (pc := 260) X (by decide +kernel) ?_
        exact vjb_Md_token_261 ok hi X Y ih h l0 l0 ((((10 : Int32) * (h.1 l0 9)) + x2) - (48 : Int32)) kl0 kl0 hf
      · rw [if_neg q3] at hf
        refine v_aload_n (pc := 234) (k := 0) X (by decide +kernel) 0 rfl ?_
        refine v_geti (pc := 235) X fl_12_189 kl0 rfl (by decide +kernel) ?_
        refine v_goto (pc := 238) (off := 23) (tgt := 261) X (by decide +kernel) (by decide) ?_
        exact vjb_Md_token_261 ok hi X Y ih h l0 l0 (h.1 l0 9) kl0 kl0 hf
set_option maxRecDepth 4000 in
set_option maxHeartbeats 1000000 in
theorem vjb_Md_token_162 {E : En} {g : Gl} {tb : Tb} {ρ : Nat → Nat} (ok : TbOK tb) (hi : inj tb ρ) {r : Hp} (X : CX E g tb ρ prog_14_method_10_code 1 RC12 1 27) (Y : CQ E g tb ρ none (none) r) (h : Hp) (l0 : Nat) (s0 : Nat) (s1 : Int32) (kl0 : kd tb l0 = 12) (ks0 : kd tb s0 = 12) (hf : jb_Md_token_162 tb h l0 s0 s1 = some r) : V E g tb ρ 1 162 [(0, .ref (ρ l0))] [.int s1, .ref (ρ s0)] h := by
  unfold jb_Md_token_162 at hf
  obtain ⟨h1, eh1, hf⟩ := nmd_e hf
  refine v_puti (pc := 162) X fp_12_178 ks0 rfl (by decide +kernel) eh1 ?_
  refine v_aload_n (pc := 165) (k := 0) X (by decide +kernel) 0 rfl ?_
  refine v_geti (pc := 166) X fl_12_178 kl0 rfl (by decide +kernel) ?_
  refine v_iconst (pc := 169) (n := 2) X (by decide +kernel) ic_2 ?_
  refine v_icmp_ne (pc := 170) (off := 111) (tgt := 281) X (by decide +kernel) (by decide) (fun q4 => ?_) (fun q4 => ?_)
  · rw [if_neg q4] at hf
    cases hf
    exact v_vret X Y (by decide +kernel) rfl rfl
  · rw [if_pos q4] at hf
    refine v_aload_n (pc := 173) (k := 0) X (by decide +kernel) 0 rfl ?_
    refine v_aload_n (pc := 174) (k := 0) X (by decide +kernel) 0 rfl ?_
    refine v_aload_n (pc := 175) (k := 0) X (by decide +kernel) 0 rfl ?_
    refine v_geti (pc := 176) X fl_12_169 kl0 rfl (by decide +kernel) ?_
    refine v_aload_n (pc := 179) (k := 0) X (by decide +kernel) 0 rfl ?_
    refine v_geti (pc := 180) X fl_12_175 kl0 rfl (by decide +kernel) ?_
    obtain ⟨r2, er2, hf⟩ := bnd_e hf
    refine v_callV (pc := 183) (As := [.int (h1.1 l0 10), .int (h1.1 l0 7)]) (rest := [.ref (ρ l0)]) X (mt_Md_packed ok hi kl0 er2) ml_12_192 mv_Md_packed kl0 cls_12 rfl ⟨Nat.le_of_ble_eq_true rfl, Nat.le_of_ble_eq_true rfl⟩ rfl rfl (Nat.le_of_ble_eq_true rfl) (by decide +kernel) ?_
    change V E g tb ρ 1 186 [(0, .ref (ρ l0))] [.int r2, .ref (ρ l0)] h1
    obtain ⟨h3, eh3, hf⟩ := nmd_e hf
    refine v_puti (pc := 186) X fp_12_189 kl0 rfl (by decide +kernel) eh3 ?_
    refine v_goto (pc := 189) (off := 92) (tgt := 281) X (by decide +kernel) (by decide) ?_
    cases hf
    exact v_vret X Y (by decide +kernel) rfl rfl
set_option maxRecDepth 4000 in
set_option maxHeartbeats 1000000 in
theorem vlp_Md_token_90 {E : En} {g : Gl} {tb : Tb} {ρ : Nat → Nat} (ok : TbOK tb) (hi : inj tb ρ) {r : Hp} (X : CX E g tb ρ prog_14_method_10_code 1 RC12 1 27) (Y : CQ E g tb ρ none (none) r) : ∀ (n : Nat) (h : Hp) (l0 : Nat) (kl0 : kd tb l0 = 12), lp_Md_token_90 tb n h l0 = some r → V E g tb ρ 1 90 [(0, .ref (ρ l0))] [] h := by
  intro n
  induction n with
  | zero =>
    intro h l0 kl0 hf
    rw [lp_Md_token_90] at hf
    cases hf
  | succ n ih =>
    intro h l0 kl0 hf
    rw [lp_Md_token_90] at hf
    refine v_aload_n (pc := 90) (k := 0) X (by decide +kernel) 0 rfl ?_
    refine v_aload_n (pc := 91) (k := 0) X (by decide +kernel) 0 rfl ?_
    refine v_geti (pc := 92) X fl_12_175 kl0 rfl (by decide +kernel) ?_
    obtain ⟨r1, er1, hf⟩ := bnd_e hf
    refine v_callV (pc := 95) (As := [.int (h.1 l0 7)]) (rest := []) X (mt_Md_isSmall ok hi kl0 er1) ml_12_181 mv_Md_isSmall kl0 cls_12 rfl ⟨Nat.le_of_ble_eq_true rfl, Nat.le_of_ble_eq_true rfl⟩ rfl rfl (Nat.le_of_ble_eq_true rfl) (by decide +kernel) ?_
    change V E g tb ρ 1 98 [(0, .ref (ρ l0))] [.int r1] h
    refine v_if_eq (pc := 98) (off := 16) (tgt := 114) X (by decide +kernel) (by decide) (fun q7 => ?_) (fun q7 => ?_)
    · rw [if_pos q7] at hf
      refine v_aload_n (pc := 114) (k := 0) X (by decide +kernel) 0 rfl ?_
      refine v_aload_n (pc := 115) (k := 0) X (by decide +kernel) 0 rfl ?_
      refine v_aload_n (pc := 116) (k := 0) X (by decide +kernel) 0 rfl ?_
      refine v_geti (pc := 117) X fl_12_169 kl0 rfl (by decide +kernel) ?_
      refine v_aload_n (pc := 120) (k := 0) X (by decide +kernel) 0 rfl ?_
      refine v_geti (pc := 121) X fl_12_175 kl0 rfl (by decide +kernel) ?_
      obtain ⟨r2, er2, hf⟩ := bnd_e hf
      refine v_callV (pc := 124) (As := [.int (h.1 l0 10), .int (h.1 l0 7)]) (rest := [.ref (ρ l0)]) X (mt_Md_wordAt ok hi kl0 er2) ml_12_185 mv_Md_wordAt kl0 cls_12 rfl ⟨Nat.le_of_ble_eq_true rfl, Nat.le_of_ble_eq_true rfl⟩ rfl rfl (Nat.le_of_ble_eq_true rfl) (by decide +kernel) ?_
      change V E g tb ρ 1 127 [(0, .ref (ρ l0))] [.int r2, .ref (ρ l0)] h
      obtain ⟨h3, eh3, hf⟩ := nmd_e hf
      refine v_puti (pc := 127) X fp_12_189 kl0 rfl (by decide +kernel) eh3 ?_
      refine v_aload_n (pc := 130) (k := 0) X (by decide +kernel) 0 rfl ?_
      refine v_aload_n (pc := 131) (k := 0) X (by decide +kernel) 0 rfl ?_
      refine v_geti (pc := 132) X fl_12_189 kl0 rfl (by decide +kernel) ?_
      refine v_if_lt (pc := 135) (off := 7) (tgt := 142) X (by decide +kernel) (by decide) (fun q5 => ?_) (fun q5 => ?_)
      · rw [if_pos q5] at hf
        refine v_aload_n (pc := 142) (k := 0) X (by decide +kernel) 0 rfl ?_
        refine v_geti (pc := 143) X fl_12_175 kl0 rfl (by decide +kernel) ?_
        refine v_aload_n (pc := 146) (k := 0) X (by decide +kernel) 0 rfl ?_
        refine v_geti (pc := 147) X fl_12_169 kl0 rfl (by decide +kernel) ?_
        refine v_isub (pc := 150) X (by decide +kernel) ?_
        refine v_bipush (pc := 151) (n := 6) X (by decide +kernel) bi_6 ?_
        refine v_icmp_le (pc := 153) (off := 8) (tgt := 161) X (by decide +kernel) (by decide) (fun q4 => ?_) (fun q4 => ?_)
        · rw [if_pos q4] at hf
          refine v_iconst (pc := 161) (n := 2) X (by decide +kernel) ic_2 ?_
          exact vjb_Md_token_162 ok hi X Y h3 l0 l0 (2 : Int32) kl0 kl0 hf
        · rw [if_neg q4] at hf
          refine v_bipush (pc := 156) (n := 6) X (by decide +kernel) bi_6 ?_
          refine v_goto (pc := 158) (off := 4) (tgt := 162) X (by decide +kernel) (by decide) ?_
          exact vjb_Md_token_162 ok hi X Y h3 l0 l0 (6 : Int32) kl0 kl0 hf
      · rw [if_neg q5] at hf
        refine v_iconst (pc := 138) (n := 1) X (by decide +kernel) ic_1 ?_
        refine v_goto (pc := 139) (off := 23) (tgt := 162) X (by decide +kernel) (by decide) ?_
        exact vjb_Md_token_162 ok hi X Y h3 l0 l0 (1 : Int32) kl0 kl0 hf
    · rw [if_neg q7] at hf
      refine v_aload_n (pc := 101) (k := 0) X (by decide +kernel) 0 rfl ?_
      refine v_dup (pc := 102) X (by decide +kernel) rfl ?_
      refine v_geti (pc := 103) X fl_12_175 kl0 rfl (by decide +kernel) ?_
      refine v_iconst (pc := 106) (n := 1) X (by decide +kernel) ic_1 ?_
      refine v_iadd (pc := 107) X (by decide +kernel) ?_
      obtain ⟨h6, eh6, hf⟩ := nmd_e hf
      refine v_puti (pc := 108) X fp_12_175 kl0 rfl (by decide +kernel) eh6 ?_
      refine v_goto (pc := 111) (off := -21) (tgt := 90) X (by decide +kernel) (by decide) ?_
      exact ih h6 l0 kl0 hf
set_option maxRecDepth 4000 in
set_option maxHeartbeats 1000000 in
theorem vjb_Md_token_52 {E : En} {g : Gl} {tb : Tb} {ρ : Nat → Nat} (ok : TbOK tb) (hi : inj tb ρ) {r : Hp} (X : CX E g tb ρ prog_14_method_10_code 1 RC12 1 27) (Y : CQ E g tb ρ none (none) r) (h : Hp) (l0 : Nat) (kl0 : kd tb l0 = 12) (hf : jb_Md_token_52 tb h l0 = some r) : V E g tb ρ 1 52 [(0, .ref (ρ l0))] [] h := by
  unfold jb_Md_token_52 at hf
  refine v_aload_n (pc := 52) (k := 0) X (by decide +kernel) 0 rfl ?_
  refine v_aload_n (pc := 53) (k := 0) X (by decide +kernel) 0 rfl ?_
  refine v_geti (pc := 54) X fl_12_175 kl0 rfl (by decide +kernel) ?_
  obtain ⟨h1, eh1, hf⟩ := nmd_e hf
  refine v_puti (pc := 57) X fp_12_169 kl0 rfl (by decide +kernel) eh1 ?_
  refine v_aload_n (pc := 60) (k := 0) X (by decide +kernel) 0 rfl ?_
  refine v_geti (pc := 61) X fl_12_175 kl0 rfl (by decide +kernel) ?_
  refine v_aload_n (pc := 64) (k := 0) X (by decide +kernel) 0 rfl ?_
  refine v_geti (pc := 65) X fl_12_172 kl0 rfl (by decide +kernel) ?_
  refine v_icmp_ne (pc := 68) (off := 11) (tgt := 79) X (by decide +kernel) (by decide) (fun q10 => ?_) (fun q10 => ?_)
  · rw [if_neg q10] at hf
    refine v_aload_n (pc := 79) (k := 0) X (by decide +kernel) 0 rfl ?_
    refine v_aload_n (pc := 80) (k := 0) X (by decide +kernel) 0 rfl ?_
    refine v_geti (pc := 81) X fl_12_175 kl0 rfl (by decide +kernel) ?_
    obtain ⟨r2, er2, hf⟩ := bnd_e hf
    refine v_callV (pc := 84) (As := [.int (h1.1 l0 7)]) (rest := []) X (mt_Md_isSmall ok hi kl0 er2) ml_12_181 mv_Md_isSmall kl0 cls_12 rfl ⟨Nat.le_of_ble_eq_true rfl, Nat.le_of_ble_eq_true rfl⟩ rfl rfl (Nat.le_of_ble_eq_true rfl) (by decide +kernel) ?_
    change V E g tb ρ 1 87 [(0, .ref (ρ l0))] [.int r2] h1
    refine v_if_eq (pc := 87) (off := 105) (tgt := 192) X (by decide +kernel) (by decide) (fun q8 => ?_) (fun q8 => ?_)
    · rw [if_pos q8] at hf
      refine v_aload_n (pc := 192) (k := 0) X (by decide +kernel) 0 rfl ?_
      refine v_aload_n (pc := 193) (k := 0) X (by decide +kernel) 0 rfl ?_
      refine v_geti (pc := 194) X fl_12_175 kl0 rfl (by decide +kernel) ?_
      obtain ⟨r3, er3, hf⟩ := bnd_e hf
      refine v_callV (pc := 197) (As := [.int (h1.1 l0 7)]) (rest := []) X (mt_Md_isDigit ok hi kl0 er3) ml_12_195 mv_Md_isDigit kl0 cls_12 rfl ⟨Nat.le_of_ble_eq_true rfl, Nat.le_of_ble_eq_true rfl⟩ rfl rfl (Nat.le_of_ble_eq_true rfl) (by decide +kernel) ?_
      change V E g tb ρ 1 200 [(0, .ref (ρ l0))] [.int r3] h1
      refine v_if_eq (pc := 200) (off := 77) (tgt := 277) X (by decide +kernel) (by decide) (fun q7 => ?_) (fun q7 => ?_)
      · rw [if_pos q7] at hf
        refine v_aload_n (pc := 277) (k := 0) X (by decide +kernel) 0 rfl ?_
        obtain ⟨r4, er4, hf⟩ := bnd_e hf
        refine v_callV (pc := 278) (As := []) (rest := []) X (mt_Md_signToken ok hi kl0 er4) ml_12_199 mv_Md_signToken kl0 cls_12 rfl ⟨Nat.le_of_ble_eq_true rfl, Nat.le_of_ble_eq_true rfl⟩ rfl rfl (Nat.le_of_ble_eq_true rfl) (by decide +kernel) ?_
        change V E g tb ρ 1 281 [(0, .ref (ρ l0))] [] r4
        cases hf
        exact v_vret X Y (by decide +kernel) rfl rfl
      · rw [if_neg q7] at hf
        refine v_aload_n (pc := 203) (k := 0) X (by decide +kernel) 0 rfl ?_
        refine v_iconst (pc := 204) (n := 3) X (by decide +kernel) ic_3 ?_
        obtain ⟨h5, eh5, hf⟩ := nmd_e hf
        refine v_puti (pc := 205) X fp_12_178 kl0 rfl (by decide +kernel) eh5 ?_
        refine v_aload_n (pc := 208) (k := 0) X (by decide +kernel) 0 rfl ?_
        refine v_iconst (pc := 209) (n := 0) X (by decide +kernel) ic_0 ?_
        obtain ⟨h6, eh6, hf⟩ := nmd_e hf
        refine v_puti (pc := 210) X fp_12_189 kl0 rfl (by decide +kernel) eh6 ?_
        exact vlp_Md_token_213 ok hi X Y fu h6 l0 kl0 hf
    · rw [if_neg q8] at hf
      exact vlp_Md_token_90 ok hi X Y fu h1 l0 kl0 hf
  · rw [if_pos q10] at hf
    refine v_aload_n (pc := 71) (k := 0) X (by decide +kernel) 0 rfl ?_
    refine v_iconst (pc := 72) (n := 0) X (by decide +kernel) ic_0 ?_
    obtain ⟨h9, eh9, hf⟩ := nmd_e hf
    refine v_puti (pc := 73) X fp_12_178 kl0 rfl (by decide +kernel) eh9 ?_
    refine v_goto (pc := 76) (off := 205) (tgt := 281) X (by decide +kernel) (by decide) ?_
    cases hf
    exact v_vret X Y (by decide +kernel) rfl rfl
set_option maxRecDepth 4000 in
set_option maxHeartbeats 1000000 in
theorem vjb_Md_token_39 {E : En} {g : Gl} {tb : Tb} {ρ : Nat → Nat} (ok : TbOK tb) (hi : inj tb ρ) {r : Hp} (X : CX E g tb ρ prog_14_method_10_code 1 RC12 1 27) (Y : CQ E g tb ρ none (none) r) {c0 : Hp → Nat → Option (Hp)} (H0 : ∀ (h : Hp) (l0 : Nat) (kl0 : kd tb l0 = 12), c0 h l0 = some r → V E g tb ρ 1 0 [(0, .ref (ρ l0))] [] h) (h : Hp) (l0 : Nat) (kl0 : kd tb l0 = 12) (hf : jb_Md_token_39 tb c0 h l0 = some r) : V E g tb ρ 1 39 [(0, .ref (ρ l0))] [] h := by
  unfold jb_Md_token_39 at hf
  refine v_aload_n (pc := 39) (k := 0) X (by decide +kernel) 0 rfl ?_
  refine v_dup (pc := 40) X (by decide +kernel) rfl ?_
  refine v_geti (pc := 41) X fl_12_175 kl0 rfl (by decide +kernel) ?_
  refine v_iconst (pc := 44) (n := 1) X (by decide +kernel) ic_1 ?_
  refine v_iadd (pc := 45) X (by decide +kernel) ?_
  obtain ⟨h1, eh1, hf⟩ := nmd_e hf
  refine v_puti (pc := 46) X fp_12_175 kl0 rfl (by decide +kernel) eh1 ?_
  refine v_goto (pc := 49) (off := -49) (tgt := 0) X (by decide +kernel) (by decide) ?_
  exact H0 h1 l0 kl0 hf
set_option maxRecDepth 4000 in
set_option maxHeartbeats 1000000 in
theorem vlp_Md_token_0 {E : En} {g : Gl} {tb : Tb} {ρ : Nat → Nat} (ok : TbOK tb) (hi : inj tb ρ) {r : Hp} (X : CX E g tb ρ prog_14_method_10_code 1 RC12 1 27) (Y : CQ E g tb ρ none (none) r) : ∀ (n : Nat) (h : Hp) (l0 : Nat) (kl0 : kd tb l0 = 12), lp_Md_token_0 tb n h l0 = some r → V E g tb ρ 1 0 [(0, .ref (ρ l0))] [] h := by
  intro n
  induction n with
  | zero =>
    intro h l0 kl0 hf
    rw [lp_Md_token_0] at hf
    cases hf
  | succ n ih =>
    intro h l0 kl0 hf
    rw [lp_Md_token_0] at hf
    refine v_aload_n (pc := 0) (k := 0) X (by decide +kernel) 0 rfl ?_
    refine v_geti (pc := 1) X fl_12_175 kl0 rfl (by decide +kernel) ?_
    refine v_aload_n (pc := 4) (k := 0) X (by decide +kernel) 0 rfl ?_
    refine v_geti (pc := 5) X fl_12_172 kl0 rfl (by decide +kernel) ?_
    refine v_icmp_ge (pc := 8) (off := 44) (tgt := 52) X (by decide +kernel) (by decide) (fun q5 => ?_) (fun q5 => ?_)
    · rw [if_pos q5] at hf
      exact vjb_Md_token_52 ok hi X Y h l0 kl0 hf
    · rw [if_neg q5] at hf
      refine v_aload_n (pc := 11) (k := 0) X (by decide +kernel) 0 rfl ?_
      refine v_geta (pc := 12) X fl_12_7 kl0 fk_12_0 (by decide +kernel) ?_
      refine v_aload_n (pc := 15) (k := 0) X (by decide +kernel) 0 rfl ?_
      refine v_geti (pc := 16) X fl_12_175 kl0 rfl (by decide +kernel) ?_
      obtain ⟨x1, ex1, hf⟩ := bnd_e hf
      refine v_iald (pc := 19) X (ly_12_0 ok kl0) ex1 (by decide +kernel) ?_
      refine v_bipush (pc := 20) (n := 10) X (by decide +kernel) bi_10 ?_
      refine v_icmp_eq (pc := 22) (off := 17) (tgt := 39) X (by decide +kernel) (by decide) (fun q4 => ?_) (fun q4 => ?_)
      · rw [if_pos q4] at hf
        exact vjb_Md_token_39 ok hi X Y ih h l0 kl0 hf
      · rw [if_neg q4] at hf
        refine v_aload_n (pc := 25) (k := 0) X (by decide +kernel) 0 rfl ?_
        refine v_geta (pc := 26) X fl_12_7 kl0 fk_12_0 (by decide +kernel) ?_
        refine v_aload_n (pc := 29) (k := 0) X (by decide +kernel) 0 rfl ?_
        refine v_geti (pc := 30) X fl_12_175 kl0 rfl (by decide +kernel) ?_
        obtain ⟨x2, ex2, hf⟩ := bnd_e hf
        refine v_iald (pc := 33) X (ly_12_0 ok kl0) ex2 (by decide +kernel) ?_
        refine v_bipush (pc := 34) (n := 32) X (by decide +kernel) bi_32 ?_
        refine v_icmp_ne (pc := 36) (off := 16) (tgt := 52) X (by decide +kernel) (by decide) (fun q3 => ?_) (fun q3 => ?_)
        · rw [if_neg q3] at hf
          exact vjb_Md_token_52 ok hi X Y h l0 kl0 hf
        · rw [if_pos q3] at hf
          exact vjb_Md_token_39 ok hi X Y ih h l0 kl0 hf
set_option maxRecDepth 4000 in
set_option maxHeartbeats 1000000 in
theorem mt_Md_token {g : Gl} {tb : Tb} {ρ : Nat → Nat} (ok : TbOK tb) (hi : inj tb ρ) {h : Hp} {l0 : Nat} (kl0 : kd tb l0 = 12) {r : Hp} (hf : f_Md_token tb h l0 = some r) : MT g y_Md_token prog_14_method_10_code 1 none 1 27 tb ρ [.ref (ρ l0)] h (none) r := by
  refine mt_intro (by decide +kernel) ok hi (Nat.le_of_ble_eq_true rfl) (fun E X Y => ?_)
  change V E g tb ρ 1 0 [(0, .ref (ρ l0))] [] h
  unfold f_Md_token at hf
  exact vlp_Md_token_0 ok hi X Y fu h l0 kl0 hf
def f_Md_isKey (tb : Tb) (h : Hp) (l0 : Nat) (l1 : Int32) : Int32 :=
  if (h.1 l0 8) = (1 : Int32) then (
    if (h.1 l0 9) = l1 then (
      (1 : Int32)
    ) else (
      (0 : Int32)
    )
  ) else (
    (0 : Int32)
  )
set_option maxRecDepth 4000 in
set_option maxHeartbeats 1000000 in
theorem mt_Md_isKey {g : Gl} {tb : Tb} {ρ : Nat → Nat} (ok : TbOK tb) (hi : inj tb ρ) {h : Hp} {l0 : Nat} {l1 : Int32} (kl0 : kd tb l0 = 12) {r : Int32} (hf : f_Md_isKey tb h l0 l1 = r) : MT g y_Md_isKey prog_14_method_13_code 2 (some .boolean) 0 0 tb ρ [.ref (ρ l0), .int l1] h (some (.int r)) h := by
  refine mt_intro (by decide +kernel) ok hi (Nat.le_of_ble_eq_true rfl) (fun E X Y => ?_)
  change V E g tb ρ 2 0 [(0, .ref (ρ l0)), (1, .int l1)] [] h
  unfold f_Md_isKey at hf
  refine v_aload_n (pc := 0) (k := 0) X (by decide +kernel) 0 rfl ?_
  refine v_geti (pc := 1) X fl_12_178 kl0 rfl (by decide +kernel) ?_
  refine v_iconst (pc := 4) (n := 1) X (by decide +kernel) ic_1 ?_
  refine v_icmp_ne (pc := 5) (off := 15) (tgt := 20) X (by decide +kernel) (by decide) (fun q2 => ?_) (fun q2 => ?_)
  · rw [if_neg q2] at hf
    refine v_iconst (pc := 20) (n := 0) X (by decide +kernel) ic_0 ?_
    cases hf
    exact v_zret (hz := rfl) X Y (by decide +kernel) rfl rfl
  · rw [if_pos q2] at hf
    refine v_aload_n (pc := 8) (k := 0) X (by decide +kernel) 0 rfl ?_
    refine v_geti (pc := 9) X fl_12_189 kl0 rfl (by decide +kernel) ?_
    refine v_iload_n (pc := 12) (k := 1) X (by decide +kernel) 1 rfl ?_
    refine v_icmp_ne (pc := 13) (off := 7) (tgt := 20) X (by decide +kernel) (by decide) (fun q1 => ?_) (fun q1 => ?_)
    · rw [if_neg q1] at hf
      refine v_iconst (pc := 20) (n := 0) X (by decide +kernel) ic_0 ?_
      cases hf
      exact v_zret (hz := rfl) X Y (by decide +kernel) rfl rfl
    · rw [if_pos q1] at hf
      refine v_iconst (pc := 16) (n := 1) X (by decide +kernel) ic_1 ?_
      refine v_goto (pc := 17) (off := 4) (tgt := 21) X (by decide +kernel) (by decide) ?_
      cases hf
      exact v_zret (hz := rfl) X Y (by decide +kernel) rfl rfl
def f_Md_isSign (tb : Tb) (h : Hp) (l0 : Nat) (l1 : Int32) : Int32 :=
  if (h.1 l0 8) = (4 : Int32) then (
    if (h.1 l0 9) = l1 then (
      (1 : Int32)
    ) else (
      (0 : Int32)
    )
  ) else (
    (0 : Int32)
  )
set_option maxRecDepth 4000 in
set_option maxHeartbeats 1000000 in
theorem mt_Md_isSign {g : Gl} {tb : Tb} {ρ : Nat → Nat} (ok : TbOK tb) (hi : inj tb ρ) {h : Hp} {l0 : Nat} {l1 : Int32} (kl0 : kd tb l0 = 12) {r : Int32} (hf : f_Md_isSign tb h l0 l1 = r) : MT g y_Md_isSign prog_14_method_14_code 2 (some .boolean) 0 0 tb ρ [.ref (ρ l0), .int l1] h (some (.int r)) h := by
  refine mt_intro (by decide +kernel) ok hi (Nat.le_of_ble_eq_true rfl) (fun E X Y => ?_)
  change V E g tb ρ 2 0 [(0, .ref (ρ l0)), (1, .int l1)] [] h
  unfold f_Md_isSign at hf
  refine v_aload_n (pc := 0) (k := 0) X (by decide +kernel) 0 rfl ?_
  refine v_geti (pc := 1) X fl_12_178 kl0 rfl (by decide +kernel) ?_
  refine v_iconst (pc := 4) (n := 4) X (by decide +kernel) ic_4 ?_
  refine v_icmp_ne (pc := 5) (off := 15) (tgt := 20) X (by decide +kernel) (by decide) (fun q2 => ?_) (fun q2 => ?_)
  · rw [if_neg q2] at hf
    refine v_iconst (pc := 20) (n := 0) X (by decide +kernel) ic_0 ?_
    cases hf
    exact v_zret (hz := rfl) X Y (by decide +kernel) rfl rfl
  · rw [if_pos q2] at hf
    refine v_aload_n (pc := 8) (k := 0) X (by decide +kernel) 0 rfl ?_
    refine v_geti (pc := 9) X fl_12_189 kl0 rfl (by decide +kernel) ?_
    refine v_iload_n (pc := 12) (k := 1) X (by decide +kernel) 1 rfl ?_
    refine v_icmp_ne (pc := 13) (off := 7) (tgt := 20) X (by decide +kernel) (by decide) (fun q1 => ?_) (fun q1 => ?_)
    · rw [if_neg q1] at hf
      refine v_iconst (pc := 20) (n := 0) X (by decide +kernel) ic_0 ?_
      cases hf
      exact v_zret (hz := rfl) X Y (by decide +kernel) rfl rfl
    · rw [if_pos q1] at hf
      refine v_iconst (pc := 16) (n := 1) X (by decide +kernel) ic_1 ?_
      refine v_goto (pc := 17) (off := 4) (tgt := 21) X (by decide +kernel) (by decide) ?_
      cases hf
      exact v_zret (hz := rfl) X Y (by decide +kernel) rfl rfl
def f_Md_number (tb : Tb) (h : Hp) (l0 : Nat) (l1 : Int32) (l2 : Int32) : Option (Int32 × Hp) :=
  if (h.1 l0 8) = (3 : Int32) then (
    nmd (f_Md_isIn tb h (h.1 l0 9) l1 l2) fun r1 =>
    if r1 = (0 : Int32) then (
      nmd (f_Md_wrong tb h l0 (2 : Int32)) fun r4 =>
      (cZ r4.1).bind fun x5 =>
      some (x5, r4.2)
    ) else (
      nmd (pI h l0 11 (h.1 l0 9)) fun h2 =>
      (f_Md_token tb h2 l0).bind fun r3 =>
      some ((1 : Int32), r3)
    )
  ) else (
    nmd (f_Md_wrong tb h l0 (1 : Int32)) fun r7 =>
    (cZ r7.1).bind fun x8 =>
    some (x8, r7.2)
  )
set_option maxRecDepth 4000 in
set_option maxHeartbeats 1000000 in
theorem mt_Md_number {g : Gl} {tb : Tb} {ρ : Nat → Nat} (ok : TbOK tb) (hi : inj tb ρ) {h : Hp} {l0 : Nat} {l1 : Int32} {l2 : Int32} (kl0 : kd tb l0 = 12) {r : Int32 × Hp} (hf : f_Md_number tb h l0 l1 l2 = some r) : MT g y_Md_number prog_14_method_15_code 3 (some .boolean) 2 47 tb ρ [.ref (ρ l0), .int l1, .int l2] h (some (.int r.1)) r.2 := by
  refine mt_intro (by decide +kernel) ok hi (Nat.le_of_ble_eq_true rfl) (fun E X Y => ?_)
  change V E g tb ρ 3 0 [(0, .ref (ρ l0)), (1, .int l1), (2, .int l2)] [] h
  unfold f_Md_number at hf
  refine v_aload_n (pc := 0) (k := 0) X (by decide +kernel) 0 rfl ?_
  refine v_geti (pc := 1) X fl_12_178 kl0 rfl (by decide +kernel) ?_
  refine v_iconst (pc := 4) (n := 3) X (by decide +kernel) ic_3 ?_
  refine v_icmp_eq (pc := 5) (off := 9) (tgt := 14) X (by decide +kernel) (by decide) (fun q9 => ?_) (fun q9 => ?_)
  · rw [if_pos q9] at hf
    refine v_aload_n (pc := 14) (k := 0) X (by decide +kernel) 0 rfl ?_
    refine v_geti (pc := 15) X fl_12_189 kl0 rfl (by decide +kernel) ?_
    refine v_iload_n (pc := 18) (k := 1) X (by decide +kernel) 1 rfl ?_
    refine v_iload_n (pc := 19) (k := 2) X (by decide +kernel) 2 rfl ?_
    obtain ⟨r1, er1, hf⟩ := nmd_e hf
    refine v_callS (pc := 20) (As := [.int (h.1 l0 9), .int l1, .int l2]) (rest := []) X (mt_Md_isIn ok hi er1.symm) ml_12_205 ms_Md_isIn ⟨Nat.le_of_ble_eq_true rfl, Nat.le_of_ble_eq_true rfl⟩ rfl rfl (Nat.le_of_ble_eq_true rfl) (by decide +kernel) ?_
    change V E g tb ρ 3 23 [(0, .ref (ρ l0)), (1, .int l1), (2, .int l2)] [.int r1] h
    refine v_if_ne (pc := 23) (off := 9) (tgt := 32) X (by decide +kernel) (by decide) (fun q6 => ?_) (fun q6 => ?_)
    · rw [if_neg q6] at hf
      refine v_aload_n (pc := 32) (k := 0) X (by decide +kernel) 0 rfl ?_
      refine v_aload_n (pc := 33) (k := 0) X (by decide +kernel) 0 rfl ?_
      refine v_geti (pc := 34) X fl_12_189 kl0 rfl (by decide +kernel) ?_
      obtain ⟨h2, eh2, hf⟩ := nmd_e hf
      refine v_puti (pc := 37) X fp_12_209 kl0 rfl (by decide +kernel) eh2 ?_
      refine v_aload_n (pc := 40) (k := 0) X (by decide +kernel) 0 rfl ?_
      obtain ⟨r3, er3, hf⟩ := bnd_e hf
      refine v_callV (pc := 41) (As := []) (rest := []) X (mt_Md_token ok hi kl0 er3) ml_12_212 mv_Md_token kl0 cls_12 rfl ⟨Nat.le_of_ble_eq_true rfl, Nat.le_of_ble_eq_true rfl⟩ rfl rfl (Nat.le_of_ble_eq_true rfl) (by decide +kernel) ?_
      change V E g tb ρ 3 44 [(0, .ref (ρ l0)), (1, .int l1), (2, .int l2)] [] r3
      refine v_iconst (pc := 44) (n := 1) X (by decide +kernel) ic_1 ?_
      cases hf
      exact v_zret (hz := rfl) X Y (by decide +kernel) rfl rfl
    · rw [if_pos q6] at hf
      refine v_aload_n (pc := 26) (k := 0) X (by decide +kernel) 0 rfl ?_
      refine v_iconst (pc := 27) (n := 2) X (by decide +kernel) ic_2 ?_
      obtain ⟨r4, er4, hf⟩ := nmd_e hf
      refine v_callV (pc := 28) (As := [.int (2 : Int32)]) (rest := []) X (mt_Md_wrong ok hi kl0 er4.symm) ml_12_202 mv_Md_wrong kl0 cls_12 rfl ⟨Nat.le_of_ble_eq_true rfl, Nat.le_of_ble_eq_true rfl⟩ rfl rfl (Nat.le_of_ble_eq_true rfl) (by decide +kernel) ?_
      change V E g tb ρ 3 31 [(0, .ref (ρ l0)), (1, .int l1), (2, .int l2)] [.int r4.1] r4.2
      obtain ⟨x5, ex5, hf⟩ := bnd_e hf
      obtain ⟨bx5, rfl⟩ := cZ_e ex5
      cases hf
      exact v_zret (hz := bx5) X Y (by decide +kernel) rfl rfl
  · rw [if_neg q9] at hf
    refine v_aload_n (pc := 8) (k := 0) X (by decide +kernel) 0 rfl ?_
    refine v_iconst (pc := 9) (n := 1) X (by decide +kernel) ic_1 ?_
    obtain ⟨r7, er7, hf⟩ := nmd_e hf
    refine v_callV (pc := 10) (As := [.int (1 : Int32)]) (rest := []) X (mt_Md_wrong ok hi kl0 er7.symm) ml_12_202 mv_Md_wrong kl0 cls_12 rfl ⟨Nat.le_of_ble_eq_true rfl, Nat.le_of_ble_eq_true rfl⟩ rfl rfl (Nat.le_of_ble_eq_true rfl) (by decide +kernel) ?_
    change V E g tb ρ 3 13 [(0, .ref (ρ l0)), (1, .int l1), (2, .int l2)] [.int r7.1] r7.2
    obtain ⟨x8, ex8, hf⟩ := bnd_e hf
    obtain ⟨bx8, rfl⟩ := cZ_e ex8
    cases hf
    exact v_zret (hz := bx8) X Y (by decide +kernel) rfl rfl
def lp_Md_plain_67 (tb : Tb) : Nat → Hp → Nat → Int32 → Option (Hp)
  | 0, _, _, _ => none
  | n + 1, h, l0, l1 =>
    if (6 : Int32) ≤ l1 then (
      some h
    ) else (
      (wZ tb h (lay tb l0 37) l1 (0 : Int32)).bind fun h1 =>
      nmd (l1 + (1 : Int32)) fun x2 =>
      lp_Md_plain_67 tb n h1 l0 x2
    )
def lp_Md_plain_38 (tb : Tb) : Nat → Hp → Nat → Int32 → Option (Hp)
  | 0, _, _, _ => none
  | n + 1, h, l0, l1 =>
    if (2 : Int32) ≤ l1 then (
      lp_Md_plain_67 tb fu h l0 (3 : Int32)
    ) else (
      (wZ tb h (lay tb l0 23) l1 (0 : Int32)).bind fun h1 =>
      (wI tb h1 (lay tb l0 24) ((2 : Int32) + l1) (0 : Int32)).bind fun h2 =>
      nmd (l1 + (1 : Int32)) fun x3 =>
      lp_Md_plain_38 tb n h2 l0 x3
    )
def f_Md_plain (tb : Tb) (h : Hp) (l0 : Nat) : Option (Hp) :=
  nmd (pI h l0 17 (0 : Int32)) fun h1 =>
  nmd (pI h1 l0 18 (0 : Int32)) fun h2 =>
  nmd (pI h2 l0 19 (0 : Int32)) fun h3 =>
  nmd (pI h3 l0 20 (20 : Int32)) fun h4 =>
  nmd (pI h4 l0 21 (0 : Int32)) fun h5 =>
  nmd (pI h5 l0 22 (0 : Int32)) fun h6 =>
  nmd (pI h6 l0 48 (0 : Int32)) fun h7 =>
  lp_Md_plain_38 tb fu h7 l0 (0 : Int32)
set_option maxRecDepth 4000 in
set_option maxHeartbeats 1000000 in
theorem vlp_Md_plain_67 {E : En} {g : Gl} {tb : Tb} {ρ : Nat → Nat} (ok : TbOK tb) (hi : inj tb ρ) {r : Hp} (X : CX E g tb ρ prog_14_method_17_code 2 RC12 0 0) (Y : CQ E g tb ρ none (none) r) : ∀ (n : Nat) (h : Hp) (l0 : Nat) (l1 : Int32) (kl0 : kd tb l0 = 12), lp_Md_plain_67 tb n h l0 l1 = some r → V E g tb ρ 2 67 [(0, .ref (ρ l0)), (1, .int l1)] [] h := by
  intro n
  induction n with
  | zero =>
    intro h l0 l1 kl0 hf
    rw [lp_Md_plain_67] at hf
    cases hf
  | succ n ih =>
    intro h l0 l1 kl0 hf
    rw [lp_Md_plain_67] at hf
    refine v_iload_n (pc := 67) (k := 1) X (by decide +kernel) 1 rfl ?_
    refine v_bipush (pc := 68) (n := 6) X (by decide +kernel) bi_6 ?_
    refine v_icmp_ge (pc := 70) (off := 16) (tgt := 86) X (by decide +kernel) (by decide) (fun q3 => ?_) (fun q3 => ?_)
    · rw [if_pos q3] at hf
      cases hf
      exact v_vret X Y (by decide +kernel) rfl rfl
    · rw [if_neg q3] at hf
      refine v_aload_n (pc := 73) (k := 0) X (by decide +kernel) 0 rfl ?_
      refine v_geta (pc := 74) X fl_12_63 kl0 fk_12_37 (by decide +kernel) ?_
      refine v_iload_n (pc := 77) (k := 1) X (by decide +kernel) 1 rfl ?_
      refine v_iconst (pc := 78) (n := 0) X (by decide +kernel) ic_0 ?_
      obtain ⟨h1, eh1, hf⟩ := bnd_e hf
      refine v_zast (pc := 79) X (ly_12_37 ok kl0) eh1 (by decide +kernel) ?_
      obtain ⟨x2, ex2, hf⟩ := nmd_e hf
      refine v_iinc (pc := 80) (k := 1) (n := 1) (v := x2) (lv' := [(1, .int x2), (0, .ref (ρ l0))]) X (by decide +kernel) 1 rfl (by rw [ic_1, ex2]) (Nat.le_of_ble_eq_true rfl) rfl ?_
      refine v_goto (pc := 83) (off := -16) (tgt := 67) X (by decide +kernel) (by decide) ?_
      refine v_sub [1, 0] rfl ?_
      exact ih h1 l0 x2 kl0 hf
set_option maxRecDepth 4000 in
set_option maxHeartbeats 1000000 in
theorem vlp_Md_plain_38 {E : En} {g : Gl} {tb : Tb} {ρ : Nat → Nat} (ok : TbOK tb) (hi : inj tb ρ) {r : Hp} (X : CX E g tb ρ prog_14_method_17_code 2 RC12 0 0) (Y : CQ E g tb ρ none (none) r) : ∀ (n : Nat) (h : Hp) (l0 : Nat) (l1 : Int32) (kl0 : kd tb l0 = 12), lp_Md_plain_38 tb n h l0 l1 = some r → V E g tb ρ 2 38 [(0, .ref (ρ l0)), (1, .int l1)] [] h := by
  intro n
  induction n with
  | zero =>
    intro h l0 l1 kl0 hf
    rw [lp_Md_plain_38] at hf
    cases hf
  | succ n ih =>
    intro h l0 l1 kl0 hf
    rw [lp_Md_plain_38] at hf
    refine v_iload_n (pc := 38) (k := 1) X (by decide +kernel) 1 rfl ?_
    refine v_iconst (pc := 39) (n := 2) X (by decide +kernel) ic_2 ?_
    refine v_icmp_ge (pc := 40) (off := 25) (tgt := 65) X (by decide +kernel) (by decide) (fun q4 => ?_) (fun q4 => ?_)
    · rw [if_pos q4] at hf
      refine v_iconst (pc := 65) (n := 3) X (by decide +kernel) ic_3 ?_
      refine v_istore_n (pc := 66) (k := 1) (lv' := [(1, .int (3 : Int32)), (0, .ref (ρ l0))]) X (by decide +kernel) (Nat.le_of_ble_eq_true rfl) rfl ?_
      refine v_sub [1, 0] rfl ?_
      exact vlp_Md_plain_67 ok hi X Y fu h l0 (3 : Int32) kl0 hf
    · rw [if_neg q4] at hf
      refine v_aload_n (pc := 43) (k := 0) X (by decide +kernel) 0 rfl ?_
      refine v_geta (pc := 44) X fl_12_20 kl0 fk_12_23 (by decide +kernel) ?_
      refine v_iload_n (pc := 47) (k := 1) X (by decide +kernel) 1 rfl ?_
      refine v_iconst (pc := 48) (n := 0) X (by decide +kernel) ic_0 ?_
      obtain ⟨h1, eh1, hf⟩ := bnd_e hf
      refine v_zast (pc := 49) X (ly_12_23 ok kl0) eh1 (by decide +kernel) ?_
      refine v_aload_n (pc := 50) (k := 0) X (by decide +kernel) 0 rfl ?_
      refine v_geta (pc := 51) X fl_12_24 kl0 fk_12_24 (by decide +kernel) ?_
      refine v_iconst (pc := 54) (n := 2) X (by decide +kernel) ic_2 ?_
      refine v_iload_n (pc := 55) (k := 1) X (by decide +kernel) 1 rfl ?_
      refine v_iadd (pc := 56) X (by decide +kernel) ?_
      refine v_iconst (pc := 57) (n := 0) X (by decide +kernel) ic_0 ?_
      obtain ⟨h2, eh2, hf⟩ := bnd_e hf
      refine v_iast (pc := 58) X (ly_12_24 ok kl0) eh2 (by decide +kernel) ?_
      obtain ⟨x3, ex3, hf⟩ := nmd_e hf
      refine v_iinc (pc := 59) (k := 1) (n := 1) (v := x3) (lv' := [(1, .int x3), (0, .ref (ρ l0))]) X (by decide +kernel) 1 rfl (by rw [ic_1, ex3]) (Nat.le_of_ble_eq_true rfl) rfl ?_
      refine v_goto (pc := 62) (off := -24) (tgt := 38) X (by decide +kernel) (by decide) ?_
      refine v_sub [1, 0] rfl ?_
      exact ih h2 l0 x3 kl0 hf
set_option maxRecDepth 4000 in
set_option maxHeartbeats 1000000 in
theorem mt_Md_plain {g : Gl} {tb : Tb} {ρ : Nat → Nat} (ok : TbOK tb) (hi : inj tb ρ) {h : Hp} {l0 : Nat} (kl0 : kd tb l0 = 12) {r : Hp} (hf : f_Md_plain tb h l0 = some r) : MT g y_Md_plain prog_14_method_17_code 2 none 0 0 tb ρ [.ref (ρ l0)] h (none) r := by
  refine mt_intro (by decide +kernel) ok hi (Nat.le_of_ble_eq_true rfl) (fun E X Y => ?_)
  change V E g tb ρ 2 0 [(0, .ref (ρ l0))] [] h
  unfold f_Md_plain at hf
  refine v_aload_n (pc := 0) (k := 0) X (by decide +kernel) 0 rfl ?_
  refine v_iconst (pc := 1) (n := 0) X (by decide +kernel) ic_0 ?_
  obtain ⟨h1, eh1, hf⟩ := nmd_e hf
  refine v_puti (pc := 2) X fp_12_222 kl0 rfl (by decide +kernel) eh1 ?_
  refine v_aload_n (pc := 5) (k := 0) X (by decide +kernel) 0 rfl ?_
  refine v_iconst (pc := 6) (n := 0) X (by decide +kernel) ic_0 ?_
  obtain ⟨h2, eh2, hf⟩ := nmd_e hf
  refine v_puti (pc := 7) X fp_12_225 kl0 rfl (by decide +kernel) eh2 ?_
  refine v_aload_n (pc := 10) (k := 0) X (by decide +kernel) 0 rfl ?_
  refine v_iconst (pc := 11) (n := 0) X (by decide +kernel) ic_0 ?_
  obtain ⟨h3, eh3, hf⟩ := nmd_e hf
  refine v_puti (pc := 12) X fp_12_228 kl0 rfl (by decide +kernel) eh3 ?_
  refine v_aload_n (pc := 15) (k := 0) X (by decide +kernel) 0 rfl ?_
  refine v_bipush (pc := 16) (n := 20) X (by decide +kernel) bi_20 ?_
  obtain ⟨h4, eh4, hf⟩ := nmd_e hf
  refine v_puti (pc := 18) X fp_12_231 kl0 rfl (by decide +kernel) eh4 ?_
  refine v_aload_n (pc := 21) (k := 0) X (by decide +kernel) 0 rfl ?_
  refine v_iconst (pc := 22) (n := 0) X (by decide +kernel) ic_0 ?_
  obtain ⟨h5, eh5, hf⟩ := nmd_e hf
  refine v_puti (pc := 23) X fp_12_234 kl0 rfl (by decide +kernel) eh5 ?_
  refine v_aload_n (pc := 26) (k := 0) X (by decide +kernel) 0 rfl ?_
  refine v_iconst (pc := 27) (n := 0) X (by decide +kernel) ic_0 ?_
  obtain ⟨h6, eh6, hf⟩ := nmd_e hf
  refine v_puti (pc := 28) X fp_12_237 kl0 rfl (by decide +kernel) eh6 ?_
  refine v_aload_n (pc := 31) (k := 0) X (by decide +kernel) 0 rfl ?_
  refine v_iconst (pc := 32) (n := 0) X (by decide +kernel) ic_0 ?_
  obtain ⟨h7, eh7, hf⟩ := nmd_e hf
  refine v_puti (pc := 33) X fp_12_240 kl0 rfl (by decide +kernel) eh7 ?_
  refine v_iconst (pc := 36) (n := 0) X (by decide +kernel) ic_0 ?_
  refine v_istore_n (pc := 37) (k := 1) (lv' := [(1, .int (0 : Int32)), (0, .ref (ρ l0))]) X (by decide +kernel) (Nat.le_of_ble_eq_true rfl) rfl ?_
  refine v_sub [1, 0] rfl ?_
  exact vlp_Md_plain_38 ok hi X Y fu h7 l0 (0 : Int32) kl0 hf
def lp_Md_copies_2 (tb : Tb) : Nat → Hp → Nat → Int32 → Int32 → Option (Hp)
  | 0, _, _, _, _ => none
  | n + 1, h, l0, l1, l2 =>
    if l1 ≤ l2 then (
      some h
    ) else (
      (rI tb h l0 (l1 + l2)).bind fun x1 =>
      (wI tb h l0 l2 x1).bind fun h2 =>
      nmd (l2 + (1 : Int32)) fun x3 =>
      lp_Md_copies_2 tb n h2 l0 l1 x3
    )
def f_Md_copies (tb : Tb) (h : Hp) (l0 : Nat) (l1 : Int32) : Option (Hp) :=
  lp_Md_copies_2 tb fu h l0 l1 (0 : Int32)
set_option maxRecDepth 4000 in
set_option maxHeartbeats 1000000 in
theorem vlp_Md_copies_2 {E : En} {g : Gl} {tb : Tb} {ρ : Nat → Nat} (ok : TbOK tb) (hi : inj tb ρ) {r : Hp} (X : CX E g tb ρ prog_14_method_18_code 3 RC12 0 0) (Y : CQ E g tb ρ none (none) r) : ∀ (n : Nat) (h : Hp) (l0 : Nat) (l1 : Int32) (l2 : Int32) (kl0 : kd tb l0 = 20), lp_Md_copies_2 tb n h l0 l1 l2 = some r → V E g tb ρ 3 2 [(0, .ref (ρ l0)), (1, .int l1), (2, .int l2)] [] h := by
  intro n
  induction n with
  | zero =>
    intro h l0 l1 l2 kl0 hf
    rw [lp_Md_copies_2] at hf
    cases hf
  | succ n ih =>
    intro h l0 l1 l2 kl0 hf
    rw [lp_Md_copies_2] at hf
    refine v_iload_n (pc := 2) (k := 2) X (by decide +kernel) 2 rfl ?_
    refine v_iload_n (pc := 3) (k := 1) X (by decide +kernel) 1 rfl ?_
    refine v_icmp_ge (pc := 4) (off := 17) (tgt := 21) X (by decide +kernel) (by decide) (fun q4 => ?_) (fun q4 => ?_)
    · rw [if_pos q4] at hf
      cases hf
      exact v_vret X Y (by decide +kernel) rfl rfl
    · rw [if_neg q4] at hf
      refine v_aload_n (pc := 7) (k := 0) X (by decide +kernel) 0 rfl ?_
      refine v_iload_n (pc := 8) (k := 2) X (by decide +kernel) 2 rfl ?_
      refine v_aload_n (pc := 9) (k := 0) X (by decide +kernel) 0 rfl ?_
      refine v_iload_n (pc := 10) (k := 1) X (by decide +kernel) 1 rfl ?_
      refine v_iload_n (pc := 11) (k := 2) X (by decide +kernel) 2 rfl ?_
      refine v_iadd (pc := 12) X (by decide +kernel) ?_
      obtain ⟨x1, ex1, hf⟩ := bnd_e hf
      refine v_iald (pc := 13) X kl0 ex1 (by decide +kernel) ?_
      obtain ⟨h2, eh2, hf⟩ := bnd_e hf
      refine v_iast (pc := 14) X kl0 eh2 (by decide +kernel) ?_
      obtain ⟨x3, ex3, hf⟩ := nmd_e hf
      refine v_iinc (pc := 15) (k := 2) (n := 1) (v := x3) (lv' := [(2, .int x3), (0, .ref (ρ l0)), (1, .int l1)]) X (by decide +kernel) 2 rfl (by rw [ic_1, ex3]) (Nat.le_of_ble_eq_true rfl) rfl ?_
      refine v_goto (pc := 18) (off := -16) (tgt := 2) X (by decide +kernel) (by decide) ?_
      refine v_sub [1, 2, 0] rfl ?_
      exact ih h2 l0 l1 x3 kl0 hf
set_option maxRecDepth 4000 in
set_option maxHeartbeats 1000000 in
theorem mt_Md_copies {g : Gl} {tb : Tb} {ρ : Nat → Nat} (ok : TbOK tb) (hi : inj tb ρ) {h : Hp} {l0 : Nat} {l1 : Int32} (kl0 : kd tb l0 = 20) {r : Hp} (hf : f_Md_copies tb h l0 l1 = some r) : MT g y_Md_copies prog_14_method_18_code 3 none 0 0 tb ρ [.ref (ρ l0), .int l1] h (none) r := by
  refine mt_intro (by decide +kernel) ok hi (Nat.le_of_ble_eq_true rfl) (fun E X Y => ?_)
  change V E g tb ρ 3 0 [(0, .ref (ρ l0)), (1, .int l1)] [] h
  unfold f_Md_copies at hf
  refine v_iconst (pc := 0) (n := 0) X (by decide +kernel) ic_0 ?_
  refine v_istore_n (pc := 1) (k := 2) (lv' := [(2, .int (0 : Int32)), (0, .ref (ρ l0)), (1, .int l1)]) X (by decide +kernel) (Nat.le_of_ble_eq_true rfl) rfl ?_
  refine v_sub [1, 2, 0] rfl ?_
  exact vlp_Md_copies_2 ok hi X Y fu h l0 l1 (0 : Int32) kl0 hf
def lp_Md_atFirst_98 (tb : Tb) : Nat → Hp → Nat → Int32 → Int32 → Option (Hp)
  | 0, _, _, _, _ => none
  | n + 1, h, l0, l1, l2 =>
    if (6 : Int32) ≤ l2 then (
      (wI tb h (lay tb l0 61) l1 (0 : Int32)).bind fun h1 =>
      (wI tb h1 (lay tb l0 62) l1 (0 : Int32)).bind fun h2 =>
      (wI tb h2 (lay tb l0 63) l1 (0 : Int32)).bind fun h3 =>
      (wI tb h3 (lay tb l0 64) l1 (0 : Int32)).bind fun h4 =>
      (wI tb h4 (lay tb l0 65) l1 (0 : Int32)).bind fun h5 =>
      (wI tb h5 (lay tb l0 66) l1 (0 : Int32)).bind fun h6 =>
      some h6
    ) else (
      (rI tb h (lay tb l0 27) l2).bind fun x7 =>
      (wI tb h (lay tb l0 60) (((6 : Int32) * l1) + l2) x7).bind fun h8 =>
      nmd (l2 + (1 : Int32)) fun x9 =>
      lp_Md_atFirst_98 tb n h8 l0 l1 x9
    )
def lp_Md_atFirst_2 (tb : Tb) : Nat → Hp → Nat → Int32 → Int32 → Option (Hp)
  | 0, _, _, _, _ => none
  | n + 1, h, l0, l1, l2 =>
    if (6 : Int32) ≤ l2 then (
      lp_Md_atFirst_98 tb fu h l0 l1 (0 : Int32)
    ) else (
      (rI tb h (lay tb l0 31) l2).bind fun x1 =>
      (wI tb h (lay tb l0 54) (((6 : Int32) * l1) + l2) x1).bind fun h2 =>
      (rI tb h2 (lay tb l0 32) l2).bind fun x3 =>
      (wI tb h2 (lay tb l0 55) (((6 : Int32) * l1) + l2) x3).bind fun h4 =>
      (wI tb h4 (lay tb l0 56) (((6 : Int32) * l1) + l2) (-1 : Int32)).bind fun h5 =>
      (wI tb h5 (lay tb l0 57) (((6 : Int32) * l1) + l2) (0 : Int32)).bind fun h6 =>
      (wZ tb h6 (lay tb l0 58) (((6 : Int32) * l1) + l2) (1 : Int32)).bind fun h7 =>
      (wI tb h7 (lay tb l0 59) (((6 : Int32) * l1) + l2) (0 : Int32)).bind fun h8 =>
      nmd (l2 + (1 : Int32)) fun x9 =>
      lp_Md_atFirst_2 tb n h8 l0 l1 x9
    )
def f_Md_atFirst (tb : Tb) (h : Hp) (l0 : Nat) (l1 : Int32) : Option (Hp) :=
  lp_Md_atFirst_2 tb fu h l0 l1 (0 : Int32)
set_option maxRecDepth 4000 in
set_option maxHeartbeats 1000000 in
theorem vlp_Md_atFirst_98 {E : En} {g : Gl} {tb : Tb} {ρ : Nat → Nat} (ok : TbOK tb) (hi : inj tb ρ) {r : Hp} (X : CX E g tb ρ prog_14_method_47_code 3 RC12 0 0) (Y : CQ E g tb ρ none (none) r) : ∀ (n : Nat) (h : Hp) (l0 : Nat) (l1 : Int32) (l2 : Int32) (kl0 : kd tb l0 = 12), lp_Md_atFirst_98 tb n h l0 l1 l2 = some r → V E g tb ρ 3 98 [(0, .ref (ρ l0)), (1, .int l1), (2, .int l2)] [] h := by
  intro n
  induction n with
  | zero =>
    intro h l0 l1 l2 kl0 hf
    rw [lp_Md_atFirst_98] at hf
    cases hf
  | succ n ih =>
    intro h l0 l1 l2 kl0 hf
    rw [lp_Md_atFirst_98] at hf
    refine v_iload_n (pc := 98) (k := 2) X (by decide +kernel) 2 rfl ?_
    refine v_bipush (pc := 99) (n := 6) X (by decide +kernel) bi_6 ?_
    refine v_icmp_ge (pc := 101) (off := 26) (tgt := 127) X (by decide +kernel) (by decide) (fun q10 => ?_) (fun q10 => ?_)
    · rw [if_pos q10] at hf
      refine v_aload_n (pc := 127) (k := 0) X (by decide +kernel) 0 rfl ?_
      refine v_geta (pc := 128) X fl_12_115 kl0 fk_12_61 (by decide +kernel) ?_
      refine v_iload_n (pc := 131) (k := 1) X (by decide +kernel) 1 rfl ?_
      refine v_iconst (pc := 132) (n := 0) X (by decide +kernel) ic_0 ?_
      obtain ⟨h1, eh1, hf⟩ := bnd_e hf
      refine v_iast (pc := 133) X (ly_12_61 ok kl0) eh1 (by decide +kernel) ?_
      refine v_aload_n (pc := 134) (k := 0) X (by decide +kernel) 0 rfl ?_
      refine v_geta (pc := 135) X fl_12_118 kl0 fk_12_62 (by decide +kernel) ?_
      refine v_iload_n (pc := 138) (k := 1) X (by decide +kernel) 1 rfl ?_
      refine v_iconst (pc := 139) (n := 0) X (by decide +kernel) ic_0 ?_
      obtain ⟨h2, eh2, hf⟩ := bnd_e hf
      refine v_iast (pc := 140) X (ly_12_62 ok kl0) eh2 (by decide +kernel) ?_
      refine v_aload_n (pc := 141) (k := 0) X (by decide +kernel) 0 rfl ?_
      refine v_geta (pc := 142) X fl_12_121 kl0 fk_12_63 (by decide +kernel) ?_
      refine v_iload_n (pc := 145) (k := 1) X (by decide +kernel) 1 rfl ?_
      refine v_iconst (pc := 146) (n := 0) X (by decide +kernel) ic_0 ?_
      obtain ⟨h3, eh3, hf⟩ := bnd_e hf
      refine v_iast (pc := 147) X (ly_12_63 ok kl0) eh3 (by decide +kernel) ?_
      refine v_aload_n (pc := 148) (k := 0) X (by decide +kernel) 0 rfl ?_
      refine v_geta (pc := 149) X fl_12_124 kl0 fk_12_64 (by decide +kernel) ?_
      refine v_iload_n (pc := 152) (k := 1) X (by decide +kernel) 1 rfl ?_
      refine v_iconst (pc := 153) (n := 0) X (by decide +kernel) ic_0 ?_
      obtain ⟨h4, eh4, hf⟩ := bnd_e hf
      refine v_iast (pc := 154) X (ly_12_64 ok kl0) eh4 (by decide +kernel) ?_
      refine v_aload_n (pc := 155) (k := 0) X (by decide +kernel) 0 rfl ?_
      refine v_geta (pc := 156) X fl_12_127 kl0 fk_12_65 (by decide +kernel) ?_
      refine v_iload_n (pc := 159) (k := 1) X (by decide +kernel) 1 rfl ?_
      refine v_iconst (pc := 160) (n := 0) X (by decide +kernel) ic_0 ?_
      obtain ⟨h5, eh5, hf⟩ := bnd_e hf
      refine v_iast (pc := 161) X (ly_12_65 ok kl0) eh5 (by decide +kernel) ?_
      refine v_aload_n (pc := 162) (k := 0) X (by decide +kernel) 0 rfl ?_
      refine v_geta (pc := 163) X fl_12_130 kl0 fk_12_66 (by decide +kernel) ?_
      refine v_iload_n (pc := 166) (k := 1) X (by decide +kernel) 1 rfl ?_
      refine v_iconst (pc := 167) (n := 0) X (by decide +kernel) ic_0 ?_
      obtain ⟨h6, eh6, hf⟩ := bnd_e hf
      refine v_iast (pc := 168) X (ly_12_66 ok kl0) eh6 (by decide +kernel) ?_
      cases hf
      exact v_vret X Y (by decide +kernel) rfl rfl
    · rw [if_neg q10] at hf
      refine v_aload_n (pc := 104) (k := 0) X (by decide +kernel) 0 rfl ?_
      refine v_geta (pc := 105) X fl_12_112 kl0 fk_12_60 (by decide +kernel) ?_
      refine v_bipush (pc := 108) (n := 6) X (by decide +kernel) bi_6 ?_
      refine v_iload_n (pc := 110) (k := 1) X (by decide +kernel) 1 rfl ?_
      refine v_imul (pc := 111) X (by decide +kernel) ?_
      refine v_iload_n (pc := 112) (k := 2) X (by decide +kernel) 2 rfl ?_
      refine v_iadd (pc := 113) X (by decide +kernel) ?_
      refine v_aload_n (pc := 114) (k := 0) X (by decide +kernel) 0 rfl ?_
      refine v_geta (pc := 115) X fl_12_33 kl0 fk_12_27 (by decide +kernel) ?_
      refine v_iload_n (pc := 118) (k := 2) X (by decide +kernel) 2 rfl ?_
      obtain ⟨x7, ex7, hf⟩ := bnd_e hf
      refine v_iald (pc := 119) X (ly_12_27 ok kl0) ex7 (by decide +kernel) ?_
      obtain ⟨h8, eh8, hf⟩ := bnd_e hf
      refine v_iast (pc := 120) X (ly_12_60 ok kl0) eh8 (by decide +kernel) ?_
      obtain ⟨x9, ex9, hf⟩ := nmd_e hf
      refine v_iinc (pc := 121) (k := 2) (n := 1) (v := x9) (lv' := [(2, .int x9), (0, .ref (ρ l0)), (1, .int l1)]) X (by decide +kernel) 2 rfl (by rw [ic_1, ex9]) (Nat.le_of_ble_eq_true rfl) rfl ?_
      refine v_goto (pc := 124) (off := -26) (tgt := 98) X (by decide +kernel) (by decide) ?_
      refine v_sub [1, 2, 0] rfl ?_
      exact ih h8 l0 l1 x9 kl0 hf
set_option maxRecDepth 4000 in
set_option maxHeartbeats 1000000 in
theorem vlp_Md_atFirst_2 {E : En} {g : Gl} {tb : Tb} {ρ : Nat → Nat} (ok : TbOK tb) (hi : inj tb ρ) {r : Hp} (X : CX E g tb ρ prog_14_method_47_code 3 RC12 0 0) (Y : CQ E g tb ρ none (none) r) : ∀ (n : Nat) (h : Hp) (l0 : Nat) (l1 : Int32) (l2 : Int32) (kl0 : kd tb l0 = 12), lp_Md_atFirst_2 tb n h l0 l1 l2 = some r → V E g tb ρ 3 2 [(0, .ref (ρ l0)), (1, .int l1), (2, .int l2)] [] h := by
  intro n
  induction n with
  | zero =>
    intro h l0 l1 l2 kl0 hf
    rw [lp_Md_atFirst_2] at hf
    cases hf
  | succ n ih =>
    intro h l0 l1 l2 kl0 hf
    rw [lp_Md_atFirst_2] at hf
    refine v_iload_n (pc := 2) (k := 2) X (by decide +kernel) 2 rfl ?_
    refine v_bipush (pc := 3) (n := 6) X (by decide +kernel) bi_6 ?_
    refine v_icmp_ge (pc := 5) (off := 91) (tgt := 96) X (by decide +kernel) (by decide) (fun q10 => ?_) (fun q10 => ?_)
    · rw [if_pos q10] at hf
      refine v_iconst (pc := 96) (n := 0) X (by decide +kernel) ic_0 ?_
      refine v_istore_n (pc := 97) (k := 2) (lv' := [(2, .int (0 : Int32)), (0, .ref (ρ l0)), (1, .int l1)]) X (by decide +kernel) (Nat.le_of_ble_eq_true rfl) rfl ?_
      refine v_sub [1, 2, 0] rfl ?_
      exact vlp_Md_atFirst_98 ok hi X Y fu h l0 l1 (0 : Int32) kl0 hf
    · rw [if_neg q10] at hf
      refine v_aload_n (pc := 8) (k := 0) X (by decide +kernel) 0 rfl ?_
      refine v_geta (pc := 9) X fl_12_94 kl0 fk_12_54 (by decide +kernel) ?_
      refine v_bipush (pc := 12) (n := 6) X (by decide +kernel) bi_6 ?_
      refine v_iload_n (pc := 14) (k := 1) X (by decide +kernel) 1 rfl ?_
      refine v_imul (pc := 15) X (by decide +kernel) ?_
      refine v_iload_n (pc := 16) (k := 2) X (by decide +kernel) 2 rfl ?_
      refine v_iadd (pc := 17) X (by decide +kernel) ?_
      refine v_aload_n (pc := 18) (k := 0) X (by decide +kernel) 0 rfl ?_
      refine v_geta (pc := 19) X fl_12_45 kl0 fk_12_31 (by decide +kernel) ?_
      refine v_iload_n (pc := 22) (k := 2) X (by decide +kernel) 2 rfl ?_
      obtain ⟨x1, ex1, hf⟩ := bnd_e hf
      refine v_iald (pc := 23) X (ly_12_31 ok kl0) ex1 (by decide +kernel) ?_
      obtain ⟨h2, eh2, hf⟩ := bnd_e hf
      refine v_iast (pc := 24) X (ly_12_54 ok kl0) eh2 (by decide +kernel) ?_
      refine v_aload_n (pc := 25) (k := 0) X (by decide +kernel) 0 rfl ?_
      refine v_geta (pc := 26) X fl_12_97 kl0 fk_12_55 (by decide +kernel) ?_
      refine v_bipush (pc := 29) (n := 6) X (by decide +kernel) bi_6 ?_
      refine v_iload_n (pc := 31) (k := 1) X (by decide +kernel) 1 rfl ?_
      refine v_imul (pc := 32) X (by decide +kernel) ?_
      refine v_iload_n (pc := 33) (k := 2) X (by decide +kernel) 2 rfl ?_
      refine v_iadd (pc := 34) X (by decide +kernel) ?_
      refine v_aload_n (pc := 35) (k := 0) X (by decide +kernel) 0 rfl ?_
      refine v_geta (pc := 36) X fl_12_48 kl0 fk_12_32 (by decide +kernel) ?_
      refine v_iload_n (pc := 39) (k := 2) X (by decide +kernel) 2 rfl ?_
      obtain ⟨x3, ex3, hf⟩ := bnd_e hf
      refine v_iald (pc := 40) X (ly_12_32 ok kl0) ex3 (by decide +kernel) ?_
      obtain ⟨h4, eh4, hf⟩ := bnd_e hf
      refine v_iast (pc := 41) X (ly_12_55 ok kl0) eh4 (by decide +kernel) ?_
      refine v_aload_n (pc := 42) (k := 0) X (by decide +kernel) 0 rfl ?_
      refine v_geta (pc := 43) X fl_12_100 kl0 fk_12_56 (by decide +kernel) ?_
      refine v_bipush (pc := 46) (n := 6) X (by decide +kernel) bi_6 ?_
      refine v_iload_n (pc := 48) (k := 1) X (by decide +kernel) 1 rfl ?_
      refine v_imul (pc := 49) X (by decide +kernel) ?_
      refine v_iload_n (pc := 50) (k := 2) X (by decide +kernel) 2 rfl ?_
      refine v_iadd (pc := 51) X (by decide +kernel) ?_
      refine v_iconst (pc := 52) (n := -1) X (by decide +kernel) ic_m1 ?_
      obtain ⟨h5, eh5, hf⟩ := bnd_e hf
      refine v_iast (pc := 53) X (ly_12_56 ok kl0) eh5 (by decide +kernel) ?_
      refine v_aload_n (pc := 54) (k := 0) X (by decide +kernel) 0 rfl ?_
      refine v_geta (pc := 55) X fl_12_103 kl0 fk_12_57 (by decide +kernel) ?_
      refine v_bipush (pc := 58) (n := 6) X (by decide +kernel) bi_6 ?_
      refine v_iload_n (pc := 60) (k := 1) X (by decide +kernel) 1 rfl ?_
      refine v_imul (pc := 61) X (by decide +kernel) ?_
      refine v_iload_n (pc := 62) (k := 2) X (by decide +kernel) 2 rfl ?_
      refine v_iadd (pc := 63) X (by decide +kernel) ?_
      refine v_iconst (pc := 64) (n := 0) X (by decide +kernel) ic_0 ?_
      obtain ⟨h6, eh6, hf⟩ := bnd_e hf
      refine v_iast (pc := 65) X (ly_12_57 ok kl0) eh6 (by decide +kernel) ?_
      refine v_aload_n (pc := 66) (k := 0) X (by decide +kernel) 0 rfl ?_
      refine v_geta (pc := 67) X fl_12_106 kl0 fk_12_58 (by decide +kernel) ?_
      refine v_bipush (pc := 70) (n := 6) X (by decide +kernel) bi_6 ?_
      refine v_iload_n (pc := 72) (k := 1) X (by decide +kernel) 1 rfl ?_
      refine v_imul (pc := 73) X (by decide +kernel) ?_
      refine v_iload_n (pc := 74) (k := 2) X (by decide +kernel) 2 rfl ?_
      refine v_iadd (pc := 75) X (by decide +kernel) ?_
      refine v_iconst (pc := 76) (n := 1) X (by decide +kernel) ic_1 ?_
      obtain ⟨h7, eh7, hf⟩ := bnd_e hf
      refine v_zast (pc := 77) X (ly_12_58 ok kl0) eh7 (by decide +kernel) ?_
      refine v_aload_n (pc := 78) (k := 0) X (by decide +kernel) 0 rfl ?_
      refine v_geta (pc := 79) X fl_12_109 kl0 fk_12_59 (by decide +kernel) ?_
      refine v_bipush (pc := 82) (n := 6) X (by decide +kernel) bi_6 ?_
      refine v_iload_n (pc := 84) (k := 1) X (by decide +kernel) 1 rfl ?_
      refine v_imul (pc := 85) X (by decide +kernel) ?_
      refine v_iload_n (pc := 86) (k := 2) X (by decide +kernel) 2 rfl ?_
      refine v_iadd (pc := 87) X (by decide +kernel) ?_
      refine v_iconst (pc := 88) (n := 0) X (by decide +kernel) ic_0 ?_
      obtain ⟨h8, eh8, hf⟩ := bnd_e hf
      refine v_iast (pc := 89) X (ly_12_59 ok kl0) eh8 (by decide +kernel) ?_
      obtain ⟨x9, ex9, hf⟩ := nmd_e hf
      refine v_iinc (pc := 90) (k := 2) (n := 1) (v := x9) (lv' := [(2, .int x9), (0, .ref (ρ l0)), (1, .int l1)]) X (by decide +kernel) 2 rfl (by rw [ic_1, ex9]) (Nat.le_of_ble_eq_true rfl) rfl ?_
      refine v_goto (pc := 93) (off := -91) (tgt := 2) X (by decide +kernel) (by decide) ?_
      refine v_sub [1, 2, 0] rfl ?_
      exact ih h8 l0 l1 x9 kl0 hf
set_option maxRecDepth 4000 in
set_option maxHeartbeats 1000000 in
theorem mt_Md_atFirst {g : Gl} {tb : Tb} {ρ : Nat → Nat} (ok : TbOK tb) (hi : inj tb ρ) {h : Hp} {l0 : Nat} {l1 : Int32} (kl0 : kd tb l0 = 12) {r : Hp} (hf : f_Md_atFirst tb h l0 l1 = some r) : MT g y_Md_atFirst prog_14_method_47_code 3 none 0 0 tb ρ [.ref (ρ l0), .int l1] h (none) r := by
  refine mt_intro (by decide +kernel) ok hi (Nat.le_of_ble_eq_true rfl) (fun E X Y => ?_)
  change V E g tb ρ 3 0 [(0, .ref (ρ l0)), (1, .int l1)] [] h
  unfold f_Md_atFirst at hf
  refine v_iconst (pc := 0) (n := 0) X (by decide +kernel) ic_0 ?_
  refine v_istore_n (pc := 1) (k := 2) (lv' := [(2, .int (0 : Int32)), (0, .ref (ρ l0)), (1, .int l1)]) X (by decide +kernel) (Nat.le_of_ble_eq_true rfl) rfl ?_
  refine v_sub [1, 2, 0] rfl ?_
  exact vlp_Md_atFirst_2 ok hi X Y fu h l0 l1 (0 : Int32) kl0 hf
def f_Md_plainTried (tb : Tb) (h : Hp) (l0 : Nat) : Hp :=
  nmd (pI h l0 69 (0 : Int32)) fun h1 =>
  nmd (pI h1 l0 70 (0 : Int32)) fun h2 =>
  nmd (pI h2 l0 71 (0 : Int32)) fun h3 =>
  nmd (pI h3 l0 72 (0 : Int32)) fun h4 =>
  h4
set_option maxRecDepth 4000 in
set_option maxHeartbeats 1000000 in
theorem mt_Md_plainTried {g : Gl} {tb : Tb} {ρ : Nat → Nat} (ok : TbOK tb) (hi : inj tb ρ) {h : Hp} {l0 : Nat} (kl0 : kd tb l0 = 12) {r : Hp} (hf : f_Md_plainTried tb h l0 = r) : MT g y_Md_plainTried prog_14_method_48_code 1 none 0 0 tb ρ [.ref (ρ l0)] h (none) r := by
  refine mt_intro (by decide +kernel) ok hi (Nat.le_of_ble_eq_true rfl) (fun E X Y => ?_)
  change V E g tb ρ 1 0 [(0, .ref (ρ l0))] [] h
  unfold f_Md_plainTried at hf
  refine v_aload_n (pc := 0) (k := 0) X (by decide +kernel) 0 rfl ?_
  refine v_iconst (pc := 1) (n := 0) X (by decide +kernel) ic_0 ?_
  obtain ⟨h1, eh1, hf⟩ := nmd_e hf
  refine v_putz (pc := 2) X fp_12_386 kl0 rfl rfl (by decide +kernel) eh1 ?_
  refine v_aload_n (pc := 5) (k := 0) X (by decide +kernel) 0 rfl ?_
  refine v_iconst (pc := 6) (n := 0) X (by decide +kernel) ic_0 ?_
  obtain ⟨h2, eh2, hf⟩ := nmd_e hf
  refine v_putz (pc := 7) X fp_12_389 kl0 rfl rfl (by decide +kernel) eh2 ?_
  refine v_aload_n (pc := 10) (k := 0) X (by decide +kernel) 0 rfl ?_
  refine v_iconst (pc := 11) (n := 0) X (by decide +kernel) ic_0 ?_
  obtain ⟨h3, eh3, hf⟩ := nmd_e hf
  refine v_putz (pc := 12) X fp_12_392 kl0 rfl rfl (by decide +kernel) eh3 ?_
  refine v_aload_n (pc := 15) (k := 0) X (by decide +kernel) 0 rfl ?_
  refine v_iconst (pc := 16) (n := 0) X (by decide +kernel) ic_0 ?_
  obtain ⟨h4, eh4, hf⟩ := nmd_e hf
  refine v_putz (pc := 17) X fp_12_395 kl0 rfl rfl (by decide +kernel) eh4 ?_
  cases hf
  exact v_vret X Y (by decide +kernel) rfl rfl
def f_Md_begin (tb : Tb) (h : Hp) (l0 : Nat) : Option (Hp) :=
  (f_Md_atFirst tb h l0 (0 : Int32)).bind fun r1 =>
  (rI tb r1 (lay tb l0 24) (1 : Int32)).bind fun x2 =>
  nmd (pL r1 l0 67 (x2.toInt64)) fun h3 =>
  nmd (f_Md_plainTried tb h3 l0) fun r4 =>
  nmd (pI r4 l0 74 (0 : Int32)) fun h5 =>
  nmd (pI h5 l0 75 (-1 : Int32)) fun h6 =>
  nmd (pI h6 l0 78 (0 : Int32)) fun h7 =>
  nmd (pI h7 l0 80 (0 : Int32)) fun h8 =>
  some h8
set_option maxRecDepth 4000 in
set_option maxHeartbeats 1000000 in
theorem mt_Md_begin {g : Gl} {tb : Tb} {ρ : Nat → Nat} (ok : TbOK tb) (hi : inj tb ρ) {h : Hp} {l0 : Nat} (kl0 : kd tb l0 = 12) {r : Hp} (hf : f_Md_begin tb h l0 = some r) : MT g y_Md_begin prog_14_method_46_code 1 none 1 22 tb ρ [.ref (ρ l0)] h (none) r := by
  refine mt_intro (by decide +kernel) ok hi (Nat.le_of_ble_eq_true rfl) (fun E X Y => ?_)
  change V E g tb ρ 1 0 [(0, .ref (ρ l0))] [] h
  unfold f_Md_begin at hf
  refine v_aload_n (pc := 0) (k := 0) X (by decide +kernel) 0 rfl ?_
  refine v_iconst (pc := 1) (n := 0) X (by decide +kernel) ic_0 ?_
  obtain ⟨r1, er1, hf⟩ := bnd_e hf
  refine v_callV (pc := 2) (As := [.int (0 : Int32)]) (rest := []) X (mt_Md_atFirst ok hi kl0 er1) ml_12_367 mv_Md_atFirst kl0 cls_12 rfl ⟨Nat.le_of_ble_eq_true rfl, Nat.le_of_ble_eq_true rfl⟩ rfl rfl (Nat.le_of_ble_eq_true rfl) (by decide +kernel) ?_
  change V E g tb ρ 1 5 [(0, .ref (ρ l0))] [] r1
  refine v_aload_n (pc := 5) (k := 0) X (by decide +kernel) 0 rfl ?_
  refine v_aload_n (pc := 6) (k := 0) X (by decide +kernel) 0 rfl ?_
  refine v_geta (pc := 7) X fl_12_24 kl0 fk_12_24 (by decide +kernel) ?_
  refine v_iconst (pc := 10) (n := 1) X (by decide +kernel) ic_1 ?_
  obtain ⟨x2, ex2, hf⟩ := bnd_e hf
  refine v_iald (pc := 11) X (ly_12_24 ok kl0) ex2 (by decide +kernel) ?_
  refine v_i2l (pc := 12) X (by decide +kernel) ?_
  obtain ⟨h3, eh3, hf⟩ := nmd_e hf
  refine v_putl (pc := 13) X fp_12_370 kl0 rfl (by decide +kernel) eh3 ?_
  refine v_aload_n (pc := 16) (k := 0) X (by decide +kernel) 0 rfl ?_
  obtain ⟨r4, er4, hf⟩ := nmd_e hf
  refine v_callV (pc := 17) (As := []) (rest := []) X (mt_Md_plainTried ok hi kl0 er4.symm) ml_12_374 mv_Md_plainTried kl0 cls_12 rfl ⟨Nat.le_of_ble_eq_true rfl, Nat.le_of_ble_eq_true rfl⟩ rfl rfl (Nat.le_of_ble_eq_true rfl) (by decide +kernel) ?_
  change V E g tb ρ 1 20 [(0, .ref (ρ l0))] [] r4
  refine v_aload_n (pc := 20) (k := 0) X (by decide +kernel) 0 rfl ?_
  refine v_iconst (pc := 21) (n := 0) X (by decide +kernel) ic_0 ?_
  obtain ⟨h5, eh5, hf⟩ := nmd_e hf
  refine v_puti (pc := 22) X fp_12_377 kl0 rfl (by decide +kernel) eh5 ?_
  refine v_aload_n (pc := 25) (k := 0) X (by decide +kernel) 0 rfl ?_
  refine v_iconst (pc := 26) (n := -1) X (by decide +kernel) ic_m1 ?_
  obtain ⟨h6, eh6, hf⟩ := nmd_e hf
  refine v_puti (pc := 27) X fp_12_136 kl0 rfl (by decide +kernel) eh6 ?_
  refine v_aload_n (pc := 30) (k := 0) X (by decide +kernel) 0 rfl ?_
  refine v_iconst (pc := 31) (n := 0) X (by decide +kernel) ic_0 ?_
  obtain ⟨h7, eh7, hf⟩ := nmd_e hf
  refine v_puti (pc := 32) X fp_12_380 kl0 rfl (by decide +kernel) eh7 ?_
  refine v_aload_n (pc := 35) (k := 0) X (by decide +kernel) 0 rfl ?_
  refine v_iconst (pc := 36) (n := 0) X (by decide +kernel) ic_0 ?_
  obtain ⟨h8, eh8, hf⟩ := nmd_e hf
  refine v_putz (pc := 37) X fp_12_383 kl0 rfl rfl (by decide +kernel) eh8 ?_
  cases hf
  exact v_vret X Y (by decide +kernel) rfl rfl
def lp_Md_keepText_158 (tb : Tb) : Nat → Hp → Nat → Int32 → Option (Hp)
  | 0, _, _, _ => none
  | n + 1, h, l0, l1 =>
    if (3 : Int32) ≤ l1 then (
      (f_Md_copies tb h (lay tb l0 38) (3 : Int32)).bind fun r1 =>
      (f_Md_copies tb r1 (lay tb l0 39) (3 : Int32)).bind fun r2 =>
      (f_Md_copies tb r2 (lay tb l0 40) (64 : Int32)).bind fun r3 =>
      (f_Md_copies tb r3 (lay tb l0 41) (64 : Int32)).bind fun r4 =>
      (f_Md_copies tb r4 (lay tb l0 42) (64 : Int32)).bind fun r5 =>
      (f_Md_begin tb r5 l0).bind fun r6 =>
      some r6
    ) else (
      (rI tb h (lay tb l0 37) ((3 : Int32) + l1)).bind fun x7 =>
      (wZ tb h (lay tb l0 37) l1 x7).bind fun h8 =>
      nmd (l1 + (1 : Int32)) fun x9 =>
      lp_Md_keepText_158 tb n h8 l0 x9
    )
def f_Md_keepText (tb : Tb) (h : Hp) (l0 : Nat) : Option (Hp) :=
  nmd (pI h l0 12 (h.1 l0 17)) fun h1 =>
  nmd (pI h1 l0 13 (h1.1 l0 18)) fun h2 =>
  nmd (pI h2 l0 14 (h2.1 l0 19)) fun h3 =>
  nmd (pI h3 l0 15 (h3.1 l0 20)) fun h4 =>
  nmd (pI h4 l0 16 (h4.1 l0 22)) fun h5 =>
  (f_Md_copies tb h5 (lay tb l0 24) (2 : Int32)).bind fun r6 =>
  (f_Md_copies tb r6 (lay tb l0 25) (6 : Int32)).bind fun r7 =>
  (f_Md_copies tb r7 (lay tb l0 26) (6 : Int32)).bind fun r8 =>
  (f_Md_copies tb r8 (lay tb l0 27) (6 : Int32)).bind fun r9 =>
  (f_Md_copies tb r9 (lay tb l0 28) (6 : Int32)).bind fun r10 =>
  (f_Md_copies tb r10 (lay tb l0 29) (6 : Int32)).bind fun r11 =>
  (f_Md_copies tb r11 (lay tb l0 30) (6 : Int32)).bind fun r12 =>
  (f_Md_copies tb r12 (lay tb l0 31) (6 : Int32)).bind fun r13 =>
  (f_Md_copies tb r13 (lay tb l0 32) (6 : Int32)).bind fun r14 =>
  (f_Md_copies tb r14 (lay tb l0 33) (6 : Int32)).bind fun r15 =>
  (f_Md_copies tb r15 (lay tb l0 34) (12 : Int32)).bind fun r16 =>
  (f_Md_copies tb r16 (lay tb l0 35) (12 : Int32)).bind fun r17 =>
  (f_Md_copies tb r17 (lay tb l0 36) (12 : Int32)).bind fun r18 =>
  lp_Md_keepText_158 tb fu r18 l0 (0 : Int32)
set_option maxRecDepth 4000 in
set_option maxHeartbeats 1000000 in
theorem vlp_Md_keepText_158 {E : En} {g : Gl} {tb : Tb} {ρ : Nat → Nat} (ok : TbOK tb) (hi : inj tb ρ) {r : Hp} (X : CX E g tb ρ prog_14_method_19_code 2 RC12 2 42) (Y : CQ E g tb ρ none (none) r) : ∀ (n : Nat) (h : Hp) (l0 : Nat) (l1 : Int32) (kl0 : kd tb l0 = 12), lp_Md_keepText_158 tb n h l0 l1 = some r → V E g tb ρ 2 158 [(0, .ref (ρ l0)), (1, .int l1)] [] h := by
  intro n
  induction n with
  | zero =>
    intro h l0 l1 kl0 hf
    rw [lp_Md_keepText_158] at hf
    cases hf
  | succ n ih =>
    intro h l0 l1 kl0 hf
    rw [lp_Md_keepText_158] at hf
    refine v_iload_n (pc := 158) (k := 1) X (by decide +kernel) 1 rfl ?_
    refine v_iconst (pc := 159) (n := 3) X (by decide +kernel) ic_3 ?_
    refine v_icmp_ge (pc := 160) (off := 23) (tgt := 183) X (by decide +kernel) (by decide) (fun q10 => ?_) (fun q10 => ?_)
    · rw [if_pos q10] at hf
      refine v_aload_n (pc := 183) (k := 0) X (by decide +kernel) 0 rfl ?_
      refine v_geta (pc := 184) X fl_12_66 kl0 fk_12_38 (by decide +kernel) ?_
      refine v_iconst (pc := 187) (n := 3) X (by decide +kernel) ic_3 ?_
      obtain ⟨r1, er1, hf⟩ := bnd_e hf
      refine v_callS (pc := 188) (As := [.ref (ρ (lay tb l0 38)), .int (3 : Int32)]) (rest := []) X (mt_Md_copies ok hi (ly_12_38 ok kl0) er1) ml_12_258 ms_Md_copies ⟨Nat.le_of_ble_eq_true rfl, Nat.le_of_ble_eq_true rfl⟩ rfl rfl (Nat.le_of_ble_eq_true rfl) (by decide +kernel) ?_
      change V E g tb ρ 2 191 [(0, .ref (ρ l0)), (1, .int l1)] [] r1
      refine v_aload_n (pc := 191) (k := 0) X (by decide +kernel) 0 rfl ?_
      refine v_geta (pc := 192) X fl_12_69 kl0 fk_12_39 (by decide +kernel) ?_
      refine v_iconst (pc := 195) (n := 3) X (by decide +kernel) ic_3 ?_
      obtain ⟨r2, er2, hf⟩ := bnd_e hf
      refine v_callS (pc := 196) (As := [.ref (ρ (lay tb l0 39)), .int (3 : Int32)]) (rest := []) X (mt_Md_copies ok hi (ly_12_39 ok kl0) er2) ml_12_258 ms_Md_copies ⟨Nat.le_of_ble_eq_true rfl, Nat.le_of_ble_eq_true rfl⟩ rfl rfl (Nat.le_of_ble_eq_true rfl) (by decide +kernel) ?_
      change V E g tb ρ 2 199 [(0, .ref (ρ l0)), (1, .int l1)] [] r2
      refine v_aload_n (pc := 199) (k := 0) X (by decide +kernel) 0 rfl ?_
      refine v_geta (pc := 200) X fl_12_72 kl0 fk_12_40 (by decide +kernel) ?_
      refine v_bipush (pc := 203) (n := 64) X (by decide +kernel) bi_64 ?_
      obtain ⟨r3, er3, hf⟩ := bnd_e hf
      refine v_callS (pc := 205) (As := [.ref (ρ (lay tb l0 40)), .int (64 : Int32)]) (rest := []) X (mt_Md_copies ok hi (ly_12_40 ok kl0) er3) ml_12_258 ms_Md_copies ⟨Nat.le_of_ble_eq_true rfl, Nat.le_of_ble_eq_true rfl⟩ rfl rfl (Nat.le_of_ble_eq_true rfl) (by decide +kernel) ?_
      change V E g tb ρ 2 208 [(0, .ref (ρ l0)), (1, .int l1)] [] r3
      refine v_aload_n (pc := 208) (k := 0) X (by decide +kernel) 0 rfl ?_
      refine v_geta (pc := 209) X fl_12_75 kl0 fk_12_41 (by decide +kernel) ?_
      refine v_bipush (pc := 212) (n := 64) X (by decide +kernel) bi_64 ?_
      obtain ⟨r4, er4, hf⟩ := bnd_e hf
      refine v_callS (pc := 214) (As := [.ref (ρ (lay tb l0 41)), .int (64 : Int32)]) (rest := []) X (mt_Md_copies ok hi (ly_12_41 ok kl0) er4) ml_12_258 ms_Md_copies ⟨Nat.le_of_ble_eq_true rfl, Nat.le_of_ble_eq_true rfl⟩ rfl rfl (Nat.le_of_ble_eq_true rfl) (by decide +kernel) ?_
      change V E g tb ρ 2 217 [(0, .ref (ρ l0)), (1, .int l1)] [] r4
      refine v_aload_n (pc := 217) (k := 0) X (by decide +kernel) 0 rfl ?_
      refine v_geta (pc := 218) X fl_12_78 kl0 fk_12_42 (by decide +kernel) ?_
      refine v_bipush (pc := 221) (n := 64) X (by decide +kernel) bi_64 ?_
      obtain ⟨r5, er5, hf⟩ := bnd_e hf
      refine v_callS (pc := 223) (As := [.ref (ρ (lay tb l0 42)), .int (64 : Int32)]) (rest := []) X (mt_Md_copies ok hi (ly_12_42 ok kl0) er5) ml_12_258 ms_Md_copies ⟨Nat.le_of_ble_eq_true rfl, Nat.le_of_ble_eq_true rfl⟩ rfl rfl (Nat.le_of_ble_eq_true rfl) (by decide +kernel) ?_
      change V E g tb ρ 2 226 [(0, .ref (ρ l0)), (1, .int l1)] [] r5
      refine v_aload_n (pc := 226) (k := 0) X (by decide +kernel) 0 rfl ?_
      obtain ⟨r6, er6, hf⟩ := bnd_e hf
      refine v_callV (pc := 227) (As := []) (rest := []) X (mt_Md_begin ok hi kl0 er6) ml_12_262 mv_Md_begin kl0 cls_12 rfl ⟨Nat.le_of_ble_eq_true rfl, Nat.le_of_ble_eq_true rfl⟩ rfl rfl (Nat.le_of_ble_eq_true rfl) (by decide +kernel) ?_
      change V E g tb ρ 2 230 [(0, .ref (ρ l0)), (1, .int l1)] [] r6
      cases hf
      exact v_vret X Y (by decide +kernel) rfl rfl
    · rw [if_neg q10] at hf
      refine v_aload_n (pc := 163) (k := 0) X (by decide +kernel) 0 rfl ?_
      refine v_geta (pc := 164) X fl_12_63 kl0 fk_12_37 (by decide +kernel) ?_
      refine v_iload_n (pc := 167) (k := 1) X (by decide +kernel) 1 rfl ?_
      refine v_aload_n (pc := 168) (k := 0) X (by decide +kernel) 0 rfl ?_
      refine v_geta (pc := 169) X fl_12_63 kl0 fk_12_37 (by decide +kernel) ?_
      refine v_iconst (pc := 172) (n := 3) X (by decide +kernel) ic_3 ?_
      refine v_iload_n (pc := 173) (k := 1) X (by decide +kernel) 1 rfl ?_
      refine v_iadd (pc := 174) X (by decide +kernel) ?_
      obtain ⟨x7, ex7, hf⟩ := bnd_e hf
      refine v_zald (pc := 175) X (ly_12_37 ok kl0) ex7 (by decide +kernel) ?_
      obtain ⟨h8, eh8, hf⟩ := bnd_e hf
      refine v_zast (pc := 176) X (ly_12_37 ok kl0) eh8 (by decide +kernel) ?_
      obtain ⟨x9, ex9, hf⟩ := nmd_e hf
      refine v_iinc (pc := 177) (k := 1) (n := 1) (v := x9) (lv' := [(1, .int x9), (0, .ref (ρ l0))]) X (by decide +kernel) 1 rfl (by rw [ic_1, ex9]) (Nat.le_of_ble_eq_true rfl) rfl ?_
      refine v_goto (pc := 180) (off := -22) (tgt := 158) X (by decide +kernel) (by decide) ?_
      refine v_sub [1, 0] rfl ?_
      exact ih h8 l0 x9 kl0 hf
set_option maxRecDepth 4000 in
set_option maxHeartbeats 1000000 in
theorem mt_Md_keepText {g : Gl} {tb : Tb} {ρ : Nat → Nat} (ok : TbOK tb) (hi : inj tb ρ) {h : Hp} {l0 : Nat} (kl0 : kd tb l0 = 12) {r : Hp} (hf : f_Md_keepText tb h l0 = some r) : MT g y_Md_keepText prog_14_method_19_code 2 none 2 42 tb ρ [.ref (ρ l0)] h (none) r := by
  refine mt_intro (by decide +kernel) ok hi (Nat.le_of_ble_eq_true rfl) (fun E X Y => ?_)
  change V E g tb ρ 2 0 [(0, .ref (ρ l0))] [] h
  unfold f_Md_keepText at hf
  refine v_aload_n (pc := 0) (k := 0) X (by decide +kernel) 0 rfl ?_
  refine v_aload_n (pc := 1) (k := 0) X (by decide +kernel) 0 rfl ?_
  refine v_geti (pc := 2) X fl_12_222 kl0 rfl (by decide +kernel) ?_
  obtain ⟨h1, eh1, hf⟩ := nmd_e hf
  refine v_puti (pc := 5) X fp_12_243 kl0 rfl (by decide +kernel) eh1 ?_
  refine v_aload_n (pc := 8) (k := 0) X (by decide +kernel) 0 rfl ?_
  refine v_aload_n (pc := 9) (k := 0) X (by decide +kernel) 0 rfl ?_
  refine v_geti (pc := 10) X fl_12_225 kl0 rfl (by decide +kernel) ?_
  obtain ⟨h2, eh2, hf⟩ := nmd_e hf
  refine v_puti (pc := 13) X fp_12_246 kl0 rfl (by decide +kernel) eh2 ?_
  refine v_aload_n (pc := 16) (k := 0) X (by decide +kernel) 0 rfl ?_
  refine v_aload_n (pc := 17) (k := 0) X (by decide +kernel) 0 rfl ?_
  refine v_geti (pc := 18) X fl_12_228 kl0 rfl (by decide +kernel) ?_
  obtain ⟨h3, eh3, hf⟩ := nmd_e hf
  refine v_puti (pc := 21) X fp_12_249 kl0 rfl (by decide +kernel) eh3 ?_
  refine v_aload_n (pc := 24) (k := 0) X (by decide +kernel) 0 rfl ?_
  refine v_aload_n (pc := 25) (k := 0) X (by decide +kernel) 0 rfl ?_
  refine v_geti (pc := 26) X fl_12_231 kl0 rfl (by decide +kernel) ?_
  obtain ⟨h4, eh4, hf⟩ := nmd_e hf
  refine v_puti (pc := 29) X fp_12_252 kl0 rfl (by decide +kernel) eh4 ?_
  refine v_aload_n (pc := 32) (k := 0) X (by decide +kernel) 0 rfl ?_
  refine v_aload_n (pc := 33) (k := 0) X (by decide +kernel) 0 rfl ?_
  refine v_geti (pc := 34) X fl_12_237 kl0 rfl (by decide +kernel) ?_
  obtain ⟨h5, eh5, hf⟩ := nmd_e hf
  refine v_puti (pc := 37) X fp_12_255 kl0 rfl (by decide +kernel) eh5 ?_
  refine v_aload_n (pc := 40) (k := 0) X (by decide +kernel) 0 rfl ?_
  refine v_geta (pc := 41) X fl_12_24 kl0 fk_12_24 (by decide +kernel) ?_
  refine v_iconst (pc := 44) (n := 2) X (by decide +kernel) ic_2 ?_
  obtain ⟨r6, er6, hf⟩ := bnd_e hf
  refine v_callS (pc := 45) (As := [.ref (ρ (lay tb l0 24)), .int (2 : Int32)]) (rest := []) X (mt_Md_copies ok hi (ly_12_24 ok kl0) er6) ml_12_258 ms_Md_copies ⟨Nat.le_of_ble_eq_true rfl, Nat.le_of_ble_eq_true rfl⟩ rfl rfl (Nat.le_of_ble_eq_true rfl) (by decide +kernel) ?_
  change V E g tb ρ 2 48 [(0, .ref (ρ l0))] [] r6
  refine v_aload_n (pc := 48) (k := 0) X (by decide +kernel) 0 rfl ?_
  refine v_geta (pc := 49) X fl_12_27 kl0 fk_12_25 (by decide +kernel) ?_
  refine v_bipush (pc := 52) (n := 6) X (by decide +kernel) bi_6 ?_
  obtain ⟨r7, er7, hf⟩ := bnd_e hf
  refine v_callS (pc := 54) (As := [.ref (ρ (lay tb l0 25)), .int (6 : Int32)]) (rest := []) X (mt_Md_copies ok hi (ly_12_25 ok kl0) er7) ml_12_258 ms_Md_copies ⟨Nat.le_of_ble_eq_true rfl, Nat.le_of_ble_eq_true rfl⟩ rfl rfl (Nat.le_of_ble_eq_true rfl) (by decide +kernel) ?_
  change V E g tb ρ 2 57 [(0, .ref (ρ l0))] [] r7
  refine v_aload_n (pc := 57) (k := 0) X (by decide +kernel) 0 rfl ?_
  refine v_geta (pc := 58) X fl_12_30 kl0 fk_12_26 (by decide +kernel) ?_
  refine v_bipush (pc := 61) (n := 6) X (by decide +kernel) bi_6 ?_
  obtain ⟨r8, er8, hf⟩ := bnd_e hf
  refine v_callS (pc := 63) (As := [.ref (ρ (lay tb l0 26)), .int (6 : Int32)]) (rest := []) X (mt_Md_copies ok hi (ly_12_26 ok kl0) er8) ml_12_258 ms_Md_copies ⟨Nat.le_of_ble_eq_true rfl, Nat.le_of_ble_eq_true rfl⟩ rfl rfl (Nat.le_of_ble_eq_true rfl) (by decide +kernel) ?_
  change V E g tb ρ 2 66 [(0, .ref (ρ l0))] [] r8
  refine v_aload_n (pc := 66) (k := 0) X (by decide +kernel) 0 rfl ?_
  refine v_geta (pc := 67) X fl_12_33 kl0 fk_12_27 (by decide +kernel) ?_
  refine v_bipush (pc := 70) (n := 6) X (by decide +kernel) bi_6 ?_
  obtain ⟨r9, er9, hf⟩ := bnd_e hf
  refine v_callS (pc := 72) (As := [.ref (ρ (lay tb l0 27)), .int (6 : Int32)]) (rest := []) X (mt_Md_copies ok hi (ly_12_27 ok kl0) er9) ml_12_258 ms_Md_copies ⟨Nat.le_of_ble_eq_true rfl, Nat.le_of_ble_eq_true rfl⟩ rfl rfl (Nat.le_of_ble_eq_true rfl) (by decide +kernel) ?_
  change V E g tb ρ 2 75 [(0, .ref (ρ l0))] [] r9
  refine v_aload_n (pc := 75) (k := 0) X (by decide +kernel) 0 rfl ?_
  refine v_geta (pc := 76) X fl_12_36 kl0 fk_12_28 (by decide +kernel) ?_
  refine v_bipush (pc := 79) (n := 6) X (by decide +kernel) bi_6 ?_
  obtain ⟨r10, er10, hf⟩ := bnd_e hf
  refine v_callS (pc := 81) (As := [.ref (ρ (lay tb l0 28)), .int (6 : Int32)]) (rest := []) X (mt_Md_copies ok hi (ly_12_28 ok kl0) er10) ml_12_258 ms_Md_copies ⟨Nat.le_of_ble_eq_true rfl, Nat.le_of_ble_eq_true rfl⟩ rfl rfl (Nat.le_of_ble_eq_true rfl) (by decide +kernel) ?_
  change V E g tb ρ 2 84 [(0, .ref (ρ l0))] [] r10
  refine v_aload_n (pc := 84) (k := 0) X (by decide +kernel) 0 rfl ?_
  refine v_geta (pc := 85) X fl_12_39 kl0 fk_12_29 (by decide +kernel) ?_
  refine v_bipush (pc := 88) (n := 6) X (by decide +kernel) bi_6 ?_
  obtain ⟨r11, er11, hf⟩ := bnd_e hf
  refine v_callS (pc := 90) (As := [.ref (ρ (lay tb l0 29)), .int (6 : Int32)]) (rest := []) X (mt_Md_copies ok hi (ly_12_29 ok kl0) er11) ml_12_258 ms_Md_copies ⟨Nat.le_of_ble_eq_true rfl, Nat.le_of_ble_eq_true rfl⟩ rfl rfl (Nat.le_of_ble_eq_true rfl) (by decide +kernel) ?_
  change V E g tb ρ 2 93 [(0, .ref (ρ l0))] [] r11
  refine v_aload_n (pc := 93) (k := 0) X (by decide +kernel) 0 rfl ?_
  refine v_geta (pc := 94) X fl_12_42 kl0 fk_12_30 (by decide +kernel) ?_
  refine v_bipush (pc := 97) (n := 6) X (by decide +kernel) bi_6 ?_
  obtain ⟨r12, er12, hf⟩ := bnd_e hf
  refine v_callS (pc := 99) (As := [.ref (ρ (lay tb l0 30)), .int (6 : Int32)]) (rest := []) X (mt_Md_copies ok hi (ly_12_30 ok kl0) er12) ml_12_258 ms_Md_copies ⟨Nat.le_of_ble_eq_true rfl, Nat.le_of_ble_eq_true rfl⟩ rfl rfl (Nat.le_of_ble_eq_true rfl) (by decide +kernel) ?_
  change V E g tb ρ 2 102 [(0, .ref (ρ l0))] [] r12
  refine v_aload_n (pc := 102) (k := 0) X (by decide +kernel) 0 rfl ?_
  refine v_geta (pc := 103) X fl_12_45 kl0 fk_12_31 (by decide +kernel) ?_
  refine v_bipush (pc := 106) (n := 6) X (by decide +kernel) bi_6 ?_
  obtain ⟨r13, er13, hf⟩ := bnd_e hf
  refine v_callS (pc := 108) (As := [.ref (ρ (lay tb l0 31)), .int (6 : Int32)]) (rest := []) X (mt_Md_copies ok hi (ly_12_31 ok kl0) er13) ml_12_258 ms_Md_copies ⟨Nat.le_of_ble_eq_true rfl, Nat.le_of_ble_eq_true rfl⟩ rfl rfl (Nat.le_of_ble_eq_true rfl) (by decide +kernel) ?_
  change V E g tb ρ 2 111 [(0, .ref (ρ l0))] [] r13
  refine v_aload_n (pc := 111) (k := 0) X (by decide +kernel) 0 rfl ?_
  refine v_geta (pc := 112) X fl_12_48 kl0 fk_12_32 (by decide +kernel) ?_
  refine v_bipush (pc := 115) (n := 6) X (by decide +kernel) bi_6 ?_
  obtain ⟨r14, er14, hf⟩ := bnd_e hf
  refine v_callS (pc := 117) (As := [.ref (ρ (lay tb l0 32)), .int (6 : Int32)]) (rest := []) X (mt_Md_copies ok hi (ly_12_32 ok kl0) er14) ml_12_258 ms_Md_copies ⟨Nat.le_of_ble_eq_true rfl, Nat.le_of_ble_eq_true rfl⟩ rfl rfl (Nat.le_of_ble_eq_true rfl) (by decide +kernel) ?_
  change V E g tb ρ 2 120 [(0, .ref (ρ l0))] [] r14
  refine v_aload_n (pc := 120) (k := 0) X (by decide +kernel) 0 rfl ?_
  refine v_geta (pc := 121) X fl_12_51 kl0 fk_12_33 (by decide +kernel) ?_
  refine v_bipush (pc := 124) (n := 6) X (by decide +kernel) bi_6 ?_
  obtain ⟨r15, er15, hf⟩ := bnd_e hf
  refine v_callS (pc := 126) (As := [.ref (ρ (lay tb l0 33)), .int (6 : Int32)]) (rest := []) X (mt_Md_copies ok hi (ly_12_33 ok kl0) er15) ml_12_258 ms_Md_copies ⟨Nat.le_of_ble_eq_true rfl, Nat.le_of_ble_eq_true rfl⟩ rfl rfl (Nat.le_of_ble_eq_true rfl) (by decide +kernel) ?_
  change V E g tb ρ 2 129 [(0, .ref (ρ l0))] [] r15
  refine v_aload_n (pc := 129) (k := 0) X (by decide +kernel) 0 rfl ?_
  refine v_geta (pc := 130) X fl_12_54 kl0 fk_12_34 (by decide +kernel) ?_
  refine v_bipush (pc := 133) (n := 12) X (by decide +kernel) bi_12 ?_
  obtain ⟨r16, er16, hf⟩ := bnd_e hf
  refine v_callS (pc := 135) (As := [.ref (ρ (lay tb l0 34)), .int (12 : Int32)]) (rest := []) X (mt_Md_copies ok hi (ly_12_34 ok kl0) er16) ml_12_258 ms_Md_copies ⟨Nat.le_of_ble_eq_true rfl, Nat.le_of_ble_eq_true rfl⟩ rfl rfl (Nat.le_of_ble_eq_true rfl) (by decide +kernel) ?_
  change V E g tb ρ 2 138 [(0, .ref (ρ l0))] [] r16
  refine v_aload_n (pc := 138) (k := 0) X (by decide +kernel) 0 rfl ?_
  refine v_geta (pc := 139) X fl_12_57 kl0 fk_12_35 (by decide +kernel) ?_
  refine v_bipush (pc := 142) (n := 12) X (by decide +kernel) bi_12 ?_
  obtain ⟨r17, er17, hf⟩ := bnd_e hf
  refine v_callS (pc := 144) (As := [.ref (ρ (lay tb l0 35)), .int (12 : Int32)]) (rest := []) X (mt_Md_copies ok hi (ly_12_35 ok kl0) er17) ml_12_258 ms_Md_copies ⟨Nat.le_of_ble_eq_true rfl, Nat.le_of_ble_eq_true rfl⟩ rfl rfl (Nat.le_of_ble_eq_true rfl) (by decide +kernel) ?_
  change V E g tb ρ 2 147 [(0, .ref (ρ l0))] [] r17
  refine v_aload_n (pc := 147) (k := 0) X (by decide +kernel) 0 rfl ?_
  refine v_geta (pc := 148) X fl_12_60 kl0 fk_12_36 (by decide +kernel) ?_
  refine v_bipush (pc := 151) (n := 12) X (by decide +kernel) bi_12 ?_
  obtain ⟨r18, er18, hf⟩ := bnd_e hf
  refine v_callS (pc := 153) (As := [.ref (ρ (lay tb l0 36)), .int (12 : Int32)]) (rest := []) X (mt_Md_copies ok hi (ly_12_36 ok kl0) er18) ml_12_258 ms_Md_copies ⟨Nat.le_of_ble_eq_true rfl, Nat.le_of_ble_eq_true rfl⟩ rfl rfl (Nat.le_of_ble_eq_true rfl) (by decide +kernel) ?_
  change V E g tb ρ 2 156 [(0, .ref (ρ l0))] [] r18
  refine v_iconst (pc := 156) (n := 0) X (by decide +kernel) ic_0 ?_
  refine v_istore_n (pc := 157) (k := 1) (lv' := [(1, .int (0 : Int32)), (0, .ref (ρ l0))]) X (by decide +kernel) (Nat.le_of_ble_eq_true rfl) rfl ?_
  refine v_sub [1, 0] rfl ?_
  exact vlp_Md_keepText_158 ok hi X Y fu r18 l0 (0 : Int32) kl0 hf
def lp_Md_find_3 (tb : Tb) : Nat → Hp → Nat → Int32 → Int32 → Int32 → Int32 → Option (Int32)
  | 0, _, _, _, _, _, _ => none
  | n + 1, h, l0, l1, l2, l3, l4 =>
    if l2 ≤ l4 then (
      some (-1 : Int32)
    ) else (
      (rI tb h l0 (l1 + l4)).bind fun x1 =>
      if x1 = l3 then (
        some l4
      ) else (
        nmd (l4 + (1 : Int32)) fun x2 =>
        lp_Md_find_3 tb n h l0 l1 l2 l3 x2
      )
    )
def f_Md_find (tb : Tb) (h : Hp) (l0 : Nat) (l1 : Int32) (l2 : Int32) (l3 : Int32) : Option (Int32) :=
  lp_Md_find_3 tb fu h l0 l1 l2 l3 (0 : Int32)
set_option maxRecDepth 4000 in
set_option maxHeartbeats 1000000 in
theorem vlp_Md_find_3 {E : En} {g : Gl} {tb : Tb} {ρ : Nat → Nat} (ok : TbOK tb) (hi : inj tb ρ) {r : Int32} (X : CX E g tb ρ prog_14_method_20_code 5 RC12 0 0) {h : Hp} (Y : CQ E g tb ρ (some .int) (some (.int r)) h) : ∀ (n : Nat) (l0 : Nat) (l1 : Int32) (l2 : Int32) (l3 : Int32) (l4 : Int32) (kl0 : kd tb l0 = 20), lp_Md_find_3 tb n h l0 l1 l2 l3 l4 = some r → V E g tb ρ 5 3 [(0, .ref (ρ l0)), (1, .int l1), (2, .int l2), (3, .int l3), (4, .int l4)] [] h := by
  intro n
  induction n with
  | zero =>
    intro l0 l1 l2 l3 l4 kl0 hf
    rw [lp_Md_find_3] at hf
    cases hf
  | succ n ih =>
    intro l0 l1 l2 l3 l4 kl0 hf
    rw [lp_Md_find_3] at hf
    refine v_iload (pc := 3) (k := 4) X (by decide +kernel) 4 rfl ?_
    refine v_iload_n (pc := 5) (k := 2) X (by decide +kernel) 2 rfl ?_
    refine v_icmp_ge (pc := 6) (off := 22) (tgt := 28) X (by decide +kernel) (by decide) (fun q4 => ?_) (fun q4 => ?_)
    · rw [if_pos q4] at hf
      refine v_iconst (pc := 28) (n := -1) X (by decide +kernel) ic_m1 ?_
      cases hf
      exact v_iret X Y (by decide +kernel) rfl rfl
    · rw [if_neg q4] at hf
      refine v_aload_n (pc := 9) (k := 0) X (by decide +kernel) 0 rfl ?_
      refine v_iload_n (pc := 10) (k := 1) X (by decide +kernel) 1 rfl ?_
      refine v_iload (pc := 11) (k := 4) X (by decide +kernel) 4 rfl ?_
      refine v_iadd (pc := 13) X (by decide +kernel) ?_
      obtain ⟨x1, ex1, hf⟩ := bnd_e hf
      refine v_iald (pc := 14) X kl0 ex1 (by decide +kernel) ?_
      refine v_iload_n (pc := 15) (k := 3) X (by decide +kernel) 3 rfl ?_
      refine v_icmp_ne (pc := 16) (off := 6) (tgt := 22) X (by decide +kernel) (by decide) (fun q3 => ?_) (fun q3 => ?_)
      · rw [if_neg q3] at hf
        obtain ⟨x2, ex2, hf⟩ := nmd_e hf
        refine v_iinc (pc := 22) (k := 4) (n := 1) (v := x2) (lv' := [(4, .int x2), (0, .ref (ρ l0)), (1, .int l1), (2, .int l2), (3, .int l3)]) X (by decide +kernel) 4 rfl (by rw [ic_1, ex2]) (Nat.le_of_ble_eq_true rfl) rfl ?_
        refine v_goto (pc := 25) (off := -22) (tgt := 3) X (by decide +kernel) (by decide) ?_
        refine v_sub [1, 2, 3, 4, 0] rfl ?_
        exact ih l0 l1 l2 l3 x2 kl0 hf
      · rw [if_pos q3] at hf
        refine v_iload (pc := 19) (k := 4) X (by decide +kernel) 4 rfl ?_
        cases hf
        exact v_iret X Y (by decide +kernel) rfl rfl
set_option maxRecDepth 4000 in
set_option maxHeartbeats 1000000 in
theorem mt_Md_find {g : Gl} {tb : Tb} {ρ : Nat → Nat} (ok : TbOK tb) (hi : inj tb ρ) {h : Hp} {l0 : Nat} {l1 : Int32} {l2 : Int32} {l3 : Int32} (kl0 : kd tb l0 = 20) {r : Int32} (hf : f_Md_find tb h l0 l1 l2 l3 = some r) : MT g y_Md_find prog_14_method_20_code 5 (some .int) 0 0 tb ρ [.ref (ρ l0), .int l1, .int l2, .int l3] h (some (.int r)) h := by
  refine mt_intro (by decide +kernel) ok hi (Nat.le_of_ble_eq_true rfl) (fun E X Y => ?_)
  change V E g tb ρ 5 0 [(0, .ref (ρ l0)), (1, .int l1), (2, .int l2), (3, .int l3)] [] h
  unfold f_Md_find at hf
  refine v_iconst (pc := 0) (n := 0) X (by decide +kernel) ic_0 ?_
  refine v_istore (pc := 1) (k := 4) (lv' := [(4, .int (0 : Int32)), (0, .ref (ρ l0)), (1, .int l1), (2, .int l2), (3, .int l3)]) X (by decide +kernel) (Nat.le_of_ble_eq_true rfl) rfl ?_
  refine v_sub [1, 2, 3, 4, 0] rfl ?_
  exact vlp_Md_find_3 ok hi X Y fu l0 l1 l2 l3 (0 : Int32) kl0 hf
def f_Md_newName (tb : Tb) (h : Hp) (l0 : Nat) (l1 : Nat) (l2 : Int32) (l3 : Int32) : Option (Int32 × Hp) :=
  if (h.1 l0 8) = (2 : Int32) then (
    (f_Md_find tb h l1 l2 l3 (h.1 l0 9)).bind fun r1 =>
    if r1 < (0 : Int32) then (
      (wI tb h l1 (l2 + l3) (h.1 l0 9)).bind fun h2 =>
      (f_Md_token tb h2 l0).bind fun r3 =>
      some ((1 : Int32), r3)
    ) else (
      nmd (f_Md_wrong tb h l0 (3 : Int32)) fun r4 =>
      (cZ r4.1).bind fun x5 =>
      some (x5, r4.2)
    )
  ) else (
    nmd (f_Md_wrong tb h l0 (1 : Int32)) fun r7 =>
    (cZ r7.1).bind fun x8 =>
    some (x8, r7.2)
  )
set_option maxRecDepth 4000 in
set_option maxHeartbeats 1000000 in
theorem mt_Md_newName {g : Gl} {tb : Tb} {ρ : Nat → Nat} (ok : TbOK tb) (hi : inj tb ρ) {h : Hp} {l0 : Nat} {l1 : Nat} {l2 : Int32} {l3 : Int32} (kl0 : kd tb l0 = 12) (kl1 : kd tb l1 = 20) {r : Int32 × Hp} (hf : f_Md_newName tb h l0 l1 l2 l3 = some r) : MT g y_Md_newName prog_14_method_21_code 4 (some .boolean) 2 47 tb ρ [.ref (ρ l0), .ref (ρ l1), .int l2, .int l3] h (some (.int r.1)) r.2 := by
  refine mt_intro (by decide +kernel) ok hi (Nat.le_of_ble_eq_true rfl) (fun E X Y => ?_)
  change V E g tb ρ 4 0 [(0, .ref (ρ l0)), (1, .ref (ρ l1)), (2, .int l2), (3, .int l3)] [] h
  unfold f_Md_newName at hf
  refine v_aload_n (pc := 0) (k := 0) X (by decide +kernel) 0 rfl ?_
  refine v_geti (pc := 1) X fl_12_178 kl0 rfl (by decide +kernel) ?_
  refine v_iconst (pc := 4) (n := 2) X (by decide +kernel) ic_2 ?_
  refine v_icmp_eq (pc := 5) (off := 9) (tgt := 14) X (by decide +kernel) (by decide) (fun q9 => ?_) (fun q9 => ?_)
  · rw [if_pos q9] at hf
    refine v_aload_n (pc := 14) (k := 1) X (by decide +kernel) 1 rfl ?_
    refine v_iload_n (pc := 15) (k := 2) X (by decide +kernel) 2 rfl ?_
    refine v_iload_n (pc := 16) (k := 3) X (by decide +kernel) 3 rfl ?_
    refine v_aload_n (pc := 17) (k := 0) X (by decide +kernel) 0 rfl ?_
    refine v_geti (pc := 18) X fl_12_189 kl0 rfl (by decide +kernel) ?_
    obtain ⟨r1, er1, hf⟩ := bnd_e hf
    refine v_callS (pc := 21) (As := [.ref (ρ l1), .int l2, .int l3, .int (h.1 l0 9)]) (rest := []) X (mt_Md_find ok hi kl1 er1) ml_12_265 ms_Md_find ⟨Nat.le_of_ble_eq_true rfl, Nat.le_of_ble_eq_true rfl⟩ rfl rfl (Nat.le_of_ble_eq_true rfl) (by decide +kernel) ?_
    change V E g tb ρ 4 24 [(0, .ref (ρ l0)), (1, .ref (ρ l1)), (2, .int l2), (3, .int l3)] [.int r1] h
    refine v_if_lt (pc := 24) (off := 9) (tgt := 33) X (by decide +kernel) (by decide) (fun q6 => ?_) (fun q6 => ?_)
    · rw [if_pos q6] at hf
      refine v_aload_n (pc := 33) (k := 1) X (by decide +kernel) 1 rfl ?_
      refine v_iload_n (pc := 34) (k := 2) X (by decide +kernel) 2 rfl ?_
      refine v_iload_n (pc := 35) (k := 3) X (by decide +kernel) 3 rfl ?_
      refine v_iadd (pc := 36) X (by decide +kernel) ?_
      refine v_aload_n (pc := 37) (k := 0) X (by decide +kernel) 0 rfl ?_
      refine v_geti (pc := 38) X fl_12_189 kl0 rfl (by decide +kernel) ?_
      obtain ⟨h2, eh2, hf⟩ := bnd_e hf
      refine v_iast (pc := 41) X kl1 eh2 (by decide +kernel) ?_
      refine v_aload_n (pc := 42) (k := 0) X (by decide +kernel) 0 rfl ?_
      obtain ⟨r3, er3, hf⟩ := bnd_e hf
      refine v_callV (pc := 43) (As := []) (rest := []) X (mt_Md_token ok hi kl0 er3) ml_12_212 mv_Md_token kl0 cls_12 rfl ⟨Nat.le_of_ble_eq_true rfl, Nat.le_of_ble_eq_true rfl⟩ rfl rfl (Nat.le_of_ble_eq_true rfl) (by decide +kernel) ?_
      change V E g tb ρ 4 46 [(0, .ref (ρ l0)), (1, .ref (ρ l1)), (2, .int l2), (3, .int l3)] [] r3
      refine v_iconst (pc := 46) (n := 1) X (by decide +kernel) ic_1 ?_
      cases hf
      exact v_zret (hz := rfl) X Y (by decide +kernel) rfl rfl
    · rw [if_neg q6] at hf
      refine v_aload_n (pc := 27) (k := 0) X (by decide +kernel) 0 rfl ?_
      refine v_iconst (pc := 28) (n := 3) X (by decide +kernel) ic_3 ?_
      obtain ⟨r4, er4, hf⟩ := nmd_e hf
      refine v_callV (pc := 29) (As := [.int (3 : Int32)]) (rest := []) X (mt_Md_wrong ok hi kl0 er4.symm) ml_12_202 mv_Md_wrong kl0 cls_12 rfl ⟨Nat.le_of_ble_eq_true rfl, Nat.le_of_ble_eq_true rfl⟩ rfl rfl (Nat.le_of_ble_eq_true rfl) (by decide +kernel) ?_
      change V E g tb ρ 4 32 [(0, .ref (ρ l0)), (1, .ref (ρ l1)), (2, .int l2), (3, .int l3)] [.int r4.1] r4.2
      obtain ⟨x5, ex5, hf⟩ := bnd_e hf
      obtain ⟨bx5, rfl⟩ := cZ_e ex5
      cases hf
      exact v_zret (hz := bx5) X Y (by decide +kernel) rfl rfl
  · rw [if_neg q9] at hf
    refine v_aload_n (pc := 8) (k := 0) X (by decide +kernel) 0 rfl ?_
    refine v_iconst (pc := 9) (n := 1) X (by decide +kernel) ic_1 ?_
    obtain ⟨r7, er7, hf⟩ := nmd_e hf
    refine v_callV (pc := 10) (As := [.int (1 : Int32)]) (rest := []) X (mt_Md_wrong ok hi kl0 er7.symm) ml_12_202 mv_Md_wrong kl0 cls_12 rfl ⟨Nat.le_of_ble_eq_true rfl, Nat.le_of_ble_eq_true rfl⟩ rfl rfl (Nat.le_of_ble_eq_true rfl) (by decide +kernel) ?_
    change V E g tb ρ 4 13 [(0, .ref (ρ l0)), (1, .ref (ρ l1)), (2, .int l2), (3, .int l3)] [.int r7.1] r7.2
    obtain ⟨x8, ex8, hf⟩ := bnd_e hf
    obtain ⟨bx8, rfl⟩ := cZ_e ex8
    cases hf
    exact v_zret (hz := bx8) X Y (by decide +kernel) rfl rfl
def f_Md_thereIn (tb : Tb) (h : Hp) (l0 : Nat) (l1 : Nat) (l2 : Int32) (l3 : Int32) : Option (Int32 × Hp) :=
  if (h.1 l0 8) = (2 : Int32) then (
    (f_Md_find tb h l1 l2 l3 (h.1 l0 9)).bind fun r1 =>
    if (0 : Int32) ≤ r1 then (
      (f_Md_token tb h l0).bind fun r2 =>
      nmd (pI r2 l0 11 r1) fun h3 =>
      some ((1 : Int32), h3)
    ) else (
      nmd (f_Md_wrong tb h l0 (4 : Int32)) fun r4 =>
      (cZ r4.1).bind fun x5 =>
      some (x5, r4.2)
    )
  ) else (
    nmd (f_Md_wrong tb h l0 (1 : Int32)) fun r7 =>
    (cZ r7.1).bind fun x8 =>
    some (x8, r7.2)
  )
set_option maxRecDepth 4000 in
set_option maxHeartbeats 1000000 in
theorem mt_Md_thereIn {g : Gl} {tb : Tb} {ρ : Nat → Nat} (ok : TbOK tb) (hi : inj tb ρ) {h : Hp} {l0 : Nat} {l1 : Nat} {l2 : Int32} {l3 : Int32} (kl0 : kd tb l0 = 12) (kl1 : kd tb l1 = 20) {r : Int32 × Hp} (hf : f_Md_thereIn tb h l0 l1 l2 l3 = some r) : MT g y_Md_thereIn prog_14_method_22_code 5 (some .boolean) 2 47 tb ρ [.ref (ρ l0), .ref (ρ l1), .int l2, .int l3] h (some (.int r.1)) r.2 := by
  refine mt_intro (by decide +kernel) ok hi (Nat.le_of_ble_eq_true rfl) (fun E X Y => ?_)
  change V E g tb ρ 5 0 [(0, .ref (ρ l0)), (1, .ref (ρ l1)), (2, .int l2), (3, .int l3)] [] h
  unfold f_Md_thereIn at hf
  refine v_aload_n (pc := 0) (k := 0) X (by decide +kernel) 0 rfl ?_
  refine v_geti (pc := 1) X fl_12_178 kl0 rfl (by decide +kernel) ?_
  refine v_iconst (pc := 4) (n := 2) X (by decide +kernel) ic_2 ?_
  refine v_icmp_eq (pc := 5) (off := 9) (tgt := 14) X (by decide +kernel) (by decide) (fun q9 => ?_) (fun q9 => ?_)
  · rw [if_pos q9] at hf
    refine v_aload_n (pc := 14) (k := 1) X (by decide +kernel) 1 rfl ?_
    refine v_iload_n (pc := 15) (k := 2) X (by decide +kernel) 2 rfl ?_
    refine v_iload_n (pc := 16) (k := 3) X (by decide +kernel) 3 rfl ?_
    refine v_aload_n (pc := 17) (k := 0) X (by decide +kernel) 0 rfl ?_
    refine v_geti (pc := 18) X fl_12_189 kl0 rfl (by decide +kernel) ?_
    obtain ⟨r1, er1, hf⟩ := bnd_e hf
    refine v_callS (pc := 21) (As := [.ref (ρ l1), .int l2, .int l3, .int (h.1 l0 9)]) (rest := []) X (mt_Md_find ok hi kl1 er1) ml_12_265 ms_Md_find ⟨Nat.le_of_ble_eq_true rfl, Nat.le_of_ble_eq_true rfl⟩ rfl rfl (Nat.le_of_ble_eq_true rfl) (by decide +kernel) ?_
    change V E g tb ρ 5 24 [(0, .ref (ρ l0)), (1, .ref (ρ l1)), (2, .int l2), (3, .int l3)] [.int r1] h
    refine v_istore (pc := 24) (k := 4) (lv' := [(4, .int r1), (0, .ref (ρ l0)), (1, .ref (ρ l1)), (2, .int l2), (3, .int l3)]) X (by decide +kernel) (Nat.le_of_ble_eq_true rfl) rfl ?_
    refine v_iload (pc := 26) (k := 4) X (by decide +kernel) 0 rfl ?_
    refine v_if_ge (pc := 28) (off := 9) (tgt := 37) X (by decide +kernel) (by decide) (fun q6 => ?_) (fun q6 => ?_)
    · rw [if_pos q6] at hf
      refine v_aload_n (pc := 37) (k := 0) X (by decide +kernel) 1 rfl ?_
      obtain ⟨r2, er2, hf⟩ := bnd_e hf
      refine v_callV (pc := 38) (As := []) (rest := []) X (mt_Md_token ok hi kl0 er2) ml_12_212 mv_Md_token kl0 cls_12 rfl ⟨Nat.le_of_ble_eq_true rfl, Nat.le_of_ble_eq_true rfl⟩ rfl rfl (Nat.le_of_ble_eq_true rfl) (by decide +kernel) ?_
      change V E g tb ρ 5 41 [(4, .int r1), (0, .ref (ρ l0)), (1, .ref (ρ l1)), (2, .int l2), (3, .int l3)] [] r2
      refine v_aload_n (pc := 41) (k := 0) X (by decide +kernel) 1 rfl ?_
      refine v_iload (pc := 42) (k := 4) X (by decide +kernel) 0 rfl ?_
      obtain ⟨h3, eh3, hf⟩ := nmd_e hf
      refine v_puti (pc := 44) X fp_12_209 kl0 rfl (by decide +kernel) eh3 ?_
      refine v_iconst (pc := 47) (n := 1) X (by decide +kernel) ic_1 ?_
      cases hf
      exact v_zret (hz := rfl) X Y (by decide +kernel) rfl rfl
    · rw [if_neg q6] at hf
      refine v_aload_n (pc := 31) (k := 0) X (by decide +kernel) 1 rfl ?_
      refine v_iconst (pc := 32) (n := 4) X (by decide +kernel) ic_4 ?_
      obtain ⟨r4, er4, hf⟩ := nmd_e hf
      refine v_callV (pc := 33) (As := [.int (4 : Int32)]) (rest := []) X (mt_Md_wrong ok hi kl0 er4.symm) ml_12_202 mv_Md_wrong kl0 cls_12 rfl ⟨Nat.le_of_ble_eq_true rfl, Nat.le_of_ble_eq_true rfl⟩ rfl rfl (Nat.le_of_ble_eq_true rfl) (by decide +kernel) ?_
      change V E g tb ρ 5 36 [(4, .int r1), (0, .ref (ρ l0)), (1, .ref (ρ l1)), (2, .int l2), (3, .int l3)] [.int r4.1] r4.2
      obtain ⟨x5, ex5, hf⟩ := bnd_e hf
      obtain ⟨bx5, rfl⟩ := cZ_e ex5
      cases hf
      exact v_zret (hz := bx5) X Y (by decide +kernel) rfl rfl
  · rw [if_neg q9] at hf
    refine v_aload_n (pc := 8) (k := 0) X (by decide +kernel) 0 rfl ?_
    refine v_iconst (pc := 9) (n := 1) X (by decide +kernel) ic_1 ?_
    obtain ⟨r7, er7, hf⟩ := nmd_e hf
    refine v_callV (pc := 10) (As := [.int (1 : Int32)]) (rest := []) X (mt_Md_wrong ok hi kl0 er7.symm) ml_12_202 mv_Md_wrong kl0 cls_12 rfl ⟨Nat.le_of_ble_eq_true rfl, Nat.le_of_ble_eq_true rfl⟩ rfl rfl (Nat.le_of_ble_eq_true rfl) (by decide +kernel) ?_
    change V E g tb ρ 5 13 [(0, .ref (ρ l0)), (1, .ref (ρ l1)), (2, .int l2), (3, .int l3)] [.int r7.1] r7.2
    obtain ⟨x8, ex8, hf⟩ := bnd_e hf
    obtain ⟨bx8, rfl⟩ := cZ_e ex8
    cases hf
    exact v_zret (hz := bx8) X Y (by decide +kernel) rfl rfl
