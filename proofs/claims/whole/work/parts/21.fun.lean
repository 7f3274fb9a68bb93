def fc4_goesDeeper (N : Nat) (a0 : Nat) (x1 : Int32) (σ : Me) : Option (Int32 × Me) :=
  if x1 < (6 : Int32) then
    (qR σ 4 0 (some a0)).bind fun v9 =>
    (qI σ 10 2 v9).bind fun v13 =>
    (pI σ 10 2 v9 (v13 + (1 : Int32))).bind fun σ18 =>
    retZ (1 : Int32) σ18
  else
    retZ (0 : Int32) σ
set_option maxRecDepth 20000 in
set_option maxHeartbeats 2000000 in
theorem corc4_goesDeeper {Ω : Om} (N : Nat) (a0 : Nat) (x1 : Int32) (σ : Me) : Cor Ω tc4_goesDeeper 1 0 0 [vR (some a0), vI x1] σ ιI (fc4_goesDeeper N a0 x1 σ) := by
  refine Cor.of (by decide +kernel) (Nat.le_of_ble_eq_true rfl) (fun Γ hG => ?_)
  unfold fc4_goesDeeper
  show Sim Ω Γ 0 0 ιI 2 0 [(0, vR (some a0)), (1, vI x1)] [] σ 0 0 _
  refine s_iload_n hG dc4_goesDeeper_0 rfl ?_
  refine s_bipush (v := 6) hG dc4_goesDeeper_1 (by decide) ?_
  refine s_icmp_lt hG 8 dc4_goesDeeper_3 (by decide) ?_ ?_
  · refine s_aload_n hG dc4_goesDeeper_8 rfl ?_
    refine s_getR hG kFc4_15 rfl dc4_goesDeeper_9 (fun v9 => ?_)
    refine s_dup hG dc4_goesDeeper_12 rfl ?_
    refine s_getI hG kFc4_34 rfl dc4_goesDeeper_13 (fun v13 => ?_)
    refine s_iconst (v := 1) hG dc4_goesDeeper_16 (by decide) ?_
    refine s_iadd hG dc4_goesDeeper_17 ?_
    refine s_putI (fin := false) hG kFc4_34 rfl (fun h => by cases h) rfl (fun _ => rfl) (fun _ => rfl) dc4_goesDeeper_18 (fun σ18 => ?_)
    refine s_iconst (v := 1) hG dc4_goesDeeper_21 (by decide) ?_
    exact s_zret hG dc4_goesDeeper_22 rfl (Nat.le_of_ble_eq_true rfl) (Nat.le_of_ble_eq_true rfl)
  · refine s_iconst (v := 0) hG dc4_goesDeeper_6 (by decide) ?_
    exact s_zret hG dc4_goesDeeper_7 rfl (Nat.le_of_ble_eq_true rfl) (Nat.le_of_ble_eq_true rfl)
def fMt_max (N : Nat) (x0 : Int32) (x1 : Int32) (σ : Me) : Option (Int32 × Me) :=
  if x0 < x1 then
    some (x1, σ)
  else
    some (x0, σ)
set_option maxRecDepth 20000 in
set_option maxHeartbeats 2000000 in
theorem corMt_max {Ω : Om} (N : Nat) (x0 : Int32) (x1 : Int32) (σ : Me) : Cor Ω tMt_max 1 0 0 [vI x0, vI x1] σ ιI (fMt_max N x0 x1 σ) := by
  refine Cor.of (by decide +kernel) (Nat.le_of_ble_eq_true rfl) (fun Γ hG => ?_)
  unfold fMt_max
  show Sim Ω Γ 0 0 ιI 2 0 [(0, vI x0), (1, vI x1)] [] σ 0 0 _
  refine s_iload_n hG dMt_max_0 rfl ?_
  refine s_iload_n hG dMt_max_1 rfl ?_
  refine s_icmp_lt hG 9 dMt_max_2 (by decide) ?_ ?_
  · refine s_iload_n hG dMt_max_9 rfl ?_
    exact s_iret hG dMt_max_10 rfl (Nat.le_of_ble_eq_true rfl) (Nat.le_of_ble_eq_true rfl)
  · refine s_iload_n hG dMt_max_5 rfl ?_
    refine s_goto hG 10 dMt_max_6 (by decide) ?_
    exact s_iret hG dMt_max_10 rfl (Nat.le_of_ble_eq_true rfl) (Nat.le_of_ble_eq_true rfl)
def fMt_min (N : Nat) (x0 : Int32) (x1 : Int32) (σ : Me) : Option (Int32 × Me) :=
  if x1 < x0 then
    some (x1, σ)
  else
    some (x0, σ)
set_option maxRecDepth 20000 in
set_option maxHeartbeats 2000000 in
theorem corMt_min {Ω : Om} (N : Nat) (x0 : Int32) (x1 : Int32) (σ : Me) : Cor Ω tMt_min 1 0 0 [vI x0, vI x1] σ ιI (fMt_min N x0 x1 σ) := by
  refine Cor.of (by decide +kernel) (Nat.le_of_ble_eq_true rfl) (fun Γ hG => ?_)
  unfold fMt_min
  show Sim Ω Γ 0 0 ιI 2 0 [(0, vI x0), (1, vI x1)] [] σ 0 0 _
  refine s_iload_n hG dMt_min_0 rfl ?_
  refine s_iload_n hG dMt_min_1 rfl ?_
  refine s_icmp_gt hG 9 dMt_min_2 (by decide) ?_ ?_
  · refine s_iload_n hG dMt_min_9 rfl ?_
    exact s_iret hG dMt_min_10 rfl (Nat.le_of_ble_eq_true rfl) (Nat.le_of_ble_eq_true rfl)
  · refine s_iload_n hG dMt_min_5 rfl ?_
    refine s_goto hG 10 dMt_min_6 (by decide) ?_
    exact s_iret hG dMt_min_10 rfl (Nat.le_of_ble_eq_true rfl) (Nat.le_of_ble_eq_true rfl)
def fSl_canEncode (N : Nat) (x0 : Int32) (σ : Me) : Option (Int32 × Me) :=
  if x0 < 0 then
    retZ (0 : Int32) σ
  else
    if (255 : Int32) < x0 then
      retZ (0 : Int32) σ
    else
      retZ (1 : Int32) σ
set_option maxRecDepth 20000 in
set_option maxHeartbeats 2000000 in
theorem corSl_canEncode {Ω : Om} (N : Nat) (x0 : Int32) (σ : Me) : Cor Ω tSl_canEncode 1 0 0 [vI x0] σ ιI (fSl_canEncode N x0 σ) := by
  refine Cor.of (by decide +kernel) (Nat.le_of_ble_eq_true rfl) (fun Γ hG => ?_)
  unfold fSl_canEncode
  show Sim Ω Γ 0 0 ιI 1 0 [(0, vI x0)] [] σ 0 0 _
  refine s_iload_n hG dSl_canEncode_0 rfl ?_
  refine s_if_lt hG 15 dSl_canEncode_1 (by decide) ?_ ?_
  · refine s_iconst (v := 0) hG dSl_canEncode_15 (by decide) ?_
    exact s_zret hG dSl_canEncode_16 rfl (Nat.le_of_ble_eq_true rfl) (Nat.le_of_ble_eq_true rfl)
  · refine s_iload_n hG dSl_canEncode_4 rfl ?_
    refine s_sipush (v := 255) hG dSl_canEncode_5 (by decide) ?_
    refine s_icmp_gt hG 15 dSl_canEncode_8 (by decide) ?_ ?_
    · refine s_iconst (v := 0) hG dSl_canEncode_15 (by decide) ?_
      exact s_zret hG dSl_canEncode_16 rfl (Nat.le_of_ble_eq_true rfl) (Nat.le_of_ble_eq_true rfl)
    · refine s_iconst (v := 1) hG dSl_canEncode_11 (by decide) ?_
      refine s_goto hG 16 dSl_canEncode_12 (by decide) ?_
      exact s_zret hG dSl_canEncode_16 rfl (Nat.le_of_ble_eq_true rfl) (Nat.le_of_ble_eq_true rfl)
def fSl_indexOfChar_7 (N : Nat) : Nat → Option Nat → Int32 → Int32 → Int32 → Me → Option (Int32 × Me)
  | 0, _, _, _, _, _ => none
  | n + 1, l0, l3, l4, l5, σ =>
    if l3 ≤ l5 then
      some ((-1 : Int32), σ)
    else
      (ldB σ l0 l5).bind fun v16 =>
      if v16 = l4 then
        some (l5, σ)
      else
        (fSl_indexOfChar_7 N n) l0 l3 l4 (l5 + (1 : Int32)) σ
def fSl_indexOfChar (N : Nat) (x0 : Option Nat) (x1 : Int32) (x2 : Int32) (x3 : Int32) (σ : Me) : Option (Int32 × Me) :=
  fSl_indexOfChar_7 N N x0 x3 (Int8.toInt32 (Int32.toInt8 x1)) x2 σ
set_option maxRecDepth 20000 in
set_option maxHeartbeats 2000000 in
theorem pSl_indexOfChar_7 {Ω : Om} {Γ : Ga} {N : Nat} (hG : Good Ω Γ tSl_indexOfChar 1 0 0)  : ∀ (n : Nat) (l0 : Option Nat) (l3 : Int32) (l4 : Int32) (l5 : Int32) (σ : Me), Sim Ω Γ 0 0 ιI 6 7 [(0, vR l0), (3, vI l3), (4, vI l4), (5, vI l5)] [] σ 0 0 (fSl_indexOfChar_7 N n l0 l3 l4 l5 σ) := by
  intro n
  induction n with
  | zero => intros; exact s_none
  | succ n ih =>
    intro l0 l3 l4 l5 σ
    unfold fSl_indexOfChar_7
    refine s_iload hG dSl_indexOfChar_7 rfl ?_
    refine s_iload_n hG dSl_indexOfChar_9 rfl ?_
    refine s_icmp_ge hG 31 dSl_indexOfChar_10 (by decide) ?_ ?_
    · refine s_iconst (v := -1) hG dSl_indexOfChar_31 (by decide) ?_
      exact s_iret hG dSl_indexOfChar_32 rfl (Nat.le_of_ble_eq_true rfl) (Nat.le_of_ble_eq_true rfl)
    · refine s_aload_n hG dSl_indexOfChar_13 rfl ?_
      refine s_iload hG dSl_indexOfChar_14 rfl ?_
      refine s_bald hG dSl_indexOfChar_16 (fun v16 => ?_)
      refine s_iload hG dSl_indexOfChar_17 rfl ?_
      refine s_icmp_ne hG 25 dSl_indexOfChar_19 (by decide) ?_ ?_
      · refine s_iinc (v := 1) hG dSl_indexOfChar_25 rfl (by decide) (by decide) ?_
        refine s_goto hG 7 dSl_indexOfChar_28 (by decide) ?_
        exact s_lv (lc rfl (lc rfl (lc rfl (lc rfl ln)))) (ih _ _ _ _ _)
      · refine s_iload hG dSl_indexOfChar_22 rfl ?_
        exact s_iret hG dSl_indexOfChar_24 rfl (Nat.le_of_ble_eq_true rfl) (Nat.le_of_ble_eq_true rfl)
set_option maxRecDepth 20000 in
set_option maxHeartbeats 2000000 in
theorem corSl_indexOfChar {Ω : Om} (N : Nat) (x0 : Option Nat) (x1 : Int32) (x2 : Int32) (x3 : Int32) (σ : Me) : Cor Ω tSl_indexOfChar 1 0 0 [vR x0, vI x1, vI x2, vI x3] σ ιI (fSl_indexOfChar N x0 x1 x2 x3 σ) := by
  refine Cor.of (by decide +kernel) (Nat.le_of_ble_eq_true rfl) (fun Γ hG => ?_)
  unfold fSl_indexOfChar
  show Sim Ω Γ 0 0 ιI 6 0 [(0, vR x0), (1, vI x1), (2, vI x2), (3, vI x3)] [] σ 0 0 _
  refine s_iload_n hG dSl_indexOfChar_0 rfl ?_
  refine s_i2b hG dSl_indexOfChar_1 ?_
  refine s_istore hG dSl_indexOfChar_2 (by decide) ?_
  refine s_iload_n hG dSl_indexOfChar_4 rfl ?_
  refine s_istore hG dSl_indexOfChar_5 (by decide) ?_
  exact s_lv (lc rfl (lc rfl (lc rfl (lc rfl ln)))) (pSl_indexOfChar_7 hG _ _ _ _ _ _)
def fSl_indexOf (N : Nat) (x0 : Option Nat) (x1 : Int32) (x2 : Int32) (x3 : Int32) (σ : Me) : Option (Int32 × Me) :=
  (fSl_canEncode N x1 σ).bind fun p1 =>
  if p1.1 = 0 then
    some ((-1 : Int32), p1.2)
  else
    (fMt_max N x2 (0 : Int32) p1.2).bind fun p11 =>
    (aLn p11.2 .byte x0).bind fun v17 =>
    (fMt_min N x3 v17 p11.2).bind fun p18 =>
    if p11.1 < p18.1 then
      (fSl_indexOfChar N x0 x1 p11.1 p18.1 p18.2).bind fun p33 =>
      some (p33.1, p33.2)
    else
      some ((-1 : Int32), p18.2)
set_option maxRecDepth 20000 in
set_option maxHeartbeats 2000000 in
theorem corSl_indexOf {Ω : Om} (N : Nat) (x0 : Option Nat) (x1 : Int32) (x2 : Int32) (x3 : Int32) (σ : Me) : Cor Ω tSl_indexOf 2 0 0 [vR x0, vI x1, vI x2, vI x3] σ ιI (fSl_indexOf N x0 x1 x2 x3 σ) := by
  refine Cor.of (by decide +kernel) (Nat.le_of_ble_eq_true rfl) (fun Γ hG => ?_)
  unfold fSl_indexOf
  show Sim Ω Γ 0 0 ιI 4 0 [(0, vR x0), (1, vI x1), (2, vI x2), (3, vI x3)] [] σ 0 0 _
  refine s_iload_n hG dSl_indexOf_0 rfl ?_
  refine s_callSi hG kMSl_88 (corSl_canEncode N _ _) rfl (by first | decide | omega) dSl_indexOf_1 rfl rfl (Nat.le_of_ble_eq_true rfl) ⟨Nat.le_of_ble_eq_true rfl, Nat.le_of_ble_eq_true rfl⟩ (fun p1 => ?_)
  refine s_if_ne hG 9 dSl_indexOf_4 (by decide) ?_ ?_
  · refine s_iload_n hG dSl_indexOf_9 rfl ?_
    refine s_iconst (v := 0) hG dSl_indexOf_10 (by decide) ?_
    refine s_callSi hG kMSl_92 (corMt_max N _ _ _) rfl (by first | decide | omega) dSl_indexOf_11 rfl rfl (Nat.le_of_ble_eq_true rfl) ⟨Nat.le_of_ble_eq_true rfl, Nat.le_of_ble_eq_true rfl⟩ (fun p11 => ?_)
    refine s_istore_n hG dSl_indexOf_14 (by decide) ?_
    refine s_iload_n hG dSl_indexOf_15 rfl ?_
    refine s_aload_n hG dSl_indexOf_16 rfl ?_
    refine s_alen hG 1 rfl dSl_indexOf_17 (fun v17 => ?_)
    refine s_callSi hG kMSl_38 (corMt_min N _ _ _) rfl (by first | decide | omega) dSl_indexOf_18 rfl rfl (Nat.le_of_ble_eq_true rfl) ⟨Nat.le_of_ble_eq_true rfl, Nat.le_of_ble_eq_true rfl⟩ (fun p18 => ?_)
    refine s_istore_n hG dSl_indexOf_21 (by decide) ?_
    refine s_iload_n hG dSl_indexOf_22 rfl ?_
    refine s_iload_n hG dSl_indexOf_23 rfl ?_
    refine s_icmp_lt hG 29 dSl_indexOf_24 (by decide) ?_ ?_
    · refine s_aload_n hG dSl_indexOf_29 rfl ?_
      refine s_iload_n hG dSl_indexOf_30 rfl ?_
      refine s_iload_n hG dSl_indexOf_31 rfl ?_
      refine s_iload_n hG dSl_indexOf_32 rfl ?_
      refine s_callSi hG kMSl_95 (corSl_indexOfChar N _ _ _ _ _) rfl (by first | decide | omega) dSl_indexOf_33 rfl rfl (Nat.le_of_ble_eq_true rfl) ⟨Nat.le_of_ble_eq_true rfl, Nat.le_of_ble_eq_true rfl⟩ (fun p33 => ?_)
      exact s_iret hG dSl_indexOf_36 rfl (Nat.le_of_ble_eq_true rfl) (Nat.le_of_ble_eq_true rfl)
    · refine s_iconst (v := -1) hG dSl_indexOf_27 (by decide) ?_
      exact s_iret hG dSl_indexOf_28 rfl (Nat.le_of_ble_eq_true rfl) (Nat.le_of_ble_eq_true rfl)
  · refine s_iconst (v := -1) hG dSl_indexOf_7 (by decide) ?_
    exact s_iret hG dSl_indexOf_8 rfl (Nat.le_of_ble_eq_true rfl) (Nat.le_of_ble_eq_true rfl)
def fSr_isLatin1 (N : Nat) (a0 : Nat) (σ : Me) : Option (Int32 × Me) :=
  if (1 : Int32) = 0 then
    retZ (0 : Int32) σ
  else
    (sCd (some a0)).bind fun v7 =>
    if v7 = 0 then
      retZ (1 : Int32) σ
    else
      retZ (0 : Int32) σ
set_option maxRecDepth 20000 in
set_option maxHeartbeats 2000000 in
theorem corSr_isLatin1 {Ω : Om} (N : Nat) (a0 : Nat) (σ : Me) : Cor Ω tSr_isLatin1 1 0 0 [vR (some a0)] σ ιI (fSr_isLatin1 N a0 σ) := by
  refine Cor.of (by decide +kernel) (Nat.le_of_ble_eq_true rfl) (fun Γ hG => ?_)
  unfold fSr_isLatin1
  show Sim Ω Γ 0 0 ιI 1 0 [(0, vR (some a0))] [] σ 0 0 _
  refine s_getsZ hG kSSr_38 dSr_isLatin1_0 ?_
  refine s_if_eq hG 17 dSr_isLatin1_3 (by decide) ?_ ?_
  · refine s_iconst (v := 0) hG dSr_isLatin1_17 (by decide) ?_
    exact s_zret hG dSr_isLatin1_18 rfl (Nat.le_of_ble_eq_true rfl) (Nat.le_of_ble_eq_true rfl)
  · refine s_aload_n hG dSr_isLatin1_6 rfl ?_
    refine s_getSC hG kSSr_15 dSr_isLatin1_7 (fun v7 => ?_)
    refine s_if_ne hG 17 dSr_isLatin1_10 (by decide) ?_ ?_
    · refine s_iconst (v := 0) hG dSr_isLatin1_17 (by decide) ?_
      exact s_zret hG dSr_isLatin1_18 rfl (Nat.le_of_ble_eq_true rfl) (Nat.le_of_ble_eq_true rfl)
    · refine s_iconst (v := 1) hG dSr_isLatin1_13 (by decide) ?_
      refine s_goto hG 18 dSr_isLatin1_14 (by decide) ?_
      exact s_zret hG dSr_isLatin1_18 rfl (Nat.le_of_ble_eq_true rfl) (Nat.le_of_ble_eq_true rfl)
def fSr_coder (N : Nat) (a0 : Nat) (σ : Me) : Option (Int32 × Me) :=
  if (1 : Int32) = 0 then
    retN .byte (1 : Int32) σ
  else
    (sCd (some a0)).bind fun v7 =>
    retN .byte v7 σ
set_option maxRecDepth 20000 in
set_option maxHeartbeats 2000000 in
theorem corSr_coder {Ω : Om} (N : Nat) (a0 : Nat) (σ : Me) : Cor Ω tSr_coder 1 0 0 [vR (some a0)] σ ιI (fSr_coder N a0 σ) := by
  refine Cor.of (by decide +kernel) (Nat.le_of_ble_eq_true rfl) (fun Γ hG => ?_)
  unfold fSr_coder
  show Sim Ω Γ 0 0 ιI 1 0 [(0, vR (some a0))] [] σ 0 0 _
  refine s_getsZ hG kSSr_38 dSr_coder_0 ?_
  refine s_if_eq hG 13 dSr_coder_3 (by decide) ?_ ?_
  · refine s_iconst (v := 1) hG dSr_coder_13 (by decide) ?_
    exact s_nret hG dSr_coder_14 rfl (Nat.le_of_ble_eq_true rfl) (Nat.le_of_ble_eq_true rfl)
  · refine s_aload_n hG dSr_coder_6 rfl ?_
    refine s_getSC hG kSSr_15 dSr_coder_7 (fun v7 => ?_)
    refine s_goto hG 14 dSr_coder_10 (by decide) ?_
    exact s_nret hG dSr_coder_14 rfl (Nat.le_of_ble_eq_true rfl) (Nat.le_of_ble_eq_true rfl)
def fSr_length (N : Nat) (a0 : Nat) (σ : Me) : Option (Int32 × Me) :=
  (sVl (some a0)).bind fun v1 =>
  (aLn σ .byte v1).bind fun v4 =>
  (drS (some a0)).bind fun a =>
  (fSr_coder N a σ).bind fun p6 =>
  some ((v4 >>> (p6.1 &&& 31)), p6.2)
set_option maxRecDepth 20000 in
set_option maxHeartbeats 2000000 in
theorem corSr_length {Ω : Om} (N : Nat) (a0 : Nat) (σ : Me) : Cor Ω tSr_length 2 0 0 [vR (some a0)] σ ιI (fSr_length N a0 σ) := by
  refine Cor.of (by decide +kernel) (Nat.le_of_ble_eq_true rfl) (fun Γ hG => ?_)
  unfold fSr_length
  show Sim Ω Γ 0 0 ιI 1 0 [(0, vR (some a0))] [] σ 0 0 _
  refine s_aload_n hG dSr_length_0 rfl ?_
  refine s_getSV hG kSSr_9 dSr_length_1 (fun v1 => ?_)
  refine s_alen hG 1 rfl dSr_length_4 (fun v4 => ?_)
  refine s_aload_n hG dSr_length_5 rfl ?_
  refine s_callTi hG kMSr_335 (fun a => corSr_coder N a _) rfl rfl (by first | decide | omega) dSr_length_6 rfl rfl (Nat.le_of_ble_eq_true rfl) ⟨Nat.le_of_ble_eq_true rfl, Nat.le_of_ble_eq_true rfl⟩ (fun p6 => ?_)
  refine s_ishr hG dSr_length_9 ?_
  exact s_iret hG dSr_length_10 rfl (Nat.le_of_ble_eq_true rfl) (Nat.le_of_ble_eq_true rfl)
def fSr_indexOf2 (N : Nat) (a0 : Nat) (x1 : Int32) (x2 : Int32) (σ : Me) : Option (Int32 × Me) :=
  (drS (some a0)).bind fun a =>
  (fSr_isLatin1 N a σ).bind fun p1 =>
  if p1.1 = 0 then
    none
  else
    (sVl (some a0)).bind fun v8 =>
    (drS (some a0)).bind fun a =>
    (fSr_length N a p1.2).bind fun p14 =>
    (fSl_indexOf N v8 x1 x2 p14.1 p14.2).bind fun p17 =>
    some (p17.1, p17.2)
set_option maxRecDepth 20000 in
set_option maxHeartbeats 2000000 in
theorem corSr_indexOf2 {Ω : Om} (N : Nat) (a0 : Nat) (x1 : Int32) (x2 : Int32) (σ : Me) : Cor Ω tSr_indexOf2 3 0 0 [vR (some a0), vI x1, vI x2] σ ιI (fSr_indexOf2 N a0 x1 x2 σ) := by
  refine Cor.of (by decide +kernel) (Nat.le_of_ble_eq_true rfl) (fun Γ hG => ?_)
  unfold fSr_indexOf2
  show Sim Ω Γ 0 0 ιI 3 0 [(0, vR (some a0)), (1, vI x1), (2, vI x2)] [] σ 0 0 _
  refine s_aload_n hG dSr_indexOf2_0 rfl ?_
  refine s_callTi hG kMSr_492 (fun a => corSr_isLatin1 N a _) rfl rfl (by first | decide | omega) dSr_indexOf2_1 rfl rfl (Nat.le_of_ble_eq_true rfl) ⟨Nat.le_of_ble_eq_true rfl, Nat.le_of_ble_eq_true rfl⟩ (fun p1 => ?_)
  refine s_if_eq hG 23 dSr_indexOf2_4 (by decide) ?_ ?_
  · exact s_none
  · refine s_aload_n hG dSr_indexOf2_7 rfl ?_
    refine s_getSV hG kSSr_9 dSr_indexOf2_8 (fun v8 => ?_)
    refine s_iload_n hG dSr_indexOf2_11 rfl ?_
    refine s_iload_n hG dSr_indexOf2_12 rfl ?_
    refine s_aload_n hG dSr_indexOf2_13 rfl ?_
    refine s_callTi hG kMSr_505 (fun a => corSr_length N a _) rfl rfl (by first | decide | omega) dSr_indexOf2_14 rfl rfl (Nat.le_of_ble_eq_true rfl) ⟨Nat.le_of_ble_eq_true rfl, Nat.le_of_ble_eq_true rfl⟩ (fun p14 => ?_)
    refine s_callSi hG kMSr_637 (corSl_indexOf N _ _ _ _ _) rfl (by first | decide | omega) dSr_indexOf2_17 rfl rfl (Nat.le_of_ble_eq_true rfl) ⟨Nat.le_of_ble_eq_true rfl, Nat.le_of_ble_eq_true rfl⟩ (fun p17 => ?_)
    refine s_goto hG 36 dSr_indexOf2_20 (by decide) ?_
    exact s_iret hG dSr_indexOf2_36 rfl (Nat.le_of_ble_eq_true rfl) (Nat.le_of_ble_eq_true rfl)
def fSr_indexOf (N : Nat) (a0 : Nat) (x1 : Int32) (σ : Me) : Option (Int32 × Me) :=
  (drS (some a0)).bind fun a =>
  (fSr_indexOf2 N a x1 (0 : Int32) σ).bind fun p3 =>
  some (p3.1, p3.2)
set_option maxRecDepth 20000 in
set_option maxHeartbeats 2000000 in
theorem corSr_indexOf {Ω : Om} (N : Nat) (a0 : Nat) (x1 : Int32) (σ : Me) : Cor Ω tSr_indexOf 4 0 0 [vR (some a0), vI x1] σ ιI (fSr_indexOf N a0 x1 σ) := by
  refine Cor.of (by decide +kernel) (Nat.le_of_ble_eq_true rfl) (fun Γ hG => ?_)
  unfold fSr_indexOf
  show Sim Ω Γ 0 0 ιI 2 0 [(0, vR (some a0)), (1, vI x1)] [] σ 0 0 _
  refine s_aload_n hG dSr_indexOf_0 rfl ?_
  refine s_iload_n hG dSr_indexOf_1 rfl ?_
  refine s_iconst (v := 0) hG dSr_indexOf_2 (by decide) ?_
  refine s_callTi hG kMSr_633 (fun a => corSr_indexOf2 N a _ _ _) rfl rfl (by first | decide | omega) dSr_indexOf_3 rfl rfl (Nat.le_of_ble_eq_true rfl) ⟨Nat.le_of_ble_eq_true rfl, Nat.le_of_ble_eq_true rfl⟩ (fun p3 => ?_)
  exact s_iret hG dSr_indexOf_6 rfl (Nat.le_of_ble_eq_true rfl) (Nat.le_of_ble_eq_true rfl)
def fc10_isDigit (N : Nat) (x0 : Int32) (σ : Me) : Option (Int32 × Me) :=
  if x0 < (48 : Int32) then
    retZ (0 : Int32) σ
  else
    if (57 : Int32) < x0 then
      retZ (0 : Int32) σ
    else
      retZ (1 : Int32) σ
set_option maxRecDepth 20000 in
set_option maxHeartbeats 2000000 in
theorem corc10_isDigit {Ω : Om} (N : Nat) (x0 : Int32) (σ : Me) : Cor Ω tc10_isDigit 1 0 0 [vI x0] σ ιI (fc10_isDigit N x0 σ) := by
  refine Cor.of (by decide +kernel) (Nat.le_of_ble_eq_true rfl) (fun Γ hG => ?_)
  unfold fc10_isDigit
  show Sim Ω Γ 0 0 ιI 1 0 [(0, vI x0)] [] σ 0 0 _
  refine s_iload_n hG dc10_isDigit_0 rfl ?_
  refine s_bipush (v := 48) hG dc10_isDigit_1 (by decide) ?_
  refine s_icmp_lt hG 16 dc10_isDigit_3 (by decide) ?_ ?_
  · refine s_iconst (v := 0) hG dc10_isDigit_16 (by decide) ?_
    exact s_zret hG dc10_isDigit_17 rfl (Nat.le_of_ble_eq_true rfl) (Nat.le_of_ble_eq_true rfl)
  · refine s_iload_n hG dc10_isDigit_6 rfl ?_
    refine s_bipush (v := 57) hG dc10_isDigit_7 (by decide) ?_
    refine s_icmp_gt hG 16 dc10_isDigit_9 (by decide) ?_ ?_
    · refine s_iconst (v := 0) hG dc10_isDigit_16 (by decide) ?_
      exact s_zret hG dc10_isDigit_17 rfl (Nat.le_of_ble_eq_true rfl) (Nat.le_of_ble_eq_true rfl)
    · refine s_iconst (v := 1) hG dc10_isDigit_12 (by decide) ?_
      refine s_goto hG 17 dc10_isDigit_13 (by decide) ?_
      exact s_zret hG dc10_isDigit_17 rfl (Nat.le_of_ble_eq_true rfl) (Nat.le_of_ble_eq_true rfl)
def fc10_number_68 (N : Nat) (l0 : Option Nat) (l2 : Int32) (σ : Me) : Option (Int32 × Me) :=
  (qI σ 10 2 l0).bind fun v70 =>
  (dr σ l0 (.inl 10)).bind fun a =>
  (fc10_signAt N a v70 σ).bind fun p73 =>
  (fc10_isDigit N p73.1 p73.2).bind fun p76 =>
  if p76.1 = 0 then
    some (l2, p76.2)
  else
    some ((-1 : Int32), p76.2)
def fc10_number_16 (N : Nat) : Nat → Option Nat → Int32 → Int32 → Int32 → Me → Option (Int32 × Me)
  | 0, _, _, _, _, _ => none
  | n + 1, l0, l1, l2, l3, σ =>
    if l1 ≤ l3 then
      fc10_number_68 N l0 l2 σ
    else
      (qI σ 10 2 l0).bind fun v23 =>
      (dr σ l0 (.inl 10)).bind fun a =>
      (fc10_signAt N a v23 σ).bind fun p26 =>
      (fc10_isDigit N p26.1 p26.2).bind fun p29 =>
      if p29.1 = 0 then
        fc10_number_68 N l0 l2 p29.2
      else
        (qI p29.2 10 2 l0).bind fun v41 =>
        (dr p29.2 l0 (.inl 10)).bind fun a =>
        (fc10_signAt N a v41 p29.2).bind fun p44 =>
        (qI p44.2 10 2 l0).bind fun v54 =>
        (pI p44.2 10 2 l0 (v54 + (1 : Int32))).bind fun σ59 =>
        (fc10_number_16 N n) l0 l1 ((((10 : Int32) * l2) + p44.1) - (48 : Int32)) (l3 + (1 : Int32)) σ59
def fc10_number (N : Nat) (a0 : Nat) (x1 : Int32) (σ : Me) : Option (Int32 × Me) :=
  (dr σ (some a0) (.inl 10)).bind fun a =>
  (fc10_next N a σ).bind fun p1 =>
  (fc10_isDigit N p1.1 p1.2).bind fun p4 =>
  if p4.1 = 0 then
    some ((-1 : Int32), p4.2)
  else
    fc10_number_16 N N (some a0) x1 (0 : Int32) (0 : Int32) p4.2
set_option maxRecDepth 20000 in
set_option maxHeartbeats 2000000 in
theorem pc10_number_68 {Ω : Om} {Γ : Ga} {N : Nat} (hG : Good Ω Γ tc10_number 2 0 0) (l0 : Option Nat) (l2 : Int32) (σ : Me) : Sim Ω Γ 0 0 ιI 4 68 [(0, vR l0), (2, vI l2)] [] σ 0 0 (fc10_number_68 N l0 l2 σ) := by
  unfold fc10_number_68
  refine s_aload_n hG dc10_number_68 rfl ?_
  refine s_aload_n hG dc10_number_69 rfl ?_
  refine s_getI hG kFc10_19 rfl dc10_number_70 (fun v70 => ?_)
  refine s_callVi hG kMc10_30 (fun a => corc10_signAt N a _ _) ⟨by decide, rfl⟩ rfl (by first | decide | omega) dc10_number_73 rfl rfl (Nat.le_of_ble_eq_true rfl) ⟨Nat.le_of_ble_eq_true rfl, Nat.le_of_ble_eq_true rfl⟩ (fun p73 => ?_)
  refine s_callSi hG kMc10_26 (corc10_isDigit N _ _) rfl (by first | decide | omega) dc10_number_76 rfl rfl (Nat.le_of_ble_eq_true rfl) ⟨Nat.le_of_ble_eq_true rfl, Nat.le_of_ble_eq_true rfl⟩ (fun p76 => ?_)
  refine s_if_eq hG 86 dc10_number_79 (by decide) ?_ ?_
  · refine s_iload_n hG dc10_number_86 rfl ?_
    exact s_iret hG dc10_number_87 rfl (Nat.le_of_ble_eq_true rfl) (Nat.le_of_ble_eq_true rfl)
  · refine s_iconst (v := -1) hG dc10_number_82 (by decide) ?_
    refine s_goto hG 87 dc10_number_83 (by decide) ?_
    exact s_iret hG dc10_number_87 rfl (Nat.le_of_ble_eq_true rfl) (Nat.le_of_ble_eq_true rfl)
set_option maxRecDepth 20000 in
set_option maxHeartbeats 2000000 in
theorem pc10_number_16 {Ω : Om} {Γ : Ga} {N : Nat} (hG : Good Ω Γ tc10_number 2 0 0)  : ∀ (n : Nat) (l0 : Option Nat) (l1 : Int32) (l2 : Int32) (l3 : Int32) (σ : Me), Sim Ω Γ 0 0 ιI 4 16 [(0, vR l0), (1, vI l1), (2, vI l2), (3, vI l3)] [] σ 0 0 (fc10_number_16 N n l0 l1 l2 l3 σ) := by
  intro n
  induction n with
  | zero => intros; exact s_none
  | succ n ih =>
    intro l0 l1 l2 l3 σ
    unfold fc10_number_16
    refine s_iload_n hG dc10_number_16 rfl ?_
    refine s_iload_n hG dc10_number_17 rfl ?_
    refine s_icmp_ge hG 68 dc10_number_18 (by decide) ?_ ?_
    · exact s_lv (lc rfl (lc rfl ln)) (pc10_number_68 hG _ _ _)
    · refine s_aload_n hG dc10_number_21 rfl ?_
      refine s_aload_n hG dc10_number_22 rfl ?_
      refine s_getI hG kFc10_19 rfl dc10_number_23 (fun v23 => ?_)
      refine s_callVi hG kMc10_30 (fun a => corc10_signAt N a _ _) ⟨by decide, rfl⟩ rfl (by first | decide | omega) dc10_number_26 rfl rfl (Nat.le_of_ble_eq_true rfl) ⟨Nat.le_of_ble_eq_true rfl, Nat.le_of_ble_eq_true rfl⟩ (fun p26 => ?_)
      refine s_callSi hG kMc10_26 (corc10_isDigit N _ _) rfl (by first | decide | omega) dc10_number_29 rfl rfl (Nat.le_of_ble_eq_true rfl) ⟨Nat.le_of_ble_eq_true rfl, Nat.le_of_ble_eq_true rfl⟩ (fun p29 => ?_)
      refine s_if_eq hG 68 dc10_number_32 (by decide) ?_ ?_
      · exact s_lv (lc rfl (lc rfl ln)) (pc10_number_68 hG _ _ _)
      · refine s_bipush (v := 10) hG dc10_number_35 (by decide) ?_
        refine s_iload_n hG dc10_number_37 rfl ?_
        refine s_imul hG dc10_number_38 ?_
        refine s_aload_n hG dc10_number_39 rfl ?_
        refine s_aload_n hG dc10_number_40 rfl ?_
        refine s_getI hG kFc10_19 rfl dc10_number_41 (fun v41 => ?_)
        refine s_callVi hG kMc10_30 (fun a => corc10_signAt N a _ _) ⟨by decide, rfl⟩ rfl (by first | decide | omega) dc10_number_44 rfl rfl (Nat.le_of_ble_eq_true rfl) ⟨Nat.le_of_ble_eq_true rfl, Nat.le_of_ble_eq_true rfl⟩ (fun p44 => ?_)
        refine s_iadd hG dc10_number_47 ?_
        refine s_bipush (v := 48) hG dc10_number_48 (by decide) ?_
        refine s_isub hG dc10_number_50 ?_
        refine s_istore_n hG dc10_number_51 (by decide) ?_
        refine s_aload_n hG dc10_number_52 rfl ?_
        refine s_dup hG dc10_number_53 rfl ?_
        refine s_getI hG kFc10_19 rfl dc10_number_54 (fun v54 => ?_)
        refine s_iconst (v := 1) hG dc10_number_57 (by decide) ?_
        refine s_iadd hG dc10_number_58 ?_
        refine s_putI (fin := false) hG kFc10_19 rfl (fun h => by cases h) rfl (fun _ => rfl) (fun _ => rfl) dc10_number_59 (fun σ59 => ?_)
        refine s_iinc (v := 1) hG dc10_number_62 rfl (by decide) (by decide) ?_
        refine s_goto hG 16 dc10_number_65 (by decide) ?_
        exact s_lv (lc rfl (lc rfl (lc rfl (lc rfl ln)))) (ih _ _ _ _ _)
set_option maxRecDepth 20000 in
set_option maxHeartbeats 2000000 in
theorem corc10_number {Ω : Om} (N : Nat) (a0 : Nat) (x1 : Int32) (σ : Me) : Cor Ω tc10_number 2 0 0 [vR (some a0), vI x1] σ ιI (fc10_number N a0 x1 σ) := by
  refine Cor.of (by decide +kernel) (Nat.le_of_ble_eq_true rfl) (fun Γ hG => ?_)
  unfold fc10_number
  show Sim Ω Γ 0 0 ιI 4 0 [(0, vR (some a0)), (1, vI x1)] [] σ 0 0 _
  refine s_aload_n hG dc10_number_0 rfl ?_
  refine s_callVi hG kMc10_22 (fun a => corc10_next N a _) ⟨by decide, rfl⟩ rfl (by first | decide | omega) dc10_number_1 rfl rfl (Nat.le_of_ble_eq_true rfl) ⟨Nat.le_of_ble_eq_true rfl, Nat.le_of_ble_eq_true rfl⟩ (fun p1 => ?_)
  refine s_callSi hG kMc10_26 (corc10_isDigit N _ _) rfl (by first | decide | omega) dc10_number_4 rfl rfl (Nat.le_of_ble_eq_true rfl) ⟨Nat.le_of_ble_eq_true rfl, Nat.le_of_ble_eq_true rfl⟩ (fun p4 => ?_)
  refine s_if_ne hG 12 dc10_number_7 (by decide) ?_ ?_
  · refine s_iconst (v := 0) hG dc10_number_12 (by decide) ?_
    refine s_istore_n hG dc10_number_13 (by decide) ?_
    refine s_iconst (v := 0) hG dc10_number_14 (by decide) ?_
    refine s_istore_n hG dc10_number_15 (by decide) ?_
    exact s_lv (lc rfl (lc rfl (lc rfl (lc rfl ln)))) (pc10_number_16 hG _ _ _ _ _ _)
  · refine s_iconst (v := -1) hG dc10_number_10 (by decide) ?_
    exact s_iret hG dc10_number_11 rfl (Nat.le_of_ble_eq_true rfl) (Nat.le_of_ble_eq_true rfl)
def fc4_write (N : Nat) (a0 : Nat) (x1 : Int32) (σ : Me) : Option (Int32 × Me) :=
  (qI σ 4 2 (some a0)).bind fun v1 =>
  (qR σ 4 1 (some a0)).bind fun v5 =>
  (aLn σ .int v5).bind fun v8 =>
  if v1 < v8 then
    (qR σ 4 1 (some a0)).bind fun v15 =>
    (qI σ 4 2 (some a0)).bind fun v20 =>
    (pI σ 4 2 (some a0) (v20 + (1 : Int32))).bind fun σ26 =>
    (stI σ26 v15 v20 x1).bind fun σ30 =>
    retZ (1 : Int32) σ30
  else
    retZ (0 : Int32) σ
set_option maxRecDepth 20000 in
set_option maxHeartbeats 2000000 in
theorem corc4_write {Ω : Om} (N : Nat) (a0 : Nat) (x1 : Int32) (σ : Me) : Cor Ω tc4_write 1 0 0 [vR (some a0), vI x1] σ ιI (fc4_write N a0 x1 σ) := by
  refine Cor.of (by decide +kernel) (Nat.le_of_ble_eq_true rfl) (fun Γ hG => ?_)
  unfold fc4_write
  show Sim Ω Γ 0 0 ιI 2 0 [(0, vR (some a0)), (1, vI x1)] [] σ 0 0 _
  refine s_aload_n hG dc4_write_0 rfl ?_
  refine s_getI hG kFc4_21 rfl dc4_write_1 (fun v1 => ?_)
  refine s_aload_n hG dc4_write_4 rfl ?_
  refine s_getR hG kFc4_9 rfl dc4_write_5 (fun v5 => ?_)
  refine s_alen hG 0 rfl dc4_write_8 (fun v8 => ?_)
  refine s_icmp_lt hG 14 dc4_write_9 (by decide) ?_ ?_
  · refine s_aload_n hG dc4_write_14 rfl ?_
    refine s_getR hG kFc4_9 rfl dc4_write_15 (fun v15 => ?_)
    refine s_aload_n hG dc4_write_18 rfl ?_
    refine s_dup hG dc4_write_19 rfl ?_
    refine s_getI hG kFc4_21 rfl dc4_write_20 (fun v20 => ?_)
    refine s_dup_x1 hG dc4_write_23 rfl rfl ?_
    refine s_iconst (v := 1) hG dc4_write_24 (by decide) ?_
    refine s_iadd hG dc4_write_25 ?_
    refine s_putI (fin := false) hG kFc4_21 rfl (fun h => by cases h) rfl (fun _ => rfl) (fun _ => rfl) dc4_write_26 (fun σ26 => ?_)
    refine s_iload_n hG dc4_write_29 rfl ?_
    refine s_iast hG dc4_write_30 (fun σ30 => ?_)
    refine s_iconst (v := 1) hG dc4_write_31 (by decide) ?_
    exact s_zret hG dc4_write_32 rfl (Nat.le_of_ble_eq_true rfl) (Nat.le_of_ble_eq_true rfl)
  · refine s_iconst (v := 0) hG dc4_write_12 (by decide) ?_
    exact s_zret hG dc4_write_13 rfl (Nat.le_of_ble_eq_true rfl) (Nat.le_of_ble_eq_true rfl)
abbrev Rc4_readAtom : Type := (Nat → Int32 → Me → Option (Int32 × Me)) × (Nat → Int32 → Me → Option (Int32 × Me)) × (Nat → Int32 → Me → Option (Int32 × Me))
def bc4_readAtom (N : Nat) (G : Rc4_readAtom) (a0 : Nat) (x1 : Int32) (σ : Me) : Option (Int32 × Me) :=
  (qR σ 4 0 (some a0)).bind fun v1 =>
  (dr σ v1 (.inl 10)).bind fun a =>
  (fc10_next N a σ).bind fun p4 =>
  if p4.1 = (91 : Int32) then
    (dr p4.2 (some a0) (.inl 4)).bind fun a =>
    (fc4_goesDeeper N a x1 p4.2).bind fun p16 =>
    if p16.1 = 0 then
      retZ (0 : Int32) p16.2
    else
      (dr p16.2 (some a0) (.inl 4)).bind fun a =>
      (G.2.1 a (x1 + (1 : Int32)) p16.2).bind fun p26 =>
      if p26.1 = 0 then
        retZ (0 : Int32) p26.2
      else
        (qR p26.2 4 0 (some a0)).bind fun v33 =>
        (dr p26.2 v33 (.inl 10)).bind fun a =>
        (fc10_take N a (93 : Int32) p26.2).bind fun p38 =>
        if p38.1 = 0 then
          retZ (0 : Int32) p38.2
        else
          retZ (1 : Int32) p38.2
  else
    (drS (some 1000022)).bind fun a =>
    (fSr_indexOf N a (UInt32.toInt32 (Int32.toUInt32 p4.1 % 65536)) p4.2).bind fun p54 =>
    if p54.1 < 0 then
      (qR p54.2 4 0 (some a0)).bind fun v84 =>
      (dr p54.2 v84 (.inl 10)).bind fun a =>
      (fc10_number N a (4 : Int32) p54.2).bind fun p88 =>
      if p88.1 = (-1 : Int32) then
        retZ (0 : Int32) p88.2
      else
        (dr p88.2 (some a0) (.inl 4)).bind fun a =>
        (fc4_write N a p88.1 p88.2).bind fun p102 =>
        if p102.1 = 0 then
          retZ (0 : Int32) p102.2
        else
          retZ (1 : Int32) p102.2
    else
      (qR p54.2 4 0 (some a0)).bind fun v63 =>
      (qI p54.2 10 2 v63).bind fun v67 =>
      (pI p54.2 10 2 v63 (v67 + (1 : Int32))).bind fun σ72 =>
      (dr σ72 (some a0) (.inl 4)).bind fun a =>
      (fc4_write N a ((-1 : Int32) - p54.1) σ72).bind fun p79 =>
      retZ p79.1 p79.2
def fc4_readSum_42 (N : Nat) (G : Rc4_readAtom) (K12 : Option Nat → Int32 → Int32 → Me → Option (Int32 × Me)) (l0 : Option Nat) (l1 : Int32) (l2 : Int32) (l3 : Int32) (σ : Me) : Option (Int32 × Me) :=
  (qR σ 4 0 l0).bind fun v43 =>
  (qI σ 10 2 v43).bind fun v47 =>
  (pI σ 10 2 v43 (v47 + (1 : Int32))).bind fun σ52 =>
  (dr σ52 l0 (.inl 4)).bind fun a =>
  (G.2.2 a l1 σ52).bind fun p57 =>
  if p57.1 = 0 then
    retZ (0 : Int32) p57.2
  else
    (dr p57.2 l0 (.inl 4)).bind fun a =>
    (fc4_write N a (-l3) p57.2).bind fun p66 =>
    if p66.1 = 0 then
      retZ (0 : Int32) p66.2
    else
      K12 l0 l1 (l2 + (1 : Int32)) p66.2
def fc4_readSum_12 (N : Nat) (G : Rc4_readAtom) : Nat → Option Nat → Int32 → Int32 → Me → Option (Int32 × Me)
  | 0, _, _, _, _ => none
  | n + 1, l0, l1, l2, σ =>
    if (240 : Int32) ≤ l2 then
      retZ (1 : Int32) σ
    else
      (qR σ 4 0 l0).bind fun v20 =>
      (dr σ v20 (.inl 10)).bind fun a =>
      (fc10_next N a σ).bind fun p23 =>
      if p23.1 = (43 : Int32) then
        fc4_readSum_42 N G (fc4_readSum_12 N G n) l0 l1 l2 p23.1 p23.2
      else
        if p23.1 = (45 : Int32) then
          fc4_readSum_42 N G (fc4_readSum_12 N G n) l0 l1 l2 p23.1 p23.2
        else
          retZ (1 : Int32) p23.2
def bc4_readSum (N : Nat) (G : Rc4_readAtom) (a0 : Nat) (x1 : Int32) (σ : Me) : Option (Int32 × Me) :=
  (dr σ (some a0) (.inl 4)).bind fun a =>
  (G.2.2 a x1 σ).bind fun p2 =>
  if p2.1 = 0 then
    retZ (0 : Int32) p2.2
  else
    fc4_readSum_12 N G N (some a0) x1 (0 : Int32) p2.2
def fc4_readTerm_42 (N : Nat) (G : Rc4_readAtom) (K12 : Option Nat → Int32 → Int32 → Me → Option (Int32 × Me)) (l0 : Option Nat) (l1 : Int32) (l2 : Int32) (l3 : Int32) (σ : Me) : Option (Int32 × Me) :=
  (qR σ 4 0 l0).bind fun v43 =>
  (qI σ 10 2 v43).bind fun v47 =>
  (pI σ 10 2 v43 (v47 + (1 : Int32))).bind fun σ52 =>
  (dr σ52 l0 (.inl 4)).bind fun a =>
  (G.1 a l1 σ52).bind fun p57 =>
  if p57.1 = 0 then
    retZ (0 : Int32) p57.2
  else
    (dr p57.2 l0 (.inl 4)).bind fun a =>
    (fc4_write N a (-l3) p57.2).bind fun p66 =>
    if p66.1 = 0 then
      retZ (0 : Int32) p66.2
    else
      K12 l0 l1 (l2 + (1 : Int32)) p66.2
def fc4_readTerm_12 (N : Nat) (G : Rc4_readAtom) : Nat → Option Nat → Int32 → Int32 → Me → Option (Int32 × Me)
  | 0, _, _, _, _ => none
  | n + 1, l0, l1, l2, σ =>
    if (240 : Int32) ≤ l2 then
      retZ (1 : Int32) σ
    else
      (qR σ 4 0 l0).bind fun v20 =>
      (dr σ v20 (.inl 10)).bind fun a =>
      (fc10_next N a σ).bind fun p23 =>
      if p23.1 = (42 : Int32) then
        fc4_readTerm_42 N G (fc4_readTerm_12 N G n) l0 l1 l2 p23.1 p23.2
      else
        if p23.1 = (47 : Int32) then
          fc4_readTerm_42 N G (fc4_readTerm_12 N G n) l0 l1 l2 p23.1 p23.2
        else
          retZ (1 : Int32) p23.2
def bc4_readTerm (N : Nat) (G : Rc4_readAtom) (a0 : Nat) (x1 : Int32) (σ : Me) : Option (Int32 × Me) :=
  (dr σ (some a0) (.inl 4)).bind fun a =>
  (G.1 a x1 σ).bind fun p2 =>
  if p2.1 = 0 then
    retZ (0 : Int32) p2.2
  else
    fc4_readTerm_12 N G N (some a0) x1 (0 : Int32) p2.2
def GRc4_readAtom (N : Nat) : Nat → Rc4_readAtom
  | 0 => (fun _ _ _ => none, fun _ _ _ => none, fun _ _ _ => none)
  | D + 1 => (bc4_readAtom N (GRc4_readAtom N D), bc4_readSum N (GRc4_readAtom N D), bc4_readTerm N (GRc4_readAtom N D))
def fc4_readAtom (N : Nat) (a0 : Nat) (x1 : Int32) (σ : Me) : Option (Int32 × Me) := (GRc4_readAtom N 64).1 a0 x1 σ
def fc4_readSum (N : Nat) (a0 : Nat) (x1 : Int32) (σ : Me) : Option (Int32 × Me) := (GRc4_readAtom N 64).2.1 a0 x1 σ
def fc4_readTerm (N : Nat) (a0 : Nat) (x1 : Int32) (σ : Me) : Option (Int32 × Me) := (GRc4_readAtom N 64).2.2 a0 x1 σ
def HRc4_readAtom (Ω : Om) (D : Nat) (G : Rc4_readAtom) : Prop := (∀ (a0 : Nat) (x1 : Int32) (σ : Me), Cor Ω tc4_readAtom (5 + D) 0 0 [vR (some a0), vI x1] σ ιI (G.1 a0 x1 σ)) ∧ (∀ (a0 : Nat) (x1 : Int32) (σ : Me), Cor Ω tc4_readSum (5 + D) 0 0 [vR (some a0), vI x1] σ ιI (G.2.1 a0 x1 σ)) ∧ (∀ (a0 : Nat) (x1 : Int32) (σ : Me), Cor Ω tc4_readTerm (5 + D) 0 0 [vR (some a0), vI x1] σ ιI (G.2.2 a0 x1 σ))
set_option maxRecDepth 20000 in
set_option maxHeartbeats 2000000 in
theorem corbc4_readAtom {Ω : Om} {N D : Nat} {G : Rc4_readAtom} (hC : HRc4_readAtom Ω D G) (a0 : Nat) (x1 : Int32) (σ : Me) : Cor Ω tc4_readAtom (6 + D) 0 0 [vR (some a0), vI x1] σ ιI (bc4_readAtom N G a0 x1 σ) := by
  refine Cor.of (by decide +kernel) (Nat.le_of_ble_eq_true rfl) (fun Γ hG => ?_)
  unfold bc4_readAtom
  show Sim Ω Γ 0 0 ιI 5 0 [(0, vR (some a0)), (1, vI x1)] [] σ 0 0 _
  refine s_aload_n hG dc4_readAtom_0 rfl ?_
  refine s_getR hG kFc4_15 rfl dc4_readAtom_1 (fun v1 => ?_)
  refine s_callVi hG kMc4_43 (fun a => corc10_next N a _) ⟨by decide, rfl⟩ rfl (by first | decide | omega) dc4_readAtom_4 rfl rfl (Nat.le_of_ble_eq_true rfl) ⟨Nat.le_of_ble_eq_true rfl, Nat.le_of_ble_eq_true rfl⟩ (fun p4 => ?_)
  refine s_istore_n hG dc4_readAtom_7 (by decide) ?_
  refine s_iload_n hG dc4_readAtom_8 rfl ?_
  refine s_bipush (v := 91) hG dc4_readAtom_9 (by decide) ?_
  refine s_icmp_ne hG 50 dc4_readAtom_11 (by decide) ?_ ?_
  · refine s_ldcS hG 2 (by decide) rfl rfl dc4_readAtom_50 ?_
    refine s_iload_n hG dc4_readAtom_52 rfl ?_
    refine s_i2c hG dc4_readAtom_53 ?_
    refine s_callTi hG kMc4_90 (fun a => corSr_indexOf N a _ _) rfl rfl (by first | decide | omega) dc4_readAtom_54 rfl rfl (Nat.le_of_ble_eq_true rfl) ⟨Nat.le_of_ble_eq_true rfl, Nat.le_of_ble_eq_true rfl⟩ (fun p54 => ?_)
    refine s_istore_n hG dc4_readAtom_57 (by decide) ?_
    refine s_iload_n hG dc4_readAtom_58 rfl ?_
    refine s_if_lt hG 83 dc4_readAtom_59 (by decide) ?_ ?_
    · refine s_aload_n hG dc4_readAtom_83 rfl ?_
      refine s_getR hG kFc4_15 rfl dc4_readAtom_84 (fun v84 => ?_)
      refine s_iconst (v := 4) hG dc4_readAtom_87 (by decide) ?_
      refine s_callVi hG kMc4_95 (fun a => corc10_number N a _ _) ⟨by decide, rfl⟩ rfl (by first | decide | omega) dc4_readAtom_88 rfl rfl (Nat.le_of_ble_eq_true rfl) ⟨Nat.le_of_ble_eq_true rfl, Nat.le_of_ble_eq_true rfl⟩ (fun p88 => ?_)
      refine s_istore hG dc4_readAtom_91 (by decide) ?_
      refine s_iload hG dc4_readAtom_93 rfl ?_
      refine s_iconst (v := -1) hG dc4_readAtom_95 (by decide) ?_
      refine s_icmp_eq hG 112 dc4_readAtom_96 (by decide) ?_ ?_
      · refine s_iconst (v := 0) hG dc4_readAtom_112 (by decide) ?_
        exact s_zret hG dc4_readAtom_113 rfl (Nat.le_of_ble_eq_true rfl) (Nat.le_of_ble_eq_true rfl)
      · refine s_aload_n hG dc4_readAtom_99 rfl ?_
        refine s_iload hG dc4_readAtom_100 rfl ?_
        refine s_callVi hG kMc4_57 (fun a => corc4_write N a _ _) ⟨by decide, rfl⟩ rfl (by first | decide | omega) dc4_readAtom_102 rfl rfl (Nat.le_of_ble_eq_true rfl) ⟨Nat.le_of_ble_eq_true rfl, Nat.le_of_ble_eq_true rfl⟩ (fun p102 => ?_)
        refine s_if_eq hG 112 dc4_readAtom_105 (by decide) ?_ ?_
        · refine s_iconst (v := 0) hG dc4_readAtom_112 (by decide) ?_
          exact s_zret hG dc4_readAtom_113 rfl (Nat.le_of_ble_eq_true rfl) (Nat.le_of_ble_eq_true rfl)
        · refine s_iconst (v := 1) hG dc4_readAtom_108 (by decide) ?_
          refine s_goto hG 113 dc4_readAtom_109 (by decide) ?_
          exact s_zret hG dc4_readAtom_113 rfl (Nat.le_of_ble_eq_true rfl) (Nat.le_of_ble_eq_true rfl)
    · refine s_aload_n hG dc4_readAtom_62 rfl ?_
      refine s_getR hG kFc4_15 rfl dc4_readAtom_63 (fun v63 => ?_)
      refine s_dup hG dc4_readAtom_66 rfl ?_
      refine s_getI hG kFc4_34 rfl dc4_readAtom_67 (fun v67 => ?_)
      refine s_iconst (v := 1) hG dc4_readAtom_70 (by decide) ?_
      refine s_iadd hG dc4_readAtom_71 ?_
      refine s_putI (fin := false) hG kFc4_34 rfl (fun h => by cases h) rfl (fun _ => rfl) (fun _ => rfl) dc4_readAtom_72 (fun σ72 => ?_)
      refine s_aload_n hG dc4_readAtom_75 rfl ?_
      refine s_iconst (v := -1) hG dc4_readAtom_76 (by decide) ?_
      refine s_iload_n hG dc4_readAtom_77 rfl ?_
      refine s_isub hG dc4_readAtom_78 ?_
      refine s_callVi hG kMc4_57 (fun a => corc4_write N a _ _) ⟨by decide, rfl⟩ rfl (by first | decide | omega) dc4_readAtom_79 rfl rfl (Nat.le_of_ble_eq_true rfl) ⟨Nat.le_of_ble_eq_true rfl, Nat.le_of_ble_eq_true rfl⟩ (fun p79 => ?_)
      exact s_zret hG dc4_readAtom_82 rfl (Nat.le_of_ble_eq_true rfl) (Nat.le_of_ble_eq_true rfl)
  · refine s_aload_n hG dc4_readAtom_14 rfl ?_
    refine s_iload_n hG dc4_readAtom_15 rfl ?_
    refine s_callVi hG kMc4_79 (fun a => corc4_goesDeeper N a _ _) ⟨by decide, rfl⟩ rfl (by first | decide | omega) dc4_readAtom_16 rfl rfl (Nat.le_of_ble_eq_true rfl) ⟨Nat.le_of_ble_eq_true rfl, Nat.le_of_ble_eq_true rfl⟩ (fun p16 => ?_)
    refine s_if_eq hG 48 dc4_readAtom_19 (by decide) ?_ ?_
    · refine s_iconst (v := 0) hG dc4_readAtom_48 (by decide) ?_
      exact s_zret hG dc4_readAtom_49 rfl (Nat.le_of_ble_eq_true rfl) (Nat.le_of_ble_eq_true rfl)
    · refine s_aload_n hG dc4_readAtom_22 rfl ?_
      refine s_iload_n hG dc4_readAtom_23 rfl ?_
      refine s_iconst (v := 1) hG dc4_readAtom_24 (by decide) ?_
      refine s_iadd hG dc4_readAtom_25 ?_
      refine s_callVi hG kMc4_60 (fun a => hC.2.1 a _ _) ⟨by decide, rfl⟩ rfl (by first | decide | omega) dc4_readAtom_26 rfl rfl (Nat.le_of_ble_eq_true rfl) ⟨Nat.le_of_ble_eq_true rfl, Nat.le_of_ble_eq_true rfl⟩ (fun p26 => ?_)
      refine s_if_eq hG 48 dc4_readAtom_29 (by decide) ?_ ?_
      · refine s_iconst (v := 0) hG dc4_readAtom_48 (by decide) ?_
        exact s_zret hG dc4_readAtom_49 rfl (Nat.le_of_ble_eq_true rfl) (Nat.le_of_ble_eq_true rfl)
      · refine s_aload_n hG dc4_readAtom_32 rfl ?_
        refine s_getR hG kFc4_15 rfl dc4_readAtom_33 (fun v33 => ?_)
        refine s_bipush (v := 93) hG dc4_readAtom_36 (by decide) ?_
        refine s_callVi hG kMc4_47 (fun a => corc10_take N a _ _) ⟨by decide, rfl⟩ rfl (by first | decide | omega) dc4_readAtom_38 rfl rfl (Nat.le_of_ble_eq_true rfl) ⟨Nat.le_of_ble_eq_true rfl, Nat.le_of_ble_eq_true rfl⟩ (fun p38 => ?_)
        refine s_if_eq hG 48 dc4_readAtom_41 (by decide) ?_ ?_
        · refine s_iconst (v := 0) hG dc4_readAtom_48 (by decide) ?_
          exact s_zret hG dc4_readAtom_49 rfl (Nat.le_of_ble_eq_true rfl) (Nat.le_of_ble_eq_true rfl)
        · refine s_iconst (v := 1) hG dc4_readAtom_44 (by decide) ?_
          refine s_goto hG 49 dc4_readAtom_45 (by decide) ?_
          exact s_zret hG dc4_readAtom_49 rfl (Nat.le_of_ble_eq_true rfl) (Nat.le_of_ble_eq_true rfl)
set_option maxRecDepth 20000 in
set_option maxHeartbeats 2000000 in
theorem pc4_readSum_42 {Ω : Om} {Γ : Ga} {N D : Nat} {G : Rc4_readAtom} (hG : Good Ω Γ tc4_readSum (6 + D) 0 0) (hC : HRc4_readAtom Ω D G) {K12 : Option Nat → Int32 → Int32 → Me → Option (Int32 × Me)} (hK12 : ∀ (l0 : Option Nat) (l1 : Int32) (l2 : Int32) (σ : Me), Sim Ω Γ 0 0 ιI 4 12 [(0, vR l0), (1, vI l1), (2, vI l2)] [] σ 0 0 (K12 l0 l1 l2 σ)) (l0 : Option Nat) (l1 : Int32) (l2 : Int32) (l3 : Int32) (σ : Me) : Sim Ω Γ 0 0 ιI 4 42 [(0, vR l0), (1, vI l1), (2, vI l2), (3, vI l3)] [] σ 0 0 (fc4_readSum_42 N G K12 l0 l1 l2 l3 σ) := by
  unfold fc4_readSum_42
  refine s_aload_n hG dc4_readSum_42 rfl ?_
  refine s_getR hG kFc4_15 rfl dc4_readSum_43 (fun v43 => ?_)
  refine s_dup hG dc4_readSum_46 rfl ?_
  refine s_getI hG kFc4_34 rfl dc4_readSum_47 (fun v47 => ?_)
  refine s_iconst (v := 1) hG dc4_readSum_50 (by decide) ?_
  refine s_iadd hG dc4_readSum_51 ?_
  refine s_putI (fin := false) hG kFc4_34 rfl (fun h => by cases h) rfl (fun _ => rfl) (fun _ => rfl) dc4_readSum_52 (fun σ52 => ?_)
  refine s_aload_n hG dc4_readSum_55 rfl ?_
  refine s_iload_n hG dc4_readSum_56 rfl ?_
  refine s_callVi hG kMc4_82 (fun a => hC.2.2 a _ _) ⟨by decide, rfl⟩ rfl (by first | decide | omega) dc4_readSum_57 rfl rfl (Nat.le_of_ble_eq_true rfl) ⟨Nat.le_of_ble_eq_true rfl, Nat.le_of_ble_eq_true rfl⟩ (fun p57 => ?_)
  refine s_if_eq hG 72 dc4_readSum_60 (by decide) ?_ ?_
  · refine s_iconst (v := 0) hG dc4_readSum_72 (by decide) ?_
    exact s_zret hG dc4_readSum_73 rfl (Nat.le_of_ble_eq_true rfl) (Nat.le_of_ble_eq_true rfl)
  · refine s_aload_n hG dc4_readSum_63 rfl ?_
    refine s_iload_n hG dc4_readSum_64 rfl ?_
    refine s_ineg hG dc4_readSum_65 ?_
    refine s_callVi hG kMc4_57 (fun a => corc4_write N a _ _) ⟨by decide, rfl⟩ rfl (by first | decide | omega) dc4_readSum_66 rfl rfl (Nat.le_of_ble_eq_true rfl) ⟨Nat.le_of_ble_eq_true rfl, Nat.le_of_ble_eq_true rfl⟩ (fun p66 => ?_)
    refine s_if_ne hG 74 dc4_readSum_69 (by decide) ?_ ?_
    · refine s_iinc (v := 1) hG dc4_readSum_74 rfl (by decide) (by decide) ?_
      refine s_goto hG 12 dc4_readSum_77 (by decide) ?_
      exact s_lv (lc rfl (lc rfl (lc rfl ln))) (hK12 _ _ _ _)
    · refine s_iconst (v := 0) hG dc4_readSum_72 (by decide) ?_
      exact s_zret hG dc4_readSum_73 rfl (Nat.le_of_ble_eq_true rfl) (Nat.le_of_ble_eq_true rfl)
set_option maxRecDepth 20000 in
set_option maxHeartbeats 2000000 in
theorem pc4_readSum_12 {Ω : Om} {Γ : Ga} {N D : Nat} {G : Rc4_readAtom} (hG : Good Ω Γ tc4_readSum (6 + D) 0 0) (hC : HRc4_readAtom Ω D G)  : ∀ (n : Nat) (l0 : Option Nat) (l1 : Int32) (l2 : Int32) (σ : Me), Sim Ω Γ 0 0 ιI 4 12 [(0, vR l0), (1, vI l1), (2, vI l2)] [] σ 0 0 (fc4_readSum_12 N G n l0 l1 l2 σ) := by
  intro n
  induction n with
  | zero => intros; exact s_none
  | succ n ih =>
    intro l0 l1 l2 σ
    unfold fc4_readSum_12
    refine s_iload_n hG dc4_readSum_12 rfl ?_
    refine s_sipush (v := 240) hG dc4_readSum_13 (by decide) ?_
    refine s_icmp_ge hG 80 dc4_readSum_16 (by decide) ?_ ?_
    · refine s_iconst (v := 1) hG dc4_readSum_80 (by decide) ?_
      exact s_zret hG dc4_readSum_81 rfl (Nat.le_of_ble_eq_true rfl) (Nat.le_of_ble_eq_true rfl)
    · refine s_aload_n hG dc4_readSum_19 rfl ?_
      refine s_getR hG kFc4_15 rfl dc4_readSum_20 (fun v20 => ?_)
      refine s_callVi hG kMc4_43 (fun a => corc10_next N a _) ⟨by decide, rfl⟩ rfl (by first | decide | omega) dc4_readSum_23 rfl rfl (Nat.le_of_ble_eq_true rfl) ⟨Nat.le_of_ble_eq_true rfl, Nat.le_of_ble_eq_true rfl⟩ (fun p23 => ?_)
      refine s_istore_n hG dc4_readSum_26 (by decide) ?_
      refine s_iload_n hG dc4_readSum_27 rfl ?_
      refine s_bipush (v := 43) hG dc4_readSum_28 (by decide) ?_
      refine s_icmp_eq hG 42 dc4_readSum_30 (by decide) ?_ ?_
      · exact s_lv (lc rfl (lc rfl (lc rfl (lc rfl ln)))) (pc4_readSum_42 hG hC ih _ _ _ _ _)
      · refine s_iload_n hG dc4_readSum_33 rfl ?_
        refine s_bipush (v := 45) hG dc4_readSum_34 (by decide) ?_
        refine s_icmp_eq hG 42 dc4_readSum_36 (by decide) ?_ ?_
        · exact s_lv (lc rfl (lc rfl (lc rfl (lc rfl ln)))) (pc4_readSum_42 hG hC ih _ _ _ _ _)
        · refine s_goto hG 80 dc4_readSum_39 (by decide) ?_
          refine s_iconst (v := 1) hG dc4_readSum_80 (by decide) ?_
          exact s_zret hG dc4_readSum_81 rfl (Nat.le_of_ble_eq_true rfl) (Nat.le_of_ble_eq_true rfl)
set_option maxRecDepth 20000 in
set_option maxHeartbeats 2000000 in
theorem corbc4_readSum {Ω : Om} {N D : Nat} {G : Rc4_readAtom} (hC : HRc4_readAtom Ω D G) (a0 : Nat) (x1 : Int32) (σ : Me) : Cor Ω tc4_readSum (6 + D) 0 0 [vR (some a0), vI x1] σ ιI (bc4_readSum N G a0 x1 σ) := by
  refine Cor.of (by decide +kernel) (Nat.le_of_ble_eq_true rfl) (fun Γ hG => ?_)
  unfold bc4_readSum
  show Sim Ω Γ 0 0 ιI 4 0 [(0, vR (some a0)), (1, vI x1)] [] σ 0 0 _
  refine s_aload_n hG dc4_readSum_0 rfl ?_
  refine s_iload_n hG dc4_readSum_1 rfl ?_
  refine s_callVi hG kMc4_82 (fun a => hC.2.2 a _ _) ⟨by decide, rfl⟩ rfl (by first | decide | omega) dc4_readSum_2 rfl rfl (Nat.le_of_ble_eq_true rfl) ⟨Nat.le_of_ble_eq_true rfl, Nat.le_of_ble_eq_true rfl⟩ (fun p2 => ?_)
  refine s_if_ne hG 10 dc4_readSum_5 (by decide) ?_ ?_
  · refine s_iconst (v := 0) hG dc4_readSum_10 (by decide) ?_
    refine s_istore_n hG dc4_readSum_11 (by decide) ?_
    exact s_lv (lc rfl (lc rfl (lc rfl ln))) (pc4_readSum_12 hG hC _ _ _ _ _)
  · refine s_iconst (v := 0) hG dc4_readSum_8 (by decide) ?_
    exact s_zret hG dc4_readSum_9 rfl (Nat.le_of_ble_eq_true rfl) (Nat.le_of_ble_eq_true rfl)
set_option maxRecDepth 20000 in
set_option maxHeartbeats 2000000 in
theorem pc4_readTerm_42 {Ω : Om} {Γ : Ga} {N D : Nat} {G : Rc4_readAtom} (hG : Good Ω Γ tc4_readTerm (6 + D) 0 0) (hC : HRc4_readAtom Ω D G) {K12 : Option Nat → Int32 → Int32 → Me → Option (Int32 × Me)} (hK12 : ∀ (l0 : Option Nat) (l1 : Int32) (l2 : Int32) (σ : Me), Sim Ω Γ 0 0 ιI 4 12 [(0, vR l0), (1, vI l1), (2, vI l2)] [] σ 0 0 (K12 l0 l1 l2 σ)) (l0 : Option Nat) (l1 : Int32) (l2 : Int32) (l3 : Int32) (σ : Me) : Sim Ω Γ 0 0 ιI 4 42 [(0, vR l0), (1, vI l1), (2, vI l2), (3, vI l3)] [] σ 0 0 (fc4_readTerm_42 N G K12 l0 l1 l2 l3 σ) := by
  unfold fc4_readTerm_42
  refine s_aload_n hG dc4_readTerm_42 rfl ?_
  refine s_getR hG kFc4_15 rfl dc4_readTerm_43 (fun v43 => ?_)
  refine s_dup hG dc4_readTerm_46 rfl ?_
  refine s_getI hG kFc4_34 rfl dc4_readTerm_47 (fun v47 => ?_)
  refine s_iconst (v := 1) hG dc4_readTerm_50 (by decide) ?_
  refine s_iadd hG dc4_readTerm_51 ?_
  refine s_putI (fin := false) hG kFc4_34 rfl (fun h => by cases h) rfl (fun _ => rfl) (fun _ => rfl) dc4_readTerm_52 (fun σ52 => ?_)
  refine s_aload_n hG dc4_readTerm_55 rfl ?_
  refine s_iload_n hG dc4_readTerm_56 rfl ?_
  refine s_callVi hG kMc4_85 (fun a => hC.1 a _ _) ⟨by decide, rfl⟩ rfl (by first | decide | omega) dc4_readTerm_57 rfl rfl (Nat.le_of_ble_eq_true rfl) ⟨Nat.le_of_ble_eq_true rfl, Nat.le_of_ble_eq_true rfl⟩ (fun p57 => ?_)
  refine s_if_eq hG 72 dc4_readTerm_60 (by decide) ?_ ?_
  · refine s_iconst (v := 0) hG dc4_readTerm_72 (by decide) ?_
    exact s_zret hG dc4_readTerm_73 rfl (Nat.le_of_ble_eq_true rfl) (Nat.le_of_ble_eq_true rfl)
  · refine s_aload_n hG dc4_readTerm_63 rfl ?_
    refine s_iload_n hG dc4_readTerm_64 rfl ?_
    refine s_ineg hG dc4_readTerm_65 ?_
    refine s_callVi hG kMc4_57 (fun a => corc4_write N a _ _) ⟨by decide, rfl⟩ rfl (by first | decide | omega) dc4_readTerm_66 rfl rfl (Nat.le_of_ble_eq_true rfl) ⟨Nat.le_of_ble_eq_true rfl, Nat.le_of_ble_eq_true rfl⟩ (fun p66 => ?_)
    refine s_if_ne hG 74 dc4_readTerm_69 (by decide) ?_ ?_
    · refine s_iinc (v := 1) hG dc4_readTerm_74 rfl (by decide) (by decide) ?_
      refine s_goto hG 12 dc4_readTerm_77 (by decide) ?_
      exact s_lv (lc rfl (lc rfl (lc rfl ln))) (hK12 _ _ _ _)
    · refine s_iconst (v := 0) hG dc4_readTerm_72 (by decide) ?_
      exact s_zret hG dc4_readTerm_73 rfl (Nat.le_of_ble_eq_true rfl) (Nat.le_of_ble_eq_true rfl)
set_option maxRecDepth 20000 in
set_option maxHeartbeats 2000000 in
theorem pc4_readTerm_12 {Ω : Om} {Γ : Ga} {N D : Nat} {G : Rc4_readAtom} (hG : Good Ω Γ tc4_readTerm (6 + D) 0 0) (hC : HRc4_readAtom Ω D G)  : ∀ (n : Nat) (l0 : Option Nat) (l1 : Int32) (l2 : Int32) (σ : Me), Sim Ω Γ 0 0 ιI 4 12 [(0, vR l0), (1, vI l1), (2, vI l2)] [] σ 0 0 (fc4_readTerm_12 N G n l0 l1 l2 σ) := by
  intro n
  induction n with
  | zero => intros; exact s_none
  | succ n ih =>
    intro l0 l1 l2 σ
    unfold fc4_readTerm_12
    refine s_iload_n hG dc4_readTerm_12 rfl ?_
    refine s_sipush (v := 240) hG dc4_readTerm_13 (by decide) ?_
    refine s_icmp_ge hG 80 dc4_readTerm_16 (by decide) ?_ ?_
    · refine s_iconst (v := 1) hG dc4_readTerm_80 (by decide) ?_
      exact s_zret hG dc4_readTerm_81 rfl (Nat.le_of_ble_eq_true rfl) (Nat.le_of_ble_eq_true rfl)
    · refine s_aload_n hG dc4_readTerm_19 rfl ?_
      refine s_getR hG kFc4_15 rfl dc4_readTerm_20 (fun v20 => ?_)
      refine s_callVi hG kMc4_43 (fun a => corc10_next N a _) ⟨by decide, rfl⟩ rfl (by first | decide | omega) dc4_readTerm_23 rfl rfl (Nat.le_of_ble_eq_true rfl) ⟨Nat.le_of_ble_eq_true rfl, Nat.le_of_ble_eq_true rfl⟩ (fun p23 => ?_)
      refine s_istore_n hG dc4_readTerm_26 (by decide) ?_
      refine s_iload_n hG dc4_readTerm_27 rfl ?_
      refine s_bipush (v := 42) hG dc4_readTerm_28 (by decide) ?_
      refine s_icmp_eq hG 42 dc4_readTerm_30 (by decide) ?_ ?_
      · exact s_lv (lc rfl (lc rfl (lc rfl (lc rfl ln)))) (pc4_readTerm_42 hG hC ih _ _ _ _ _)
      · refine s_iload_n hG dc4_readTerm_33 rfl ?_
        refine s_bipush (v := 47) hG dc4_readTerm_34 (by decide) ?_
        refine s_icmp_eq hG 42 dc4_readTerm_36 (by decide) ?_ ?_
        · exact s_lv (lc rfl (lc rfl (lc rfl (lc rfl ln)))) (pc4_readTerm_42 hG hC ih _ _ _ _ _)
        · refine s_goto hG 80 dc4_readTerm_39 (by decide) ?_
          refine s_iconst (v := 1) hG dc4_readTerm_80 (by decide) ?_
          exact s_zret hG dc4_readTerm_81 rfl (Nat.le_of_ble_eq_true rfl) (Nat.le_of_ble_eq_true rfl)
set_option maxRecDepth 20000 in
set_option maxHeartbeats 2000000 in
theorem corbc4_readTerm {Ω : Om} {N D : Nat} {G : Rc4_readAtom} (hC : HRc4_readAtom Ω D G) (a0 : Nat) (x1 : Int32) (σ : Me) : Cor Ω tc4_readTerm (6 + D) 0 0 [vR (some a0), vI x1] σ ιI (bc4_readTerm N G a0 x1 σ) := by
  refine Cor.of (by decide +kernel) (Nat.le_of_ble_eq_true rfl) (fun Γ hG => ?_)
  unfold bc4_readTerm
  show Sim Ω Γ 0 0 ιI 4 0 [(0, vR (some a0)), (1, vI x1)] [] σ 0 0 _
  refine s_aload_n hG dc4_readTerm_0 rfl ?_
  refine s_iload_n hG dc4_readTerm_1 rfl ?_
  refine s_callVi hG kMc4_85 (fun a => hC.1 a _ _) ⟨by decide, rfl⟩ rfl (by first | decide | omega) dc4_readTerm_2 rfl rfl (Nat.le_of_ble_eq_true rfl) ⟨Nat.le_of_ble_eq_true rfl, Nat.le_of_ble_eq_true rfl⟩ (fun p2 => ?_)
  refine s_if_ne hG 10 dc4_readTerm_5 (by decide) ?_ ?_
  · refine s_iconst (v := 0) hG dc4_readTerm_10 (by decide) ?_
    refine s_istore_n hG dc4_readTerm_11 (by decide) ?_
    exact s_lv (lc rfl (lc rfl (lc rfl ln))) (pc4_readTerm_12 hG hC _ _ _ _ _)
  · refine s_iconst (v := 0) hG dc4_readTerm_8 (by decide) ?_
    exact s_zret hG dc4_readTerm_9 rfl (Nat.le_of_ble_eq_true rfl) (Nat.le_of_ble_eq_true rfl)
set_option maxRecDepth 20000 in
set_option maxHeartbeats 2000000 in
theorem corRc4_readAtom {Ω : Om} (N : Nat) : ∀ D : Nat, HRc4_readAtom Ω D (GRc4_readAtom N D) := by
  intro D
  induction D with
  | zero => exact ⟨(fun _ _ _ r σ' e => by cases e), (fun _ _ _ r σ' e => by cases e), (fun _ _ _ r σ' e => by cases e)⟩
  | succ D ih => exact ⟨(fun a0 x1 σ => by have h := corbc4_readAtom (Ω := Ω) (N := N) ih a0 x1 σ; rw [show 6 + D = 5 + (D + 1) from by omega] at h; exact h), (fun a0 x1 σ => by have h := corbc4_readSum (Ω := Ω) (N := N) ih a0 x1 σ; rw [show 6 + D = 5 + (D + 1) from by omega] at h; exact h), (fun a0 x1 σ => by have h := corbc4_readTerm (Ω := Ω) (N := N) ih a0 x1 σ; rw [show 6 + D = 5 + (D + 1) from by omega] at h; exact h)⟩
set_option maxRecDepth 20000 in
set_option maxHeartbeats 2000000 in
theorem corc4_readAtom {Ω : Om} (N : Nat) (a0 : Nat) (x1 : Int32) (σ : Me) : Cor Ω tc4_readAtom 69 0 0 [vR (some a0), vI x1] σ ιI (fc4_readAtom N a0 x1 σ) := (corRc4_readAtom N 64).1 a0 x1 σ
set_option maxRecDepth 20000 in
set_option maxHeartbeats 2000000 in
theorem corc4_readSum {Ω : Om} (N : Nat) (a0 : Nat) (x1 : Int32) (σ : Me) : Cor Ω tc4_readSum 69 0 0 [vR (some a0), vI x1] σ ιI (fc4_readSum N a0 x1 σ) := (corRc4_readAtom N 64).2.1 a0 x1 σ
set_option maxRecDepth 20000 in
set_option maxHeartbeats 2000000 in
theorem corc4_readTerm {Ω : Om} (N : Nat) (a0 : Nat) (x1 : Int32) (σ : Me) : Cor Ω tc4_readTerm 69 0 0 [vR (some a0), vI x1] σ ιI (fc4_readTerm N a0 x1 σ) := (corRc4_readAtom N 64).2.2 a0 x1 σ
abbrev Rc4_readCondition : Type := (Nat → Int32 → Me → Option (Int32 × Me)) × (Nat → Int32 → Me → Option (Int32 × Me)) × (Nat → Int32 → Me → Option (Int32 × Me))
def fc4_readCondition_12 (N : Nat) (G : Rc4_readCondition) : Nat → Option Nat → Int32 → Int32 → Me → Option (Int32 × Me)
  | 0, _, _, _, _ => none
  | n + 1, l0, l1, l2, σ =>
    if (240 : Int32) ≤ l2 then
      retZ (1 : Int32) σ
    else
      (qR σ 4 0 l0).bind fun v20 =>
      (dr σ v20 (.inl 10)).bind fun a =>
      (fc10_take N a (124 : Int32) σ).bind fun p25 =>
      if p25.1 = 0 then
        retZ (1 : Int32) p25.2
      else
        (dr p25.2 l0 (.inl 4)).bind fun a =>
        (G.2.1 a l1 p25.2).bind fun p33 =>
        if p33.1 = 0 then
          retZ (0 : Int32) p33.2
        else
          (dr p33.2 l0 (.inl 4)).bind fun a =>
          (fc4_write N a (-124 : Int32) p33.2).bind fun p42 =>
          if p42.1 = 0 then
            retZ (0 : Int32) p42.2
          else
            (fc4_readCondition_12 N G n) l0 l1 (l2 + (1 : Int32)) p42.2
def bc4_readCondition (N : Nat) (G : Rc4_readCondition) (a0 : Nat) (x1 : Int32) (σ : Me) : Option (Int32 × Me) :=
  (dr σ (some a0) (.inl 4)).bind fun a =>
  (G.2.1 a x1 σ).bind fun p2 =>
  if p2.1 = 0 then
    retZ (0 : Int32) p2.2
  else
    fc4_readCondition_12 N G N (some a0) x1 (0 : Int32) p2.2
def fc4_readTruth_12 (N : Nat) (G : Rc4_readCondition) : Nat → Option Nat → Int32 → Int32 → Me → Option (Int32 × Me)
  | 0, _, _, _, _ => none
  | n + 1, l0, l1, l2, σ =>
    if (240 : Int32) ≤ l2 then
      retZ (1 : Int32) σ
    else
      (qR σ 4 0 l0).bind fun v20 =>
      (dr σ v20 (.inl 10)).bind fun a =>
      (fc10_take N a (38 : Int32) σ).bind fun p25 =>
      if p25.1 = 0 then
        retZ (1 : Int32) p25.2
      else
        (dr p25.2 l0 (.inl 4)).bind fun a =>
        (G.2.2 a l1 p25.2).bind fun p33 =>
        if p33.1 = 0 then
          retZ (0 : Int32) p33.2
        else
          (dr p33.2 l0 (.inl 4)).bind fun a =>
          (fc4_write N a (-38 : Int32) p33.2).bind fun p42 =>
          if p42.1 = 0 then
            retZ (0 : Int32) p42.2
          else
            (fc4_readTruth_12 N G n) l0 l1 (l2 + (1 : Int32)) p42.2
def bc4_readTruth (N : Nat) (G : Rc4_readCondition) (a0 : Nat) (x1 : Int32) (σ : Me) : Option (Int32 × Me) :=
  (dr σ (some a0) (.inl 4)).bind fun a =>
  (G.2.2 a x1 σ).bind fun p2 =>
  if p2.1 = 0 then
    retZ (0 : Int32) p2.2
  else
    fc4_readTruth_12 N G N (some a0) x1 (0 : Int32) p2.2
def bc4_readUnit (N : Nat) (G : Rc4_readCondition) (a0 : Nat) (x1 : Int32) (σ : Me) : Option (Int32 × Me) :=
  (qR σ 4 0 (some a0)).bind fun v1 =>
  (dr σ v1 (.inl 10)).bind fun a =>
  (fc10_next N a σ).bind fun p4 =>
  if p4.1 = (33 : Int32) then
    (dr p4.2 (some a0) (.inl 4)).bind fun a =>
    (fc4_goesDeeper N a x1 p4.2).bind fun p16 =>
    if p16.1 = 0 then
      retZ (0 : Int32) p16.2
    else
      (dr p16.2 (some a0) (.inl 4)).bind fun a =>
      (G.2.2 a (x1 + (1 : Int32)) p16.2).bind fun p26 =>
      if p26.1 = 0 then
        retZ (0 : Int32) p26.2
      else
        (dr p26.2 (some a0) (.inl 4)).bind fun a =>
        (fc4_write N a (-33 : Int32) p26.2).bind fun p35 =>
        if p35.1 = 0 then
          retZ (0 : Int32) p35.2
        else
          retZ (1 : Int32) p35.2
  else
    if p4.1 = (40 : Int32) then
      (dr p4.2 (some a0) (.inl 4)).bind fun a =>
      (fc4_goesDeeper N a x1 p4.2).bind fun p55 =>
      if p55.1 = 0 then
        retZ (0 : Int32) p55.2
      else
        (dr p55.2 (some a0) (.inl 4)).bind fun a =>
        (G.1 a (x1 + (1 : Int32)) p55.2).bind fun p65 =>
        if p65.1 = 0 then
          retZ (0 : Int32) p65.2
        else
          (qR p65.2 4 0 (some a0)).bind fun v72 =>
          (dr p65.2 v72 (.inl 10)).bind fun a =>
          (fc10_take N a (41 : Int32) p65.2).bind fun p77 =>
          if p77.1 = 0 then
            retZ (0 : Int32) p77.2
          else
            retZ (1 : Int32) p77.2
    else
      (dr p4.2 (some a0) (.inl 4)).bind fun a =>
      (fc4_readSum N a x1 p4.2).bind fun p91 =>
      if p91.1 = 0 then
        retZ (0 : Int32) p91.2
      else
        (qR p91.2 4 0 (some a0)).bind fun v100 =>
        (dr p91.2 v100 (.inl 10)).bind fun a =>
        (fc10_next N a p91.2).bind fun p103 =>
        (fc4_isComparing N p103.1 p103.2).bind fun p108 =>
        if p108.1 = 0 then
          retZ (0 : Int32) p108.2
        else
          (qR p108.2 4 0 (some a0)).bind fun v117 =>
          (qI p108.2 10 2 v117).bind fun v121 =>
          (pI p108.2 10 2 v117 (v121 + (1 : Int32))).bind fun σ126 =>
          (dr σ126 (some a0) (.inl 4)).bind fun a =>
          (fc4_readSum N a x1 σ126).bind fun p131 =>
          if p131.1 = 0 then
            retZ (0 : Int32) p131.2
          else
            (dr p131.2 (some a0) (.inl 4)).bind fun a =>
            (fc4_write N a (-p103.1) p131.2).bind fun p140 =>
            if p140.1 = 0 then
              retZ (0 : Int32) p140.2
            else
              retZ (1 : Int32) p140.2
def GRc4_readCondition (N : Nat) : Nat → Rc4_readCondition
  | 0 => (fun _ _ _ => none, fun _ _ _ => none, fun _ _ _ => none)
  | D + 1 => (bc4_readCondition N (GRc4_readCondition N D), bc4_readTruth N (GRc4_readCondition N D), bc4_readUnit N (GRc4_readCondition N D))
def fc4_readCondition (N : Nat) (a0 : Nat) (x1 : Int32) (σ : Me) : Option (Int32 × Me) := (GRc4_readCondition N 64).1 a0 x1 σ
def fc4_readTruth (N : Nat) (a0 : Nat) (x1 : Int32) (σ : Me) : Option (Int32 × Me) := (GRc4_readCondition N 64).2.1 a0 x1 σ
def fc4_readUnit (N : Nat) (a0 : Nat) (x1 : Int32) (σ : Me) : Option (Int32 × Me) := (GRc4_readCondition N 64).2.2 a0 x1 σ
def HRc4_readCondition (Ω : Om) (D : Nat) (G : Rc4_readCondition) : Prop := (∀ (a0 : Nat) (x1 : Int32) (σ : Me), Cor Ω tc4_readCondition (70 + D) 0 0 [vR (some a0), vI x1] σ ιI (G.1 a0 x1 σ)) ∧ (∀ (a0 : Nat) (x1 : Int32) (σ : Me), Cor Ω tc4_readTruth (70 + D) 0 0 [vR (some a0), vI x1] σ ιI (G.2.1 a0 x1 σ)) ∧ (∀ (a0 : Nat) (x1 : Int32) (σ : Me), Cor Ω tc4_readUnit (70 + D) 0 0 [vR (some a0), vI x1] σ ιI (G.2.2 a0 x1 σ))
set_option maxRecDepth 20000 in
set_option maxHeartbeats 2000000 in
theorem pc4_readCondition_12 {Ω : Om} {Γ : Ga} {N D : Nat} {G : Rc4_readCondition} (hG : Good Ω Γ tc4_readCondition (71 + D) 0 0) (hC : HRc4_readCondition Ω D G)  : ∀ (n : Nat) (l0 : Option Nat) (l1 : Int32) (l2 : Int32) (σ : Me), Sim Ω Γ 0 0 ιI 3 12 [(0, vR l0), (1, vI l1), (2, vI l2)] [] σ 0 0 (fc4_readCondition_12 N G n l0 l1 l2 σ) := by
  intro n
  induction n with
  | zero => intros; exact s_none
  | succ n ih =>
    intro l0 l1 l2 σ
    unfold fc4_readCondition_12
    refine s_iload_n hG dc4_readCondition_12 rfl ?_
    refine s_sipush (v := 240) hG dc4_readCondition_13 (by decide) ?_
    refine s_icmp_ge hG 56 dc4_readCondition_16 (by decide) ?_ ?_
    · refine s_iconst (v := 1) hG dc4_readCondition_56 (by decide) ?_
      exact s_zret hG dc4_readCondition_57 rfl (Nat.le_of_ble_eq_true rfl) (Nat.le_of_ble_eq_true rfl)
    · refine s_aload_n hG dc4_readCondition_19 rfl ?_
      refine s_getR hG kFc4_15 rfl dc4_readCondition_20 (fun v20 => ?_)
      refine s_bipush (v := 124) hG dc4_readCondition_23 (by decide) ?_
      refine s_callVi hG kMc4_47 (fun a => corc10_take N a _ _) ⟨by decide, rfl⟩ rfl (by first | decide | omega) dc4_readCondition_25 rfl rfl (Nat.le_of_ble_eq_true rfl) ⟨Nat.le_of_ble_eq_true rfl, Nat.le_of_ble_eq_true rfl⟩ (fun p25 => ?_)
      refine s_if_eq hG 56 dc4_readCondition_28 (by decide) ?_ ?_
      · refine s_iconst (v := 1) hG dc4_readCondition_56 (by decide) ?_
        exact s_zret hG dc4_readCondition_57 rfl (Nat.le_of_ble_eq_true rfl) (Nat.le_of_ble_eq_true rfl)
      · refine s_aload_n hG dc4_readCondition_31 rfl ?_
        refine s_iload_n hG dc4_readCondition_32 rfl ?_
        refine s_callVi hG kMc4_73 (fun a => hC.2.1 a _ _) ⟨by decide, rfl⟩ rfl (by first | decide | omega) dc4_readCondition_33 rfl rfl (Nat.le_of_ble_eq_true rfl) ⟨Nat.le_of_ble_eq_true rfl, Nat.le_of_ble_eq_true rfl⟩ (fun p33 => ?_)
        refine s_if_eq hG 48 dc4_readCondition_36 (by decide) ?_ ?_
        · refine s_iconst (v := 0) hG dc4_readCondition_48 (by decide) ?_
          exact s_zret hG dc4_readCondition_49 rfl (Nat.le_of_ble_eq_true rfl) (Nat.le_of_ble_eq_true rfl)
        · refine s_aload_n hG dc4_readCondition_39 rfl ?_
          refine s_bipush (v := -124) hG dc4_readCondition_40 (by decide) ?_
          refine s_callVi hG kMc4_57 (fun a => corc4_write N a _ _) ⟨by decide, rfl⟩ rfl (by first | decide | omega) dc4_readCondition_42 rfl rfl (Nat.le_of_ble_eq_true rfl) ⟨Nat.le_of_ble_eq_true rfl, Nat.le_of_ble_eq_true rfl⟩ (fun p42 => ?_)
          refine s_if_ne hG 50 dc4_readCondition_45 (by decide) ?_ ?_
          · refine s_iinc (v := 1) hG dc4_readCondition_50 rfl (by decide) (by decide) ?_
            refine s_goto hG 12 dc4_readCondition_53 (by decide) ?_
            exact s_lv (lc rfl (lc rfl (lc rfl ln))) (ih _ _ _ _)
          · refine s_iconst (v := 0) hG dc4_readCondition_48 (by decide) ?_
            exact s_zret hG dc4_readCondition_49 rfl (Nat.le_of_ble_eq_true rfl) (Nat.le_of_ble_eq_true rfl)
set_option maxRecDepth 20000 in
set_option maxHeartbeats 2000000 in
theorem corbc4_readCondition {Ω : Om} {N D : Nat} {G : Rc4_readCondition} (hC : HRc4_readCondition Ω D G) (a0 : Nat) (x1 : Int32) (σ : Me) : Cor Ω tc4_readCondition (71 + D) 0 0 [vR (some a0), vI x1] σ ιI (bc4_readCondition N G a0 x1 σ) := by
  refine Cor.of (by decide +kernel) (Nat.le_of_ble_eq_true rfl) (fun Γ hG => ?_)
  unfold bc4_readCondition
  show Sim Ω Γ 0 0 ιI 3 0 [(0, vR (some a0)), (1, vI x1)] [] σ 0 0 _
  refine s_aload_n hG dc4_readCondition_0 rfl ?_
  refine s_iload_n hG dc4_readCondition_1 rfl ?_
  refine s_callVi hG kMc4_73 (fun a => hC.2.1 a _ _) ⟨by decide, rfl⟩ rfl (by first | decide | omega) dc4_readCondition_2 rfl rfl (Nat.le_of_ble_eq_true rfl) ⟨Nat.le_of_ble_eq_true rfl, Nat.le_of_ble_eq_true rfl⟩ (fun p2 => ?_)
  refine s_if_ne hG 10 dc4_readCondition_5 (by decide) ?_ ?_
  · refine s_iconst (v := 0) hG dc4_readCondition_10 (by decide) ?_
    refine s_istore_n hG dc4_readCondition_11 (by decide) ?_
    exact s_lv (lc rfl (lc rfl (lc rfl ln))) (pc4_readCondition_12 hG hC _ _ _ _ _)
  · refine s_iconst (v := 0) hG dc4_readCondition_8 (by decide) ?_
    exact s_zret hG dc4_readCondition_9 rfl (Nat.le_of_ble_eq_true rfl) (Nat.le_of_ble_eq_true rfl)
set_option maxRecDepth 20000 in
set_option maxHeartbeats 2000000 in
theorem pc4_readTruth_12 {Ω : Om} {Γ : Ga} {N D : Nat} {G : Rc4_readCondition} (hG : Good Ω Γ tc4_readTruth (71 + D) 0 0) (hC : HRc4_readCondition Ω D G)  : ∀ (n : Nat) (l0 : Option Nat) (l1 : Int32) (l2 : Int32) (σ : Me), Sim Ω Γ 0 0 ιI 3 12 [(0, vR l0), (1, vI l1), (2, vI l2)] [] σ 0 0 (fc4_readTruth_12 N G n l0 l1 l2 σ) := by
  intro n
  induction n with
  | zero => intros; exact s_none
  | succ n ih =>
    intro l0 l1 l2 σ
    unfold fc4_readTruth_12
    refine s_iload_n hG dc4_readTruth_12 rfl ?_
    refine s_sipush (v := 240) hG dc4_readTruth_13 (by decide) ?_
    refine s_icmp_ge hG 56 dc4_readTruth_16 (by decide) ?_ ?_
    · refine s_iconst (v := 1) hG dc4_readTruth_56 (by decide) ?_
      exact s_zret hG dc4_readTruth_57 rfl (Nat.le_of_ble_eq_true rfl) (Nat.le_of_ble_eq_true rfl)
    · refine s_aload_n hG dc4_readTruth_19 rfl ?_
      refine s_getR hG kFc4_15 rfl dc4_readTruth_20 (fun v20 => ?_)
      refine s_bipush (v := 38) hG dc4_readTruth_23 (by decide) ?_
      refine s_callVi hG kMc4_47 (fun a => corc10_take N a _ _) ⟨by decide, rfl⟩ rfl (by first | decide | omega) dc4_readTruth_25 rfl rfl (Nat.le_of_ble_eq_true rfl) ⟨Nat.le_of_ble_eq_true rfl, Nat.le_of_ble_eq_true rfl⟩ (fun p25 => ?_)
      refine s_if_eq hG 56 dc4_readTruth_28 (by decide) ?_ ?_
      · refine s_iconst (v := 1) hG dc4_readTruth_56 (by decide) ?_
        exact s_zret hG dc4_readTruth_57 rfl (Nat.le_of_ble_eq_true rfl) (Nat.le_of_ble_eq_true rfl)
      · refine s_aload_n hG dc4_readTruth_31 rfl ?_
        refine s_iload_n hG dc4_readTruth_32 rfl ?_
        refine s_callVi hG kMc4_76 (fun a => hC.2.2 a _ _) ⟨by decide, rfl⟩ rfl (by first | decide | omega) dc4_readTruth_33 rfl rfl (Nat.le_of_ble_eq_true rfl) ⟨Nat.le_of_ble_eq_true rfl, Nat.le_of_ble_eq_true rfl⟩ (fun p33 => ?_)
        refine s_if_eq hG 48 dc4_readTruth_36 (by decide) ?_ ?_
        · refine s_iconst (v := 0) hG dc4_readTruth_48 (by decide) ?_
          exact s_zret hG dc4_readTruth_49 rfl (Nat.le_of_ble_eq_true rfl) (Nat.le_of_ble_eq_true rfl)
        · refine s_aload_n hG dc4_readTruth_39 rfl ?_
          refine s_bipush (v := -38) hG dc4_readTruth_40 (by decide) ?_
          refine s_callVi hG kMc4_57 (fun a => corc4_write N a _ _) ⟨by decide, rfl⟩ rfl (by first | decide | omega) dc4_readTruth_42 rfl rfl (Nat.le_of_ble_eq_true rfl) ⟨Nat.le_of_ble_eq_true rfl, Nat.le_of_ble_eq_true rfl⟩ (fun p42 => ?_)
          refine s_if_ne hG 50 dc4_readTruth_45 (by decide) ?_ ?_
          · refine s_iinc (v := 1) hG dc4_readTruth_50 rfl (by decide) (by decide) ?_
            refine s_goto hG 12 dc4_readTruth_53 (by decide) ?_
            exact s_lv (lc rfl (lc rfl (lc rfl ln))) (ih _ _ _ _)
          · refine s_iconst (v := 0) hG dc4_readTruth_48 (by decide) ?_
            exact s_zret hG dc4_readTruth_49 rfl (Nat.le_of_ble_eq_true rfl) (Nat.le_of_ble_eq_true rfl)
set_option maxRecDepth 20000 in
set_option maxHeartbeats 2000000 in
theorem corbc4_readTruth {Ω : Om} {N D : Nat} {G : Rc4_readCondition} (hC : HRc4_readCondition Ω D G) (a0 : Nat) (x1 : Int32) (σ : Me) : Cor Ω tc4_readTruth (71 + D) 0 0 [vR (some a0), vI x1] σ ιI (bc4_readTruth N G a0 x1 σ) := by
  refine Cor.of (by decide +kernel) (Nat.le_of_ble_eq_true rfl) (fun Γ hG => ?_)
  unfold bc4_readTruth
  show Sim Ω Γ 0 0 ιI 3 0 [(0, vR (some a0)), (1, vI x1)] [] σ 0 0 _
  refine s_aload_n hG dc4_readTruth_0 rfl ?_
  refine s_iload_n hG dc4_readTruth_1 rfl ?_
  refine s_callVi hG kMc4_76 (fun a => hC.2.2 a _ _) ⟨by decide, rfl⟩ rfl (by first | decide | omega) dc4_readTruth_2 rfl rfl (Nat.le_of_ble_eq_true rfl) ⟨Nat.le_of_ble_eq_true rfl, Nat.le_of_ble_eq_true rfl⟩ (fun p2 => ?_)
  refine s_if_ne hG 10 dc4_readTruth_5 (by decide) ?_ ?_
  · refine s_iconst (v := 0) hG dc4_readTruth_10 (by decide) ?_
    refine s_istore_n hG dc4_readTruth_11 (by decide) ?_
    exact s_lv (lc rfl (lc rfl (lc rfl ln))) (pc4_readTruth_12 hG hC _ _ _ _ _)
  · refine s_iconst (v := 0) hG dc4_readTruth_8 (by decide) ?_
    exact s_zret hG dc4_readTruth_9 rfl (Nat.le_of_ble_eq_true rfl) (Nat.le_of_ble_eq_true rfl)
set_option maxRecDepth 20000 in
set_option maxHeartbeats 2000000 in
theorem corbc4_readUnit {Ω : Om} {N D : Nat} {G : Rc4_readCondition} (hC : HRc4_readCondition Ω D G) (a0 : Nat) (x1 : Int32) (σ : Me) : Cor Ω tc4_readUnit (71 + D) 0 0 [vR (some a0), vI x1] σ ιI (bc4_readUnit N G a0 x1 σ) := by
  refine Cor.of (by decide +kernel) (Nat.le_of_ble_eq_true rfl) (fun Γ hG => ?_)
  unfold bc4_readUnit
  show Sim Ω Γ 0 0 ιI 4 0 [(0, vR (some a0)), (1, vI x1)] [] σ 0 0 _
  refine s_aload_n hG dc4_readUnit_0 rfl ?_
  refine s_getR hG kFc4_15 rfl dc4_readUnit_1 (fun v1 => ?_)
  refine s_callVi hG kMc4_43 (fun a => corc10_next N a _) ⟨by decide, rfl⟩ rfl (by first | decide | omega) dc4_readUnit_4 rfl rfl (Nat.le_of_ble_eq_true rfl) ⟨Nat.le_of_ble_eq_true rfl, Nat.le_of_ble_eq_true rfl⟩ (fun p4 => ?_)
  refine s_istore_n hG dc4_readUnit_7 (by decide) ?_
  refine s_iload_n hG dc4_readUnit_8 rfl ?_
  refine s_bipush (v := 33) hG dc4_readUnit_9 (by decide) ?_
  refine s_icmp_ne hG 47 dc4_readUnit_11 (by decide) ?_ ?_
  · refine s_iload_n hG dc4_readUnit_47 rfl ?_
    refine s_bipush (v := 40) hG dc4_readUnit_48 (by decide) ?_
    refine s_icmp_ne hG 89 dc4_readUnit_50 (by decide) ?_ ?_
    · refine s_aload_n hG dc4_readUnit_89 rfl ?_
      refine s_iload_n hG dc4_readUnit_90 rfl ?_
      refine s_callVi hG kMc4_60 (fun a => corc4_readSum N a _ _) ⟨by decide, rfl⟩ rfl (by first | decide | omega) dc4_readUnit_91 rfl rfl (Nat.le_of_ble_eq_true rfl) ⟨Nat.le_of_ble_eq_true rfl, Nat.le_of_ble_eq_true rfl⟩ (fun p91 => ?_)
      refine s_if_ne hG 99 dc4_readUnit_94 (by decide) ?_ ?_
      · refine s_aload_n hG dc4_readUnit_99 rfl ?_
        refine s_getR hG kFc4_15 rfl dc4_readUnit_100 (fun v100 => ?_)
        refine s_callVi hG kMc4_43 (fun a => corc10_next N a _) ⟨by decide, rfl⟩ rfl (by first | decide | omega) dc4_readUnit_103 rfl rfl (Nat.le_of_ble_eq_true rfl) ⟨Nat.le_of_ble_eq_true rfl, Nat.le_of_ble_eq_true rfl⟩ (fun p103 => ?_)
        refine s_istore_n hG dc4_readUnit_106 (by decide) ?_
        refine s_iload_n hG dc4_readUnit_107 rfl ?_
        refine s_callSi hG kMc4_70 (corc4_isComparing N _ _) rfl (by first | decide | omega) dc4_readUnit_108 rfl rfl (Nat.le_of_ble_eq_true rfl) ⟨Nat.le_of_ble_eq_true rfl, Nat.le_of_ble_eq_true rfl⟩ (fun p108 => ?_)
        refine s_if_ne hG 116 dc4_readUnit_111 (by decide) ?_ ?_
        · refine s_aload_n hG dc4_readUnit_116 rfl ?_
          refine s_getR hG kFc4_15 rfl dc4_readUnit_117 (fun v117 => ?_)
          refine s_dup hG dc4_readUnit_120 rfl ?_
          refine s_getI hG kFc4_34 rfl dc4_readUnit_121 (fun v121 => ?_)
          refine s_iconst (v := 1) hG dc4_readUnit_124 (by decide) ?_
          refine s_iadd hG dc4_readUnit_125 ?_
          refine s_putI (fin := false) hG kFc4_34 rfl (fun h => by cases h) rfl (fun _ => rfl) (fun _ => rfl) dc4_readUnit_126 (fun σ126 => ?_)
          refine s_aload_n hG dc4_readUnit_129 rfl ?_
          refine s_iload_n hG dc4_readUnit_130 rfl ?_
          refine s_callVi hG kMc4_60 (fun a => corc4_readSum N a _ _) ⟨by decide, rfl⟩ rfl (by first | decide | omega) dc4_readUnit_131 rfl rfl (Nat.le_of_ble_eq_true rfl) ⟨Nat.le_of_ble_eq_true rfl, Nat.le_of_ble_eq_true rfl⟩ (fun p131 => ?_)
          refine s_if_eq hG 150 dc4_readUnit_134 (by decide) ?_ ?_
          · refine s_iconst (v := 0) hG dc4_readUnit_150 (by decide) ?_
            exact s_zret hG dc4_readUnit_151 rfl (Nat.le_of_ble_eq_true rfl) (Nat.le_of_ble_eq_true rfl)
          · refine s_aload_n hG dc4_readUnit_137 rfl ?_
            refine s_iload_n hG dc4_readUnit_138 rfl ?_
            refine s_ineg hG dc4_readUnit_139 ?_
            refine s_callVi hG kMc4_57 (fun a => corc4_write N a _ _) ⟨by decide, rfl⟩ rfl (by first | decide | omega) dc4_readUnit_140 rfl rfl (Nat.le_of_ble_eq_true rfl) ⟨Nat.le_of_ble_eq_true rfl, Nat.le_of_ble_eq_true rfl⟩ (fun p140 => ?_)
            refine s_if_eq hG 150 dc4_readUnit_143 (by decide) ?_ ?_
            · refine s_iconst (v := 0) hG dc4_readUnit_150 (by decide) ?_
              exact s_zret hG dc4_readUnit_151 rfl (Nat.le_of_ble_eq_true rfl) (Nat.le_of_ble_eq_true rfl)
            · refine s_iconst (v := 1) hG dc4_readUnit_146 (by decide) ?_
              refine s_goto hG 151 dc4_readUnit_147 (by decide) ?_
              exact s_zret hG dc4_readUnit_151 rfl (Nat.le_of_ble_eq_true rfl) (Nat.le_of_ble_eq_true rfl)
        · refine s_iconst (v := 0) hG dc4_readUnit_114 (by decide) ?_
          exact s_zret hG dc4_readUnit_115 rfl (Nat.le_of_ble_eq_true rfl) (Nat.le_of_ble_eq_true rfl)
      · refine s_iconst (v := 0) hG dc4_readUnit_97 (by decide) ?_
        exact s_zret hG dc4_readUnit_98 rfl (Nat.le_of_ble_eq_true rfl) (Nat.le_of_ble_eq_true rfl)
    · refine s_aload_n hG dc4_readUnit_53 rfl ?_
      refine s_iload_n hG dc4_readUnit_54 rfl ?_
      refine s_callVi hG kMc4_79 (fun a => corc4_goesDeeper N a _ _) ⟨by decide, rfl⟩ rfl (by first | decide | omega) dc4_readUnit_55 rfl rfl (Nat.le_of_ble_eq_true rfl) ⟨Nat.le_of_ble_eq_true rfl, Nat.le_of_ble_eq_true rfl⟩ (fun p55 => ?_)
      refine s_if_eq hG 87 dc4_readUnit_58 (by decide) ?_ ?_
      · refine s_iconst (v := 0) hG dc4_readUnit_87 (by decide) ?_
        exact s_zret hG dc4_readUnit_88 rfl (Nat.le_of_ble_eq_true rfl) (Nat.le_of_ble_eq_true rfl)
      · refine s_aload_n hG dc4_readUnit_61 rfl ?_
        refine s_iload_n hG dc4_readUnit_62 rfl ?_
        refine s_iconst (v := 1) hG dc4_readUnit_63 (by decide) ?_
        refine s_iadd hG dc4_readUnit_64 ?_
        refine s_callVi hG kMc4_54 (fun a => hC.1 a _ _) ⟨by decide, rfl⟩ rfl (by first | decide | omega) dc4_readUnit_65 rfl rfl (Nat.le_of_ble_eq_true rfl) ⟨Nat.le_of_ble_eq_true rfl, Nat.le_of_ble_eq_true rfl⟩ (fun p65 => ?_)
        refine s_if_eq hG 87 dc4_readUnit_68 (by decide) ?_ ?_
        · refine s_iconst (v := 0) hG dc4_readUnit_87 (by decide) ?_
          exact s_zret hG dc4_readUnit_88 rfl (Nat.le_of_ble_eq_true rfl) (Nat.le_of_ble_eq_true rfl)
        · refine s_aload_n hG dc4_readUnit_71 rfl ?_
          refine s_getR hG kFc4_15 rfl dc4_readUnit_72 (fun v72 => ?_)
          refine s_bipush (v := 41) hG dc4_readUnit_75 (by decide) ?_
          refine s_callVi hG kMc4_47 (fun a => corc10_take N a _ _) ⟨by decide, rfl⟩ rfl (by first | decide | omega) dc4_readUnit_77 rfl rfl (Nat.le_of_ble_eq_true rfl) ⟨Nat.le_of_ble_eq_true rfl, Nat.le_of_ble_eq_true rfl⟩ (fun p77 => ?_)
          refine s_if_eq hG 87 dc4_readUnit_80 (by decide) ?_ ?_
          · refine s_iconst (v := 0) hG dc4_readUnit_87 (by decide) ?_
            exact s_zret hG dc4_readUnit_88 rfl (Nat.le_of_ble_eq_true rfl) (Nat.le_of_ble_eq_true rfl)
          · refine s_iconst (v := 1) hG dc4_readUnit_83 (by decide) ?_
            refine s_goto hG 88 dc4_readUnit_84 (by decide) ?_
            exact s_zret hG dc4_readUnit_88 rfl (Nat.le_of_ble_eq_true rfl) (Nat.le_of_ble_eq_true rfl)
  · refine s_aload_n hG dc4_readUnit_14 rfl ?_
    refine s_iload_n hG dc4_readUnit_15 rfl ?_
    refine s_callVi hG kMc4_79 (fun a => corc4_goesDeeper N a _ _) ⟨by decide, rfl⟩ rfl (by first | decide | omega) dc4_readUnit_16 rfl rfl (Nat.le_of_ble_eq_true rfl) ⟨Nat.le_of_ble_eq_true rfl, Nat.le_of_ble_eq_true rfl⟩ (fun p16 => ?_)
    refine s_if_eq hG 45 dc4_readUnit_19 (by decide) ?_ ?_
    · refine s_iconst (v := 0) hG dc4_readUnit_45 (by decide) ?_
      exact s_zret hG dc4_readUnit_46 rfl (Nat.le_of_ble_eq_true rfl) (Nat.le_of_ble_eq_true rfl)
    · refine s_aload_n hG dc4_readUnit_22 rfl ?_
      refine s_iload_n hG dc4_readUnit_23 rfl ?_
      refine s_iconst (v := 1) hG dc4_readUnit_24 (by decide) ?_
      refine s_iadd hG dc4_readUnit_25 ?_
      refine s_callVi hG kMc4_76 (fun a => hC.2.2 a _ _) ⟨by decide, rfl⟩ rfl (by first | decide | omega) dc4_readUnit_26 rfl rfl (Nat.le_of_ble_eq_true rfl) ⟨Nat.le_of_ble_eq_true rfl, Nat.le_of_ble_eq_true rfl⟩ (fun p26 => ?_)
      refine s_if_eq hG 45 dc4_readUnit_29 (by decide) ?_ ?_
      · refine s_iconst (v := 0) hG dc4_readUnit_45 (by decide) ?_
        exact s_zret hG dc4_readUnit_46 rfl (Nat.le_of_ble_eq_true rfl) (Nat.le_of_ble_eq_true rfl)
      · refine s_aload_n hG dc4_readUnit_32 rfl ?_
        refine s_bipush (v := -33) hG dc4_readUnit_33 (by decide) ?_
        refine s_callVi hG kMc4_57 (fun a => corc4_write N a _ _) ⟨by decide, rfl⟩ rfl (by first | decide | omega) dc4_readUnit_35 rfl rfl (Nat.le_of_ble_eq_true rfl) ⟨Nat.le_of_ble_eq_true rfl, Nat.le_of_ble_eq_true rfl⟩ (fun p35 => ?_)
        refine s_if_eq hG 45 dc4_readUnit_38 (by decide) ?_ ?_
        · refine s_iconst (v := 0) hG dc4_readUnit_45 (by decide) ?_
          exact s_zret hG dc4_readUnit_46 rfl (Nat.le_of_ble_eq_true rfl) (Nat.le_of_ble_eq_true rfl)
        · refine s_iconst (v := 1) hG dc4_readUnit_41 (by decide) ?_
          refine s_goto hG 46 dc4_readUnit_42 (by decide) ?_
          exact s_zret hG dc4_readUnit_46 rfl (Nat.le_of_ble_eq_true rfl) (Nat.le_of_ble_eq_true rfl)
set_option maxRecDepth 20000 in
set_option maxHeartbeats 2000000 in
theorem corRc4_readCondition {Ω : Om} (N : Nat) : ∀ D : Nat, HRc4_readCondition Ω D (GRc4_readCondition N D) := by
  intro D
  induction D with
  | zero => exact ⟨(fun _ _ _ r σ' e => by cases e), (fun _ _ _ r σ' e => by cases e), (fun _ _ _ r σ' e => by cases e)⟩
  | succ D ih => exact ⟨(fun a0 x1 σ => by have h := corbc4_readCondition (Ω := Ω) (N := N) ih a0 x1 σ; rw [show 71 + D = 70 + (D + 1) from by omega] at h; exact h), (fun a0 x1 σ => by have h := corbc4_readTruth (Ω := Ω) (N := N) ih a0 x1 σ; rw [show 71 + D = 70 + (D + 1) from by omega] at h; exact h), (fun a0 x1 σ => by have h := corbc4_readUnit (Ω := Ω) (N := N) ih a0 x1 σ; rw [show 71 + D = 70 + (D + 1) from by omega] at h; exact h)⟩
set_option maxRecDepth 20000 in
set_option maxHeartbeats 2000000 in
theorem corc4_readCondition {Ω : Om} (N : Nat) (a0 : Nat) (x1 : Int32) (σ : Me) : Cor Ω tc4_readCondition 134 0 0 [vR (some a0), vI x1] σ ιI (fc4_readCondition N a0 x1 σ) := (corRc4_readCondition N 64).1 a0 x1 σ
set_option maxRecDepth 20000 in
set_option maxHeartbeats 2000000 in
theorem corc4_readTruth {Ω : Om} (N : Nat) (a0 : Nat) (x1 : Int32) (σ : Me) : Cor Ω tc4_readTruth 134 0 0 [vR (some a0), vI x1] σ ιI (fc4_readTruth N a0 x1 σ) := (corRc4_readCondition N 64).2.1 a0 x1 σ
set_option maxRecDepth 20000 in
set_option maxHeartbeats 2000000 in
theorem corc4_readUnit {Ω : Om} (N : Nat) (a0 : Nat) (x1 : Int32) (σ : Me) : Cor Ω tc4_readUnit 134 0 0 [vR (some a0), vI x1] σ ιI (fc4_readUnit N a0 x1 σ) := (corRc4_readCondition N 64).2.2 a0 x1 σ
