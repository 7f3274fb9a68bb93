def fc12_fails (N : Nat) (a0 : Nat) (σ : Me) : Option (Int32 × Me) :=
  (qI σ 12 11 (some a0)).bind fun v1 =>
  if v1 = (-1 : Int32) then
    (qI σ 12 10 (some a0)).bind fun v10 =>
    (pI σ 12 11 (some a0) v10).bind fun σ13 =>
    retZ (0 : Int32) σ13
  else
    retZ (0 : Int32) σ
set_option maxRecDepth 20000 in
set_option maxHeartbeats 2000000 in
theorem corc12_fails {Ω : Om} (N : Nat) (a0 : Nat) (σ : Me) : Cor Ω tc12_fails 1 0 0 [vR (some a0)] σ ιI (fc12_fails N a0 σ) := by
  refine Cor.of (by decide +kernel) (Nat.le_of_ble_eq_true rfl) (fun Γ hG => ?_)
  unfold fc12_fails
  show Sim Ω Γ 0 0 ιI 1 0 [(0, vR (some a0))] [] σ 0 0 _
  refine s_aload_n hG dc12_fails_0 rfl ?_
  refine s_getI hG kFc12_132 rfl dc12_fails_1 (fun v1 => ?_)
  refine s_iconst (v := -1) hG dc12_fails_4 (by decide) ?_
  refine s_icmp_ne hG 16 dc12_fails_5 (by decide) ?_ ?_
  · refine s_iconst (v := 0) hG dc12_fails_16 (by decide) ?_
    exact s_zret hG dc12_fails_17 rfl (Nat.le_of_ble_eq_true rfl) (Nat.le_of_ble_eq_true rfl)
  · refine s_aload_n hG dc12_fails_8 rfl ?_
    refine s_aload_n hG dc12_fails_9 rfl ?_
    refine s_getI hG kFc12_123 rfl dc12_fails_10 (fun v10 => ?_)
    refine s_putI (fin := false) hG kFc12_132 rfl (fun h => by cases h) rfl (fun _ => rfl) (fun _ => rfl) dc12_fails_13 (fun σ13 => ?_)
    refine s_iconst (v := 0) hG dc12_fails_16 (by decide) ?_
    exact s_zret hG dc12_fails_17 rfl (Nat.le_of_ble_eq_true rfl) (Nat.le_of_ble_eq_true rfl)
def fc12_isSign_18 (N : Nat)  (σ : Me) : Option (Int32 × Me) :=
  retZ (1 : Int32) σ
def fc12_isSign (N : Nat) (x0 : Int32) (σ : Me) : Option (Int32 × Me) :=
  if x0 = (61 : Int32) then
    fc12_isSign_18 N  σ
  else
    if x0 = (60 : Int32) then
      fc12_isSign_18 N  σ
    else
      if x0 = (62 : Int32) then
        fc12_isSign_18 N  σ
      else
        retZ (0 : Int32) σ
set_option maxRecDepth 20000 in
set_option maxHeartbeats 2000000 in
theorem pc12_isSign_18 {Ω : Om} {Γ : Ga} {N : Nat} (hG : Good Ω Γ tc12_isSign 1 0 0)  (σ : Me) : Sim Ω Γ 0 0 ιI 1 18 [] [] σ 0 0 (fc12_isSign_18 N  σ) := by
  unfold fc12_isSign_18
  refine s_iconst (v := 1) hG dc12_isSign_18 (by decide) ?_
  refine s_goto hG 23 dc12_isSign_19 (by decide) ?_
  exact s_zret hG dc12_isSign_23 rfl (Nat.le_of_ble_eq_true rfl) (Nat.le_of_ble_eq_true rfl)
set_option maxRecDepth 20000 in
set_option maxHeartbeats 2000000 in
theorem corc12_isSign {Ω : Om} (N : Nat) (x0 : Int32) (σ : Me) : Cor Ω tc12_isSign 1 0 0 [vI x0] σ ιI (fc12_isSign N x0 σ) := by
  refine Cor.of (by decide +kernel) (Nat.le_of_ble_eq_true rfl) (fun Γ hG => ?_)
  unfold fc12_isSign
  show Sim Ω Γ 0 0 ιI 1 0 [(0, vI x0)] [] σ 0 0 _
  refine s_iload_n hG dc12_isSign_0 rfl ?_
  refine s_bipush (v := 61) hG dc12_isSign_1 (by decide) ?_
  refine s_icmp_eq hG 18 dc12_isSign_3 (by decide) ?_ ?_
  · exact s_lv ln (pc12_isSign_18 hG _)
  · refine s_iload_n hG dc12_isSign_6 rfl ?_
    refine s_bipush (v := 60) hG dc12_isSign_7 (by decide) ?_
    refine s_icmp_eq hG 18 dc12_isSign_9 (by decide) ?_ ?_
    · exact s_lv ln (pc12_isSign_18 hG _)
    · refine s_iload_n hG dc12_isSign_12 rfl ?_
      refine s_bipush (v := 62) hG dc12_isSign_13 (by decide) ?_
      refine s_icmp_ne hG 22 dc12_isSign_15 (by decide) ?_ ?_
      · refine s_iconst (v := 0) hG dc12_isSign_22 (by decide) ?_
        exact s_zret hG dc12_isSign_23 rfl (Nat.le_of_ble_eq_true rfl) (Nat.le_of_ble_eq_true rfl)
      · exact s_lv ln (pc12_isSign_18 hG _)
def fc12_goesIn (N : Nat) (a0 : Nat) (σ : Me) : Option (Int32 × Me) :=
  (qI σ 12 12 (some a0)).bind fun v1 =>
  if v1 = (6 : Int32) then
    (dr σ (some a0) (.inl 12)).bind fun a =>
    (fc12_fails N a σ).bind fun p10 =>
    retZ p10.1 p10.2
  else
    (qI σ 12 12 (some a0)).bind fun v16 =>
    (pI σ 12 12 (some a0) (v16 + (1 : Int32))).bind fun σ21 =>
    (qI σ21 12 10 (some a0)).bind fun v26 =>
    (pI σ21 12 10 (some a0) (v26 + (1 : Int32))).bind fun σ31 =>
    retZ (1 : Int32) σ31
set_option maxRecDepth 20000 in
set_option maxHeartbeats 2000000 in
theorem corc12_goesIn {Ω : Om} (N : Nat) (a0 : Nat) (σ : Me) : Cor Ω tc12_goesIn 2 0 0 [vR (some a0)] σ ιI (fc12_goesIn N a0 σ) := by
  refine Cor.of (by decide +kernel) (Nat.le_of_ble_eq_true rfl) (fun Γ hG => ?_)
  unfold fc12_goesIn
  show Sim Ω Γ 0 0 ιI 1 0 [(0, vR (some a0))] [] σ 0 0 _
  refine s_aload_n hG dc12_goesIn_0 rfl ?_
  refine s_getI hG kFc12_135 rfl dc12_goesIn_1 (fun v1 => ?_)
  refine s_bipush (v := 6) hG dc12_goesIn_4 (by decide) ?_
  refine s_icmp_ne hG 14 dc12_goesIn_6 (by decide) ?_ ?_
  · refine s_aload_n hG dc12_goesIn_14 rfl ?_
    refine s_dup hG dc12_goesIn_15 rfl ?_
    refine s_getI hG kFc12_135 rfl dc12_goesIn_16 (fun v16 => ?_)
    refine s_iconst (v := 1) hG dc12_goesIn_19 (by decide) ?_
    refine s_iadd hG dc12_goesIn_20 ?_
    refine s_putI (fin := false) hG kFc12_135 rfl (fun h => by cases h) rfl (fun _ => rfl) (fun _ => rfl) dc12_goesIn_21 (fun σ21 => ?_)
    refine s_aload_n hG dc12_goesIn_24 rfl ?_
    refine s_dup hG dc12_goesIn_25 rfl ?_
    refine s_getI hG kFc12_123 rfl dc12_goesIn_26 (fun v26 => ?_)
    refine s_iconst (v := 1) hG dc12_goesIn_29 (by decide) ?_
    refine s_iadd hG dc12_goesIn_30 ?_
    refine s_putI (fin := false) hG kFc12_123 rfl (fun h => by cases h) rfl (fun _ => rfl) (fun _ => rfl) dc12_goesIn_31 (fun σ31 => ?_)
    refine s_iconst (v := 1) hG dc12_goesIn_34 (by decide) ?_
    exact s_zret hG dc12_goesIn_35 rfl (Nat.le_of_ble_eq_true rfl) (Nat.le_of_ble_eq_true rfl)
  · refine s_aload_n hG dc12_goesIn_9 rfl ?_
    refine s_callVi hG kMc12_138 (fun a => corc12_fails N a _) ⟨by decide, rfl⟩ rfl (by first | decide | omega) dc12_goesIn_10 rfl rfl (Nat.le_of_ble_eq_true rfl) ⟨Nat.le_of_ble_eq_true rfl, Nat.le_of_ble_eq_true rfl⟩ (fun p10 => ?_)
    exact s_zret hG dc12_goesIn_13 rfl (Nat.le_of_ble_eq_true rfl) (Nat.le_of_ble_eq_true rfl)
def fPr_checkIndex (N : Nat) (x0 : Int32) (x1 : Int32) (x2 : Unit) (σ : Me) : Option (Int32 × Me) :=
  if x0 < 0 then
    none
  else
    if x0 < x1 then
      some (x0, σ)
    else
      none
set_option maxRecDepth 20000 in
set_option maxHeartbeats 2000000 in
theorem corPr_checkIndex {Ω : Om} (N : Nat) (x0 : Int32) (x1 : Int32) (x2 : Unit) (σ : Me) : Cor Ω tPr_checkIndex 1 0 0 [vI x0, vI x1, vQ x2] σ ιI (fPr_checkIndex N x0 x1 x2 σ) := by
  refine Cor.of (by decide +kernel) (Nat.le_of_ble_eq_true rfl) (fun Γ hG => ?_)
  unfold fPr_checkIndex
  show Sim Ω Γ 0 0 ιI 3 0 [(0, vI x0), (1, vI x1), (2, vQ x2)] [] σ 0 0 _
  refine s_iload_n hG dPr_checkIndex_0 rfl ?_
  refine s_if_lt hG 9 dPr_checkIndex_1 (by decide) ?_ ?_
  · exact s_none
  · refine s_iload_n hG dPr_checkIndex_4 rfl ?_
    refine s_iload_n hG dPr_checkIndex_5 rfl ?_
    refine s_icmp_lt hG 16 dPr_checkIndex_6 (by decide) ?_ ?_
    · refine s_iload_n hG dPr_checkIndex_16 rfl ?_
      exact s_iret hG dPr_checkIndex_17 rfl (Nat.le_of_ble_eq_true rfl) (Nat.le_of_ble_eq_true rfl)
    · exact s_none
def fSr_checkIndex (N : Nat) (x0 : Int32) (x1 : Int32) (σ : Me) : Option (Unit × Me) :=
  (fPr_checkIndex N x0 x1 () σ).bind fun p5 =>
  some ((), p5.2)
set_option maxRecDepth 20000 in
set_option maxHeartbeats 2000000 in
theorem corSr_checkIndex {Ω : Om} (N : Nat) (x0 : Int32) (x1 : Int32) (σ : Me) : Cor Ω tSr_checkIndex 2 0 0 [vI x0, vI x1] σ ιV (fSr_checkIndex N x0 x1 σ) := by
  refine Cor.of (by decide +kernel) (Nat.le_of_ble_eq_true rfl) (fun Γ hG => ?_)
  unfold fSr_checkIndex
  show Sim Ω Γ 0 0 ιV 2 0 [(0, vI x0), (1, vI x1)] [] σ 0 0 _
  refine s_iload_n hG dSr_checkIndex_0 rfl ?_
  refine s_iload_n hG dSr_checkIndex_1 rfl ?_
  refine s_getsQ hG kSSr_1053 dSr_checkIndex_2 ?_
  refine s_callSi hG kMSr_1059 (corPr_checkIndex N _ _ _ _) rfl (by first | decide | omega) dSr_checkIndex_5 rfl rfl (Nat.le_of_ble_eq_true rfl) ⟨Nat.le_of_ble_eq_true rfl, Nat.le_of_ble_eq_true rfl⟩ (fun p5 => ?_)
  refine s_pop hG dSr_checkIndex_8 rfl ?_
  exact s_vret hG dSr_checkIndex_9 rfl (Nat.le_of_ble_eq_true rfl) (Nat.le_of_ble_eq_true rfl)
def fSl_charAt (N : Nat) (x0 : Option Nat) (x1 : Int32) (σ : Me) : Option (Int32 × Me) :=
  (aLn σ .byte x0).bind fun v2 =>
  (fSr_checkIndex N x1 v2 σ).bind fun p3 =>
  (ldB p3.2 x0 x1).bind fun v8 =>
  retN .char (UInt32.toInt32 (Int32.toUInt32 (v8 &&& (255 : Int32)) % 65536)) p3.2
set_option maxRecDepth 20000 in
set_option maxHeartbeats 2000000 in
theorem corSl_charAt {Ω : Om} (N : Nat) (x0 : Option Nat) (x1 : Int32) (σ : Me) : Cor Ω tSl_charAt 3 0 0 [vR x0, vI x1] σ ιI (fSl_charAt N x0 x1 σ) := by
  refine Cor.of (by decide +kernel) (Nat.le_of_ble_eq_true rfl) (fun Γ hG => ?_)
  unfold fSl_charAt
  show Sim Ω Γ 0 0 ιI 2 0 [(0, vR x0), (1, vI x1)] [] σ 0 0 _
  refine s_iload_n hG dSl_charAt_0 rfl ?_
  refine s_aload_n hG dSl_charAt_1 rfl ?_
  refine s_alen hG 1 rfl dSl_charAt_2 (fun v2 => ?_)
  refine s_callSv hG kMSl_9 (corSr_checkIndex N _ _ _) rfl (by first | decide | omega) dSl_charAt_3 rfl rfl (Nat.le_of_ble_eq_true rfl) ⟨Nat.le_of_ble_eq_true rfl, Nat.le_of_ble_eq_true rfl⟩ (fun p3 => ?_)
  refine s_aload_n hG dSl_charAt_6 rfl ?_
  refine s_iload_n hG dSl_charAt_7 rfl ?_
  refine s_bald hG dSl_charAt_8 (fun v8 => ?_)
  refine s_sipush (v := 255) hG dSl_charAt_9 (by decide) ?_
  refine s_iand hG dSl_charAt_12 ?_
  refine s_i2c hG dSl_charAt_13 ?_
  exact s_nret hG dSl_charAt_14 rfl (Nat.le_of_ble_eq_true rfl) (Nat.le_of_ble_eq_true rfl)
def fSr_charAt (N : Nat) (a0 : Nat) (x1 : Int32) (σ : Me) : Option (Int32 × Me) :=
  (drS (some a0)).bind fun a =>
  (fSr_isLatin1 N a σ).bind fun p1 =>
  if p1.1 = 0 then
    none
  else
    (sVl (some a0)).bind fun v8 =>
    (fSl_charAt N v8 x1 p1.2).bind fun p12 =>
    retN .char p12.1 p12.2
set_option maxRecDepth 20000 in
set_option maxHeartbeats 2000000 in
theorem corSr_charAt {Ω : Om} (N : Nat) (a0 : Nat) (x1 : Int32) (σ : Me) : Cor Ω tSr_charAt 4 0 0 [vR (some a0), vI x1] σ ιI (fSr_charAt N a0 x1 σ) := by
  refine Cor.of (by decide +kernel) (Nat.le_of_ble_eq_true rfl) (fun Γ hG => ?_)
  unfold fSr_charAt
  show Sim Ω Γ 0 0 ιI 2 0 [(0, vR (some a0)), (1, vI x1)] [] σ 0 0 _
  refine s_aload_n hG dSr_charAt_0 rfl ?_
  refine s_callTi hG kMSr_492 (fun a => corSr_isLatin1 N a _) rfl rfl (by first | decide | omega) dSr_charAt_1 rfl rfl (Nat.le_of_ble_eq_true rfl) ⟨Nat.le_of_ble_eq_true rfl, Nat.le_of_ble_eq_true rfl⟩ (fun p1 => ?_)
  refine s_if_eq hG 16 dSr_charAt_4 (by decide) ?_ ?_
  · exact s_none
  · refine s_aload_n hG dSr_charAt_7 rfl ?_
    refine s_getSV hG kSSr_9 dSr_charAt_8 (fun v8 => ?_)
    refine s_iload_n hG dSr_charAt_11 rfl ?_
    refine s_callSi hG kMSr_495 (corSl_charAt N _ _ _) rfl (by first | decide | omega) dSr_charAt_12 rfl rfl (Nat.le_of_ble_eq_true rfl) ⟨Nat.le_of_ble_eq_true rfl, Nat.le_of_ble_eq_true rfl⟩ (fun p12 => ?_)
    exact s_nret hG dSr_charAt_15 rfl (Nat.le_of_ble_eq_true rfl) (Nat.le_of_ble_eq_true rfl)
def fc12_isAmong_2 (N : Nat) : Nat → Option Nat → Int32 → Int32 → Me → Option (Int32 × Me)
  | 0, _, _, _, _ => none
  | n + 1, l0, l1, l2, σ =>
    (drS l0).bind fun a =>
    (fSr_length N a σ).bind fun p4 =>
    if p4.1 ≤ l2 then
      retZ (0 : Int32) p4.2
    else
      (drS l0).bind fun a =>
      (fSr_charAt N a l2 p4.2).bind fun p12 =>
      if p12.1 = l1 then
        retZ (1 : Int32) p12.2
      else
        (fc12_isAmong_2 N n) l0 l1 (l2 + (1 : Int32)) p12.2
def fc12_isAmong (N : Nat) (x0 : Option Nat) (x1 : Int32) (σ : Me) : Option (Int32 × Me) :=
  fc12_isAmong_2 N N x0 x1 (0 : Int32) σ
set_option maxRecDepth 20000 in
set_option maxHeartbeats 2000000 in
theorem pc12_isAmong_2 {Ω : Om} {Γ : Ga} {N : Nat} (hG : Good Ω Γ tc12_isAmong 5 0 0)  : ∀ (n : Nat) (l0 : Option Nat) (l1 : Int32) (l2 : Int32) (σ : Me), Sim Ω Γ 0 0 ιI 3 2 [(0, vR l0), (1, vI l1), (2, vI l2)] [] σ 0 0 (fc12_isAmong_2 N n l0 l1 l2 σ) := by
  intro n
  induction n with
  | zero => intros; exact s_none
  | succ n ih =>
    intro l0 l1 l2 σ
    unfold fc12_isAmong_2
    refine s_iload_n hG dc12_isAmong_2 rfl ?_
    refine s_aload_n hG dc12_isAmong_3 rfl ?_
    refine s_callTi hG kMc12_103 (fun a => corSr_length N a _) rfl rfl (by first | decide | omega) dc12_isAmong_4 rfl rfl (Nat.le_of_ble_eq_true rfl) ⟨Nat.le_of_ble_eq_true rfl, Nat.le_of_ble_eq_true rfl⟩ (fun p4 => ?_)
    refine s_icmp_ge hG 27 dc12_isAmong_7 (by decide) ?_ ?_
    · refine s_iconst (v := 0) hG dc12_isAmong_27 (by decide) ?_
      exact s_zret hG dc12_isAmong_28 rfl (Nat.le_of_ble_eq_true rfl) (Nat.le_of_ble_eq_true rfl)
    · refine s_aload_n hG dc12_isAmong_10 rfl ?_
      refine s_iload_n hG dc12_isAmong_11 rfl ?_
      refine s_callTi hG kMc12_109 (fun a => corSr_charAt N a _ _) rfl rfl (by first | decide | omega) dc12_isAmong_12 rfl rfl (Nat.le_of_ble_eq_true rfl) ⟨Nat.le_of_ble_eq_true rfl, Nat.le_of_ble_eq_true rfl⟩ (fun p12 => ?_)
      refine s_iload_n hG dc12_isAmong_15 rfl ?_
      refine s_icmp_ne hG 21 dc12_isAmong_16 (by decide) ?_ ?_
      · refine s_iinc (v := 1) hG dc12_isAmong_21 rfl (by decide) (by decide) ?_
        refine s_goto hG 2 dc12_isAmong_24 (by decide) ?_
        exact s_lv (lc rfl (lc rfl (lc rfl ln))) (ih _ _ _ _)
      · refine s_iconst (v := 1) hG dc12_isAmong_19 (by decide) ?_
        exact s_zret hG dc12_isAmong_20 rfl (Nat.le_of_ble_eq_true rfl) (Nat.le_of_ble_eq_true rfl)
set_option maxRecDepth 20000 in
set_option maxHeartbeats 2000000 in
theorem corc12_isAmong {Ω : Om} (N : Nat) (x0 : Option Nat) (x1 : Int32) (σ : Me) : Cor Ω tc12_isAmong 5 0 0 [vR x0, vI x1] σ ιI (fc12_isAmong N x0 x1 σ) := by
  refine Cor.of (by decide +kernel) (Nat.le_of_ble_eq_true rfl) (fun Γ hG => ?_)
  unfold fc12_isAmong
  show Sim Ω Γ 0 0 ιI 3 0 [(0, vR x0), (1, vI x1)] [] σ 0 0 _
  refine s_iconst (v := 0) hG dc12_isAmong_0 (by decide) ?_
  refine s_istore_n hG dc12_isAmong_1 (by decide) ?_
  exact s_lv (lc rfl (lc rfl (lc rfl ln))) (pc12_isAmong_2 hG _ _ _ _ _)
def fc12_isDigit (N : Nat) (a0 : Nat) (σ : Me) : Option (Int32 × Me) :=
  (qI σ 12 10 (some a0)).bind fun v1 =>
  (qI σ 12 9 (some a0)).bind fun v5 =>
  if v5 ≤ v1 then
    retZ (0 : Int32) σ
  else
    (qR σ 12 5 (some a0)).bind fun v12 =>
    (qI σ 12 8 (some a0)).bind fun v16 =>
    (qI σ 12 10 (some a0)).bind fun v20 =>
    (ldB σ v12 (v16 + v20)).bind fun v24 =>
    if v24 < (48 : Int32) then
      retZ (0 : Int32) σ
    else
      (qR σ 12 5 (some a0)).bind fun v31 =>
      (qI σ 12 8 (some a0)).bind fun v35 =>
      (qI σ 12 10 (some a0)).bind fun v39 =>
      (ldB σ v31 (v35 + v39)).bind fun v43 =>
      if (57 : Int32) < v43 then
        retZ (0 : Int32) σ
      else
        retZ (1 : Int32) σ
set_option maxRecDepth 20000 in
set_option maxHeartbeats 2000000 in
theorem corc12_isDigit {Ω : Om} (N : Nat) (a0 : Nat) (σ : Me) : Cor Ω tc12_isDigit 1 0 0 [vR (some a0)] σ ιI (fc12_isDigit N a0 σ) := by
  refine Cor.of (by decide +kernel) (Nat.le_of_ble_eq_true rfl) (fun Γ hG => ?_)
  unfold fc12_isDigit
  show Sim Ω Γ 0 0 ιI 1 0 [(0, vR (some a0))] [] σ 0 0 _
  refine s_aload_n hG dc12_isDigit_0 rfl ?_
  refine s_getI hG kFc12_123 rfl dc12_isDigit_1 (fun v1 => ?_)
  refine s_aload_n hG dc12_isDigit_4 rfl ?_
  refine s_getI hG kFc12_126 rfl dc12_isDigit_5 (fun v5 => ?_)
  refine s_icmp_ge hG 53 dc12_isDigit_8 (by decide) ?_ ?_
  · refine s_iconst (v := 0) hG dc12_isDigit_53 (by decide) ?_
    exact s_zret hG dc12_isDigit_54 rfl (Nat.le_of_ble_eq_true rfl) (Nat.le_of_ble_eq_true rfl)
  · refine s_aload_n hG dc12_isDigit_11 rfl ?_
    refine s_getR hG kFc12_23 rfl dc12_isDigit_12 (fun v12 => ?_)
    refine s_aload_n hG dc12_isDigit_15 rfl ?_
    refine s_getI hG kFc12_129 rfl dc12_isDigit_16 (fun v16 => ?_)
    refine s_aload_n hG dc12_isDigit_19 rfl ?_
    refine s_getI hG kFc12_123 rfl dc12_isDigit_20 (fun v20 => ?_)
    refine s_iadd hG dc12_isDigit_23 ?_
    refine s_bald hG dc12_isDigit_24 (fun v24 => ?_)
    refine s_bipush (v := 48) hG dc12_isDigit_25 (by decide) ?_
    refine s_icmp_lt hG 53 dc12_isDigit_27 (by decide) ?_ ?_
    · refine s_iconst (v := 0) hG dc12_isDigit_53 (by decide) ?_
      exact s_zret hG dc12_isDigit_54 rfl (Nat.le_of_ble_eq_true rfl) (Nat.le_of_ble_eq_true rfl)
    · refine s_aload_n hG dc12_isDigit_30 rfl ?_
      refine s_getR hG kFc12_23 rfl dc12_isDigit_31 (fun v31 => ?_)
      refine s_aload_n hG dc12_isDigit_34 rfl ?_
      refine s_getI hG kFc12_129 rfl dc12_isDigit_35 (fun v35 => ?_)
      refine s_aload_n hG dc12_isDigit_38 rfl ?_
      refine s_getI hG kFc12_123 rfl dc12_isDigit_39 (fun v39 => ?_)
      refine s_iadd hG dc12_isDigit_42 ?_
      refine s_bald hG dc12_isDigit_43 (fun v43 => ?_)
      refine s_bipush (v := 57) hG dc12_isDigit_44 (by decide) ?_
      refine s_icmp_gt hG 53 dc12_isDigit_46 (by decide) ?_ ?_
      · refine s_iconst (v := 0) hG dc12_isDigit_53 (by decide) ?_
        exact s_zret hG dc12_isDigit_54 rfl (Nat.le_of_ble_eq_true rfl) (Nat.le_of_ble_eq_true rfl)
      · refine s_iconst (v := 1) hG dc12_isDigit_49 (by decide) ?_
        refine s_goto hG 54 dc12_isDigit_50 (by decide) ?_
        exact s_zret hG dc12_isDigit_54 rfl (Nat.le_of_ble_eq_true rfl) (Nat.le_of_ble_eq_true rfl)
def fc12_takes_16 (N : Nat) (l0 : Option Nat) (σ : Me) : Option (Int32 × Me) :=
  (dr σ l0 (.inl 12)).bind fun a =>
  (fc12_fails N a σ).bind fun p17 =>
  retZ p17.1 p17.2
def fc12_takes (N : Nat) (a0 : Nat) (x1 : Int32) (σ : Me) : Option (Int32 × Me) :=
  (qI σ 12 11 (some a0)).bind fun v1 =>
  if v1 = (-1 : Int32) then
    (dr σ (some a0) (.inl 12)).bind fun a =>
    (fc12_look N a σ).bind fun p9 =>
    if p9.1 = x1 then
      (qI p9.2 12 10 (some a0)).bind fun v23 =>
      (pI p9.2 12 10 (some a0) (v23 + (1 : Int32))).bind fun σ28 =>
      retZ (1 : Int32) σ28
    else
      fc12_takes_16 N (some a0) p9.2
  else
    fc12_takes_16 N (some a0) σ
set_option maxRecDepth 20000 in
set_option maxHeartbeats 2000000 in
theorem pc12_takes_16 {Ω : Om} {Γ : Ga} {N : Nat} (hG : Good Ω Γ tc12_takes 2 0 0) (l0 : Option Nat) (σ : Me) : Sim Ω Γ 0 0 ιI 2 16 [(0, vR l0)] [] σ 0 0 (fc12_takes_16 N l0 σ) := by
  unfold fc12_takes_16
  refine s_aload_n hG dc12_takes_16 rfl ?_
  refine s_callVi hG kMc12_138 (fun a => corc12_fails N a _) ⟨by decide, rfl⟩ rfl (by first | decide | omega) dc12_takes_17 rfl rfl (Nat.le_of_ble_eq_true rfl) ⟨Nat.le_of_ble_eq_true rfl, Nat.le_of_ble_eq_true rfl⟩ (fun p17 => ?_)
  exact s_zret hG dc12_takes_20 rfl (Nat.le_of_ble_eq_true rfl) (Nat.le_of_ble_eq_true rfl)
set_option maxRecDepth 20000 in
set_option maxHeartbeats 2000000 in
theorem corc12_takes {Ω : Om} (N : Nat) (a0 : Nat) (x1 : Int32) (σ : Me) : Cor Ω tc12_takes 2 0 0 [vR (some a0), vI x1] σ ιI (fc12_takes N a0 x1 σ) := by
  refine Cor.of (by decide +kernel) (Nat.le_of_ble_eq_true rfl) (fun Γ hG => ?_)
  unfold fc12_takes
  show Sim Ω Γ 0 0 ιI 2 0 [(0, vR (some a0)), (1, vI x1)] [] σ 0 0 _
  refine s_aload_n hG dc12_takes_0 rfl ?_
  refine s_getI hG kFc12_132 rfl dc12_takes_1 (fun v1 => ?_)
  refine s_iconst (v := -1) hG dc12_takes_4 (by decide) ?_
  refine s_icmp_ne hG 16 dc12_takes_5 (by decide) ?_ ?_
  · exact s_lv (lc rfl ln) (pc12_takes_16 hG _ _)
  · refine s_aload_n hG dc12_takes_8 rfl ?_
    refine s_callVi hG kMc12_142 (fun a => corc12_look N a _) ⟨by decide, rfl⟩ rfl (by first | decide | omega) dc12_takes_9 rfl rfl (Nat.le_of_ble_eq_true rfl) ⟨Nat.le_of_ble_eq_true rfl, Nat.le_of_ble_eq_true rfl⟩ (fun p9 => ?_)
    refine s_iload_n hG dc12_takes_12 rfl ?_
    refine s_icmp_eq hG 21 dc12_takes_13 (by decide) ?_ ?_
    · refine s_aload_n hG dc12_takes_21 rfl ?_
      refine s_dup hG dc12_takes_22 rfl ?_
      refine s_getI hG kFc12_123 rfl dc12_takes_23 (fun v23 => ?_)
      refine s_iconst (v := 1) hG dc12_takes_26 (by decide) ?_
      refine s_iadd hG dc12_takes_27 ?_
      refine s_putI (fin := false) hG kFc12_123 rfl (fun h => by cases h) rfl (fun _ => rfl) (fun _ => rfl) dc12_takes_28 (fun σ28 => ?_)
      refine s_iconst (v := 1) hG dc12_takes_31 (by decide) ?_
      exact s_zret hG dc12_takes_32 rfl (Nat.le_of_ble_eq_true rfl) (Nat.le_of_ble_eq_true rfl)
    · exact s_lv (lc rfl ln) (pc12_takes_16 hG _ _)
def fMt_max2 (N : Nat) (x0 : Int64) (x2 : Int64) (σ : Me) : Option (Int64 × Me) :=
  if (lg_cmp x0 x2) < 0 then
    some (x2, σ)
  else
    some (x0, σ)
set_option maxRecDepth 20000 in
set_option maxHeartbeats 2000000 in
theorem corMt_max2 {Ω : Om} (N : Nat) (x0 : Int64) (x2 : Int64) (σ : Me) : Cor Ω tMt_max2 1 0 0 [vL x0, vL x2] σ ιL (fMt_max2 N x0 x2 σ) := by
  refine Cor.of (by decide +kernel) (Nat.le_of_ble_eq_true rfl) (fun Γ hG => ?_)
  unfold fMt_max2
  show Sim Ω Γ 0 0 ιL 4 0 [(0, vL x0), (2, vL x2)] [] σ 0 0 _
  refine s_lload_n hG dMt_max2_0 rfl ?_
  refine s_lload_n hG dMt_max2_1 rfl ?_
  refine s_lcmp hG dMt_max2_2 ?_
  refine s_if_lt hG 10 dMt_max2_3 (by decide) ?_ ?_
  · refine s_lload_n hG dMt_max2_10 rfl ?_
    exact s_lret hG dMt_max2_11 rfl (Nat.le_of_ble_eq_true rfl) (Nat.le_of_ble_eq_true rfl)
  · refine s_lload_n hG dMt_max2_6 rfl ?_
    refine s_goto hG 11 dMt_max2_7 (by decide) ?_
    exact s_lret hG dMt_max2_11 rfl (Nat.le_of_ble_eq_true rfl) (Nat.le_of_ble_eq_true rfl)
def fMt_min2 (N : Nat) (x0 : Int64) (x2 : Int64) (σ : Me) : Option (Int64 × Me) :=
  if 0 < (lg_cmp x0 x2) then
    some (x2, σ)
  else
    some (x0, σ)
set_option maxRecDepth 20000 in
set_option maxHeartbeats 2000000 in
theorem corMt_min2 {Ω : Om} (N : Nat) (x0 : Int64) (x2 : Int64) (σ : Me) : Cor Ω tMt_min2 1 0 0 [vL x0, vL x2] σ ιL (fMt_min2 N x0 x2 σ) := by
  refine Cor.of (by decide +kernel) (Nat.le_of_ble_eq_true rfl) (fun Γ hG => ?_)
  unfold fMt_min2
  show Sim Ω Γ 0 0 ιL 4 0 [(0, vL x0), (2, vL x2)] [] σ 0 0 _
  refine s_lload_n hG dMt_min2_0 rfl ?_
  refine s_lload_n hG dMt_min2_1 rfl ?_
  refine s_lcmp hG dMt_min2_2 ?_
  refine s_if_gt hG 10 dMt_min2_3 (by decide) ?_ ?_
  · refine s_lload_n hG dMt_min2_10 rfl ?_
    exact s_lret hG dMt_min2_11 rfl (Nat.le_of_ble_eq_true rfl) (Nat.le_of_ble_eq_true rfl)
  · refine s_lload_n hG dMt_min2_6 rfl ?_
    refine s_goto hG 11 dMt_min2_7 (by decide) ?_
    exact s_lret hG dMt_min2_11 rfl (Nat.le_of_ble_eq_true rfl) (Nat.le_of_ble_eq_true rfl)
def fc12_within (N : Nat) (x0 : Int64) (σ : Me) : Option (Int32 × Me) :=
  (fMt_min2 N (1000000 : Int64) x0 σ).bind fun p7 =>
  (fMt_max2 N (-1000000 : Int64) p7.1 p7.2).bind fun p10 =>
  some ((Int64.toInt32 p10.1), p10.2)
set_option maxRecDepth 20000 in
set_option maxHeartbeats 2000000 in
theorem corc12_within {Ω : Om} (N : Nat) (x0 : Int64) (σ : Me) : Cor Ω tc12_within 2 0 0 [vL x0] σ ιI (fc12_within N x0 σ) := by
  refine Cor.of (by decide +kernel) (Nat.le_of_ble_eq_true rfl) (fun Γ hG => ?_)
  unfold fc12_within
  show Sim Ω Γ 0 0 ιI 2 0 [(0, vL x0)] [] σ 0 0 _
  refine s_ldc2 hG dc12_within_0 kJc12_145 ?_
  refine s_ldc2 hG dc12_within_3 kJc12_147 ?_
  refine s_lload_n hG dc12_within_6 rfl ?_
  refine s_callSl hG kMc12_149 (corMt_min2 N _ _ _) rfl (by first | decide | omega) dc12_within_7 rfl rfl (Nat.le_of_ble_eq_true rfl) ⟨Nat.le_of_ble_eq_true rfl, Nat.le_of_ble_eq_true rfl⟩ (fun p7 => ?_)
  refine s_callSl hG kMc12_155 (corMt_max2 N _ _ _) rfl (by first | decide | omega) dc12_within_10 rfl rfl (Nat.le_of_ble_eq_true rfl) ⟨Nat.le_of_ble_eq_true rfl, Nat.le_of_ble_eq_true rfl⟩ (fun p10 => ?_)
  refine s_l2i hG dc12_within_13 ?_
  exact s_iret hG dc12_within_14 rfl (Nat.le_of_ble_eq_true rfl) (Nat.le_of_ble_eq_true rfl)
abbrev Rc12_atom : Type := (Nat → Me → Option (Int32 × Me)) × (Nat → Me → Option (Int32 × Me)) × (Nat → Me → Option (Int32 × Me))
def fc12_atom_90 (N : Nat) (G : Rc12_atom) : Nat → Option Nat → Int32 → Int32 → Me → Option (Int32 × Me)
  | 0, _, _, _, _ => none
  | n + 1, l0, l2, l3, σ =>
    (dr σ l0 (.inl 12)).bind fun a =>
    (fc12_isDigit N a σ).bind fun p91 =>
    if p91.1 = 0 then
      some (l2, p91.2)
    else
      (qI p91.2 12 11 l0).bind fun v98 =>
      if v98 = (-1 : Int32) then
        if l3 = (4 : Int32) then
          (dr p91.2 l0 (.inl 12)).bind fun a =>
          (fc12_fails N a p91.2).bind fun p111 =>
          some ((0 : Int32), p111.2)
        else
          (qR p91.2 12 5 l0).bind fun v122 =>
          (qI p91.2 12 8 l0).bind fun v126 =>
          (qI p91.2 12 10 l0).bind fun v130 =>
          (ldB p91.2 v122 (v126 + v130)).bind fun v134 =>
          (qI p91.2 12 10 l0).bind fun v142 =>
          (pI p91.2 12 10 l0 (v142 + (1 : Int32))).bind fun σ147 =>
          (fc12_atom_90 N G n) l0 ((((10 : Int32) * l2) + v134) - (48 : Int32)) (l3 + (1 : Int32)) σ147
      else
        some (l2, p91.2)
def fc12_atom_86 (N : Nat) (G : Rc12_atom) (l0 : Option Nat) (σ : Me) : Option (Int32 × Me) :=
  fc12_atom_90 N G N l0 (0 : Int32) (0 : Int32) σ
def bc12_atom (N : Nat) (G : Rc12_atom) (a0 : Nat) (σ : Me) : Option (Int32 × Me) :=
  (dr σ (some a0) (.inl 12)).bind fun a =>
  (fc12_look N a σ).bind fun p1 =>
  (fc12_isAmong N (some 1000025) p1.1 p1.2).bind fun p8 =>
  if p8.1 = 0 then
    if p1.1 = (91 : Int32) then
      (dr p8.2 (some a0) (.inl 12)).bind fun a =>
      (fc12_goesIn N a p8.2).bind fun p38 =>
      if p38.1 = 0 then
        some ((0 : Int32), p38.2)
      else
        (dr p38.2 (some a0) (.inl 12)).bind fun a =>
        (G.2.1 a p38.2).bind fun p47 =>
        (dr p47.2 (some a0) (.inl 12)).bind fun a =>
        (fc12_takes N a (93 : Int32) p47.2).bind fun p54 =>
        if p54.1 = 0 then
          some ((0 : Int32), p54.2)
        else
          (qI p54.2 12 12 (some a0)).bind fun v64 =>
          (pI p54.2 12 12 (some a0) (v64 - (1 : Int32))).bind fun σ69 =>
          some (p47.1, σ69)
    else
      (dr p8.2 (some a0) (.inl 12)).bind fun a =>
      (fc12_isDigit N a p8.2).bind fun p75 =>
      if p75.1 = 0 then
        (dr p75.2 (some a0) (.inl 12)).bind fun a =>
        (fc12_fails N a p75.2).bind fun p82 =>
        fc12_atom_86 N G (some a0) p82.2
      else
        fc12_atom_86 N G (some a0) p75.2
  else
    (qI p8.2 12 10 (some a0)).bind fun v16 =>
    (pI p8.2 12 10 (some a0) (v16 + (1 : Int32))).bind fun σ21 =>
    (qR σ21 12 4 (some a0)).bind fun v25 =>
    (ldI σ21 v25 p1.1).bind fun v29 =>
    some (v29, σ21)
def fc12_sum_77 (N : Nat) (G : Rc12_atom) (K5 : Option Nat → Int32 → Me → Option (Int32 × Me)) (l0 : Option Nat) (s0 : Int64) (σ : Me) : Option (Int32 × Me) :=
  (fc12_within N s0 σ).bind fun p77 =>
  K5 l0 p77.1 p77.2
def fc12_sum_45 (N : Nat) (G : Rc12_atom) (K5 : Option Nat → Int32 → Me → Option (Int32 × Me)) (l0 : Option Nat) (l1 : Int32) (s0 : Int32) (σ : Me) : Option (Int32 × Me) :=
  (qI σ 12 10 l0).bind fun v48 =>
  (pI σ 12 10 l0 (v48 + (1 : Int32))).bind fun σ53 =>
  (dr σ53 l0 (.inl 12)).bind fun a =>
  (G.2.2 a σ53).bind fun p57 =>
  if s0 = 0 then
    fc12_sum_77 N G K5 l0 ((Int32.toInt64 l1) - (Int32.toInt64 p57.1)) p57.2
  else
    fc12_sum_77 N G K5 l0 ((Int32.toInt64 l1) + (Int32.toInt64 p57.1)) p57.2
def fc12_sum_31 (N : Nat) (G : Rc12_atom) (K5 : Option Nat → Int32 → Me → Option (Int32 × Me)) (l0 : Option Nat) (l1 : Int32) (σ : Me) : Option (Int32 × Me) :=
  (dr σ l0 (.inl 12)).bind fun a =>
  (fc12_look N a σ).bind fun p32 =>
  if p32.1 = (43 : Int32) then
    fc12_sum_45 N G K5 l0 l1 (1 : Int32) p32.2
  else
    fc12_sum_45 N G K5 l0 l1 (0 : Int32) p32.2
def fc12_sum_5 (N : Nat) (G : Rc12_atom) : Nat → Option Nat → Int32 → Me → Option (Int32 × Me)
  | 0, _, _, _ => none
  | n + 1, l0, l1, σ =>
    (qI σ 12 11 l0).bind fun v6 =>
    if v6 = (-1 : Int32) then
      (dr σ l0 (.inl 12)).bind fun a =>
      (fc12_look N a σ).bind fun p14 =>
      if p14.1 = (43 : Int32) then
        fc12_sum_31 N G (fc12_sum_5 N G n) l0 l1 p14.2
      else
        (dr p14.2 l0 (.inl 12)).bind fun a =>
        (fc12_look N a p14.2).bind fun p23 =>
        if p23.1 = (45 : Int32) then
          fc12_sum_31 N G (fc12_sum_5 N G n) l0 l1 p23.2
        else
          some (l1, p23.2)
    else
      some (l1, σ)
def bc12_sum (N : Nat) (G : Rc12_atom) (a0 : Nat) (σ : Me) : Option (Int32 × Me) :=
  (dr σ (some a0) (.inl 12)).bind fun a =>
  (G.2.2 a σ).bind fun p1 =>
  fc12_sum_5 N G N (some a0) p1.1 p1.2
def fc12_term_87 (N : Nat) (G : Rc12_atom) (K5 : Option Nat → Int32 → Me → Option (Int32 × Me)) (l0 : Option Nat) (s0 : Int64) (σ : Me) : Option (Int32 × Me) :=
  (fc12_within N s0 σ).bind fun p87 =>
  K5 l0 p87.1 p87.2
def fc12_term_45 (N : Nat) (G : Rc12_atom) (K5 : Option Nat → Int32 → Me → Option (Int32 × Me)) (l0 : Option Nat) (l1 : Int32) (s0 : Int32) (σ : Me) : Option (Int32 × Me) :=
  (qI σ 12 10 l0).bind fun v48 =>
  (pI σ 12 10 l0 (v48 + (1 : Int32))).bind fun σ53 =>
  (dr σ53 l0 (.inl 12)).bind fun a =>
  (G.1 a σ53).bind fun p57 =>
  if s0 = 0 then
    if (lg_cmp (Int32.toInt64 p57.1) (0 : Int64)) = 0 then
      fc12_term_87 N G K5 l0 (0 : Int64) p57.2
    else
      (dvL (Int32.toInt64 l1) (Int32.toInt64 p57.1)).bind fun v86 =>
      fc12_term_87 N G K5 l0 v86 p57.2
  else
    fc12_term_87 N G K5 l0 ((Int32.toInt64 l1) * (Int32.toInt64 p57.1)) p57.2
def fc12_term_31 (N : Nat) (G : Rc12_atom) (K5 : Option Nat → Int32 → Me → Option (Int32 × Me)) (l0 : Option Nat) (l1 : Int32) (σ : Me) : Option (Int32 × Me) :=
  (dr σ l0 (.inl 12)).bind fun a =>
  (fc12_look N a σ).bind fun p32 =>
  if p32.1 = (42 : Int32) then
    fc12_term_45 N G K5 l0 l1 (1 : Int32) p32.2
  else
    fc12_term_45 N G K5 l0 l1 (0 : Int32) p32.2
def fc12_term_5 (N : Nat) (G : Rc12_atom) : Nat → Option Nat → Int32 → Me → Option (Int32 × Me)
  | 0, _, _, _ => none
  | n + 1, l0, l1, σ =>
    (qI σ 12 11 l0).bind fun v6 =>
    if v6 = (-1 : Int32) then
      (dr σ l0 (.inl 12)).bind fun a =>
      (fc12_look N a σ).bind fun p14 =>
      if p14.1 = (42 : Int32) then
        fc12_term_31 N G (fc12_term_5 N G n) l0 l1 p14.2
      else
        (dr p14.2 l0 (.inl 12)).bind fun a =>
        (fc12_look N a p14.2).bind fun p23 =>
        if p23.1 = (47 : Int32) then
          fc12_term_31 N G (fc12_term_5 N G n) l0 l1 p23.2
        else
          some (l1, p23.2)
    else
      some (l1, σ)
def bc12_term (N : Nat) (G : Rc12_atom) (a0 : Nat) (σ : Me) : Option (Int32 × Me) :=
  (dr σ (some a0) (.inl 12)).bind fun a =>
  (G.1 a σ).bind fun p1 =>
  fc12_term_5 N G N (some a0) p1.1 p1.2
def GRc12_atom (N : Nat) : Nat → Rc12_atom
  | 0 => (fun _ _ => none, fun _ _ => none, fun _ _ => none)
  | D + 1 => (bc12_atom N (GRc12_atom N D), bc12_sum N (GRc12_atom N D), bc12_term N (GRc12_atom N D))
def fc12_atom (N : Nat) (a0 : Nat) (σ : Me) : Option (Int32 × Me) := (GRc12_atom N 64).1 a0 σ
def fc12_sum (N : Nat) (a0 : Nat) (σ : Me) : Option (Int32 × Me) := (GRc12_atom N 64).2.1 a0 σ
def fc12_term (N : Nat) (a0 : Nat) (σ : Me) : Option (Int32 × Me) := (GRc12_atom N 64).2.2 a0 σ
def HRc12_atom (Ω : Om) (D : Nat) (G : Rc12_atom) : Prop := (∀ (a0 : Nat) (σ : Me), Cor Ω tc12_atom (6 + D) 0 0 [vR (some a0)] σ ιI (G.1 a0 σ)) ∧ (∀ (a0 : Nat) (σ : Me), Cor Ω tc12_sum (6 + D) 0 0 [vR (some a0)] σ ιI (G.2.1 a0 σ)) ∧ (∀ (a0 : Nat) (σ : Me), Cor Ω tc12_term (6 + D) 0 0 [vR (some a0)] σ ιI (G.2.2 a0 σ))
set_option maxRecDepth 20000 in
set_option maxHeartbeats 2000000 in
theorem pc12_atom_90 {Ω : Om} {Γ : Ga} {N D : Nat} {G : Rc12_atom} (hG : Good Ω Γ tc12_atom (7 + D) 0 0) (hC : HRc12_atom Ω D G)  : ∀ (n : Nat) (l0 : Option Nat) (l2 : Int32) (l3 : Int32) (σ : Me), Sim Ω Γ 0 0 ιI 4 90 [(0, vR l0), (2, vI l2), (3, vI l3)] [] σ 0 0 (fc12_atom_90 N G n l0 l2 l3 σ) := by
  intro n
  induction n with
  | zero => intros; exact s_none
  | succ n ih =>
    intro l0 l2 l3 σ
    unfold fc12_atom_90
    refine s_aload_n hG dc12_atom_90 rfl ?_
    refine s_callVi hG kMc12_172 (fun a => corc12_isDigit N a _) ⟨by decide, rfl⟩ rfl (by first | decide | omega) dc12_atom_91 rfl rfl (Nat.le_of_ble_eq_true rfl) ⟨Nat.le_of_ble_eq_true rfl, Nat.le_of_ble_eq_true rfl⟩ (fun p91 => ?_)
    refine s_if_eq hG 156 dc12_atom_94 (by decide) ?_ ?_
    · refine s_iload_n hG dc12_atom_156 rfl ?_
      exact s_iret hG dc12_atom_157 rfl (Nat.le_of_ble_eq_true rfl) (Nat.le_of_ble_eq_true rfl)
    · refine s_aload_n hG dc12_atom_97 rfl ?_
      refine s_getI hG kFc12_132 rfl dc12_atom_98 (fun v98 => ?_)
      refine s_iconst (v := -1) hG dc12_atom_101 (by decide) ?_
      refine s_icmp_ne hG 156 dc12_atom_102 (by decide) ?_ ?_
      · refine s_iload_n hG dc12_atom_156 rfl ?_
        exact s_iret hG dc12_atom_157 rfl (Nat.le_of_ble_eq_true rfl) (Nat.le_of_ble_eq_true rfl)
      · refine s_iload_n hG dc12_atom_105 rfl ?_
        refine s_iconst (v := 4) hG dc12_atom_106 (by decide) ?_
        refine s_icmp_ne hG 117 dc12_atom_107 (by decide) ?_ ?_
        · refine s_bipush (v := 10) hG dc12_atom_117 (by decide) ?_
          refine s_iload_n hG dc12_atom_119 rfl ?_
          refine s_imul hG dc12_atom_120 ?_
          refine s_aload_n hG dc12_atom_121 rfl ?_
          refine s_getR hG kFc12_23 rfl dc12_atom_122 (fun v122 => ?_)
          refine s_aload_n hG dc12_atom_125 rfl ?_
          refine s_getI hG kFc12_129 rfl dc12_atom_126 (fun v126 => ?_)
          refine s_aload_n hG dc12_atom_129 rfl ?_
          refine s_getI hG kFc12_123 rfl dc12_atom_130 (fun v130 => ?_)
          refine s_iadd hG dc12_atom_133 ?_
          refine s_bald hG dc12_atom_134 (fun v134 => ?_)
          refine s_iadd hG dc12_atom_135 ?_
          refine s_bipush (v := 48) hG dc12_atom_136 (by decide) ?_
          refine s_isub hG dc12_atom_138 ?_
          refine s_istore_n hG dc12_atom_139 (by decide) ?_
          refine s_aload_n hG dc12_atom_140 rfl ?_
          refine s_dup hG dc12_atom_141 rfl ?_
          refine s_getI hG kFc12_123 rfl dc12_atom_142 (fun v142 => ?_)
          refine s_iconst (v := 1) hG dc12_atom_145 (by decide) ?_
          refine s_iadd hG dc12_atom_146 ?_
          refine s_putI (fin := false) hG kFc12_123 rfl (fun h => by cases h) rfl (fun _ => rfl) (fun _ => rfl) dc12_atom_147 (fun σ147 => ?_)
          refine s_iinc (v := 1) hG dc12_atom_150 rfl (by decide) (by decide) ?_
          refine s_goto hG 90 dc12_atom_153 (by decide) ?_
          exact s_lv (lc rfl (lc rfl (lc rfl ln))) (ih _ _ _ _)
        · refine s_aload_n hG dc12_atom_110 rfl ?_
          refine s_callVi hG kMc12_138 (fun a => corc12_fails N a _) ⟨by decide, rfl⟩ rfl (by first | decide | omega) dc12_atom_111 rfl rfl (Nat.le_of_ble_eq_true rfl) ⟨Nat.le_of_ble_eq_true rfl, Nat.le_of_ble_eq_true rfl⟩ (fun p111 => ?_)
          refine s_pop hG dc12_atom_114 rfl ?_
          refine s_iconst (v := 0) hG dc12_atom_115 (by decide) ?_
          exact s_iret hG dc12_atom_116 rfl (Nat.le_of_ble_eq_true rfl) (Nat.le_of_ble_eq_true rfl)
set_option maxRecDepth 20000 in
set_option maxHeartbeats 2000000 in
theorem pc12_atom_86 {Ω : Om} {Γ : Ga} {N D : Nat} {G : Rc12_atom} (hG : Good Ω Γ tc12_atom (7 + D) 0 0) (hC : HRc12_atom Ω D G) (l0 : Option Nat) (σ : Me) : Sim Ω Γ 0 0 ιI 4 86 [(0, vR l0)] [] σ 0 0 (fc12_atom_86 N G l0 σ) := by
  unfold fc12_atom_86
  refine s_iconst (v := 0) hG dc12_atom_86 (by decide) ?_
  refine s_istore_n hG dc12_atom_87 (by decide) ?_
  refine s_iconst (v := 0) hG dc12_atom_88 (by decide) ?_
  refine s_istore_n hG dc12_atom_89 (by decide) ?_
  exact s_lv (lc rfl (lc rfl (lc rfl ln))) (pc12_atom_90 hG hC _ _ _ _ _)
set_option maxRecDepth 20000 in
set_option maxHeartbeats 2000000 in
theorem corbc12_atom {Ω : Om} {N D : Nat} {G : Rc12_atom} (hC : HRc12_atom Ω D G) (a0 : Nat) (σ : Me) : Cor Ω tc12_atom (7 + D) 0 0 [vR (some a0)] σ ιI (bc12_atom N G a0 σ) := by
  refine Cor.of (by decide +kernel) (Nat.le_of_ble_eq_true rfl) (fun Γ hG => ?_)
  unfold bc12_atom
  show Sim Ω Γ 0 0 ιI 4 0 [(0, vR (some a0))] [] σ 0 0 _
  refine s_aload_n hG dc12_atom_0 rfl ?_
  refine s_callVi hG kMc12_142 (fun a => corc12_look N a _) ⟨by decide, rfl⟩ rfl (by first | decide | omega) dc12_atom_1 rfl rfl (Nat.le_of_ble_eq_true rfl) ⟨Nat.le_of_ble_eq_true rfl, Nat.le_of_ble_eq_true rfl⟩ (fun p1 => ?_)
  refine s_istore_n hG dc12_atom_4 (by decide) ?_
  refine s_ldcS hG 5 (by decide) rfl rfl dc12_atom_5 ?_
  refine s_iload_n hG dc12_atom_7 rfl ?_
  refine s_callSi hG kMc12_158 (corc12_isAmong N _ _ _) rfl (by first | decide | omega) dc12_atom_8 rfl rfl (Nat.le_of_ble_eq_true rfl) ⟨Nat.le_of_ble_eq_true rfl, Nat.le_of_ble_eq_true rfl⟩ (fun p8 => ?_)
  refine s_if_eq hG 31 dc12_atom_11 (by decide) ?_ ?_
  · refine s_iload_n hG dc12_atom_31 rfl ?_
    refine s_bipush (v := 91) hG dc12_atom_32 (by decide) ?_
    refine s_icmp_ne hG 74 dc12_atom_34 (by decide) ?_ ?_
    · refine s_aload_n hG dc12_atom_74 rfl ?_
      refine s_callVi hG kMc12_172 (fun a => corc12_isDigit N a _) ⟨by decide, rfl⟩ rfl (by first | decide | omega) dc12_atom_75 rfl rfl (Nat.le_of_ble_eq_true rfl) ⟨Nat.le_of_ble_eq_true rfl, Nat.le_of_ble_eq_true rfl⟩ (fun p75 => ?_)
      refine s_if_ne hG 86 dc12_atom_78 (by decide) ?_ ?_
      · exact s_lv (lc rfl ln) (pc12_atom_86 hG hC _ _)
      · refine s_aload_n hG dc12_atom_81 rfl ?_
        refine s_callVi hG kMc12_138 (fun a => corc12_fails N a _) ⟨by decide, rfl⟩ rfl (by first | decide | omega) dc12_atom_82 rfl rfl (Nat.le_of_ble_eq_true rfl) ⟨Nat.le_of_ble_eq_true rfl, Nat.le_of_ble_eq_true rfl⟩ (fun p82 => ?_)
        refine s_pop hG dc12_atom_85 rfl ?_
        exact s_lv (lc rfl ln) (pc12_atom_86 hG hC _ _)
    · refine s_aload_n hG dc12_atom_37 rfl ?_
      refine s_callVi hG kMc12_162 (fun a => corc12_goesIn N a _) ⟨by decide, rfl⟩ rfl (by first | decide | omega) dc12_atom_38 rfl rfl (Nat.le_of_ble_eq_true rfl) ⟨Nat.le_of_ble_eq_true rfl, Nat.le_of_ble_eq_true rfl⟩ (fun p38 => ?_)
      refine s_if_ne hG 46 dc12_atom_41 (by decide) ?_ ?_
      · refine s_aload_n hG dc12_atom_46 rfl ?_
        refine s_callVi hG kMc12_165 (fun a => hC.2.1 a _) ⟨by decide, rfl⟩ rfl (by first | decide | omega) dc12_atom_47 rfl rfl (Nat.le_of_ble_eq_true rfl) ⟨Nat.le_of_ble_eq_true rfl, Nat.le_of_ble_eq_true rfl⟩ (fun p47 => ?_)
        refine s_istore_n hG dc12_atom_50 (by decide) ?_
        refine s_aload_n hG dc12_atom_51 rfl ?_
        refine s_bipush (v := 93) hG dc12_atom_52 (by decide) ?_
        refine s_callVi hG kMc12_168 (fun a => corc12_takes N a _ _) ⟨by decide, rfl⟩ rfl (by first | decide | omega) dc12_atom_54 rfl rfl (Nat.le_of_ble_eq_true rfl) ⟨Nat.le_of_ble_eq_true rfl, Nat.le_of_ble_eq_true rfl⟩ (fun p54 => ?_)
        refine s_if_ne hG 62 dc12_atom_57 (by decide) ?_ ?_
        · refine s_aload_n hG dc12_atom_62 rfl ?_
          refine s_dup hG dc12_atom_63 rfl ?_
          refine s_getI hG kFc12_135 rfl dc12_atom_64 (fun v64 => ?_)
          refine s_iconst (v := 1) hG dc12_atom_67 (by decide) ?_
          refine s_isub hG dc12_atom_68 ?_
          refine s_putI (fin := false) hG kFc12_135 rfl (fun h => by cases h) rfl (fun _ => rfl) (fun _ => rfl) dc12_atom_69 (fun σ69 => ?_)
          refine s_iload_n hG dc12_atom_72 rfl ?_
          exact s_iret hG dc12_atom_73 rfl (Nat.le_of_ble_eq_true rfl) (Nat.le_of_ble_eq_true rfl)
        · refine s_iconst (v := 0) hG dc12_atom_60 (by decide) ?_
          exact s_iret hG dc12_atom_61 rfl (Nat.le_of_ble_eq_true rfl) (Nat.le_of_ble_eq_true rfl)
      · refine s_iconst (v := 0) hG dc12_atom_44 (by decide) ?_
        exact s_iret hG dc12_atom_45 rfl (Nat.le_of_ble_eq_true rfl) (Nat.le_of_ble_eq_true rfl)
  · refine s_aload_n hG dc12_atom_14 rfl ?_
    refine s_dup hG dc12_atom_15 rfl ?_
    refine s_getI hG kFc12_123 rfl dc12_atom_16 (fun v16 => ?_)
    refine s_iconst (v := 1) hG dc12_atom_19 (by decide) ?_
    refine s_iadd hG dc12_atom_20 ?_
    refine s_putI (fin := false) hG kFc12_123 rfl (fun h => by cases h) rfl (fun _ => rfl) (fun _ => rfl) dc12_atom_21 (fun σ21 => ?_)
    refine s_aload_n hG dc12_atom_24 rfl ?_
    refine s_getR hG kFc12_20 rfl dc12_atom_25 (fun v25 => ?_)
    refine s_iload_n hG dc12_atom_28 rfl ?_
    refine s_iald hG dc12_atom_29 (fun v29 => ?_)
    exact s_iret hG dc12_atom_30 rfl (Nat.le_of_ble_eq_true rfl) (Nat.le_of_ble_eq_true rfl)
set_option maxRecDepth 20000 in
set_option maxHeartbeats 2000000 in
theorem pc12_sum_77 {Ω : Om} {Γ : Ga} {N D : Nat} {G : Rc12_atom} (hG : Good Ω Γ tc12_sum (7 + D) 0 0) (hC : HRc12_atom Ω D G) {K5 : Option Nat → Int32 → Me → Option (Int32 × Me)} (hK5 : ∀ (l0 : Option Nat) (l1 : Int32) (σ : Me), Sim Ω Γ 0 0 ιI 5 5 [(0, vR l0), (1, vI l1)] [] σ 0 0 (K5 l0 l1 σ)) (l0 : Option Nat) (s0 : Int64) (σ : Me) : Sim Ω Γ 0 0 ιI 5 77 [(0, vR l0)] [vL s0] σ 0 0 (fc12_sum_77 N G K5 l0 s0 σ) := by
  unfold fc12_sum_77
  refine s_callSi hG kMc12_178 (corc12_within N _ _) rfl (by first | decide | omega) dc12_sum_77 rfl rfl (Nat.le_of_ble_eq_true rfl) ⟨Nat.le_of_ble_eq_true rfl, Nat.le_of_ble_eq_true rfl⟩ (fun p77 => ?_)
  refine s_istore_n hG dc12_sum_80 (by decide) ?_
  refine s_goto hG 5 dc12_sum_81 (by decide) ?_
  exact s_lv (lc rfl (lc rfl ln)) (hK5 _ _ _)
set_option maxRecDepth 20000 in
set_option maxHeartbeats 2000000 in
theorem pc12_sum_45 {Ω : Om} {Γ : Ga} {N D : Nat} {G : Rc12_atom} (hG : Good Ω Γ tc12_sum (7 + D) 0 0) (hC : HRc12_atom Ω D G) {K5 : Option Nat → Int32 → Me → Option (Int32 × Me)} (hK5 : ∀ (l0 : Option Nat) (l1 : Int32) (σ : Me), Sim Ω Γ 0 0 ιI 5 5 [(0, vR l0), (1, vI l1)] [] σ 0 0 (K5 l0 l1 σ)) (l0 : Option Nat) (l1 : Int32) (s0 : Int32) (σ : Me) : Sim Ω Γ 0 0 ιI 5 45 [(0, vR l0), (1, vI l1)] [vI s0] σ 0 0 (fc12_sum_45 N G K5 l0 l1 s0 σ) := by
  unfold fc12_sum_45
  refine s_istore_n hG dc12_sum_45 (by decide) ?_
  refine s_aload_n hG dc12_sum_46 rfl ?_
  refine s_dup hG dc12_sum_47 rfl ?_
  refine s_getI hG kFc12_123 rfl dc12_sum_48 (fun v48 => ?_)
  refine s_iconst (v := 1) hG dc12_sum_51 (by decide) ?_
  refine s_iadd hG dc12_sum_52 ?_
  refine s_putI (fin := false) hG kFc12_123 rfl (fun h => by cases h) rfl (fun _ => rfl) (fun _ => rfl) dc12_sum_53 (fun σ53 => ?_)
  refine s_aload_n hG dc12_sum_56 rfl ?_
  refine s_callVi hG kMc12_182 (fun a => hC.2.2 a _) ⟨by decide, rfl⟩ rfl (by first | decide | omega) dc12_sum_57 rfl rfl (Nat.le_of_ble_eq_true rfl) ⟨Nat.le_of_ble_eq_true rfl, Nat.le_of_ble_eq_true rfl⟩ (fun p57 => ?_)
  refine s_i2l hG dc12_sum_60 ?_
  refine s_lstore_n hG dc12_sum_61 (by decide) ?_
  refine s_iload_n hG dc12_sum_62 rfl ?_
  refine s_if_eq hG 73 dc12_sum_63 (by decide) ?_ ?_
  · refine s_iload_n hG dc12_sum_73 rfl ?_
    refine s_i2l hG dc12_sum_74 ?_
    refine s_lload_n hG dc12_sum_75 rfl ?_
    refine s_lsub hG dc12_sum_76 ?_
    exact s_lv (lc rfl ln) (pc12_sum_77 hG hC hK5 _ _ _)
  · refine s_iload_n hG dc12_sum_66 rfl ?_
    refine s_i2l hG dc12_sum_67 ?_
    refine s_lload_n hG dc12_sum_68 rfl ?_
    refine s_ladd hG dc12_sum_69 ?_
    refine s_goto hG 77 dc12_sum_70 (by decide) ?_
    exact s_lv (lc rfl ln) (pc12_sum_77 hG hC hK5 _ _ _)
set_option maxRecDepth 20000 in
set_option maxHeartbeats 2000000 in
theorem pc12_sum_31 {Ω : Om} {Γ : Ga} {N D : Nat} {G : Rc12_atom} (hG : Good Ω Γ tc12_sum (7 + D) 0 0) (hC : HRc12_atom Ω D G) {K5 : Option Nat → Int32 → Me → Option (Int32 × Me)} (hK5 : ∀ (l0 : Option Nat) (l1 : Int32) (σ : Me), Sim Ω Γ 0 0 ιI 5 5 [(0, vR l0), (1, vI l1)] [] σ 0 0 (K5 l0 l1 σ)) (l0 : Option Nat) (l1 : Int32) (σ : Me) : Sim Ω Γ 0 0 ιI 5 31 [(0, vR l0), (1, vI l1)] [] σ 0 0 (fc12_sum_31 N G K5 l0 l1 σ) := by
  unfold fc12_sum_31
  refine s_aload_n hG dc12_sum_31 rfl ?_
  refine s_callVi hG kMc12_142 (fun a => corc12_look N a _) ⟨by decide, rfl⟩ rfl (by first | decide | omega) dc12_sum_32 rfl rfl (Nat.le_of_ble_eq_true rfl) ⟨Nat.le_of_ble_eq_true rfl, Nat.le_of_ble_eq_true rfl⟩ (fun p32 => ?_)
  refine s_bipush (v := 43) hG dc12_sum_35 (by decide) ?_
  refine s_icmp_ne hG 44 dc12_sum_37 (by decide) ?_ ?_
  · refine s_iconst (v := 0) hG dc12_sum_44 (by decide) ?_
    exact s_lv (lc rfl (lc rfl ln)) (pc12_sum_45 hG hC hK5 _ _ _ _)
  · refine s_iconst (v := 1) hG dc12_sum_40 (by decide) ?_
    refine s_goto hG 45 dc12_sum_41 (by decide) ?_
    exact s_lv (lc rfl (lc rfl ln)) (pc12_sum_45 hG hC hK5 _ _ _ _)
set_option maxRecDepth 20000 in
set_option maxHeartbeats 2000000 in
theorem pc12_sum_5 {Ω : Om} {Γ : Ga} {N D : Nat} {G : Rc12_atom} (hG : Good Ω Γ tc12_sum (7 + D) 0 0) (hC : HRc12_atom Ω D G)  : ∀ (n : Nat) (l0 : Option Nat) (l1 : Int32) (σ : Me), Sim Ω Γ 0 0 ιI 5 5 [(0, vR l0), (1, vI l1)] [] σ 0 0 (fc12_sum_5 N G n l0 l1 σ) := by
  intro n
  induction n with
  | zero => intros; exact s_none
  | succ n ih =>
    intro l0 l1 σ
    unfold fc12_sum_5
    refine s_aload_n hG dc12_sum_5 rfl ?_
    refine s_getI hG kFc12_132 rfl dc12_sum_6 (fun v6 => ?_)
    refine s_iconst (v := -1) hG dc12_sum_9 (by decide) ?_
    refine s_icmp_ne hG 84 dc12_sum_10 (by decide) ?_ ?_
    · refine s_iload_n hG dc12_sum_84 rfl ?_
      exact s_iret hG dc12_sum_85 rfl (Nat.le_of_ble_eq_true rfl) (Nat.le_of_ble_eq_true rfl)
    · refine s_aload_n hG dc12_sum_13 rfl ?_
      refine s_callVi hG kMc12_142 (fun a => corc12_look N a _) ⟨by decide, rfl⟩ rfl (by first | decide | omega) dc12_sum_14 rfl rfl (Nat.le_of_ble_eq_true rfl) ⟨Nat.le_of_ble_eq_true rfl, Nat.le_of_ble_eq_true rfl⟩ (fun p14 => ?_)
      refine s_bipush (v := 43) hG dc12_sum_17 (by decide) ?_
      refine s_icmp_eq hG 31 dc12_sum_19 (by decide) ?_ ?_
      · exact s_lv (lc rfl (lc rfl ln)) (pc12_sum_31 hG hC ih _ _ _)
      · refine s_aload_n hG dc12_sum_22 rfl ?_
        refine s_callVi hG kMc12_142 (fun a => corc12_look N a _) ⟨by decide, rfl⟩ rfl (by first | decide | omega) dc12_sum_23 rfl rfl (Nat.le_of_ble_eq_true rfl) ⟨Nat.le_of_ble_eq_true rfl, Nat.le_of_ble_eq_true rfl⟩ (fun p23 => ?_)
        refine s_bipush (v := 45) hG dc12_sum_26 (by decide) ?_
        refine s_icmp_ne hG 84 dc12_sum_28 (by decide) ?_ ?_
        · refine s_iload_n hG dc12_sum_84 rfl ?_
          exact s_iret hG dc12_sum_85 rfl (Nat.le_of_ble_eq_true rfl) (Nat.le_of_ble_eq_true rfl)
        · exact s_lv (lc rfl (lc rfl ln)) (pc12_sum_31 hG hC ih _ _ _)
set_option maxRecDepth 20000 in
set_option maxHeartbeats 2000000 in
theorem corbc12_sum {Ω : Om} {N D : Nat} {G : Rc12_atom} (hC : HRc12_atom Ω D G) (a0 : Nat) (σ : Me) : Cor Ω tc12_sum (7 + D) 0 0 [vR (some a0)] σ ιI (bc12_sum N G a0 σ) := by
  refine Cor.of (by decide +kernel) (Nat.le_of_ble_eq_true rfl) (fun Γ hG => ?_)
  unfold bc12_sum
  show Sim Ω Γ 0 0 ιI 5 0 [(0, vR (some a0))] [] σ 0 0 _
  refine s_aload_n hG dc12_sum_0 rfl ?_
  refine s_callVi hG kMc12_182 (fun a => hC.2.2 a _) ⟨by decide, rfl⟩ rfl (by first | decide | omega) dc12_sum_1 rfl rfl (Nat.le_of_ble_eq_true rfl) ⟨Nat.le_of_ble_eq_true rfl, Nat.le_of_ble_eq_true rfl⟩ (fun p1 => ?_)
  refine s_istore_n hG dc12_sum_4 (by decide) ?_
  exact s_lv (lc rfl (lc rfl ln)) (pc12_sum_5 hG hC _ _ _ _)
set_option maxRecDepth 20000 in
set_option maxHeartbeats 2000000 in
theorem pc12_term_87 {Ω : Om} {Γ : Ga} {N D : Nat} {G : Rc12_atom} (hG : Good Ω Γ tc12_term (7 + D) 0 0) (hC : HRc12_atom Ω D G) {K5 : Option Nat → Int32 → Me → Option (Int32 × Me)} (hK5 : ∀ (l0 : Option Nat) (l1 : Int32) (σ : Me), Sim Ω Γ 0 0 ιI 5 5 [(0, vR l0), (1, vI l1)] [] σ 0 0 (K5 l0 l1 σ)) (l0 : Option Nat) (s0 : Int64) (σ : Me) : Sim Ω Γ 0 0 ιI 5 87 [(0, vR l0)] [vL s0] σ 0 0 (fc12_term_87 N G K5 l0 s0 σ) := by
  unfold fc12_term_87
  refine s_callSi hG kMc12_178 (corc12_within N _ _) rfl (by first | decide | omega) dc12_term_87 rfl rfl (Nat.le_of_ble_eq_true rfl) ⟨Nat.le_of_ble_eq_true rfl, Nat.le_of_ble_eq_true rfl⟩ (fun p87 => ?_)
  refine s_istore_n hG dc12_term_90 (by decide) ?_
  refine s_goto hG 5 dc12_term_91 (by decide) ?_
  exact s_lv (lc rfl (lc rfl ln)) (hK5 _ _ _)
set_option maxRecDepth 20000 in
set_option maxHeartbeats 2000000 in
theorem pc12_term_45 {Ω : Om} {Γ : Ga} {N D : Nat} {G : Rc12_atom} (hG : Good Ω Γ tc12_term (7 + D) 0 0) (hC : HRc12_atom Ω D G) {K5 : Option Nat → Int32 → Me → Option (Int32 × Me)} (hK5 : ∀ (l0 : Option Nat) (l1 : Int32) (σ : Me), Sim Ω Γ 0 0 ιI 5 5 [(0, vR l0), (1, vI l1)] [] σ 0 0 (K5 l0 l1 σ)) (l0 : Option Nat) (l1 : Int32) (s0 : Int32) (σ : Me) : Sim Ω Γ 0 0 ιI 5 45 [(0, vR l0), (1, vI l1)] [vI s0] σ 0 0 (fc12_term_45 N G K5 l0 l1 s0 σ) := by
  unfold fc12_term_45
  refine s_istore_n hG dc12_term_45 (by decide) ?_
  refine s_aload_n hG dc12_term_46 rfl ?_
  refine s_dup hG dc12_term_47 rfl ?_
  refine s_getI hG kFc12_123 rfl dc12_term_48 (fun v48 => ?_)
  refine s_iconst (v := 1) hG dc12_term_51 (by decide) ?_
  refine s_iadd hG dc12_term_52 ?_
  refine s_putI (fin := false) hG kFc12_123 rfl (fun h => by cases h) rfl (fun _ => rfl) (fun _ => rfl) dc12_term_53 (fun σ53 => ?_)
  refine s_aload_n hG dc12_term_56 rfl ?_
  refine s_callVi hG kMc12_175 (fun a => hC.1 a _) ⟨by decide, rfl⟩ rfl (by first | decide | omega) dc12_term_57 rfl rfl (Nat.le_of_ble_eq_true rfl) ⟨Nat.le_of_ble_eq_true rfl, Nat.le_of_ble_eq_true rfl⟩ (fun p57 => ?_)
  refine s_i2l hG dc12_term_60 ?_
  refine s_lstore_n hG dc12_term_61 (by decide) ?_
  refine s_iload_n hG dc12_term_62 rfl ?_
  refine s_if_eq hG 73 dc12_term_63 (by decide) ?_ ?_
  · refine s_lload_n hG dc12_term_73 rfl ?_
    refine s_lconst (v := 0) hG dc12_term_74 (by decide) ?_
    refine s_lcmp hG dc12_term_75 ?_
    refine s_if_ne hG 83 dc12_term_76 (by decide) ?_ ?_
    · refine s_iload_n hG dc12_term_83 rfl ?_
      refine s_i2l hG dc12_term_84 ?_
      refine s_lload_n hG dc12_term_85 rfl ?_
      refine s_ldiv hG dc12_term_86 (fun v86 => ?_)
      exact s_lv (lc rfl ln) (pc12_term_87 hG hC hK5 _ _ _)
    · refine s_lconst (v := 0) hG dc12_term_79 (by decide) ?_
      refine s_goto hG 87 dc12_term_80 (by decide) ?_
      exact s_lv (lc rfl ln) (pc12_term_87 hG hC hK5 _ _ _)
  · refine s_iload_n hG dc12_term_66 rfl ?_
    refine s_i2l hG dc12_term_67 ?_
    refine s_lload_n hG dc12_term_68 rfl ?_
    refine s_lmul hG dc12_term_69 ?_
    refine s_goto hG 87 dc12_term_70 (by decide) ?_
    exact s_lv (lc rfl ln) (pc12_term_87 hG hC hK5 _ _ _)
set_option maxRecDepth 20000 in
set_option maxHeartbeats 2000000 in
theorem pc12_term_31 {Ω : Om} {Γ : Ga} {N D : Nat} {G : Rc12_atom} (hG : Good Ω Γ tc12_term (7 + D) 0 0) (hC : HRc12_atom Ω D G) {K5 : Option Nat → Int32 → Me → Option (Int32 × Me)} (hK5 : ∀ (l0 : Option Nat) (l1 : Int32) (σ : Me), Sim Ω Γ 0 0 ιI 5 5 [(0, vR l0), (1, vI l1)] [] σ 0 0 (K5 l0 l1 σ)) (l0 : Option Nat) (l1 : Int32) (σ : Me) : Sim Ω Γ 0 0 ιI 5 31 [(0, vR l0), (1, vI l1)] [] σ 0 0 (fc12_term_31 N G K5 l0 l1 σ) := by
  unfold fc12_term_31
  refine s_aload_n hG dc12_term_31 rfl ?_
  refine s_callVi hG kMc12_142 (fun a => corc12_look N a _) ⟨by decide, rfl⟩ rfl (by first | decide | omega) dc12_term_32 rfl rfl (Nat.le_of_ble_eq_true rfl) ⟨Nat.le_of_ble_eq_true rfl, Nat.le_of_ble_eq_true rfl⟩ (fun p32 => ?_)
  refine s_bipush (v := 42) hG dc12_term_35 (by decide) ?_
  refine s_icmp_ne hG 44 dc12_term_37 (by decide) ?_ ?_
  · refine s_iconst (v := 0) hG dc12_term_44 (by decide) ?_
    exact s_lv (lc rfl (lc rfl ln)) (pc12_term_45 hG hC hK5 _ _ _ _)
  · refine s_iconst (v := 1) hG dc12_term_40 (by decide) ?_
    refine s_goto hG 45 dc12_term_41 (by decide) ?_
    exact s_lv (lc rfl (lc rfl ln)) (pc12_term_45 hG hC hK5 _ _ _ _)
set_option maxRecDepth 20000 in
set_option maxHeartbeats 2000000 in
theorem pc12_term_5 {Ω : Om} {Γ : Ga} {N D : Nat} {G : Rc12_atom} (hG : Good Ω Γ tc12_term (7 + D) 0 0) (hC : HRc12_atom Ω D G)  : ∀ (n : Nat) (l0 : Option Nat) (l1 : Int32) (σ : Me), Sim Ω Γ 0 0 ιI 5 5 [(0, vR l0), (1, vI l1)] [] σ 0 0 (fc12_term_5 N G n l0 l1 σ) := by
  intro n
  induction n with
  | zero => intros; exact s_none
  | succ n ih =>
    intro l0 l1 σ
    unfold fc12_term_5
    refine s_aload_n hG dc12_term_5 rfl ?_
    refine s_getI hG kFc12_132 rfl dc12_term_6 (fun v6 => ?_)
    refine s_iconst (v := -1) hG dc12_term_9 (by decide) ?_
    refine s_icmp_ne hG 94 dc12_term_10 (by decide) ?_ ?_
    · refine s_iload_n hG dc12_term_94 rfl ?_
      exact s_iret hG dc12_term_95 rfl (Nat.le_of_ble_eq_true rfl) (Nat.le_of_ble_eq_true rfl)
    · refine s_aload_n hG dc12_term_13 rfl ?_
      refine s_callVi hG kMc12_142 (fun a => corc12_look N a _) ⟨by decide, rfl⟩ rfl (by first | decide | omega) dc12_term_14 rfl rfl (Nat.le_of_ble_eq_true rfl) ⟨Nat.le_of_ble_eq_true rfl, Nat.le_of_ble_eq_true rfl⟩ (fun p14 => ?_)
      refine s_bipush (v := 42) hG dc12_term_17 (by decide) ?_
      refine s_icmp_eq hG 31 dc12_term_19 (by decide) ?_ ?_
      · exact s_lv (lc rfl (lc rfl ln)) (pc12_term_31 hG hC ih _ _ _)
      · refine s_aload_n hG dc12_term_22 rfl ?_
        refine s_callVi hG kMc12_142 (fun a => corc12_look N a _) ⟨by decide, rfl⟩ rfl (by first | decide | omega) dc12_term_23 rfl rfl (Nat.le_of_ble_eq_true rfl) ⟨Nat.le_of_ble_eq_true rfl, Nat.le_of_ble_eq_true rfl⟩ (fun p23 => ?_)
        refine s_bipush (v := 47) hG dc12_term_26 (by decide) ?_
        refine s_icmp_ne hG 94 dc12_term_28 (by decide) ?_ ?_
        · refine s_iload_n hG dc12_term_94 rfl ?_
          exact s_iret hG dc12_term_95 rfl (Nat.le_of_ble_eq_true rfl) (Nat.le_of_ble_eq_true rfl)
        · exact s_lv (lc rfl (lc rfl ln)) (pc12_term_31 hG hC ih _ _ _)
set_option maxRecDepth 20000 in
set_option maxHeartbeats 2000000 in
theorem corbc12_term {Ω : Om} {N D : Nat} {G : Rc12_atom} (hC : HRc12_atom Ω D G) (a0 : Nat) (σ : Me) : Cor Ω tc12_term (7 + D) 0 0 [vR (some a0)] σ ιI (bc12_term N G a0 σ) := by
  refine Cor.of (by decide +kernel) (Nat.le_of_ble_eq_true rfl) (fun Γ hG => ?_)
  unfold bc12_term
  show Sim Ω Γ 0 0 ιI 5 0 [(0, vR (some a0))] [] σ 0 0 _
  refine s_aload_n hG dc12_term_0 rfl ?_
  refine s_callVi hG kMc12_175 (fun a => hC.1 a _) ⟨by decide, rfl⟩ rfl (by first | decide | omega) dc12_term_1 rfl rfl (Nat.le_of_ble_eq_true rfl) ⟨Nat.le_of_ble_eq_true rfl, Nat.le_of_ble_eq_true rfl⟩ (fun p1 => ?_)
  refine s_istore_n hG dc12_term_4 (by decide) ?_
  exact s_lv (lc rfl (lc rfl ln)) (pc12_term_5 hG hC _ _ _ _)
set_option maxRecDepth 20000 in
set_option maxHeartbeats 2000000 in
theorem corRc12_atom {Ω : Om} (N : Nat) : ∀ D : Nat, HRc12_atom Ω D (GRc12_atom N D) := by
  intro D
  induction D with
  | zero => exact ⟨(fun _ _ r σ' e => by cases e), (fun _ _ r σ' e => by cases e), (fun _ _ r σ' e => by cases e)⟩
  | succ D ih => exact ⟨(fun a0 σ => by have h := corbc12_atom (Ω := Ω) (N := N) ih a0 σ; rw [show 7 + D = 6 + (D + 1) from by omega] at h; exact h), (fun a0 σ => by have h := corbc12_sum (Ω := Ω) (N := N) ih a0 σ; rw [show 7 + D = 6 + (D + 1) from by omega] at h; exact h), (fun a0 σ => by have h := corbc12_term (Ω := Ω) (N := N) ih a0 σ; rw [show 7 + D = 6 + (D + 1) from by omega] at h; exact h)⟩
set_option maxRecDepth 20000 in
set_option maxHeartbeats 2000000 in
theorem corc12_atom {Ω : Om} (N : Nat) (a0 : Nat) (σ : Me) : Cor Ω tc12_atom 70 0 0 [vR (some a0)] σ ιI (fc12_atom N a0 σ) := (corRc12_atom N 64).1 a0 σ
set_option maxRecDepth 20000 in
set_option maxHeartbeats 2000000 in
theorem corc12_sum {Ω : Om} (N : Nat) (a0 : Nat) (σ : Me) : Cor Ω tc12_sum 70 0 0 [vR (some a0)] σ ιI (fc12_sum N a0 σ) := (corRc12_atom N 64).2.1 a0 σ
set_option maxRecDepth 20000 in
set_option maxHeartbeats 2000000 in
theorem corc12_term {Ω : Om} (N : Nat) (a0 : Nat) (σ : Me) : Cor Ω tc12_term 70 0 0 [vR (some a0)] σ ιI (fc12_term N a0 σ) := (corRc12_atom N 64).2.2 a0 σ
def fc12_compares_12 (N : Nat) (l0 : Option Nat) (s0 : Int32) (σ : Me) : Option (Int32 × Me) :=
  (qI σ 12 11 l0).bind fun v14 =>
  if v14 = (-1 : Int32) then
    (dr σ l0 (.inl 12)).bind fun a =>
    (fc12_look N a σ).bind fun p24 =>
    (fc12_isSign N p24.1 p24.2).bind fun p31 =>
    if p31.1 = 0 then
      (dr p31.2 l0 (.inl 12)).bind fun a =>
      (fc12_fails N a p31.2).bind fun p38 =>
      retZ p38.1 p38.2
    else
      (qI p31.2 12 10 l0).bind fun v44 =>
      (pI p31.2 12 10 l0 (v44 + (1 : Int32))).bind fun σ49 =>
      (dr σ49 l0 (.inl 12)).bind fun a =>
      (fc12_sum N a σ49).bind fun p53 =>
      if p24.1 = (61 : Int32) then
        if s0 = p53.1 then
          retZ (1 : Int32) p53.2
        else
          retZ (0 : Int32) p53.2
      else
        if p24.1 = (60 : Int32) then
          if p53.1 ≤ s0 then
            retZ (0 : Int32) p53.2
          else
            retZ (1 : Int32) p53.2
        else
          if s0 ≤ p53.1 then
            retZ (0 : Int32) p53.2
          else
            retZ (1 : Int32) p53.2
  else
    retZ (0 : Int32) σ
def fc12_compares (N : Nat) (a0 : Nat) (x1 : Int32) (x2 : Int32) (σ : Me) : Option (Int32 × Me) :=
  if x1 = 0 then
    (dr σ (some a0) (.inl 12)).bind fun a =>
    (fc12_sum N a σ).bind fun p9 =>
    fc12_compares_12 N (some a0) p9.1 p9.2
  else
    fc12_compares_12 N (some a0) x2 σ
set_option maxRecDepth 20000 in
set_option maxHeartbeats 2000000 in
theorem pc12_compares_12 {Ω : Om} {Γ : Ga} {N : Nat} (hG : Good Ω Γ tc12_compares 71 0 0) (l0 : Option Nat) (s0 : Int32) (σ : Me) : Sim Ω Γ 0 0 ιI 6 12 [(0, vR l0)] [vI s0] σ 0 0 (fc12_compares_12 N l0 s0 σ) := by
  unfold fc12_compares_12
  refine s_istore_n hG dc12_compares_12 (by decide) ?_
  refine s_aload_n hG dc12_compares_13 rfl ?_
  refine s_getI hG kFc12_132 rfl dc12_compares_14 (fun v14 => ?_)
  refine s_iconst (v := -1) hG dc12_compares_17 (by decide) ?_
  refine s_icmp_eq hG 23 dc12_compares_18 (by decide) ?_ ?_
  · refine s_aload_n hG dc12_compares_23 rfl ?_
    refine s_callVi hG kMc12_142 (fun a => corc12_look N a _) ⟨by decide, rfl⟩ rfl (by first | decide | omega) dc12_compares_24 rfl rfl (Nat.le_of_ble_eq_true rfl) ⟨Nat.le_of_ble_eq_true rfl, Nat.le_of_ble_eq_true rfl⟩ (fun p24 => ?_)
    refine s_istore hG dc12_compares_27 (by decide) ?_
    refine s_iload hG dc12_compares_29 rfl ?_
    refine s_callSi hG kMc12_185 (corc12_isSign N _ _) rfl (by first | decide | omega) dc12_compares_31 rfl rfl (Nat.le_of_ble_eq_true rfl) ⟨Nat.le_of_ble_eq_true rfl, Nat.le_of_ble_eq_true rfl⟩ (fun p31 => ?_)
    refine s_if_ne hG 42 dc12_compares_34 (by decide) ?_ ?_
    · refine s_aload_n hG dc12_compares_42 rfl ?_
      refine s_dup hG dc12_compares_43 rfl ?_
      refine s_getI hG kFc12_123 rfl dc12_compares_44 (fun v44 => ?_)
      refine s_iconst (v := 1) hG dc12_compares_47 (by decide) ?_
      refine s_iadd hG dc12_compares_48 ?_
      refine s_putI (fin := false) hG kFc12_123 rfl (fun h => by cases h) rfl (fun _ => rfl) (fun _ => rfl) dc12_compares_49 (fun σ49 => ?_)
      refine s_aload_n hG dc12_compares_52 rfl ?_
      refine s_callVi hG kMc12_165 (fun a => corc12_sum N a _) ⟨by decide, rfl⟩ rfl (by first | decide | omega) dc12_compares_53 rfl rfl (Nat.le_of_ble_eq_true rfl) ⟨Nat.le_of_ble_eq_true rfl, Nat.le_of_ble_eq_true rfl⟩ (fun p53 => ?_)
      refine s_istore hG dc12_compares_56 (by decide) ?_
      refine s_iload hG dc12_compares_58 rfl ?_
      refine s_bipush (v := 61) hG dc12_compares_60 (by decide) ?_
      refine s_icmp_ne hG 79 dc12_compares_62 (by decide) ?_ ?_
      · refine s_iload hG dc12_compares_79 rfl ?_
        refine s_bipush (v := 60) hG dc12_compares_81 (by decide) ?_
        refine s_icmp_ne hG 100 dc12_compares_83 (by decide) ?_ ?_
        · refine s_iload_n hG dc12_compares_100 rfl ?_
          refine s_iload hG dc12_compares_101 rfl ?_
          refine s_icmp_le hG 110 dc12_compares_103 (by decide) ?_ ?_
          · refine s_iconst (v := 0) hG dc12_compares_110 (by decide) ?_
            exact s_zret hG dc12_compares_111 rfl (Nat.le_of_ble_eq_true rfl) (Nat.le_of_ble_eq_true rfl)
          · refine s_iconst (v := 1) hG dc12_compares_106 (by decide) ?_
            refine s_goto hG 111 dc12_compares_107 (by decide) ?_
            exact s_zret hG dc12_compares_111 rfl (Nat.le_of_ble_eq_true rfl) (Nat.le_of_ble_eq_true rfl)
        · refine s_iload_n hG dc12_compares_86 rfl ?_
          refine s_iload hG dc12_compares_87 rfl ?_
          refine s_icmp_ge hG 96 dc12_compares_89 (by decide) ?_ ?_
          · refine s_iconst (v := 0) hG dc12_compares_96 (by decide) ?_
            refine s_goto hG 111 dc12_compares_97 (by decide) ?_
            exact s_zret hG dc12_compares_111 rfl (Nat.le_of_ble_eq_true rfl) (Nat.le_of_ble_eq_true rfl)
          · refine s_iconst (v := 1) hG dc12_compares_92 (by decide) ?_
            refine s_goto hG 111 dc12_compares_93 (by decide) ?_
            exact s_zret hG dc12_compares_111 rfl (Nat.le_of_ble_eq_true rfl) (Nat.le_of_ble_eq_true rfl)
      · refine s_iload_n hG dc12_compares_65 rfl ?_
        refine s_iload hG dc12_compares_66 rfl ?_
        refine s_icmp_ne hG 75 dc12_compares_68 (by decide) ?_ ?_
        · refine s_iconst (v := 0) hG dc12_compares_75 (by decide) ?_
          refine s_goto hG 111 dc12_compares_76 (by decide) ?_
          exact s_zret hG dc12_compares_111 rfl (Nat.le_of_ble_eq_true rfl) (Nat.le_of_ble_eq_true rfl)
        · refine s_iconst (v := 1) hG dc12_compares_71 (by decide) ?_
          refine s_goto hG 111 dc12_compares_72 (by decide) ?_
          exact s_zret hG dc12_compares_111 rfl (Nat.le_of_ble_eq_true rfl) (Nat.le_of_ble_eq_true rfl)
    · refine s_aload_n hG dc12_compares_37 rfl ?_
      refine s_callVi hG kMc12_138 (fun a => corc12_fails N a _) ⟨by decide, rfl⟩ rfl (by first | decide | omega) dc12_compares_38 rfl rfl (Nat.le_of_ble_eq_true rfl) ⟨Nat.le_of_ble_eq_true rfl, Nat.le_of_ble_eq_true rfl⟩ (fun p38 => ?_)
      exact s_zret hG dc12_compares_41 rfl (Nat.le_of_ble_eq_true rfl) (Nat.le_of_ble_eq_true rfl)
  · refine s_iconst (v := 0) hG dc12_compares_21 (by decide) ?_
    exact s_zret hG dc12_compares_22 rfl (Nat.le_of_ble_eq_true rfl) (Nat.le_of_ble_eq_true rfl)
set_option maxRecDepth 20000 in
set_option maxHeartbeats 2000000 in
theorem corc12_compares {Ω : Om} (N : Nat) (a0 : Nat) (x1 : Int32) (x2 : Int32) (σ : Me) : Cor Ω tc12_compares 71 0 0 [vR (some a0), vI x1, vI x2] σ ιI (fc12_compares N a0 x1 x2 σ) := by
  refine Cor.of (by decide +kernel) (Nat.le_of_ble_eq_true rfl) (fun Γ hG => ?_)
  unfold fc12_compares
  show Sim Ω Γ 0 0 ιI 6 0 [(0, vR (some a0)), (1, vI x1), (2, vI x2)] [] σ 0 0 _
  refine s_iload_n hG dc12_compares_0 rfl ?_
  refine s_if_eq hG 8 dc12_compares_1 (by decide) ?_ ?_
  · refine s_aload_n hG dc12_compares_8 rfl ?_
    refine s_callVi hG kMc12_165 (fun a => corc12_sum N a _) ⟨by decide, rfl⟩ rfl (by first | decide | omega) dc12_compares_9 rfl rfl (Nat.le_of_ble_eq_true rfl) ⟨Nat.le_of_ble_eq_true rfl, Nat.le_of_ble_eq_true rfl⟩ (fun p9 => ?_)
    exact s_lv (lc rfl ln) (pc12_compares_12 hG _ _ _)
  · refine s_iload_n hG dc12_compares_4 rfl ?_
    refine s_goto hG 12 dc12_compares_5 (by decide) ?_
    exact s_lv (lc rfl ln) (pc12_compares_12 hG _ _ _)
