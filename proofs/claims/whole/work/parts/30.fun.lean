def fc12_look_43 (N : Nat) (l0 : Option Nat) (σ : Me) : Option (Int32 × Me) :=
  (qI σ 12 10 l0).bind fun v44 =>
  (qI σ 12 9 l0).bind fun v48 =>
  if v48 ≤ v44 then
    some ((-1 : Int32), σ)
  else
    (qR σ 12 5 l0).bind fun v55 =>
    (qI σ 12 8 l0).bind fun v59 =>
    (qI σ 12 10 l0).bind fun v63 =>
    (ldB σ v55 (v59 + v63)).bind fun v67 =>
    some ((v67 &&& (255 : Int32)), σ)
def fc12_look_0 (N : Nat) : Nat → Option Nat → Me → Option (Int32 × Me)
  | 0, _, _ => none
  | n + 1, l0, σ =>
    (qI σ 12 10 l0).bind fun v1 =>
    (qI σ 12 9 l0).bind fun v5 =>
    if v5 ≤ v1 then
      fc12_look_43 N l0 σ
    else
      (qR σ 12 5 l0).bind fun v12 =>
      (qI σ 12 8 l0).bind fun v16 =>
      (qI σ 12 10 l0).bind fun v20 =>
      (ldB σ v12 (v16 + v20)).bind fun v24 =>
      if v24 = (32 : Int32) then
        (qI σ 12 10 l0).bind fun v32 =>
        (pI σ 12 10 l0 (v32 + (1 : Int32))).bind fun σ37 =>
        (fc12_look_0 N n) l0 σ37
      else
        fc12_look_43 N l0 σ
def fc12_look (N : Nat) (a0 : Nat) (σ : Me) : Option (Int32 × Me) :=
  fc12_look_0 N N (some a0) σ
set_option maxRecDepth 20000 in
set_option maxHeartbeats 2000000 in
theorem pc12_look_43 {Ω : Om} {Γ : Ga} {N : Nat} (hG : Good Ω Γ tc12_look 1 0 0) (l0 : Option Nat) (σ : Me) : Sim Ω Γ 0 0 ιI 1 43 [(0, vR l0)] [] σ 0 0 (fc12_look_43 N l0 σ) := by
  unfold fc12_look_43
  refine s_aload_n hG dc12_look_43 rfl ?_
  refine s_getI hG kFc12_123 rfl dc12_look_44 (fun v44 => ?_)
  refine s_aload_n hG dc12_look_47 rfl ?_
  refine s_getI hG kFc12_126 rfl dc12_look_48 (fun v48 => ?_)
  refine s_icmp_ge hG 75 dc12_look_51 (by decide) ?_ ?_
  · refine s_iconst (v := -1) hG dc12_look_75 (by decide) ?_
    exact s_iret hG dc12_look_76 rfl (Nat.le_of_ble_eq_true rfl) (Nat.le_of_ble_eq_true rfl)
  · refine s_aload_n hG dc12_look_54 rfl ?_
    refine s_getR hG kFc12_23 rfl dc12_look_55 (fun v55 => ?_)
    refine s_aload_n hG dc12_look_58 rfl ?_
    refine s_getI hG kFc12_129 rfl dc12_look_59 (fun v59 => ?_)
    refine s_aload_n hG dc12_look_62 rfl ?_
    refine s_getI hG kFc12_123 rfl dc12_look_63 (fun v63 => ?_)
    refine s_iadd hG dc12_look_66 ?_
    refine s_bald hG dc12_look_67 (fun v67 => ?_)
    refine s_sipush (v := 255) hG dc12_look_68 (by decide) ?_
    refine s_iand hG dc12_look_71 ?_
    refine s_goto hG 76 dc12_look_72 (by decide) ?_
    exact s_iret hG dc12_look_76 rfl (Nat.le_of_ble_eq_true rfl) (Nat.le_of_ble_eq_true rfl)
set_option maxRecDepth 20000 in
set_option maxHeartbeats 2000000 in
theorem pc12_look_0 {Ω : Om} {Γ : Ga} {N : Nat} (hG : Good Ω Γ tc12_look 1 0 0) : ∀ (n : Nat) (l0 : Option Nat) (σ : Me), Sim Ω Γ 0 0 ιI 1 0 [(0, vR l0)] [] σ 0 0 (fc12_look_0 N n l0 σ) := by
  intro n
  induction n with
  | zero => intros; exact s_none
  | succ n ih =>
    intro l0 σ
    unfold fc12_look_0
    refine s_aload_n hG dc12_look_0 rfl ?_
    refine s_getI hG kFc12_123 rfl dc12_look_1 (fun v1 => ?_)
    refine s_aload_n hG dc12_look_4 rfl ?_
    refine s_getI hG kFc12_126 rfl dc12_look_5 (fun v5 => ?_)
    refine s_icmp_ge hG 43 dc12_look_8 (by decide) ?_ ?_
    · exact s_lv (lc rfl ln) (pc12_look_43 hG _ _)
    · refine s_aload_n hG dc12_look_11 rfl ?_
      refine s_getR hG kFc12_23 rfl dc12_look_12 (fun v12 => ?_)
      refine s_aload_n hG dc12_look_15 rfl ?_
      refine s_getI hG kFc12_129 rfl dc12_look_16 (fun v16 => ?_)
      refine s_aload_n hG dc12_look_19 rfl ?_
      refine s_getI hG kFc12_123 rfl dc12_look_20 (fun v20 => ?_)
      refine s_iadd hG dc12_look_23 ?_
      refine s_bald hG dc12_look_24 (fun v24 => ?_)
      refine s_bipush (v := 32) hG dc12_look_25 (by decide) ?_
      refine s_icmp_ne hG 43 dc12_look_27 (by decide) ?_ ?_
      · exact s_lv (lc rfl ln) (pc12_look_43 hG _ _)
      · refine s_aload_n hG dc12_look_30 rfl ?_
        refine s_dup hG dc12_look_31 rfl ?_
        refine s_getI hG kFc12_123 rfl dc12_look_32 (fun v32 => ?_)
        refine s_iconst (v := 1) hG dc12_look_35 (by decide) ?_
        refine s_iadd hG dc12_look_36 ?_
        refine s_putI (fin := false) hG kFc12_123 rfl (fun h => by cases h) rfl (fun _ => rfl) (fun _ => rfl) dc12_look_37 (fun σ37 => ?_)
        refine s_goto hG 0 dc12_look_40 (by decide) ?_
        exact s_lv (lc rfl ln) (ih _ _)
set_option maxRecDepth 20000 in
set_option maxHeartbeats 2000000 in
theorem corc12_look {Ω : Om} (N : Nat) (a0 : Nat) (σ : Me) : Cor Ω tc12_look 1 0 0 [vR (some a0)] σ ιI (fc12_look N a0 σ) := by
  refine Cor.of (by decide +kernel) (Nat.le_of_ble_eq_true rfl) (fun Γ hG => ?_)
  unfold fc12_look
  show Sim Ω Γ 0 0 ιI 1 0 [(0, vR (some a0))] [] σ 0 0 _
  exact s_lv (lc rfl ln) (pc12_look_0 hG _ _ _)
def fc12_starts (N : Nat) (a0 : Nat) (x1 : Option Nat) (x2 : Int32) (x3 : Int32) (σ : Me) : Option (Unit × Me) :=
  (pR σ 12 5 (some a0) x1).bind fun σ2 =>
  (pI σ2 12 8 (some a0) x2).bind fun σ7 =>
  (pI σ7 12 9 (some a0) x3).bind fun σ12 =>
  (pI σ12 12 10 (some a0) (0 : Int32)).bind fun σ17 =>
  (pI σ17 12 11 (some a0) (-1 : Int32)).bind fun σ22 =>
  some ((), σ22)
set_option maxRecDepth 20000 in
set_option maxHeartbeats 2000000 in
theorem corc12_starts {Ω : Om} (N : Nat) (a0 : Nat) (x1 : Option Nat) (x2 : Int32) (x3 : Int32) (σ : Me) : Cor Ω tc12_starts 1 0 0 [vR (some a0), vR x1, vI x2, vI x3] σ ιV (fc12_starts N a0 x1 x2 x3 σ) := by
  refine Cor.of (by decide +kernel) (Nat.le_of_ble_eq_true rfl) (fun Γ hG => ?_)
  unfold fc12_starts
  show Sim Ω Γ 0 0 ιV 4 0 [(0, vR (some a0)), (1, vR x1), (2, vI x2), (3, vI x3)] [] σ 0 0 _
  refine s_aload_n hG dc12_starts_0 rfl ?_
  refine s_aload_n hG dc12_starts_1 rfl ?_
  refine s_putR (fin := false) hG kFc12_23 rfl (fun h => by cases h) rfl (fun v => by cases v <;> rfl) (fun v => by cases v <;> rfl) dc12_starts_2 (fun σ2 => ?_)
  refine s_aload_n hG dc12_starts_5 rfl ?_
  refine s_iload_n hG dc12_starts_6 rfl ?_
  refine s_putI (fin := false) hG kFc12_129 rfl (fun h => by cases h) rfl (fun _ => rfl) (fun _ => rfl) dc12_starts_7 (fun σ7 => ?_)
  refine s_aload_n hG dc12_starts_10 rfl ?_
  refine s_iload_n hG dc12_starts_11 rfl ?_
  refine s_putI (fin := false) hG kFc12_126 rfl (fun h => by cases h) rfl (fun _ => rfl) (fun _ => rfl) dc12_starts_12 (fun σ12 => ?_)
  refine s_aload_n hG dc12_starts_15 rfl ?_
  refine s_iconst (v := 0) hG dc12_starts_16 (by decide) ?_
  refine s_putI (fin := false) hG kFc12_123 rfl (fun h => by cases h) rfl (fun _ => rfl) (fun _ => rfl) dc12_starts_17 (fun σ17 => ?_)
  refine s_aload_n hG dc12_starts_20 rfl ?_
  refine s_iconst (v := -1) hG dc12_starts_21 (by decide) ?_
  refine s_putI (fin := false) hG kFc12_132 rfl (fun h => by cases h) rfl (fun _ => rfl) (fun _ => rfl) dc12_starts_22 (fun σ22 => ?_)
  exact s_vret hG dc12_starts_25 rfl (Nat.le_of_ble_eq_true rfl) (Nat.le_of_ble_eq_true rfl)
def fc12_usual (N : Nat) (x0 : Int32) (x1 : Int32) (σ : Me) : Option (Int32 × Me) :=
  if x0 = (115 : Int32) then
    if x1 = 0 then
      some ((1 : Int32), σ)
    else
      if x1 = (1 : Int32) then
        some ((30 : Int32), σ)
      else
        some ((2 : Int32), σ)
  else
    if x1 = 0 then
      some ((0 : Int32), σ)
    else
      if x1 = (1 : Int32) then
        some ((6 : Int32), σ)
      else
        if x1 = (2 : Int32) then
          some ((5 : Int32), σ)
        else
          if x1 = (3 : Int32) then
            some ((3 : Int32), σ)
          else
            some ((20 : Int32), σ)
set_option maxRecDepth 20000 in
set_option maxHeartbeats 2000000 in
theorem corc12_usual {Ω : Om} (N : Nat) (x0 : Int32) (x1 : Int32) (σ : Me) : Cor Ω tc12_usual 1 0 0 [vI x0, vI x1] σ ιI (fc12_usual N x0 x1 σ) := by
  refine Cor.of (by decide +kernel) (Nat.le_of_ble_eq_true rfl) (fun Γ hG => ?_)
  unfold fc12_usual
  show Sim Ω Γ 0 0 ιI 2 0 [(0, vI x0), (1, vI x1)] [] σ 0 0 _
  refine s_iload_n hG dc12_usual_0 rfl ?_
  refine s_bipush (v := 115) hG dc12_usual_1 (by decide) ?_
  refine s_icmp_ne hG 26 dc12_usual_3 (by decide) ?_ ?_
  · refine s_iload_n hG dc12_usual_26 rfl ?_
    refine s_if_ne hG 34 dc12_usual_27 (by decide) ?_ ?_
    · refine s_iload_n hG dc12_usual_34 rfl ?_
      refine s_iconst (v := 1) hG dc12_usual_35 (by decide) ?_
      refine s_icmp_ne hG 44 dc12_usual_36 (by decide) ?_ ?_
      · refine s_iload_n hG dc12_usual_44 rfl ?_
        refine s_iconst (v := 2) hG dc12_usual_45 (by decide) ?_
        refine s_icmp_ne hG 53 dc12_usual_46 (by decide) ?_ ?_
        · refine s_iload_n hG dc12_usual_53 rfl ?_
          refine s_iconst (v := 3) hG dc12_usual_54 (by decide) ?_
          refine s_icmp_ne hG 62 dc12_usual_55 (by decide) ?_ ?_
          · refine s_bipush (v := 20) hG dc12_usual_62 (by decide) ?_
            exact s_iret hG dc12_usual_64 rfl (Nat.le_of_ble_eq_true rfl) (Nat.le_of_ble_eq_true rfl)
          · refine s_iconst (v := 3) hG dc12_usual_58 (by decide) ?_
            refine s_goto hG 64 dc12_usual_59 (by decide) ?_
            exact s_iret hG dc12_usual_64 rfl (Nat.le_of_ble_eq_true rfl) (Nat.le_of_ble_eq_true rfl)
        · refine s_iconst (v := 5) hG dc12_usual_49 (by decide) ?_
          refine s_goto hG 64 dc12_usual_50 (by decide) ?_
          exact s_iret hG dc12_usual_64 rfl (Nat.le_of_ble_eq_true rfl) (Nat.le_of_ble_eq_true rfl)
      · refine s_bipush (v := 6) hG dc12_usual_39 (by decide) ?_
        refine s_goto hG 64 dc12_usual_41 (by decide) ?_
        exact s_iret hG dc12_usual_64 rfl (Nat.le_of_ble_eq_true rfl) (Nat.le_of_ble_eq_true rfl)
    · refine s_iconst (v := 0) hG dc12_usual_30 (by decide) ?_
      refine s_goto hG 64 dc12_usual_31 (by decide) ?_
      exact s_iret hG dc12_usual_64 rfl (Nat.le_of_ble_eq_true rfl) (Nat.le_of_ble_eq_true rfl)
  · refine s_iload_n hG dc12_usual_6 rfl ?_
    refine s_if_ne hG 14 dc12_usual_7 (by decide) ?_ ?_
    · refine s_iload_n hG dc12_usual_14 rfl ?_
      refine s_iconst (v := 1) hG dc12_usual_15 (by decide) ?_
      refine s_icmp_ne hG 24 dc12_usual_16 (by decide) ?_ ?_
      · refine s_iconst (v := 2) hG dc12_usual_24 (by decide) ?_
        exact s_iret hG dc12_usual_25 rfl (Nat.le_of_ble_eq_true rfl) (Nat.le_of_ble_eq_true rfl)
      · refine s_bipush (v := 30) hG dc12_usual_19 (by decide) ?_
        refine s_goto hG 25 dc12_usual_21 (by decide) ?_
        exact s_iret hG dc12_usual_25 rfl (Nat.le_of_ble_eq_true rfl) (Nat.le_of_ble_eq_true rfl)
    · refine s_iconst (v := 1) hG dc12_usual_10 (by decide) ?_
      refine s_goto hG 25 dc12_usual_11 (by decide) ?_
      exact s_iret hG dc12_usual_25 rfl (Nat.le_of_ble_eq_true rfl) (Nat.le_of_ble_eq_true rfl)
def fc12_fails (N : Nat) (a0 : Nat) (σ : Me) : Option (Int32 × Me) :=
  (qI σ 12 11 (some a0)).bind fun v1 =>
  if v1 = (-1 : Int32) then
    (qI σ 12 10 (some a0)).bind fun v10 =>
    (pI σ 12 11 (some a0) v10).bind fun σ13 =>
    retZ (0 : Int32) σ13
  else
    retZ (0 : Int32) σ
set_option maxRecDepth 20000 in
set_option maxHeartbeats 2000000 in
theorem corc12_fails {Ω : Om} (N : Nat) (a0 : Nat) (σ : Me) : Cor Ω tc12_fails 1 0 0 [vR (some a0)] σ ιI (fc12_fails N a0 σ) := by
  refine Cor.of (by decide +kernel) (Nat.le_of_ble_eq_true rfl) (fun Γ hG => ?_)
  unfold fc12_fails
  show Sim Ω Γ 0 0 ιI 1 0 [(0, vR (some a0))] [] σ 0 0 _
  refine s_aload_n hG dc12_fails_0 rfl ?_
  refine s_getI hG kFc12_132 rfl dc12_fails_1 (fun v1 => ?_)
  refine s_iconst (v := -1) hG dc12_fails_4 (by decide) ?_
  refine s_icmp_ne hG 16 dc12_fails_5 (by decide) ?_ ?_
  · refine s_iconst (v := 0) hG dc12_fails_16 (by decide) ?_
    exact s_zret hG dc12_fails_17 rfl (Nat.le_of_ble_eq_true rfl) (Nat.le_of_ble_eq_true rfl)
  · refine s_aload_n hG dc12_fails_8 rfl ?_
    refine s_aload_n hG dc12_fails_9 rfl ?_
    refine s_getI hG kFc12_123 rfl dc12_fails_10 (fun v10 => ?_)
    refine s_putI (fin := false) hG kFc12_132 rfl (fun h => by cases h) rfl (fun _ => rfl) (fun _ => rfl) dc12_fails_13 (fun σ13 => ?_)
    refine s_iconst (v := 0) hG dc12_fails_16 (by decide) ?_
    exact s_zret hG dc12_fails_17 rfl (Nat.le_of_ble_eq_true rfl) (Nat.le_of_ble_eq_true rfl)
def fc12_leastOf (N : Nat) (x0 : Int32) (x1 : Int32) (σ : Me) : Option (Int32 × Me) :=
  if x0 = (115 : Int32) then
    if x1 = (1 : Int32) then
      some ((1 : Int32), σ)
    else
      some ((0 : Int32), σ)
  else
    some ((0 : Int32), σ)
set_option maxRecDepth 20000 in
set_option maxHeartbeats 2000000 in
theorem corc12_leastOf {Ω : Om} (N : Nat) (x0 : Int32) (x1 : Int32) (σ : Me) : Cor Ω tc12_leastOf 1 0 0 [vI x0, vI x1] σ ιI (fc12_leastOf N x0 x1 σ) := by
  refine Cor.of (by decide +kernel) (Nat.le_of_ble_eq_true rfl) (fun Γ hG => ?_)
  unfold fc12_leastOf
  show Sim Ω Γ 0 0 ιI 2 0 [(0, vI x0), (1, vI x1)] [] σ 0 0 _
  refine s_iload_n hG dc12_leastOf_0 rfl ?_
  refine s_bipush (v := 115) hG dc12_leastOf_1 (by decide) ?_
  refine s_icmp_ne hG 15 dc12_leastOf_3 (by decide) ?_ ?_
  · refine s_iconst (v := 0) hG dc12_leastOf_15 (by decide) ?_
    exact s_iret hG dc12_leastOf_16 rfl (Nat.le_of_ble_eq_true rfl) (Nat.le_of_ble_eq_true rfl)
  · refine s_iload_n hG dc12_leastOf_6 rfl ?_
    refine s_iconst (v := 1) hG dc12_leastOf_7 (by decide) ?_
    refine s_icmp_ne hG 15 dc12_leastOf_8 (by decide) ?_ ?_
    · refine s_iconst (v := 0) hG dc12_leastOf_15 (by decide) ?_
      exact s_iret hG dc12_leastOf_16 rfl (Nat.le_of_ble_eq_true rfl) (Nat.le_of_ble_eq_true rfl)
    · refine s_iconst (v := 1) hG dc12_leastOf_11 (by decide) ?_
      refine s_goto hG 16 dc12_leastOf_12 (by decide) ?_
      exact s_iret hG dc12_leastOf_16 rfl (Nat.le_of_ble_eq_true rfl) (Nat.le_of_ble_eq_true rfl)
def fc12_isIn (N : Nat) (x0 : Int64) (x2 : Int64) (x4 : Int64) (σ : Me) : Option (Int32 × Me) :=
  if (lg_cmp x0 x2) < 0 then
    retZ (0 : Int32) σ
  else
    if 0 < (lg_cmp x0 x4) then
      retZ (0 : Int32) σ
    else
      retZ (1 : Int32) σ
set_option maxRecDepth 20000 in
set_option maxHeartbeats 2000000 in
theorem corc12_isIn {Ω : Om} (N : Nat) (x0 : Int64) (x2 : Int64) (x4 : Int64) (σ : Me) : Cor Ω tc12_isIn 1 0 0 [vL x0, vL x2, vL x4] σ ιI (fc12_isIn N x0 x2 x4 σ) := by
  refine Cor.of (by decide +kernel) (Nat.le_of_ble_eq_true rfl) (fun Γ hG => ?_)
  unfold fc12_isIn
  show Sim Ω Γ 0 0 ιI 6 0 [(0, vL x0), (2, vL x2), (4, vL x4)] [] σ 0 0 _
  refine s_lload_n hG dc12_isIn_0 rfl ?_
  refine s_lload_n hG dc12_isIn_1 rfl ?_
  refine s_lcmp hG dc12_isIn_2 ?_
  refine s_if_lt hG 17 dc12_isIn_3 (by decide) ?_ ?_
  · refine s_iconst (v := 0) hG dc12_isIn_17 (by decide) ?_
    exact s_zret hG dc12_isIn_18 rfl (Nat.le_of_ble_eq_true rfl) (Nat.le_of_ble_eq_true rfl)
  · refine s_lload_n hG dc12_isIn_6 rfl ?_
    refine s_lload hG dc12_isIn_7 rfl ?_
    refine s_lcmp hG dc12_isIn_9 ?_
    refine s_if_gt hG 17 dc12_isIn_10 (by decide) ?_ ?_
    · refine s_iconst (v := 0) hG dc12_isIn_17 (by decide) ?_
      exact s_zret hG dc12_isIn_18 rfl (Nat.le_of_ble_eq_true rfl) (Nat.le_of_ble_eq_true rfl)
    · refine s_iconst (v := 1) hG dc12_isIn_13 (by decide) ?_
      refine s_goto hG 18 dc12_isIn_14 (by decide) ?_
      exact s_zret hG dc12_isIn_18 rfl (Nat.le_of_ble_eq_true rfl) (Nat.le_of_ble_eq_true rfl)
def fc12_isDigit (N : Nat) (a0 : Nat) (σ : Me) : Option (Int32 × Me) :=
  (qI σ 12 10 (some a0)).bind fun v1 =>
  (qI σ 12 9 (some a0)).bind fun v5 =>
  if v5 ≤ v1 then
    retZ (0 : Int32) σ
  else
    (qR σ 12 5 (some a0)).bind fun v12 =>
    (qI σ 12 8 (some a0)).bind fun v16 =>
    (qI σ 12 10 (some a0)).bind fun v20 =>
    (ldB σ v12 (v16 + v20)).bind fun v24 =>
    if v24 < (48 : Int32) then
      retZ (0 : Int32) σ
    else
      (qR σ 12 5 (some a0)).bind fun v31 =>
      (qI σ 12 8 (some a0)).bind fun v35 =>
      (qI σ 12 10 (some a0)).bind fun v39 =>
      (ldB σ v31 (v35 + v39)).bind fun v43 =>
      if (57 : Int32) < v43 then
        retZ (0 : Int32) σ
      else
        retZ (1 : Int32) σ
set_option maxRecDepth 20000 in
set_option maxHeartbeats 2000000 in
theorem corc12_isDigit {Ω : Om} (N : Nat) (a0 : Nat) (σ : Me) : Cor Ω tc12_isDigit 1 0 0 [vR (some a0)] σ ιI (fc12_isDigit N a0 σ) := by
  refine Cor.of (by decide +kernel) (Nat.le_of_ble_eq_true rfl) (fun Γ hG => ?_)
  unfold fc12_isDigit
  show Sim Ω Γ 0 0 ιI 1 0 [(0, vR (some a0))] [] σ 0 0 _
  refine s_aload_n hG dc12_isDigit_0 rfl ?_
  refine s_getI hG kFc12_123 rfl dc12_isDigit_1 (fun v1 => ?_)
  refine s_aload_n hG dc12_isDigit_4 rfl ?_
  refine s_getI hG kFc12_126 rfl dc12_isDigit_5 (fun v5 => ?_)
  refine s_icmp_ge hG 53 dc12_isDigit_8 (by decide) ?_ ?_
  · refine s_iconst (v := 0) hG dc12_isDigit_53 (by decide) ?_
    exact s_zret hG dc12_isDigit_54 rfl (Nat.le_of_ble_eq_true rfl) (Nat.le_of_ble_eq_true rfl)
  · refine s_aload_n hG dc12_isDigit_11 rfl ?_
    refine s_getR hG kFc12_23 rfl dc12_isDigit_12 (fun v12 => ?_)
    refine s_aload_n hG dc12_isDigit_15 rfl ?_
    refine s_getI hG kFc12_129 rfl dc12_isDigit_16 (fun v16 => ?_)
    refine s_aload_n hG dc12_isDigit_19 rfl ?_
    refine s_getI hG kFc12_123 rfl dc12_isDigit_20 (fun v20 => ?_)
    refine s_iadd hG dc12_isDigit_23 ?_
    refine s_bald hG dc12_isDigit_24 (fun v24 => ?_)
    refine s_bipush (v := 48) hG dc12_isDigit_25 (by decide) ?_
    refine s_icmp_lt hG 53 dc12_isDigit_27 (by decide) ?_ ?_
    · refine s_iconst (v := 0) hG dc12_isDigit_53 (by decide) ?_
      exact s_zret hG dc12_isDigit_54 rfl (Nat.le_of_ble_eq_true rfl) (Nat.le_of_ble_eq_true rfl)
    · refine s_aload_n hG dc12_isDigit_30 rfl ?_
      refine s_getR hG kFc12_23 rfl dc12_isDigit_31 (fun v31 => ?_)
      refine s_aload_n hG dc12_isDigit_34 rfl ?_
      refine s_getI hG kFc12_129 rfl dc12_isDigit_35 (fun v35 => ?_)
      refine s_aload_n hG dc12_isDigit_38 rfl ?_
      refine s_getI hG kFc12_123 rfl dc12_isDigit_39 (fun v39 => ?_)
      refine s_iadd hG dc12_isDigit_42 ?_
      refine s_bald hG dc12_isDigit_43 (fun v43 => ?_)
      refine s_bipush (v := 57) hG dc12_isDigit_44 (by decide) ?_
      refine s_icmp_gt hG 53 dc12_isDigit_46 (by decide) ?_ ?_
      · refine s_iconst (v := 0) hG dc12_isDigit_53 (by decide) ?_
        exact s_zret hG dc12_isDigit_54 rfl (Nat.le_of_ble_eq_true rfl) (Nat.le_of_ble_eq_true rfl)
      · refine s_iconst (v := 1) hG dc12_isDigit_49 (by decide) ?_
        refine s_goto hG 54 dc12_isDigit_50 (by decide) ?_
        exact s_zret hG dc12_isDigit_54 rfl (Nat.le_of_ble_eq_true rfl) (Nat.le_of_ble_eq_true rfl)
def fc12_here (N : Nat) (a0 : Nat) (σ : Me) : Option (Int32 × Me) :=
  (qI σ 12 10 (some a0)).bind fun v1 =>
  (qI σ 12 9 (some a0)).bind fun v5 =>
  if v5 ≤ v1 then
    some ((-1 : Int32), σ)
  else
    (qR σ 12 5 (some a0)).bind fun v12 =>
    (qI σ 12 8 (some a0)).bind fun v16 =>
    (qI σ 12 10 (some a0)).bind fun v20 =>
    (ldB σ v12 (v16 + v20)).bind fun v24 =>
    some ((v24 &&& (255 : Int32)), σ)
set_option maxRecDepth 20000 in
set_option maxHeartbeats 2000000 in
theorem corc12_here {Ω : Om} (N : Nat) (a0 : Nat) (σ : Me) : Cor Ω tc12_here 1 0 0 [vR (some a0)] σ ιI (fc12_here N a0 σ) := by
  refine Cor.of (by decide +kernel) (Nat.le_of_ble_eq_true rfl) (fun Γ hG => ?_)
  unfold fc12_here
  show Sim Ω Γ 0 0 ιI 1 0 [(0, vR (some a0))] [] σ 0 0 _
  refine s_aload_n hG dc12_here_0 rfl ?_
  refine s_getI hG kFc12_123 rfl dc12_here_1 (fun v1 => ?_)
  refine s_aload_n hG dc12_here_4 rfl ?_
  refine s_getI hG kFc12_126 rfl dc12_here_5 (fun v5 => ?_)
  refine s_icmp_ge hG 32 dc12_here_8 (by decide) ?_ ?_
  · refine s_iconst (v := -1) hG dc12_here_32 (by decide) ?_
    exact s_iret hG dc12_here_33 rfl (Nat.le_of_ble_eq_true rfl) (Nat.le_of_ble_eq_true rfl)
  · refine s_aload_n hG dc12_here_11 rfl ?_
    refine s_getR hG kFc12_23 rfl dc12_here_12 (fun v12 => ?_)
    refine s_aload_n hG dc12_here_15 rfl ?_
    refine s_getI hG kFc12_129 rfl dc12_here_16 (fun v16 => ?_)
    refine s_aload_n hG dc12_here_19 rfl ?_
    refine s_getI hG kFc12_123 rfl dc12_here_20 (fun v20 => ?_)
    refine s_iadd hG dc12_here_23 ?_
    refine s_bald hG dc12_here_24 (fun v24 => ?_)
    refine s_sipush (v := 255) hG dc12_here_25 (by decide) ?_
    refine s_iand hG dc12_here_28 ?_
    refine s_goto hG 33 dc12_here_29 (by decide) ?_
    exact s_iret hG dc12_here_33 rfl (Nat.le_of_ble_eq_true rfl) (Nat.le_of_ble_eq_true rfl)
def fc12_number_67 (N : Nat) (l0 : Option Nat) (l1 : Int32) (l2 : Int32) (l4 : Int32) (σ : Me) : Option (Int32 × Me) :=
  (dr σ l0 (.inl 12)).bind fun a =>
  (fc12_isDigit N a σ).bind fun p68 =>
  if p68.1 = 0 then
    (fc12_isIn N (Int32.toInt64 l4) (Int32.toInt64 l1) (Int32.toInt64 l2) p68.2).bind fun p88 =>
    if p88.1 = 0 then
      (qI p88.2 12 10 l0).bind fun v96 =>
      (pI p88.2 12 10 l0 (v96 - (1 : Int32))).bind fun σ101 =>
      (dr σ101 l0 (.inl 12)).bind fun a =>
      (fc12_fails N a σ101).bind fun p105 =>
      some (l4, p105.2)
    else
      some (l4, p88.2)
  else
    (dr p68.2 l0 (.inl 12)).bind fun a =>
    (fc12_fails N a p68.2).bind fun p75 =>
    some ((0 : Int32), p75.2)
def fc12_number (N : Nat) (a0 : Nat) (x1 : Int32) (x2 : Int32) (σ : Me) : Option (Int32 × Me) :=
  (dr σ (some a0) (.inl 12)).bind fun a =>
  (fc12_look N a σ).bind fun p1 =>
  (dr p1.2 (some a0) (.inl 12)).bind fun a =>
  (fc12_isDigit N a p1.2).bind fun p6 =>
  if p6.1 = 0 then
    (dr p6.2 (some a0) (.inl 12)).bind fun a =>
    (fc12_fails N a p6.2).bind fun p13 =>
    some ((0 : Int32), p13.2)
  else
    (qI p6.2 12 10 (some a0)).bind fun v27 =>
    (pI p6.2 12 10 (some a0) (v27 + (1 : Int32))).bind fun σ32 =>
    (dr σ32 (some a0) (.inl 12)).bind fun a =>
    (fc12_isDigit N a σ32).bind fun p36 =>
    if p36.1 = 0 then
      fc12_number_67 N (some a0) x1 x2 (p1.1 - (48 : Int32)) p36.2
    else
      (dr p36.2 (some a0) (.inl 12)).bind fun a =>
      (fc12_here N a p36.2).bind fun p48 =>
      (qI p48.2 12 10 (some a0)).bind fun v59 =>
      (pI p48.2 12 10 (some a0) (v59 + (1 : Int32))).bind fun σ64 =>
      fc12_number_67 N (some a0) x1 x2 ((((10 : Int32) * (p1.1 - (48 : Int32))) + p48.1) - (48 : Int32)) σ64
set_option maxRecDepth 20000 in
set_option maxHeartbeats 2000000 in
theorem pc12_number_67 {Ω : Om} {Γ : Ga} {N : Nat} (hG : Good Ω Γ tc12_number 2 0 0) (l0 : Option Nat) (l1 : Int32) (l2 : Int32) (l4 : Int32) (σ : Me) : Sim Ω Γ 0 0 ιI 5 67 [(0, vR l0), (1, vI l1), (2, vI l2), (4, vI l4)] [] σ 0 0 (fc12_number_67 N l0 l1 l2 l4 σ) := by
  unfold fc12_number_67
  refine s_aload_n hG dc12_number_67 rfl ?_
  refine s_callVi hG kMc12_172 (fun a => corc12_isDigit N a _) ⟨by decide, rfl⟩ rfl (by first | decide | omega) dc12_number_68 rfl rfl (Nat.le_of_ble_eq_true rfl) ⟨Nat.le_of_ble_eq_true rfl, Nat.le_of_ble_eq_true rfl⟩ (fun p68 => ?_)
  refine s_if_eq hG 81 dc12_number_71 (by decide) ?_ ?_
  · refine s_iload hG dc12_number_81 rfl ?_
    refine s_i2l hG dc12_number_83 ?_
    refine s_iload_n hG dc12_number_84 rfl ?_
    refine s_i2l hG dc12_number_85 ?_
    refine s_iload_n hG dc12_number_86 rfl ?_
    refine s_i2l hG dc12_number_87 ?_
    refine s_callSi hG kMc12_221 (corc12_isIn N _ _ _ _) rfl (by first | decide | omega) dc12_number_88 rfl rfl (Nat.le_of_ble_eq_true rfl) ⟨Nat.le_of_ble_eq_true rfl, Nat.le_of_ble_eq_true rfl⟩ (fun p88 => ?_)
    refine s_if_ne hG 109 dc12_number_91 (by decide) ?_ ?_
    · refine s_iload hG dc12_number_109 rfl ?_
      exact s_iret hG dc12_number_111 rfl (Nat.le_of_ble_eq_true rfl) (Nat.le_of_ble_eq_true rfl)
    · refine s_aload_n hG dc12_number_94 rfl ?_
      refine s_dup hG dc12_number_95 rfl ?_
      refine s_getI hG kFc12_123 rfl dc12_number_96 (fun v96 => ?_)
      refine s_iconst (v := 1) hG dc12_number_99 (by decide) ?_
      refine s_isub hG dc12_number_100 ?_
      refine s_putI (fin := false) hG kFc12_123 rfl (fun h => by cases h) rfl (fun _ => rfl) (fun _ => rfl) dc12_number_101 (fun σ101 => ?_)
      refine s_aload_n hG dc12_number_104 rfl ?_
      refine s_callVi hG kMc12_138 (fun a => corc12_fails N a _) ⟨by decide, rfl⟩ rfl (by first | decide | omega) dc12_number_105 rfl rfl (Nat.le_of_ble_eq_true rfl) ⟨Nat.le_of_ble_eq_true rfl, Nat.le_of_ble_eq_true rfl⟩ (fun p105 => ?_)
      refine s_pop hG dc12_number_108 rfl ?_
      refine s_iload hG dc12_number_109 rfl ?_
      exact s_iret hG dc12_number_111 rfl (Nat.le_of_ble_eq_true rfl) (Nat.le_of_ble_eq_true rfl)
  · refine s_aload_n hG dc12_number_74 rfl ?_
    refine s_callVi hG kMc12_138 (fun a => corc12_fails N a _) ⟨by decide, rfl⟩ rfl (by first | decide | omega) dc12_number_75 rfl rfl (Nat.le_of_ble_eq_true rfl) ⟨Nat.le_of_ble_eq_true rfl, Nat.le_of_ble_eq_true rfl⟩ (fun p75 => ?_)
    refine s_pop hG dc12_number_78 rfl ?_
    refine s_iconst (v := 0) hG dc12_number_79 (by decide) ?_
    exact s_iret hG dc12_number_80 rfl (Nat.le_of_ble_eq_true rfl) (Nat.le_of_ble_eq_true rfl)
set_option maxRecDepth 20000 in
set_option maxHeartbeats 2000000 in
theorem corc12_number {Ω : Om} (N : Nat) (a0 : Nat) (x1 : Int32) (x2 : Int32) (σ : Me) : Cor Ω tc12_number 2 0 0 [vR (some a0), vI x1, vI x2] σ ιI (fc12_number N a0 x1 x2 σ) := by
  refine Cor.of (by decide +kernel) (Nat.le_of_ble_eq_true rfl) (fun Γ hG => ?_)
  unfold fc12_number
  show Sim Ω Γ 0 0 ιI 5 0 [(0, vR (some a0)), (1, vI x1), (2, vI x2)] [] σ 0 0 _
  refine s_aload_n hG dc12_number_0 rfl ?_
  refine s_callVi hG kMc12_142 (fun a => corc12_look N a _) ⟨by decide, rfl⟩ rfl (by first | decide | omega) dc12_number_1 rfl rfl (Nat.le_of_ble_eq_true rfl) ⟨Nat.le_of_ble_eq_true rfl, Nat.le_of_ble_eq_true rfl⟩ (fun p1 => ?_)
  refine s_istore_n hG dc12_number_4 (by decide) ?_
  refine s_aload_n hG dc12_number_5 rfl ?_
  refine s_callVi hG kMc12_172 (fun a => corc12_isDigit N a _) ⟨by decide, rfl⟩ rfl (by first | decide | omega) dc12_number_6 rfl rfl (Nat.le_of_ble_eq_true rfl) ⟨Nat.le_of_ble_eq_true rfl, Nat.le_of_ble_eq_true rfl⟩ (fun p6 => ?_)
  refine s_if_ne hG 19 dc12_number_9 (by decide) ?_ ?_
  · refine s_iload_n hG dc12_number_19 rfl ?_
    refine s_bipush (v := 48) hG dc12_number_20 (by decide) ?_
    refine s_isub hG dc12_number_22 ?_
    refine s_istore hG dc12_number_23 (by decide) ?_
    refine s_aload_n hG dc12_number_25 rfl ?_
    refine s_dup hG dc12_number_26 rfl ?_
    refine s_getI hG kFc12_123 rfl dc12_number_27 (fun v27 => ?_)
    refine s_iconst (v := 1) hG dc12_number_30 (by decide) ?_
    refine s_iadd hG dc12_number_31 ?_
    refine s_putI (fin := false) hG kFc12_123 rfl (fun h => by cases h) rfl (fun _ => rfl) (fun _ => rfl) dc12_number_32 (fun σ32 => ?_)
    refine s_aload_n hG dc12_number_35 rfl ?_
    refine s_callVi hG kMc12_172 (fun a => corc12_isDigit N a _) ⟨by decide, rfl⟩ rfl (by first | decide | omega) dc12_number_36 rfl rfl (Nat.le_of_ble_eq_true rfl) ⟨Nat.le_of_ble_eq_true rfl, Nat.le_of_ble_eq_true rfl⟩ (fun p36 => ?_)
    refine s_if_eq hG 67 dc12_number_39 (by decide) ?_ ?_
    · exact s_lv (lc rfl (lc rfl (lc rfl (lc rfl ln)))) (pc12_number_67 hG _ _ _ _ _)
    · refine s_bipush (v := 10) hG dc12_number_42 (by decide) ?_
      refine s_iload hG dc12_number_44 rfl ?_
      refine s_imul hG dc12_number_46 ?_
      refine s_aload_n hG dc12_number_47 rfl ?_
      refine s_callVi hG kMc12_218 (fun a => corc12_here N a _) ⟨by decide, rfl⟩ rfl (by first | decide | omega) dc12_number_48 rfl rfl (Nat.le_of_ble_eq_true rfl) ⟨Nat.le_of_ble_eq_true rfl, Nat.le_of_ble_eq_true rfl⟩ (fun p48 => ?_)
      refine s_iadd hG dc12_number_51 ?_
      refine s_bipush (v := 48) hG dc12_number_52 (by decide) ?_
      refine s_isub hG dc12_number_54 ?_
      refine s_istore hG dc12_number_55 (by decide) ?_
      refine s_aload_n hG dc12_number_57 rfl ?_
      refine s_dup hG dc12_number_58 rfl ?_
      refine s_getI hG kFc12_123 rfl dc12_number_59 (fun v59 => ?_)
      refine s_iconst (v := 1) hG dc12_number_62 (by decide) ?_
      refine s_iadd hG dc12_number_63 ?_
      refine s_putI (fin := false) hG kFc12_123 rfl (fun h => by cases h) rfl (fun _ => rfl) (fun _ => rfl) dc12_number_64 (fun σ64 => ?_)
      exact s_lv (lc rfl (lc rfl (lc rfl (lc rfl ln)))) (pc12_number_67 hG _ _ _ _ _)
  · refine s_aload_n hG dc12_number_12 rfl ?_
    refine s_callVi hG kMc12_138 (fun a => corc12_fails N a _) ⟨by decide, rfl⟩ rfl (by first | decide | omega) dc12_number_13 rfl rfl (Nat.le_of_ble_eq_true rfl) ⟨Nat.le_of_ble_eq_true rfl, Nat.le_of_ble_eq_true rfl⟩ (fun p13 => ?_)
    refine s_pop hG dc12_number_16 rfl ?_
    refine s_iconst (v := 0) hG dc12_number_17 (by decide) ?_
    exact s_iret hG dc12_number_18 rfl (Nat.le_of_ble_eq_true rfl) (Nat.le_of_ble_eq_true rfl)
def fc12_mostOf (N : Nat) (x0 : Int32) (x1 : Int32) (σ : Me) : Option (Int32 × Me) :=
  if x0 = (115 : Int32) then
    if x1 = 0 then
      some ((9 : Int32), σ)
    else
      if x1 = (1 : Int32) then
        some ((99 : Int32), σ)
      else
        some ((30 : Int32), σ)
  else
    if x1 = (1 : Int32) then
      some ((20 : Int32), σ)
    else
      if x1 = (2 : Int32) then
        some ((30 : Int32), σ)
      else
        if x1 = (3 : Int32) then
          some ((9 : Int32), σ)
        else
          some ((99 : Int32), σ)
set_option maxRecDepth 20000 in
set_option maxHeartbeats 2000000 in
theorem corc12_mostOf {Ω : Om} (N : Nat) (x0 : Int32) (x1 : Int32) (σ : Me) : Cor Ω tc12_mostOf 1 0 0 [vI x0, vI x1] σ ιI (fc12_mostOf N x0 x1 σ) := by
  refine Cor.of (by decide +kernel) (Nat.le_of_ble_eq_true rfl) (fun Γ hG => ?_)
  unfold fc12_mostOf
  show Sim Ω Γ 0 0 ιI 2 0 [(0, vI x0), (1, vI x1)] [] σ 0 0 _
  refine s_iload_n hG dc12_mostOf_0 rfl ?_
  refine s_bipush (v := 115) hG dc12_mostOf_1 (by decide) ?_
  refine s_icmp_ne hG 28 dc12_mostOf_3 (by decide) ?_ ?_
  · refine s_iload_n hG dc12_mostOf_28 rfl ?_
    refine s_iconst (v := 1) hG dc12_mostOf_29 (by decide) ?_
    refine s_icmp_ne hG 38 dc12_mostOf_30 (by decide) ?_ ?_
    · refine s_iload_n hG dc12_mostOf_38 rfl ?_
      refine s_iconst (v := 2) hG dc12_mostOf_39 (by decide) ?_
      refine s_icmp_ne hG 48 dc12_mostOf_40 (by decide) ?_ ?_
      · refine s_iload_n hG dc12_mostOf_48 rfl ?_
        refine s_iconst (v := 3) hG dc12_mostOf_49 (by decide) ?_
        refine s_icmp_ne hG 58 dc12_mostOf_50 (by decide) ?_ ?_
        · refine s_bipush (v := 99) hG dc12_mostOf_58 (by decide) ?_
          exact s_iret hG dc12_mostOf_60 rfl (Nat.le_of_ble_eq_true rfl) (Nat.le_of_ble_eq_true rfl)
        · refine s_bipush (v := 9) hG dc12_mostOf_53 (by decide) ?_
          refine s_goto hG 60 dc12_mostOf_55 (by decide) ?_
          exact s_iret hG dc12_mostOf_60 rfl (Nat.le_of_ble_eq_true rfl) (Nat.le_of_ble_eq_true rfl)
      · refine s_bipush (v := 30) hG dc12_mostOf_43 (by decide) ?_
        refine s_goto hG 60 dc12_mostOf_45 (by decide) ?_
        exact s_iret hG dc12_mostOf_60 rfl (Nat.le_of_ble_eq_true rfl) (Nat.le_of_ble_eq_true rfl)
    · refine s_bipush (v := 20) hG dc12_mostOf_33 (by decide) ?_
      refine s_goto hG 60 dc12_mostOf_35 (by decide) ?_
      exact s_iret hG dc12_mostOf_60 rfl (Nat.le_of_ble_eq_true rfl) (Nat.le_of_ble_eq_true rfl)
  · refine s_iload_n hG dc12_mostOf_6 rfl ?_
    refine s_if_ne hG 15 dc12_mostOf_7 (by decide) ?_ ?_
    · refine s_iload_n hG dc12_mostOf_15 rfl ?_
      refine s_iconst (v := 1) hG dc12_mostOf_16 (by decide) ?_
      refine s_icmp_ne hG 25 dc12_mostOf_17 (by decide) ?_ ?_
      · refine s_bipush (v := 30) hG dc12_mostOf_25 (by decide) ?_
        exact s_iret hG dc12_mostOf_27 rfl (Nat.le_of_ble_eq_true rfl) (Nat.le_of_ble_eq_true rfl)
      · refine s_bipush (v := 99) hG dc12_mostOf_20 (by decide) ?_
        refine s_goto hG 27 dc12_mostOf_22 (by decide) ?_
        exact s_iret hG dc12_mostOf_27 rfl (Nat.le_of_ble_eq_true rfl) (Nat.le_of_ble_eq_true rfl)
    · refine s_bipush (v := 9) hG dc12_mostOf_10 (by decide) ?_
      refine s_goto hG 27 dc12_mostOf_12 (by decide) ?_
      exact s_iret hG dc12_mostOf_27 rfl (Nat.le_of_ble_eq_true rfl) (Nat.le_of_ble_eq_true rfl)
def fc12_has (N : Nat) (x0 : Int32) (x1 : Int32) (σ : Me) : Option (Int32 × Me) :=
  if ((x0 >>> (x1 &&& 31)) &&& (1 : Int32)) = (1 : Int32) then
    retZ (1 : Int32) σ
  else
    retZ (0 : Int32) σ
set_option maxRecDepth 20000 in
set_option maxHeartbeats 2000000 in
theorem corc12_has {Ω : Om} (N : Nat) (x0 : Int32) (x1 : Int32) (σ : Me) : Cor Ω tc12_has 1 0 0 [vI x0, vI x1] σ ιI (fc12_has N x0 x1 σ) := by
  refine Cor.of (by decide +kernel) (Nat.le_of_ble_eq_true rfl) (fun Γ hG => ?_)
  unfold fc12_has
  show Sim Ω Γ 0 0 ιI 2 0 [(0, vI x0), (1, vI x1)] [] σ 0 0 _
  refine s_iload_n hG dc12_has_0 rfl ?_
  refine s_iload_n hG dc12_has_1 rfl ?_
  refine s_ishr hG dc12_has_2 ?_
  refine s_iconst (v := 1) hG dc12_has_3 (by decide) ?_
  refine s_iand hG dc12_has_4 ?_
  refine s_iconst (v := 1) hG dc12_has_5 (by decide) ?_
  refine s_icmp_ne hG 13 dc12_has_6 (by decide) ?_ ?_
  · refine s_iconst (v := 0) hG dc12_has_13 (by decide) ?_
    exact s_zret hG dc12_has_14 rfl (Nat.le_of_ble_eq_true rfl) (Nat.le_of_ble_eq_true rfl)
  · refine s_iconst (v := 1) hG dc12_has_9 (by decide) ?_
    refine s_goto hG 14 dc12_has_10 (by decide) ?_
    exact s_zret hG dc12_has_14 rfl (Nat.le_of_ble_eq_true rfl) (Nat.le_of_ble_eq_true rfl)
def fc12_digit (N : Nat) (a0 : Nat) (σ : Me) : Option (Int32 × Me) :=
  (dr σ (some a0) (.inl 12)).bind fun a =>
  (fc12_look N a σ).bind fun p1 =>
  (dr p1.2 (some a0) (.inl 12)).bind fun a =>
  (fc12_isDigit N a p1.2).bind fun p6 =>
  if p6.1 = 0 then
    (dr p6.2 (some a0) (.inl 12)).bind fun a =>
    (fc12_fails N a p6.2).bind fun p13 =>
    some ((0 : Int32), p13.2)
  else
    (qI p6.2 12 10 (some a0)).bind fun v21 =>
    (pI p6.2 12 10 (some a0) (v21 + (1 : Int32))).bind fun σ26 =>
    some ((p1.1 - (48 : Int32)), σ26)
set_option maxRecDepth 20000 in
set_option maxHeartbeats 2000000 in
theorem corc12_digit {Ω : Om} (N : Nat) (a0 : Nat) (σ : Me) : Cor Ω tc12_digit 2 0 0 [vR (some a0)] σ ιI (fc12_digit N a0 σ) := by
  refine Cor.of (by decide +kernel) (Nat.le_of_ble_eq_true rfl) (fun Γ hG => ?_)
  unfold fc12_digit
  show Sim Ω Γ 0 0 ιI 2 0 [(0, vR (some a0))] [] σ 0 0 _
  refine s_aload_n hG dc12_digit_0 rfl ?_
  refine s_callVi hG kMc12_142 (fun a => corc12_look N a _) ⟨by decide, rfl⟩ rfl (by first | decide | omega) dc12_digit_1 rfl rfl (Nat.le_of_ble_eq_true rfl) ⟨Nat.le_of_ble_eq_true rfl, Nat.le_of_ble_eq_true rfl⟩ (fun p1 => ?_)
  refine s_istore_n hG dc12_digit_4 (by decide) ?_
  refine s_aload_n hG dc12_digit_5 rfl ?_
  refine s_callVi hG kMc12_172 (fun a => corc12_isDigit N a _) ⟨by decide, rfl⟩ rfl (by first | decide | omega) dc12_digit_6 rfl rfl (Nat.le_of_ble_eq_true rfl) ⟨Nat.le_of_ble_eq_true rfl, Nat.le_of_ble_eq_true rfl⟩ (fun p6 => ?_)
  refine s_if_ne hG 19 dc12_digit_9 (by decide) ?_ ?_
  · refine s_aload_n hG dc12_digit_19 rfl ?_
    refine s_dup hG dc12_digit_20 rfl ?_
    refine s_getI hG kFc12_123 rfl dc12_digit_21 (fun v21 => ?_)
    refine s_iconst (v := 1) hG dc12_digit_24 (by decide) ?_
    refine s_iadd hG dc12_digit_25 ?_
    refine s_putI (fin := false) hG kFc12_123 rfl (fun h => by cases h) rfl (fun _ => rfl) (fun _ => rfl) dc12_digit_26 (fun σ26 => ?_)
    refine s_iload_n hG dc12_digit_29 rfl ?_
    refine s_bipush (v := 48) hG dc12_digit_30 (by decide) ?_
    refine s_isub hG dc12_digit_32 ?_
    exact s_iret hG dc12_digit_33 rfl (Nat.le_of_ble_eq_true rfl) (Nat.le_of_ble_eq_true rfl)
  · refine s_aload_n hG dc12_digit_12 rfl ?_
    refine s_callVi hG kMc12_138 (fun a => corc12_fails N a _) ⟨by decide, rfl⟩ rfl (by first | decide | omega) dc12_digit_13 rfl rfl (Nat.le_of_ble_eq_true rfl) ⟨Nat.le_of_ble_eq_true rfl, Nat.le_of_ble_eq_true rfl⟩ (fun p13 => ?_)
    refine s_pop hG dc12_digit_16 rfl ?_
    refine s_iconst (v := 0) hG dc12_digit_17 (by decide) ?_
    exact s_iret hG dc12_digit_18 rfl (Nat.le_of_ble_eq_true rfl) (Nat.le_of_ble_eq_true rfl)
def fc12_isSign_18 (N : Nat)  (σ : Me) : Option (Int32 × Me) :=
  retZ (1 : Int32) σ
def fc12_isSign (N : Nat) (x0 : Int32) (σ : Me) : Option (Int32 × Me) :=
  if x0 = (61 : Int32) then
    fc12_isSign_18 N  σ
  else
    if x0 = (60 : Int32) then
      fc12_isSign_18 N  σ
    else
      if x0 = (62 : Int32) then
        fc12_isSign_18 N  σ
      else
        retZ (0 : Int32) σ
set_option maxRecDepth 20000 in
set_option maxHeartbeats 2000000 in
theorem pc12_isSign_18 {Ω : Om} {Γ : Ga} {N : Nat} (hG : Good Ω Γ tc12_isSign 1 0 0)  (σ : Me) : Sim Ω Γ 0 0 ιI 1 18 [] [] σ 0 0 (fc12_isSign_18 N  σ) := by
  unfold fc12_isSign_18
  refine s_iconst (v := 1) hG dc12_isSign_18 (by decide) ?_
  refine s_goto hG 23 dc12_isSign_19 (by decide) ?_
  exact s_zret hG dc12_isSign_23 rfl (Nat.le_of_ble_eq_true rfl) (Nat.le_of_ble_eq_true rfl)
set_option maxRecDepth 20000 in
set_option maxHeartbeats 2000000 in
theorem corc12_isSign {Ω : Om} (N : Nat) (x0 : Int32) (σ : Me) : Cor Ω tc12_isSign 1 0 0 [vI x0] σ ιI (fc12_isSign N x0 σ) := by
  refine Cor.of (by decide +kernel) (Nat.le_of_ble_eq_true rfl) (fun Γ hG => ?_)
  unfold fc12_isSign
  show Sim Ω Γ 0 0 ιI 1 0 [(0, vI x0)] [] σ 0 0 _
  refine s_iload_n hG dc12_isSign_0 rfl ?_
  refine s_bipush (v := 61) hG dc12_isSign_1 (by decide) ?_
  refine s_icmp_eq hG 18 dc12_isSign_3 (by decide) ?_ ?_
  · exact s_lv ln (pc12_isSign_18 hG _)
  · refine s_iload_n hG dc12_isSign_6 rfl ?_
    refine s_bipush (v := 60) hG dc12_isSign_7 (by decide) ?_
    refine s_icmp_eq hG 18 dc12_isSign_9 (by decide) ?_ ?_
    · exact s_lv ln (pc12_isSign_18 hG _)
    · refine s_iload_n hG dc12_isSign_12 rfl ?_
      refine s_bipush (v := 62) hG dc12_isSign_13 (by decide) ?_
      refine s_icmp_ne hG 22 dc12_isSign_15 (by decide) ?_ ?_
      · refine s_iconst (v := 0) hG dc12_isSign_22 (by decide) ?_
        exact s_zret hG dc12_isSign_23 rfl (Nat.le_of_ble_eq_true rfl) (Nat.le_of_ble_eq_true rfl)
      · exact s_lv ln (pc12_isSign_18 hG _)
def fMt_min2 (N : Nat) (x0 : Int64) (x2 : Int64) (σ : Me) : Option (Int64 × Me) :=
  if 0 < (lg_cmp x0 x2) then
    some (x2, σ)
  else
    some (x0, σ)
set_option maxRecDepth 20000 in
set_option maxHeartbeats 2000000 in
theorem corMt_min2 {Ω : Om} (N : Nat) (x0 : Int64) (x2 : Int64) (σ : Me) : Cor Ω tMt_min2 1 0 0 [vL x0, vL x2] σ ιL (fMt_min2 N x0 x2 σ) := by
  refine Cor.of (by decide +kernel) (Nat.le_of_ble_eq_true rfl) (fun Γ hG => ?_)
  unfold fMt_min2
  show Sim Ω Γ 0 0 ιL 4 0 [(0, vL x0), (2, vL x2)] [] σ 0 0 _
  refine s_lload_n hG dMt_min2_0 rfl ?_
  refine s_lload_n hG dMt_min2_1 rfl ?_
  refine s_lcmp hG dMt_min2_2 ?_
  refine s_if_gt hG 10 dMt_min2_3 (by decide) ?_ ?_
  · refine s_lload_n hG dMt_min2_10 rfl ?_
    exact s_lret hG dMt_min2_11 rfl (Nat.le_of_ble_eq_true rfl) (Nat.le_of_ble_eq_true rfl)
  · refine s_lload_n hG dMt_min2_6 rfl ?_
    refine s_goto hG 11 dMt_min2_7 (by decide) ?_
    exact s_lret hG dMt_min2_11 rfl (Nat.le_of_ble_eq_true rfl) (Nat.le_of_ble_eq_true rfl)
def fMt_max2 (N : Nat) (x0 : Int64) (x2 : Int64) (σ : Me) : Option (Int64 × Me) :=
  if (lg_cmp x0 x2) < 0 then
    some (x2, σ)
  else
    some (x0, σ)
set_option maxRecDepth 20000 in
set_option maxHeartbeats 2000000 in
theorem corMt_max2 {Ω : Om} (N : Nat) (x0 : Int64) (x2 : Int64) (σ : Me) : Cor Ω tMt_max2 1 0 0 [vL x0, vL x2] σ ιL (fMt_max2 N x0 x2 σ) := by
  refine Cor.of (by decide +kernel) (Nat.le_of_ble_eq_true rfl) (fun Γ hG => ?_)
  unfold fMt_max2
  show Sim Ω Γ 0 0 ιL 4 0 [(0, vL x0), (2, vL x2)] [] σ 0 0 _
  refine s_lload_n hG dMt_max2_0 rfl ?_
  refine s_lload_n hG dMt_max2_1 rfl ?_
  refine s_lcmp hG dMt_max2_2 ?_
  refine s_if_lt hG 10 dMt_max2_3 (by decide) ?_ ?_
  · refine s_lload_n hG dMt_max2_10 rfl ?_
    exact s_lret hG dMt_max2_11 rfl (Nat.le_of_ble_eq_true rfl) (Nat.le_of_ble_eq_true rfl)
  · refine s_lload_n hG dMt_max2_6 rfl ?_
    refine s_goto hG 11 dMt_max2_7 (by decide) ?_
    exact s_lret hG dMt_max2_11 rfl (Nat.le_of_ble_eq_true rfl) (Nat.le_of_ble_eq_true rfl)
def fc12_within (N : Nat) (x0 : Int64) (σ : Me) : Option (Int32 × Me) :=
  (fMt_min2 N (1000000 : Int64) x0 σ).bind fun p7 =>
  (fMt_max2 N (-1000000 : Int64) p7.1 p7.2).bind fun p10 =>
  some ((Int64.toInt32 p10.1), p10.2)
set_option maxRecDepth 20000 in
set_option maxHeartbeats 2000000 in
theorem corc12_within {Ω : Om} (N : Nat) (x0 : Int64) (σ : Me) : Cor Ω tc12_within 2 0 0 [vL x0] σ ιI (fc12_within N x0 σ) := by
  refine Cor.of (by decide +kernel) (Nat.le_of_ble_eq_true rfl) (fun Γ hG => ?_)
  unfold fc12_within
  show Sim Ω Γ 0 0 ιI 2 0 [(0, vL x0)] [] σ 0 0 _
  refine s_ldc2 hG dc12_within_0 kJc12_145 ?_
  refine s_ldc2 hG dc12_within_3 kJc12_147 ?_
  refine s_lload_n hG dc12_within_6 rfl ?_
  refine s_callSl hG kMc12_149 (corMt_min2 N _ _ _) rfl (by first | decide | omega) dc12_within_7 rfl rfl (Nat.le_of_ble_eq_true rfl) ⟨Nat.le_of_ble_eq_true rfl, Nat.le_of_ble_eq_true rfl⟩ (fun p7 => ?_)
  refine s_callSl hG kMc12_155 (corMt_max2 N _ _ _) rfl (by first | decide | omega) dc12_within_10 rfl rfl (Nat.le_of_ble_eq_true rfl) ⟨Nat.le_of_ble_eq_true rfl, Nat.le_of_ble_eq_true rfl⟩ (fun p10 => ?_)
  refine s_l2i hG dc12_within_13 ?_
  exact s_iret hG dc12_within_14 rfl (Nat.le_of_ble_eq_true rfl) (Nat.le_of_ble_eq_true rfl)
def fc12_goesIn (N : Nat) (a0 : Nat) (σ : Me) : Option (Int32 × Me) :=
  (qI σ 12 12 (some a0)).bind fun v1 =>
  if v1 = (6 : Int32) then
    (dr σ (some a0) (.inl 12)).bind fun a =>
    (fc12_fails N a σ).bind fun p10 =>
    retZ p10.1 p10.2
  else
    (qI σ 12 12 (some a0)).bind fun v16 =>
    (pI σ 12 12 (some a0) (v16 + (1 : Int32))).bind fun σ21 =>
    (qI σ21 12 10 (some a0)).bind fun v26 =>
    (pI σ21 12 10 (some a0) (v26 + (1 : Int32))).bind fun σ31 =>
    retZ (1 : Int32) σ31
set_option maxRecDepth 20000 in
set_option maxHeartbeats 2000000 in
theorem corc12_goesIn {Ω : Om} (N : Nat) (a0 : Nat) (σ : Me) : Cor Ω tc12_goesIn 2 0 0 [vR (some a0)] σ ιI (fc12_goesIn N a0 σ) := by
  refine Cor.of (by decide +kernel) (Nat.le_of_ble_eq_true rfl) (fun Γ hG => ?_)
  unfold fc12_goesIn
  show Sim Ω Γ 0 0 ιI 1 0 [(0, vR (some a0))] [] σ 0 0 _
  refine s_aload_n hG dc12_goesIn_0 rfl ?_
  refine s_getI hG kFc12_135 rfl dc12_goesIn_1 (fun v1 => ?_)
  refine s_bipush (v := 6) hG dc12_goesIn_4 (by decide) ?_
  refine s_icmp_ne hG 14 dc12_goesIn_6 (by decide) ?_ ?_
  · refine s_aload_n hG dc12_goesIn_14 rfl ?_
    refine s_dup hG dc12_goesIn_15 rfl ?_
    refine s_getI hG kFc12_135 rfl dc12_goesIn_16 (fun v16 => ?_)
    refine s_iconst (v := 1) hG dc12_goesIn_19 (by decide) ?_
    refine s_iadd hG dc12_goesIn_20 ?_
    refine s_putI (fin := false) hG kFc12_135 rfl (fun h => by cases h) rfl (fun _ => rfl) (fun _ => rfl) dc12_goesIn_21 (fun σ21 => ?_)
    refine s_aload_n hG dc12_goesIn_24 rfl ?_
    refine s_dup hG dc12_goesIn_25 rfl ?_
    refine s_getI hG kFc12_123 rfl dc12_goesIn_26 (fun v26 => ?_)
    refine s_iconst (v := 1) hG dc12_goesIn_29 (by decide) ?_
    refine s_iadd hG dc12_goesIn_30 ?_
    refine s_putI (fin := false) hG kFc12_123 rfl (fun h => by cases h) rfl (fun _ => rfl) (fun _ => rfl) dc12_goesIn_31 (fun σ31 => ?_)
    refine s_iconst (v := 1) hG dc12_goesIn_34 (by decide) ?_
    exact s_zret hG dc12_goesIn_35 rfl (Nat.le_of_ble_eq_true rfl) (Nat.le_of_ble_eq_true rfl)
  · refine s_aload_n hG dc12_goesIn_9 rfl ?_
    refine s_callVi hG kMc12_138 (fun a => corc12_fails N a _) ⟨by decide, rfl⟩ rfl (by first | decide | omega) dc12_goesIn_10 rfl rfl (Nat.le_of_ble_eq_true rfl) ⟨Nat.le_of_ble_eq_true rfl, Nat.le_of_ble_eq_true rfl⟩ (fun p10 => ?_)
    exact s_zret hG dc12_goesIn_13 rfl (Nat.le_of_ble_eq_true rfl) (Nat.le_of_ble_eq_true rfl)
def fc12_takes_16 (N : Nat) (l0 : Option Nat) (σ : Me) : Option (Int32 × Me) :=
  (dr σ l0 (.inl 12)).bind fun a =>
  (fc12_fails N a σ).bind fun p17 =>
  retZ p17.1 p17.2
def fc12_takes (N : Nat) (a0 : Nat) (x1 : Int32) (σ : Me) : Option (Int32 × Me) :=
  (qI σ 12 11 (some a0)).bind fun v1 =>
  if v1 = (-1 : Int32) then
    (dr σ (some a0) (.inl 12)).bind fun a =>
    (fc12_look N a σ).bind fun p9 =>
    if p9.1 = x1 then
      (qI p9.2 12 10 (some a0)).bind fun v23 =>
      (pI p9.2 12 10 (some a0) (v23 + (1 : Int32))).bind fun σ28 =>
      retZ (1 : Int32) σ28
    else
      fc12_takes_16 N (some a0) p9.2
  else
    fc12_takes_16 N (some a0) σ
set_option maxRecDepth 20000 in
set_option maxHeartbeats 2000000 in
theorem pc12_takes_16 {Ω : Om} {Γ : Ga} {N : Nat} (hG : Good Ω Γ tc12_takes 2 0 0) (l0 : Option Nat) (σ : Me) : Sim Ω Γ 0 0 ιI 2 16 [(0, vR l0)] [] σ 0 0 (fc12_takes_16 N l0 σ) := by
  unfold fc12_takes_16
  refine s_aload_n hG dc12_takes_16 rfl ?_
  refine s_callVi hG kMc12_138 (fun a => corc12_fails N a _) ⟨by decide, rfl⟩ rfl (by first | decide | omega) dc12_takes_17 rfl rfl (Nat.le_of_ble_eq_true rfl) ⟨Nat.le_of_ble_eq_true rfl, Nat.le_of_ble_eq_true rfl⟩ (fun p17 => ?_)
  exact s_zret hG dc12_takes_20 rfl (Nat.le_of_ble_eq_true rfl) (Nat.le_of_ble_eq_true rfl)
set_option maxRecDepth 20000 in
set_option maxHeartbeats 2000000 in
theorem corc12_takes {Ω : Om} (N : Nat) (a0 : Nat) (x1 : Int32) (σ : Me) : Cor Ω tc12_takes 2 0 0 [vR (some a0), vI x1] σ ιI (fc12_takes N a0 x1 σ) := by
  refine Cor.of (by decide +kernel) (Nat.le_of_ble_eq_true rfl) (fun Γ hG => ?_)
  unfold fc12_takes
  show Sim Ω Γ 0 0 ιI 2 0 [(0, vR (some a0)), (1, vI x1)] [] σ 0 0 _
  refine s_aload_n hG dc12_takes_0 rfl ?_
  refine s_getI hG kFc12_132 rfl dc12_takes_1 (fun v1 => ?_)
  refine s_iconst (v := -1) hG dc12_takes_4 (by decide) ?_
  refine s_icmp_ne hG 16 dc12_takes_5 (by decide) ?_ ?_
  · exact s_lv (lc rfl ln) (pc12_takes_16 hG _ _)
  · refine s_aload_n hG dc12_takes_8 rfl ?_
    refine s_callVi hG kMc12_142 (fun a => corc12_look N a _) ⟨by decide, rfl⟩ rfl (by first | decide | omega) dc12_takes_9 rfl rfl (Nat.le_of_ble_eq_true rfl) ⟨Nat.le_of_ble_eq_true rfl, Nat.le_of_ble_eq_true rfl⟩ (fun p9 => ?_)
    refine s_iload_n hG dc12_takes_12 rfl ?_
    refine s_icmp_eq hG 21 dc12_takes_13 (by decide) ?_ ?_
    · refine s_aload_n hG dc12_takes_21 rfl ?_
      refine s_dup hG dc12_takes_22 rfl ?_
      refine s_getI hG kFc12_123 rfl dc12_takes_23 (fun v23 => ?_)
      refine s_iconst (v := 1) hG dc12_takes_26 (by decide) ?_
      refine s_iadd hG dc12_takes_27 ?_
      refine s_putI (fin := false) hG kFc12_123 rfl (fun h => by cases h) rfl (fun _ => rfl) (fun _ => rfl) dc12_takes_28 (fun σ28 => ?_)
      refine s_iconst (v := 1) hG dc12_takes_31 (by decide) ?_
      exact s_zret hG dc12_takes_32 rfl (Nat.le_of_ble_eq_true rfl) (Nat.le_of_ble_eq_true rfl)
    · exact s_lv (lc rfl ln) (pc12_takes_16 hG _ _)
def fc12_rule (N : Nat) (a0 : Nat) (x1 : Int32) (σ : Me) : Option (Int32 × Me) :=
  (pI σ 12 0 (some a0) (0 : Int32)).bind fun σ2 =>
  (qI σ2 12 24 (some a0)).bind fun v6 =>
  if v6 = 0 then
    some ((-1 : Int32), σ2)
  else
    (fc12_isIn N (Int32.toInt64 x1) (0 : Int64) (2 : Int64) σ2).bind fun p18 =>
    if p18.1 = 0 then
      some ((-1 : Int32), p18.2)
    else
      if x1 = (2 : Int32) then
        (qR p18.2 12 28 (some a0)).bind fun v32 =>
        (ldI p18.2 v32 (24 : Int32)).bind fun v37 =>
        some (v37, p18.2)
      else
        (qR p18.2 12 18 (some a0)).bind fun v42 =>
        (ldI p18.2 v42 x1).bind fun v46 =>
        some (v46, p18.2)
set_option maxRecDepth 20000 in
set_option maxHeartbeats 2000000 in
theorem corc12_rule {Ω : Om} (N : Nat) (a0 : Nat) (x1 : Int32) (σ : Me) : Cor Ω tc12_rule 2 0 0 [vR (some a0), vI x1] σ ιI (fc12_rule N a0 x1 σ) := by
  refine Cor.of (by decide +kernel) (Nat.le_of_ble_eq_true rfl) (fun Γ hG => ?_)
  unfold fc12_rule
  show Sim Ω Γ 0 0 ιI 2 0 [(0, vR (some a0)), (1, vI x1)] [] σ 0 0 _
  refine s_aload_n hG dc12_rule_0 rfl ?_
  refine s_iconst (v := 0) hG dc12_rule_1 (by decide) ?_
  refine s_putI (fin := false) hG kFc12_100 rfl (fun h => by cases h) rfl (fun _ => rfl) (fun _ => rfl) dc12_rule_2 (fun σ2 => ?_)
  refine s_aload_n hG dc12_rule_5 rfl ?_
  refine s_getI hG kFc12_290 rfl dc12_rule_6 (fun v6 => ?_)
  refine s_if_eq hG 24 dc12_rule_9 (by decide) ?_ ?_
  · refine s_iconst (v := -1) hG dc12_rule_24 (by decide) ?_
    exact s_iret hG dc12_rule_25 rfl (Nat.le_of_ble_eq_true rfl) (Nat.le_of_ble_eq_true rfl)
  · refine s_iload_n hG dc12_rule_12 rfl ?_
    refine s_i2l hG dc12_rule_13 ?_
    refine s_lconst (v := 0) hG dc12_rule_14 (by decide) ?_
    refine s_ldc2 hG dc12_rule_15 kJc12_271 ?_
    refine s_callSi hG kMc12_221 (corc12_isIn N _ _ _ _) rfl (by first | decide | omega) dc12_rule_18 rfl rfl (Nat.le_of_ble_eq_true rfl) ⟨Nat.le_of_ble_eq_true rfl, Nat.le_of_ble_eq_true rfl⟩ (fun p18 => ?_)
    refine s_if_ne hG 26 dc12_rule_21 (by decide) ?_ ?_
    · refine s_iload_n hG dc12_rule_26 rfl ?_
      refine s_iconst (v := 2) hG dc12_rule_27 (by decide) ?_
      refine s_icmp_ne hG 41 dc12_rule_28 (by decide) ?_ ?_
      · refine s_aload_n hG dc12_rule_41 rfl ?_
        refine s_getR hG kFc12_37 rfl dc12_rule_42 (fun v42 => ?_)
        refine s_iload_n hG dc12_rule_45 rfl ?_
        refine s_iald hG dc12_rule_46 (fun v46 => ?_)
        exact s_iret hG dc12_rule_47 rfl (Nat.le_of_ble_eq_true rfl) (Nat.le_of_ble_eq_true rfl)
      · refine s_aload_n hG dc12_rule_31 rfl ?_
        refine s_getR hG kFc12_55 rfl dc12_rule_32 (fun v32 => ?_)
        refine s_bipush (v := 24) hG dc12_rule_35 (by decide) ?_
        refine s_iald hG dc12_rule_37 (fun v37 => ?_)
        refine s_goto hG 47 dc12_rule_38 (by decide) ?_
        exact s_iret hG dc12_rule_47 rfl (Nat.le_of_ble_eq_true rfl) (Nat.le_of_ble_eq_true rfl)
    · refine s_iconst (v := -1) hG dc12_rule_24 (by decide) ?_
      exact s_iret hG dc12_rule_25 rfl (Nat.le_of_ble_eq_true rfl) (Nat.le_of_ble_eq_true rfl)
def fc12_isField (N : Nat) (a0 : Nat) (x1 : Int32) (σ : Me) : Option (Int32 × Me) :=
  if x1 < 0 then
    retZ (0 : Int32) σ
  else
    (qI σ 12 24 (some a0)).bind fun v6 =>
    if v6 ≤ x1 then
      retZ (0 : Int32) σ
    else
      retZ (1 : Int32) σ
set_option maxRecDepth 20000 in
set_option maxHeartbeats 2000000 in
theorem corc12_isField {Ω : Om} (N : Nat) (a0 : Nat) (x1 : Int32) (σ : Me) : Cor Ω tc12_isField 1 0 0 [vR (some a0), vI x1] σ ιI (fc12_isField N a0 x1 σ) := by
  refine Cor.of (by decide +kernel) (Nat.le_of_ble_eq_true rfl) (fun Γ hG => ?_)
  unfold fc12_isField
  show Sim Ω Γ 0 0 ιI 2 0 [(0, vR (some a0)), (1, vI x1)] [] σ 0 0 _
  refine s_iload_n hG dc12_isField_0 rfl ?_
  refine s_if_lt hG 16 dc12_isField_1 (by decide) ?_ ?_
  · refine s_iconst (v := 0) hG dc12_isField_16 (by decide) ?_
    exact s_zret hG dc12_isField_17 rfl (Nat.le_of_ble_eq_true rfl) (Nat.le_of_ble_eq_true rfl)
  · refine s_iload_n hG dc12_isField_4 rfl ?_
    refine s_aload_n hG dc12_isField_5 rfl ?_
    refine s_getI hG kFc12_290 rfl dc12_isField_6 (fun v6 => ?_)
    refine s_icmp_ge hG 16 dc12_isField_9 (by decide) ?_ ?_
    · refine s_iconst (v := 0) hG dc12_isField_16 (by decide) ?_
      exact s_zret hG dc12_isField_17 rfl (Nat.le_of_ble_eq_true rfl) (Nat.le_of_ble_eq_true rfl)
    · refine s_iconst (v := 1) hG dc12_isField_12 (by decide) ?_
      refine s_goto hG 17 dc12_isField_13 (by decide) ?_
      exact s_zret hG dc12_isField_17 rfl (Nat.le_of_ble_eq_true rfl) (Nat.le_of_ble_eq_true rfl)
def fc12_value (N : Nat) (a0 : Nat) (x1 : Int32) (σ : Me) : Option (Int32 × Me) :=
  (qR σ 12 20 (some a0)).bind fun v1 =>
  (ldI σ v1 (((5 : Int32) * x1) + (3 : Int32))).bind fun v9 =>
  some (v9, σ)
set_option maxRecDepth 20000 in
set_option maxHeartbeats 2000000 in
theorem corc12_value {Ω : Om} (N : Nat) (a0 : Nat) (x1 : Int32) (σ : Me) : Cor Ω tc12_value 1 0 0 [vR (some a0), vI x1] σ ιI (fc12_value N a0 x1 σ) := by
  refine Cor.of (by decide +kernel) (Nat.le_of_ble_eq_true rfl) (fun Γ hG => ?_)
  unfold fc12_value
  show Sim Ω Γ 0 0 ιI 2 0 [(0, vR (some a0)), (1, vI x1)] [] σ 0 0 _
  refine s_aload_n hG dc12_value_0 rfl ?_
  refine s_getR hG kFc12_43 rfl dc12_value_1 (fun v1 => ?_)
  refine s_iconst (v := 5) hG dc12_value_4 (by decide) ?_
  refine s_iload_n hG dc12_value_5 rfl ?_
  refine s_imul hG dc12_value_6 ?_
  refine s_iconst (v := 3) hG dc12_value_7 (by decide) ?_
  refine s_iadd hG dc12_value_8 ?_
  refine s_iald hG dc12_value_9 (fun v9 => ?_)
  exact s_iret hG dc12_value_10 rfl (Nat.le_of_ble_eq_true rfl) (Nat.le_of_ble_eq_true rfl)
def fc12_field_26 (N : Nat) (l0 : Option Nat) (l1 : Int32) (l2 : Int32) (s0 : Option Nat) (s1 : Int32) (σ : Me) : Option (Int32 × Me) :=
  (pI σ 12 0 s0 s1).bind fun σ26 =>
  (qI σ26 12 0 l0).bind fun v30 =>
  if v30 ≤ 0 then
    if l2 = (3 : Int32) then
      (dr σ26 l0 (.inl 12)).bind fun a =>
      (fc12_value N a l1 σ26).bind fun p45 =>
      some (p45.1, p45.2)
    else
      if l2 = (4 : Int32) then
        (qR σ26 12 28 l0).bind fun v57 =>
        (ldI σ26 v57 (((4 : Int32) * l1) + (3 : Int32))).bind fun v65 =>
        some (v65, σ26)
      else
        (qR σ26 12 28 l0).bind fun v70 =>
        (ldI σ26 v70 (((4 : Int32) * l1) + l2)).bind fun v78 =>
        some (v78, σ26)
  else
    some ((0 : Int32), σ26)
def fc12_field_25 (N : Nat) (l0 : Option Nat) (l1 : Int32) (l2 : Int32) (s0 : Option Nat) (σ : Me) : Option (Int32 × Me) :=
  fc12_field_26 N l0 l1 l2 s0 (1 : Int32) σ
def fc12_field (N : Nat) (a0 : Nat) (x1 : Int32) (x2 : Int32) (σ : Me) : Option (Int32 × Me) :=
  (dr σ (some a0) (.inl 12)).bind fun a =>
  (fc12_isField N a x1 σ).bind fun p3 =>
  if p3.1 = 0 then
    fc12_field_25 N (some a0) x1 x2 (some a0) p3.2
  else
    (fc12_isIn N (Int32.toInt64 x2) (0 : Int64) (4 : Int64) p3.2).bind fun p15 =>
    if p15.1 = 0 then
      fc12_field_25 N (some a0) x1 x2 (some a0) p15.2
    else
      fc12_field_26 N (some a0) x1 x2 (some a0) (0 : Int32) p15.2
set_option maxRecDepth 20000 in
set_option maxHeartbeats 2000000 in
theorem pc12_field_26 {Ω : Om} {Γ : Ga} {N : Nat} (hG : Good Ω Γ tc12_field 2 0 0) (l0 : Option Nat) (l1 : Int32) (l2 : Int32) (s0 : Option Nat) (s1 : Int32) (σ : Me) : Sim Ω Γ 0 0 ιI 3 26 [(0, vR l0), (1, vI l1), (2, vI l2)] [vI s1, vR s0] σ 0 0 (fc12_field_26 N l0 l1 l2 s0 s1 σ) := by
  unfold fc12_field_26
  refine s_putI (fin := false) hG kFc12_100 rfl (fun h => by cases h) rfl (fun _ => rfl) (fun _ => rfl) dc12_field_26 (fun σ26 => ?_)
  refine s_aload_n hG dc12_field_29 rfl ?_
  refine s_getI hG kFc12_100 rfl dc12_field_30 (fun v30 => ?_)
  refine s_if_le hG 38 dc12_field_33 (by decide) ?_ ?_
  · refine s_iload_n hG dc12_field_38 rfl ?_
    refine s_iconst (v := 3) hG dc12_field_39 (by decide) ?_
    refine s_icmp_ne hG 51 dc12_field_40 (by decide) ?_ ?_
    · refine s_iload_n hG dc12_field_51 rfl ?_
      refine s_iconst (v := 4) hG dc12_field_52 (by decide) ?_
      refine s_icmp_ne hG 69 dc12_field_53 (by decide) ?_ ?_
      · refine s_aload_n hG dc12_field_69 rfl ?_
        refine s_getR hG kFc12_55 rfl dc12_field_70 (fun v70 => ?_)
        refine s_iconst (v := 4) hG dc12_field_73 (by decide) ?_
        refine s_iload_n hG dc12_field_74 rfl ?_
        refine s_imul hG dc12_field_75 ?_
        refine s_iload_n hG dc12_field_76 rfl ?_
        refine s_iadd hG dc12_field_77 ?_
        refine s_iald hG dc12_field_78 (fun v78 => ?_)
        exact s_iret hG dc12_field_79 rfl (Nat.le_of_ble_eq_true rfl) (Nat.le_of_ble_eq_true rfl)
      · refine s_aload_n hG dc12_field_56 rfl ?_
        refine s_getR hG kFc12_55 rfl dc12_field_57 (fun v57 => ?_)
        refine s_iconst (v := 4) hG dc12_field_60 (by decide) ?_
        refine s_iload_n hG dc12_field_61 rfl ?_
        refine s_imul hG dc12_field_62 ?_
        refine s_iconst (v := 3) hG dc12_field_63 (by decide) ?_
        refine s_iadd hG dc12_field_64 ?_
        refine s_iald hG dc12_field_65 (fun v65 => ?_)
        refine s_goto hG 79 dc12_field_66 (by decide) ?_
        exact s_iret hG dc12_field_79 rfl (Nat.le_of_ble_eq_true rfl) (Nat.le_of_ble_eq_true rfl)
    · refine s_aload_n hG dc12_field_43 rfl ?_
      refine s_iload_n hG dc12_field_44 rfl ?_
      refine s_callVi hG kMc12_318 (fun a => corc12_value N a _ _) ⟨by decide, rfl⟩ rfl (by first | decide | omega) dc12_field_45 rfl rfl (Nat.le_of_ble_eq_true rfl) ⟨Nat.le_of_ble_eq_true rfl, Nat.le_of_ble_eq_true rfl⟩ (fun p45 => ?_)
      refine s_goto hG 79 dc12_field_48 (by decide) ?_
      exact s_iret hG dc12_field_79 rfl (Nat.le_of_ble_eq_true rfl) (Nat.le_of_ble_eq_true rfl)
  · refine s_iconst (v := 0) hG dc12_field_36 (by decide) ?_
    exact s_iret hG dc12_field_37 rfl (Nat.le_of_ble_eq_true rfl) (Nat.le_of_ble_eq_true rfl)
set_option maxRecDepth 20000 in
set_option maxHeartbeats 2000000 in
theorem pc12_field_25 {Ω : Om} {Γ : Ga} {N : Nat} (hG : Good Ω Γ tc12_field 2 0 0) (l0 : Option Nat) (l1 : Int32) (l2 : Int32) (s0 : Option Nat) (σ : Me) : Sim Ω Γ 0 0 ιI 3 25 [(0, vR l0), (1, vI l1), (2, vI l2)] [vR s0] σ 0 0 (fc12_field_25 N l0 l1 l2 s0 σ) := by
  unfold fc12_field_25
  refine s_iconst (v := 1) hG dc12_field_25 (by decide) ?_
  exact s_lv (lc rfl (lc rfl (lc rfl ln))) (pc12_field_26 hG _ _ _ _ _ _)
set_option maxRecDepth 20000 in
set_option maxHeartbeats 2000000 in
theorem corc12_field {Ω : Om} (N : Nat) (a0 : Nat) (x1 : Int32) (x2 : Int32) (σ : Me) : Cor Ω tc12_field 2 0 0 [vR (some a0), vI x1, vI x2] σ ιI (fc12_field N a0 x1 x2 σ) := by
  refine Cor.of (by decide +kernel) (Nat.le_of_ble_eq_true rfl) (fun Γ hG => ?_)
  unfold fc12_field
  show Sim Ω Γ 0 0 ιI 3 0 [(0, vR (some a0)), (1, vI x1), (2, vI x2)] [] σ 0 0 _
  refine s_aload_n hG dc12_field_0 rfl ?_
  refine s_aload_n hG dc12_field_1 rfl ?_
  refine s_iload_n hG dc12_field_2 rfl ?_
  refine s_callVi hG kMc12_353 (fun a => corc12_isField N a _ _) ⟨by decide, rfl⟩ rfl (by first | decide | omega) dc12_field_3 rfl rfl (Nat.le_of_ble_eq_true rfl) ⟨Nat.le_of_ble_eq_true rfl, Nat.le_of_ble_eq_true rfl⟩ (fun p3 => ?_)
  refine s_if_eq hG 25 dc12_field_6 (by decide) ?_ ?_
  · exact s_lv (lc rfl (lc rfl (lc rfl ln))) (pc12_field_25 hG _ _ _ _ _)
  · refine s_iload_n hG dc12_field_9 rfl ?_
    refine s_i2l hG dc12_field_10 ?_
    refine s_lconst (v := 0) hG dc12_field_11 (by decide) ?_
    refine s_ldc2 hG dc12_field_12 kJc12_356 ?_
    refine s_callSi hG kMc12_221 (corc12_isIn N _ _ _ _) rfl (by first | decide | omega) dc12_field_15 rfl rfl (Nat.le_of_ble_eq_true rfl) ⟨Nat.le_of_ble_eq_true rfl, Nat.le_of_ble_eq_true rfl⟩ (fun p15 => ?_)
    refine s_if_eq hG 25 dc12_field_18 (by decide) ?_ ?_
    · exact s_lv (lc rfl (lc rfl (lc rfl ln))) (pc12_field_25 hG _ _ _ _ _)
    · refine s_iconst (v := 0) hG dc12_field_21 (by decide) ?_
      refine s_goto hG 26 dc12_field_22 (by decide) ?_
      exact s_lv (lc rfl (lc rfl (lc rfl ln))) (pc12_field_26 hG _ _ _ _ _ _)
def fc12_law_28 (N : Nat) (l0 : Option Nat) (l1 : Int32) (σ : Me) : Option (Int32 × Me) :=
  (pI σ 12 30 l0 l1).bind fun σ30 =>
  retZ (1 : Int32) σ30
def fc12_law (N : Nat) (a0 : Nat) (x1 : Int32) (σ : Me) : Option (Int32 × Me) :=
  (pI σ 12 0 (some a0) (0 : Int32)).bind fun σ2 =>
  if x1 = (-1 : Int32) then
    fc12_law_28 N (some a0) x1 σ2
  else
    (qI σ2 12 7 (some a0)).bind fun v14 =>
    (fc12_isIn N (Int32.toInt64 x1) (0 : Int64) (Int32.toInt64 (v14 - (1 : Int32))) σ2).bind fun p20 =>
    if p20.1 = 0 then
      retZ (0 : Int32) p20.2
    else
      fc12_law_28 N (some a0) x1 p20.2
set_option maxRecDepth 20000 in
set_option maxHeartbeats 2000000 in
theorem pc12_law_28 {Ω : Om} {Γ : Ga} {N : Nat} (hG : Good Ω Γ tc12_law 2 0 0) (l0 : Option Nat) (l1 : Int32) (σ : Me) : Sim Ω Γ 0 0 ιI 2 28 [(0, vR l0), (1, vI l1)] [] σ 0 0 (fc12_law_28 N l0 l1 σ) := by
  unfold fc12_law_28
  refine s_aload_n hG dc12_law_28 rfl ?_
  refine s_iload_n hG dc12_law_29 rfl ?_
  refine s_putI (fin := false) hG kFc12_61 rfl (fun h => by cases h) rfl (fun _ => rfl) (fun _ => rfl) dc12_law_30 (fun σ30 => ?_)
  refine s_iconst (v := 1) hG dc12_law_33 (by decide) ?_
  exact s_zret hG dc12_law_34 rfl (Nat.le_of_ble_eq_true rfl) (Nat.le_of_ble_eq_true rfl)
set_option maxRecDepth 20000 in
set_option maxHeartbeats 2000000 in
theorem corc12_law {Ω : Om} (N : Nat) (a0 : Nat) (x1 : Int32) (σ : Me) : Cor Ω tc12_law 2 0 0 [vR (some a0), vI x1] σ ιI (fc12_law N a0 x1 σ) := by
  refine Cor.of (by decide +kernel) (Nat.le_of_ble_eq_true rfl) (fun Γ hG => ?_)
  unfold fc12_law
  show Sim Ω Γ 0 0 ιI 2 0 [(0, vR (some a0)), (1, vI x1)] [] σ 0 0 _
  refine s_aload_n hG dc12_law_0 rfl ?_
  refine s_iconst (v := 0) hG dc12_law_1 (by decide) ?_
  refine s_putI (fin := false) hG kFc12_100 rfl (fun h => by cases h) rfl (fun _ => rfl) (fun _ => rfl) dc12_law_2 (fun σ2 => ?_)
  refine s_iload_n hG dc12_law_5 rfl ?_
  refine s_iconst (v := -1) hG dc12_law_6 (by decide) ?_
  refine s_icmp_eq hG 28 dc12_law_7 (by decide) ?_ ?_
  · exact s_lv (lc rfl (lc rfl ln)) (pc12_law_28 hG _ _ _)
  · refine s_iload_n hG dc12_law_10 rfl ?_
    refine s_i2l hG dc12_law_11 ?_
    refine s_lconst (v := 0) hG dc12_law_12 (by decide) ?_
    refine s_aload_n hG dc12_law_13 rfl ?_
    refine s_getI hG kFc12_282 rfl dc12_law_14 (fun v14 => ?_)
    refine s_iconst (v := 1) hG dc12_law_17 (by decide) ?_
    refine s_isub hG dc12_law_18 ?_
    refine s_i2l hG dc12_law_19 ?_
    refine s_callSi hG kMc12_221 (corc12_isIn N _ _ _ _) rfl (by first | decide | omega) dc12_law_20 rfl rfl (Nat.le_of_ble_eq_true rfl) ⟨Nat.le_of_ble_eq_true rfl, Nat.le_of_ble_eq_true rfl⟩ (fun p20 => ?_)
    refine s_if_ne hG 28 dc12_law_23 (by decide) ?_ ?_
    · exact s_lv (lc rfl (lc rfl ln)) (pc12_law_28 hG _ _ _)
    · refine s_iconst (v := 0) hG dc12_law_26 (by decide) ?_
      exact s_zret hG dc12_law_27 rfl (Nat.le_of_ble_eq_true rfl) (Nat.le_of_ble_eq_true rfl)
