def fc2_fillCan (N : Nat) (a0 : Nat) (x1 : Int32) (σ : Me) : Option (Unit × Me) :=
  (qR σ 2 4 (some a0)).bind fun v1 =>
  (ldI σ v1 x1).bind fun v6 =>
  (stI σ v1 x1 (v6 - (3 : Int32))).bind fun σ9 =>
  (qR σ9 2 2 (some a0)).bind fun v11 =>
  (qR σ9 2 2 (some a0)).bind fun v18 =>
  (ldI σ9 v18 x1).bind fun v22 =>
  (fMt_min N (30 : Int32) (v22 + (2 : Int32)) σ9).bind fun p25 =>
  (stI p25.2 v11 x1 p25.1).bind fun σ28 =>
  some ((), σ28)
set_option maxRecDepth 20000 in
set_option maxHeartbeats 2000000 in
theorem corc2_fillCan {Ω : Om} (N : Nat) (a0 : Nat) (x1 : Int32) (σ : Me) : Cor Ω tc2_fillCan 2 0 0 [vR (some a0), vI x1] σ ιV (fc2_fillCan N a0 x1 σ) := by
  refine Cor.of (by decide +kernel) (Nat.le_of_ble_eq_true rfl) (fun Γ hG => ?_)
  unfold fc2_fillCan
  show Sim Ω Γ 0 0 ιV 2 0 [(0, vR (some a0)), (1, vI x1)] [] σ 0 0 _
  refine s_aload_n hG dc2_fillCan_0 rfl ?_
  refine s_getR hG kFc2_24 rfl dc2_fillCan_1 (fun v1 => ?_)
  refine s_iload_n hG dc2_fillCan_4 rfl ?_
  refine s_dup2 hG dc2_fillCan_5 rfl rfl ?_
  refine s_iald hG dc2_fillCan_6 (fun v6 => ?_)
  refine s_iconst (v := 3) hG dc2_fillCan_7 (by decide) ?_
  refine s_isub hG dc2_fillCan_8 ?_
  refine s_iast hG dc2_fillCan_9 (fun σ9 => ?_)
  refine s_aload_n hG dc2_fillCan_10 rfl ?_
  refine s_getR hG kFc2_18 rfl dc2_fillCan_11 (fun v11 => ?_)
  refine s_iload_n hG dc2_fillCan_14 rfl ?_
  refine s_bipush (v := 30) hG dc2_fillCan_15 (by decide) ?_
  refine s_aload_n hG dc2_fillCan_17 rfl ?_
  refine s_getR hG kFc2_18 rfl dc2_fillCan_18 (fun v18 => ?_)
  refine s_iload_n hG dc2_fillCan_21 rfl ?_
  refine s_iald hG dc2_fillCan_22 (fun v22 => ?_)
  refine s_iconst (v := 2) hG dc2_fillCan_23 (by decide) ?_
  refine s_iadd hG dc2_fillCan_24 ?_
  refine s_callSi hG kMc2_49 (corMt_min N _ _ _) rfl (by first | decide | omega) dc2_fillCan_25 rfl rfl (Nat.le_of_ble_eq_true rfl) ⟨Nat.le_of_ble_eq_true rfl, Nat.le_of_ble_eq_true rfl⟩ (fun p25 => ?_)
  refine s_iast hG dc2_fillCan_28 (fun σ28 => ?_)
  exact s_vret hG dc2_fillCan_29 rfl (Nat.le_of_ble_eq_true rfl) (Nat.le_of_ble_eq_true rfl)
def fc2_isCan (N : Nat) (a0 : Nat) (x1 : Int32) (σ : Me) : Option (Int32 × Me) :=
  (dr σ (some a0) (.inl 2)).bind fun a =>
  (fc2_has N a x1 σ).bind fun p2 =>
  if p2.1 = 0 then
    retZ (0 : Int32) p2.2
  else
    (qR p2.2 2 4 (some a0)).bind fun v9 =>
    (ldI p2.2 v9 x1).bind fun v13 =>
    if v13 < (3 : Int32) then
      retZ (0 : Int32) p2.2
    else
      (qR p2.2 2 2 (some a0)).bind fun v19 =>
      (ldI p2.2 v19 x1).bind fun v23 =>
      if (30 : Int32) ≤ v23 then
        retZ (0 : Int32) p2.2
      else
        retZ (1 : Int32) p2.2
set_option maxRecDepth 20000 in
set_option maxHeartbeats 2000000 in
theorem corc2_isCan {Ω : Om} (N : Nat) (a0 : Nat) (x1 : Int32) (σ : Me) : Cor Ω tc2_isCan 2 0 0 [vR (some a0), vI x1] σ ιI (fc2_isCan N a0 x1 σ) := by
  refine Cor.of (by decide +kernel) (Nat.le_of_ble_eq_true rfl) (fun Γ hG => ?_)
  unfold fc2_isCan
  show Sim Ω Γ 0 0 ιI 2 0 [(0, vR (some a0)), (1, vI x1)] [] σ 0 0 _
  refine s_aload_n hG dc2_isCan_0 rfl ?_
  refine s_iload_n hG dc2_isCan_1 rfl ?_
  refine s_callVi hG kMc2_55 (fun a => corc2_has N a _ _) ⟨by decide, rfl⟩ rfl (by first | decide | omega) dc2_isCan_2 rfl rfl (Nat.le_of_ble_eq_true rfl) ⟨Nat.le_of_ble_eq_true rfl, Nat.le_of_ble_eq_true rfl⟩ (fun p2 => ?_)
  refine s_if_eq hG 33 dc2_isCan_5 (by decide) ?_ ?_
  · refine s_iconst (v := 0) hG dc2_isCan_33 (by decide) ?_
    exact s_zret hG dc2_isCan_34 rfl (Nat.le_of_ble_eq_true rfl) (Nat.le_of_ble_eq_true rfl)
  · refine s_aload_n hG dc2_isCan_8 rfl ?_
    refine s_getR hG kFc2_24 rfl dc2_isCan_9 (fun v9 => ?_)
    refine s_iload_n hG dc2_isCan_12 rfl ?_
    refine s_iald hG dc2_isCan_13 (fun v13 => ?_)
    refine s_iconst (v := 3) hG dc2_isCan_14 (by decide) ?_
    refine s_icmp_lt hG 33 dc2_isCan_15 (by decide) ?_ ?_
    · refine s_iconst (v := 0) hG dc2_isCan_33 (by decide) ?_
      exact s_zret hG dc2_isCan_34 rfl (Nat.le_of_ble_eq_true rfl) (Nat.le_of_ble_eq_true rfl)
    · refine s_aload_n hG dc2_isCan_18 rfl ?_
      refine s_getR hG kFc2_18 rfl dc2_isCan_19 (fun v19 => ?_)
      refine s_iload_n hG dc2_isCan_22 rfl ?_
      refine s_iald hG dc2_isCan_23 (fun v23 => ?_)
      refine s_bipush (v := 30) hG dc2_isCan_24 (by decide) ?_
      refine s_icmp_ge hG 33 dc2_isCan_26 (by decide) ?_ ?_
      · refine s_iconst (v := 0) hG dc2_isCan_33 (by decide) ?_
        exact s_zret hG dc2_isCan_34 rfl (Nat.le_of_ble_eq_true rfl) (Nat.le_of_ble_eq_true rfl)
      · refine s_iconst (v := 1) hG dc2_isCan_29 (by decide) ?_
        refine s_goto hG 34 dc2_isCan_30 (by decide) ?_
        exact s_zret hG dc2_isCan_34 rfl (Nat.le_of_ble_eq_true rfl) (Nat.le_of_ble_eq_true rfl)
def fc11_can (N : Nat) (a0 : Nat) (x1 : Int32) (σ : Me) : Option (Int32 × Me) :=
  (qR σ 11 10 (some a0)).bind fun v1 =>
  (dr σ v1 (.inl 2)).bind fun a =>
  (fc2_isCan N a x1 σ).bind fun p5 =>
  if p5.1 = 0 then
    some ((-1 : Int32), p5.2)
  else
    (qR p5.2 11 14 (some a0)).bind fun v14 =>
    (qR p5.2 11 10 (some a0)).bind fun v18 =>
    (dr p5.2 v14 (.inl 5)).bind fun a =>
    (fc5_keep N a v18 p5.2).bind fun p21 =>
    (qR p21.2 11 10 (some a0)).bind fun v25 =>
    (dr p21.2 v25 (.inl 2)).bind fun a =>
    (fc2_fillCan N a x1 p21.2).bind fun p29 =>
    (qR p29.2 11 10 (some a0)).bind fun v33 =>
    (qR p29.2 2 2 v33).bind fun v36 =>
    (ldI p29.2 v36 x1).bind fun v40 =>
    some (v40, p29.2)
set_option maxRecDepth 20000 in
set_option maxHeartbeats 2000000 in
theorem corc11_can {Ω : Om} (N : Nat) (a0 : Nat) (x1 : Int32) (σ : Me) : Cor Ω tc11_can 3 0 0 [vR (some a0), vI x1] σ ιI (fc11_can N a0 x1 σ) := by
  refine Cor.of (by decide +kernel) (Nat.le_of_ble_eq_true rfl) (fun Γ hG => ?_)
  unfold fc11_can
  show Sim Ω Γ 0 0 ιI 2 0 [(0, vR (some a0)), (1, vI x1)] [] σ 0 0 _
  refine s_aload_n hG dc11_can_0 rfl ?_
  refine s_getR hG kFc11_58 rfl dc11_can_1 (fun v1 => ?_)
  refine s_iload_n hG dc11_can_4 rfl ?_
  refine s_callVi hG kMc11_285 (fun a => corc2_isCan N a _ _) ⟨by decide, rfl⟩ rfl (by first | decide | omega) dc11_can_5 rfl rfl (Nat.le_of_ble_eq_true rfl) ⟨Nat.le_of_ble_eq_true rfl, Nat.le_of_ble_eq_true rfl⟩ (fun p5 => ?_)
  refine s_if_ne hG 13 dc11_can_8 (by decide) ?_ ?_
  · refine s_aload_n hG dc11_can_13 rfl ?_
    refine s_getR hG kFc11_82 rfl dc11_can_14 (fun v14 => ?_)
    refine s_aload_n hG dc11_can_17 rfl ?_
    refine s_getR hG kFc11_58 rfl dc11_can_18 (fun v18 => ?_)
    refine s_callVv hG kMc11_254 (fun a => corc5_keep N a _ _) ⟨by decide, rfl⟩ rfl (by first | decide | omega) dc11_can_21 rfl rfl (Nat.le_of_ble_eq_true rfl) ⟨Nat.le_of_ble_eq_true rfl, Nat.le_of_ble_eq_true rfl⟩ (fun p21 => ?_)
    refine s_aload_n hG dc11_can_24 rfl ?_
    refine s_getR hG kFc11_58 rfl dc11_can_25 (fun v25 => ?_)
    refine s_iload_n hG dc11_can_28 rfl ?_
    refine s_callVv hG kMc11_288 (fun a => corc2_fillCan N a _ _) ⟨by decide, rfl⟩ rfl (by first | decide | omega) dc11_can_29 rfl rfl (Nat.le_of_ble_eq_true rfl) ⟨Nat.le_of_ble_eq_true rfl, Nat.le_of_ble_eq_true rfl⟩ (fun p29 => ?_)
    refine s_aload_n hG dc11_can_32 rfl ?_
    refine s_getR hG kFc11_58 rfl dc11_can_33 (fun v33 => ?_)
    refine s_getR hG kFc11_192 rfl dc11_can_36 (fun v36 => ?_)
    refine s_iload_n hG dc11_can_39 rfl ?_
    refine s_iald hG dc11_can_40 (fun v40 => ?_)
    exact s_iret hG dc11_can_41 rfl (Nat.le_of_ble_eq_true rfl) (Nat.le_of_ble_eq_true rfl)
  · refine s_iconst (v := -1) hG dc11_can_11 (by decide) ?_
    exact s_iret hG dc11_can_12 rfl (Nat.le_of_ble_eq_true rfl) (Nat.le_of_ble_eq_true rfl)
def fc11_price (N : Nat) (a0 : Nat) (x1 : Int32) (σ : Me) : Option (Int32 × Me) :=
  (qR σ 11 10 (some a0)).bind fun v1 =>
  (qI σ 2 5 v1).bind fun v4 =>
  if v4 = 0 then
    some ((-1 : Int32), σ)
  else
    if x1 < 0 then
      some ((-1 : Int32), σ)
    else
      if (30 : Int32) < x1 then
        some ((-1 : Int32), σ)
      else
        (qR σ 11 10 (some a0)).bind fun v22 =>
        (qI σ 2 8 v22).bind fun v25 =>
        if x1 = v25 then
          some ((-1 : Int32), σ)
        else
          (qR σ 11 14 (some a0)).bind fun v34 =>
          (qR σ 11 10 (some a0)).bind fun v38 =>
          (dr σ v34 (.inl 5)).bind fun a =>
          (fc5_keep N a v38 σ).bind fun p41 =>
          (qR p41.2 11 10 (some a0)).bind fun v45 =>
          (qI p41.2 2 8 v45).bind fun v48 =>
          (qR p41.2 11 10 (some a0)).bind fun v53 =>
          (pI p41.2 2 8 v53 x1).bind fun σ57 =>
          some (v48, σ57)
set_option maxRecDepth 20000 in
set_option maxHeartbeats 2000000 in
theorem corc11_price {Ω : Om} (N : Nat) (a0 : Nat) (x1 : Int32) (σ : Me) : Cor Ω tc11_price 3 0 0 [vR (some a0), vI x1] σ ιI (fc11_price N a0 x1 σ) := by
  refine Cor.of (by decide +kernel) (Nat.le_of_ble_eq_true rfl) (fun Γ hG => ?_)
  unfold fc11_price
  show Sim Ω Γ 0 0 ιI 3 0 [(0, vR (some a0)), (1, vI x1)] [] σ 0 0 _
  refine s_aload_n hG dc11_price_0 rfl ?_
  refine s_getR hG kFc11_58 rfl dc11_price_1 (fun v1 => ?_)
  refine s_getI hG kFc11_154 rfl dc11_price_4 (fun v4 => ?_)
  refine s_if_eq hG 31 dc11_price_7 (by decide) ?_ ?_
  · refine s_iconst (v := -1) hG dc11_price_31 (by decide) ?_
    exact s_iret hG dc11_price_32 rfl (Nat.le_of_ble_eq_true rfl) (Nat.le_of_ble_eq_true rfl)
  · refine s_iload_n hG dc11_price_10 rfl ?_
    refine s_if_lt hG 31 dc11_price_11 (by decide) ?_ ?_
    · refine s_iconst (v := -1) hG dc11_price_31 (by decide) ?_
      exact s_iret hG dc11_price_32 rfl (Nat.le_of_ble_eq_true rfl) (Nat.le_of_ble_eq_true rfl)
    · refine s_iload_n hG dc11_price_14 rfl ?_
      refine s_bipush (v := 30) hG dc11_price_15 (by decide) ?_
      refine s_icmp_gt hG 31 dc11_price_17 (by decide) ?_ ?_
      · refine s_iconst (v := -1) hG dc11_price_31 (by decide) ?_
        exact s_iret hG dc11_price_32 rfl (Nat.le_of_ble_eq_true rfl) (Nat.le_of_ble_eq_true rfl)
      · refine s_iload_n hG dc11_price_20 rfl ?_
        refine s_aload_n hG dc11_price_21 rfl ?_
        refine s_getR hG kFc11_58 rfl dc11_price_22 (fun v22 => ?_)
        refine s_getI hG kFc11_177 rfl dc11_price_25 (fun v25 => ?_)
        refine s_icmp_ne hG 33 dc11_price_28 (by decide) ?_ ?_
        · refine s_aload_n hG dc11_price_33 rfl ?_
          refine s_getR hG kFc11_82 rfl dc11_price_34 (fun v34 => ?_)
          refine s_aload_n hG dc11_price_37 rfl ?_
          refine s_getR hG kFc11_58 rfl dc11_price_38 (fun v38 => ?_)
          refine s_callVv hG kMc11_254 (fun a => corc5_keep N a _ _) ⟨by decide, rfl⟩ rfl (by first | decide | omega) dc11_price_41 rfl rfl (Nat.le_of_ble_eq_true rfl) ⟨Nat.le_of_ble_eq_true rfl, Nat.le_of_ble_eq_true rfl⟩ (fun p41 => ?_)
          refine s_aload_n hG dc11_price_44 rfl ?_
          refine s_getR hG kFc11_58 rfl dc11_price_45 (fun v45 => ?_)
          refine s_getI hG kFc11_177 rfl dc11_price_48 (fun v48 => ?_)
          refine s_istore_n hG dc11_price_51 (by decide) ?_
          refine s_aload_n hG dc11_price_52 rfl ?_
          refine s_getR hG kFc11_58 rfl dc11_price_53 (fun v53 => ?_)
          refine s_iload_n hG dc11_price_56 rfl ?_
          refine s_putI (fin := false) hG kFc11_177 rfl (fun h => by cases h) rfl (fun _ => rfl) (fun _ => rfl) dc11_price_57 (fun σ57 => ?_)
          refine s_iload_n hG dc11_price_60 rfl ?_
          exact s_iret hG dc11_price_61 rfl (Nat.le_of_ble_eq_true rfl) (Nat.le_of_ble_eq_true rfl)
        · refine s_iconst (v := -1) hG dc11_price_31 (by decide) ?_
          exact s_iret hG dc11_price_32 rfl (Nat.le_of_ble_eq_true rfl) (Nat.le_of_ble_eq_true rfl)
def fc11_drawn (N : Nat) (x0 : Int64) (x2 : Int32) (σ : Me) : Option (Int32 × Me) :=
  if 0 < x2 then
    (rmL (((x0).toUInt64 >>> (((33 : Int32)).toInt64.toUInt64 &&& Int64.toUInt64 63)).toInt64) (Int32.toInt64 x2)).bind fun v14 =>
    some ((Int64.toInt32 v14), σ)
  else
    some ((0 : Int32), σ)
set_option maxRecDepth 20000 in
set_option maxHeartbeats 2000000 in
theorem corc11_drawn {Ω : Om} (N : Nat) (x0 : Int64) (x2 : Int32) (σ : Me) : Cor Ω tc11_drawn 1 0 0 [vL x0, vI x2] σ ιI (fc11_drawn N x0 x2 σ) := by
  refine Cor.of (by decide +kernel) (Nat.le_of_ble_eq_true rfl) (fun Γ hG => ?_)
  unfold fc11_drawn
  show Sim Ω Γ 0 0 ιI 3 0 [(0, vL x0), (2, vI x2)] [] σ 0 0 _
  refine s_iload_n hG dc11_drawn_0 rfl ?_
  refine s_if_gt hG 8 dc11_drawn_1 (by decide) ?_ ?_
  · refine s_lload_n hG dc11_drawn_8 rfl ?_
    refine s_bipush (v := 33) hG dc11_drawn_9 (by decide) ?_
    refine s_lushr hG dc11_drawn_11 ?_
    refine s_iload_n hG dc11_drawn_12 rfl ?_
    refine s_i2l hG dc11_drawn_13 ?_
    refine s_lrem hG dc11_drawn_14 (fun v14 => ?_)
    refine s_l2i hG dc11_drawn_15 ?_
    exact s_iret hG dc11_drawn_16 rfl (Nat.le_of_ble_eq_true rfl) (Nat.le_of_ble_eq_true rfl)
  · refine s_iconst (v := 0) hG dc11_drawn_4 (by decide) ?_
    refine s_goto hG 16 dc11_drawn_5 (by decide) ?_
    exact s_iret hG dc11_drawn_16 rfl (Nat.le_of_ble_eq_true rfl) (Nat.le_of_ble_eq_true rfl)
def fc11_stirred (N : Nat) (x0 : Int64) (σ : Me) : Option (Int64 × Me) :=
  some (((x0 * (6364136223846793005 : Int64)) + (1442695040888963407 : Int64)), σ)
set_option maxRecDepth 20000 in
set_option maxHeartbeats 2000000 in
theorem corc11_stirred {Ω : Om} (N : Nat) (x0 : Int64) (σ : Me) : Cor Ω tc11_stirred 1 0 0 [vL x0] σ ιL (fc11_stirred N x0 σ) := by
  refine Cor.of (by decide +kernel) (Nat.le_of_ble_eq_true rfl) (fun Γ hG => ?_)
  unfold fc11_stirred
  show Sim Ω Γ 0 0 ιL 2 0 [(0, vL x0)] [] σ 0 0 _
  refine s_lload_n hG dc11_stirred_0 rfl ?_
  refine s_ldc2 hG dc11_stirred_1 kJc11_299 ?_
  refine s_lmul hG dc11_stirred_4 ?_
  refine s_ldc2 hG dc11_stirred_5 kJc11_301 ?_
  refine s_ladd hG dc11_stirred_8 ?_
  exact s_lret hG dc11_stirred_9 rfl (Nat.le_of_ble_eq_true rfl) (Nat.le_of_ble_eq_true rfl)
def fc11_years_128 (N : Nat) (K44 : Option Nat → Int32 → Int64 → Int32 → Me → Option (Int32 × Me)) (l0 : Option Nat) (l1 : Int32) (l4 : Int64) (l6 : Int32) (σ : Me) : Option (Int32 × Me) :=
  (fc11_stirred N l4 σ).bind fun p130 =>
  (fc11_drawn N p130.1 (100 : Int32) p130.2).bind fun p140 =>
  (dr p140.2 l0 (.inl 11)).bind fun a =>
  (fc11_goBy N a p140.1 p140.2).bind fun p143 =>
  K44 l0 l1 p130.1 (l6 + (1 : Int32)) p143.2
def fc11_years_44 (N : Nat) : Nat → Option Nat → Int32 → Int64 → Int32 → Me → Option (Int32 × Me)
  | 0, _, _, _, _, _ => none
  | n + 1, l0, l1, l4, l6, σ =>
    if l1 ≤ l6 then
      (qR σ 11 10 l0).bind fun v154 =>
      (qI σ 2 9 v154).bind fun v157 =>
      some (v157, σ)
    else
      (qR σ 11 14 l0).bind fun v51 =>
      (qR σ 11 10 l0).bind fun v55 =>
      (dr σ v51 (.inl 5)).bind fun a =>
      (fc5_keep N a v55 σ).bind fun p58 =>
      (fc11_stirred N l4 p58.2).bind fun p63 =>
      (fc11_drawn N p63.1 (10 : Int32) p63.2).bind fun p72 =>
      (qI p72.2 11 9 l0).bind fun v76 =>
      if v76 ≤ p72.1 then
        fc11_years_128 N (fc11_years_44 N n) l0 l1 p63.1 l6 p72.2
      else
        (fc11_stirred N p63.1 p72.2).bind fun p84 =>
        (qR p84.2 11 10 l0).bind fun v92 =>
        (qI p84.2 2 5 v92).bind fun v95 =>
        (fc11_drawn N p84.1 v95 p84.2).bind fun p98 =>
        (qR p98.2 11 10 l0).bind fun v104 =>
        (qR p98.2 2 0 v104).bind fun v107 =>
        (ldI p98.2 v107 p98.1).bind fun v113 =>
        (qR p98.2 11 10 l0).bind fun v115 =>
        (qR p98.2 2 0 v115).bind fun v118 =>
        (ldI p98.2 v118 p98.1).bind fun v123 =>
        (dvI v123 (2 : Int32)).bind fun v125 =>
        (stI p98.2 v107 p98.1 (v113 - v125)).bind fun σ127 =>
        fc11_years_128 N (fc11_years_44 N n) l0 l1 p84.1 l6 σ127
def fc11_years (N : Nat) (a0 : Nat) (x1 : Int32) (x2 : Int64) (σ : Me) : Option (Int32 × Me) :=
  (qR σ 11 10 (some a0)).bind fun v1 =>
  (qI σ 2 5 v1).bind fun v4 =>
  if v4 = 0 then
    some ((-1 : Int32), σ)
  else
    if x1 < (1 : Int32) then
      some ((-1 : Int32), σ)
    else
      if (60 : Int32) < x1 then
        some ((-1 : Int32), σ)
      else
        (qR σ 11 10 (some a0)).bind fun v22 =>
        (qI σ 2 9 v22).bind fun v25 =>
        if (v25 + x1) ≤ (999 : Int32) then
          fc11_years_44 N N (some a0) x1 x2 (0 : Int32) σ
        else
          some ((-1 : Int32), σ)
set_option maxRecDepth 20000 in
set_option maxHeartbeats 2000000 in
theorem pc11_years_128 {Ω : Om} {Γ : Ga} {N : Nat} (hG : Good Ω Γ tc11_years 7 0 0) {K44 : Option Nat → Int32 → Int64 → Int32 → Me → Option (Int32 × Me)} (hK44 : ∀ (l0 : Option Nat) (l1 : Int32) (l4 : Int64) (l6 : Int32) (σ : Me), Sim Ω Γ 0 0 ιI 8 44 [(0, vR l0), (1, vI l1), (4, vL l4), (6, vI l6)] [] σ 0 0 (K44 l0 l1 l4 l6 σ)) (l0 : Option Nat) (l1 : Int32) (l4 : Int64) (l6 : Int32) (σ : Me) : Sim Ω Γ 0 0 ιI 8 128 [(0, vR l0), (1, vI l1), (4, vL l4), (6, vI l6)] [] σ 0 0 (fc11_years_128 N K44 l0 l1 l4 l6 σ) := by
  unfold fc11_years_128
  refine s_lload hG dc11_years_128 rfl ?_
  refine s_callSl hG kMc11_291 (corc11_stirred N _ _) rfl (by first | decide | omega) dc11_years_130 rfl rfl (Nat.le_of_ble_eq_true rfl) ⟨Nat.le_of_ble_eq_true rfl, Nat.le_of_ble_eq_true rfl⟩ (fun p130 => ?_)
  refine s_lstore hG dc11_years_133 (by decide) ?_
  refine s_aload_n hG dc11_years_135 rfl ?_
  refine s_lload hG dc11_years_136 rfl ?_
  refine s_bipush (v := 100) hG dc11_years_138 (by decide) ?_
  refine s_callSi hG kMc11_295 (corc11_drawn N _ _ _) rfl (by first | decide | omega) dc11_years_140 rfl rfl (Nat.le_of_ble_eq_true rfl) ⟨Nat.le_of_ble_eq_true rfl, Nat.le_of_ble_eq_true rfl⟩ (fun p140 => ?_)
  refine s_callVi hG kMc11_257 (fun a => corc11_goBy N a _ _) ⟨by decide, rfl⟩ rfl (by first | decide | omega) dc11_years_143 rfl rfl (Nat.le_of_ble_eq_true rfl) ⟨Nat.le_of_ble_eq_true rfl, Nat.le_of_ble_eq_true rfl⟩ (fun p143 => ?_)
  refine s_pop hG dc11_years_146 rfl ?_
  refine s_iinc (v := 1) hG dc11_years_147 rfl (by decide) (by decide) ?_
  refine s_goto hG 44 dc11_years_150 (by decide) ?_
  exact s_lv (lc rfl (lc rfl (lc rfl (lc rfl ln)))) (hK44 _ _ _ _ _)
set_option maxRecDepth 20000 in
set_option maxHeartbeats 2000000 in
theorem pc11_years_44 {Ω : Om} {Γ : Ga} {N : Nat} (hG : Good Ω Γ tc11_years 7 0 0)  : ∀ (n : Nat) (l0 : Option Nat) (l1 : Int32) (l4 : Int64) (l6 : Int32) (σ : Me), Sim Ω Γ 0 0 ιI 8 44 [(0, vR l0), (1, vI l1), (4, vL l4), (6, vI l6)] [] σ 0 0 (fc11_years_44 N n l0 l1 l4 l6 σ) := by
  intro n
  induction n with
  | zero => intros; exact s_none
  | succ n ih =>
    intro l0 l1 l4 l6 σ
    unfold fc11_years_44
    refine s_iload hG dc11_years_44 rfl ?_
    refine s_iload_n hG dc11_years_46 rfl ?_
    refine s_icmp_ge hG 153 dc11_years_47 (by decide) ?_ ?_
    · refine s_aload_n hG dc11_years_153 rfl ?_
      refine s_getR hG kFc11_58 rfl dc11_years_154 (fun v154 => ?_)
      refine s_getI hG kFc11_201 rfl dc11_years_157 (fun v157 => ?_)
      exact s_iret hG dc11_years_160 rfl (Nat.le_of_ble_eq_true rfl) (Nat.le_of_ble_eq_true rfl)
    · refine s_aload_n hG dc11_years_50 rfl ?_
      refine s_getR hG kFc11_82 rfl dc11_years_51 (fun v51 => ?_)
      refine s_aload_n hG dc11_years_54 rfl ?_
      refine s_getR hG kFc11_58 rfl dc11_years_55 (fun v55 => ?_)
      refine s_callVv hG kMc11_254 (fun a => corc5_keep N a _ _) ⟨by decide, rfl⟩ rfl (by first | decide | omega) dc11_years_58 rfl rfl (Nat.le_of_ble_eq_true rfl) ⟨Nat.le_of_ble_eq_true rfl, Nat.le_of_ble_eq_true rfl⟩ (fun p58 => ?_)
      refine s_lload hG dc11_years_61 rfl ?_
      refine s_callSl hG kMc11_291 (corc11_stirred N _ _) rfl (by first | decide | omega) dc11_years_63 rfl rfl (Nat.le_of_ble_eq_true rfl) ⟨Nat.le_of_ble_eq_true rfl, Nat.le_of_ble_eq_true rfl⟩ (fun p63 => ?_)
      refine s_lstore hG dc11_years_66 (by decide) ?_
      refine s_lload hG dc11_years_68 rfl ?_
      refine s_bipush (v := 10) hG dc11_years_70 (by decide) ?_
      refine s_callSi hG kMc11_295 (corc11_drawn N _ _ _) rfl (by first | decide | omega) dc11_years_72 rfl rfl (Nat.le_of_ble_eq_true rfl) ⟨Nat.le_of_ble_eq_true rfl, Nat.le_of_ble_eq_true rfl⟩ (fun p72 => ?_)
      refine s_aload_n hG dc11_years_75 rfl ?_
      refine s_getI hG kFc11_208 rfl dc11_years_76 (fun v76 => ?_)
      refine s_icmp_ge hG 128 dc11_years_79 (by decide) ?_ ?_
      · exact s_lv (lc rfl (lc rfl (lc rfl (lc rfl ln)))) (pc11_years_128 hG ih _ _ _ _ _)
      · refine s_lload hG dc11_years_82 rfl ?_
        refine s_callSl hG kMc11_291 (corc11_stirred N _ _) rfl (by first | decide | omega) dc11_years_84 rfl rfl (Nat.le_of_ble_eq_true rfl) ⟨Nat.le_of_ble_eq_true rfl, Nat.le_of_ble_eq_true rfl⟩ (fun p84 => ?_)
        refine s_lstore hG dc11_years_87 (by decide) ?_
        refine s_lload hG dc11_years_89 rfl ?_
        refine s_aload_n hG dc11_years_91 rfl ?_
        refine s_getR hG kFc11_58 rfl dc11_years_92 (fun v92 => ?_)
        refine s_getI hG kFc11_154 rfl dc11_years_95 (fun v95 => ?_)
        refine s_callSi hG kMc11_295 (corc11_drawn N _ _ _) rfl (by first | decide | omega) dc11_years_98 rfl rfl (Nat.le_of_ble_eq_true rfl) ⟨Nat.le_of_ble_eq_true rfl, Nat.le_of_ble_eq_true rfl⟩ (fun p98 => ?_)
        refine s_istore hG dc11_years_101 (by decide) ?_
        refine s_aload_n hG dc11_years_103 rfl ?_
        refine s_getR hG kFc11_58 rfl dc11_years_104 (fun v104 => ?_)
        refine s_getR hG kFc11_186 rfl dc11_years_107 (fun v107 => ?_)
        refine s_iload hG dc11_years_110 rfl ?_
        refine s_dup2 hG dc11_years_112 rfl rfl ?_
        refine s_iald hG dc11_years_113 (fun v113 => ?_)
        refine s_aload_n hG dc11_years_114 rfl ?_
        refine s_getR hG kFc11_58 rfl dc11_years_115 (fun v115 => ?_)
        refine s_getR hG kFc11_186 rfl dc11_years_118 (fun v118 => ?_)
        refine s_iload hG dc11_years_121 rfl ?_
        refine s_iald hG dc11_years_123 (fun v123 => ?_)
        refine s_iconst (v := 2) hG dc11_years_124 (by decide) ?_
        refine s_idiv hG dc11_years_125 (fun v125 => ?_)
        refine s_isub hG dc11_years_126 ?_
        refine s_iast hG dc11_years_127 (fun σ127 => ?_)
        exact s_lv (lc rfl (lc rfl (lc rfl (lc rfl ln)))) (pc11_years_128 hG ih _ _ _ _ _)
set_option maxRecDepth 20000 in
set_option maxHeartbeats 2000000 in
theorem corc11_years {Ω : Om} (N : Nat) (a0 : Nat) (x1 : Int32) (x2 : Int64) (σ : Me) : Cor Ω tc11_years 7 0 0 [vR (some a0), vI x1, vL x2] σ ιI (fc11_years N a0 x1 x2 σ) := by
  refine Cor.of (by decide +kernel) (Nat.le_of_ble_eq_true rfl) (fun Γ hG => ?_)
  unfold fc11_years
  show Sim Ω Γ 0 0 ιI 8 0 [(0, vR (some a0)), (1, vI x1), (2, vL x2)] [] σ 0 0 _
  refine s_aload_n hG dc11_years_0 rfl ?_
  refine s_getR hG kFc11_58 rfl dc11_years_1 (fun v1 => ?_)
  refine s_getI hG kFc11_154 rfl dc11_years_4 (fun v4 => ?_)
  refine s_if_eq hG 36 dc11_years_7 (by decide) ?_ ?_
  · refine s_iconst (v := -1) hG dc11_years_36 (by decide) ?_
    exact s_iret hG dc11_years_37 rfl (Nat.le_of_ble_eq_true rfl) (Nat.le_of_ble_eq_true rfl)
  · refine s_iload_n hG dc11_years_10 rfl ?_
    refine s_iconst (v := 1) hG dc11_years_11 (by decide) ?_
    refine s_icmp_lt hG 36 dc11_years_12 (by decide) ?_ ?_
    · refine s_iconst (v := -1) hG dc11_years_36 (by decide) ?_
      exact s_iret hG dc11_years_37 rfl (Nat.le_of_ble_eq_true rfl) (Nat.le_of_ble_eq_true rfl)
    · refine s_iload_n hG dc11_years_15 rfl ?_
      refine s_bipush (v := 60) hG dc11_years_16 (by decide) ?_
      refine s_icmp_gt hG 36 dc11_years_18 (by decide) ?_ ?_
      · refine s_iconst (v := -1) hG dc11_years_36 (by decide) ?_
        exact s_iret hG dc11_years_37 rfl (Nat.le_of_ble_eq_true rfl) (Nat.le_of_ble_eq_true rfl)
      · refine s_aload_n hG dc11_years_21 rfl ?_
        refine s_getR hG kFc11_58 rfl dc11_years_22 (fun v22 => ?_)
        refine s_getI hG kFc11_201 rfl dc11_years_25 (fun v25 => ?_)
        refine s_iload_n hG dc11_years_28 rfl ?_
        refine s_iadd hG dc11_years_29 ?_
        refine s_sipush (v := 999) hG dc11_years_30 (by decide) ?_
        refine s_icmp_le hG 38 dc11_years_33 (by decide) ?_ ?_
        · refine s_lload_n hG dc11_years_38 rfl ?_
          refine s_lstore hG dc11_years_39 (by decide) ?_
          refine s_iconst (v := 0) hG dc11_years_41 (by decide) ?_
          refine s_istore hG dc11_years_42 (by decide) ?_
          exact s_lv (lc rfl (lc rfl (lc rfl (lc rfl ln)))) (pc11_years_44 hG _ _ _ _ _ _)
        · refine s_iconst (v := -1) hG dc11_years_36 (by decide) ?_
          exact s_iret hG dc11_years_37 rfl (Nat.le_of_ble_eq_true rfl) (Nat.le_of_ble_eq_true rfl)
def fc2_readFrom (N : Nat) (a0 : Nat) (x1 : Option Nat) (x2 : Int32) (σ : Me) : Option (Unit × Me) :=
  if x2 < 0 then
    some ((), σ)
  else
    (aLn σ .int x1).bind fun v6 =>
    if x2 ≤ (v6 - (26 : Int32)) then
      (qR σ 2 0 (some a0)).bind fun v17 =>
      (cpI σ x1 x2 v17 (0 : Int32) (6 : Int32)).bind fun σ23 =>
      (qR σ23 2 1 (some a0)).bind fun v32 =>
      (cpI σ23 x1 (x2 + (6 : Int32)) v32 (0 : Int32) (6 : Int32)).bind fun σ38 =>
      (qR σ38 2 2 (some a0)).bind fun v47 =>
      (cpI σ38 x1 (x2 + (12 : Int32)) v47 (0 : Int32) (6 : Int32)).bind fun σ53 =>
      (qR σ53 2 4 (some a0)).bind fun v62 =>
      (cpI σ53 x1 (x2 + (18 : Int32)) v62 (0 : Int32) (6 : Int32)).bind fun σ68 =>
      (ldI σ68 x1 (x2 + (24 : Int32))).bind fun v77 =>
      (pI σ68 2 8 (some a0) v77).bind fun σ78 =>
      (ldI σ78 x1 ((x2 + (24 : Int32)) + (1 : Int32))).bind fun v89 =>
      (pI σ78 2 9 (some a0) v89).bind fun σ90 =>
      some ((), σ90)
    else
      some ((), σ)
set_option maxRecDepth 20000 in
set_option maxHeartbeats 2000000 in
theorem corc2_readFrom {Ω : Om} (N : Nat) (a0 : Nat) (x1 : Option Nat) (x2 : Int32) (σ : Me) : Cor Ω tc2_readFrom 1 0 0 [vR (some a0), vR x1, vI x2] σ ιV (fc2_readFrom N a0 x1 x2 σ) := by
  refine Cor.of (by decide +kernel) (Nat.le_of_ble_eq_true rfl) (fun Γ hG => ?_)
  unfold fc2_readFrom
  show Sim Ω Γ 0 0 ιV 3 0 [(0, vR (some a0)), (1, vR x1), (2, vI x2)] [] σ 0 0 _
  refine s_iload_n hG dc2_readFrom_0 rfl ?_
  refine s_if_lt hG 13 dc2_readFrom_1 (by decide) ?_ ?_
  · exact s_vret hG dc2_readFrom_13 rfl (Nat.le_of_ble_eq_true rfl) (Nat.le_of_ble_eq_true rfl)
  · refine s_iload_n hG dc2_readFrom_4 rfl ?_
    refine s_aload_n hG dc2_readFrom_5 rfl ?_
    refine s_alen hG 0 rfl dc2_readFrom_6 (fun v6 => ?_)
    refine s_bipush (v := 26) hG dc2_readFrom_7 (by decide) ?_
    refine s_isub hG dc2_readFrom_9 ?_
    refine s_icmp_le hG 14 dc2_readFrom_10 (by decide) ?_ ?_
    · refine s_aload_n hG dc2_readFrom_14 rfl ?_
      refine s_iload_n hG dc2_readFrom_15 rfl ?_
      refine s_aload_n hG dc2_readFrom_16 rfl ?_
      refine s_getR hG kFc2_9 rfl dc2_readFrom_17 (fun v17 => ?_)
      refine s_iconst (v := 0) hG dc2_readFrom_20 (by decide) ?_
      refine s_bipush (v := 6) hG dc2_readFrom_21 (by decide) ?_
      refine s_copy hG kYc2_27 rfl (by decide) dc2_readFrom_23 (Nat.le_of_ble_eq_true rfl) (fun σ23 => ?_)
      refine s_aload_n hG dc2_readFrom_26 rfl ?_
      refine s_iload_n hG dc2_readFrom_27 rfl ?_
      refine s_bipush (v := 6) hG dc2_readFrom_28 (by decide) ?_
      refine s_iadd hG dc2_readFrom_30 ?_
      refine s_aload_n hG dc2_readFrom_31 rfl ?_
      refine s_getR hG kFc2_15 rfl dc2_readFrom_32 (fun v32 => ?_)
      refine s_iconst (v := 0) hG dc2_readFrom_35 (by decide) ?_
      refine s_bipush (v := 6) hG dc2_readFrom_36 (by decide) ?_
      refine s_copy hG kYc2_27 rfl (by decide) dc2_readFrom_38 (Nat.le_of_ble_eq_true rfl) (fun σ38 => ?_)
      refine s_aload_n hG dc2_readFrom_41 rfl ?_
      refine s_iload_n hG dc2_readFrom_42 rfl ?_
      refine s_bipush (v := 12) hG dc2_readFrom_43 (by decide) ?_
      refine s_iadd hG dc2_readFrom_45 ?_
      refine s_aload_n hG dc2_readFrom_46 rfl ?_
      refine s_getR hG kFc2_18 rfl dc2_readFrom_47 (fun v47 => ?_)
      refine s_iconst (v := 0) hG dc2_readFrom_50 (by decide) ?_
      refine s_bipush (v := 6) hG dc2_readFrom_51 (by decide) ?_
      refine s_copy hG kYc2_27 rfl (by decide) dc2_readFrom_53 (Nat.le_of_ble_eq_true rfl) (fun σ53 => ?_)
      refine s_aload_n hG dc2_readFrom_56 rfl ?_
      refine s_iload_n hG dc2_readFrom_57 rfl ?_
      refine s_bipush (v := 18) hG dc2_readFrom_58 (by decide) ?_
      refine s_iadd hG dc2_readFrom_60 ?_
      refine s_aload_n hG dc2_readFrom_61 rfl ?_
      refine s_getR hG kFc2_24 rfl dc2_readFrom_62 (fun v62 => ?_)
      refine s_iconst (v := 0) hG dc2_readFrom_65 (by decide) ?_
      refine s_bipush (v := 6) hG dc2_readFrom_66 (by decide) ?_
      refine s_copy hG kYc2_27 rfl (by decide) dc2_readFrom_68 (Nat.le_of_ble_eq_true rfl) (fun σ68 => ?_)
      refine s_aload_n hG dc2_readFrom_71 rfl ?_
      refine s_aload_n hG dc2_readFrom_72 rfl ?_
      refine s_iload_n hG dc2_readFrom_73 rfl ?_
      refine s_bipush (v := 24) hG dc2_readFrom_74 (by decide) ?_
      refine s_iadd hG dc2_readFrom_76 ?_
      refine s_iald hG dc2_readFrom_77 (fun v77 => ?_)
      refine s_putI (fin := false) hG kFc2_43 rfl (fun h => by cases h) rfl (fun _ => rfl) (fun _ => rfl) dc2_readFrom_78 (fun σ78 => ?_)
      refine s_aload_n hG dc2_readFrom_81 rfl ?_
      refine s_aload_n hG dc2_readFrom_82 rfl ?_
      refine s_iload_n hG dc2_readFrom_83 rfl ?_
      refine s_bipush (v := 24) hG dc2_readFrom_84 (by decide) ?_
      refine s_iadd hG dc2_readFrom_86 ?_
      refine s_iconst (v := 1) hG dc2_readFrom_87 (by decide) ?_
      refine s_iadd hG dc2_readFrom_88 ?_
      refine s_iald hG dc2_readFrom_89 (fun v89 => ?_)
      refine s_putI (fin := false) hG kFc2_46 rfl (fun h => by cases h) rfl (fun _ => rfl) (fun _ => rfl) dc2_readFrom_90 (fun σ90 => ?_)
      exact s_vret hG dc2_readFrom_93 rfl (Nat.le_of_ble_eq_true rfl) (Nat.le_of_ble_eq_true rfl)
    · exact s_vret hG dc2_readFrom_13 rfl (Nat.le_of_ble_eq_true rfl) (Nat.le_of_ble_eq_true rfl)
def fc5_restore (N : Nat) (a0 : Nat) (x1 : Option Nat) (σ : Me) : Option (Int32 × Me) :=
  (qI σ 5 2 (some a0)).bind fun v1 =>
  if v1 = 0 then
    retZ (0 : Int32) σ
  else
    (qI σ 5 1 (some a0)).bind fun v11 =>
    (rmI ((v11 + (40 : Int32)) - (1 : Int32)) (40 : Int32)).bind fun v21 =>
    (pI σ 5 1 (some a0) v21).bind fun σ22 =>
    (qI σ22 5 2 (some a0)).bind fun v27 =>
    (pI σ22 5 2 (some a0) (v27 - (1 : Int32))).bind fun σ32 =>
    (qR σ32 5 0 (some a0)).bind fun v37 =>
    (qI σ32 5 1 (some a0)).bind fun v41 =>
    (dr σ32 x1 (.inl 2)).bind fun a =>
    (fc2_readFrom N a v37 (v41 * (26 : Int32)) σ32).bind fun p47 =>
    retZ (1 : Int32) p47.2
set_option maxRecDepth 20000 in
set_option maxHeartbeats 2000000 in
theorem corc5_restore {Ω : Om} (N : Nat) (a0 : Nat) (x1 : Option Nat) (σ : Me) : Cor Ω tc5_restore 2 0 0 [vR (some a0), vR x1] σ ιI (fc5_restore N a0 x1 σ) := by
  refine Cor.of (by decide +kernel) (Nat.le_of_ble_eq_true rfl) (fun Γ hG => ?_)
  unfold fc5_restore
  show Sim Ω Γ 0 0 ιI 2 0 [(0, vR (some a0)), (1, vR x1)] [] σ 0 0 _
  refine s_aload_n hG dc5_restore_0 rfl ?_
  refine s_getI hG kFc5_33 rfl dc5_restore_1 (fun v1 => ?_)
  refine s_if_ne hG 9 dc5_restore_4 (by decide) ?_ ?_
  · refine s_aload_n hG dc5_restore_9 rfl ?_
    refine s_aload_n hG dc5_restore_10 rfl ?_
    refine s_getI hG kFc5_25 rfl dc5_restore_11 (fun v11 => ?_)
    refine s_bipush (v := 40) hG dc5_restore_14 (by decide) ?_
    refine s_iadd hG dc5_restore_16 ?_
    refine s_iconst (v := 1) hG dc5_restore_17 (by decide) ?_
    refine s_isub hG dc5_restore_18 ?_
    refine s_bipush (v := 40) hG dc5_restore_19 (by decide) ?_
    refine s_irem hG dc5_restore_21 (fun v21 => ?_)
    refine s_putI (fin := false) hG kFc5_25 rfl (fun h => by cases h) rfl (fun _ => rfl) (fun _ => rfl) dc5_restore_22 (fun σ22 => ?_)
    refine s_aload_n hG dc5_restore_25 rfl ?_
    refine s_dup hG dc5_restore_26 rfl ?_
    refine s_getI hG kFc5_33 rfl dc5_restore_27 (fun v27 => ?_)
    refine s_iconst (v := 1) hG dc5_restore_30 (by decide) ?_
    refine s_isub hG dc5_restore_31 ?_
    refine s_putI (fin := false) hG kFc5_33 rfl (fun h => by cases h) rfl (fun _ => rfl) (fun _ => rfl) dc5_restore_32 (fun σ32 => ?_)
    refine s_aload_n hG dc5_restore_35 rfl ?_
    refine s_aload_n hG dc5_restore_36 rfl ?_
    refine s_getR hG kFc5_11 rfl dc5_restore_37 (fun v37 => ?_)
    refine s_aload_n hG dc5_restore_40 rfl ?_
    refine s_getI hG kFc5_25 rfl dc5_restore_41 (fun v41 => ?_)
    refine s_bipush (v := 26) hG dc5_restore_44 (by decide) ?_
    refine s_imul hG dc5_restore_46 ?_
    refine s_callVv hG kMc5_42 (fun a => corc2_readFrom N a _ _ _) ⟨by decide, rfl⟩ rfl (by first | decide | omega) dc5_restore_47 rfl rfl (Nat.le_of_ble_eq_true rfl) ⟨Nat.le_of_ble_eq_true rfl, Nat.le_of_ble_eq_true rfl⟩ (fun p47 => ?_)
    refine s_iconst (v := 1) hG dc5_restore_50 (by decide) ?_
    exact s_zret hG dc5_restore_51 rfl (Nat.le_of_ble_eq_true rfl) (Nat.le_of_ble_eq_true rfl)
  · refine s_iconst (v := 0) hG dc5_restore_7 (by decide) ?_
    exact s_zret hG dc5_restore_8 rfl (Nat.le_of_ble_eq_true rfl) (Nat.le_of_ble_eq_true rfl)
def fc11_undo (N : Nat) (a0 : Nat) (σ : Me) : Option (Int32 × Me) :=
  (qR σ 11 14 (some a0)).bind fun v1 =>
  (qR σ 11 10 (some a0)).bind fun v5 =>
  (dr σ v1 (.inl 5)).bind fun a =>
  (fc5_restore N a v5 σ).bind fun p8 =>
  if p8.1 = 0 then
    some ((-1 : Int32), p8.2)
  else
    (qR p8.2 11 14 (some a0)).bind fun v15 =>
    (qI p8.2 5 2 v15).bind fun v18 =>
    some (v18, p8.2)
set_option maxRecDepth 20000 in
set_option maxHeartbeats 2000000 in
theorem corc11_undo {Ω : Om} (N : Nat) (a0 : Nat) (σ : Me) : Cor Ω tc11_undo 3 0 0 [vR (some a0)] σ ιI (fc11_undo N a0 σ) := by
  refine Cor.of (by decide +kernel) (Nat.le_of_ble_eq_true rfl) (fun Γ hG => ?_)
  unfold fc11_undo
  show Sim Ω Γ 0 0 ιI 1 0 [(0, vR (some a0))] [] σ 0 0 _
  refine s_aload_n hG dc11_undo_0 rfl ?_
  refine s_getR hG kFc11_82 rfl dc11_undo_1 (fun v1 => ?_)
  refine s_aload_n hG dc11_undo_4 rfl ?_
  refine s_getR hG kFc11_58 rfl dc11_undo_5 (fun v5 => ?_)
  refine s_callVi hG kMc11_303 (fun a => corc5_restore N a _ _) ⟨by decide, rfl⟩ rfl (by first | decide | omega) dc11_undo_8 rfl rfl (Nat.le_of_ble_eq_true rfl) ⟨Nat.le_of_ble_eq_true rfl, Nat.le_of_ble_eq_true rfl⟩ (fun p8 => ?_)
  refine s_if_eq hG 24 dc11_undo_11 (by decide) ?_ ?_
  · refine s_iconst (v := -1) hG dc11_undo_24 (by decide) ?_
    exact s_iret hG dc11_undo_25 rfl (Nat.le_of_ble_eq_true rfl) (Nat.le_of_ble_eq_true rfl)
  · refine s_aload_n hG dc11_undo_14 rfl ?_
    refine s_getR hG kFc11_82 rfl dc11_undo_15 (fun v15 => ?_)
    refine s_getI hG kFc11_144 rfl dc11_undo_18 (fun v18 => ?_)
    refine s_goto hG 25 dc11_undo_21 (by decide) ?_
    exact s_iret hG dc11_undo_25 rfl (Nat.le_of_ble_eq_true rfl) (Nat.le_of_ble_eq_true rfl)
def fc0_copyFrom (N : Nat) (a0 : Nat) (x1 : Option Nat) (σ : Me) : Option (Unit × Me) :=
  (qR σ 0 0 x1).bind fun v1 =>
  (qR σ 0 0 (some a0)).bind fun v6 =>
  (cpI σ v1 (0 : Int32) v6 (0 : Int32) (100 : Int32)).bind fun σ12 =>
  (qR σ12 0 1 x1).bind fun v16 =>
  (qR σ12 0 1 (some a0)).bind fun v21 =>
  (cpI σ12 v16 (0 : Int32) v21 (0 : Int32) (100 : Int32)).bind fun σ27 =>
  (qR σ27 0 2 x1).bind fun v31 =>
  (qR σ27 0 2 (some a0)).bind fun v36 =>
  (cpI σ27 v31 (0 : Int32) v36 (0 : Int32) (100 : Int32)).bind fun σ42 =>
  some ((), σ42)
set_option maxRecDepth 20000 in
set_option maxHeartbeats 2000000 in
theorem corc0_copyFrom {Ω : Om} (N : Nat) (a0 : Nat) (x1 : Option Nat) (σ : Me) : Cor Ω tc0_copyFrom 1 0 0 [vR (some a0), vR x1] σ ιV (fc0_copyFrom N a0 x1 σ) := by
  refine Cor.of (by decide +kernel) (Nat.le_of_ble_eq_true rfl) (fun Γ hG => ?_)
  unfold fc0_copyFrom
  show Sim Ω Γ 0 0 ιV 2 0 [(0, vR (some a0)), (1, vR x1)] [] σ 0 0 _
  refine s_aload_n hG dc0_copyFrom_0 rfl ?_
  refine s_getR hG kFc0_11 rfl dc0_copyFrom_1 (fun v1 => ?_)
  refine s_iconst (v := 0) hG dc0_copyFrom_4 (by decide) ?_
  refine s_aload_n hG dc0_copyFrom_5 rfl ?_
  refine s_getR hG kFc0_11 rfl dc0_copyFrom_6 (fun v6 => ?_)
  refine s_iconst (v := 0) hG dc0_copyFrom_9 (by decide) ?_
  refine s_bipush (v := 100) hG dc0_copyFrom_10 (by decide) ?_
  refine s_copy hG kYc0_30 rfl (by decide) dc0_copyFrom_12 (Nat.le_of_ble_eq_true rfl) (fun σ12 => ?_)
  refine s_aload_n hG dc0_copyFrom_15 rfl ?_
  refine s_getR hG kFc0_15 rfl dc0_copyFrom_16 (fun v16 => ?_)
  refine s_iconst (v := 0) hG dc0_copyFrom_19 (by decide) ?_
  refine s_aload_n hG dc0_copyFrom_20 rfl ?_
  refine s_getR hG kFc0_15 rfl dc0_copyFrom_21 (fun v21 => ?_)
  refine s_iconst (v := 0) hG dc0_copyFrom_24 (by decide) ?_
  refine s_bipush (v := 100) hG dc0_copyFrom_25 (by decide) ?_
  refine s_copy hG kYc0_30 rfl (by decide) dc0_copyFrom_27 (Nat.le_of_ble_eq_true rfl) (fun σ27 => ?_)
  refine s_aload_n hG dc0_copyFrom_30 rfl ?_
  refine s_getR hG kFc0_18 rfl dc0_copyFrom_31 (fun v31 => ?_)
  refine s_iconst (v := 0) hG dc0_copyFrom_34 (by decide) ?_
  refine s_aload_n hG dc0_copyFrom_35 rfl ?_
  refine s_getR hG kFc0_18 rfl dc0_copyFrom_36 (fun v36 => ?_)
  refine s_iconst (v := 0) hG dc0_copyFrom_39 (by decide) ?_
  refine s_bipush (v := 100) hG dc0_copyFrom_40 (by decide) ?_
  refine s_copy hG kYc0_30 rfl (by decide) dc0_copyFrom_42 (Nat.le_of_ble_eq_true rfl) (fun σ42 => ?_)
  exact s_vret hG dc0_copyFrom_45 rfl (Nat.le_of_ble_eq_true rfl) (Nat.le_of_ble_eq_true rfl)
def fc5_keepImage (N : Nat) (a0 : Nat) (x1 : Option Nat) (x2 : Option Nat) (σ : Me) : Option (Unit × Me) :=
  (qR σ 5 3 (some a0)).bind fun v2 =>
  (dr σ x1 (.inl 2)).bind fun a =>
  (fc2_writeTo N a v2 (0 : Int32) σ).bind fun p6 =>
  (qR p6.2 5 4 (some a0)).bind fun v10 =>
  (dr p6.2 v10 (.inl 0)).bind fun a =>
  (fc0_copyFrom N a x2 p6.2).bind fun p14 =>
  (pZ p14.2 5 5 (some a0) (1 : Int32)).bind fun σ19 =>
  some ((), σ19)
set_option maxRecDepth 20000 in
set_option maxHeartbeats 2000000 in
theorem corc5_keepImage {Ω : Om} (N : Nat) (a0 : Nat) (x1 : Option Nat) (x2 : Option Nat) (σ : Me) : Cor Ω tc5_keepImage 2 0 0 [vR (some a0), vR x1, vR x2] σ ιV (fc5_keepImage N a0 x1 x2 σ) := by
  refine Cor.of (by decide +kernel) (Nat.le_of_ble_eq_true rfl) (fun Γ hG => ?_)
  unfold fc5_keepImage
  show Sim Ω Γ 0 0 ιV 3 0 [(0, vR (some a0)), (1, vR x1), (2, vR x2)] [] σ 0 0 _
  refine s_aload_n hG dc5_keepImage_0 rfl ?_
  refine s_aload_n hG dc5_keepImage_1 rfl ?_
  refine s_getR hG kFc5_15 rfl dc5_keepImage_2 (fun v2 => ?_)
  refine s_iconst (v := 0) hG dc5_keepImage_5 (by decide) ?_
  refine s_callVv hG kMc5_29 (fun a => corc2_writeTo N a _ _ _) ⟨by decide, rfl⟩ rfl (by first | decide | omega) dc5_keepImage_6 rfl rfl (Nat.le_of_ble_eq_true rfl) ⟨Nat.le_of_ble_eq_true rfl, Nat.le_of_ble_eq_true rfl⟩ (fun p6 => ?_)
  refine s_aload_n hG dc5_keepImage_9 rfl ?_
  refine s_getR hG kFc5_21 rfl dc5_keepImage_10 (fun v10 => ?_)
  refine s_aload_n hG dc5_keepImage_13 rfl ?_
  refine s_callVv hG kMc5_45 (fun a => corc0_copyFrom N a _ _) ⟨by decide, rfl⟩ rfl (by first | decide | omega) dc5_keepImage_14 rfl rfl (Nat.le_of_ble_eq_true rfl) ⟨Nat.le_of_ble_eq_true rfl, Nat.le_of_ble_eq_true rfl⟩ (fun p14 => ?_)
  refine s_aload_n hG dc5_keepImage_17 rfl ?_
  refine s_iconst (v := 1) hG dc5_keepImage_18 (by decide) ?_
  refine s_putZ hG kFc5_49 rfl rfl dc5_keepImage_19 (fun σ19 => ?_)
  exact s_vret hG dc5_keepImage_22 rfl (Nat.le_of_ble_eq_true rfl) (Nat.le_of_ble_eq_true rfl)
def fc11_image (N : Nat) (a0 : Nat) (σ : Me) : Option (Int32 × Me) :=
  (qR σ 11 10 (some a0)).bind fun v1 =>
  (qI σ 2 5 v1).bind fun v4 =>
  if v4 = 0 then
    some ((-1 : Int32), σ)
  else
    (qR σ 11 14 (some a0)).bind fun v13 =>
    (qR σ 11 10 (some a0)).bind fun v17 =>
    (qR σ 11 13 (some a0)).bind fun v21 =>
    (dr σ v13 (.inl 5)).bind fun a =>
    (fc5_keepImage N a v17 v21 σ).bind fun p24 =>
    (qR p24.2 11 10 (some a0)).bind fun v28 =>
    (qI p24.2 2 9 v28).bind fun v31 =>
    some (v31, p24.2)
set_option maxRecDepth 20000 in
set_option maxHeartbeats 2000000 in
theorem corc11_image {Ω : Om} (N : Nat) (a0 : Nat) (σ : Me) : Cor Ω tc11_image 3 0 0 [vR (some a0)] σ ιI (fc11_image N a0 σ) := by
  refine Cor.of (by decide +kernel) (Nat.le_of_ble_eq_true rfl) (fun Γ hG => ?_)
  unfold fc11_image
  show Sim Ω Γ 0 0 ιI 1 0 [(0, vR (some a0))] [] σ 0 0 _
  refine s_aload_n hG dc11_image_0 rfl ?_
  refine s_getR hG kFc11_58 rfl dc11_image_1 (fun v1 => ?_)
  refine s_getI hG kFc11_154 rfl dc11_image_4 (fun v4 => ?_)
  refine s_if_ne hG 12 dc11_image_7 (by decide) ?_ ?_
  · refine s_aload_n hG dc11_image_12 rfl ?_
    refine s_getR hG kFc11_82 rfl dc11_image_13 (fun v13 => ?_)
    refine s_aload_n hG dc11_image_16 rfl ?_
    refine s_getR hG kFc11_58 rfl dc11_image_17 (fun v17 => ?_)
    refine s_aload_n hG dc11_image_20 rfl ?_
    refine s_getR hG kFc11_75 rfl dc11_image_21 (fun v21 => ?_)
    refine s_callVv hG kMc11_307 (fun a => corc5_keepImage N a _ _ _) ⟨by decide, rfl⟩ rfl (by first | decide | omega) dc11_image_24 rfl rfl (Nat.le_of_ble_eq_true rfl) ⟨Nat.le_of_ble_eq_true rfl, Nat.le_of_ble_eq_true rfl⟩ (fun p24 => ?_)
    refine s_aload_n hG dc11_image_27 rfl ?_
    refine s_getR hG kFc11_58 rfl dc11_image_28 (fun v28 => ?_)
    refine s_getI hG kFc11_201 rfl dc11_image_31 (fun v31 => ?_)
    exact s_iret hG dc11_image_34 rfl (Nat.le_of_ble_eq_true rfl) (Nat.le_of_ble_eq_true rfl)
  · refine s_iconst (v := -1) hG dc11_image_10 (by decide) ?_
    exact s_iret hG dc11_image_11 rfl (Nat.le_of_ble_eq_true rfl) (Nat.le_of_ble_eq_true rfl)
def fc5_bringImage (N : Nat) (a0 : Nat) (x1 : Option Nat) (x2 : Option Nat) (σ : Me) : Option (Int32 × Me) :=
  (qI σ 5 5 (some a0)).bind fun v1 =>
  if v1 = 0 then
    retZ (0 : Int32) σ
  else
    (qR σ 5 3 (some a0)).bind fun v11 =>
    (dr σ x1 (.inl 2)).bind fun a =>
    (fc2_readFrom N a v11 (0 : Int32) σ).bind fun p15 =>
    (qR p15.2 5 4 (some a0)).bind fun v20 =>
    (dr p15.2 x2 (.inl 0)).bind fun a =>
    (fc0_copyFrom N a v20 p15.2).bind fun p23 =>
    (pI p23.2 5 2 (some a0) (0 : Int32)).bind fun σ28 =>
    retZ (1 : Int32) σ28
set_option maxRecDepth 20000 in
set_option maxHeartbeats 2000000 in
theorem corc5_bringImage {Ω : Om} (N : Nat) (a0 : Nat) (x1 : Option Nat) (x2 : Option Nat) (σ : Me) : Cor Ω tc5_bringImage 2 0 0 [vR (some a0), vR x1, vR x2] σ ιI (fc5_bringImage N a0 x1 x2 σ) := by
  refine Cor.of (by decide +kernel) (Nat.le_of_ble_eq_true rfl) (fun Γ hG => ?_)
  unfold fc5_bringImage
  show Sim Ω Γ 0 0 ιI 3 0 [(0, vR (some a0)), (1, vR x1), (2, vR x2)] [] σ 0 0 _
  refine s_aload_n hG dc5_bringImage_0 rfl ?_
  refine s_getI hG kFc5_49 rfl dc5_bringImage_1 (fun v1 => ?_)
  refine s_if_ne hG 9 dc5_bringImage_4 (by decide) ?_ ?_
  · refine s_aload_n hG dc5_bringImage_9 rfl ?_
    refine s_aload_n hG dc5_bringImage_10 rfl ?_
    refine s_getR hG kFc5_15 rfl dc5_bringImage_11 (fun v11 => ?_)
    refine s_iconst (v := 0) hG dc5_bringImage_14 (by decide) ?_
    refine s_callVv hG kMc5_42 (fun a => corc2_readFrom N a _ _ _) ⟨by decide, rfl⟩ rfl (by first | decide | omega) dc5_bringImage_15 rfl rfl (Nat.le_of_ble_eq_true rfl) ⟨Nat.le_of_ble_eq_true rfl, Nat.le_of_ble_eq_true rfl⟩ (fun p15 => ?_)
    refine s_aload_n hG dc5_bringImage_18 rfl ?_
    refine s_aload_n hG dc5_bringImage_19 rfl ?_
    refine s_getR hG kFc5_21 rfl dc5_bringImage_20 (fun v20 => ?_)
    refine s_callVv hG kMc5_45 (fun a => corc0_copyFrom N a _ _) ⟨by decide, rfl⟩ rfl (by first | decide | omega) dc5_bringImage_23 rfl rfl (Nat.le_of_ble_eq_true rfl) ⟨Nat.le_of_ble_eq_true rfl, Nat.le_of_ble_eq_true rfl⟩ (fun p23 => ?_)
    refine s_aload_n hG dc5_bringImage_26 rfl ?_
    refine s_iconst (v := 0) hG dc5_bringImage_27 (by decide) ?_
    refine s_putI (fin := false) hG kFc5_33 rfl (fun h => by cases h) rfl (fun _ => rfl) (fun _ => rfl) dc5_bringImage_28 (fun σ28 => ?_)
    refine s_iconst (v := 1) hG dc5_bringImage_31 (by decide) ?_
    exact s_zret hG dc5_bringImage_32 rfl (Nat.le_of_ble_eq_true rfl) (Nat.le_of_ble_eq_true rfl)
  · refine s_iconst (v := 0) hG dc5_bringImage_7 (by decide) ?_
    exact s_zret hG dc5_bringImage_8 rfl (Nat.le_of_ble_eq_true rfl) (Nat.le_of_ble_eq_true rfl)
def fc11_back (N : Nat) (a0 : Nat) (σ : Me) : Option (Int32 × Me) :=
  (qR σ 11 14 (some a0)).bind fun v1 =>
  (qR σ 11 10 (some a0)).bind fun v5 =>
  (qR σ 11 13 (some a0)).bind fun v9 =>
  (dr σ v1 (.inl 5)).bind fun a =>
  (fc5_bringImage N a v5 v9 σ).bind fun p12 =>
  if p12.1 = 0 then
    some ((-1 : Int32), p12.2)
  else
    (qR p12.2 11 10 (some a0)).bind fun v19 =>
    (qI p12.2 2 9 v19).bind fun v22 =>
    some (v22, p12.2)
set_option maxRecDepth 20000 in
set_option maxHeartbeats 2000000 in
theorem corc11_back {Ω : Om} (N : Nat) (a0 : Nat) (σ : Me) : Cor Ω tc11_back 3 0 0 [vR (some a0)] σ ιI (fc11_back N a0 σ) := by
  refine Cor.of (by decide +kernel) (Nat.le_of_ble_eq_true rfl) (fun Γ hG => ?_)
  unfold fc11_back
  show Sim Ω Γ 0 0 ιI 1 0 [(0, vR (some a0))] [] σ 0 0 _
  refine s_aload_n hG dc11_back_0 rfl ?_
  refine s_getR hG kFc11_82 rfl dc11_back_1 (fun v1 => ?_)
  refine s_aload_n hG dc11_back_4 rfl ?_
  refine s_getR hG kFc11_58 rfl dc11_back_5 (fun v5 => ?_)
  refine s_aload_n hG dc11_back_8 rfl ?_
  refine s_getR hG kFc11_75 rfl dc11_back_9 (fun v9 => ?_)
  refine s_callVi hG kMc11_311 (fun a => corc5_bringImage N a _ _ _) ⟨by decide, rfl⟩ rfl (by first | decide | omega) dc11_back_12 rfl rfl (Nat.le_of_ble_eq_true rfl) ⟨Nat.le_of_ble_eq_true rfl, Nat.le_of_ble_eq_true rfl⟩ (fun p12 => ?_)
  refine s_if_eq hG 28 dc11_back_15 (by decide) ?_ ?_
  · refine s_iconst (v := -1) hG dc11_back_28 (by decide) ?_
    exact s_iret hG dc11_back_29 rfl (Nat.le_of_ble_eq_true rfl) (Nat.le_of_ble_eq_true rfl)
  · refine s_aload_n hG dc11_back_18 rfl ?_
    refine s_getR hG kFc11_58 rfl dc11_back_19 (fun v19 => ?_)
    refine s_getI hG kFc11_201 rfl dc11_back_22 (fun v22 => ?_)
    refine s_goto hG 29 dc11_back_25 (by decide) ?_
    exact s_iret hG dc11_back_29 rfl (Nat.le_of_ble_eq_true rfl) (Nat.le_of_ble_eq_true rfl)
def fc11_isStep (N : Nat) (x0 : Option Nat) (x1 : Option Nat) (x2 : Int32) (σ : Me) : Option (Int32 × Me) :=
  (qR σ 7 0 x1).bind fun v1 =>
  (ldI σ v1 x2).bind fun v5 =>
  if v5 = (0 : Int32) then
    (qI σ 2 9 x0).bind fun v33 =>
    if (999 : Int32) ≤ v33 then
      retZ (0 : Int32) σ
    else
      retZ (1 : Int32) σ
  else
  if v5 = (1 : Int32) then
    (qR σ 7 1 x1).bind fun v50 =>
    (ldI σ v50 x2).bind fun v54 =>
    (qR σ 7 2 x1).bind fun v56 =>
    (ldI σ v56 x2).bind fun v60 =>
    (dr σ x0 (.inl 2)).bind fun a =>
    (fc2_isMist N a v54 v60 σ).bind fun p61 =>
    retZ p61.1 p61.2
  else
  if v5 = (2 : Int32) then
    (qR σ 7 1 x1).bind fun v67 =>
    (ldI σ v67 x2).bind fun v71 =>
    (dr σ x0 (.inl 2)).bind fun a =>
    (fc2_isHedge N a v71 σ).bind fun p72 =>
    retZ p72.1 p72.2
  else
  (qR σ 7 1 x1).bind fun v78 =>
  (ldI σ v78 x2).bind fun v82 =>
  (dr σ x0 (.inl 2)).bind fun a =>
  (fc2_isCan N a v82 σ).bind fun p83 =>
  retZ p83.1 p83.2
set_option maxRecDepth 20000 in
set_option maxHeartbeats 2000000 in
theorem corc11_isStep {Ω : Om} (N : Nat) (x0 : Option Nat) (x1 : Option Nat) (x2 : Int32) (σ : Me) : Cor Ω tc11_isStep 3 0 0 [vR x0, vR x1, vI x2] σ ιI (fc11_isStep N x0 x1 x2 σ) := by
  refine Cor.of (by decide +kernel) (Nat.le_of_ble_eq_true rfl) (fun Γ hG => ?_)
  unfold fc11_isStep
  show Sim Ω Γ 0 0 ιI 3 0 [(0, vR x0), (1, vR x1), (2, vI x2)] [] σ 0 0 _
  refine s_aload_n hG dc11_isStep_0 rfl ?_
  refine s_getR hG kFc11_226 rfl dc11_isStep_1 (fun v1 => ?_)
  refine s_iload_n hG dc11_isStep_4 rfl ?_
  refine s_iald hG dc11_isStep_5 (fun v5 => ?_)
  refine s_split _ (fun e0 => ?_) (fun e0 => ?_)
  · refine s_tabIn hG 32 dc11_isStep_6 (by rw [e0]; decide) (by rw [e0]; decide) (by rw [e0]; rfl) (by decide) ?_
    refine s_aload_n hG dc11_isStep_32 rfl ?_
    refine s_getI hG kFc11_201 rfl dc11_isStep_33 (fun v33 => ?_)
    refine s_sipush (v := 999) hG dc11_isStep_36 (by decide) ?_
    refine s_icmp_ge hG 46 dc11_isStep_39 (by decide) ?_ ?_
    · refine s_iconst (v := 0) hG dc11_isStep_46 (by decide) ?_
      exact s_zret hG dc11_isStep_47 rfl (Nat.le_of_ble_eq_true rfl) (Nat.le_of_ble_eq_true rfl)
    · refine s_iconst (v := 1) hG dc11_isStep_42 (by decide) ?_
      refine s_goto hG 47 dc11_isStep_43 (by decide) ?_
      exact s_zret hG dc11_isStep_47 rfl (Nat.le_of_ble_eq_true rfl) (Nat.le_of_ble_eq_true rfl)
  · refine s_split _ (fun e1 => ?_) (fun e1 => ?_)
    · refine s_tabIn hG 48 dc11_isStep_6 (by rw [e1]; decide) (by rw [e1]; decide) (by rw [e1]; rfl) (by decide) ?_
      refine s_aload_n hG dc11_isStep_48 rfl ?_
      refine s_aload_n hG dc11_isStep_49 rfl ?_
      refine s_getR hG kFc11_229 rfl dc11_isStep_50 (fun v50 => ?_)
      refine s_iload_n hG dc11_isStep_53 rfl ?_
      refine s_iald hG dc11_isStep_54 (fun v54 => ?_)
      refine s_aload_n hG dc11_isStep_55 rfl ?_
      refine s_getR hG kFc11_232 rfl dc11_isStep_56 (fun v56 => ?_)
      refine s_iload_n hG dc11_isStep_59 rfl ?_
      refine s_iald hG dc11_isStep_60 (fun v60 => ?_)
      refine s_callVi hG kMc11_272 (fun a => corc2_isMist N a _ _ _) ⟨by decide, rfl⟩ rfl (by first | decide | omega) dc11_isStep_61 rfl rfl (Nat.le_of_ble_eq_true rfl) ⟨Nat.le_of_ble_eq_true rfl, Nat.le_of_ble_eq_true rfl⟩ (fun p61 => ?_)
      exact s_zret hG dc11_isStep_64 rfl (Nat.le_of_ble_eq_true rfl) (Nat.le_of_ble_eq_true rfl)
    · refine s_split _ (fun e2 => ?_) (fun e2 => ?_)
      · refine s_tabIn hG 65 dc11_isStep_6 (by rw [e2]; decide) (by rw [e2]; decide) (by rw [e2]; rfl) (by decide) ?_
        refine s_aload_n hG dc11_isStep_65 rfl ?_
        refine s_aload_n hG dc11_isStep_66 rfl ?_
        refine s_getR hG kFc11_229 rfl dc11_isStep_67 (fun v67 => ?_)
        refine s_iload_n hG dc11_isStep_70 rfl ?_
        refine s_iald hG dc11_isStep_71 (fun v71 => ?_)
        refine s_callVi hG kMc11_279 (fun a => corc2_isHedge N a _ _) ⟨by decide, rfl⟩ rfl (by first | decide | omega) dc11_isStep_72 rfl rfl (Nat.le_of_ble_eq_true rfl) ⟨Nat.le_of_ble_eq_true rfl, Nat.le_of_ble_eq_true rfl⟩ (fun p72 => ?_)
        exact s_zret hG dc11_isStep_75 rfl (Nat.le_of_ble_eq_true rfl) (Nat.le_of_ble_eq_true rfl)
      · refine s_tabOut hG 76 dc11_isStep_6 (tab_out (lo := 0) (n := 2) (by decide) (by decide) (show ∀ q ∈ [(0 : Int32), (1 : Int32), (2 : Int32)], ¬ _ = q from (List.forall_mem_cons.mpr ⟨e0, (List.forall_mem_cons.mpr ⟨e1, (List.forall_mem_cons.mpr ⟨e2, (fun q h => absurd h List.not_mem_nil)⟩)⟩)⟩))) (by decide) ?_
        refine s_aload_n hG dc11_isStep_76 rfl ?_
        refine s_aload_n hG dc11_isStep_77 rfl ?_
        refine s_getR hG kFc11_229 rfl dc11_isStep_78 (fun v78 => ?_)
        refine s_iload_n hG dc11_isStep_81 rfl ?_
        refine s_iald hG dc11_isStep_82 (fun v82 => ?_)
        refine s_callVi hG kMc11_285 (fun a => corc2_isCan N a _ _) ⟨by decide, rfl⟩ rfl (by first | decide | omega) dc11_isStep_83 rfl rfl (Nat.le_of_ble_eq_true rfl) ⟨Nat.le_of_ble_eq_true rfl, Nat.le_of_ble_eq_true rfl⟩ (fun p83 => ?_)
        exact s_zret hG dc11_isStep_86 rfl (Nat.le_of_ble_eq_true rfl) (Nat.le_of_ble_eq_true rfl)
def fc11_take (N : Nat) (x0 : Option Nat) (x1 : Option Nat) (x2 : Int32) (σ : Me) : Option (Unit × Me) :=
  (qR σ 7 0 x1).bind fun v1 =>
  (ldI σ v1 x2).bind fun v5 =>
  if v5 = (1 : Int32) then
    (qR σ 7 1 x1).bind fun v34 =>
    (ldI σ v34 x2).bind fun v38 =>
    (qR σ 7 2 x1).bind fun v40 =>
    (ldI σ v40 x2).bind fun v44 =>
    (dr σ x0 (.inl 2)).bind fun a =>
    (fc2_turnToMist N a v38 v44 σ).bind fun p45 =>
    some ((), p45.2)
  else
  if v5 = (2 : Int32) then
    (qR σ 7 1 x1).bind fun v53 =>
    (ldI σ v53 x2).bind fun v57 =>
    (dr σ x0 (.inl 2)).bind fun a =>
    (fc2_moveHedge N a v57 σ).bind fun p58 =>
    some ((), p58.2)
  else
  (qR σ 7 1 x1).bind fun v66 =>
  (ldI σ v66 x2).bind fun v70 =>
  (dr σ x0 (.inl 2)).bind fun a =>
  (fc2_fillCan N a v70 σ).bind fun p71 =>
  some ((), p71.2)
set_option maxRecDepth 20000 in
set_option maxHeartbeats 2000000 in
theorem corc11_take {Ω : Om} (N : Nat) (x0 : Option Nat) (x1 : Option Nat) (x2 : Int32) (σ : Me) : Cor Ω tc11_take 3 0 0 [vR x0, vR x1, vI x2] σ ιV (fc11_take N x0 x1 x2 σ) := by
  refine Cor.of (by decide +kernel) (Nat.le_of_ble_eq_true rfl) (fun Γ hG => ?_)
  unfold fc11_take
  show Sim Ω Γ 0 0 ιV 3 0 [(0, vR x0), (1, vR x1), (2, vI x2)] [] σ 0 0 _
  refine s_aload_n hG dc11_take_0 rfl ?_
  refine s_getR hG kFc11_226 rfl dc11_take_1 (fun v1 => ?_)
  refine s_iload_n hG dc11_take_4 rfl ?_
  refine s_iald hG dc11_take_5 (fun v5 => ?_)
  refine s_split _ (fun e0 => ?_) (fun e0 => ?_)
  · refine s_lookup (off := 26) hG 32 dc11_take_6 (by decide) (by rw [e0]; decide) (by decide) ?_
    refine s_aload_n hG dc11_take_32 rfl ?_
    refine s_aload_n hG dc11_take_33 rfl ?_
    refine s_getR hG kFc11_229 rfl dc11_take_34 (fun v34 => ?_)
    refine s_iload_n hG dc11_take_37 rfl ?_
    refine s_iald hG dc11_take_38 (fun v38 => ?_)
    refine s_aload_n hG dc11_take_39 rfl ?_
    refine s_getR hG kFc11_232 rfl dc11_take_40 (fun v40 => ?_)
    refine s_iload_n hG dc11_take_43 rfl ?_
    refine s_iald hG dc11_take_44 (fun v44 => ?_)
    refine s_callVv hG kMc11_275 (fun a => corc2_turnToMist N a _ _ _) ⟨by decide, rfl⟩ rfl (by first | decide | omega) dc11_take_45 rfl rfl (Nat.le_of_ble_eq_true rfl) ⟨Nat.le_of_ble_eq_true rfl, Nat.le_of_ble_eq_true rfl⟩ (fun p45 => ?_)
    refine s_goto hG 74 dc11_take_48 (by decide) ?_
    exact s_vret hG dc11_take_74 rfl (Nat.le_of_ble_eq_true rfl) (Nat.le_of_ble_eq_true rfl)
  · refine s_split _ (fun e1 => ?_) (fun e1 => ?_)
    · refine s_lookup (off := 45) hG 51 dc11_take_6 (by decide) (by rw [e1]; decide) (by decide) ?_
      refine s_aload_n hG dc11_take_51 rfl ?_
      refine s_aload_n hG dc11_take_52 rfl ?_
      refine s_getR hG kFc11_229 rfl dc11_take_53 (fun v53 => ?_)
      refine s_iload_n hG dc11_take_56 rfl ?_
      refine s_iald hG dc11_take_57 (fun v57 => ?_)
      refine s_callVv hG kMc11_282 (fun a => corc2_moveHedge N a _ _) ⟨by decide, rfl⟩ rfl (by first | decide | omega) dc11_take_58 rfl rfl (Nat.le_of_ble_eq_true rfl) ⟨Nat.le_of_ble_eq_true rfl, Nat.le_of_ble_eq_true rfl⟩ (fun p58 => ?_)
      refine s_goto hG 74 dc11_take_61 (by decide) ?_
      exact s_vret hG dc11_take_74 rfl (Nat.le_of_ble_eq_true rfl) (Nat.le_of_ble_eq_true rfl)
    · refine s_lookup (off := 58) hG 64 dc11_take_6 (by decide) (by rw [lv_osw (k := 1) e0 (by decide)]; rw [lv_osw (k := 2) e1 (by decide)]; rfl) (by decide) ?_
      refine s_aload_n hG dc11_take_64 rfl ?_
      refine s_aload_n hG dc11_take_65 rfl ?_
      refine s_getR hG kFc11_229 rfl dc11_take_66 (fun v66 => ?_)
      refine s_iload_n hG dc11_take_69 rfl ?_
      refine s_iald hG dc11_take_70 (fun v70 => ?_)
      refine s_callVv hG kMc11_288 (fun a => corc2_fillCan N a _ _) ⟨by decide, rfl⟩ rfl (by first | decide | omega) dc11_take_71 rfl rfl (Nat.le_of_ble_eq_true rfl) ⟨Nat.le_of_ble_eq_true rfl, Nat.le_of_ble_eq_true rfl⟩ (fun p71 => ?_)
      exact s_vret hG dc11_take_74 rfl (Nat.le_of_ble_eq_true rfl) (Nat.le_of_ble_eq_true rfl)
def fc11_run_147 (N : Nat) (K49 : Option Nat → Int32 → Option Nat → Int32 → Int32 → Me → Option (Int32 × Me)) (l0 : Option Nat) (l2 : Int32) (l3 : Option Nat) (l4 : Int32) (l5 : Int32) (σ : Me) : Option (Int32 × Me) :=
  K49 l0 l2 l3 l4 (l5 + (1 : Int32)) σ
def fc11_run_49 (N : Nat) : Nat → Option Nat → Int32 → Option Nat → Int32 → Int32 → Me → Option (Int32 × Me)
  | 0, _, _, _, _, _, _ => none
  | n + 1, l0, l2, l3, l4, l5, σ =>
    (qI σ 7 3 l3).bind fun v52 =>
    if v52 ≤ l5 then
      if l2 = 0 then
        some ((-1 : Int32), σ)
      else
        some (l4, σ)
    else
      (qR σ 11 11 l0).bind fun v59 =>
      (fc11_isStep N v59 l3 l5 σ).bind fun p65 =>
      if p65.1 = 0 then
        if l2 = 0 then
          some (l5, p65.2)
        else
          some (l4, p65.2)
      else
        (qR p65.2 7 0 l3).bind fun v84 =>
        (ldI p65.2 v84 l5).bind fun v89 =>
        if v89 = 0 then
          (qR p65.2 11 12 l0).bind fun v94 =>
          (qR p65.2 11 11 l0).bind fun v98 =>
          (qR p65.2 7 1 l3).bind fun v102 =>
          (ldI p65.2 v102 l5).bind fun v107 =>
          (dr p65.2 v94 (.inl 9)).bind fun a =>
          (fc9_look N a v98 v107 p65.2).bind fun p108 =>
          (qR p108.2 11 12 l0).bind fun v112 =>
          (qR p108.2 11 11 l0).bind fun v116 =>
          (dr p108.2 v112 (.inl 9)).bind fun a =>
          (fc9_settle N a v116 p108.2).bind fun p119 =>
          (qR p119.2 11 12 l0).bind fun v125 =>
          (qI p119.2 9 9 v125).bind fun v128 =>
          fc11_run_147 N (fc11_run_49 N n) l0 l2 l3 (l4 + v128) l5 p119.2
        else
          (qR p65.2 11 11 l0).bind fun v138 =>
          (fc11_take N v138 l3 l5 p65.2).bind fun p144 =>
          fc11_run_147 N (fc11_run_49 N n) l0 l2 l3 l4 l5 p144.2
def fc11_run (N : Nat) (a0 : Nat) (x1 : Int32) (x2 : Int32) (σ : Me) : Option (Int32 × Me) :=
  (dr σ (some a0) (.inl 11)).bind fun a =>
  (fc11_planAt N a x1 σ).bind fun p2 =>
  if p2.1 = none then
    some ((-1000000 : Int32), p2.2)
  else
    (qR p2.2 11 10 (some a0)).bind fun v11 =>
    (qI p2.2 2 5 v11).bind fun v14 =>
    if v14 = 0 then
      some ((-1000000 : Int32), p2.2)
    else
      if x2 < 0 then
        some ((-1000000 : Int32), p2.2)
      else
        if x2 ≤ (1 : Int32) then
          (qR p2.2 11 11 (some a0)).bind fun v33 =>
          (qR p2.2 11 10 (some a0)).bind fun v37 =>
          (dr p2.2 v33 (.inl 2)).bind fun a =>
          (fc2_copyFrom N a v37 p2.2).bind fun p40 =>
          fc11_run_49 N N (some a0) x2 p2.1 (0 : Int32) (0 : Int32) p40.2
        else
          some ((-1000000 : Int32), p2.2)
set_option maxRecDepth 20000 in
set_option maxHeartbeats 2000000 in
theorem pc11_run_147 {Ω : Om} {Γ : Ga} {N : Nat} (hG : Good Ω Γ tc11_run 6 0 0) {K49 : Option Nat → Int32 → Option Nat → Int32 → Int32 → Me → Option (Int32 × Me)} (hK49 : ∀ (l0 : Option Nat) (l2 : Int32) (l3 : Option Nat) (l4 : Int32) (l5 : Int32) (σ : Me), Sim Ω Γ 0 0 ιI 6 49 [(0, vR l0), (2, vI l2), (3, vR l3), (4, vI l4), (5, vI l5)] [] σ 0 0 (K49 l0 l2 l3 l4 l5 σ)) (l0 : Option Nat) (l2 : Int32) (l3 : Option Nat) (l4 : Int32) (l5 : Int32) (σ : Me) : Sim Ω Γ 0 0 ιI 6 147 [(0, vR l0), (2, vI l2), (3, vR l3), (4, vI l4), (5, vI l5)] [] σ 0 0 (fc11_run_147 N K49 l0 l2 l3 l4 l5 σ) := by
  unfold fc11_run_147
  refine s_iinc (v := 1) hG dc11_run_147 rfl (by decide) (by decide) ?_
  refine s_goto hG 49 dc11_run_150 (by decide) ?_
  exact s_lv (lc rfl (lc rfl (lc rfl (lc rfl (lc rfl ln))))) (hK49 _ _ _ _ _ _)
set_option maxRecDepth 20000 in
set_option maxHeartbeats 2000000 in
theorem pc11_run_49 {Ω : Om} {Γ : Ga} {N : Nat} (hG : Good Ω Γ tc11_run 6 0 0)  : ∀ (n : Nat) (l0 : Option Nat) (l2 : Int32) (l3 : Option Nat) (l4 : Int32) (l5 : Int32) (σ : Me), Sim Ω Γ 0 0 ιI 6 49 [(0, vR l0), (2, vI l2), (3, vR l3), (4, vI l4), (5, vI l5)] [] σ 0 0 (fc11_run_49 N n l0 l2 l3 l4 l5 σ) := by
  intro n
  induction n with
  | zero => intros; exact s_none
  | succ n ih =>
    intro l0 l2 l3 l4 l5 σ
    unfold fc11_run_49
    refine s_iload hG dc11_run_49 rfl ?_
    refine s_aload_n hG dc11_run_51 rfl ?_
    refine s_getI hG kFc11_223 rfl dc11_run_52 (fun v52 => ?_)
    refine s_icmp_ge hG 153 dc11_run_55 (by decide) ?_ ?_
    · refine s_iload_n hG dc11_run_153 rfl ?_
      refine s_if_ne hG 161 dc11_run_154 (by decide) ?_ ?_
      · refine s_iload hG dc11_run_161 rfl ?_
        exact s_iret hG dc11_run_163 rfl (Nat.le_of_ble_eq_true rfl) (Nat.le_of_ble_eq_true rfl)
      · refine s_iconst (v := -1) hG dc11_run_157 (by decide) ?_
        refine s_goto hG 163 dc11_run_158 (by decide) ?_
        exact s_iret hG dc11_run_163 rfl (Nat.le_of_ble_eq_true rfl) (Nat.le_of_ble_eq_true rfl)
    · refine s_aload_n hG dc11_run_58 rfl ?_
      refine s_getR hG kFc11_62 rfl dc11_run_59 (fun v59 => ?_)
      refine s_aload_n hG dc11_run_62 rfl ?_
      refine s_iload hG dc11_run_63 rfl ?_
      refine s_callSi hG kMc11_332 (corc11_isStep N _ _ _ _) rfl (by first | decide | omega) dc11_run_65 rfl rfl (Nat.le_of_ble_eq_true rfl) ⟨Nat.le_of_ble_eq_true rfl, Nat.le_of_ble_eq_true rfl⟩ (fun p65 => ?_)
      refine s_if_ne hG 83 dc11_run_68 (by decide) ?_ ?_
      · refine s_aload_n hG dc11_run_83 rfl ?_
        refine s_getR hG kFc11_226 rfl dc11_run_84 (fun v84 => ?_)
        refine s_iload hG dc11_run_87 rfl ?_
        refine s_iald hG dc11_run_89 (fun v89 => ?_)
        refine s_if_ne hG 137 dc11_run_90 (by decide) ?_ ?_
        · refine s_aload_n hG dc11_run_137 rfl ?_
          refine s_getR hG kFc11_62 rfl dc11_run_138 (fun v138 => ?_)
          refine s_aload_n hG dc11_run_141 rfl ?_
          refine s_iload hG dc11_run_142 rfl ?_
          refine s_callSv hG kMc11_336 (corc11_take N _ _ _ _) rfl (by first | decide | omega) dc11_run_144 rfl rfl (Nat.le_of_ble_eq_true rfl) ⟨Nat.le_of_ble_eq_true rfl, Nat.le_of_ble_eq_true rfl⟩ (fun p144 => ?_)
          exact s_lv (lc rfl (lc rfl (lc rfl (lc rfl (lc rfl ln))))) (pc11_run_147 hG ih _ _ _ _ _ _)
        · refine s_aload_n hG dc11_run_93 rfl ?_
          refine s_getR hG kFc11_68 rfl dc11_run_94 (fun v94 => ?_)
          refine s_aload_n hG dc11_run_97 rfl ?_
          refine s_getR hG kFc11_62 rfl dc11_run_98 (fun v98 => ?_)
          refine s_aload_n hG dc11_run_101 rfl ?_
          refine s_getR hG kFc11_229 rfl dc11_run_102 (fun v102 => ?_)
          refine s_iload hG dc11_run_105 rfl ?_
          refine s_iald hG dc11_run_107 (fun v107 => ?_)
          refine s_callVv hG kMc11_315 (fun a => corc9_look N a _ _ _) ⟨by decide, rfl⟩ rfl (by first | decide | omega) dc11_run_108 rfl rfl (Nat.le_of_ble_eq_true rfl) ⟨Nat.le_of_ble_eq_true rfl, Nat.le_of_ble_eq_true rfl⟩ (fun p108 => ?_)
          refine s_aload_n hG dc11_run_111 rfl ?_
          refine s_getR hG kFc11_68 rfl dc11_run_112 (fun v112 => ?_)
          refine s_aload_n hG dc11_run_115 rfl ?_
          refine s_getR hG kFc11_62 rfl dc11_run_116 (fun v116 => ?_)
          refine s_callVv hG kMc11_329 (fun a => corc9_settle N a _ _) ⟨by decide, rfl⟩ rfl (by first | decide | omega) dc11_run_119 rfl rfl (Nat.le_of_ble_eq_true rfl) ⟨Nat.le_of_ble_eq_true rfl, Nat.le_of_ble_eq_true rfl⟩ (fun p119 => ?_)
          refine s_iload hG dc11_run_122 rfl ?_
          refine s_aload_n hG dc11_run_124 rfl ?_
          refine s_getR hG kFc11_68 rfl dc11_run_125 (fun v125 => ?_)
          refine s_getI hG kFc11_322 rfl dc11_run_128 (fun v128 => ?_)
          refine s_iadd hG dc11_run_131 ?_
          refine s_istore hG dc11_run_132 (by decide) ?_
          refine s_goto hG 147 dc11_run_134 (by decide) ?_
          exact s_lv (lc rfl (lc rfl (lc rfl (lc rfl (lc rfl ln))))) (pc11_run_147 hG ih _ _ _ _ _ _)
      · refine s_iload_n hG dc11_run_71 rfl ?_
        refine s_if_ne hG 80 dc11_run_72 (by decide) ?_ ?_
        · refine s_iload hG dc11_run_80 rfl ?_
          exact s_iret hG dc11_run_82 rfl (Nat.le_of_ble_eq_true rfl) (Nat.le_of_ble_eq_true rfl)
        · refine s_iload hG dc11_run_75 rfl ?_
          refine s_goto hG 82 dc11_run_77 (by decide) ?_
          exact s_iret hG dc11_run_82 rfl (Nat.le_of_ble_eq_true rfl) (Nat.le_of_ble_eq_true rfl)
set_option maxRecDepth 20000 in
set_option maxHeartbeats 2000000 in
theorem corc11_run {Ω : Om} (N : Nat) (a0 : Nat) (x1 : Int32) (x2 : Int32) (σ : Me) : Cor Ω tc11_run 6 0 0 [vR (some a0), vI x1, vI x2] σ ιI (fc11_run N a0 x1 x2 σ) := by
  refine Cor.of (by decide +kernel) (Nat.le_of_ble_eq_true rfl) (fun Γ hG => ?_)
  unfold fc11_run
  show Sim Ω Γ 0 0 ιI 6 0 [(0, vR (some a0)), (1, vI x1), (2, vI x2)] [] σ 0 0 _
  refine s_aload_n hG dc11_run_0 rfl ?_
  refine s_iload_n hG dc11_run_1 rfl ?_
  refine s_callVr hG kMc11_219 (fun a => corc11_planAt N a _ _) ⟨by decide, rfl⟩ rfl (by first | decide | omega) dc11_run_2 rfl rfl (Nat.le_of_ble_eq_true rfl) ⟨Nat.le_of_ble_eq_true rfl, Nat.le_of_ble_eq_true rfl⟩ (fun p2 => ?_)
  refine s_astore_n hG dc11_run_5 (by decide) ?_
  refine s_aload_n hG dc11_run_6 rfl ?_
  refine s_ifnull hG 29 dc11_run_7 (by decide) ?_ ?_
  · refine s_ldc hG dc11_run_29 kIc11_214 ?_
    exact s_iret hG dc11_run_31 rfl (Nat.le_of_ble_eq_true rfl) (Nat.le_of_ble_eq_true rfl)
  · refine s_aload_n hG dc11_run_10 rfl ?_
    refine s_getR hG kFc11_58 rfl dc11_run_11 (fun v11 => ?_)
    refine s_getI hG kFc11_154 rfl dc11_run_14 (fun v14 => ?_)
    refine s_if_eq hG 29 dc11_run_17 (by decide) ?_ ?_
    · refine s_ldc hG dc11_run_29 kIc11_214 ?_
      exact s_iret hG dc11_run_31 rfl (Nat.le_of_ble_eq_true rfl) (Nat.le_of_ble_eq_true rfl)
    · refine s_iload_n hG dc11_run_20 rfl ?_
      refine s_if_lt hG 29 dc11_run_21 (by decide) ?_ ?_
      · refine s_ldc hG dc11_run_29 kIc11_214 ?_
        exact s_iret hG dc11_run_31 rfl (Nat.le_of_ble_eq_true rfl) (Nat.le_of_ble_eq_true rfl)
      · refine s_iload_n hG dc11_run_24 rfl ?_
        refine s_iconst (v := 1) hG dc11_run_25 (by decide) ?_
        refine s_icmp_le hG 32 dc11_run_26 (by decide) ?_ ?_
        · refine s_aload_n hG dc11_run_32 rfl ?_
          refine s_getR hG kFc11_62 rfl dc11_run_33 (fun v33 => ?_)
          refine s_aload_n hG dc11_run_36 rfl ?_
          refine s_getR hG kFc11_58 rfl dc11_run_37 (fun v37 => ?_)
          refine s_callVv hG kMc11_140 (fun a => corc2_copyFrom N a _ _) ⟨by decide, rfl⟩ rfl (by first | decide | omega) dc11_run_40 rfl rfl (Nat.le_of_ble_eq_true rfl) ⟨Nat.le_of_ble_eq_true rfl, Nat.le_of_ble_eq_true rfl⟩ (fun p40 => ?_)
          refine s_iconst (v := 0) hG dc11_run_43 (by decide) ?_
          refine s_istore hG dc11_run_44 (by decide) ?_
          refine s_iconst (v := 0) hG dc11_run_46 (by decide) ?_
          refine s_istore hG dc11_run_47 (by decide) ?_
          exact s_lv (lc rfl (lc rfl (lc rfl (lc rfl (lc rfl ln))))) (pc11_run_49 hG _ _ _ _ _ _ _)
        · refine s_ldc hG dc11_run_29 kIc11_214 ?_
          exact s_iret hG dc11_run_31 rfl (Nat.le_of_ble_eq_true rfl) (Nat.le_of_ble_eq_true rfl)
