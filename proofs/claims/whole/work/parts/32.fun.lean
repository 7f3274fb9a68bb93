def fc12_can (N : Nat) (a0 : Nat) (x1 : Int32) (σ : Me) : Option (Int32 × Me) :=
  (pI σ 12 0 (some a0) (0 : Int32)).bind fun σ2 =>
  (qR σ2 12 28 (some a0)).bind fun v7 =>
  (dr σ2 (some a0) (.inl 12)).bind fun a =>
  (fc12_canFill N a v7 x1 σ2).bind fun p11 =>
  if p11.1 = 0 then
    some ((-1 : Int32), p11.2)
  else
    (dr p11.2 (some a0) (.inl 12)).bind fun a =>
    (fc12_remember N a p11.2).bind fun p20 =>
    (qR p20.2 12 28 (some a0)).bind fun v24 =>
    (fc12_fills N v24 x1 p20.2).bind fun p28 =>
    (qR p28.2 12 28 (some a0)).bind fun v32 =>
    (ldI p28.2 v32 (((4 : Int32) * x1) + (2 : Int32))).bind fun v40 =>
    some (v40, p28.2)
set_option maxRecDepth 20000 in
set_option maxHeartbeats 2000000 in
theorem corc12_can {Ω : Om} (N : Nat) (a0 : Nat) (x1 : Int32) (σ : Me) : Cor Ω tc12_can 3 0 0 [vR (some a0), vI x1] σ ιI (fc12_can N a0 x1 σ) := by
  refine Cor.of (by decide +kernel) (Nat.le_of_ble_eq_true rfl) (fun Γ hG => ?_)
  unfold fc12_can
  show Sim Ω Γ 0 0 ιI 2 0 [(0, vR (some a0)), (1, vI x1)] [] σ 0 0 _
  refine s_aload_n hG dc12_can_0 rfl ?_
  refine s_iconst (v := 0) hG dc12_can_1 (by decide) ?_
  refine s_putI (fin := false) hG kFc12_100 rfl (fun h => by cases h) rfl (fun _ => rfl) (fun _ => rfl) dc12_can_2 (fun σ2 => ?_)
  refine s_aload_n hG dc12_can_5 rfl ?_
  refine s_aload_n hG dc12_can_6 rfl ?_
  refine s_getR hG kFc12_55 rfl dc12_can_7 (fun v7 => ?_)
  refine s_iload_n hG dc12_can_10 rfl ?_
  refine s_callVi hG kMc12_394 (fun a => corc12_canFill N a _ _ _) ⟨by decide, rfl⟩ rfl (by first | decide | omega) dc12_can_11 rfl rfl (Nat.le_of_ble_eq_true rfl) ⟨Nat.le_of_ble_eq_true rfl, Nat.le_of_ble_eq_true rfl⟩ (fun p11 => ?_)
  refine s_if_ne hG 19 dc12_can_14 (by decide) ?_ ?_
  · refine s_aload_n hG dc12_can_19 rfl ?_
    refine s_callVv hG kMc12_366 (fun a => corc12_remember N a _) ⟨by decide, rfl⟩ rfl (by first | decide | omega) dc12_can_20 rfl rfl (Nat.le_of_ble_eq_true rfl) ⟨Nat.le_of_ble_eq_true rfl, Nat.le_of_ble_eq_true rfl⟩ (fun p20 => ?_)
    refine s_aload_n hG dc12_can_23 rfl ?_
    refine s_getR hG kFc12_55 rfl dc12_can_24 (fun v24 => ?_)
    refine s_iload_n hG dc12_can_27 rfl ?_
    refine s_callSv hG kMc12_397 (corc12_fills N _ _ _) rfl (by first | decide | omega) dc12_can_28 rfl rfl (Nat.le_of_ble_eq_true rfl) ⟨Nat.le_of_ble_eq_true rfl, Nat.le_of_ble_eq_true rfl⟩ (fun p28 => ?_)
    refine s_aload_n hG dc12_can_31 rfl ?_
    refine s_getR hG kFc12_55 rfl dc12_can_32 (fun v32 => ?_)
    refine s_iconst (v := 4) hG dc12_can_35 (by decide) ?_
    refine s_iload_n hG dc12_can_36 rfl ?_
    refine s_imul hG dc12_can_37 ?_
    refine s_iconst (v := 2) hG dc12_can_38 (by decide) ?_
    refine s_iadd hG dc12_can_39 ?_
    refine s_iald hG dc12_can_40 (fun v40 => ?_)
    exact s_iret hG dc12_can_41 rfl (Nat.le_of_ble_eq_true rfl) (Nat.le_of_ble_eq_true rfl)
  · refine s_iconst (v := -1) hG dc12_can_17 (by decide) ?_
    exact s_iret hG dc12_can_18 rfl (Nat.le_of_ble_eq_true rfl) (Nat.le_of_ble_eq_true rfl)
def fc12_price (N : Nat) (a0 : Nat) (x1 : Int32) (σ : Me) : Option (Int32 × Me) :=
  (pI σ 12 0 (some a0) (0 : Int32)).bind fun σ2 =>
  (qI σ2 12 24 (some a0)).bind fun v6 =>
  if v6 = 0 then
    some ((-1 : Int32), σ2)
  else
    (fc12_isIn N (Int32.toInt64 x1) (0 : Int64) (30 : Int64) σ2).bind fun p18 =>
    if p18.1 = 0 then
      some ((-1 : Int32), p18.2)
    else
      (qR p18.2 12 28 (some a0)).bind fun v25 =>
      (ldI p18.2 v25 (24 : Int32)).bind fun v30 =>
      if v30 = x1 then
        some ((-1 : Int32), p18.2)
      else
        (dr p18.2 (some a0) (.inl 12)).bind fun a =>
        (fc12_remember N a p18.2).bind fun p38 =>
        (qR p38.2 12 28 (some a0)).bind fun v42 =>
        (ldI p38.2 v42 (24 : Int32)).bind fun v47 =>
        (qR p38.2 12 28 (some a0)).bind fun v50 =>
        (stI p38.2 v50 (24 : Int32) x1).bind fun σ56 =>
        some (v47, σ56)
set_option maxRecDepth 20000 in
set_option maxHeartbeats 2000000 in
theorem corc12_price {Ω : Om} (N : Nat) (a0 : Nat) (x1 : Int32) (σ : Me) : Cor Ω tc12_price 2 0 0 [vR (some a0), vI x1] σ ιI (fc12_price N a0 x1 σ) := by
  refine Cor.of (by decide +kernel) (Nat.le_of_ble_eq_true rfl) (fun Γ hG => ?_)
  unfold fc12_price
  show Sim Ω Γ 0 0 ιI 3 0 [(0, vR (some a0)), (1, vI x1)] [] σ 0 0 _
  refine s_aload_n hG dc12_price_0 rfl ?_
  refine s_iconst (v := 0) hG dc12_price_1 (by decide) ?_
  refine s_putI (fin := false) hG kFc12_100 rfl (fun h => by cases h) rfl (fun _ => rfl) (fun _ => rfl) dc12_price_2 (fun σ2 => ?_)
  refine s_aload_n hG dc12_price_5 rfl ?_
  refine s_getI hG kFc12_290 rfl dc12_price_6 (fun v6 => ?_)
  refine s_if_eq hG 35 dc12_price_9 (by decide) ?_ ?_
  · refine s_iconst (v := -1) hG dc12_price_35 (by decide) ?_
    exact s_iret hG dc12_price_36 rfl (Nat.le_of_ble_eq_true rfl) (Nat.le_of_ble_eq_true rfl)
  · refine s_iload_n hG dc12_price_12 rfl ?_
    refine s_i2l hG dc12_price_13 ?_
    refine s_lconst (v := 0) hG dc12_price_14 (by decide) ?_
    refine s_ldc2 hG dc12_price_15 kJc12_400 ?_
    refine s_callSi hG kMc12_221 (corc12_isIn N _ _ _ _) rfl (by first | decide | omega) dc12_price_18 rfl rfl (Nat.le_of_ble_eq_true rfl) ⟨Nat.le_of_ble_eq_true rfl, Nat.le_of_ble_eq_true rfl⟩ (fun p18 => ?_)
    refine s_if_eq hG 35 dc12_price_21 (by decide) ?_ ?_
    · refine s_iconst (v := -1) hG dc12_price_35 (by decide) ?_
      exact s_iret hG dc12_price_36 rfl (Nat.le_of_ble_eq_true rfl) (Nat.le_of_ble_eq_true rfl)
    · refine s_aload_n hG dc12_price_24 rfl ?_
      refine s_getR hG kFc12_55 rfl dc12_price_25 (fun v25 => ?_)
      refine s_bipush (v := 24) hG dc12_price_28 (by decide) ?_
      refine s_iald hG dc12_price_30 (fun v30 => ?_)
      refine s_iload_n hG dc12_price_31 rfl ?_
      refine s_icmp_ne hG 37 dc12_price_32 (by decide) ?_ ?_
      · refine s_aload_n hG dc12_price_37 rfl ?_
        refine s_callVv hG kMc12_366 (fun a => corc12_remember N a _) ⟨by decide, rfl⟩ rfl (by first | decide | omega) dc12_price_38 rfl rfl (Nat.le_of_ble_eq_true rfl) ⟨Nat.le_of_ble_eq_true rfl, Nat.le_of_ble_eq_true rfl⟩ (fun p38 => ?_)
        refine s_aload_n hG dc12_price_41 rfl ?_
        refine s_getR hG kFc12_55 rfl dc12_price_42 (fun v42 => ?_)
        refine s_bipush (v := 24) hG dc12_price_45 (by decide) ?_
        refine s_iald hG dc12_price_47 (fun v47 => ?_)
        refine s_istore_n hG dc12_price_48 (by decide) ?_
        refine s_aload_n hG dc12_price_49 rfl ?_
        refine s_getR hG kFc12_55 rfl dc12_price_50 (fun v50 => ?_)
        refine s_bipush (v := 24) hG dc12_price_53 (by decide) ?_
        refine s_iload_n hG dc12_price_55 rfl ?_
        refine s_iast hG dc12_price_56 (fun σ56 => ?_)
        refine s_iload_n hG dc12_price_57 rfl ?_
        exact s_iret hG dc12_price_58 rfl (Nat.le_of_ble_eq_true rfl) (Nat.le_of_ble_eq_true rfl)
      · refine s_iconst (v := -1) hG dc12_price_35 (by decide) ?_
        exact s_iret hG dc12_price_36 rfl (Nat.le_of_ble_eq_true rfl) (Nat.le_of_ble_eq_true rfl)
def fc12_draw (N : Nat) (a0 : Nat) (x1 : Int32) (σ : Me) : Option (Int32 × Me) :=
  (qL σ 12 40 (some a0)).bind fun v2 =>
  (pL σ 12 40 (some a0) ((v2 * (6364136223846793005 : Int64)) + (1442695040888963407 : Int64))).bind fun σ13 =>
  (qL σ13 12 40 (some a0)).bind fun v17 =>
  (rmL (((v17).toUInt64 >>> (((33 : Int32)).toInt64.toUInt64 &&& Int64.toUInt64 63)).toInt64) (Int32.toInt64 x1)).bind fun v25 =>
  some ((Int64.toInt32 v25), σ13)
set_option maxRecDepth 20000 in
set_option maxHeartbeats 2000000 in
theorem corc12_draw {Ω : Om} (N : Nat) (a0 : Nat) (x1 : Int32) (σ : Me) : Cor Ω tc12_draw 1 0 0 [vR (some a0), vI x1] σ ιI (fc12_draw N a0 x1 σ) := by
  refine Cor.of (by decide +kernel) (Nat.le_of_ble_eq_true rfl) (fun Γ hG => ?_)
  unfold fc12_draw
  show Sim Ω Γ 0 0 ιI 2 0 [(0, vR (some a0)), (1, vI x1)] [] σ 0 0 _
  refine s_aload_n hG dc12_draw_0 rfl ?_
  refine s_aload_n hG dc12_draw_1 rfl ?_
  refine s_getL hG kFc12_402 rfl dc12_draw_2 (fun v2 => ?_)
  refine s_ldc2 hG dc12_draw_5 kJc12_406 ?_
  refine s_lmul hG dc12_draw_8 ?_
  refine s_ldc2 hG dc12_draw_9 kJc12_408 ?_
  refine s_ladd hG dc12_draw_12 ?_
  refine s_putL (fin := false) hG kFc12_402 rfl (fun h => by cases h) rfl (fun _ => rfl) (fun _ => rfl) dc12_draw_13 (fun σ13 => ?_)
  refine s_aload_n hG dc12_draw_16 rfl ?_
  refine s_getL hG kFc12_402 rfl dc12_draw_17 (fun v17 => ?_)
  refine s_bipush (v := 33) hG dc12_draw_20 (by decide) ?_
  refine s_lushr hG dc12_draw_22 ?_
  refine s_iload_n hG dc12_draw_23 rfl ?_
  refine s_i2l hG dc12_draw_24 ?_
  refine s_lrem hG dc12_draw_25 (fun v25 => ?_)
  refine s_l2i hG dc12_draw_26 ?_
  exact s_iret hG dc12_draw_27 rfl (Nat.le_of_ble_eq_true rfl) (Nat.le_of_ble_eq_true rfl)
def fc12_undo_26 (N : Nat) : Nat → Option Nat → Int32 → Me → Option (Int32 × Me)
  | 0, _, _, _ => none
  | n + 1, l0, l1, σ =>
    if (207 : Int32) ≤ l1 then
      (qI σ 12 39 l0).bind fun v61 =>
      some (v61, σ)
    else
      (qR σ 12 28 l0).bind fun v34 =>
      (qR σ 12 38 l0).bind fun v39 =>
      (qI σ 12 39 l0).bind fun v46 =>
      (ldI σ v39 (((207 : Int32) * v46) + l1)).bind fun v52 =>
      (stI σ v34 l1 v52).bind fun σ53 =>
      (fc12_undo_26 N n) l0 (l1 + (1 : Int32)) σ53
def fc12_undo (N : Nat) (a0 : Nat) (σ : Me) : Option (Int32 × Me) :=
  (pI σ 12 0 (some a0) (0 : Int32)).bind fun σ2 =>
  (qI σ2 12 39 (some a0)).bind fun v6 =>
  if v6 = 0 then
    some ((-1 : Int32), σ2)
  else
    (qI σ2 12 39 (some a0)).bind fun v16 =>
    (pI σ2 12 39 (some a0) (v16 - (1 : Int32))).bind fun σ21 =>
    fc12_undo_26 N N (some a0) (0 : Int32) σ21
set_option maxRecDepth 20000 in
set_option maxHeartbeats 2000000 in
theorem pc12_undo_26 {Ω : Om} {Γ : Ga} {N : Nat} (hG : Good Ω Γ tc12_undo 1 0 0) : ∀ (n : Nat) (l0 : Option Nat) (l1 : Int32) (σ : Me), Sim Ω Γ 0 0 ιI 2 26 [(0, vR l0), (1, vI l1)] [] σ 0 0 (fc12_undo_26 N n l0 l1 σ) := by
  intro n
  induction n with
  | zero => intros; exact s_none
  | succ n ih =>
    intro l0 l1 σ
    unfold fc12_undo_26
    refine s_iload_n hG dc12_undo_26 rfl ?_
    refine s_sipush (v := 207) hG dc12_undo_27 (by decide) ?_
    refine s_icmp_ge hG 60 dc12_undo_30 (by decide) ?_ ?_
    · refine s_aload_n hG dc12_undo_60 rfl ?_
      refine s_getI hG kFc12_296 rfl dc12_undo_61 (fun v61 => ?_)
      exact s_iret hG dc12_undo_64 rfl (Nat.le_of_ble_eq_true rfl) (Nat.le_of_ble_eq_true rfl)
    · refine s_aload_n hG dc12_undo_33 rfl ?_
      refine s_getR hG kFc12_55 rfl dc12_undo_34 (fun v34 => ?_)
      refine s_iload_n hG dc12_undo_37 rfl ?_
      refine s_aload_n hG dc12_undo_38 rfl ?_
      refine s_getR hG kFc12_78 rfl dc12_undo_39 (fun v39 => ?_)
      refine s_sipush (v := 207) hG dc12_undo_42 (by decide) ?_
      refine s_aload_n hG dc12_undo_45 rfl ?_
      refine s_getI hG kFc12_296 rfl dc12_undo_46 (fun v46 => ?_)
      refine s_imul hG dc12_undo_49 ?_
      refine s_iload_n hG dc12_undo_50 rfl ?_
      refine s_iadd hG dc12_undo_51 ?_
      refine s_iald hG dc12_undo_52 (fun v52 => ?_)
      refine s_iast hG dc12_undo_53 (fun σ53 => ?_)
      refine s_iinc (v := 1) hG dc12_undo_54 rfl (by decide) (by decide) ?_
      refine s_goto hG 26 dc12_undo_57 (by decide) ?_
      exact s_lv (lc rfl (lc rfl ln)) (ih _ _ _)
set_option maxRecDepth 20000 in
set_option maxHeartbeats 2000000 in
theorem corc12_undo {Ω : Om} (N : Nat) (a0 : Nat) (σ : Me) : Cor Ω tc12_undo 1 0 0 [vR (some a0)] σ ιI (fc12_undo N a0 σ) := by
  refine Cor.of (by decide +kernel) (Nat.le_of_ble_eq_true rfl) (fun Γ hG => ?_)
  unfold fc12_undo
  show Sim Ω Γ 0 0 ιI 2 0 [(0, vR (some a0))] [] σ 0 0 _
  refine s_aload_n hG dc12_undo_0 rfl ?_
  refine s_iconst (v := 0) hG dc12_undo_1 (by decide) ?_
  refine s_putI (fin := false) hG kFc12_100 rfl (fun h => by cases h) rfl (fun _ => rfl) (fun _ => rfl) dc12_undo_2 (fun σ2 => ?_)
  refine s_aload_n hG dc12_undo_5 rfl ?_
  refine s_getI hG kFc12_296 rfl dc12_undo_6 (fun v6 => ?_)
  refine s_if_ne hG 14 dc12_undo_9 (by decide) ?_ ?_
  · refine s_aload_n hG dc12_undo_14 rfl ?_
    refine s_dup hG dc12_undo_15 rfl ?_
    refine s_getI hG kFc12_296 rfl dc12_undo_16 (fun v16 => ?_)
    refine s_iconst (v := 1) hG dc12_undo_19 (by decide) ?_
    refine s_isub hG dc12_undo_20 ?_
    refine s_putI (fin := false) hG kFc12_296 rfl (fun h => by cases h) rfl (fun _ => rfl) (fun _ => rfl) dc12_undo_21 (fun σ21 => ?_)
    refine s_iconst (v := 0) hG dc12_undo_24 (by decide) ?_
    refine s_istore_n hG dc12_undo_25 (by decide) ?_
    exact s_lv (lc rfl (lc rfl ln)) (pc12_undo_26 hG _ _ _ _)
  · refine s_iconst (v := -1) hG dc12_undo_12 (by decide) ?_
    exact s_iret hG dc12_undo_13 rfl (Nat.le_of_ble_eq_true rfl) (Nat.le_of_ble_eq_true rfl)
def fc12_log (N : Nat) (a0 : Nat) (x1 : Int32) (x2 : Int32) (σ : Me) : Option (Int32 × Me) :=
  (pI σ 12 0 (some a0) (0 : Int32)).bind fun σ2 =>
  (qR σ2 12 28 (some a0)).bind fun v9 =>
  (ldI σ2 v9 (26 : Int32)).bind fun v14 =>
  (fc12_isIn N (Int32.toInt64 x1) (0 : Int64) (Int32.toInt64 (v14 - (1 : Int32))) σ2).bind fun p18 =>
  if p18.1 = 0 then
    some ((-1 : Int32), p18.2)
  else
    (fc12_isIn N (Int32.toInt64 x2) (0 : Int64) (2 : Int64) p18.2).bind fun p30 =>
    if p30.1 = 0 then
      some ((-1 : Int32), p30.2)
    else
      (qR p30.2 12 28 (some a0)).bind fun v37 =>
      (qR p30.2 12 28 (some a0)).bind fun v44 =>
      (ldI p30.2 v44 (26 : Int32)).bind fun v49 =>
      (ldI p30.2 v37 (((27 : Int32) + ((3 : Int32) * ((v49 - (1 : Int32)) - x1))) + x2)).bind fun v58 =>
      some (v58, p30.2)
set_option maxRecDepth 20000 in
set_option maxHeartbeats 2000000 in
theorem corc12_log {Ω : Om} (N : Nat) (a0 : Nat) (x1 : Int32) (x2 : Int32) (σ : Me) : Cor Ω tc12_log 2 0 0 [vR (some a0), vI x1, vI x2] σ ιI (fc12_log N a0 x1 x2 σ) := by
  refine Cor.of (by decide +kernel) (Nat.le_of_ble_eq_true rfl) (fun Γ hG => ?_)
  unfold fc12_log
  show Sim Ω Γ 0 0 ιI 3 0 [(0, vR (some a0)), (1, vI x1), (2, vI x2)] [] σ 0 0 _
  refine s_aload_n hG dc12_log_0 rfl ?_
  refine s_iconst (v := 0) hG dc12_log_1 (by decide) ?_
  refine s_putI (fin := false) hG kFc12_100 rfl (fun h => by cases h) rfl (fun _ => rfl) (fun _ => rfl) dc12_log_2 (fun σ2 => ?_)
  refine s_iload_n hG dc12_log_5 rfl ?_
  refine s_i2l hG dc12_log_6 ?_
  refine s_lconst (v := 0) hG dc12_log_7 (by decide) ?_
  refine s_aload_n hG dc12_log_8 rfl ?_
  refine s_getR hG kFc12_55 rfl dc12_log_9 (fun v9 => ?_)
  refine s_bipush (v := 26) hG dc12_log_12 (by decide) ?_
  refine s_iald hG dc12_log_14 (fun v14 => ?_)
  refine s_iconst (v := 1) hG dc12_log_15 (by decide) ?_
  refine s_isub hG dc12_log_16 ?_
  refine s_i2l hG dc12_log_17 ?_
  refine s_callSi hG kMc12_221 (corc12_isIn N _ _ _ _) rfl (by first | decide | omega) dc12_log_18 rfl rfl (Nat.le_of_ble_eq_true rfl) ⟨Nat.le_of_ble_eq_true rfl, Nat.le_of_ble_eq_true rfl⟩ (fun p18 => ?_)
  refine s_if_eq hG 62 dc12_log_21 (by decide) ?_ ?_
  · refine s_iconst (v := -1) hG dc12_log_62 (by decide) ?_
    exact s_iret hG dc12_log_63 rfl (Nat.le_of_ble_eq_true rfl) (Nat.le_of_ble_eq_true rfl)
  · refine s_iload_n hG dc12_log_24 rfl ?_
    refine s_i2l hG dc12_log_25 ?_
    refine s_lconst (v := 0) hG dc12_log_26 (by decide) ?_
    refine s_ldc2 hG dc12_log_27 kJc12_271 ?_
    refine s_callSi hG kMc12_221 (corc12_isIn N _ _ _ _) rfl (by first | decide | omega) dc12_log_30 rfl rfl (Nat.le_of_ble_eq_true rfl) ⟨Nat.le_of_ble_eq_true rfl, Nat.le_of_ble_eq_true rfl⟩ (fun p30 => ?_)
    refine s_if_eq hG 62 dc12_log_33 (by decide) ?_ ?_
    · refine s_iconst (v := -1) hG dc12_log_62 (by decide) ?_
      exact s_iret hG dc12_log_63 rfl (Nat.le_of_ble_eq_true rfl) (Nat.le_of_ble_eq_true rfl)
    · refine s_aload_n hG dc12_log_36 rfl ?_
      refine s_getR hG kFc12_55 rfl dc12_log_37 (fun v37 => ?_)
      refine s_bipush (v := 27) hG dc12_log_40 (by decide) ?_
      refine s_iconst (v := 3) hG dc12_log_42 (by decide) ?_
      refine s_aload_n hG dc12_log_43 rfl ?_
      refine s_getR hG kFc12_55 rfl dc12_log_44 (fun v44 => ?_)
      refine s_bipush (v := 26) hG dc12_log_47 (by decide) ?_
      refine s_iald hG dc12_log_49 (fun v49 => ?_)
      refine s_iconst (v := 1) hG dc12_log_50 (by decide) ?_
      refine s_isub hG dc12_log_51 ?_
      refine s_iload_n hG dc12_log_52 rfl ?_
      refine s_isub hG dc12_log_53 ?_
      refine s_imul hG dc12_log_54 ?_
      refine s_iadd hG dc12_log_55 ?_
      refine s_iload_n hG dc12_log_56 rfl ?_
      refine s_iadd hG dc12_log_57 ?_
      refine s_iald hG dc12_log_58 (fun v58 => ?_)
      refine s_goto hG 63 dc12_log_59 (by decide) ?_
      exact s_iret hG dc12_log_63 rfl (Nat.le_of_ble_eq_true rfl) (Nat.le_of_ble_eq_true rfl)
def fc12_isPlan (N : Nat) (a0 : Nat) (x1 : Int32) (σ : Me) : Option (Int32 × Me) :=
  if x1 < 0 then
    retZ (0 : Int32) σ
  else
    (qI σ 12 26 (some a0)).bind fun v6 =>
    if v6 ≤ x1 then
      retZ (0 : Int32) σ
    else
      retZ (1 : Int32) σ
set_option maxRecDepth 20000 in
set_option maxHeartbeats 2000000 in
theorem corc12_isPlan {Ω : Om} (N : Nat) (a0 : Nat) (x1 : Int32) (σ : Me) : Cor Ω tc12_isPlan 1 0 0 [vR (some a0), vI x1] σ ιI (fc12_isPlan N a0 x1 σ) := by
  refine Cor.of (by decide +kernel) (Nat.le_of_ble_eq_true rfl) (fun Γ hG => ?_)
  unfold fc12_isPlan
  show Sim Ω Γ 0 0 ιI 2 0 [(0, vR (some a0)), (1, vI x1)] [] σ 0 0 _
  refine s_iload_n hG dc12_isPlan_0 rfl ?_
  refine s_if_lt hG 16 dc12_isPlan_1 (by decide) ?_ ?_
  · refine s_iconst (v := 0) hG dc12_isPlan_16 (by decide) ?_
    exact s_zret hG dc12_isPlan_17 rfl (Nat.le_of_ble_eq_true rfl) (Nat.le_of_ble_eq_true rfl)
  · refine s_iload_n hG dc12_isPlan_4 rfl ?_
    refine s_aload_n hG dc12_isPlan_5 rfl ?_
    refine s_getI hG kFc12_285 rfl dc12_isPlan_6 (fun v6 => ?_)
    refine s_icmp_ge hG 16 dc12_isPlan_9 (by decide) ?_ ?_
    · refine s_iconst (v := 0) hG dc12_isPlan_16 (by decide) ?_
      exact s_zret hG dc12_isPlan_17 rfl (Nat.le_of_ble_eq_true rfl) (Nat.le_of_ble_eq_true rfl)
    · refine s_iconst (v := 1) hG dc12_isPlan_12 (by decide) ?_
      refine s_goto hG 17 dc12_isPlan_13 (by decide) ?_
      exact s_zret hG dc12_isPlan_17 rfl (Nat.le_of_ble_eq_true rfl) (Nat.le_of_ble_eq_true rfl)
def fc12_step_61 (N : Nat)  (σ : Me) : Option (Int32 × Me) :=
  some ((-1000000 : Int32), σ)
def fc12_step (N : Nat) (a0 : Nat) (x1 : Int32) (x2 : Int32) (x3 : Int32) (σ : Me) : Option (Int32 × Me) :=
  (pI σ 12 0 (some a0) (0 : Int32)).bind fun σ2 =>
  (dr σ2 (some a0) (.inl 12)).bind fun a =>
  (fc12_isPlan N a x1 σ2).bind fun p7 =>
  if p7.1 = 0 then
    fc12_step_61 N  p7.2
  else
    (qR p7.2 12 23 (some a0)).bind fun v17 =>
    (ldI p7.2 v17 x1).bind fun v21 =>
    (fc12_isIn N (Int32.toInt64 x2) (0 : Int64) (Int32.toInt64 (v21 - (1 : Int32))) p7.2).bind fun p25 =>
    if p25.1 = 0 then
      fc12_step_61 N  p25.2
    else
      (fc12_isIn N (Int32.toInt64 x3) (0 : Int64) (2 : Int64) p25.2).bind fun p37 =>
      if p37.1 = 0 then
        fc12_step_61 N  p37.2
      else
        (qR p37.2 12 22 (some a0)).bind fun v44 =>
        (ldI p37.2 v44 (((3 : Int32) * (((16 : Int32) * x1) + x2)) + x3)).bind fun v57 =>
        some (v57, p37.2)
set_option maxRecDepth 20000 in
set_option maxHeartbeats 2000000 in
theorem pc12_step_61 {Ω : Om} {Γ : Ga} {N : Nat} (hG : Good Ω Γ tc12_step 2 0 0)  (σ : Me) : Sim Ω Γ 0 0 ιI 4 61 [] [] σ 0 0 (fc12_step_61 N  σ) := by
  unfold fc12_step_61
  refine s_ldcw hG dc12_step_61 kIc12_418 ?_
  exact s_iret hG dc12_step_64 rfl (Nat.le_of_ble_eq_true rfl) (Nat.le_of_ble_eq_true rfl)
set_option maxRecDepth 20000 in
set_option maxHeartbeats 2000000 in
theorem corc12_step {Ω : Om} (N : Nat) (a0 : Nat) (x1 : Int32) (x2 : Int32) (x3 : Int32) (σ : Me) : Cor Ω tc12_step 2 0 0 [vR (some a0), vI x1, vI x2, vI x3] σ ιI (fc12_step N a0 x1 x2 x3 σ) := by
  refine Cor.of (by decide +kernel) (Nat.le_of_ble_eq_true rfl) (fun Γ hG => ?_)
  unfold fc12_step
  show Sim Ω Γ 0 0 ιI 4 0 [(0, vR (some a0)), (1, vI x1), (2, vI x2), (3, vI x3)] [] σ 0 0 _
  refine s_aload_n hG dc12_step_0 rfl ?_
  refine s_iconst (v := 0) hG dc12_step_1 (by decide) ?_
  refine s_putI (fin := false) hG kFc12_100 rfl (fun h => by cases h) rfl (fun _ => rfl) (fun _ => rfl) dc12_step_2 (fun σ2 => ?_)
  refine s_aload_n hG dc12_step_5 rfl ?_
  refine s_iload_n hG dc12_step_6 rfl ?_
  refine s_callVi hG kMc12_415 (fun a => corc12_isPlan N a _ _) ⟨by decide, rfl⟩ rfl (by first | decide | omega) dc12_step_7 rfl rfl (Nat.le_of_ble_eq_true rfl) ⟨Nat.le_of_ble_eq_true rfl, Nat.le_of_ble_eq_true rfl⟩ (fun p7 => ?_)
  refine s_if_eq hG 61 dc12_step_10 (by decide) ?_ ?_
  · exact s_lv ln (pc12_step_61 hG _)
  · refine s_iload_n hG dc12_step_13 rfl ?_
    refine s_i2l hG dc12_step_14 ?_
    refine s_lconst (v := 0) hG dc12_step_15 (by decide) ?_
    refine s_aload_n hG dc12_step_16 rfl ?_
    refine s_getR hG kFc12_52 rfl dc12_step_17 (fun v17 => ?_)
    refine s_iload_n hG dc12_step_20 rfl ?_
    refine s_iald hG dc12_step_21 (fun v21 => ?_)
    refine s_iconst (v := 1) hG dc12_step_22 (by decide) ?_
    refine s_isub hG dc12_step_23 ?_
    refine s_i2l hG dc12_step_24 ?_
    refine s_callSi hG kMc12_221 (corc12_isIn N _ _ _ _) rfl (by first | decide | omega) dc12_step_25 rfl rfl (Nat.le_of_ble_eq_true rfl) ⟨Nat.le_of_ble_eq_true rfl, Nat.le_of_ble_eq_true rfl⟩ (fun p25 => ?_)
    refine s_if_eq hG 61 dc12_step_28 (by decide) ?_ ?_
    · exact s_lv ln (pc12_step_61 hG _)
    · refine s_iload_n hG dc12_step_31 rfl ?_
      refine s_i2l hG dc12_step_32 ?_
      refine s_lconst (v := 0) hG dc12_step_33 (by decide) ?_
      refine s_ldc2 hG dc12_step_34 kJc12_271 ?_
      refine s_callSi hG kMc12_221 (corc12_isIn N _ _ _ _) rfl (by first | decide | omega) dc12_step_37 rfl rfl (Nat.le_of_ble_eq_true rfl) ⟨Nat.le_of_ble_eq_true rfl, Nat.le_of_ble_eq_true rfl⟩ (fun p37 => ?_)
      refine s_if_eq hG 61 dc12_step_40 (by decide) ?_ ?_
      · exact s_lv ln (pc12_step_61 hG _)
      · refine s_aload_n hG dc12_step_43 rfl ?_
        refine s_getR hG kFc12_49 rfl dc12_step_44 (fun v44 => ?_)
        refine s_iconst (v := 3) hG dc12_step_47 (by decide) ?_
        refine s_bipush (v := 16) hG dc12_step_48 (by decide) ?_
        refine s_iload_n hG dc12_step_50 rfl ?_
        refine s_imul hG dc12_step_51 ?_
        refine s_iload_n hG dc12_step_52 rfl ?_
        refine s_iadd hG dc12_step_53 ?_
        refine s_imul hG dc12_step_54 ?_
        refine s_iload_n hG dc12_step_55 rfl ?_
        refine s_iadd hG dc12_step_56 ?_
        refine s_iald hG dc12_step_57 (fun v57 => ?_)
        refine s_goto hG 64 dc12_step_58 (by decide) ?_
        exact s_iret hG dc12_step_64 rfl (Nat.le_of_ble_eq_true rfl) (Nat.le_of_ble_eq_true rfl)
def fc12_copy_2 (N : Nat) : Nat → Option Nat → Option Nat → Int32 → Me → Option (Unit × Me)
  | 0, _, _, _, _ => none
  | n + 1, l0, l1, l2, σ =>
    if (26 : Int32) ≤ l2 then
      (stI σ l1 (26 : Int32) (0 : Int32)).bind fun σ24 =>
      some ((), σ24)
    else
      (ldI σ l0 l2).bind fun v12 =>
      (stI σ l1 l2 v12).bind fun σ13 =>
      (fc12_copy_2 N n) l0 l1 (l2 + (1 : Int32)) σ13
def fc12_copy (N : Nat) (x0 : Option Nat) (x1 : Option Nat) (σ : Me) : Option (Unit × Me) :=
  fc12_copy_2 N N x0 x1 (0 : Int32) σ
set_option maxRecDepth 20000 in
set_option maxHeartbeats 2000000 in
theorem pc12_copy_2 {Ω : Om} {Γ : Ga} {N : Nat} (hG : Good Ω Γ tc12_copy 1 0 0) : ∀ (n : Nat) (l0 : Option Nat) (l1 : Option Nat) (l2 : Int32) (σ : Me), Sim Ω Γ 0 0 ιV 3 2 [(0, vR l0), (1, vR l1), (2, vI l2)] [] σ 0 0 (fc12_copy_2 N n l0 l1 l2 σ) := by
  intro n
  induction n with
  | zero => intros; exact s_none
  | succ n ih =>
    intro l0 l1 l2 σ
    unfold fc12_copy_2
    refine s_iload_n hG dc12_copy_2 rfl ?_
    refine s_bipush (v := 26) hG dc12_copy_3 (by decide) ?_
    refine s_icmp_ge hG 20 dc12_copy_5 (by decide) ?_ ?_
    · refine s_aload_n hG dc12_copy_20 rfl ?_
      refine s_bipush (v := 26) hG dc12_copy_21 (by decide) ?_
      refine s_iconst (v := 0) hG dc12_copy_23 (by decide) ?_
      refine s_iast hG dc12_copy_24 (fun σ24 => ?_)
      exact s_vret hG dc12_copy_25 rfl (Nat.le_of_ble_eq_true rfl) (Nat.le_of_ble_eq_true rfl)
    · refine s_aload_n hG dc12_copy_8 rfl ?_
      refine s_iload_n hG dc12_copy_9 rfl ?_
      refine s_aload_n hG dc12_copy_10 rfl ?_
      refine s_iload_n hG dc12_copy_11 rfl ?_
      refine s_iald hG dc12_copy_12 (fun v12 => ?_)
      refine s_iast hG dc12_copy_13 (fun σ13 => ?_)
      refine s_iinc (v := 1) hG dc12_copy_14 rfl (by decide) (by decide) ?_
      refine s_goto hG 2 dc12_copy_17 (by decide) ?_
      exact s_lv (lc rfl (lc rfl (lc rfl ln))) (ih _ _ _ _)
set_option maxRecDepth 20000 in
set_option maxHeartbeats 2000000 in
theorem corc12_copy {Ω : Om} (N : Nat) (x0 : Option Nat) (x1 : Option Nat) (σ : Me) : Cor Ω tc12_copy 1 0 0 [vR x0, vR x1] σ ιV (fc12_copy N x0 x1 σ) := by
  refine Cor.of (by decide +kernel) (Nat.le_of_ble_eq_true rfl) (fun Γ hG => ?_)
  unfold fc12_copy
  show Sim Ω Γ 0 0 ιV 3 0 [(0, vR x0), (1, vR x1)] [] σ 0 0 _
  refine s_iconst (v := 0) hG dc12_copy_0 (by decide) ?_
  refine s_istore_n hG dc12_copy_1 (by decide) ?_
  exact s_lv (lc rfl (lc rfl (lc rfl ln))) (pc12_copy_2 hG _ _ _ _ _)
def fc12_canStep (N : Nat) (a0 : Nat) (x1 : Option Nat) (x2 : Int32) (σ : Me) : Option (Int32 × Me) :=
  (qR σ 12 22 (some a0)).bind fun v1 =>
  (ldI σ v1 (x2 + (1 : Int32))).bind fun v7 =>
  (qR σ 12 22 (some a0)).bind fun v10 =>
  (ldI σ v10 x2).bind fun v14 =>
  if v14 = (0 : Int32) then
    (ldI σ x1 (25 : Int32)).bind fun v43 =>
    if (999 : Int32) ≤ v43 then
      retZ (0 : Int32) σ
    else
      retZ (1 : Int32) σ
  else
  if v14 = (1 : Int32) then
    (qR σ 12 22 (some a0)).bind fun v60 =>
    (ldI σ v60 (x2 + (2 : Int32))).bind fun v66 =>
    (dr σ (some a0) (.inl 12)).bind fun a =>
    (fc12_canForgive N a x1 v7 v66 σ).bind fun p67 =>
    retZ p67.1 p67.2
  else
  if v14 = (2 : Int32) then
    (dr σ (some a0) (.inl 12)).bind fun a =>
    (fc12_canHedge N a x1 v7 σ).bind fun p74 =>
    retZ p74.1 p74.2
  else
  (dr σ (some a0) (.inl 12)).bind fun a =>
  (fc12_canFill N a x1 v7 σ).bind fun p81 =>
  retZ p81.1 p81.2
set_option maxRecDepth 20000 in
set_option maxHeartbeats 2000000 in
theorem corc12_canStep {Ω : Om} (N : Nat) (a0 : Nat) (x1 : Option Nat) (x2 : Int32) (σ : Me) : Cor Ω tc12_canStep 3 0 0 [vR (some a0), vR x1, vI x2] σ ιI (fc12_canStep N a0 x1 x2 σ) := by
  refine Cor.of (by decide +kernel) (Nat.le_of_ble_eq_true rfl) (fun Γ hG => ?_)
  unfold fc12_canStep
  show Sim Ω Γ 0 0 ιI 4 0 [(0, vR (some a0)), (1, vR x1), (2, vI x2)] [] σ 0 0 _
  refine s_aload_n hG dc12_canStep_0 rfl ?_
  refine s_getR hG kFc12_49 rfl dc12_canStep_1 (fun v1 => ?_)
  refine s_iload_n hG dc12_canStep_4 rfl ?_
  refine s_iconst (v := 1) hG dc12_canStep_5 (by decide) ?_
  refine s_iadd hG dc12_canStep_6 ?_
  refine s_iald hG dc12_canStep_7 (fun v7 => ?_)
  refine s_istore_n hG dc12_canStep_8 (by decide) ?_
  refine s_aload_n hG dc12_canStep_9 rfl ?_
  refine s_getR hG kFc12_49 rfl dc12_canStep_10 (fun v10 => ?_)
  refine s_iload_n hG dc12_canStep_13 rfl ?_
  refine s_iald hG dc12_canStep_14 (fun v14 => ?_)
  refine s_split _ (fun e0 => ?_) (fun e0 => ?_)
  · refine s_tabIn hG 40 dc12_canStep_15 (by rw [e0]; decide) (by rw [e0]; decide) (by rw [e0]; rfl) (by decide) ?_
    refine s_aload_n hG dc12_canStep_40 rfl ?_
    refine s_bipush (v := 25) hG dc12_canStep_41 (by decide) ?_
    refine s_iald hG dc12_canStep_43 (fun v43 => ?_)
    refine s_sipush (v := 999) hG dc12_canStep_44 (by decide) ?_
    refine s_icmp_ge hG 54 dc12_canStep_47 (by decide) ?_ ?_
    · refine s_iconst (v := 0) hG dc12_canStep_54 (by decide) ?_
      exact s_zret hG dc12_canStep_55 rfl (Nat.le_of_ble_eq_true rfl) (Nat.le_of_ble_eq_true rfl)
    · refine s_iconst (v := 1) hG dc12_canStep_50 (by decide) ?_
      refine s_goto hG 55 dc12_canStep_51 (by decide) ?_
      exact s_zret hG dc12_canStep_55 rfl (Nat.le_of_ble_eq_true rfl) (Nat.le_of_ble_eq_true rfl)
  · refine s_split _ (fun e1 => ?_) (fun e1 => ?_)
    · refine s_tabIn hG 56 dc12_canStep_15 (by rw [e1]; decide) (by rw [e1]; decide) (by rw [e1]; rfl) (by decide) ?_
      refine s_aload_n hG dc12_canStep_56 rfl ?_
      refine s_aload_n hG dc12_canStep_57 rfl ?_
      refine s_iload_n hG dc12_canStep_58 rfl ?_
      refine s_aload_n hG dc12_canStep_59 rfl ?_
      refine s_getR hG kFc12_49 rfl dc12_canStep_60 (fun v60 => ?_)
      refine s_iload_n hG dc12_canStep_63 rfl ?_
      refine s_iconst (v := 2) hG dc12_canStep_64 (by decide) ?_
      refine s_iadd hG dc12_canStep_65 ?_
      refine s_iald hG dc12_canStep_66 (fun v66 => ?_)
      refine s_callVi hG kMc12_379 (fun a => corc12_canForgive N a _ _ _ _) ⟨by decide, rfl⟩ rfl (by first | decide | omega) dc12_canStep_67 rfl rfl (Nat.le_of_ble_eq_true rfl) ⟨Nat.le_of_ble_eq_true rfl, Nat.le_of_ble_eq_true rfl⟩ (fun p67 => ?_)
      exact s_zret hG dc12_canStep_70 rfl (Nat.le_of_ble_eq_true rfl) (Nat.le_of_ble_eq_true rfl)
    · refine s_split _ (fun e2 => ?_) (fun e2 => ?_)
      · refine s_tabIn hG 71 dc12_canStep_15 (by rw [e2]; decide) (by rw [e2]; decide) (by rw [e2]; rfl) (by decide) ?_
        refine s_aload_n hG dc12_canStep_71 rfl ?_
        refine s_aload_n hG dc12_canStep_72 rfl ?_
        refine s_iload_n hG dc12_canStep_73 rfl ?_
        refine s_callVi hG kMc12_387 (fun a => corc12_canHedge N a _ _ _) ⟨by decide, rfl⟩ rfl (by first | decide | omega) dc12_canStep_74 rfl rfl (Nat.le_of_ble_eq_true rfl) ⟨Nat.le_of_ble_eq_true rfl, Nat.le_of_ble_eq_true rfl⟩ (fun p74 => ?_)
        exact s_zret hG dc12_canStep_77 rfl (Nat.le_of_ble_eq_true rfl) (Nat.le_of_ble_eq_true rfl)
      · refine s_tabOut hG 78 dc12_canStep_15 (tab_out (lo := 0) (n := 2) (by decide) (by decide) (show ∀ q ∈ [(0 : Int32), (1 : Int32), (2 : Int32)], ¬ _ = q from (List.forall_mem_cons.mpr ⟨e0, (List.forall_mem_cons.mpr ⟨e1, (List.forall_mem_cons.mpr ⟨e2, (fun q h => absurd h List.not_mem_nil)⟩)⟩)⟩))) (by decide) ?_
        refine s_aload_n hG dc12_canStep_78 rfl ?_
        refine s_aload_n hG dc12_canStep_79 rfl ?_
        refine s_iload_n hG dc12_canStep_80 rfl ?_
        refine s_callVi hG kMc12_394 (fun a => corc12_canFill N a _ _ _) ⟨by decide, rfl⟩ rfl (by first | decide | omega) dc12_canStep_81 rfl rfl (Nat.le_of_ble_eq_true rfl) ⟨Nat.le_of_ble_eq_true rfl, Nat.le_of_ble_eq_true rfl⟩ (fun p81 => ?_)
        exact s_zret hG dc12_canStep_84 rfl (Nat.le_of_ble_eq_true rfl) (Nat.le_of_ble_eq_true rfl)
def fc12_fell_105 (N : Nat) (l0 : Option Nat) (s0 : Option Nat) (s1 : Int32) (s2 : Int32) (σ : Me) : Option (Int32 × Me) :=
  (stI σ s0 s1 s2).bind fun σ105 =>
  (qI σ105 12 45 l0).bind fun v108 =>
  (pI σ105 12 45 l0 (v108 + (1 : Int32))).bind fun σ113 =>
  (qI σ113 12 45 l0).bind fun v117 =>
  some (v117, σ113)
def fc12_fell (N : Nat) (a0 : Nat) (x1 : Int32) (x2 : Int32) (x3 : Int32) (x4 : Int32) (σ : Me) : Option (Int32 × Me) :=
  (pI σ 12 0 (some a0) (0 : Int32)).bind fun σ2 =>
  (dr σ2 (some a0) (.inl 12)).bind fun a =>
  (fc12_isField N a x1 σ2).bind fun p7 =>
  if p7.1 = 0 then
    some ((-1 : Int32), p7.2)
  else
    (fc12_isRain N x2 p7.2).bind fun p14 =>
    if p14.1 = 0 then
      some ((-1 : Int32), p14.2)
    else
      (fc12_isIn N (Int32.toInt64 x3) (0 : Int64) (99 : Int64) p14.2).bind fun p26 =>
      if p26.1 = 0 then
        some ((-1 : Int32), p26.2)
      else
        (qI p26.2 12 45 (some a0)).bind fun v33 =>
        if v33 = (10 : Int32) then
          some ((-1 : Int32), p26.2)
        else
          (qR p26.2 12 42 (some a0)).bind fun v44 =>
          (qI p26.2 12 45 (some a0)).bind fun v49 =>
          (stI p26.2 v44 ((4 : Int32) * v49) x1).bind fun σ54 =>
          (qR σ54 12 42 (some a0)).bind fun v56 =>
          (qI σ54 12 45 (some a0)).bind fun v61 =>
          (stI σ54 v56 (((4 : Int32) * v61) + (1 : Int32)) x2).bind fun σ68 =>
          (qR σ68 12 42 (some a0)).bind fun v70 =>
          (qI σ68 12 45 (some a0)).bind fun v75 =>
          (stI σ68 v70 (((4 : Int32) * v75) + (2 : Int32)) x3).bind fun σ82 =>
          (qR σ82 12 42 (some a0)).bind fun v84 =>
          (qI σ82 12 45 (some a0)).bind fun v89 =>
          if x4 = 0 then
            fc12_fell_105 N (some a0) v84 (((4 : Int32) * v89) + (3 : Int32)) (0 : Int32) σ82
          else
            fc12_fell_105 N (some a0) v84 (((4 : Int32) * v89) + (3 : Int32)) (1 : Int32) σ82
set_option maxRecDepth 20000 in
set_option maxHeartbeats 2000000 in
theorem pc12_fell_105 {Ω : Om} {Γ : Ga} {N : Nat} (hG : Good Ω Γ tc12_fell 3 0 0) (l0 : Option Nat) (s0 : Option Nat) (s1 : Int32) (s2 : Int32) (σ : Me) : Sim Ω Γ 0 0 ιI 5 105 [(0, vR l0)] [vI s2, vI s1, vR s0] σ 0 0 (fc12_fell_105 N l0 s0 s1 s2 σ) := by
  unfold fc12_fell_105
  refine s_iast hG dc12_fell_105 (fun σ105 => ?_)
  refine s_aload_n hG dc12_fell_106 rfl ?_
  refine s_dup hG dc12_fell_107 rfl ?_
  refine s_getI hG kFc12_293 rfl dc12_fell_108 (fun v108 => ?_)
  refine s_iconst (v := 1) hG dc12_fell_111 (by decide) ?_
  refine s_iadd hG dc12_fell_112 ?_
  refine s_putI (fin := false) hG kFc12_293 rfl (fun h => by cases h) rfl (fun _ => rfl) (fun _ => rfl) dc12_fell_113 (fun σ113 => ?_)
  refine s_aload_n hG dc12_fell_116 rfl ?_
  refine s_getI hG kFc12_293 rfl dc12_fell_117 (fun v117 => ?_)
  exact s_iret hG dc12_fell_120 rfl (Nat.le_of_ble_eq_true rfl) (Nat.le_of_ble_eq_true rfl)
set_option maxRecDepth 20000 in
set_option maxHeartbeats 2000000 in
theorem corc12_fell {Ω : Om} (N : Nat) (a0 : Nat) (x1 : Int32) (x2 : Int32) (x3 : Int32) (x4 : Int32) (σ : Me) : Cor Ω tc12_fell 3 0 0 [vR (some a0), vI x1, vI x2, vI x3, vI x4] σ ιI (fc12_fell N a0 x1 x2 x3 x4 σ) := by
  refine Cor.of (by decide +kernel) (Nat.le_of_ble_eq_true rfl) (fun Γ hG => ?_)
  unfold fc12_fell
  show Sim Ω Γ 0 0 ιI 5 0 [(0, vR (some a0)), (1, vI x1), (2, vI x2), (3, vI x3), (4, vI x4)] [] σ 0 0 _
  refine s_aload_n hG dc12_fell_0 rfl ?_
  refine s_iconst (v := 0) hG dc12_fell_1 (by decide) ?_
  refine s_putI (fin := false) hG kFc12_100 rfl (fun h => by cases h) rfl (fun _ => rfl) (fun _ => rfl) dc12_fell_2 (fun σ2 => ?_)
  refine s_aload_n hG dc12_fell_5 rfl ?_
  refine s_iload_n hG dc12_fell_6 rfl ?_
  refine s_callVi hG kMc12_353 (fun a => corc12_isField N a _ _) ⟨by decide, rfl⟩ rfl (by first | decide | omega) dc12_fell_7 rfl rfl (Nat.le_of_ble_eq_true rfl) ⟨Nat.le_of_ble_eq_true rfl, Nat.le_of_ble_eq_true rfl⟩ (fun p7 => ?_)
  refine s_if_eq hG 41 dc12_fell_10 (by decide) ?_ ?_
  · refine s_iconst (v := -1) hG dc12_fell_41 (by decide) ?_
    exact s_iret hG dc12_fell_42 rfl (Nat.le_of_ble_eq_true rfl) (Nat.le_of_ble_eq_true rfl)
  · refine s_iload_n hG dc12_fell_13 rfl ?_
    refine s_callSi hG kMc12_363 (corc12_isRain N _ _) rfl (by first | decide | omega) dc12_fell_14 rfl rfl (Nat.le_of_ble_eq_true rfl) ⟨Nat.le_of_ble_eq_true rfl, Nat.le_of_ble_eq_true rfl⟩ (fun p14 => ?_)
    refine s_if_eq hG 41 dc12_fell_17 (by decide) ?_ ?_
    · refine s_iconst (v := -1) hG dc12_fell_41 (by decide) ?_
      exact s_iret hG dc12_fell_42 rfl (Nat.le_of_ble_eq_true rfl) (Nat.le_of_ble_eq_true rfl)
    · refine s_iload_n hG dc12_fell_20 rfl ?_
      refine s_i2l hG dc12_fell_21 ?_
      refine s_lconst (v := 0) hG dc12_fell_22 (by decide) ?_
      refine s_ldc2 hG dc12_fell_23 kJc12_302 ?_
      refine s_callSi hG kMc12_221 (corc12_isIn N _ _ _ _) rfl (by first | decide | omega) dc12_fell_26 rfl rfl (Nat.le_of_ble_eq_true rfl) ⟨Nat.le_of_ble_eq_true rfl, Nat.le_of_ble_eq_true rfl⟩ (fun p26 => ?_)
      refine s_if_eq hG 41 dc12_fell_29 (by decide) ?_ ?_
      · refine s_iconst (v := -1) hG dc12_fell_41 (by decide) ?_
        exact s_iret hG dc12_fell_42 rfl (Nat.le_of_ble_eq_true rfl) (Nat.le_of_ble_eq_true rfl)
      · refine s_aload_n hG dc12_fell_32 rfl ?_
        refine s_getI hG kFc12_293 rfl dc12_fell_33 (fun v33 => ?_)
        refine s_bipush (v := 10) hG dc12_fell_36 (by decide) ?_
        refine s_icmp_ne hG 43 dc12_fell_38 (by decide) ?_ ?_
        · refine s_aload_n hG dc12_fell_43 rfl ?_
          refine s_getR hG kFc12_84 rfl dc12_fell_44 (fun v44 => ?_)
          refine s_iconst (v := 4) hG dc12_fell_47 (by decide) ?_
          refine s_aload_n hG dc12_fell_48 rfl ?_
          refine s_getI hG kFc12_293 rfl dc12_fell_49 (fun v49 => ?_)
          refine s_imul hG dc12_fell_52 ?_
          refine s_iload_n hG dc12_fell_53 rfl ?_
          refine s_iast hG dc12_fell_54 (fun σ54 => ?_)
          refine s_aload_n hG dc12_fell_55 rfl ?_
          refine s_getR hG kFc12_84 rfl dc12_fell_56 (fun v56 => ?_)
          refine s_iconst (v := 4) hG dc12_fell_59 (by decide) ?_
          refine s_aload_n hG dc12_fell_60 rfl ?_
          refine s_getI hG kFc12_293 rfl dc12_fell_61 (fun v61 => ?_)
          refine s_imul hG dc12_fell_64 ?_
          refine s_iconst (v := 1) hG dc12_fell_65 (by decide) ?_
          refine s_iadd hG dc12_fell_66 ?_
          refine s_iload_n hG dc12_fell_67 rfl ?_
          refine s_iast hG dc12_fell_68 (fun σ68 => ?_)
          refine s_aload_n hG dc12_fell_69 rfl ?_
          refine s_getR hG kFc12_84 rfl dc12_fell_70 (fun v70 => ?_)
          refine s_iconst (v := 4) hG dc12_fell_73 (by decide) ?_
          refine s_aload_n hG dc12_fell_74 rfl ?_
          refine s_getI hG kFc12_293 rfl dc12_fell_75 (fun v75 => ?_)
          refine s_imul hG dc12_fell_78 ?_
          refine s_iconst (v := 2) hG dc12_fell_79 (by decide) ?_
          refine s_iadd hG dc12_fell_80 ?_
          refine s_iload_n hG dc12_fell_81 rfl ?_
          refine s_iast hG dc12_fell_82 (fun σ82 => ?_)
          refine s_aload_n hG dc12_fell_83 rfl ?_
          refine s_getR hG kFc12_84 rfl dc12_fell_84 (fun v84 => ?_)
          refine s_iconst (v := 4) hG dc12_fell_87 (by decide) ?_
          refine s_aload_n hG dc12_fell_88 rfl ?_
          refine s_getI hG kFc12_293 rfl dc12_fell_89 (fun v89 => ?_)
          refine s_imul hG dc12_fell_92 ?_
          refine s_iconst (v := 3) hG dc12_fell_93 (by decide) ?_
          refine s_iadd hG dc12_fell_94 ?_
          refine s_iload hG dc12_fell_95 rfl ?_
          refine s_if_eq hG 104 dc12_fell_97 (by decide) ?_ ?_
          · refine s_iconst (v := 0) hG dc12_fell_104 (by decide) ?_
            exact s_lv (lc rfl ln) (pc12_fell_105 hG _ _ _ _ _)
          · refine s_iconst (v := 1) hG dc12_fell_100 (by decide) ?_
            refine s_goto hG 105 dc12_fell_101 (by decide) ?_
            exact s_lv (lc rfl ln) (pc12_fell_105 hG _ _ _ _ _)
        · refine s_iconst (v := -1) hG dc12_fell_41 (by decide) ?_
          exact s_iret hG dc12_fell_42 rfl (Nat.le_of_ble_eq_true rfl) (Nat.le_of_ble_eq_true rfl)
def fc12_isGame (N : Nat) (a0 : Nat) (x1 : Int32) (x2 : Int32) (x3 : Int32) (σ : Me) : Option (Int32 × Me) :=
  (dr σ (some a0) (.inl 12)).bind fun a =>
  (fc12_isField N a x1 σ).bind fun p2 =>
  if p2.1 = 0 then
    retZ (0 : Int32) p2.2
  else
    (dr p2.2 (some a0) (.inl 12)).bind fun a =>
    (fc12_isField N a x2 p2.2).bind fun p10 =>
    if p10.1 = 0 then
      retZ (0 : Int32) p10.2
    else
      if x1 = x2 then
        retZ (0 : Int32) p10.2
      else
        (fc12_isRain N x3 p10.2).bind fun p22 =>
        if p22.1 = 0 then
          retZ (0 : Int32) p22.2
        else
          retZ (1 : Int32) p22.2
set_option maxRecDepth 20000 in
set_option maxHeartbeats 2000000 in
theorem corc12_isGame {Ω : Om} (N : Nat) (a0 : Nat) (x1 : Int32) (x2 : Int32) (x3 : Int32) (σ : Me) : Cor Ω tc12_isGame 3 0 0 [vR (some a0), vI x1, vI x2, vI x3] σ ιI (fc12_isGame N a0 x1 x2 x3 σ) := by
  refine Cor.of (by decide +kernel) (Nat.le_of_ble_eq_true rfl) (fun Γ hG => ?_)
  unfold fc12_isGame
  show Sim Ω Γ 0 0 ιI 4 0 [(0, vR (some a0)), (1, vI x1), (2, vI x2), (3, vI x3)] [] σ 0 0 _
  refine s_aload_n hG dc12_isGame_0 rfl ?_
  refine s_iload_n hG dc12_isGame_1 rfl ?_
  refine s_callVi hG kMc12_353 (fun a => corc12_isField N a _ _) ⟨by decide, rfl⟩ rfl (by first | decide | omega) dc12_isGame_2 rfl rfl (Nat.le_of_ble_eq_true rfl) ⟨Nat.le_of_ble_eq_true rfl, Nat.le_of_ble_eq_true rfl⟩ (fun p2 => ?_)
  refine s_if_eq hG 32 dc12_isGame_5 (by decide) ?_ ?_
  · refine s_iconst (v := 0) hG dc12_isGame_32 (by decide) ?_
    exact s_zret hG dc12_isGame_33 rfl (Nat.le_of_ble_eq_true rfl) (Nat.le_of_ble_eq_true rfl)
  · refine s_aload_n hG dc12_isGame_8 rfl ?_
    refine s_iload_n hG dc12_isGame_9 rfl ?_
    refine s_callVi hG kMc12_353 (fun a => corc12_isField N a _ _) ⟨by decide, rfl⟩ rfl (by first | decide | omega) dc12_isGame_10 rfl rfl (Nat.le_of_ble_eq_true rfl) ⟨Nat.le_of_ble_eq_true rfl, Nat.le_of_ble_eq_true rfl⟩ (fun p10 => ?_)
    refine s_if_eq hG 32 dc12_isGame_13 (by decide) ?_ ?_
    · refine s_iconst (v := 0) hG dc12_isGame_32 (by decide) ?_
      exact s_zret hG dc12_isGame_33 rfl (Nat.le_of_ble_eq_true rfl) (Nat.le_of_ble_eq_true rfl)
    · refine s_iload_n hG dc12_isGame_16 rfl ?_
      refine s_iload_n hG dc12_isGame_17 rfl ?_
      refine s_icmp_eq hG 32 dc12_isGame_18 (by decide) ?_ ?_
      · refine s_iconst (v := 0) hG dc12_isGame_32 (by decide) ?_
        exact s_zret hG dc12_isGame_33 rfl (Nat.le_of_ble_eq_true rfl) (Nat.le_of_ble_eq_true rfl)
      · refine s_iload_n hG dc12_isGame_21 rfl ?_
        refine s_callSi hG kMc12_363 (corc12_isRain N _ _) rfl (by first | decide | omega) dc12_isGame_22 rfl rfl (Nat.le_of_ble_eq_true rfl) ⟨Nat.le_of_ble_eq_true rfl, Nat.le_of_ble_eq_true rfl⟩ (fun p22 => ?_)
        refine s_if_eq hG 32 dc12_isGame_25 (by decide) ?_ ?_
        · refine s_iconst (v := 0) hG dc12_isGame_32 (by decide) ?_
          exact s_zret hG dc12_isGame_33 rfl (Nat.le_of_ble_eq_true rfl) (Nat.le_of_ble_eq_true rfl)
        · refine s_iconst (v := 1) hG dc12_isGame_28 (by decide) ?_
          refine s_goto hG 33 dc12_isGame_29 (by decide) ?_
          exact s_zret hG dc12_isGame_33 rfl (Nat.le_of_ble_eq_true rfl) (Nat.le_of_ble_eq_true rfl)
def fc12_laysTurn_13 (N : Nat) : Nat → Option Nat → Int32 → Me → Option (Unit × Me)
  | 0, _, _, _ => none
  | n + 1, l0, l1, σ =>
    (qI σ 12 24 l0).bind fun v15 =>
    if v15 ≤ l1 then
      some ((), σ)
    else
      (qR σ 12 29 l0).bind fun v22 =>
      (qR σ 12 28 l0).bind fun v32 =>
      (ldI σ v32 (((4 : Int32) * l1) + (0 : Int32))).bind fun v40 =>
      (dr σ l0 (.inl 12)).bind fun a =>
      (fc12_withInterest N a v40 σ).bind fun p41 =>
      (stI p41.2 v22 (((4 : Int32) * l1) + (0 : Int32)) p41.1).bind fun σ44 =>
      (fc12_laysTurn_13 N n) l0 (l1 + (1 : Int32)) σ44
def fc12_laysTurn (N : Nat) (a0 : Nat) (σ : Me) : Option (Unit × Me) :=
  (qR σ 12 28 (some a0)).bind fun v1 =>
  (qR σ 12 29 (some a0)).bind fun v5 =>
  (fc12_copy N v1 v5 σ).bind fun p8 =>
  fc12_laysTurn_13 N N (some a0) (0 : Int32) p8.2
set_option maxRecDepth 20000 in
set_option maxHeartbeats 2000000 in
theorem pc12_laysTurn_13 {Ω : Om} {Γ : Ga} {N : Nat} (hG : Good Ω Γ tc12_laysTurn 3 0 0) : ∀ (n : Nat) (l0 : Option Nat) (l1 : Int32) (σ : Me), Sim Ω Γ 0 0 ιV 2 13 [(0, vR l0), (1, vI l1)] [] σ 0 0 (fc12_laysTurn_13 N n l0 l1 σ) := by
  intro n
  induction n with
  | zero => intros; exact s_none
  | succ n ih =>
    intro l0 l1 σ
    unfold fc12_laysTurn_13
    refine s_iload_n hG dc12_laysTurn_13 rfl ?_
    refine s_aload_n hG dc12_laysTurn_14 rfl ?_
    refine s_getI hG kFc12_290 rfl dc12_laysTurn_15 (fun v15 => ?_)
    refine s_icmp_ge hG 51 dc12_laysTurn_18 (by decide) ?_ ?_
    · exact s_vret hG dc12_laysTurn_51 rfl (Nat.le_of_ble_eq_true rfl) (Nat.le_of_ble_eq_true rfl)
    · refine s_aload_n hG dc12_laysTurn_21 rfl ?_
      refine s_getR hG kFc12_58 rfl dc12_laysTurn_22 (fun v22 => ?_)
      refine s_iconst (v := 4) hG dc12_laysTurn_25 (by decide) ?_
      refine s_iload_n hG dc12_laysTurn_26 rfl ?_
      refine s_imul hG dc12_laysTurn_27 ?_
      refine s_iconst (v := 0) hG dc12_laysTurn_28 (by decide) ?_
      refine s_iadd hG dc12_laysTurn_29 ?_
      refine s_aload_n hG dc12_laysTurn_30 rfl ?_
      refine s_aload_n hG dc12_laysTurn_31 rfl ?_
      refine s_getR hG kFc12_55 rfl dc12_laysTurn_32 (fun v32 => ?_)
      refine s_iconst (v := 4) hG dc12_laysTurn_35 (by decide) ?_
      refine s_iload_n hG dc12_laysTurn_36 rfl ?_
      refine s_imul hG dc12_laysTurn_37 ?_
      refine s_iconst (v := 0) hG dc12_laysTurn_38 (by decide) ?_
      refine s_iadd hG dc12_laysTurn_39 ?_
      refine s_iald hG dc12_laysTurn_40 (fun v40 => ?_)
      refine s_callVi hG kMc12_328 (fun a => corc12_withInterest N a _ _) ⟨by decide, rfl⟩ rfl (by first | decide | omega) dc12_laysTurn_41 rfl rfl (Nat.le_of_ble_eq_true rfl) ⟨Nat.le_of_ble_eq_true rfl, Nat.le_of_ble_eq_true rfl⟩ (fun p41 => ?_)
      refine s_iast hG dc12_laysTurn_44 (fun σ44 => ?_)
      refine s_iinc (v := 1) hG dc12_laysTurn_45 rfl (by decide) (by decide) ?_
      refine s_goto hG 13 dc12_laysTurn_48 (by decide) ?_
      exact s_lv (lc rfl (lc rfl ln)) (ih _ _ _)
set_option maxRecDepth 20000 in
set_option maxHeartbeats 2000000 in
theorem corc12_laysTurn {Ω : Om} (N : Nat) (a0 : Nat) (σ : Me) : Cor Ω tc12_laysTurn 3 0 0 [vR (some a0)] σ ιV (fc12_laysTurn N a0 σ) := by
  refine Cor.of (by decide +kernel) (Nat.le_of_ble_eq_true rfl) (fun Γ hG => ?_)
  unfold fc12_laysTurn
  show Sim Ω Γ 0 0 ιV 2 0 [(0, vR (some a0))] [] σ 0 0 _
  refine s_aload_n hG dc12_laysTurn_0 rfl ?_
  refine s_getR hG kFc12_55 rfl dc12_laysTurn_1 (fun v1 => ?_)
  refine s_aload_n hG dc12_laysTurn_4 rfl ?_
  refine s_getR hG kFc12_58 rfl dc12_laysTurn_5 (fun v5 => ?_)
  refine s_callSv hG kMc12_345 (corc12_copy N _ _ _) rfl (by first | decide | omega) dc12_laysTurn_8 rfl rfl (Nat.le_of_ble_eq_true rfl) ⟨Nat.le_of_ble_eq_true rfl, Nat.le_of_ble_eq_true rfl⟩ (fun p8 => ?_)
  refine s_iconst (v := 0) hG dc12_laysTurn_11 (by decide) ?_
  refine s_istore_n hG dc12_laysTurn_12 (by decide) ?_
  exact s_lv (lc rfl (lc rfl ln)) (pc12_laysTurn_13 hG _ _ _ _)
def fc12_turn_27 (N : Nat) : Nat → Option Nat → Int32 → Int32 → Int32 → Me → Option (Int32 × Me)
  | 0, _, _, _, _, _ => none
  | n + 1, l0, l1, l2, l3, σ =>
    if l1 ≤ l3 then
      (qR σ 12 29 l0).bind fun v54 =>
      (dr σ l0 (.inl 12)).bind fun a =>
      (fc12_nextIn N a v54 l2 σ).bind fun p58 =>
      some (p58.1, p58.2)
    else
      (qR σ 12 29 l0).bind fun v36 =>
      (dr σ l0 (.inl 12)).bind fun a =>
      (fc12_nextIn N a v36 l2 σ).bind fun p40 =>
      (fc12_turn_27 N n) l0 l1 (l2 ||| ((1 : Int32) <<< (p40.1 &&& 31))) (l3 + (1 : Int32)) p40.2
def fc12_turn (N : Nat) (a0 : Nat) (x1 : Int32) (σ : Me) : Option (Int32 × Me) :=
  (pI σ 12 0 (some a0) (0 : Int32)).bind fun σ2 =>
  if x1 < 0 then
    some ((-1 : Int32), σ2)
  else
    (qI σ2 12 24 (some a0)).bind fun v11 =>
    if x1 < v11 then
      (dr σ2 (some a0) (.inl 12)).bind fun a =>
      (fc12_laysTurn N a σ2).bind fun p20 =>
      fc12_turn_27 N N (some a0) x1 (0 : Int32) (0 : Int32) p20.2
    else
      some ((-1 : Int32), σ2)
set_option maxRecDepth 20000 in
set_option maxHeartbeats 2000000 in
theorem pc12_turn_27 {Ω : Om} {Γ : Ga} {N : Nat} (hG : Good Ω Γ tc12_turn 4 0 0) : ∀ (n : Nat) (l0 : Option Nat) (l1 : Int32) (l2 : Int32) (l3 : Int32) (σ : Me), Sim Ω Γ 0 0 ιI 4 27 [(0, vR l0), (1, vI l1), (2, vI l2), (3, vI l3)] [] σ 0 0 (fc12_turn_27 N n l0 l1 l2 l3 σ) := by
  intro n
  induction n with
  | zero => intros; exact s_none
  | succ n ih =>
    intro l0 l1 l2 l3 σ
    unfold fc12_turn_27
    refine s_iload_n hG dc12_turn_27 rfl ?_
    refine s_iload_n hG dc12_turn_28 rfl ?_
    refine s_icmp_ge hG 52 dc12_turn_29 (by decide) ?_ ?_
    · refine s_aload_n hG dc12_turn_52 rfl ?_
      refine s_aload_n hG dc12_turn_53 rfl ?_
      refine s_getR hG kFc12_58 rfl dc12_turn_54 (fun v54 => ?_)
      refine s_iload_n hG dc12_turn_57 rfl ?_
      refine s_callVi hG kMc12_331 (fun a => corc12_nextIn N a _ _ _) ⟨by decide, rfl⟩ rfl (by first | decide | omega) dc12_turn_58 rfl rfl (Nat.le_of_ble_eq_true rfl) ⟨Nat.le_of_ble_eq_true rfl, Nat.le_of_ble_eq_true rfl⟩ (fun p58 => ?_)
      exact s_iret hG dc12_turn_61 rfl (Nat.le_of_ble_eq_true rfl) (Nat.le_of_ble_eq_true rfl)
    · refine s_iload_n hG dc12_turn_32 rfl ?_
      refine s_iconst (v := 1) hG dc12_turn_33 (by decide) ?_
      refine s_aload_n hG dc12_turn_34 rfl ?_
      refine s_aload_n hG dc12_turn_35 rfl ?_
      refine s_getR hG kFc12_58 rfl dc12_turn_36 (fun v36 => ?_)
      refine s_iload_n hG dc12_turn_39 rfl ?_
      refine s_callVi hG kMc12_331 (fun a => corc12_nextIn N a _ _ _) ⟨by decide, rfl⟩ rfl (by first | decide | omega) dc12_turn_40 rfl rfl (Nat.le_of_ble_eq_true rfl) ⟨Nat.le_of_ble_eq_true rfl, Nat.le_of_ble_eq_true rfl⟩ (fun p40 => ?_)
      refine s_ishl hG dc12_turn_43 ?_
      refine s_ior hG dc12_turn_44 ?_
      refine s_istore_n hG dc12_turn_45 (by decide) ?_
      refine s_iinc (v := 1) hG dc12_turn_46 rfl (by decide) (by decide) ?_
      refine s_goto hG 27 dc12_turn_49 (by decide) ?_
      exact s_lv (lc rfl (lc rfl (lc rfl (lc rfl ln)))) (ih _ _ _ _ _)
set_option maxRecDepth 20000 in
set_option maxHeartbeats 2000000 in
theorem corc12_turn {Ω : Om} (N : Nat) (a0 : Nat) (x1 : Int32) (σ : Me) : Cor Ω tc12_turn 4 0 0 [vR (some a0), vI x1] σ ιI (fc12_turn N a0 x1 σ) := by
  refine Cor.of (by decide +kernel) (Nat.le_of_ble_eq_true rfl) (fun Γ hG => ?_)
  unfold fc12_turn
  show Sim Ω Γ 0 0 ιI 4 0 [(0, vR (some a0)), (1, vI x1)] [] σ 0 0 _
  refine s_aload_n hG dc12_turn_0 rfl ?_
  refine s_iconst (v := 0) hG dc12_turn_1 (by decide) ?_
  refine s_putI (fin := false) hG kFc12_100 rfl (fun h => by cases h) rfl (fun _ => rfl) (fun _ => rfl) dc12_turn_2 (fun σ2 => ?_)
  refine s_iload_n hG dc12_turn_5 rfl ?_
  refine s_if_lt hG 17 dc12_turn_6 (by decide) ?_ ?_
  · refine s_iconst (v := -1) hG dc12_turn_17 (by decide) ?_
    exact s_iret hG dc12_turn_18 rfl (Nat.le_of_ble_eq_true rfl) (Nat.le_of_ble_eq_true rfl)
  · refine s_iload_n hG dc12_turn_9 rfl ?_
    refine s_aload_n hG dc12_turn_10 rfl ?_
    refine s_getI hG kFc12_290 rfl dc12_turn_11 (fun v11 => ?_)
    refine s_icmp_lt hG 19 dc12_turn_14 (by decide) ?_ ?_
    · refine s_aload_n hG dc12_turn_19 rfl ?_
      refine s_callVv hG kMc12_449 (fun a => corc12_laysTurn N a _) ⟨by decide, rfl⟩ rfl (by first | decide | omega) dc12_turn_20 rfl rfl (Nat.le_of_ble_eq_true rfl) ⟨Nat.le_of_ble_eq_true rfl, Nat.le_of_ble_eq_true rfl⟩ (fun p20 => ?_)
      refine s_iconst (v := 0) hG dc12_turn_23 (by decide) ?_
      refine s_istore_n hG dc12_turn_24 (by decide) ?_
      refine s_iconst (v := 0) hG dc12_turn_25 (by decide) ?_
      refine s_istore_n hG dc12_turn_26 (by decide) ?_
      exact s_lv (lc rfl (lc rfl (lc rfl (lc rfl ln)))) (pc12_turn_27 hG _ _ _ _ _ _)
    · refine s_iconst (v := -1) hG dc12_turn_17 (by decide) ?_
      exact s_iret hG dc12_turn_18 rfl (Nat.le_of_ble_eq_true rfl) (Nat.le_of_ble_eq_true rfl)
def fc12_forgiven_21 (N : Nat) : Nat → Option Nat → Int32 → Int32 → Me → Option (Int32 × Me)
  | 0, _, _, _, _ => none
  | n + 1, l0, l1, l2, σ =>
    (qR σ 12 28 l0).bind fun v23 =>
    (ldI σ v23 (((4 : Int32) * l1) + (0 : Int32))).bind fun v31 =>
    if v31 < l2 then
      some ((-1 : Int32), σ)
    else
      (qR σ 12 29 l0).bind fun v36 =>
      (qR σ 12 28 l0).bind fun v46 =>
      (ldI σ v46 (((4 : Int32) * l1) + (0 : Int32))).bind fun v54 =>
      (dr σ l0 (.inl 12)).bind fun a =>
      (fc12_withInterest N a (v54 - l2) σ).bind fun p57 =>
      (stI p57.2 v36 (((4 : Int32) * l1) + (0 : Int32)) p57.1).bind fun σ60 =>
      (qR σ60 12 29 l0).bind fun v63 =>
      (dr σ60 l0 (.inl 12)).bind fun a =>
      (fc12_nextIn N a v63 (0 : Int32) σ60).bind fun p67 =>
      if p67.1 = l1 then
        (fc12_forgiven_21 N n) l0 l1 (l2 + (1 : Int32)) p67.2
      else
        some (l2, p67.2)
def fc12_forgiven (N : Nat) (a0 : Nat) (x1 : Int32) (σ : Me) : Option (Int32 × Me) :=
  (pI σ 12 0 (some a0) (0 : Int32)).bind fun σ2 =>
  (dr σ2 (some a0) (.inl 12)).bind fun a =>
  (fc12_isField N a x1 σ2).bind fun p7 =>
  if p7.1 = 0 then
    some ((-1 : Int32), p7.2)
  else
    (dr p7.2 (some a0) (.inl 12)).bind fun a =>
    (fc12_laysTurn N a p7.2).bind fun p16 =>
    fc12_forgiven_21 N N (some a0) x1 (0 : Int32) p16.2
set_option maxRecDepth 20000 in
set_option maxHeartbeats 2000000 in
theorem pc12_forgiven_21 {Ω : Om} {Γ : Ga} {N : Nat} (hG : Good Ω Γ tc12_forgiven 4 0 0) : ∀ (n : Nat) (l0 : Option Nat) (l1 : Int32) (l2 : Int32) (σ : Me), Sim Ω Γ 0 0 ιI 3 21 [(0, vR l0), (1, vI l1), (2, vI l2)] [] σ 0 0 (fc12_forgiven_21 N n l0 l1 l2 σ) := by
  intro n
  induction n with
  | zero => intros; exact s_none
  | succ n ih =>
    intro l0 l1 l2 σ
    unfold fc12_forgiven_21
    refine s_iload_n hG dc12_forgiven_21 rfl ?_
    refine s_aload_n hG dc12_forgiven_22 rfl ?_
    refine s_getR hG kFc12_55 rfl dc12_forgiven_23 (fun v23 => ?_)
    refine s_iconst (v := 4) hG dc12_forgiven_26 (by decide) ?_
    refine s_iload_n hG dc12_forgiven_27 rfl ?_
    refine s_imul hG dc12_forgiven_28 ?_
    refine s_iconst (v := 0) hG dc12_forgiven_29 (by decide) ?_
    refine s_iadd hG dc12_forgiven_30 ?_
    refine s_iald hG dc12_forgiven_31 (fun v31 => ?_)
    refine s_icmp_gt hG 82 dc12_forgiven_32 (by decide) ?_ ?_
    · refine s_iconst (v := -1) hG dc12_forgiven_82 (by decide) ?_
      exact s_iret hG dc12_forgiven_83 rfl (Nat.le_of_ble_eq_true rfl) (Nat.le_of_ble_eq_true rfl)
    · refine s_aload_n hG dc12_forgiven_35 rfl ?_
      refine s_getR hG kFc12_58 rfl dc12_forgiven_36 (fun v36 => ?_)
      refine s_iconst (v := 4) hG dc12_forgiven_39 (by decide) ?_
      refine s_iload_n hG dc12_forgiven_40 rfl ?_
      refine s_imul hG dc12_forgiven_41 ?_
      refine s_iconst (v := 0) hG dc12_forgiven_42 (by decide) ?_
      refine s_iadd hG dc12_forgiven_43 ?_
      refine s_aload_n hG dc12_forgiven_44 rfl ?_
      refine s_aload_n hG dc12_forgiven_45 rfl ?_
      refine s_getR hG kFc12_55 rfl dc12_forgiven_46 (fun v46 => ?_)
      refine s_iconst (v := 4) hG dc12_forgiven_49 (by decide) ?_
      refine s_iload_n hG dc12_forgiven_50 rfl ?_
      refine s_imul hG dc12_forgiven_51 ?_
      refine s_iconst (v := 0) hG dc12_forgiven_52 (by decide) ?_
      refine s_iadd hG dc12_forgiven_53 ?_
      refine s_iald hG dc12_forgiven_54 (fun v54 => ?_)
      refine s_iload_n hG dc12_forgiven_55 rfl ?_
      refine s_isub hG dc12_forgiven_56 ?_
      refine s_callVi hG kMc12_328 (fun a => corc12_withInterest N a _ _) ⟨by decide, rfl⟩ rfl (by first | decide | omega) dc12_forgiven_57 rfl rfl (Nat.le_of_ble_eq_true rfl) ⟨Nat.le_of_ble_eq_true rfl, Nat.le_of_ble_eq_true rfl⟩ (fun p57 => ?_)
      refine s_iast hG dc12_forgiven_60 (fun σ60 => ?_)
      refine s_aload_n hG dc12_forgiven_61 rfl ?_
      refine s_aload_n hG dc12_forgiven_62 rfl ?_
      refine s_getR hG kFc12_58 rfl dc12_forgiven_63 (fun v63 => ?_)
      refine s_iconst (v := 0) hG dc12_forgiven_66 (by decide) ?_
      refine s_callVi hG kMc12_331 (fun a => corc12_nextIn N a _ _ _) ⟨by decide, rfl⟩ rfl (by first | decide | omega) dc12_forgiven_67 rfl rfl (Nat.le_of_ble_eq_true rfl) ⟨Nat.le_of_ble_eq_true rfl, Nat.le_of_ble_eq_true rfl⟩ (fun p67 => ?_)
      refine s_iload_n hG dc12_forgiven_70 rfl ?_
      refine s_icmp_eq hG 76 dc12_forgiven_71 (by decide) ?_ ?_
      · refine s_iinc (v := 1) hG dc12_forgiven_76 rfl (by decide) (by decide) ?_
        refine s_goto hG 21 dc12_forgiven_79 (by decide) ?_
        exact s_lv (lc rfl (lc rfl (lc rfl ln))) (ih _ _ _ _)
      · refine s_iload_n hG dc12_forgiven_74 rfl ?_
        exact s_iret hG dc12_forgiven_75 rfl (Nat.le_of_ble_eq_true rfl) (Nat.le_of_ble_eq_true rfl)
set_option maxRecDepth 20000 in
set_option maxHeartbeats 2000000 in
theorem corc12_forgiven {Ω : Om} (N : Nat) (a0 : Nat) (x1 : Int32) (σ : Me) : Cor Ω tc12_forgiven 4 0 0 [vR (some a0), vI x1] σ ιI (fc12_forgiven N a0 x1 σ) := by
  refine Cor.of (by decide +kernel) (Nat.le_of_ble_eq_true rfl) (fun Γ hG => ?_)
  unfold fc12_forgiven
  show Sim Ω Γ 0 0 ιI 3 0 [(0, vR (some a0)), (1, vI x1)] [] σ 0 0 _
  refine s_aload_n hG dc12_forgiven_0 rfl ?_
  refine s_iconst (v := 0) hG dc12_forgiven_1 (by decide) ?_
  refine s_putI (fin := false) hG kFc12_100 rfl (fun h => by cases h) rfl (fun _ => rfl) (fun _ => rfl) dc12_forgiven_2 (fun σ2 => ?_)
  refine s_aload_n hG dc12_forgiven_5 rfl ?_
  refine s_iload_n hG dc12_forgiven_6 rfl ?_
  refine s_callVi hG kMc12_353 (fun a => corc12_isField N a _ _) ⟨by decide, rfl⟩ rfl (by first | decide | omega) dc12_forgiven_7 rfl rfl (Nat.le_of_ble_eq_true rfl) ⟨Nat.le_of_ble_eq_true rfl, Nat.le_of_ble_eq_true rfl⟩ (fun p7 => ?_)
  refine s_if_ne hG 15 dc12_forgiven_10 (by decide) ?_ ?_
  · refine s_aload_n hG dc12_forgiven_15 rfl ?_
    refine s_callVv hG kMc12_449 (fun a => corc12_laysTurn N a _) ⟨by decide, rfl⟩ rfl (by first | decide | omega) dc12_forgiven_16 rfl rfl (Nat.le_of_ble_eq_true rfl) ⟨Nat.le_of_ble_eq_true rfl, Nat.le_of_ble_eq_true rfl⟩ (fun p16 => ?_)
    refine s_iconst (v := 0) hG dc12_forgiven_19 (by decide) ?_
    refine s_istore_n hG dc12_forgiven_20 (by decide) ?_
    exact s_lv (lc rfl (lc rfl (lc rfl ln))) (pc12_forgiven_21 hG _ _ _ _ _)
  · refine s_iconst (v := -1) hG dc12_forgiven_13 (by decide) ?_
    exact s_iret hG dc12_forgiven_14 rfl (Nat.le_of_ble_eq_true rfl) (Nat.le_of_ble_eq_true rfl)
def fc12_sumOf_4 (N : Nat) : Nat → Option Nat → Int32 → Int32 → Int32 → Me → Option (Int32 × Me)
  | 0, _, _, _, _, _ => none
  | n + 1, l0, l1, l2, l3, σ =>
    (qI σ 12 24 l0).bind fun v6 =>
    if v6 ≤ l3 then
      some (l2, σ)
    else
      (qR σ 12 28 l0).bind fun v14 =>
      (ldI σ v14 (((4 : Int32) * l3) + l1)).bind fun v22 =>
      (fc12_sumOf_4 N n) l0 l1 (l2 + v22) (l3 + (1 : Int32)) σ
def fc12_sumOf (N : Nat) (a0 : Nat) (x1 : Int32) (σ : Me) : Option (Int32 × Me) :=
  fc12_sumOf_4 N N (some a0) x1 (0 : Int32) (0 : Int32) σ
set_option maxRecDepth 20000 in
set_option maxHeartbeats 2000000 in
theorem pc12_sumOf_4 {Ω : Om} {Γ : Ga} {N : Nat} (hG : Good Ω Γ tc12_sumOf 1 0 0) : ∀ (n : Nat) (l0 : Option Nat) (l1 : Int32) (l2 : Int32) (l3 : Int32) (σ : Me), Sim Ω Γ 0 0 ιI 4 4 [(0, vR l0), (1, vI l1), (2, vI l2), (3, vI l3)] [] σ 0 0 (fc12_sumOf_4 N n l0 l1 l2 l3 σ) := by
  intro n
  induction n with
  | zero => intros; exact s_none
  | succ n ih =>
    intro l0 l1 l2 l3 σ
    unfold fc12_sumOf_4
    refine s_iload_n hG dc12_sumOf_4 rfl ?_
    refine s_aload_n hG dc12_sumOf_5 rfl ?_
    refine s_getI hG kFc12_290 rfl dc12_sumOf_6 (fun v6 => ?_)
    refine s_icmp_ge hG 31 dc12_sumOf_9 (by decide) ?_ ?_
    · refine s_iload_n hG dc12_sumOf_31 rfl ?_
      exact s_iret hG dc12_sumOf_32 rfl (Nat.le_of_ble_eq_true rfl) (Nat.le_of_ble_eq_true rfl)
    · refine s_iload_n hG dc12_sumOf_12 rfl ?_
      refine s_aload_n hG dc12_sumOf_13 rfl ?_
      refine s_getR hG kFc12_55 rfl dc12_sumOf_14 (fun v14 => ?_)
      refine s_iconst (v := 4) hG dc12_sumOf_17 (by decide) ?_
      refine s_iload_n hG dc12_sumOf_18 rfl ?_
      refine s_imul hG dc12_sumOf_19 ?_
      refine s_iload_n hG dc12_sumOf_20 rfl ?_
      refine s_iadd hG dc12_sumOf_21 ?_
      refine s_iald hG dc12_sumOf_22 (fun v22 => ?_)
      refine s_iadd hG dc12_sumOf_23 ?_
      refine s_istore_n hG dc12_sumOf_24 (by decide) ?_
      refine s_iinc (v := 1) hG dc12_sumOf_25 rfl (by decide) (by decide) ?_
      refine s_goto hG 4 dc12_sumOf_28 (by decide) ?_
      exact s_lv (lc rfl (lc rfl (lc rfl (lc rfl ln)))) (ih _ _ _ _ _)
set_option maxRecDepth 20000 in
set_option maxHeartbeats 2000000 in
theorem corc12_sumOf {Ω : Om} (N : Nat) (a0 : Nat) (x1 : Int32) (σ : Me) : Cor Ω tc12_sumOf 1 0 0 [vR (some a0), vI x1] σ ιI (fc12_sumOf N a0 x1 σ) := by
  refine Cor.of (by decide +kernel) (Nat.le_of_ble_eq_true rfl) (fun Γ hG => ?_)
  unfold fc12_sumOf
  show Sim Ω Γ 0 0 ιI 4 0 [(0, vR (some a0)), (1, vI x1)] [] σ 0 0 _
  refine s_iconst (v := 0) hG dc12_sumOf_0 (by decide) ?_
  refine s_istore_n hG dc12_sumOf_1 (by decide) ?_
  refine s_iconst (v := 0) hG dc12_sumOf_2 (by decide) ?_
  refine s_istore_n hG dc12_sumOf_3 (by decide) ?_
  exact s_lv (lc rfl (lc rfl (lc rfl (lc rfl ln)))) (pc12_sumOf_4 hG _ _ _ _ _ _)
def fc12_greatest_48 (N : Nat) (K5 : Option Nat → Int32 → Int32 → Int32 → Int32 → Me → Option (Int32 × Me)) (l0 : Option Nat) (l1 : Int32) (l2 : Int32) (l4 : Int32) (s0 : Int32) (σ : Me) : Option (Int32 × Me) :=
  K5 l0 l1 l2 s0 (l4 + (1 : Int32)) σ
def fc12_greatest_5 (N : Nat) : Nat → Option Nat → Int32 → Int32 → Int32 → Int32 → Me → Option (Int32 × Me)
  | 0, _, _, _, _, _, _ => none
  | n + 1, l0, l1, l2, l3, l4, σ =>
    (qI σ 12 24 l0).bind fun v8 =>
    if v8 ≤ l4 then
      some (l3, σ)
    else
      (qR σ 12 28 l0).bind fun v16 =>
      (ldI σ v16 (((4 : Int32) * l4) + l1)).bind fun v25 =>
      (qR σ 12 28 l0).bind fun v29 =>
      (ldI σ v29 (((4 : Int32) * l3) + l1)).bind fun v37 =>
      if (l2 * v25) ≤ (l2 * v37) then
        fc12_greatest_48 N (fc12_greatest_5 N n) l0 l1 l2 l4 l3 σ
      else
        fc12_greatest_48 N (fc12_greatest_5 N n) l0 l1 l2 l4 l4 σ
def fc12_greatest (N : Nat) (a0 : Nat) (x1 : Int32) (x2 : Int32) (σ : Me) : Option (Int32 × Me) :=
  fc12_greatest_5 N N (some a0) x1 x2 (0 : Int32) (1 : Int32) σ
set_option maxRecDepth 20000 in
set_option maxHeartbeats 2000000 in
theorem pc12_greatest_48 {Ω : Om} {Γ : Ga} {N : Nat} (hG : Good Ω Γ tc12_greatest 1 0 0) {K5 : Option Nat → Int32 → Int32 → Int32 → Int32 → Me → Option (Int32 × Me)} (hK5 : ∀ (l0 : Option Nat) (l1 : Int32) (l2 : Int32) (l3 : Int32) (l4 : Int32) (σ : Me), Sim Ω Γ 0 0 ιI 5 5 [(0, vR l0), (1, vI l1), (2, vI l2), (3, vI l3), (4, vI l4)] [] σ 0 0 (K5 l0 l1 l2 l3 l4 σ)) (l0 : Option Nat) (l1 : Int32) (l2 : Int32) (l4 : Int32) (s0 : Int32) (σ : Me) : Sim Ω Γ 0 0 ιI 5 48 [(0, vR l0), (1, vI l1), (2, vI l2), (4, vI l4)] [vI s0] σ 0 0 (fc12_greatest_48 N K5 l0 l1 l2 l4 s0 σ) := by
  unfold fc12_greatest_48
  refine s_istore_n hG dc12_greatest_48 (by decide) ?_
  refine s_iinc (v := 1) hG dc12_greatest_49 rfl (by decide) (by decide) ?_
  refine s_goto hG 5 dc12_greatest_52 (by decide) ?_
  exact s_lv (lc rfl (lc rfl (lc rfl (lc rfl (lc rfl ln))))) (hK5 _ _ _ _ _ _)
set_option maxRecDepth 20000 in
set_option maxHeartbeats 2000000 in
theorem pc12_greatest_5 {Ω : Om} {Γ : Ga} {N : Nat} (hG : Good Ω Γ tc12_greatest 1 0 0) : ∀ (n : Nat) (l0 : Option Nat) (l1 : Int32) (l2 : Int32) (l3 : Int32) (l4 : Int32) (σ : Me), Sim Ω Γ 0 0 ιI 5 5 [(0, vR l0), (1, vI l1), (2, vI l2), (3, vI l3), (4, vI l4)] [] σ 0 0 (fc12_greatest_5 N n l0 l1 l2 l3 l4 σ) := by
  intro n
  induction n with
  | zero => intros; exact s_none
  | succ n ih =>
    intro l0 l1 l2 l3 l4 σ
    unfold fc12_greatest_5
    refine s_iload hG dc12_greatest_5 rfl ?_
    refine s_aload_n hG dc12_greatest_7 rfl ?_
    refine s_getI hG kFc12_290 rfl dc12_greatest_8 (fun v8 => ?_)
    refine s_icmp_ge hG 55 dc12_greatest_11 (by decide) ?_ ?_
    · refine s_iload_n hG dc12_greatest_55 rfl ?_
      exact s_iret hG dc12_greatest_56 rfl (Nat.le_of_ble_eq_true rfl) (Nat.le_of_ble_eq_true rfl)
    · refine s_iload_n hG dc12_greatest_14 rfl ?_
      refine s_aload_n hG dc12_greatest_15 rfl ?_
      refine s_getR hG kFc12_55 rfl dc12_greatest_16 (fun v16 => ?_)
      refine s_iconst (v := 4) hG dc12_greatest_19 (by decide) ?_
      refine s_iload hG dc12_greatest_20 rfl ?_
      refine s_imul hG dc12_greatest_22 ?_
      refine s_iload_n hG dc12_greatest_23 rfl ?_
      refine s_iadd hG dc12_greatest_24 ?_
      refine s_iald hG dc12_greatest_25 (fun v25 => ?_)
      refine s_imul hG dc12_greatest_26 ?_
      refine s_iload_n hG dc12_greatest_27 rfl ?_
      refine s_aload_n hG dc12_greatest_28 rfl ?_
      refine s_getR hG kFc12_55 rfl dc12_greatest_29 (fun v29 => ?_)
      refine s_iconst (v := 4) hG dc12_greatest_32 (by decide) ?_
      refine s_iload_n hG dc12_greatest_33 rfl ?_
      refine s_imul hG dc12_greatest_34 ?_
      refine s_iload_n hG dc12_greatest_35 rfl ?_
      refine s_iadd hG dc12_greatest_36 ?_
      refine s_iald hG dc12_greatest_37 (fun v37 => ?_)
      refine s_imul hG dc12_greatest_38 ?_
      refine s_icmp_le hG 47 dc12_greatest_39 (by decide) ?_ ?_
      · refine s_iload_n hG dc12_greatest_47 rfl ?_
        exact s_lv (lc rfl (lc rfl (lc rfl (lc rfl ln)))) (pc12_greatest_48 hG ih _ _ _ _ _ _)
      · refine s_iload hG dc12_greatest_42 rfl ?_
        refine s_goto hG 48 dc12_greatest_44 (by decide) ?_
        exact s_lv (lc rfl (lc rfl (lc rfl (lc rfl ln)))) (pc12_greatest_48 hG ih _ _ _ _ _ _)
set_option maxRecDepth 20000 in
set_option maxHeartbeats 2000000 in
theorem corc12_greatest {Ω : Om} (N : Nat) (a0 : Nat) (x1 : Int32) (x2 : Int32) (σ : Me) : Cor Ω tc12_greatest 1 0 0 [vR (some a0), vI x1, vI x2] σ ιI (fc12_greatest N a0 x1 x2 σ) := by
  refine Cor.of (by decide +kernel) (Nat.le_of_ble_eq_true rfl) (fun Γ hG => ?_)
  unfold fc12_greatest
  show Sim Ω Γ 0 0 ιI 5 0 [(0, vR (some a0)), (1, vI x1), (2, vI x2)] [] σ 0 0 _
  refine s_iconst (v := 0) hG dc12_greatest_0 (by decide) ?_
  refine s_istore_n hG dc12_greatest_1 (by decide) ?_
  refine s_iconst (v := 1) hG dc12_greatest_2 (by decide) ?_
  refine s_istore hG dc12_greatest_3 (by decide) ?_
  exact s_lv (lc rfl (lc rfl (lc rfl (lc rfl (lc rfl ln))))) (pc12_greatest_5 hG _ _ _ _ _ _ _)
