def fMt_min (N : Nat) (x0 : Int32) (x1 : Int32) (σ : Me) : Option (Int32 × Me) :=
  if x1 < x0 then
    some (x1, σ)
  else
    some (x0, σ)
set_option maxRecDepth 20000 in
set_option maxHeartbeats 2000000 in
theorem corMt_min {Ω : Om} (N : Nat) (x0 : Int32) (x1 : Int32) (σ : Me) : Cor Ω tMt_min 1 0 0 [vI x0, vI x1] σ ιI (fMt_min N x0 x1 σ) := by
  refine Cor.of (by decide +kernel) (Nat.le_of_ble_eq_true rfl) (fun Γ hG => ?_)
  unfold fMt_min
  show Sim Ω Γ 0 0 ιI 2 0 [(0, vI x0), (1, vI x1)] [] σ 0 0 _
  refine s_iload_n hG dMt_min_0 rfl ?_
  refine s_iload_n hG dMt_min_1 rfl ?_
  refine s_icmp_gt hG 9 dMt_min_2 (by decide) ?_ ?_
  · refine s_iload_n hG dMt_min_9 rfl ?_
    exact s_iret hG dMt_min_10 rfl (Nat.le_of_ble_eq_true rfl) (Nat.le_of_ble_eq_true rfl)
  · refine s_iload_n hG dMt_min_5 rfl ?_
    refine s_goto hG 10 dMt_min_6 (by decide) ?_
    exact s_iret hG dMt_min_10 rfl (Nat.le_of_ble_eq_true rfl) (Nat.le_of_ble_eq_true rfl)
def fMt_max (N : Nat) (x0 : Int32) (x1 : Int32) (σ : Me) : Option (Int32 × Me) :=
  if x0 < x1 then
    some (x1, σ)
  else
    some (x0, σ)
set_option maxRecDepth 20000 in
set_option maxHeartbeats 2000000 in
theorem corMt_max {Ω : Om} (N : Nat) (x0 : Int32) (x1 : Int32) (σ : Me) : Cor Ω tMt_max 1 0 0 [vI x0, vI x1] σ ιI (fMt_max N x0 x1 σ) := by
  refine Cor.of (by decide +kernel) (Nat.le_of_ble_eq_true rfl) (fun Γ hG => ?_)
  unfold fMt_max
  show Sim Ω Γ 0 0 ιI 2 0 [(0, vI x0), (1, vI x1)] [] σ 0 0 _
  refine s_iload_n hG dMt_max_0 rfl ?_
  refine s_iload_n hG dMt_max_1 rfl ?_
  refine s_icmp_lt hG 9 dMt_max_2 (by decide) ?_ ?_
  · refine s_iload_n hG dMt_max_9 rfl ?_
    exact s_iret hG dMt_max_10 rfl (Nat.le_of_ble_eq_true rfl) (Nat.le_of_ble_eq_true rfl)
  · refine s_iload_n hG dMt_max_5 rfl ?_
    refine s_goto hG 10 dMt_max_6 (by decide) ?_
    exact s_iret hG dMt_max_10 rfl (Nat.le_of_ble_eq_true rfl) (Nat.le_of_ble_eq_true rfl)
def fc2_sum_4 (N : Nat) : Nat → Option Nat → Option Nat → Int32 → Int32 → Me → Option (Int32 × Me)
  | 0, _, _, _, _, _ => none
  | n + 1, l0, l1, l2, l3, σ =>
    (qI σ 2 5 l0).bind fun v6 =>
    if v6 ≤ l3 then
      some (l2, σ)
    else
      (ldI σ l1 l3).bind fun v15 =>
      (fc2_sum_4 N n) l0 l1 (l2 + v15) (l3 + (1 : Int32)) σ
def fc2_sum (N : Nat) (a0 : Nat) (x1 : Option Nat) (σ : Me) : Option (Int32 × Me) :=
  fc2_sum_4 N N (some a0) x1 (0 : Int32) (0 : Int32) σ
set_option maxRecDepth 20000 in
set_option maxHeartbeats 2000000 in
theorem pc2_sum_4 {Ω : Om} {Γ : Ga} {N : Nat} (hG : Good Ω Γ tc2_sum 1 0 0) : ∀ (n : Nat) (l0 : Option Nat) (l1 : Option Nat) (l2 : Int32) (l3 : Int32) (σ : Me), Sim Ω Γ 0 0 ιI 4 4 [(0, vR l0), (1, vR l1), (2, vI l2), (3, vI l3)] [] σ 0 0 (fc2_sum_4 N n l0 l1 l2 l3 σ) := by
  intro n
  induction n with
  | zero => intros; exact s_none
  | succ n ih =>
    intro l0 l1 l2 l3 σ
    unfold fc2_sum_4
    refine s_iload_n hG dc2_sum_4 rfl ?_
    refine s_aload_n hG dc2_sum_5 rfl ?_
    refine s_getI hG kFc2_33 rfl dc2_sum_6 (fun v6 => ?_)
    refine s_icmp_ge hG 24 dc2_sum_9 (by decide) ?_ ?_
    · refine s_iload_n hG dc2_sum_24 rfl ?_
      exact s_iret hG dc2_sum_25 rfl (Nat.le_of_ble_eq_true rfl) (Nat.le_of_ble_eq_true rfl)
    · refine s_iload_n hG dc2_sum_12 rfl ?_
      refine s_aload_n hG dc2_sum_13 rfl ?_
      refine s_iload_n hG dc2_sum_14 rfl ?_
      refine s_iald hG dc2_sum_15 (fun v15 => ?_)
      refine s_iadd hG dc2_sum_16 ?_
      refine s_istore_n hG dc2_sum_17 (by decide) ?_
      refine s_iinc (v := 1) hG dc2_sum_18 rfl (by decide) (by decide) ?_
      refine s_goto hG 4 dc2_sum_21 (by decide) ?_
      exact s_lv (lc rfl (lc rfl (lc rfl (lc rfl ln)))) (ih _ _ _ _ _)
set_option maxRecDepth 20000 in
set_option maxHeartbeats 2000000 in
theorem corc2_sum {Ω : Om} (N : Nat) (a0 : Nat) (x1 : Option Nat) (σ : Me) : Cor Ω tc2_sum 1 0 0 [vR (some a0), vR x1] σ ιI (fc2_sum N a0 x1 σ) := by
  refine Cor.of (by decide +kernel) (Nat.le_of_ble_eq_true rfl) (fun Γ hG => ?_)
  unfold fc2_sum
  show Sim Ω Γ 0 0 ιI 4 0 [(0, vR (some a0)), (1, vR x1)] [] σ 0 0 _
  refine s_iconst (v := 0) hG dc2_sum_0 (by decide) ?_
  refine s_istore_n hG dc2_sum_1 (by decide) ?_
  refine s_iconst (v := 0) hG dc2_sum_2 (by decide) ?_
  refine s_istore_n hG dc2_sum_3 (by decide) ?_
  exact s_lv (lc rfl (lc rfl (lc rfl (lc rfl ln)))) (pc2_sum_4 hG _ _ _ _ _ _)
def fMt_floorMod (N : Nat) (x0 : Int32) (x1 : Int32) (σ : Me) : Option (Int32 × Me) :=
  (rmI x0 x1).bind fun v2 =>
  if 0 ≤ (x0 ^^^ x1) then
    some (v2, σ)
  else
    if v2 = 0 then
      some (v2, σ)
    else
      some ((v2 + x1), σ)
set_option maxRecDepth 20000 in
set_option maxHeartbeats 2000000 in
theorem corMt_floorMod {Ω : Om} (N : Nat) (x0 : Int32) (x1 : Int32) (σ : Me) : Cor Ω tMt_floorMod 1 0 0 [vI x0, vI x1] σ ιI (fMt_floorMod N x0 x1 σ) := by
  refine Cor.of (by decide +kernel) (Nat.le_of_ble_eq_true rfl) (fun Γ hG => ?_)
  unfold fMt_floorMod
  show Sim Ω Γ 0 0 ιI 3 0 [(0, vI x0), (1, vI x1)] [] σ 0 0 _
  refine s_iload_n hG dMt_floorMod_0 rfl ?_
  refine s_iload_n hG dMt_floorMod_1 rfl ?_
  refine s_irem hG dMt_floorMod_2 (fun v2 => ?_)
  refine s_istore_n hG dMt_floorMod_3 (by decide) ?_
  refine s_iload_n hG dMt_floorMod_4 rfl ?_
  refine s_iload_n hG dMt_floorMod_5 rfl ?_
  refine s_ixor hG dMt_floorMod_6 ?_
  refine s_if_ge hG 18 dMt_floorMod_7 (by decide) ?_ ?_
  · refine s_iload_n hG dMt_floorMod_18 rfl ?_
    exact s_iret hG dMt_floorMod_19 rfl (Nat.le_of_ble_eq_true rfl) (Nat.le_of_ble_eq_true rfl)
  · refine s_iload_n hG dMt_floorMod_10 rfl ?_
    refine s_if_eq hG 18 dMt_floorMod_11 (by decide) ?_ ?_
    · refine s_iload_n hG dMt_floorMod_18 rfl ?_
      exact s_iret hG dMt_floorMod_19 rfl (Nat.le_of_ble_eq_true rfl) (Nat.le_of_ble_eq_true rfl)
    · refine s_iload_n hG dMt_floorMod_14 rfl ?_
      refine s_iload_n hG dMt_floorMod_15 rfl ?_
      refine s_iadd hG dMt_floorMod_16 ?_
      exact s_iret hG dMt_floorMod_17 rfl (Nat.le_of_ble_eq_true rfl) (Nat.le_of_ble_eq_true rfl)
def fc2_has (N : Nat) (a0 : Nat) (x1 : Int32) (σ : Me) : Option (Int32 × Me) :=
  if x1 < 0 then
    retZ (0 : Int32) σ
  else
    (qI σ 2 5 (some a0)).bind fun v6 =>
    if v6 ≤ x1 then
      retZ (0 : Int32) σ
    else
      retZ (1 : Int32) σ
set_option maxRecDepth 20000 in
set_option maxHeartbeats 2000000 in
theorem corc2_has {Ω : Om} (N : Nat) (a0 : Nat) (x1 : Int32) (σ : Me) : Cor Ω tc2_has 1 0 0 [vR (some a0), vI x1] σ ιI (fc2_has N a0 x1 σ) := by
  refine Cor.of (by decide +kernel) (Nat.le_of_ble_eq_true rfl) (fun Γ hG => ?_)
  unfold fc2_has
  show Sim Ω Γ 0 0 ιI 2 0 [(0, vR (some a0)), (1, vI x1)] [] σ 0 0 _
  refine s_iload_n hG dc2_has_0 rfl ?_
  refine s_if_lt hG 16 dc2_has_1 (by decide) ?_ ?_
  · refine s_iconst (v := 0) hG dc2_has_16 (by decide) ?_
    exact s_zret hG dc2_has_17 rfl (Nat.le_of_ble_eq_true rfl) (Nat.le_of_ble_eq_true rfl)
  · refine s_iload_n hG dc2_has_4 rfl ?_
    refine s_aload_n hG dc2_has_5 rfl ?_
    refine s_getI hG kFc2_33 rfl dc2_has_6 (fun v6 => ?_)
    refine s_icmp_ge hG 16 dc2_has_9 (by decide) ?_ ?_
    · refine s_iconst (v := 0) hG dc2_has_16 (by decide) ?_
      exact s_zret hG dc2_has_17 rfl (Nat.le_of_ble_eq_true rfl) (Nat.le_of_ble_eq_true rfl)
    · refine s_iconst (v := 1) hG dc2_has_12 (by decide) ?_
      refine s_goto hG 17 dc2_has_13 (by decide) ?_
      exact s_zret hG dc2_has_17 rfl (Nat.le_of_ble_eq_true rfl) (Nat.le_of_ble_eq_true rfl)
def fc2_withInterest (N : Nat) (a0 : Nat) (x1 : Int32) (σ : Me) : Option (Int32 × Me) :=
  (qI σ 2 6 (some a0)).bind fun v6 =>
  (dvI (x1 * v6) (10 : Int32)).bind fun v12 =>
  (fMt_min N (999 : Int32) (x1 + v12) σ).bind fun p14 =>
  some (p14.1, p14.2)
set_option maxRecDepth 20000 in
set_option maxHeartbeats 2000000 in
theorem corc2_withInterest {Ω : Om} (N : Nat) (a0 : Nat) (x1 : Int32) (σ : Me) : Cor Ω tc2_withInterest 2 0 0 [vR (some a0), vI x1] σ ιI (fc2_withInterest N a0 x1 σ) := by
  refine Cor.of (by decide +kernel) (Nat.le_of_ble_eq_true rfl) (fun Γ hG => ?_)
  unfold fc2_withInterest
  show Sim Ω Γ 0 0 ιI 2 0 [(0, vR (some a0)), (1, vI x1)] [] σ 0 0 _
  refine s_sipush (v := 999) hG dc2_withInterest_0 (by decide) ?_
  refine s_iload_n hG dc2_withInterest_3 rfl ?_
  refine s_iload_n hG dc2_withInterest_4 rfl ?_
  refine s_aload_n hG dc2_withInterest_5 rfl ?_
  refine s_getI hG kFc2_37 rfl dc2_withInterest_6 (fun v6 => ?_)
  refine s_imul hG dc2_withInterest_9 ?_
  refine s_bipush (v := 10) hG dc2_withInterest_10 (by decide) ?_
  refine s_idiv hG dc2_withInterest_12 (fun v12 => ?_)
  refine s_iadd hG dc2_withInterest_13 ?_
  refine s_callSi hG kMc2_49 (corMt_min N _ _ _) rfl (by first | decide | omega) dc2_withInterest_14 rfl rfl (Nat.le_of_ble_eq_true rfl) ⟨Nat.le_of_ble_eq_true rfl, Nat.le_of_ble_eq_true rfl⟩ (fun p14 => ?_)
  exact s_iret hG dc2_withInterest_17 rfl (Nat.le_of_ble_eq_true rfl) (Nat.le_of_ble_eq_true rfl)
def fMt_abs (N : Nat) (x0 : Int32) (σ : Me) : Option (Int32 × Me) :=
  if 0 ≤ x0 then
    some (x0, σ)
  else
    some ((-x0), σ)
set_option maxRecDepth 20000 in
set_option maxHeartbeats 2000000 in
theorem corMt_abs {Ω : Om} (N : Nat) (x0 : Int32) (σ : Me) : Cor Ω tMt_abs 1 0 0 [vI x0] σ ιI (fMt_abs N x0 σ) := by
  refine Cor.of (by decide +kernel) (Nat.le_of_ble_eq_true rfl) (fun Γ hG => ?_)
  unfold fMt_abs
  show Sim Ω Γ 0 0 ιI 1 0 [(0, vI x0)] [] σ 0 0 _
  refine s_iload_n hG dMt_abs_0 rfl ?_
  refine s_if_ge hG 9 dMt_abs_1 (by decide) ?_ ?_
  · refine s_iload_n hG dMt_abs_9 rfl ?_
    exact s_iret hG dMt_abs_10 rfl (Nat.le_of_ble_eq_true rfl) (Nat.le_of_ble_eq_true rfl)
  · refine s_iload_n hG dMt_abs_4 rfl ?_
    refine s_ineg hG dMt_abs_5 ?_
    refine s_goto hG 10 dMt_abs_6 (by decide) ?_
    exact s_iret hG dMt_abs_10 rfl (Nat.le_of_ble_eq_true rfl) (Nat.le_of_ble_eq_true rfl)
def fIt_bitCount (N : Nat) (x0 : Int32) (σ : Me) : Option (Int32 × Me) :=
  some (((((((((x0 - ((((x0).toUInt32 >>> (((1 : Int32)).toUInt32 &&& Int32.toUInt32 31)).toInt32) &&& (1431655765 : Int32))) &&& (858993459 : Int32)) + (((((x0 - ((((x0).toUInt32 >>> (((1 : Int32)).toUInt32 &&& Int32.toUInt32 31)).toInt32) &&& (1431655765 : Int32)))).toUInt32 >>> (((2 : Int32)).toUInt32 &&& Int32.toUInt32 31)).toInt32) &&& (858993459 : Int32))) + ((((((x0 - ((((x0).toUInt32 >>> (((1 : Int32)).toUInt32 &&& Int32.toUInt32 31)).toInt32) &&& (1431655765 : Int32))) &&& (858993459 : Int32)) + (((((x0 - ((((x0).toUInt32 >>> (((1 : Int32)).toUInt32 &&& Int32.toUInt32 31)).toInt32) &&& (1431655765 : Int32)))).toUInt32 >>> (((2 : Int32)).toUInt32 &&& Int32.toUInt32 31)).toInt32) &&& (858993459 : Int32)))).toUInt32 >>> (((4 : Int32)).toUInt32 &&& Int32.toUInt32 31)).toInt32)) &&& (252645135 : Int32)) + ((((((((x0 - ((((x0).toUInt32 >>> (((1 : Int32)).toUInt32 &&& Int32.toUInt32 31)).toInt32) &&& (1431655765 : Int32))) &&& (858993459 : Int32)) + (((((x0 - ((((x0).toUInt32 >>> (((1 : Int32)).toUInt32 &&& Int32.toUInt32 31)).toInt32) &&& (1431655765 : Int32)))).toUInt32 >>> (((2 : Int32)).toUInt32 &&& Int32.toUInt32 31)).toInt32) &&& (858993459 : Int32))) + ((((((x0 - ((((x0).toUInt32 >>> (((1 : Int32)).toUInt32 &&& Int32.toUInt32 31)).toInt32) &&& (1431655765 : Int32))) &&& (858993459 : Int32)) + (((((x0 - ((((x0).toUInt32 >>> (((1 : Int32)).toUInt32 &&& Int32.toUInt32 31)).toInt32) &&& (1431655765 : Int32)))).toUInt32 >>> (((2 : Int32)).toUInt32 &&& Int32.toUInt32 31)).toInt32) &&& (858993459 : Int32)))).toUInt32 >>> (((4 : Int32)).toUInt32 &&& Int32.toUInt32 31)).toInt32)) &&& (252645135 : Int32))).toUInt32 >>> (((8 : Int32)).toUInt32 &&& Int32.toUInt32 31)).toInt32)) + (((((((((x0 - ((((x0).toUInt32 >>> (((1 : Int32)).toUInt32 &&& Int32.toUInt32 31)).toInt32) &&& (1431655765 : Int32))) &&& (858993459 : Int32)) + (((((x0 - ((((x0).toUInt32 >>> (((1 : Int32)).toUInt32 &&& Int32.toUInt32 31)).toInt32) &&& (1431655765 : Int32)))).toUInt32 >>> (((2 : Int32)).toUInt32 &&& Int32.toUInt32 31)).toInt32) &&& (858993459 : Int32))) + ((((((x0 - ((((x0).toUInt32 >>> (((1 : Int32)).toUInt32 &&& Int32.toUInt32 31)).toInt32) &&& (1431655765 : Int32))) &&& (858993459 : Int32)) + (((((x0 - ((((x0).toUInt32 >>> (((1 : Int32)).toUInt32 &&& Int32.toUInt32 31)).toInt32) &&& (1431655765 : Int32)))).toUInt32 >>> (((2 : Int32)).toUInt32 &&& Int32.toUInt32 31)).toInt32) &&& (858993459 : Int32)))).toUInt32 >>> (((4 : Int32)).toUInt32 &&& Int32.toUInt32 31)).toInt32)) &&& (252645135 : Int32)) + ((((((((x0 - ((((x0).toUInt32 >>> (((1 : Int32)).toUInt32 &&& Int32.toUInt32 31)).toInt32) &&& (1431655765 : Int32))) &&& (858993459 : Int32)) + (((((x0 - ((((x0).toUInt32 >>> (((1 : Int32)).toUInt32 &&& Int32.toUInt32 31)).toInt32) &&& (1431655765 : Int32)))).toUInt32 >>> (((2 : Int32)).toUInt32 &&& Int32.toUInt32 31)).toInt32) &&& (858993459 : Int32))) + ((((((x0 - ((((x0).toUInt32 >>> (((1 : Int32)).toUInt32 &&& Int32.toUInt32 31)).toInt32) &&& (1431655765 : Int32))) &&& (858993459 : Int32)) + (((((x0 - ((((x0).toUInt32 >>> (((1 : Int32)).toUInt32 &&& Int32.toUInt32 31)).toInt32) &&& (1431655765 : Int32)))).toUInt32 >>> (((2 : Int32)).toUInt32 &&& Int32.toUInt32 31)).toInt32) &&& (858993459 : Int32)))).toUInt32 >>> (((4 : Int32)).toUInt32 &&& Int32.toUInt32 31)).toInt32)) &&& (252645135 : Int32))).toUInt32 >>> (((8 : Int32)).toUInt32 &&& Int32.toUInt32 31)).toInt32))).toUInt32 >>> (((16 : Int32)).toUInt32 &&& Int32.toUInt32 31)).toInt32)) &&& (63 : Int32)), σ)
set_option maxRecDepth 20000 in
set_option maxHeartbeats 2000000 in
theorem corIt_bitCount {Ω : Om} (N : Nat) (x0 : Int32) (σ : Me) : Cor Ω tIt_bitCount 1 0 0 [vI x0] σ ιI (fIt_bitCount N x0 σ) := by
  refine Cor.of (by decide +kernel) (Nat.le_of_ble_eq_true rfl) (fun Γ hG => ?_)
  unfold fIt_bitCount
  show Sim Ω Γ 0 0 ιI 1 0 [(0, vI x0)] [] σ 0 0 _
  refine s_iload_n hG dIt_bitCount_0 rfl ?_
  refine s_iload_n hG dIt_bitCount_1 rfl ?_
  refine s_iconst (v := 1) hG dIt_bitCount_2 (by decide) ?_
  refine s_iushr hG dIt_bitCount_3 ?_
  refine s_ldcw hG dIt_bitCount_4 kIIt_265 ?_
  refine s_iand hG dIt_bitCount_7 ?_
  refine s_isub hG dIt_bitCount_8 ?_
  refine s_istore_n hG dIt_bitCount_9 (by decide) ?_
  refine s_iload_n hG dIt_bitCount_10 rfl ?_
  refine s_ldcw hG dIt_bitCount_11 kIIt_266 ?_
  refine s_iand hG dIt_bitCount_14 ?_
  refine s_iload_n hG dIt_bitCount_15 rfl ?_
  refine s_iconst (v := 2) hG dIt_bitCount_16 (by decide) ?_
  refine s_iushr hG dIt_bitCount_17 ?_
  refine s_ldcw hG dIt_bitCount_18 kIIt_266 ?_
  refine s_iand hG dIt_bitCount_21 ?_
  refine s_iadd hG dIt_bitCount_22 ?_
  refine s_istore_n hG dIt_bitCount_23 (by decide) ?_
  refine s_iload_n hG dIt_bitCount_24 rfl ?_
  refine s_iload_n hG dIt_bitCount_25 rfl ?_
  refine s_iconst (v := 4) hG dIt_bitCount_26 (by decide) ?_
  refine s_iushr hG dIt_bitCount_27 ?_
  refine s_iadd hG dIt_bitCount_28 ?_
  refine s_ldcw hG dIt_bitCount_29 kIIt_267 ?_
  refine s_iand hG dIt_bitCount_32 ?_
  refine s_istore_n hG dIt_bitCount_33 (by decide) ?_
  refine s_iload_n hG dIt_bitCount_34 rfl ?_
  refine s_iload_n hG dIt_bitCount_35 rfl ?_
  refine s_bipush (v := 8) hG dIt_bitCount_36 (by decide) ?_
  refine s_iushr hG dIt_bitCount_38 ?_
  refine s_iadd hG dIt_bitCount_39 ?_
  refine s_istore_n hG dIt_bitCount_40 (by decide) ?_
  refine s_iload_n hG dIt_bitCount_41 rfl ?_
  refine s_iload_n hG dIt_bitCount_42 rfl ?_
  refine s_bipush (v := 16) hG dIt_bitCount_43 (by decide) ?_
  refine s_iushr hG dIt_bitCount_45 ?_
  refine s_iadd hG dIt_bitCount_46 ?_
  refine s_istore_n hG dIt_bitCount_47 (by decide) ?_
  refine s_iload_n hG dIt_bitCount_48 rfl ?_
  refine s_bipush (v := 63) hG dIt_bitCount_49 (by decide) ?_
  refine s_iand hG dIt_bitCount_51 ?_
  exact s_iret hG dIt_bitCount_52 rfl (Nat.le_of_ble_eq_true rfl) (Nat.le_of_ble_eq_true rfl)
def fMt_min2 (N : Nat) (x0 : Int64) (x2 : Int64) (σ : Me) : Option (Int64 × Me) :=
  if 0 < (lg_cmp x0 x2) then
    some (x2, σ)
  else
    some (x0, σ)
set_option maxRecDepth 20000 in
set_option maxHeartbeats 2000000 in
theorem corMt_min2 {Ω : Om} (N : Nat) (x0 : Int64) (x2 : Int64) (σ : Me) : Cor Ω tMt_min2 1 0 0 [vL x0, vL x2] σ ιL (fMt_min2 N x0 x2 σ) := by
  refine Cor.of (by decide +kernel) (Nat.le_of_ble_eq_true rfl) (fun Γ hG => ?_)
  unfold fMt_min2
  show Sim Ω Γ 0 0 ιL 4 0 [(0, vL x0), (2, vL x2)] [] σ 0 0 _
  refine s_lload_n hG dMt_min2_0 rfl ?_
  refine s_lload_n hG dMt_min2_1 rfl ?_
  refine s_lcmp hG dMt_min2_2 ?_
  refine s_if_gt hG 10 dMt_min2_3 (by decide) ?_ ?_
  · refine s_lload_n hG dMt_min2_10 rfl ?_
    exact s_lret hG dMt_min2_11 rfl (Nat.le_of_ble_eq_true rfl) (Nat.le_of_ble_eq_true rfl)
  · refine s_lload_n hG dMt_min2_6 rfl ?_
    refine s_goto hG 11 dMt_min2_7 (by decide) ?_
    exact s_lret hG dMt_min2_11 rfl (Nat.le_of_ble_eq_true rfl) (Nat.le_of_ble_eq_true rfl)
def fMt_max2 (N : Nat) (x0 : Int64) (x2 : Int64) (σ : Me) : Option (Int64 × Me) :=
  if (lg_cmp x0 x2) < 0 then
    some (x2, σ)
  else
    some (x0, σ)
set_option maxRecDepth 20000 in
set_option maxHeartbeats 2000000 in
theorem corMt_max2 {Ω : Om} (N : Nat) (x0 : Int64) (x2 : Int64) (σ : Me) : Cor Ω tMt_max2 1 0 0 [vL x0, vL x2] σ ιL (fMt_max2 N x0 x2 σ) := by
  refine Cor.of (by decide +kernel) (Nat.le_of_ble_eq_true rfl) (fun Γ hG => ?_)
  unfold fMt_max2
  show Sim Ω Γ 0 0 ιL 4 0 [(0, vL x0), (2, vL x2)] [] σ 0 0 _
  refine s_lload_n hG dMt_max2_0 rfl ?_
  refine s_lload_n hG dMt_max2_1 rfl ?_
  refine s_lcmp hG dMt_max2_2 ?_
  refine s_if_lt hG 10 dMt_max2_3 (by decide) ?_ ?_
  · refine s_lload_n hG dMt_max2_10 rfl ?_
    exact s_lret hG dMt_max2_11 rfl (Nat.le_of_ble_eq_true rfl) (Nat.le_of_ble_eq_true rfl)
  · refine s_lload_n hG dMt_max2_6 rfl ?_
    refine s_goto hG 11 dMt_max2_7 (by decide) ?_
    exact s_lret hG dMt_max2_11 rfl (Nat.le_of_ble_eq_true rfl) (Nat.le_of_ble_eq_true rfl)
