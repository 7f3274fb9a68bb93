def fc12_forgive (N : Nat) (a0 : Nat) (x1 : Int32) (x2 : Int32) (σ : Me) : Option (Int32 × Me) :=
  (pI σ 12 0 (some a0) (0 : Int32)).bind fun σ2 =>
  (qR σ2 12 28 (some a0)).bind fun v7 =>
  (dr σ2 (some a0) (.inl 12)).bind fun a =>
  (fc12_canForgive N a v7 x1 x2 σ2).bind fun p12 =>
  if p12.1 = 0 then
    some ((-1 : Int32), p12.2)
  else
    (dr p12.2 (some a0) (.inl 12)).bind fun a =>
    (fc12_remember N a p12.2).bind fun p21 =>
    (qR p21.2 12 28 (some a0)).bind fun v26 =>
    (dr p21.2 (some a0) (.inl 12)).bind fun a =>
    (fc12_forgives N a v26 x1 x2 p21.2).bind fun p31 =>
    (qR p31.2 12 28 (some a0)).bind fun v35 =>
    (ldI p31.2 v35 (((4 : Int32) * x1) + (0 : Int32))).bind fun v43 =>
    some (v43, p31.2)
set_option maxRecDepth 20000 in
set_option maxHeartbeats 2000000 in
theorem corc12_forgive {Ω : Om} (N : Nat) (a0 : Nat) (x1 : Int32) (x2 : Int32) (σ : Me) : Cor Ω tc12_forgive 3 0 0 [vR (some a0), vI x1, vI x2] σ ιI (fc12_forgive N a0 x1 x2 σ) := by
  refine Cor.of (by decide +kernel) (Nat.le_of_ble_eq_true rfl) (fun Γ hG => ?_)
  unfold fc12_forgive
  show Sim Ω Γ 0 0 ιI 3 0 [(0, vR (some a0)), (1, vI x1), (2, vI x2)] [] σ 0 0 _
  refine s_aload_n hG dc12_forgive_0 rfl ?_
  refine s_iconst (v := 0) hG dc12_forgive_1 (by decide) ?_
  refine s_putI (fin := false) hG kFc12_100 rfl (fun h => by cases h) rfl (fun _ => rfl) (fun _ => rfl) dc12_forgive_2 (fun σ2 => ?_)
  refine s_aload_n hG dc12_forgive_5 rfl ?_
  refine s_aload_n hG dc12_forgive_6 rfl ?_
  refine s_getR hG kFc12_55 rfl dc12_forgive_7 (fun v7 => ?_)
  refine s_iload_n hG dc12_forgive_10 rfl ?_
  refine s_iload_n hG dc12_forgive_11 rfl ?_
  refine s_callVi hG kMc12_379 (fun a => corc12_canForgive N a _ _ _ _) ⟨by decide, rfl⟩ rfl (by first | decide | omega) dc12_forgive_12 rfl rfl (Nat.le_of_ble_eq_true rfl) ⟨Nat.le_of_ble_eq_true rfl, Nat.le_of_ble_eq_true rfl⟩ (fun p12 => ?_)
  refine s_if_ne hG 20 dc12_forgive_15 (by decide) ?_ ?_
  · refine s_aload_n hG dc12_forgive_20 rfl ?_
    refine s_callVv hG kMc12_366 (fun a => corc12_remember N a _) ⟨by decide, rfl⟩ rfl (by first | decide | omega) dc12_forgive_21 rfl rfl (Nat.le_of_ble_eq_true rfl) ⟨Nat.le_of_ble_eq_true rfl, Nat.le_of_ble_eq_true rfl⟩ (fun p21 => ?_)
    refine s_aload_n hG dc12_forgive_24 rfl ?_
    refine s_aload_n hG dc12_forgive_25 rfl ?_
    refine s_getR hG kFc12_55 rfl dc12_forgive_26 (fun v26 => ?_)
    refine s_iload_n hG dc12_forgive_29 rfl ?_
    refine s_iload_n hG dc12_forgive_30 rfl ?_
    refine s_callVv hG kMc12_383 (fun a => corc12_forgives N a _ _ _ _) ⟨by decide, rfl⟩ rfl (by first | decide | omega) dc12_forgive_31 rfl rfl (Nat.le_of_ble_eq_true rfl) ⟨Nat.le_of_ble_eq_true rfl, Nat.le_of_ble_eq_true rfl⟩ (fun p31 => ?_)
    refine s_aload_n hG dc12_forgive_34 rfl ?_
    refine s_getR hG kFc12_55 rfl dc12_forgive_35 (fun v35 => ?_)
    refine s_iconst (v := 4) hG dc12_forgive_38 (by decide) ?_
    refine s_iload_n hG dc12_forgive_39 rfl ?_
    refine s_imul hG dc12_forgive_40 ?_
    refine s_iconst (v := 0) hG dc12_forgive_41 (by decide) ?_
    refine s_iadd hG dc12_forgive_42 ?_
    refine s_iald hG dc12_forgive_43 (fun v43 => ?_)
    exact s_iret hG dc12_forgive_44 rfl (Nat.le_of_ble_eq_true rfl) (Nat.le_of_ble_eq_true rfl)
  · refine s_iconst (v := -1) hG dc12_forgive_18 (by decide) ?_
    exact s_iret hG dc12_forgive_19 rfl (Nat.le_of_ble_eq_true rfl) (Nat.le_of_ble_eq_true rfl)
def fc12_canHedge_58 (N : Nat)  (σ : Me) : Option (Int32 × Me) :=
  retZ (1 : Int32) σ
def fc12_canHedge (N : Nat) (a0 : Nat) (x1 : Option Nat) (x2 : Int32) (σ : Me) : Option (Int32 × Me) :=
  (dr σ (some a0) (.inl 12)).bind fun a =>
  (fc12_isField N a x2 σ).bind fun p2 =>
  if p2.1 = 0 then
    retZ (0 : Int32) p2.2
  else
    (qI p2.2 12 24 (some a0)).bind fun v12 =>
    if (x2 + (1 : Int32)) = v12 then
      retZ (0 : Int32) p2.2
    else
      (ldI p2.2 x1 (((4 : Int32) * x2) + (0 : Int32))).bind fun v26 =>
      (ldI p2.2 x1 ((((4 : Int32) * x2) + (4 : Int32)) + (0 : Int32))).bind fun v35 =>
      if v26 = v35 then
        (ldI p2.2 x1 (((4 : Int32) * x2) + (1 : Int32))).bind fun v45 =>
        (ldI p2.2 x1 ((((4 : Int32) * x2) + (4 : Int32)) + (1 : Int32))).bind fun v54 =>
        if v45 = v54 then
          retZ (0 : Int32) p2.2
        else
          fc12_canHedge_58 N  p2.2
      else
        fc12_canHedge_58 N  p2.2
set_option maxRecDepth 20000 in
set_option maxHeartbeats 2000000 in
theorem pc12_canHedge_58 {Ω : Om} {Γ : Ga} {N : Nat} (hG : Good Ω Γ tc12_canHedge 2 0 0)  (σ : Me) : Sim Ω Γ 0 0 ιI 3 58 [] [] σ 0 0 (fc12_canHedge_58 N  σ) := by
  unfold fc12_canHedge_58
  refine s_iconst (v := 1) hG dc12_canHedge_58 (by decide) ?_
  refine s_goto hG 63 dc12_canHedge_59 (by decide) ?_
  exact s_zret hG dc12_canHedge_63 rfl (Nat.le_of_ble_eq_true rfl) (Nat.le_of_ble_eq_true rfl)
set_option maxRecDepth 20000 in
set_option maxHeartbeats 2000000 in
theorem corc12_canHedge {Ω : Om} (N : Nat) (a0 : Nat) (x1 : Option Nat) (x2 : Int32) (σ : Me) : Cor Ω tc12_canHedge 2 0 0 [vR (some a0), vR x1, vI x2] σ ιI (fc12_canHedge N a0 x1 x2 σ) := by
  refine Cor.of (by decide +kernel) (Nat.le_of_ble_eq_true rfl) (fun Γ hG => ?_)
  unfold fc12_canHedge
  show Sim Ω Γ 0 0 ιI 3 0 [(0, vR (some a0)), (1, vR x1), (2, vI x2)] [] σ 0 0 _
  refine s_aload_n hG dc12_canHedge_0 rfl ?_
  refine s_iload_n hG dc12_canHedge_1 rfl ?_
  refine s_callVi hG kMc12_353 (fun a => corc12_isField N a _ _) ⟨by decide, rfl⟩ rfl (by first | decide | omega) dc12_canHedge_2 rfl rfl (Nat.le_of_ble_eq_true rfl) ⟨Nat.le_of_ble_eq_true rfl, Nat.le_of_ble_eq_true rfl⟩ (fun p2 => ?_)
  refine s_if_eq hG 18 dc12_canHedge_5 (by decide) ?_ ?_
  · refine s_iconst (v := 0) hG dc12_canHedge_18 (by decide) ?_
    exact s_zret hG dc12_canHedge_19 rfl (Nat.le_of_ble_eq_true rfl) (Nat.le_of_ble_eq_true rfl)
  · refine s_iload_n hG dc12_canHedge_8 rfl ?_
    refine s_iconst (v := 1) hG dc12_canHedge_9 (by decide) ?_
    refine s_iadd hG dc12_canHedge_10 ?_
    refine s_aload_n hG dc12_canHedge_11 rfl ?_
    refine s_getI hG kFc12_290 rfl dc12_canHedge_12 (fun v12 => ?_)
    refine s_icmp_ne hG 20 dc12_canHedge_15 (by decide) ?_ ?_
    · refine s_aload_n hG dc12_canHedge_20 rfl ?_
      refine s_iconst (v := 4) hG dc12_canHedge_21 (by decide) ?_
      refine s_iload_n hG dc12_canHedge_22 rfl ?_
      refine s_imul hG dc12_canHedge_23 ?_
      refine s_iconst (v := 0) hG dc12_canHedge_24 (by decide) ?_
      refine s_iadd hG dc12_canHedge_25 ?_
      refine s_iald hG dc12_canHedge_26 (fun v26 => ?_)
      refine s_aload_n hG dc12_canHedge_27 rfl ?_
      refine s_iconst (v := 4) hG dc12_canHedge_28 (by decide) ?_
      refine s_iload_n hG dc12_canHedge_29 rfl ?_
      refine s_imul hG dc12_canHedge_30 ?_
      refine s_iconst (v := 4) hG dc12_canHedge_31 (by decide) ?_
      refine s_iadd hG dc12_canHedge_32 ?_
      refine s_iconst (v := 0) hG dc12_canHedge_33 (by decide) ?_
      refine s_iadd hG dc12_canHedge_34 ?_
      refine s_iald hG dc12_canHedge_35 (fun v35 => ?_)
      refine s_icmp_ne hG 58 dc12_canHedge_36 (by decide) ?_ ?_
      · exact s_lv ln (pc12_canHedge_58 hG _)
      · refine s_aload_n hG dc12_canHedge_39 rfl ?_
        refine s_iconst (v := 4) hG dc12_canHedge_40 (by decide) ?_
        refine s_iload_n hG dc12_canHedge_41 rfl ?_
        refine s_imul hG dc12_canHedge_42 ?_
        refine s_iconst (v := 1) hG dc12_canHedge_43 (by decide) ?_
        refine s_iadd hG dc12_canHedge_44 ?_
        refine s_iald hG dc12_canHedge_45 (fun v45 => ?_)
        refine s_aload_n hG dc12_canHedge_46 rfl ?_
        refine s_iconst (v := 4) hG dc12_canHedge_47 (by decide) ?_
        refine s_iload_n hG dc12_canHedge_48 rfl ?_
        refine s_imul hG dc12_canHedge_49 ?_
        refine s_iconst (v := 4) hG dc12_canHedge_50 (by decide) ?_
        refine s_iadd hG dc12_canHedge_51 ?_
        refine s_iconst (v := 1) hG dc12_canHedge_52 (by decide) ?_
        refine s_iadd hG dc12_canHedge_53 ?_
        refine s_iald hG dc12_canHedge_54 (fun v54 => ?_)
        refine s_icmp_eq hG 62 dc12_canHedge_55 (by decide) ?_ ?_
        · refine s_iconst (v := 0) hG dc12_canHedge_62 (by decide) ?_
          exact s_zret hG dc12_canHedge_63 rfl (Nat.le_of_ble_eq_true rfl) (Nat.le_of_ble_eq_true rfl)
        · exact s_lv ln (pc12_canHedge_58 hG _)
    · refine s_iconst (v := 0) hG dc12_canHedge_18 (by decide) ?_
      exact s_zret hG dc12_canHedge_19 rfl (Nat.le_of_ble_eq_true rfl) (Nat.le_of_ble_eq_true rfl)
def fc12_hedges_2 (N : Nat) : Nat → Option Nat → Int32 → Int32 → Me → Option (Unit × Me)
  | 0, _, _, _, _ => none
  | n + 1, l0, l1, l2, σ =>
    if (2 : Int32) ≤ l2 then
      some ((), σ)
    else
      (ldI σ l0 (((4 : Int32) * l1) + l2)).bind fun v13 =>
      (ldI σ l0 ((((4 : Int32) * l1) + (4 : Int32)) + l2)).bind fun v29 =>
      (stI σ l0 (((4 : Int32) * l1) + l2) v29).bind fun σ30 =>
      (stI σ30 l0 ((((4 : Int32) * l1) + (4 : Int32)) + l2) v13).bind fun σ40 =>
      (fc12_hedges_2 N n) l0 l1 (l2 + (1 : Int32)) σ40
def fc12_hedges (N : Nat) (x0 : Option Nat) (x1 : Int32) (σ : Me) : Option (Unit × Me) :=
  fc12_hedges_2 N N x0 x1 (0 : Int32) σ
set_option maxRecDepth 20000 in
set_option maxHeartbeats 2000000 in
theorem pc12_hedges_2 {Ω : Om} {Γ : Ga} {N : Nat} (hG : Good Ω Γ tc12_hedges 1 0 0)  : ∀ (n : Nat) (l0 : Option Nat) (l1 : Int32) (l2 : Int32) (σ : Me), Sim Ω Γ 0 0 ιV 4 2 [(0, vR l0), (1, vI l1), (2, vI l2)] [] σ 0 0 (fc12_hedges_2 N n l0 l1 l2 σ) := by
  intro n
  induction n with
  | zero => intros; exact s_none
  | succ n ih =>
    intro l0 l1 l2 σ
    unfold fc12_hedges_2
    refine s_iload_n hG dc12_hedges_2 rfl ?_
    refine s_iconst (v := 2) hG dc12_hedges_3 (by decide) ?_
    refine s_icmp_ge hG 47 dc12_hedges_4 (by decide) ?_ ?_
    · exact s_vret hG dc12_hedges_47 rfl (Nat.le_of_ble_eq_true rfl) (Nat.le_of_ble_eq_true rfl)
    · refine s_aload_n hG dc12_hedges_7 rfl ?_
      refine s_iconst (v := 4) hG dc12_hedges_8 (by decide) ?_
      refine s_iload_n hG dc12_hedges_9 rfl ?_
      refine s_imul hG dc12_hedges_10 ?_
      refine s_iload_n hG dc12_hedges_11 rfl ?_
      refine s_iadd hG dc12_hedges_12 ?_
      refine s_iald hG dc12_hedges_13 (fun v13 => ?_)
      refine s_istore_n hG dc12_hedges_14 (by decide) ?_
      refine s_aload_n hG dc12_hedges_15 rfl ?_
      refine s_iconst (v := 4) hG dc12_hedges_16 (by decide) ?_
      refine s_iload_n hG dc12_hedges_17 rfl ?_
      refine s_imul hG dc12_hedges_18 ?_
      refine s_iload_n hG dc12_hedges_19 rfl ?_
      refine s_iadd hG dc12_hedges_20 ?_
      refine s_aload_n hG dc12_hedges_21 rfl ?_
      refine s_iconst (v := 4) hG dc12_hedges_22 (by decide) ?_
      refine s_iload_n hG dc12_hedges_23 rfl ?_
      refine s_imul hG dc12_hedges_24 ?_
      refine s_iconst (v := 4) hG dc12_hedges_25 (by decide) ?_
      refine s_iadd hG dc12_hedges_26 ?_
      refine s_iload_n hG dc12_hedges_27 rfl ?_
      refine s_iadd hG dc12_hedges_28 ?_
      refine s_iald hG dc12_hedges_29 (fun v29 => ?_)
      refine s_iast hG dc12_hedges_30 (fun σ30 => ?_)
      refine s_aload_n hG dc12_hedges_31 rfl ?_
      refine s_iconst (v := 4) hG dc12_hedges_32 (by decide) ?_
      refine s_iload_n hG dc12_hedges_33 rfl ?_
      refine s_imul hG dc12_hedges_34 ?_
      refine s_iconst (v := 4) hG dc12_hedges_35 (by decide) ?_
      refine s_iadd hG dc12_hedges_36 ?_
      refine s_iload_n hG dc12_hedges_37 rfl ?_
      refine s_iadd hG dc12_hedges_38 ?_
      refine s_iload_n hG dc12_hedges_39 rfl ?_
      refine s_iast hG dc12_hedges_40 (fun σ40 => ?_)
      refine s_iinc (v := 1) hG dc12_hedges_41 rfl (by decide) (by decide) ?_
      refine s_goto hG 2 dc12_hedges_44 (by decide) ?_
      exact s_lv (lc rfl (lc rfl (lc rfl ln))) (ih _ _ _ _)
set_option maxRecDepth 20000 in
set_option maxHeartbeats 2000000 in
theorem corc12_hedges {Ω : Om} (N : Nat) (x0 : Option Nat) (x1 : Int32) (σ : Me) : Cor Ω tc12_hedges 1 0 0 [vR x0, vI x1] σ ιV (fc12_hedges N x0 x1 σ) := by
  refine Cor.of (by decide +kernel) (Nat.le_of_ble_eq_true rfl) (fun Γ hG => ?_)
  unfold fc12_hedges
  show Sim Ω Γ 0 0 ιV 4 0 [(0, vR x0), (1, vI x1)] [] σ 0 0 _
  refine s_iconst (v := 0) hG dc12_hedges_0 (by decide) ?_
  refine s_istore_n hG dc12_hedges_1 (by decide) ?_
  exact s_lv (lc rfl (lc rfl (lc rfl ln))) (pc12_hedges_2 hG _ _ _ _ _)
def fc12_hedge (N : Nat) (a0 : Nat) (x1 : Int32) (σ : Me) : Option (Int32 × Me) :=
  (pI σ 12 0 (some a0) (0 : Int32)).bind fun σ2 =>
  (qR σ2 12 28 (some a0)).bind fun v7 =>
  (dr σ2 (some a0) (.inl 12)).bind fun a =>
  (fc12_canHedge N a v7 x1 σ2).bind fun p11 =>
  if p11.1 = 0 then
    some ((-1 : Int32), p11.2)
  else
    (dr p11.2 (some a0) (.inl 12)).bind fun a =>
    (fc12_remember N a p11.2).bind fun p20 =>
    (qR p20.2 12 28 (some a0)).bind fun v24 =>
    (fc12_hedges N v24 x1 p20.2).bind fun p28 =>
    (qR p28.2 12 28 (some a0)).bind fun v32 =>
    (ldI p28.2 v32 (((4 : Int32) * x1) + (0 : Int32))).bind fun v40 =>
    some (v40, p28.2)
set_option maxRecDepth 20000 in
set_option maxHeartbeats 2000000 in
theorem corc12_hedge {Ω : Om} (N : Nat) (a0 : Nat) (x1 : Int32) (σ : Me) : Cor Ω tc12_hedge 3 0 0 [vR (some a0), vI x1] σ ιI (fc12_hedge N a0 x1 σ) := by
  refine Cor.of (by decide +kernel) (Nat.le_of_ble_eq_true rfl) (fun Γ hG => ?_)
  unfold fc12_hedge
  show Sim Ω Γ 0 0 ιI 2 0 [(0, vR (some a0)), (1, vI x1)] [] σ 0 0 _
  refine s_aload_n hG dc12_hedge_0 rfl ?_
  refine s_iconst (v := 0) hG dc12_hedge_1 (by decide) ?_
  refine s_putI (fin := false) hG kFc12_100 rfl (fun h => by cases h) rfl (fun _ => rfl) (fun _ => rfl) dc12_hedge_2 (fun σ2 => ?_)
  refine s_aload_n hG dc12_hedge_5 rfl ?_
  refine s_aload_n hG dc12_hedge_6 rfl ?_
  refine s_getR hG kFc12_55 rfl dc12_hedge_7 (fun v7 => ?_)
  refine s_iload_n hG dc12_hedge_10 rfl ?_
  refine s_callVi hG kMc12_387 (fun a => corc12_canHedge N a _ _ _) ⟨by decide, rfl⟩ rfl (by first | decide | omega) dc12_hedge_11 rfl rfl (Nat.le_of_ble_eq_true rfl) ⟨Nat.le_of_ble_eq_true rfl, Nat.le_of_ble_eq_true rfl⟩ (fun p11 => ?_)
  refine s_if_ne hG 19 dc12_hedge_14 (by decide) ?_ ?_
  · refine s_aload_n hG dc12_hedge_19 rfl ?_
    refine s_callVv hG kMc12_366 (fun a => corc12_remember N a _) ⟨by decide, rfl⟩ rfl (by first | decide | omega) dc12_hedge_20 rfl rfl (Nat.le_of_ble_eq_true rfl) ⟨Nat.le_of_ble_eq_true rfl, Nat.le_of_ble_eq_true rfl⟩ (fun p20 => ?_)
    refine s_aload_n hG dc12_hedge_23 rfl ?_
    refine s_getR hG kFc12_55 rfl dc12_hedge_24 (fun v24 => ?_)
    refine s_iload_n hG dc12_hedge_27 rfl ?_
    refine s_callSv hG kMc12_391 (corc12_hedges N _ _ _) rfl (by first | decide | omega) dc12_hedge_28 rfl rfl (Nat.le_of_ble_eq_true rfl) ⟨Nat.le_of_ble_eq_true rfl, Nat.le_of_ble_eq_true rfl⟩ (fun p28 => ?_)
    refine s_aload_n hG dc12_hedge_31 rfl ?_
    refine s_getR hG kFc12_55 rfl dc12_hedge_32 (fun v32 => ?_)
    refine s_iconst (v := 4) hG dc12_hedge_35 (by decide) ?_
    refine s_iload_n hG dc12_hedge_36 rfl ?_
    refine s_imul hG dc12_hedge_37 ?_
    refine s_iconst (v := 0) hG dc12_hedge_38 (by decide) ?_
    refine s_iadd hG dc12_hedge_39 ?_
    refine s_iald hG dc12_hedge_40 (fun v40 => ?_)
    exact s_iret hG dc12_hedge_41 rfl (Nat.le_of_ble_eq_true rfl) (Nat.le_of_ble_eq_true rfl)
  · refine s_iconst (v := -1) hG dc12_hedge_17 (by decide) ?_
    exact s_iret hG dc12_hedge_18 rfl (Nat.le_of_ble_eq_true rfl) (Nat.le_of_ble_eq_true rfl)
def fc12_canFill (N : Nat) (a0 : Nat) (x1 : Option Nat) (x2 : Int32) (σ : Me) : Option (Int32 × Me) :=
  (dr σ (some a0) (.inl 12)).bind fun a =>
  (fc12_isField N a x2 σ).bind fun p2 =>
  if p2.1 = 0 then
    retZ (0 : Int32) p2.2
  else
    (ldI p2.2 x1 (((4 : Int32) * x2) + (3 : Int32))).bind fun v14 =>
    if v14 < (3 : Int32) then
      retZ (0 : Int32) p2.2
    else
      (ldI p2.2 x1 (((4 : Int32) * x2) + (2 : Int32))).bind fun v25 =>
      if (30 : Int32) ≤ v25 then
        retZ (0 : Int32) p2.2
      else
        retZ (1 : Int32) p2.2
set_option maxRecDepth 20000 in
set_option maxHeartbeats 2000000 in
theorem corc12_canFill {Ω : Om} (N : Nat) (a0 : Nat) (x1 : Option Nat) (x2 : Int32) (σ : Me) : Cor Ω tc12_canFill 2 0 0 [vR (some a0), vR x1, vI x2] σ ιI (fc12_canFill N a0 x1 x2 σ) := by
  refine Cor.of (by decide +kernel) (Nat.le_of_ble_eq_true rfl) (fun Γ hG => ?_)
  unfold fc12_canFill
  show Sim Ω Γ 0 0 ιI 3 0 [(0, vR (some a0)), (1, vR x1), (2, vI x2)] [] σ 0 0 _
  refine s_aload_n hG dc12_canFill_0 rfl ?_
  refine s_iload_n hG dc12_canFill_1 rfl ?_
  refine s_callVi hG kMc12_353 (fun a => corc12_isField N a _ _) ⟨by decide, rfl⟩ rfl (by first | decide | omega) dc12_canFill_2 rfl rfl (Nat.le_of_ble_eq_true rfl) ⟨Nat.le_of_ble_eq_true rfl, Nat.le_of_ble_eq_true rfl⟩ (fun p2 => ?_)
  refine s_if_eq hG 35 dc12_canFill_5 (by decide) ?_ ?_
  · refine s_iconst (v := 0) hG dc12_canFill_35 (by decide) ?_
    exact s_zret hG dc12_canFill_36 rfl (Nat.le_of_ble_eq_true rfl) (Nat.le_of_ble_eq_true rfl)
  · refine s_aload_n hG dc12_canFill_8 rfl ?_
    refine s_iconst (v := 4) hG dc12_canFill_9 (by decide) ?_
    refine s_iload_n hG dc12_canFill_10 rfl ?_
    refine s_imul hG dc12_canFill_11 ?_
    refine s_iconst (v := 3) hG dc12_canFill_12 (by decide) ?_
    refine s_iadd hG dc12_canFill_13 ?_
    refine s_iald hG dc12_canFill_14 (fun v14 => ?_)
    refine s_iconst (v := 3) hG dc12_canFill_15 (by decide) ?_
    refine s_icmp_lt hG 35 dc12_canFill_16 (by decide) ?_ ?_
    · refine s_iconst (v := 0) hG dc12_canFill_35 (by decide) ?_
      exact s_zret hG dc12_canFill_36 rfl (Nat.le_of_ble_eq_true rfl) (Nat.le_of_ble_eq_true rfl)
    · refine s_aload_n hG dc12_canFill_19 rfl ?_
      refine s_iconst (v := 4) hG dc12_canFill_20 (by decide) ?_
      refine s_iload_n hG dc12_canFill_21 rfl ?_
      refine s_imul hG dc12_canFill_22 ?_
      refine s_iconst (v := 2) hG dc12_canFill_23 (by decide) ?_
      refine s_iadd hG dc12_canFill_24 ?_
      refine s_iald hG dc12_canFill_25 (fun v25 => ?_)
      refine s_bipush (v := 30) hG dc12_canFill_26 (by decide) ?_
      refine s_icmp_ge hG 35 dc12_canFill_28 (by decide) ?_ ?_
      · refine s_iconst (v := 0) hG dc12_canFill_35 (by decide) ?_
        exact s_zret hG dc12_canFill_36 rfl (Nat.le_of_ble_eq_true rfl) (Nat.le_of_ble_eq_true rfl)
      · refine s_iconst (v := 1) hG dc12_canFill_31 (by decide) ?_
        refine s_goto hG 36 dc12_canFill_32 (by decide) ?_
        exact s_zret hG dc12_canFill_36 rfl (Nat.le_of_ble_eq_true rfl) (Nat.le_of_ble_eq_true rfl)
def fc12_fills (N : Nat) (x0 : Option Nat) (x1 : Int32) (σ : Me) : Option (Unit × Me) :=
  (ldI σ x0 (((4 : Int32) * x1) + (3 : Int32))).bind fun v7 =>
  (stI σ x0 (((4 : Int32) * x1) + (3 : Int32)) (v7 - (3 : Int32))).bind fun σ10 =>
  (ldI σ10 x0 (((4 : Int32) * x1) + (2 : Int32))).bind fun v25 =>
  (fMt_min N (30 : Int32) (v25 + (2 : Int32)) σ10).bind fun p28 =>
  (stI p28.2 x0 (((4 : Int32) * x1) + (2 : Int32)) p28.1).bind fun σ31 =>
  some ((), σ31)
set_option maxRecDepth 20000 in
set_option maxHeartbeats 2000000 in
theorem corc12_fills {Ω : Om} (N : Nat) (x0 : Option Nat) (x1 : Int32) (σ : Me) : Cor Ω tc12_fills 2 0 0 [vR x0, vI x1] σ ιV (fc12_fills N x0 x1 σ) := by
  refine Cor.of (by decide +kernel) (Nat.le_of_ble_eq_true rfl) (fun Γ hG => ?_)
  unfold fc12_fills
  show Sim Ω Γ 0 0 ιV 2 0 [(0, vR x0), (1, vI x1)] [] σ 0 0 _
  refine s_aload_n hG dc12_fills_0 rfl ?_
  refine s_iconst (v := 4) hG dc12_fills_1 (by decide) ?_
  refine s_iload_n hG dc12_fills_2 rfl ?_
  refine s_imul hG dc12_fills_3 ?_
  refine s_iconst (v := 3) hG dc12_fills_4 (by decide) ?_
  refine s_iadd hG dc12_fills_5 ?_
  refine s_dup2 hG dc12_fills_6 rfl rfl ?_
  refine s_iald hG dc12_fills_7 (fun v7 => ?_)
  refine s_iconst (v := 3) hG dc12_fills_8 (by decide) ?_
  refine s_isub hG dc12_fills_9 ?_
  refine s_iast hG dc12_fills_10 (fun σ10 => ?_)
  refine s_aload_n hG dc12_fills_11 rfl ?_
  refine s_iconst (v := 4) hG dc12_fills_12 (by decide) ?_
  refine s_iload_n hG dc12_fills_13 rfl ?_
  refine s_imul hG dc12_fills_14 ?_
  refine s_iconst (v := 2) hG dc12_fills_15 (by decide) ?_
  refine s_iadd hG dc12_fills_16 ?_
  refine s_bipush (v := 30) hG dc12_fills_17 (by decide) ?_
  refine s_aload_n hG dc12_fills_19 rfl ?_
  refine s_iconst (v := 4) hG dc12_fills_20 (by decide) ?_
  refine s_iload_n hG dc12_fills_21 rfl ?_
  refine s_imul hG dc12_fills_22 ?_
  refine s_iconst (v := 2) hG dc12_fills_23 (by decide) ?_
  refine s_iadd hG dc12_fills_24 ?_
  refine s_iald hG dc12_fills_25 (fun v25 => ?_)
  refine s_iconst (v := 2) hG dc12_fills_26 (by decide) ?_
  refine s_iadd hG dc12_fills_27 ?_
  refine s_callSi hG kMc12_324 (corMt_min N _ _ _) rfl (by first | decide | omega) dc12_fills_28 rfl rfl (Nat.le_of_ble_eq_true rfl) ⟨Nat.le_of_ble_eq_true rfl, Nat.le_of_ble_eq_true rfl⟩ (fun p28 => ?_)
  refine s_iast hG dc12_fills_31 (fun σ31 => ?_)
  exact s_vret hG dc12_fills_32 rfl (Nat.le_of_ble_eq_true rfl) (Nat.le_of_ble_eq_true rfl)
def fc12_can (N : Nat) (a0 : Nat) (x1 : Int32) (σ : Me) : Option (Int32 × Me) :=
  (pI σ 12 0 (some a0) (0 : Int32)).bind fun σ2 =>
  (qR σ2 12 28 (some a0)).bind fun v7 =>
  (dr σ2 (some a0) (.inl 12)).bind fun a =>
  (fc12_canFill N a v7 x1 σ2).bind fun p11 =>
  if p11.1 = 0 then
    some ((-1 : Int32), p11.2)
  else
    (dr p11.2 (some a0) (.inl 12)).bind fun a =>
    (fc12_remember N a p11.2).bind fun p20 =>
    (qR p20.2 12 28 (some a0)).bind fun v24 =>
    (fc12_fills N v24 x1 p20.2).bind fun p28 =>
    (qR p28.2 12 28 (some a0)).bind fun v32 =>
    (ldI p28.2 v32 (((4 : Int32) * x1) + (2 : Int32))).bind fun v40 =>
    some (v40, p28.2)
set_option maxRecDepth 20000 in
set_option maxHeartbeats 2000000 in
theorem corc12_can {Ω : Om} (N : Nat) (a0 : Nat) (x1 : Int32) (σ : Me) : Cor Ω tc12_can 3 0 0 [vR (some a0), vI x1] σ ιI (fc12_can N a0 x1 σ) := by
  refine Cor.of (by decide +kernel) (Nat.le_of_ble_eq_true rfl) (fun Γ hG => ?_)
  unfold fc12_can
  show Sim Ω Γ 0 0 ιI 2 0 [(0, vR (some a0)), (1, vI x1)] [] σ 0 0 _
  refine s_aload_n hG dc12_can_0 rfl ?_
  refine s_iconst (v := 0) hG dc12_can_1 (by decide) ?_
  refine s_putI (fin := false) hG kFc12_100 rfl (fun h => by cases h) rfl (fun _ => rfl) (fun _ => rfl) dc12_can_2 (fun σ2 => ?_)
  refine s_aload_n hG dc12_can_5 rfl ?_
  refine s_aload_n hG dc12_can_6 rfl ?_
  refine s_getR hG kFc12_55 rfl dc12_can_7 (fun v7 => ?_)
  refine s_iload_n hG dc12_can_10 rfl ?_
  refine s_callVi hG kMc12_394 (fun a => corc12_canFill N a _ _ _) ⟨by decide, rfl⟩ rfl (by first | decide | omega) dc12_can_11 rfl rfl (Nat.le_of_ble_eq_true rfl) ⟨Nat.le_of_ble_eq_true rfl, Nat.le_of_ble_eq_true rfl⟩ (fun p11 => ?_)
  refine s_if_ne hG 19 dc12_can_14 (by decide) ?_ ?_
  · refine s_aload_n hG dc12_can_19 rfl ?_
    refine s_callVv hG kMc12_366 (fun a => corc12_remember N a _) ⟨by decide, rfl⟩ rfl (by first | decide | omega) dc12_can_20 rfl rfl (Nat.le_of_ble_eq_true rfl) ⟨Nat.le_of_ble_eq_true rfl, Nat.le_of_ble_eq_true rfl⟩ (fun p20 => ?_)
    refine s_aload_n hG dc12_can_23 rfl ?_
    refine s_getR hG kFc12_55 rfl dc12_can_24 (fun v24 => ?_)
    refine s_iload_n hG dc12_can_27 rfl ?_
    refine s_callSv hG kMc12_397 (corc12_fills N _ _ _) rfl (by first | decide | omega) dc12_can_28 rfl rfl (Nat.le_of_ble_eq_true rfl) ⟨Nat.le_of_ble_eq_true rfl, Nat.le_of_ble_eq_true rfl⟩ (fun p28 => ?_)
    refine s_aload_n hG dc12_can_31 rfl ?_
    refine s_getR hG kFc12_55 rfl dc12_can_32 (fun v32 => ?_)
    refine s_iconst (v := 4) hG dc12_can_35 (by decide) ?_
    refine s_iload_n hG dc12_can_36 rfl ?_
    refine s_imul hG dc12_can_37 ?_
    refine s_iconst (v := 2) hG dc12_can_38 (by decide) ?_
    refine s_iadd hG dc12_can_39 ?_
    refine s_iald hG dc12_can_40 (fun v40 => ?_)
    exact s_iret hG dc12_can_41 rfl (Nat.le_of_ble_eq_true rfl) (Nat.le_of_ble_eq_true rfl)
  · refine s_iconst (v := -1) hG dc12_can_17 (by decide) ?_
    exact s_iret hG dc12_can_18 rfl (Nat.le_of_ble_eq_true rfl) (Nat.le_of_ble_eq_true rfl)
def fc12_price (N : Nat) (a0 : Nat) (x1 : Int32) (σ : Me) : Option (Int32 × Me) :=
  (pI σ 12 0 (some a0) (0 : Int32)).bind fun σ2 =>
  (qI σ2 12 24 (some a0)).bind fun v6 =>
  if v6 = 0 then
    some ((-1 : Int32), σ2)
  else
    (fc12_isIn N (Int32.toInt64 x1) (0 : Int64) (30 : Int64) σ2).bind fun p18 =>
    if p18.1 = 0 then
      some ((-1 : Int32), p18.2)
    else
      (qR p18.2 12 28 (some a0)).bind fun v25 =>
      (ldI p18.2 v25 (24 : Int32)).bind fun v30 =>
      if v30 = x1 then
        some ((-1 : Int32), p18.2)
      else
        (dr p18.2 (some a0) (.inl 12)).bind fun a =>
        (fc12_remember N a p18.2).bind fun p38 =>
        (qR p38.2 12 28 (some a0)).bind fun v42 =>
        (ldI p38.2 v42 (24 : Int32)).bind fun v47 =>
        (qR p38.2 12 28 (some a0)).bind fun v50 =>
        (stI p38.2 v50 (24 : Int32) x1).bind fun σ56 =>
        some (v47, σ56)
set_option maxRecDepth 20000 in
set_option maxHeartbeats 2000000 in
theorem corc12_price {Ω : Om} (N : Nat) (a0 : Nat) (x1 : Int32) (σ : Me) : Cor Ω tc12_price 2 0 0 [vR (some a0), vI x1] σ ιI (fc12_price N a0 x1 σ) := by
  refine Cor.of (by decide +kernel) (Nat.le_of_ble_eq_true rfl) (fun Γ hG => ?_)
  unfold fc12_price
  show Sim Ω Γ 0 0 ιI 3 0 [(0, vR (some a0)), (1, vI x1)] [] σ 0 0 _
  refine s_aload_n hG dc12_price_0 rfl ?_
  refine s_iconst (v := 0) hG dc12_price_1 (by decide) ?_
  refine s_putI (fin := false) hG kFc12_100 rfl (fun h => by cases h) rfl (fun _ => rfl) (fun _ => rfl) dc12_price_2 (fun σ2 => ?_)
  refine s_aload_n hG dc12_price_5 rfl ?_
  refine s_getI hG kFc12_290 rfl dc12_price_6 (fun v6 => ?_)
  refine s_if_eq hG 35 dc12_price_9 (by decide) ?_ ?_
  · refine s_iconst (v := -1) hG dc12_price_35 (by decide) ?_
    exact s_iret hG dc12_price_36 rfl (Nat.le_of_ble_eq_true rfl) (Nat.le_of_ble_eq_true rfl)
  · refine s_iload_n hG dc12_price_12 rfl ?_
    refine s_i2l hG dc12_price_13 ?_
    refine s_lconst (v := 0) hG dc12_price_14 (by decide) ?_
    refine s_ldc2 hG dc12_price_15 kJc12_400 ?_
    refine s_callSi hG kMc12_221 (corc12_isIn N _ _ _ _) rfl (by first | decide | omega) dc12_price_18 rfl rfl (Nat.le_of_ble_eq_true rfl) ⟨Nat.le_of_ble_eq_true rfl, Nat.le_of_ble_eq_true rfl⟩ (fun p18 => ?_)
    refine s_if_eq hG 35 dc12_price_21 (by decide) ?_ ?_
    · refine s_iconst (v := -1) hG dc12_price_35 (by decide) ?_
      exact s_iret hG dc12_price_36 rfl (Nat.le_of_ble_eq_true rfl) (Nat.le_of_ble_eq_true rfl)
    · refine s_aload_n hG dc12_price_24 rfl ?_
      refine s_getR hG kFc12_55 rfl dc12_price_25 (fun v25 => ?_)
      refine s_bipush (v := 24) hG dc12_price_28 (by decide) ?_
      refine s_iald hG dc12_price_30 (fun v30 => ?_)
      refine s_iload_n hG dc12_price_31 rfl ?_
      refine s_icmp_ne hG 37 dc12_price_32 (by decide) ?_ ?_
      · refine s_aload_n hG dc12_price_37 rfl ?_
        refine s_callVv hG kMc12_366 (fun a => corc12_remember N a _) ⟨by decide, rfl⟩ rfl (by first | decide | omega) dc12_price_38 rfl rfl (Nat.le_of_ble_eq_true rfl) ⟨Nat.le_of_ble_eq_true rfl, Nat.le_of_ble_eq_true rfl⟩ (fun p38 => ?_)
        refine s_aload_n hG dc12_price_41 rfl ?_
        refine s_getR hG kFc12_55 rfl dc12_price_42 (fun v42 => ?_)
        refine s_bipush (v := 24) hG dc12_price_45 (by decide) ?_
        refine s_iald hG dc12_price_47 (fun v47 => ?_)
        refine s_istore_n hG dc12_price_48 (by decide) ?_
        refine s_aload_n hG dc12_price_49 rfl ?_
        refine s_getR hG kFc12_55 rfl dc12_price_50 (fun v50 => ?_)
        refine s_bipush (v := 24) hG dc12_price_53 (by decide) ?_
        refine s_iload_n hG dc12_price_55 rfl ?_
        refine s_iast hG dc12_price_56 (fun σ56 => ?_)
        refine s_iload_n hG dc12_price_57 rfl ?_
        exact s_iret hG dc12_price_58 rfl (Nat.le_of_ble_eq_true rfl) (Nat.le_of_ble_eq_true rfl)
      · refine s_iconst (v := -1) hG dc12_price_35 (by decide) ?_
        exact s_iret hG dc12_price_36 rfl (Nat.le_of_ble_eq_true rfl) (Nat.le_of_ble_eq_true rfl)
def fc12_draw (N : Nat) (a0 : Nat) (x1 : Int32) (σ : Me) : Option (Int32 × Me) :=
  (qL σ 12 40 (some a0)).bind fun v2 =>
  (pL σ 12 40 (some a0) ((v2 * (6364136223846793005 : Int64)) + (1442695040888963407 : Int64))).bind fun σ13 =>
  (qL σ13 12 40 (some a0)).bind fun v17 =>
  (rmL (((v17).toUInt64 >>> (((33 : Int32)).toInt64.toUInt64 &&& Int64.toUInt64 63)).toInt64) (Int32.toInt64 x1)).bind fun v25 =>
  some ((Int64.toInt32 v25), σ13)
set_option maxRecDepth 20000 in
set_option maxHeartbeats 2000000 in
theorem corc12_draw {Ω : Om} (N : Nat) (a0 : Nat) (x1 : Int32) (σ : Me) : Cor Ω tc12_draw 1 0 0 [vR (some a0), vI x1] σ ιI (fc12_draw N a0 x1 σ) := by
  refine Cor.of (by decide +kernel) (Nat.le_of_ble_eq_true rfl) (fun Γ hG => ?_)
  unfold fc12_draw
  show Sim Ω Γ 0 0 ιI 2 0 [(0, vR (some a0)), (1, vI x1)] [] σ 0 0 _
  refine s_aload_n hG dc12_draw_0 rfl ?_
  refine s_aload_n hG dc12_draw_1 rfl ?_
  refine s_getL hG kFc12_402 rfl dc12_draw_2 (fun v2 => ?_)
  refine s_ldc2 hG dc12_draw_5 kJc12_406 ?_
  refine s_lmul hG dc12_draw_8 ?_
  refine s_ldc2 hG dc12_draw_9 kJc12_408 ?_
  refine s_ladd hG dc12_draw_12 ?_
  refine s_putL (fin := false) hG kFc12_402 rfl (fun h => by cases h) rfl (fun _ => rfl) (fun _ => rfl) dc12_draw_13 (fun σ13 => ?_)
  refine s_aload_n hG dc12_draw_16 rfl ?_
  refine s_getL hG kFc12_402 rfl dc12_draw_17 (fun v17 => ?_)
  refine s_bipush (v := 33) hG dc12_draw_20 (by decide) ?_
  refine s_lushr hG dc12_draw_22 ?_
  refine s_iload_n hG dc12_draw_23 rfl ?_
  refine s_i2l hG dc12_draw_24 ?_
  refine s_lrem hG dc12_draw_25 (fun v25 => ?_)
  refine s_l2i hG dc12_draw_26 ?_
  exact s_iret hG dc12_draw_27 rfl (Nat.le_of_ble_eq_true rfl) (Nat.le_of_ble_eq_true rfl)
def fc12_years_109 (N : Nat) (K49 : Option Nat → Int32 → Int32 → Me → Option (Int32 × Me)) (l0 : Option Nat) (l1 : Int32) (l4 : Int32) (σ : Me) : Option (Int32 × Me) :=
  (qR σ 12 28 l0).bind fun v111 =>
  (dr σ l0 (.inl 12)).bind fun a =>
  (fc12_draw N a (100 : Int32) σ).bind fun p117 =>
  (dr p117.2 l0 (.inl 12)).bind fun a =>
  (fc12_goYear N a v111 p117.1 p117.2).bind fun p120 =>
  K49 l0 l1 (l4 + (1 : Int32)) p120.2
def fc12_years_49 (N : Nat) : Nat → Option Nat → Int32 → Int32 → Me → Option (Int32 × Me)
  | 0, _, _, _, _ => none
  | n + 1, l0, l1, l4, σ =>
    if l1 ≤ l4 then
      (qR σ 12 28 l0).bind fun v130 =>
      (ldI σ v130 (25 : Int32)).bind fun v135 =>
      some (v135, σ)
    else
      (dr σ l0 (.inl 12)).bind fun a =>
      (fc12_remember N a σ).bind fun p56 =>
      (dr p56.2 l0 (.inl 12)).bind fun a =>
      (fc12_draw N a (10 : Int32) p56.2).bind fun p62 =>
      (qI p62.2 12 31 l0).bind fun v66 =>
      if v66 ≤ p62.1 then
        fc12_years_109 N (fc12_years_49 N n) l0 l1 l4 p62.2
      else
        (qI p62.2 12 24 l0).bind fun v74 =>
        (dr p62.2 l0 (.inl 12)).bind fun a =>
        (fc12_draw N a v74 p62.2).bind fun p77 =>
        (qR p77.2 12 28 l0).bind fun v83 =>
        (ldI p77.2 v83 (((4 : Int32) * p77.1) + (0 : Int32))).bind fun v93 =>
        (qR p77.2 12 28 l0).bind fun v95 =>
        (ldI p77.2 v95 (((4 : Int32) * p77.1) + (0 : Int32))).bind fun v104 =>
        (dvI v104 (2 : Int32)).bind fun v106 =>
        (stI p77.2 v83 (((4 : Int32) * p77.1) + (0 : Int32)) (v93 - v106)).bind fun σ108 =>
        fc12_years_109 N (fc12_years_49 N n) l0 l1 l4 σ108
def fc12_years (N : Nat) (a0 : Nat) (x1 : Int32) (x2 : Int64) (σ : Me) : Option (Int32 × Me) :=
  (pI σ 12 0 (some a0) (0 : Int32)).bind fun σ2 =>
  (qI σ2 12 24 (some a0)).bind fun v6 =>
  if v6 = 0 then
    some ((-1 : Int32), σ2)
  else
    (fc12_isIn N (Int32.toInt64 x1) (1 : Int64) (60 : Int64) σ2).bind fun p18 =>
    if p18.1 = 0 then
      some ((-1 : Int32), p18.2)
    else
      (qR p18.2 12 28 (some a0)).bind fun v25 =>
      (ldI p18.2 v25 (25 : Int32)).bind fun v30 =>
      if (v30 + x1) ≤ (999 : Int32) then
        (pL p18.2 12 40 (some a0) x2).bind fun σ43 =>
        fc12_years_49 N N (some a0) x1 (0 : Int32) σ43
      else
        some ((-1 : Int32), p18.2)
set_option maxRecDepth 20000 in
set_option maxHeartbeats 2000000 in
theorem pc12_years_109 {Ω : Om} {Γ : Ga} {N : Nat} (hG : Good Ω Γ tc12_years 142 0 0) {K49 : Option Nat → Int32 → Int32 → Me → Option (Int32 × Me)} (hK49 : ∀ (l0 : Option Nat) (l1 : Int32) (l4 : Int32) (σ : Me), Sim Ω Γ 0 0 ιI 6 49 [(0, vR l0), (1, vI l1), (4, vI l4)] [] σ 0 0 (K49 l0 l1 l4 σ)) (l0 : Option Nat) (l1 : Int32) (l4 : Int32) (σ : Me) : Sim Ω Γ 0 0 ιI 6 109 [(0, vR l0), (1, vI l1), (4, vI l4)] [] σ 0 0 (fc12_years_109 N K49 l0 l1 l4 σ) := by
  unfold fc12_years_109
  refine s_aload_n hG dc12_years_109 rfl ?_
  refine s_aload_n hG dc12_years_110 rfl ?_
  refine s_getR hG kFc12_55 rfl dc12_years_111 (fun v111 => ?_)
  refine s_aload_n hG dc12_years_114 rfl ?_
  refine s_bipush (v := 100) hG dc12_years_115 (by decide) ?_
  refine s_callVi hG kMc12_412 (fun a => corc12_draw N a _ _) ⟨by decide, rfl⟩ rfl (by first | decide | omega) dc12_years_117 rfl rfl (Nat.le_of_ble_eq_true rfl) ⟨Nat.le_of_ble_eq_true rfl, Nat.le_of_ble_eq_true rfl⟩ (fun p117 => ?_)
  refine s_callVv hG kMc12_349 (fun a => corc12_goYear N a _ _ _) ⟨by decide, rfl⟩ rfl (by first | decide | omega) dc12_years_120 rfl rfl (Nat.le_of_ble_eq_true rfl) ⟨Nat.le_of_ble_eq_true rfl, Nat.le_of_ble_eq_true rfl⟩ (fun p120 => ?_)
  refine s_iinc (v := 1) hG dc12_years_123 rfl (by decide) (by decide) ?_
  refine s_goto hG 49 dc12_years_126 (by decide) ?_
  exact s_lv (lc rfl (lc rfl (lc rfl ln))) (hK49 _ _ _ _)
set_option maxRecDepth 20000 in
set_option maxHeartbeats 2000000 in
theorem pc12_years_49 {Ω : Om} {Γ : Ga} {N : Nat} (hG : Good Ω Γ tc12_years 142 0 0)  : ∀ (n : Nat) (l0 : Option Nat) (l1 : Int32) (l4 : Int32) (σ : Me), Sim Ω Γ 0 0 ιI 6 49 [(0, vR l0), (1, vI l1), (4, vI l4)] [] σ 0 0 (fc12_years_49 N n l0 l1 l4 σ) := by
  intro n
  induction n with
  | zero => intros; exact s_none
  | succ n ih =>
    intro l0 l1 l4 σ
    unfold fc12_years_49
    refine s_iload hG dc12_years_49 rfl ?_
    refine s_iload_n hG dc12_years_51 rfl ?_
    refine s_icmp_ge hG 129 dc12_years_52 (by decide) ?_ ?_
    · refine s_aload_n hG dc12_years_129 rfl ?_
      refine s_getR hG kFc12_55 rfl dc12_years_130 (fun v130 => ?_)
      refine s_bipush (v := 25) hG dc12_years_133 (by decide) ?_
      refine s_iald hG dc12_years_135 (fun v135 => ?_)
      exact s_iret hG dc12_years_136 rfl (Nat.le_of_ble_eq_true rfl) (Nat.le_of_ble_eq_true rfl)
    · refine s_aload_n hG dc12_years_55 rfl ?_
      refine s_callVv hG kMc12_366 (fun a => corc12_remember N a _) ⟨by decide, rfl⟩ rfl (by first | decide | omega) dc12_years_56 rfl rfl (Nat.le_of_ble_eq_true rfl) ⟨Nat.le_of_ble_eq_true rfl, Nat.le_of_ble_eq_true rfl⟩ (fun p56 => ?_)
      refine s_aload_n hG dc12_years_59 rfl ?_
      refine s_bipush (v := 10) hG dc12_years_60 (by decide) ?_
      refine s_callVi hG kMc12_412 (fun a => corc12_draw N a _ _) ⟨by decide, rfl⟩ rfl (by first | decide | omega) dc12_years_62 rfl rfl (Nat.le_of_ble_eq_true rfl) ⟨Nat.le_of_ble_eq_true rfl, Nat.le_of_ble_eq_true rfl⟩ (fun p62 => ?_)
      refine s_aload_n hG dc12_years_65 rfl ?_
      refine s_getI hG kFc12_360 rfl dc12_years_66 (fun v66 => ?_)
      refine s_icmp_ge hG 109 dc12_years_69 (by decide) ?_ ?_
      · exact s_lv (lc rfl (lc rfl (lc rfl ln))) (pc12_years_109 hG ih _ _ _ _)
      · refine s_aload_n hG dc12_years_72 rfl ?_
        refine s_aload_n hG dc12_years_73 rfl ?_
        refine s_getI hG kFc12_290 rfl dc12_years_74 (fun v74 => ?_)
        refine s_callVi hG kMc12_412 (fun a => corc12_draw N a _ _) ⟨by decide, rfl⟩ rfl (by first | decide | omega) dc12_years_77 rfl rfl (Nat.le_of_ble_eq_true rfl) ⟨Nat.le_of_ble_eq_true rfl, Nat.le_of_ble_eq_true rfl⟩ (fun p77 => ?_)
        refine s_istore hG dc12_years_80 (by decide) ?_
        refine s_aload_n hG dc12_years_82 rfl ?_
        refine s_getR hG kFc12_55 rfl dc12_years_83 (fun v83 => ?_)
        refine s_iconst (v := 4) hG dc12_years_86 (by decide) ?_
        refine s_iload hG dc12_years_87 rfl ?_
        refine s_imul hG dc12_years_89 ?_
        refine s_iconst (v := 0) hG dc12_years_90 (by decide) ?_
        refine s_iadd hG dc12_years_91 ?_
        refine s_dup2 hG dc12_years_92 rfl rfl ?_
        refine s_iald hG dc12_years_93 (fun v93 => ?_)
        refine s_aload_n hG dc12_years_94 rfl ?_
        refine s_getR hG kFc12_55 rfl dc12_years_95 (fun v95 => ?_)
        refine s_iconst (v := 4) hG dc12_years_98 (by decide) ?_
        refine s_iload hG dc12_years_99 rfl ?_
        refine s_imul hG dc12_years_101 ?_
        refine s_iconst (v := 0) hG dc12_years_102 (by decide) ?_
        refine s_iadd hG dc12_years_103 ?_
        refine s_iald hG dc12_years_104 (fun v104 => ?_)
        refine s_iconst (v := 2) hG dc12_years_105 (by decide) ?_
        refine s_idiv hG dc12_years_106 (fun v106 => ?_)
        refine s_isub hG dc12_years_107 ?_
        refine s_iast hG dc12_years_108 (fun σ108 => ?_)
        exact s_lv (lc rfl (lc rfl (lc rfl ln))) (pc12_years_109 hG ih _ _ _ _)
set_option maxRecDepth 20000 in
set_option maxHeartbeats 2000000 in
theorem corc12_years {Ω : Om} (N : Nat) (a0 : Nat) (x1 : Int32) (x2 : Int64) (σ : Me) : Cor Ω tc12_years 142 0 0 [vR (some a0), vI x1, vL x2] σ ιI (fc12_years N a0 x1 x2 σ) := by
  refine Cor.of (by decide +kernel) (Nat.le_of_ble_eq_true rfl) (fun Γ hG => ?_)
  unfold fc12_years
  show Sim Ω Γ 0 0 ιI 6 0 [(0, vR (some a0)), (1, vI x1), (2, vL x2)] [] σ 0 0 _
  refine s_aload_n hG dc12_years_0 rfl ?_
  refine s_iconst (v := 0) hG dc12_years_1 (by decide) ?_
  refine s_putI (fin := false) hG kFc12_100 rfl (fun h => by cases h) rfl (fun _ => rfl) (fun _ => rfl) dc12_years_2 (fun σ2 => ?_)
  refine s_aload_n hG dc12_years_5 rfl ?_
  refine s_getI hG kFc12_290 rfl dc12_years_6 (fun v6 => ?_)
  refine s_if_eq hG 39 dc12_years_9 (by decide) ?_ ?_
  · refine s_iconst (v := -1) hG dc12_years_39 (by decide) ?_
    exact s_iret hG dc12_years_40 rfl (Nat.le_of_ble_eq_true rfl) (Nat.le_of_ble_eq_true rfl)
  · refine s_iload_n hG dc12_years_12 rfl ?_
    refine s_i2l hG dc12_years_13 ?_
    refine s_lconst (v := 1) hG dc12_years_14 (by decide) ?_
    refine s_ldc2 hG dc12_years_15 kJc12_410 ?_
    refine s_callSi hG kMc12_221 (corc12_isIn N _ _ _ _) rfl (by first | decide | omega) dc12_years_18 rfl rfl (Nat.le_of_ble_eq_true rfl) ⟨Nat.le_of_ble_eq_true rfl, Nat.le_of_ble_eq_true rfl⟩ (fun p18 => ?_)
    refine s_if_eq hG 39 dc12_years_21 (by decide) ?_ ?_
    · refine s_iconst (v := -1) hG dc12_years_39 (by decide) ?_
      exact s_iret hG dc12_years_40 rfl (Nat.le_of_ble_eq_true rfl) (Nat.le_of_ble_eq_true rfl)
    · refine s_aload_n hG dc12_years_24 rfl ?_
      refine s_getR hG kFc12_55 rfl dc12_years_25 (fun v25 => ?_)
      refine s_bipush (v := 25) hG dc12_years_28 (by decide) ?_
      refine s_iald hG dc12_years_30 (fun v30 => ?_)
      refine s_iload_n hG dc12_years_31 rfl ?_
      refine s_iadd hG dc12_years_32 ?_
      refine s_sipush (v := 999) hG dc12_years_33 (by decide) ?_
      refine s_icmp_le hG 41 dc12_years_36 (by decide) ?_ ?_
      · refine s_aload_n hG dc12_years_41 rfl ?_
        refine s_lload_n hG dc12_years_42 rfl ?_
        refine s_putL (fin := false) hG kFc12_402 rfl (fun h => by cases h) rfl (fun _ => rfl) (fun _ => rfl) dc12_years_43 (fun σ43 => ?_)
        refine s_iconst (v := 0) hG dc12_years_46 (by decide) ?_
        refine s_istore hG dc12_years_47 (by decide) ?_
        exact s_lv (lc rfl (lc rfl (lc rfl ln))) (pc12_years_49 hG _ _ _ _ _)
      · refine s_iconst (v := -1) hG dc12_years_39 (by decide) ?_
        exact s_iret hG dc12_years_40 rfl (Nat.le_of_ble_eq_true rfl) (Nat.le_of_ble_eq_true rfl)
def fc12_undo_26 (N : Nat) : Nat → Option Nat → Int32 → Me → Option (Int32 × Me)
  | 0, _, _, _ => none
  | n + 1, l0, l1, σ =>
    if (207 : Int32) ≤ l1 then
      (qI σ 12 39 l0).bind fun v61 =>
      some (v61, σ)
    else
      (qR σ 12 28 l0).bind fun v34 =>
      (qR σ 12 38 l0).bind fun v39 =>
      (qI σ 12 39 l0).bind fun v46 =>
      (ldI σ v39 (((207 : Int32) * v46) + l1)).bind fun v52 =>
      (stI σ v34 l1 v52).bind fun σ53 =>
      (fc12_undo_26 N n) l0 (l1 + (1 : Int32)) σ53
def fc12_undo (N : Nat) (a0 : Nat) (σ : Me) : Option (Int32 × Me) :=
  (pI σ 12 0 (some a0) (0 : Int32)).bind fun σ2 =>
  (qI σ2 12 39 (some a0)).bind fun v6 =>
  if v6 = 0 then
    some ((-1 : Int32), σ2)
  else
    (qI σ2 12 39 (some a0)).bind fun v16 =>
    (pI σ2 12 39 (some a0) (v16 - (1 : Int32))).bind fun σ21 =>
    fc12_undo_26 N N (some a0) (0 : Int32) σ21
set_option maxRecDepth 20000 in
set_option maxHeartbeats 2000000 in
theorem pc12_undo_26 {Ω : Om} {Γ : Ga} {N : Nat} (hG : Good Ω Γ tc12_undo 1 0 0)  : ∀ (n : Nat) (l0 : Option Nat) (l1 : Int32) (σ : Me), Sim Ω Γ 0 0 ιI 2 26 [(0, vR l0), (1, vI l1)] [] σ 0 0 (fc12_undo_26 N n l0 l1 σ) := by
  intro n
  induction n with
  | zero => intros; exact s_none
  | succ n ih =>
    intro l0 l1 σ
    unfold fc12_undo_26
    refine s_iload_n hG dc12_undo_26 rfl ?_
    refine s_sipush (v := 207) hG dc12_undo_27 (by decide) ?_
    refine s_icmp_ge hG 60 dc12_undo_30 (by decide) ?_ ?_
    · refine s_aload_n hG dc12_undo_60 rfl ?_
      refine s_getI hG kFc12_296 rfl dc12_undo_61 (fun v61 => ?_)
      exact s_iret hG dc12_undo_64 rfl (Nat.le_of_ble_eq_true rfl) (Nat.le_of_ble_eq_true rfl)
    · refine s_aload_n hG dc12_undo_33 rfl ?_
      refine s_getR hG kFc12_55 rfl dc12_undo_34 (fun v34 => ?_)
      refine s_iload_n hG dc12_undo_37 rfl ?_
      refine s_aload_n hG dc12_undo_38 rfl ?_
      refine s_getR hG kFc12_78 rfl dc12_undo_39 (fun v39 => ?_)
      refine s_sipush (v := 207) hG dc12_undo_42 (by decide) ?_
      refine s_aload_n hG dc12_undo_45 rfl ?_
      refine s_getI hG kFc12_296 rfl dc12_undo_46 (fun v46 => ?_)
      refine s_imul hG dc12_undo_49 ?_
      refine s_iload_n hG dc12_undo_50 rfl ?_
      refine s_iadd hG dc12_undo_51 ?_
      refine s_iald hG dc12_undo_52 (fun v52 => ?_)
      refine s_iast hG dc12_undo_53 (fun σ53 => ?_)
      refine s_iinc (v := 1) hG dc12_undo_54 rfl (by decide) (by decide) ?_
      refine s_goto hG 26 dc12_undo_57 (by decide) ?_
      exact s_lv (lc rfl (lc rfl ln)) (ih _ _ _)
set_option maxRecDepth 20000 in
set_option maxHeartbeats 2000000 in
theorem corc12_undo {Ω : Om} (N : Nat) (a0 : Nat) (σ : Me) : Cor Ω tc12_undo 1 0 0 [vR (some a0)] σ ιI (fc12_undo N a0 σ) := by
  refine Cor.of (by decide +kernel) (Nat.le_of_ble_eq_true rfl) (fun Γ hG => ?_)
  unfold fc12_undo
  show Sim Ω Γ 0 0 ιI 2 0 [(0, vR (some a0))] [] σ 0 0 _
  refine s_aload_n hG dc12_undo_0 rfl ?_
  refine s_iconst (v := 0) hG dc12_undo_1 (by decide) ?_
  refine s_putI (fin := false) hG kFc12_100 rfl (fun h => by cases h) rfl (fun _ => rfl) (fun _ => rfl) dc12_undo_2 (fun σ2 => ?_)
  refine s_aload_n hG dc12_undo_5 rfl ?_
  refine s_getI hG kFc12_296 rfl dc12_undo_6 (fun v6 => ?_)
  refine s_if_ne hG 14 dc12_undo_9 (by decide) ?_ ?_
  · refine s_aload_n hG dc12_undo_14 rfl ?_
    refine s_dup hG dc12_undo_15 rfl ?_
    refine s_getI hG kFc12_296 rfl dc12_undo_16 (fun v16 => ?_)
    refine s_iconst (v := 1) hG dc12_undo_19 (by decide) ?_
    refine s_isub hG dc12_undo_20 ?_
    refine s_putI (fin := false) hG kFc12_296 rfl (fun h => by cases h) rfl (fun _ => rfl) (fun _ => rfl) dc12_undo_21 (fun σ21 => ?_)
    refine s_iconst (v := 0) hG dc12_undo_24 (by decide) ?_
    refine s_istore_n hG dc12_undo_25 (by decide) ?_
    exact s_lv (lc rfl (lc rfl ln)) (pc12_undo_26 hG _ _ _ _)
  · refine s_iconst (v := -1) hG dc12_undo_12 (by decide) ?_
    exact s_iret hG dc12_undo_13 rfl (Nat.le_of_ble_eq_true rfl) (Nat.le_of_ble_eq_true rfl)
def fc12_log (N : Nat) (a0 : Nat) (x1 : Int32) (x2 : Int32) (σ : Me) : Option (Int32 × Me) :=
  (pI σ 12 0 (some a0) (0 : Int32)).bind fun σ2 =>
  (qR σ2 12 28 (some a0)).bind fun v9 =>
  (ldI σ2 v9 (26 : Int32)).bind fun v14 =>
  (fc12_isIn N (Int32.toInt64 x1) (0 : Int64) (Int32.toInt64 (v14 - (1 : Int32))) σ2).bind fun p18 =>
  if p18.1 = 0 then
    some ((-1 : Int32), p18.2)
  else
    (fc12_isIn N (Int32.toInt64 x2) (0 : Int64) (2 : Int64) p18.2).bind fun p30 =>
    if p30.1 = 0 then
      some ((-1 : Int32), p30.2)
    else
      (qR p30.2 12 28 (some a0)).bind fun v37 =>
      (qR p30.2 12 28 (some a0)).bind fun v44 =>
      (ldI p30.2 v44 (26 : Int32)).bind fun v49 =>
      (ldI p30.2 v37 (((27 : Int32) + ((3 : Int32) * ((v49 - (1 : Int32)) - x1))) + x2)).bind fun v58 =>
      some (v58, p30.2)
set_option maxRecDepth 20000 in
set_option maxHeartbeats 2000000 in
theorem corc12_log {Ω : Om} (N : Nat) (a0 : Nat) (x1 : Int32) (x2 : Int32) (σ : Me) : Cor Ω tc12_log 2 0 0 [vR (some a0), vI x1, vI x2] σ ιI (fc12_log N a0 x1 x2 σ) := by
  refine Cor.of (by decide +kernel) (Nat.le_of_ble_eq_true rfl) (fun Γ hG => ?_)
  unfold fc12_log
  show Sim Ω Γ 0 0 ιI 3 0 [(0, vR (some a0)), (1, vI x1), (2, vI x2)] [] σ 0 0 _
  refine s_aload_n hG dc12_log_0 rfl ?_
  refine s_iconst (v := 0) hG dc12_log_1 (by decide) ?_
  refine s_putI (fin := false) hG kFc12_100 rfl (fun h => by cases h) rfl (fun _ => rfl) (fun _ => rfl) dc12_log_2 (fun σ2 => ?_)
  refine s_iload_n hG dc12_log_5 rfl ?_
  refine s_i2l hG dc12_log_6 ?_
  refine s_lconst (v := 0) hG dc12_log_7 (by decide) ?_
  refine s_aload_n hG dc12_log_8 rfl ?_
  refine s_getR hG kFc12_55 rfl dc12_log_9 (fun v9 => ?_)
  refine s_bipush (v := 26) hG dc12_log_12 (by decide) ?_
  refine s_iald hG dc12_log_14 (fun v14 => ?_)
  refine s_iconst (v := 1) hG dc12_log_15 (by decide) ?_
  refine s_isub hG dc12_log_16 ?_
  refine s_i2l hG dc12_log_17 ?_
  refine s_callSi hG kMc12_221 (corc12_isIn N _ _ _ _) rfl (by first | decide | omega) dc12_log_18 rfl rfl (Nat.le_of_ble_eq_true rfl) ⟨Nat.le_of_ble_eq_true rfl, Nat.le_of_ble_eq_true rfl⟩ (fun p18 => ?_)
  refine s_if_eq hG 62 dc12_log_21 (by decide) ?_ ?_
  · refine s_iconst (v := -1) hG dc12_log_62 (by decide) ?_
    exact s_iret hG dc12_log_63 rfl (Nat.le_of_ble_eq_true rfl) (Nat.le_of_ble_eq_true rfl)
  · refine s_iload_n hG dc12_log_24 rfl ?_
    refine s_i2l hG dc12_log_25 ?_
    refine s_lconst (v := 0) hG dc12_log_26 (by decide) ?_
    refine s_ldc2 hG dc12_log_27 kJc12_271 ?_
    refine s_callSi hG kMc12_221 (corc12_isIn N _ _ _ _) rfl (by first | decide | omega) dc12_log_30 rfl rfl (Nat.le_of_ble_eq_true rfl) ⟨Nat.le_of_ble_eq_true rfl, Nat.le_of_ble_eq_true rfl⟩ (fun p30 => ?_)
    refine s_if_eq hG 62 dc12_log_33 (by decide) ?_ ?_
    · refine s_iconst (v := -1) hG dc12_log_62 (by decide) ?_
      exact s_iret hG dc12_log_63 rfl (Nat.le_of_ble_eq_true rfl) (Nat.le_of_ble_eq_true rfl)
    · refine s_aload_n hG dc12_log_36 rfl ?_
      refine s_getR hG kFc12_55 rfl dc12_log_37 (fun v37 => ?_)
      refine s_bipush (v := 27) hG dc12_log_40 (by decide) ?_
      refine s_iconst (v := 3) hG dc12_log_42 (by decide) ?_
      refine s_aload_n hG dc12_log_43 rfl ?_
      refine s_getR hG kFc12_55 rfl dc12_log_44 (fun v44 => ?_)
      refine s_bipush (v := 26) hG dc12_log_47 (by decide) ?_
      refine s_iald hG dc12_log_49 (fun v49 => ?_)
      refine s_iconst (v := 1) hG dc12_log_50 (by decide) ?_
      refine s_isub hG dc12_log_51 ?_
      refine s_iload_n hG dc12_log_52 rfl ?_
      refine s_isub hG dc12_log_53 ?_
      refine s_imul hG dc12_log_54 ?_
      refine s_iadd hG dc12_log_55 ?_
      refine s_iload_n hG dc12_log_56 rfl ?_
      refine s_iadd hG dc12_log_57 ?_
      refine s_iald hG dc12_log_58 (fun v58 => ?_)
      refine s_goto hG 63 dc12_log_59 (by decide) ?_
      exact s_iret hG dc12_log_63 rfl (Nat.le_of_ble_eq_true rfl) (Nat.le_of_ble_eq_true rfl)
def fc12_isPlan (N : Nat) (a0 : Nat) (x1 : Int32) (σ : Me) : Option (Int32 × Me) :=
  if x1 < 0 then
    retZ (0 : Int32) σ
  else
    (qI σ 12 26 (some a0)).bind fun v6 =>
    if v6 ≤ x1 then
      retZ (0 : Int32) σ
    else
      retZ (1 : Int32) σ
set_option maxRecDepth 20000 in
set_option maxHeartbeats 2000000 in
theorem corc12_isPlan {Ω : Om} (N : Nat) (a0 : Nat) (x1 : Int32) (σ : Me) : Cor Ω tc12_isPlan 1 0 0 [vR (some a0), vI x1] σ ιI (fc12_isPlan N a0 x1 σ) := by
  refine Cor.of (by decide +kernel) (Nat.le_of_ble_eq_true rfl) (fun Γ hG => ?_)
  unfold fc12_isPlan
  show Sim Ω Γ 0 0 ιI 2 0 [(0, vR (some a0)), (1, vI x1)] [] σ 0 0 _
  refine s_iload_n hG dc12_isPlan_0 rfl ?_
  refine s_if_lt hG 16 dc12_isPlan_1 (by decide) ?_ ?_
  · refine s_iconst (v := 0) hG dc12_isPlan_16 (by decide) ?_
    exact s_zret hG dc12_isPlan_17 rfl (Nat.le_of_ble_eq_true rfl) (Nat.le_of_ble_eq_true rfl)
  · refine s_iload_n hG dc12_isPlan_4 rfl ?_
    refine s_aload_n hG dc12_isPlan_5 rfl ?_
    refine s_getI hG kFc12_285 rfl dc12_isPlan_6 (fun v6 => ?_)
    refine s_icmp_ge hG 16 dc12_isPlan_9 (by decide) ?_ ?_
    · refine s_iconst (v := 0) hG dc12_isPlan_16 (by decide) ?_
      exact s_zret hG dc12_isPlan_17 rfl (Nat.le_of_ble_eq_true rfl) (Nat.le_of_ble_eq_true rfl)
    · refine s_iconst (v := 1) hG dc12_isPlan_12 (by decide) ?_
      refine s_goto hG 17 dc12_isPlan_13 (by decide) ?_
      exact s_zret hG dc12_isPlan_17 rfl (Nat.le_of_ble_eq_true rfl) (Nat.le_of_ble_eq_true rfl)
def fc12_step_61 (N : Nat)  (σ : Me) : Option (Int32 × Me) :=
  some ((-1000000 : Int32), σ)
def fc12_step (N : Nat) (a0 : Nat) (x1 : Int32) (x2 : Int32) (x3 : Int32) (σ : Me) : Option (Int32 × Me) :=
  (pI σ 12 0 (some a0) (0 : Int32)).bind fun σ2 =>
  (dr σ2 (some a0) (.inl 12)).bind fun a =>
  (fc12_isPlan N a x1 σ2).bind fun p7 =>
  if p7.1 = 0 then
    fc12_step_61 N  p7.2
  else
    (qR p7.2 12 23 (some a0)).bind fun v17 =>
    (ldI p7.2 v17 x1).bind fun v21 =>
    (fc12_isIn N (Int32.toInt64 x2) (0 : Int64) (Int32.toInt64 (v21 - (1 : Int32))) p7.2).bind fun p25 =>
    if p25.1 = 0 then
      fc12_step_61 N  p25.2
    else
      (fc12_isIn N (Int32.toInt64 x3) (0 : Int64) (2 : Int64) p25.2).bind fun p37 =>
      if p37.1 = 0 then
        fc12_step_61 N  p37.2
      else
        (qR p37.2 12 22 (some a0)).bind fun v44 =>
        (ldI p37.2 v44 (((3 : Int32) * (((16 : Int32) * x1) + x2)) + x3)).bind fun v57 =>
        some (v57, p37.2)
set_option maxRecDepth 20000 in
set_option maxHeartbeats 2000000 in
theorem pc12_step_61 {Ω : Om} {Γ : Ga} {N : Nat} (hG : Good Ω Γ tc12_step 2 0 0)  (σ : Me) : Sim Ω Γ 0 0 ιI 4 61 [] [] σ 0 0 (fc12_step_61 N  σ) := by
  unfold fc12_step_61
  refine s_ldcw hG dc12_step_61 kIc12_418 ?_
  exact s_iret hG dc12_step_64 rfl (Nat.le_of_ble_eq_true rfl) (Nat.le_of_ble_eq_true rfl)
set_option maxRecDepth 20000 in
set_option maxHeartbeats 2000000 in
theorem corc12_step {Ω : Om} (N : Nat) (a0 : Nat) (x1 : Int32) (x2 : Int32) (x3 : Int32) (σ : Me) : Cor Ω tc12_step 2 0 0 [vR (some a0), vI x1, vI x2, vI x3] σ ιI (fc12_step N a0 x1 x2 x3 σ) := by
  refine Cor.of (by decide +kernel) (Nat.le_of_ble_eq_true rfl) (fun Γ hG => ?_)
  unfold fc12_step
  show Sim Ω Γ 0 0 ιI 4 0 [(0, vR (some a0)), (1, vI x1), (2, vI x2), (3, vI x3)] [] σ 0 0 _
  refine s_aload_n hG dc12_step_0 rfl ?_
  refine s_iconst (v := 0) hG dc12_step_1 (by decide) ?_
  refine s_putI (fin := false) hG kFc12_100 rfl (fun h => by cases h) rfl (fun _ => rfl) (fun _ => rfl) dc12_step_2 (fun σ2 => ?_)
  refine s_aload_n hG dc12_step_5 rfl ?_
  refine s_iload_n hG dc12_step_6 rfl ?_
  refine s_callVi hG kMc12_415 (fun a => corc12_isPlan N a _ _) ⟨by decide, rfl⟩ rfl (by first | decide | omega) dc12_step_7 rfl rfl (Nat.le_of_ble_eq_true rfl) ⟨Nat.le_of_ble_eq_true rfl, Nat.le_of_ble_eq_true rfl⟩ (fun p7 => ?_)
  refine s_if_eq hG 61 dc12_step_10 (by decide) ?_ ?_
  · exact s_lv ln (pc12_step_61 hG _)
  · refine s_iload_n hG dc12_step_13 rfl ?_
    refine s_i2l hG dc12_step_14 ?_
    refine s_lconst (v := 0) hG dc12_step_15 (by decide) ?_
    refine s_aload_n hG dc12_step_16 rfl ?_
    refine s_getR hG kFc12_52 rfl dc12_step_17 (fun v17 => ?_)
    refine s_iload_n hG dc12_step_20 rfl ?_
    refine s_iald hG dc12_step_21 (fun v21 => ?_)
    refine s_iconst (v := 1) hG dc12_step_22 (by decide) ?_
    refine s_isub hG dc12_step_23 ?_
    refine s_i2l hG dc12_step_24 ?_
    refine s_callSi hG kMc12_221 (corc12_isIn N _ _ _ _) rfl (by first | decide | omega) dc12_step_25 rfl rfl (Nat.le_of_ble_eq_true rfl) ⟨Nat.le_of_ble_eq_true rfl, Nat.le_of_ble_eq_true rfl⟩ (fun p25 => ?_)
    refine s_if_eq hG 61 dc12_step_28 (by decide) ?_ ?_
    · exact s_lv ln (pc12_step_61 hG _)
    · refine s_iload_n hG dc12_step_31 rfl ?_
      refine s_i2l hG dc12_step_32 ?_
      refine s_lconst (v := 0) hG dc12_step_33 (by decide) ?_
      refine s_ldc2 hG dc12_step_34 kJc12_271 ?_
      refine s_callSi hG kMc12_221 (corc12_isIn N _ _ _ _) rfl (by first | decide | omega) dc12_step_37 rfl rfl (Nat.le_of_ble_eq_true rfl) ⟨Nat.le_of_ble_eq_true rfl, Nat.le_of_ble_eq_true rfl⟩ (fun p37 => ?_)
      refine s_if_eq hG 61 dc12_step_40 (by decide) ?_ ?_
      · exact s_lv ln (pc12_step_61 hG _)
      · refine s_aload_n hG dc12_step_43 rfl ?_
        refine s_getR hG kFc12_49 rfl dc12_step_44 (fun v44 => ?_)
        refine s_iconst (v := 3) hG dc12_step_47 (by decide) ?_
        refine s_bipush (v := 16) hG dc12_step_48 (by decide) ?_
        refine s_iload_n hG dc12_step_50 rfl ?_
        refine s_imul hG dc12_step_51 ?_
        refine s_iload_n hG dc12_step_52 rfl ?_
        refine s_iadd hG dc12_step_53 ?_
        refine s_imul hG dc12_step_54 ?_
        refine s_iload_n hG dc12_step_55 rfl ?_
        refine s_iadd hG dc12_step_56 ?_
        refine s_iald hG dc12_step_57 (fun v57 => ?_)
        refine s_goto hG 64 dc12_step_58 (by decide) ?_
        exact s_iret hG dc12_step_64 rfl (Nat.le_of_ble_eq_true rfl) (Nat.le_of_ble_eq_true rfl)
def fc12_canStep (N : Nat) (a0 : Nat) (x1 : Option Nat) (x2 : Int32) (σ : Me) : Option (Int32 × Me) :=
  (qR σ 12 22 (some a0)).bind fun v1 =>
  (ldI σ v1 (x2 + (1 : Int32))).bind fun v7 =>
  (qR σ 12 22 (some a0)).bind fun v10 =>
  (ldI σ v10 x2).bind fun v14 =>
  if v14 = (0 : Int32) then
    (ldI σ x1 (25 : Int32)).bind fun v43 =>
    if (999 : Int32) ≤ v43 then
      retZ (0 : Int32) σ
    else
      retZ (1 : Int32) σ
  else
  if v14 = (1 : Int32) then
    (qR σ 12 22 (some a0)).bind fun v60 =>
    (ldI σ v60 (x2 + (2 : Int32))).bind fun v66 =>
    (dr σ (some a0) (.inl 12)).bind fun a =>
    (fc12_canForgive N a x1 v7 v66 σ).bind fun p67 =>
    retZ p67.1 p67.2
  else
  if v14 = (2 : Int32) then
    (dr σ (some a0) (.inl 12)).bind fun a =>
    (fc12_canHedge N a x1 v7 σ).bind fun p74 =>
    retZ p74.1 p74.2
  else
  (dr σ (some a0) (.inl 12)).bind fun a =>
  (fc12_canFill N a x1 v7 σ).bind fun p81 =>
  retZ p81.1 p81.2
set_option maxRecDepth 20000 in
set_option maxHeartbeats 2000000 in
theorem corc12_canStep {Ω : Om} (N : Nat) (a0 : Nat) (x1 : Option Nat) (x2 : Int32) (σ : Me) : Cor Ω tc12_canStep 3 0 0 [vR (some a0), vR x1, vI x2] σ ιI (fc12_canStep N a0 x1 x2 σ) := by
  refine Cor.of (by decide +kernel) (Nat.le_of_ble_eq_true rfl) (fun Γ hG => ?_)
  unfold fc12_canStep
  show Sim Ω Γ 0 0 ιI 4 0 [(0, vR (some a0)), (1, vR x1), (2, vI x2)] [] σ 0 0 _
  refine s_aload_n hG dc12_canStep_0 rfl ?_
  refine s_getR hG kFc12_49 rfl dc12_canStep_1 (fun v1 => ?_)
  refine s_iload_n hG dc12_canStep_4 rfl ?_
  refine s_iconst (v := 1) hG dc12_canStep_5 (by decide) ?_
  refine s_iadd hG dc12_canStep_6 ?_
  refine s_iald hG dc12_canStep_7 (fun v7 => ?_)
  refine s_istore_n hG dc12_canStep_8 (by decide) ?_
  refine s_aload_n hG dc12_canStep_9 rfl ?_
  refine s_getR hG kFc12_49 rfl dc12_canStep_10 (fun v10 => ?_)
  refine s_iload_n hG dc12_canStep_13 rfl ?_
  refine s_iald hG dc12_canStep_14 (fun v14 => ?_)
  refine s_split _ (fun e0 => ?_) (fun e0 => ?_)
  · refine s_tabIn hG 40 dc12_canStep_15 (by rw [e0]; decide) (by rw [e0]; decide) (by rw [e0]; rfl) (by decide) ?_
    refine s_aload_n hG dc12_canStep_40 rfl ?_
    refine s_bipush (v := 25) hG dc12_canStep_41 (by decide) ?_
    refine s_iald hG dc12_canStep_43 (fun v43 => ?_)
    refine s_sipush (v := 999) hG dc12_canStep_44 (by decide) ?_
    refine s_icmp_ge hG 54 dc12_canStep_47 (by decide) ?_ ?_
    · refine s_iconst (v := 0) hG dc12_canStep_54 (by decide) ?_
      exact s_zret hG dc12_canStep_55 rfl (Nat.le_of_ble_eq_true rfl) (Nat.le_of_ble_eq_true rfl)
    · refine s_iconst (v := 1) hG dc12_canStep_50 (by decide) ?_
      refine s_goto hG 55 dc12_canStep_51 (by decide) ?_
      exact s_zret hG dc12_canStep_55 rfl (Nat.le_of_ble_eq_true rfl) (Nat.le_of_ble_eq_true rfl)
  · refine s_split _ (fun e1 => ?_) (fun e1 => ?_)
    · refine s_tabIn hG 56 dc12_canStep_15 (by rw [e1]; decide) (by rw [e1]; decide) (by rw [e1]; rfl) (by decide) ?_
      refine s_aload_n hG dc12_canStep_56 rfl ?_
      refine s_aload_n hG dc12_canStep_57 rfl ?_
      refine s_iload_n hG dc12_canStep_58 rfl ?_
      refine s_aload_n hG dc12_canStep_59 rfl ?_
      refine s_getR hG kFc12_49 rfl dc12_canStep_60 (fun v60 => ?_)
      refine s_iload_n hG dc12_canStep_63 rfl ?_
      refine s_iconst (v := 2) hG dc12_canStep_64 (by decide) ?_
      refine s_iadd hG dc12_canStep_65 ?_
      refine s_iald hG dc12_canStep_66 (fun v66 => ?_)
      refine s_callVi hG kMc12_379 (fun a => corc12_canForgive N a _ _ _ _) ⟨by decide, rfl⟩ rfl (by first | decide | omega) dc12_canStep_67 rfl rfl (Nat.le_of_ble_eq_true rfl) ⟨Nat.le_of_ble_eq_true rfl, Nat.le_of_ble_eq_true rfl⟩ (fun p67 => ?_)
      exact s_zret hG dc12_canStep_70 rfl (Nat.le_of_ble_eq_true rfl) (Nat.le_of_ble_eq_true rfl)
    · refine s_split _ (fun e2 => ?_) (fun e2 => ?_)
      · refine s_tabIn hG 71 dc12_canStep_15 (by rw [e2]; decide) (by rw [e2]; decide) (by rw [e2]; rfl) (by decide) ?_
        refine s_aload_n hG dc12_canStep_71 rfl ?_
        refine s_aload_n hG dc12_canStep_72 rfl ?_
        refine s_iload_n hG dc12_canStep_73 rfl ?_
        refine s_callVi hG kMc12_387 (fun a => corc12_canHedge N a _ _ _) ⟨by decide, rfl⟩ rfl (by first | decide | omega) dc12_canStep_74 rfl rfl (Nat.le_of_ble_eq_true rfl) ⟨Nat.le_of_ble_eq_true rfl, Nat.le_of_ble_eq_true rfl⟩ (fun p74 => ?_)
        exact s_zret hG dc12_canStep_77 rfl (Nat.le_of_ble_eq_true rfl) (Nat.le_of_ble_eq_true rfl)
      · refine s_tabOut hG 78 dc12_canStep_15 (tab_out (lo := 0) (n := 2) (by decide) (by decide) (show ∀ q ∈ [(0 : Int32), (1 : Int32), (2 : Int32)], ¬ _ = q from (List.forall_mem_cons.mpr ⟨e0, (List.forall_mem_cons.mpr ⟨e1, (List.forall_mem_cons.mpr ⟨e2, (fun q h => absurd h List.not_mem_nil)⟩)⟩)⟩))) (by decide) ?_
        refine s_aload_n hG dc12_canStep_78 rfl ?_
        refine s_aload_n hG dc12_canStep_79 rfl ?_
        refine s_iload_n hG dc12_canStep_80 rfl ?_
        refine s_callVi hG kMc12_394 (fun a => corc12_canFill N a _ _ _) ⟨by decide, rfl⟩ rfl (by first | decide | omega) dc12_canStep_81 rfl rfl (Nat.le_of_ble_eq_true rfl) ⟨Nat.le_of_ble_eq_true rfl, Nat.le_of_ble_eq_true rfl⟩ (fun p81 => ?_)
        exact s_zret hG dc12_canStep_84 rfl (Nat.le_of_ble_eq_true rfl) (Nat.le_of_ble_eq_true rfl)
def fc12_copy_2 (N : Nat) : Nat → Option Nat → Option Nat → Int32 → Me → Option (Unit × Me)
  | 0, _, _, _, _ => none
  | n + 1, l0, l1, l2, σ =>
    if (26 : Int32) ≤ l2 then
      (stI σ l1 (26 : Int32) (0 : Int32)).bind fun σ24 =>
      some ((), σ24)
    else
      (ldI σ l0 l2).bind fun v12 =>
      (stI σ l1 l2 v12).bind fun σ13 =>
      (fc12_copy_2 N n) l0 l1 (l2 + (1 : Int32)) σ13
def fc12_copy (N : Nat) (x0 : Option Nat) (x1 : Option Nat) (σ : Me) : Option (Unit × Me) :=
  fc12_copy_2 N N x0 x1 (0 : Int32) σ
set_option maxRecDepth 20000 in
set_option maxHeartbeats 2000000 in
theorem pc12_copy_2 {Ω : Om} {Γ : Ga} {N : Nat} (hG : Good Ω Γ tc12_copy 1 0 0)  : ∀ (n : Nat) (l0 : Option Nat) (l1 : Option Nat) (l2 : Int32) (σ : Me), Sim Ω Γ 0 0 ιV 3 2 [(0, vR l0), (1, vR l1), (2, vI l2)] [] σ 0 0 (fc12_copy_2 N n l0 l1 l2 σ) := by
  intro n
  induction n with
  | zero => intros; exact s_none
  | succ n ih =>
    intro l0 l1 l2 σ
    unfold fc12_copy_2
    refine s_iload_n hG dc12_copy_2 rfl ?_
    refine s_bipush (v := 26) hG dc12_copy_3 (by decide) ?_
    refine s_icmp_ge hG 20 dc12_copy_5 (by decide) ?_ ?_
    · refine s_aload_n hG dc12_copy_20 rfl ?_
      refine s_bipush (v := 26) hG dc12_copy_21 (by decide) ?_
      refine s_iconst (v := 0) hG dc12_copy_23 (by decide) ?_
      refine s_iast hG dc12_copy_24 (fun σ24 => ?_)
      exact s_vret hG dc12_copy_25 rfl (Nat.le_of_ble_eq_true rfl) (Nat.le_of_ble_eq_true rfl)
    · refine s_aload_n hG dc12_copy_8 rfl ?_
      refine s_iload_n hG dc12_copy_9 rfl ?_
      refine s_aload_n hG dc12_copy_10 rfl ?_
      refine s_iload_n hG dc12_copy_11 rfl ?_
      refine s_iald hG dc12_copy_12 (fun v12 => ?_)
      refine s_iast hG dc12_copy_13 (fun σ13 => ?_)
      refine s_iinc (v := 1) hG dc12_copy_14 rfl (by decide) (by decide) ?_
      refine s_goto hG 2 dc12_copy_17 (by decide) ?_
      exact s_lv (lc rfl (lc rfl (lc rfl ln))) (ih _ _ _ _)
set_option maxRecDepth 20000 in
set_option maxHeartbeats 2000000 in
theorem corc12_copy {Ω : Om} (N : Nat) (x0 : Option Nat) (x1 : Option Nat) (σ : Me) : Cor Ω tc12_copy 1 0 0 [vR x0, vR x1] σ ιV (fc12_copy N x0 x1 σ) := by
  refine Cor.of (by decide +kernel) (Nat.le_of_ble_eq_true rfl) (fun Γ hG => ?_)
  unfold fc12_copy
  show Sim Ω Γ 0 0 ιV 3 0 [(0, vR x0), (1, vR x1)] [] σ 0 0 _
  refine s_iconst (v := 0) hG dc12_copy_0 (by decide) ?_
  refine s_istore_n hG dc12_copy_1 (by decide) ?_
  exact s_lv (lc rfl (lc rfl (lc rfl ln))) (pc12_copy_2 hG _ _ _ _ _)
