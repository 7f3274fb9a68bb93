def fc11_ahead_44 (N : Nat) : Nat → Option Nat → Int32 → Int32 → Int32 → Int32 → Me → Option (Int32 × Me)
  | 0, _, _, _, _, _, _ => none
  | n + 1, l0, l1, l2, l3, l4, σ =>
    if l2 ≤ l4 then
      (qR σ 11 11 l0).bind fun v80 =>
      (qR σ 2 0 v80).bind fun v83 =>
      (ldI σ v83 l1).bind fun v87 =>
      some (v87, σ)
    else
      (qR σ 11 12 l0).bind fun v51 =>
      (qR σ 11 11 l0).bind fun v55 =>
      (dr σ v51 (.inl 9)).bind fun a =>
      (fc9_look N a v55 l3 σ).bind fun p59 =>
      (qR p59.2 11 12 l0).bind fun v63 =>
      (qR p59.2 11 11 l0).bind fun v67 =>
      (dr p59.2 v63 (.inl 9)).bind fun a =>
      (fc9_settle N a v67 p59.2).bind fun p70 =>
      (fc11_ahead_44 N n) l0 l1 l2 l3 (l4 + (1 : Int32)) p70.2
def fc11_ahead (N : Nat) (a0 : Nat) (x1 : Int32) (x2 : Int32) (x3 : Int32) (σ : Me) : Option (Int32 × Me) :=
  (qR σ 11 10 (some a0)).bind fun v1 =>
  (dr σ v1 (.inl 2)).bind fun a =>
  (fc2_has N a x1 σ).bind fun p5 =>
  if p5.1 = 0 then
    some ((-1 : Int32), p5.2)
  else
    if x2 < 0 then
      some ((-1 : Int32), p5.2)
    else
      if (30 : Int32) < x2 then
        some ((-1 : Int32), p5.2)
      else
        (fc11_isRain N x3 p5.2).bind fun p22 =>
        if p22.1 = 0 then
          some ((-1 : Int32), p22.2)
        else
          (qR p22.2 11 11 (some a0)).bind fun v31 =>
          (qR p22.2 11 10 (some a0)).bind fun v35 =>
          (dr p22.2 v31 (.inl 2)).bind fun a =>
          (fc2_copyFrom N a v35 p22.2).bind fun p38 =>
          fc11_ahead_44 N N (some a0) x1 x2 x3 (0 : Int32) p38.2
set_option maxRecDepth 20000 in
set_option maxHeartbeats 2000000 in
theorem pc11_ahead_44 {Ω : Om} {Γ : Ga} {N : Nat} (hG : Good Ω Γ tc11_ahead 6 0 0)  : ∀ (n : Nat) (l0 : Option Nat) (l1 : Int32) (l2 : Int32) (l3 : Int32) (l4 : Int32) (σ : Me), Sim Ω Γ 0 0 ιI 5 44 [(0, vR l0), (1, vI l1), (2, vI l2), (3, vI l3), (4, vI l4)] [] σ 0 0 (fc11_ahead_44 N n l0 l1 l2 l3 l4 σ) := by
  intro n
  induction n with
  | zero => intros; exact s_none
  | succ n ih =>
    intro l0 l1 l2 l3 l4 σ
    unfold fc11_ahead_44
    refine s_iload hG dc11_ahead_44 rfl ?_
    refine s_iload_n hG dc11_ahead_46 rfl ?_
    refine s_icmp_ge hG 79 dc11_ahead_47 (by decide) ?_ ?_
    · refine s_aload_n hG dc11_ahead_79 rfl ?_
      refine s_getR hG kFc11_62 rfl dc11_ahead_80 (fun v80 => ?_)
      refine s_getR hG kFc11_186 rfl dc11_ahead_83 (fun v83 => ?_)
      refine s_iload_n hG dc11_ahead_86 rfl ?_
      refine s_iald hG dc11_ahead_87 (fun v87 => ?_)
      exact s_iret hG dc11_ahead_88 rfl (Nat.le_of_ble_eq_true rfl) (Nat.le_of_ble_eq_true rfl)
    · refine s_aload_n hG dc11_ahead_50 rfl ?_
      refine s_getR hG kFc11_68 rfl dc11_ahead_51 (fun v51 => ?_)
      refine s_aload_n hG dc11_ahead_54 rfl ?_
      refine s_getR hG kFc11_62 rfl dc11_ahead_55 (fun v55 => ?_)
      refine s_iload_n hG dc11_ahead_58 rfl ?_
      refine s_callVv hG kMc11_315 (fun a => corc9_look N a _ _ _) ⟨by decide, rfl⟩ rfl (by first | decide | omega) dc11_ahead_59 rfl rfl (Nat.le_of_ble_eq_true rfl) ⟨Nat.le_of_ble_eq_true rfl, Nat.le_of_ble_eq_true rfl⟩ (fun p59 => ?_)
      refine s_aload_n hG dc11_ahead_62 rfl ?_
      refine s_getR hG kFc11_68 rfl dc11_ahead_63 (fun v63 => ?_)
      refine s_aload_n hG dc11_ahead_66 rfl ?_
      refine s_getR hG kFc11_62 rfl dc11_ahead_67 (fun v67 => ?_)
      refine s_callVv hG kMc11_329 (fun a => corc9_settle N a _ _) ⟨by decide, rfl⟩ rfl (by first | decide | omega) dc11_ahead_70 rfl rfl (Nat.le_of_ble_eq_true rfl) ⟨Nat.le_of_ble_eq_true rfl, Nat.le_of_ble_eq_true rfl⟩ (fun p70 => ?_)
      refine s_iinc (v := 1) hG dc11_ahead_73 rfl (by decide) (by decide) ?_
      refine s_goto hG 44 dc11_ahead_76 (by decide) ?_
      exact s_lv (lc rfl (lc rfl (lc rfl (lc rfl (lc rfl ln))))) (ih _ _ _ _ _ _)
set_option maxRecDepth 20000 in
set_option maxHeartbeats 2000000 in
theorem corc11_ahead {Ω : Om} (N : Nat) (a0 : Nat) (x1 : Int32) (x2 : Int32) (x3 : Int32) (σ : Me) : Cor Ω tc11_ahead 6 0 0 [vR (some a0), vI x1, vI x2, vI x3] σ ιI (fc11_ahead N a0 x1 x2 x3 σ) := by
  refine Cor.of (by decide +kernel) (Nat.le_of_ble_eq_true rfl) (fun Γ hG => ?_)
  unfold fc11_ahead
  show Sim Ω Γ 0 0 ιI 5 0 [(0, vR (some a0)), (1, vI x1), (2, vI x2), (3, vI x3)] [] σ 0 0 _
  refine s_aload_n hG dc11_ahead_0 rfl ?_
  refine s_getR hG kFc11_58 rfl dc11_ahead_1 (fun v1 => ?_)
  refine s_iload_n hG dc11_ahead_4 rfl ?_
  refine s_callVi hG kMc11_180 (fun a => corc2_has N a _ _) ⟨by decide, rfl⟩ rfl (by first | decide | omega) dc11_ahead_5 rfl rfl (Nat.le_of_ble_eq_true rfl) ⟨Nat.le_of_ble_eq_true rfl, Nat.le_of_ble_eq_true rfl⟩ (fun p5 => ?_)
  refine s_if_eq hG 28 dc11_ahead_8 (by decide) ?_ ?_
  · refine s_iconst (v := -1) hG dc11_ahead_28 (by decide) ?_
    exact s_iret hG dc11_ahead_29 rfl (Nat.le_of_ble_eq_true rfl) (Nat.le_of_ble_eq_true rfl)
  · refine s_iload_n hG dc11_ahead_11 rfl ?_
    refine s_if_lt hG 28 dc11_ahead_12 (by decide) ?_ ?_
    · refine s_iconst (v := -1) hG dc11_ahead_28 (by decide) ?_
      exact s_iret hG dc11_ahead_29 rfl (Nat.le_of_ble_eq_true rfl) (Nat.le_of_ble_eq_true rfl)
    · refine s_iload_n hG dc11_ahead_15 rfl ?_
      refine s_bipush (v := 30) hG dc11_ahead_16 (by decide) ?_
      refine s_icmp_gt hG 28 dc11_ahead_18 (by decide) ?_ ?_
      · refine s_iconst (v := -1) hG dc11_ahead_28 (by decide) ?_
        exact s_iret hG dc11_ahead_29 rfl (Nat.le_of_ble_eq_true rfl) (Nat.le_of_ble_eq_true rfl)
      · refine s_iload_n hG dc11_ahead_21 rfl ?_
        refine s_callSi hG kMc11_340 (corc11_isRain N _ _) rfl (by first | decide | omega) dc11_ahead_22 rfl rfl (Nat.le_of_ble_eq_true rfl) ⟨Nat.le_of_ble_eq_true rfl, Nat.le_of_ble_eq_true rfl⟩ (fun p22 => ?_)
        refine s_if_ne hG 30 dc11_ahead_25 (by decide) ?_ ?_
        · refine s_aload_n hG dc11_ahead_30 rfl ?_
          refine s_getR hG kFc11_62 rfl dc11_ahead_31 (fun v31 => ?_)
          refine s_aload_n hG dc11_ahead_34 rfl ?_
          refine s_getR hG kFc11_58 rfl dc11_ahead_35 (fun v35 => ?_)
          refine s_callVv hG kMc11_140 (fun a => corc2_copyFrom N a _ _) ⟨by decide, rfl⟩ rfl (by first | decide | omega) dc11_ahead_38 rfl rfl (Nat.le_of_ble_eq_true rfl) ⟨Nat.le_of_ble_eq_true rfl, Nat.le_of_ble_eq_true rfl⟩ (fun p38 => ?_)
          refine s_iconst (v := 0) hG dc11_ahead_41 (by decide) ?_
          refine s_istore hG dc11_ahead_42 (by decide) ?_
          exact s_lv (lc rfl (lc rfl (lc rfl (lc rfl (lc rfl ln))))) (pc11_ahead_44 hG _ _ _ _ _ _ _)
        · refine s_iconst (v := -1) hG dc11_ahead_28 (by decide) ?_
          exact s_iret hG dc11_ahead_29 rfl (Nat.le_of_ble_eq_true rfl) (Nat.le_of_ble_eq_true rfl)
def fc11_even_33 (N : Nat) : Nat → Option Nat → Int32 → Int32 → Int32 → Me → Option (Int32 × Me)
  | 0, _, _, _, _, _ => none
  | n + 1, l0, l1, l2, l3, σ =>
    if (60 : Int32) < l3 then
      some ((-1 : Int32), σ)
    else
      (qR σ 11 11 l0).bind fun v40 =>
      (qR σ 2 0 v40).bind fun v43 =>
      (ldI σ v43 l1).bind fun v47 =>
      if v47 = 0 then
        some (l3, σ)
      else
        (qR σ 11 12 l0).bind fun v54 =>
        (qR σ 11 11 l0).bind fun v58 =>
        (dr σ v54 (.inl 9)).bind fun a =>
        (fc9_look N a v58 l2 σ).bind fun p62 =>
        (qR p62.2 11 12 l0).bind fun v66 =>
        (qR p62.2 11 11 l0).bind fun v70 =>
        (dr p62.2 v66 (.inl 9)).bind fun a =>
        (fc9_settle N a v70 p62.2).bind fun p73 =>
        (fc11_even_33 N n) l0 l1 l2 (l3 + (1 : Int32)) p73.2
def fc11_even (N : Nat) (a0 : Nat) (x1 : Int32) (x2 : Int32) (σ : Me) : Option (Int32 × Me) :=
  (qR σ 11 10 (some a0)).bind fun v1 =>
  (dr σ v1 (.inl 2)).bind fun a =>
  (fc2_has N a x1 σ).bind fun p5 =>
  if p5.1 = 0 then
    some ((-1 : Int32), p5.2)
  else
    (fc11_isRain N x2 p5.2).bind fun p12 =>
    if p12.1 = 0 then
      some ((-1 : Int32), p12.2)
    else
      (qR p12.2 11 11 (some a0)).bind fun v21 =>
      (qR p12.2 11 10 (some a0)).bind fun v25 =>
      (dr p12.2 v21 (.inl 2)).bind fun a =>
      (fc2_copyFrom N a v25 p12.2).bind fun p28 =>
      fc11_even_33 N N (some a0) x1 x2 (0 : Int32) p28.2
set_option maxRecDepth 20000 in
set_option maxHeartbeats 2000000 in
theorem pc11_even_33 {Ω : Om} {Γ : Ga} {N : Nat} (hG : Good Ω Γ tc11_even 6 0 0)  : ∀ (n : Nat) (l0 : Option Nat) (l1 : Int32) (l2 : Int32) (l3 : Int32) (σ : Me), Sim Ω Γ 0 0 ιI 4 33 [(0, vR l0), (1, vI l1), (2, vI l2), (3, vI l3)] [] σ 0 0 (fc11_even_33 N n l0 l1 l2 l3 σ) := by
  intro n
  induction n with
  | zero => intros; exact s_none
  | succ n ih =>
    intro l0 l1 l2 l3 σ
    unfold fc11_even_33
    refine s_iload_n hG dc11_even_33 rfl ?_
    refine s_bipush (v := 60) hG dc11_even_34 (by decide) ?_
    refine s_icmp_gt hG 82 dc11_even_36 (by decide) ?_ ?_
    · refine s_iconst (v := -1) hG dc11_even_82 (by decide) ?_
      exact s_iret hG dc11_even_83 rfl (Nat.le_of_ble_eq_true rfl) (Nat.le_of_ble_eq_true rfl)
    · refine s_aload_n hG dc11_even_39 rfl ?_
      refine s_getR hG kFc11_62 rfl dc11_even_40 (fun v40 => ?_)
      refine s_getR hG kFc11_186 rfl dc11_even_43 (fun v43 => ?_)
      refine s_iload_n hG dc11_even_46 rfl ?_
      refine s_iald hG dc11_even_47 (fun v47 => ?_)
      refine s_if_ne hG 53 dc11_even_48 (by decide) ?_ ?_
      · refine s_aload_n hG dc11_even_53 rfl ?_
        refine s_getR hG kFc11_68 rfl dc11_even_54 (fun v54 => ?_)
        refine s_aload_n hG dc11_even_57 rfl ?_
        refine s_getR hG kFc11_62 rfl dc11_even_58 (fun v58 => ?_)
        refine s_iload_n hG dc11_even_61 rfl ?_
        refine s_callVv hG kMc11_315 (fun a => corc9_look N a _ _ _) ⟨by decide, rfl⟩ rfl (by first | decide | omega) dc11_even_62 rfl rfl (Nat.le_of_ble_eq_true rfl) ⟨Nat.le_of_ble_eq_true rfl, Nat.le_of_ble_eq_true rfl⟩ (fun p62 => ?_)
        refine s_aload_n hG dc11_even_65 rfl ?_
        refine s_getR hG kFc11_68 rfl dc11_even_66 (fun v66 => ?_)
        refine s_aload_n hG dc11_even_69 rfl ?_
        refine s_getR hG kFc11_62 rfl dc11_even_70 (fun v70 => ?_)
        refine s_callVv hG kMc11_329 (fun a => corc9_settle N a _ _) ⟨by decide, rfl⟩ rfl (by first | decide | omega) dc11_even_73 rfl rfl (Nat.le_of_ble_eq_true rfl) ⟨Nat.le_of_ble_eq_true rfl, Nat.le_of_ble_eq_true rfl⟩ (fun p73 => ?_)
        refine s_iinc (v := 1) hG dc11_even_76 rfl (by decide) (by decide) ?_
        refine s_goto hG 33 dc11_even_79 (by decide) ?_
        exact s_lv (lc rfl (lc rfl (lc rfl (lc rfl ln)))) (ih _ _ _ _ _)
      · refine s_iload_n hG dc11_even_51 rfl ?_
        exact s_iret hG dc11_even_52 rfl (Nat.le_of_ble_eq_true rfl) (Nat.le_of_ble_eq_true rfl)
set_option maxRecDepth 20000 in
set_option maxHeartbeats 2000000 in
theorem corc11_even {Ω : Om} (N : Nat) (a0 : Nat) (x1 : Int32) (x2 : Int32) (σ : Me) : Cor Ω tc11_even 6 0 0 [vR (some a0), vI x1, vI x2] σ ιI (fc11_even N a0 x1 x2 σ) := by
  refine Cor.of (by decide +kernel) (Nat.le_of_ble_eq_true rfl) (fun Γ hG => ?_)
  unfold fc11_even
  show Sim Ω Γ 0 0 ιI 4 0 [(0, vR (some a0)), (1, vI x1), (2, vI x2)] [] σ 0 0 _
  refine s_aload_n hG dc11_even_0 rfl ?_
  refine s_getR hG kFc11_58 rfl dc11_even_1 (fun v1 => ?_)
  refine s_iload_n hG dc11_even_4 rfl ?_
  refine s_callVi hG kMc11_180 (fun a => corc2_has N a _ _) ⟨by decide, rfl⟩ rfl (by first | decide | omega) dc11_even_5 rfl rfl (Nat.le_of_ble_eq_true rfl) ⟨Nat.le_of_ble_eq_true rfl, Nat.le_of_ble_eq_true rfl⟩ (fun p5 => ?_)
  refine s_if_eq hG 18 dc11_even_8 (by decide) ?_ ?_
  · refine s_iconst (v := -1) hG dc11_even_18 (by decide) ?_
    exact s_iret hG dc11_even_19 rfl (Nat.le_of_ble_eq_true rfl) (Nat.le_of_ble_eq_true rfl)
  · refine s_iload_n hG dc11_even_11 rfl ?_
    refine s_callSi hG kMc11_340 (corc11_isRain N _ _) rfl (by first | decide | omega) dc11_even_12 rfl rfl (Nat.le_of_ble_eq_true rfl) ⟨Nat.le_of_ble_eq_true rfl, Nat.le_of_ble_eq_true rfl⟩ (fun p12 => ?_)
    refine s_if_ne hG 20 dc11_even_15 (by decide) ?_ ?_
    · refine s_aload_n hG dc11_even_20 rfl ?_
      refine s_getR hG kFc11_62 rfl dc11_even_21 (fun v21 => ?_)
      refine s_aload_n hG dc11_even_24 rfl ?_
      refine s_getR hG kFc11_58 rfl dc11_even_25 (fun v25 => ?_)
      refine s_callVv hG kMc11_140 (fun a => corc2_copyFrom N a _ _) ⟨by decide, rfl⟩ rfl (by first | decide | omega) dc11_even_28 rfl rfl (Nat.le_of_ble_eq_true rfl) ⟨Nat.le_of_ble_eq_true rfl, Nat.le_of_ble_eq_true rfl⟩ (fun p28 => ?_)
      refine s_iconst (v := 0) hG dc11_even_31 (by decide) ?_
      refine s_istore_n hG dc11_even_32 (by decide) ?_
      exact s_lv (lc rfl (lc rfl (lc rfl (lc rfl ln)))) (pc11_even_33 hG _ _ _ _ _ _)
    · refine s_iconst (v := -1) hG dc11_even_18 (by decide) ?_
      exact s_iret hG dc11_even_19 rfl (Nat.le_of_ble_eq_true rfl) (Nat.le_of_ble_eq_true rfl)
def fIt_bitCount (N : Nat) (x0 : Int32) (σ : Me) : Option (Int32 × Me) :=
  some (((((((((x0 - ((((x0).toUInt32 >>> (((1 : Int32)).toUInt32 &&& Int32.toUInt32 31)).toInt32) &&& (1431655765 : Int32))) &&& (858993459 : Int32)) + (((((x0 - ((((x0).toUInt32 >>> (((1 : Int32)).toUInt32 &&& Int32.toUInt32 31)).toInt32) &&& (1431655765 : Int32)))).toUInt32 >>> (((2 : Int32)).toUInt32 &&& Int32.toUInt32 31)).toInt32) &&& (858993459 : Int32))) + ((((((x0 - ((((x0).toUInt32 >>> (((1 : Int32)).toUInt32 &&& Int32.toUInt32 31)).toInt32) &&& (1431655765 : Int32))) &&& (858993459 : Int32)) + (((((x0 - ((((x0).toUInt32 >>> (((1 : Int32)).toUInt32 &&& Int32.toUInt32 31)).toInt32) &&& (1431655765 : Int32)))).toUInt32 >>> (((2 : Int32)).toUInt32 &&& Int32.toUInt32 31)).toInt32) &&& (858993459 : Int32)))).toUInt32 >>> (((4 : Int32)).toUInt32 &&& Int32.toUInt32 31)).toInt32)) &&& (252645135 : Int32)) + ((((((((x0 - ((((x0).toUInt32 >>> (((1 : Int32)).toUInt32 &&& Int32.toUInt32 31)).toInt32) &&& (1431655765 : Int32))) &&& (858993459 : Int32)) + (((((x0 - ((((x0).toUInt32 >>> (((1 : Int32)).toUInt32 &&& Int32.toUInt32 31)).toInt32) &&& (1431655765 : Int32)))).toUInt32 >>> (((2 : Int32)).toUInt32 &&& Int32.toUInt32 31)).toInt32) &&& (858993459 : Int32))) + ((((((x0 - ((((x0).toUInt32 >>> (((1 : Int32)).toUInt32 &&& Int32.toUInt32 31)).toInt32) &&& (1431655765 : Int32))) &&& (858993459 : Int32)) + (((((x0 - ((((x0).toUInt32 >>> (((1 : Int32)).toUInt32 &&& Int32.toUInt32 31)).toInt32) &&& (1431655765 : Int32)))).toUInt32 >>> (((2 : Int32)).toUInt32 &&& Int32.toUInt32 31)).toInt32) &&& (858993459 : Int32)))).toUInt32 >>> (((4 : Int32)).toUInt32 &&& Int32.toUInt32 31)).toInt32)) &&& (252645135 : Int32))).toUInt32 >>> (((8 : Int32)).toUInt32 &&& Int32.toUInt32 31)).toInt32)) + (((((((((x0 - ((((x0).toUInt32 >>> (((1 : Int32)).toUInt32 &&& Int32.toUInt32 31)).toInt32) &&& (1431655765 : Int32))) &&& (858993459 : Int32)) + (((((x0 - ((((x0).toUInt32 >>> (((1 : Int32)).toUInt32 &&& Int32.toUInt32 31)).toInt32) &&& (1431655765 : Int32)))).toUInt32 >>> (((2 : Int32)).toUInt32 &&& Int32.toUInt32 31)).toInt32) &&& (858993459 : Int32))) + ((((((x0 - ((((x0).toUInt32 >>> (((1 : Int32)).toUInt32 &&& Int32.toUInt32 31)).toInt32) &&& (1431655765 : Int32))) &&& (858993459 : Int32)) + (((((x0 - ((((x0).toUInt32 >>> (((1 : Int32)).toUInt32 &&& Int32.toUInt32 31)).toInt32) &&& (1431655765 : Int32)))).toUInt32 >>> (((2 : Int32)).toUInt32 &&& Int32.toUInt32 31)).toInt32) &&& (858993459 : Int32)))).toUInt32 >>> (((4 : Int32)).toUInt32 &&& Int32.toUInt32 31)).toInt32)) &&& (252645135 : Int32)) + ((((((((x0 - ((((x0).toUInt32 >>> (((1 : Int32)).toUInt32 &&& Int32.toUInt32 31)).toInt32) &&& (1431655765 : Int32))) &&& (858993459 : Int32)) + (((((x0 - ((((x0).toUInt32 >>> (((1 : Int32)).toUInt32 &&& Int32.toUInt32 31)).toInt32) &&& (1431655765 : Int32)))).toUInt32 >>> (((2 : Int32)).toUInt32 &&& Int32.toUInt32 31)).toInt32) &&& (858993459 : Int32))) + ((((((x0 - ((((x0).toUInt32 >>> (((1 : Int32)).toUInt32 &&& Int32.toUInt32 31)).toInt32) &&& (1431655765 : Int32))) &&& (858993459 : Int32)) + (((((x0 - ((((x0).toUInt32 >>> (((1 : Int32)).toUInt32 &&& Int32.toUInt32 31)).toInt32) &&& (1431655765 : Int32)))).toUInt32 >>> (((2 : Int32)).toUInt32 &&& Int32.toUInt32 31)).toInt32) &&& (858993459 : Int32)))).toUInt32 >>> (((4 : Int32)).toUInt32 &&& Int32.toUInt32 31)).toInt32)) &&& (252645135 : Int32))).toUInt32 >>> (((8 : Int32)).toUInt32 &&& Int32.toUInt32 31)).toInt32))).toUInt32 >>> (((16 : Int32)).toUInt32 &&& Int32.toUInt32 31)).toInt32)) &&& (63 : Int32)), σ)
set_option maxRecDepth 20000 in
set_option maxHeartbeats 2000000 in
theorem corIt_bitCount {Ω : Om} (N : Nat) (x0 : Int32) (σ : Me) : Cor Ω tIt_bitCount 1 0 0 [vI x0] σ ιI (fIt_bitCount N x0 σ) := by
  refine Cor.of (by decide +kernel) (Nat.le_of_ble_eq_true rfl) (fun Γ hG => ?_)
  unfold fIt_bitCount
  show Sim Ω Γ 0 0 ιI 1 0 [(0, vI x0)] [] σ 0 0 _
  refine s_iload_n hG dIt_bitCount_0 rfl ?_
  refine s_iload_n hG dIt_bitCount_1 rfl ?_
  refine s_iconst (v := 1) hG dIt_bitCount_2 (by decide) ?_
  refine s_iushr hG dIt_bitCount_3 ?_
  refine s_ldcw hG dIt_bitCount_4 kIIt_265 ?_
  refine s_iand hG dIt_bitCount_7 ?_
  refine s_isub hG dIt_bitCount_8 ?_
  refine s_istore_n hG dIt_bitCount_9 (by decide) ?_
  refine s_iload_n hG dIt_bitCount_10 rfl ?_
  refine s_ldcw hG dIt_bitCount_11 kIIt_266 ?_
  refine s_iand hG dIt_bitCount_14 ?_
  refine s_iload_n hG dIt_bitCount_15 rfl ?_
  refine s_iconst (v := 2) hG dIt_bitCount_16 (by decide) ?_
  refine s_iushr hG dIt_bitCount_17 ?_
  refine s_ldcw hG dIt_bitCount_18 kIIt_266 ?_
  refine s_iand hG dIt_bitCount_21 ?_
  refine s_iadd hG dIt_bitCount_22 ?_
  refine s_istore_n hG dIt_bitCount_23 (by decide) ?_
  refine s_iload_n hG dIt_bitCount_24 rfl ?_
  refine s_iload_n hG dIt_bitCount_25 rfl ?_
  refine s_iconst (v := 4) hG dIt_bitCount_26 (by decide) ?_
  refine s_iushr hG dIt_bitCount_27 ?_
  refine s_iadd hG dIt_bitCount_28 ?_
  refine s_ldcw hG dIt_bitCount_29 kIIt_267 ?_
  refine s_iand hG dIt_bitCount_32 ?_
  refine s_istore_n hG dIt_bitCount_33 (by decide) ?_
  refine s_iload_n hG dIt_bitCount_34 rfl ?_
  refine s_iload_n hG dIt_bitCount_35 rfl ?_
  refine s_bipush (v := 8) hG dIt_bitCount_36 (by decide) ?_
  refine s_iushr hG dIt_bitCount_38 ?_
  refine s_iadd hG dIt_bitCount_39 ?_
  refine s_istore_n hG dIt_bitCount_40 (by decide) ?_
  refine s_iload_n hG dIt_bitCount_41 rfl ?_
  refine s_iload_n hG dIt_bitCount_42 rfl ?_
  refine s_bipush (v := 16) hG dIt_bitCount_43 (by decide) ?_
  refine s_iushr hG dIt_bitCount_45 ?_
  refine s_iadd hG dIt_bitCount_46 ?_
  refine s_istore_n hG dIt_bitCount_47 (by decide) ?_
  refine s_iload_n hG dIt_bitCount_48 rfl ?_
  refine s_bipush (v := 63) hG dIt_bitCount_49 (by decide) ?_
  refine s_iand hG dIt_bitCount_51 ?_
  exact s_iret hG dIt_bitCount_52 rfl (Nat.le_of_ble_eq_true rfl) (Nat.le_of_ble_eq_true rfl)
def fc11_together_23 (N : Nat) : Nat → Option Nat → Int32 → Int32 → Me → Option (Int32 × Me)
  | 0, _, _, _, _ => none
  | n + 1, l0, l1, l2, σ =>
    if (60 : Int32) < l2 then
      some ((-1 : Int32), σ)
    else
      (qR σ 11 12 l0).bind fun v30 =>
      (qR σ 11 11 l0).bind fun v34 =>
      (dr σ v30 (.inl 9)).bind fun a =>
      (fc9_look N a v34 l1 σ).bind fun p38 =>
      (qR p38.2 11 12 l0).bind fun v42 =>
      (qI p38.2 9 8 v42).bind fun v45 =>
      (fIt_bitCount N v45 p38.2).bind fun p48 =>
      if p48.1 < (2 : Int32) then
        (qR p48.2 11 12 l0).bind fun v58 =>
        (qR p48.2 11 11 l0).bind fun v62 =>
        (dr p48.2 v58 (.inl 9)).bind fun a =>
        (fc9_settle N a v62 p48.2).bind fun p65 =>
        (fc11_together_23 N n) l0 l1 (l2 + (1 : Int32)) p65.2
      else
        some (l2, p48.2)
def fc11_together (N : Nat) (a0 : Nat) (x1 : Int32) (σ : Me) : Option (Int32 × Me) :=
  (dr σ (some a0) (.inl 11)).bind fun a =>
  (fc11_isSky N a x1 σ).bind fun p2 =>
  if p2.1 = 0 then
    some ((-1 : Int32), p2.2)
  else
    (qR p2.2 11 11 (some a0)).bind fun v11 =>
    (qR p2.2 11 10 (some a0)).bind fun v15 =>
    (dr p2.2 v11 (.inl 2)).bind fun a =>
    (fc2_copyFrom N a v15 p2.2).bind fun p18 =>
    fc11_together_23 N N (some a0) x1 (1 : Int32) p18.2
set_option maxRecDepth 20000 in
set_option maxHeartbeats 2000000 in
theorem pc11_together_23 {Ω : Om} {Γ : Ga} {N : Nat} (hG : Good Ω Γ tc11_together 6 0 0)  : ∀ (n : Nat) (l0 : Option Nat) (l1 : Int32) (l2 : Int32) (σ : Me), Sim Ω Γ 0 0 ιI 3 23 [(0, vR l0), (1, vI l1), (2, vI l2)] [] σ 0 0 (fc11_together_23 N n l0 l1 l2 σ) := by
  intro n
  induction n with
  | zero => intros; exact s_none
  | succ n ih =>
    intro l0 l1 l2 σ
    unfold fc11_together_23
    refine s_iload_n hG dc11_together_23 rfl ?_
    refine s_bipush (v := 60) hG dc11_together_24 (by decide) ?_
    refine s_icmp_gt hG 74 dc11_together_26 (by decide) ?_ ?_
    · refine s_iconst (v := -1) hG dc11_together_74 (by decide) ?_
      exact s_iret hG dc11_together_75 rfl (Nat.le_of_ble_eq_true rfl) (Nat.le_of_ble_eq_true rfl)
    · refine s_aload_n hG dc11_together_29 rfl ?_
      refine s_getR hG kFc11_68 rfl dc11_together_30 (fun v30 => ?_)
      refine s_aload_n hG dc11_together_33 rfl ?_
      refine s_getR hG kFc11_62 rfl dc11_together_34 (fun v34 => ?_)
      refine s_iload_n hG dc11_together_37 rfl ?_
      refine s_callVv hG kMc11_315 (fun a => corc9_look N a _ _ _) ⟨by decide, rfl⟩ rfl (by first | decide | omega) dc11_together_38 rfl rfl (Nat.le_of_ble_eq_true rfl) ⟨Nat.le_of_ble_eq_true rfl, Nat.le_of_ble_eq_true rfl⟩ (fun p38 => ?_)
      refine s_aload_n hG dc11_together_41 rfl ?_
      refine s_getR hG kFc11_68 rfl dc11_together_42 (fun v42 => ?_)
      refine s_getI hG kFc11_319 rfl dc11_together_45 (fun v45 => ?_)
      refine s_callSi hG kMc11_453 (corIt_bitCount N _ _) rfl (by first | decide | omega) dc11_together_48 rfl rfl (Nat.le_of_ble_eq_true rfl) ⟨Nat.le_of_ble_eq_true rfl, Nat.le_of_ble_eq_true rfl⟩ (fun p48 => ?_)
      refine s_iconst (v := 2) hG dc11_together_51 (by decide) ?_
      refine s_icmp_lt hG 57 dc11_together_52 (by decide) ?_ ?_
      · refine s_aload_n hG dc11_together_57 rfl ?_
        refine s_getR hG kFc11_68 rfl dc11_together_58 (fun v58 => ?_)
        refine s_aload_n hG dc11_together_61 rfl ?_
        refine s_getR hG kFc11_62 rfl dc11_together_62 (fun v62 => ?_)
        refine s_callVv hG kMc11_329 (fun a => corc9_settle N a _ _) ⟨by decide, rfl⟩ rfl (by first | decide | omega) dc11_together_65 rfl rfl (Nat.le_of_ble_eq_true rfl) ⟨Nat.le_of_ble_eq_true rfl, Nat.le_of_ble_eq_true rfl⟩ (fun p65 => ?_)
        refine s_iinc (v := 1) hG dc11_together_68 rfl (by decide) (by decide) ?_
        refine s_goto hG 23 dc11_together_71 (by decide) ?_
        exact s_lv (lc rfl (lc rfl (lc rfl ln))) (ih _ _ _ _)
      · refine s_iload_n hG dc11_together_55 rfl ?_
        exact s_iret hG dc11_together_56 rfl (Nat.le_of_ble_eq_true rfl) (Nat.le_of_ble_eq_true rfl)
set_option maxRecDepth 20000 in
set_option maxHeartbeats 2000000 in
theorem corc11_together {Ω : Om} (N : Nat) (a0 : Nat) (x1 : Int32) (σ : Me) : Cor Ω tc11_together 6 0 0 [vR (some a0), vI x1] σ ιI (fc11_together N a0 x1 σ) := by
  refine Cor.of (by decide +kernel) (Nat.le_of_ble_eq_true rfl) (fun Γ hG => ?_)
  unfold fc11_together
  show Sim Ω Γ 0 0 ιI 3 0 [(0, vR (some a0)), (1, vI x1)] [] σ 0 0 _
  refine s_aload_n hG dc11_together_0 rfl ?_
  refine s_iload_n hG dc11_together_1 rfl ?_
  refine s_callVi hG kMc11_251 (fun a => corc11_isSky N a _ _) ⟨by decide, rfl⟩ rfl (by first | decide | omega) dc11_together_2 rfl rfl (Nat.le_of_ble_eq_true rfl) ⟨Nat.le_of_ble_eq_true rfl, Nat.le_of_ble_eq_true rfl⟩ (fun p2 => ?_)
  refine s_if_ne hG 10 dc11_together_5 (by decide) ?_ ?_
  · refine s_aload_n hG dc11_together_10 rfl ?_
    refine s_getR hG kFc11_62 rfl dc11_together_11 (fun v11 => ?_)
    refine s_aload_n hG dc11_together_14 rfl ?_
    refine s_getR hG kFc11_58 rfl dc11_together_15 (fun v15 => ?_)
    refine s_callVv hG kMc11_140 (fun a => corc2_copyFrom N a _ _) ⟨by decide, rfl⟩ rfl (by first | decide | omega) dc11_together_18 rfl rfl (Nat.le_of_ble_eq_true rfl) ⟨Nat.le_of_ble_eq_true rfl, Nat.le_of_ble_eq_true rfl⟩ (fun p18 => ?_)
    refine s_iconst (v := 1) hG dc11_together_21 (by decide) ?_
    refine s_istore_n hG dc11_together_22 (by decide) ?_
    exact s_lv (lc rfl (lc rfl (lc rfl ln))) (pc11_together_23 hG _ _ _ _ _)
  · refine s_iconst (v := -1) hG dc11_together_8 (by decide) ?_
    exact s_iret hG dc11_together_9 rfl (Nat.le_of_ble_eq_true rfl) (Nat.le_of_ble_eq_true rfl)
def fc11_field (N : Nat) (a0 : Nat) (x1 : Int32) (x2 : Int32) (σ : Me) : Option (Int32 × Me) :=
  (qR σ 11 10 (some a0)).bind fun v1 =>
  (dr σ v1 (.inl 2)).bind fun a =>
  (fc2_has N a x1 σ).bind fun p5 =>
  if p5.1 = 0 then
    none
  else
    if x2 < 0 then
      none
    else
      if x2 ≤ (4 : Int32) then
        if x2 = (0 : Int32) then
          (qR p5.2 11 10 (some a0)).bind fun v61 =>
          (qR p5.2 2 0 v61).bind fun v64 =>
          (ldI p5.2 v64 x1).bind fun v68 =>
          some (v68, p5.2)
        else
        if x2 = (1 : Int32) then
          (qR p5.2 11 10 (some a0)).bind fun v71 =>
          (qR p5.2 2 1 v71).bind fun v74 =>
          (ldI p5.2 v74 x1).bind fun v78 =>
          some (v78, p5.2)
        else
        if x2 = (2 : Int32) then
          (qR p5.2 11 10 (some a0)).bind fun v81 =>
          (qR p5.2 2 2 v81).bind fun v84 =>
          (ldI p5.2 v84 x1).bind fun v88 =>
          some (v88, p5.2)
        else
        if x2 = (3 : Int32) then
          (qR p5.2 11 10 (some a0)).bind fun v91 =>
          (qR p5.2 2 3 v91).bind fun v94 =>
          (ldI p5.2 v94 x1).bind fun v98 =>
          some (v98, p5.2)
        else
        (qR p5.2 11 10 (some a0)).bind fun v101 =>
        (qR p5.2 2 4 v101).bind fun v104 =>
        (ldI p5.2 v104 x1).bind fun v108 =>
        some (v108, p5.2)
      else
        none
set_option maxRecDepth 20000 in
set_option maxHeartbeats 2000000 in
theorem corc11_field {Ω : Om} (N : Nat) (a0 : Nat) (x1 : Int32) (x2 : Int32) (σ : Me) : Cor Ω tc11_field 2 0 0 [vR (some a0), vI x1, vI x2] σ ιI (fc11_field N a0 x1 x2 σ) := by
  refine Cor.of (by decide +kernel) (Nat.le_of_ble_eq_true rfl) (fun Γ hG => ?_)
  unfold fc11_field
  show Sim Ω Γ 0 0 ιI 3 0 [(0, vR (some a0)), (1, vI x1), (2, vI x2)] [] σ 0 0 _
  refine s_aload_n hG dc11_field_0 rfl ?_
  refine s_getR hG kFc11_58 rfl dc11_field_1 (fun v1 => ?_)
  refine s_iload_n hG dc11_field_4 rfl ?_
  refine s_callVi hG kMc11_180 (fun a => corc2_has N a _ _) ⟨by decide, rfl⟩ rfl (by first | decide | omega) dc11_field_5 rfl rfl (Nat.le_of_ble_eq_true rfl) ⟨Nat.le_of_ble_eq_true rfl, Nat.le_of_ble_eq_true rfl⟩ (fun p5 => ?_)
  refine s_if_eq hG 20 dc11_field_8 (by decide) ?_ ?_
  · exact s_none
  · refine s_iload_n hG dc11_field_11 rfl ?_
    refine s_if_lt hG 20 dc11_field_12 (by decide) ?_ ?_
    · exact s_none
    · refine s_iload_n hG dc11_field_15 rfl ?_
      refine s_iconst (v := 4) hG dc11_field_16 (by decide) ?_
      refine s_icmp_le hG 28 dc11_field_17 (by decide) ?_ ?_
      · refine s_iload_n hG dc11_field_28 rfl ?_
        refine s_split _ (fun e0 => ?_) (fun e0 => ?_)
        · refine s_tabIn hG 60 dc11_field_29 (by rw [e0]; decide) (by rw [e0]; decide) (by rw [e0]; rfl) (by decide) ?_
          refine s_aload_n hG dc11_field_60 rfl ?_
          refine s_getR hG kFc11_58 rfl dc11_field_61 (fun v61 => ?_)
          refine s_getR hG kFc11_186 rfl dc11_field_64 (fun v64 => ?_)
          refine s_iload_n hG dc11_field_67 rfl ?_
          refine s_iald hG dc11_field_68 (fun v68 => ?_)
          exact s_iret hG dc11_field_69 rfl (Nat.le_of_ble_eq_true rfl) (Nat.le_of_ble_eq_true rfl)
        · refine s_split _ (fun e1 => ?_) (fun e1 => ?_)
          · refine s_tabIn hG 70 dc11_field_29 (by rw [e1]; decide) (by rw [e1]; decide) (by rw [e1]; rfl) (by decide) ?_
            refine s_aload_n hG dc11_field_70 rfl ?_
            refine s_getR hG kFc11_58 rfl dc11_field_71 (fun v71 => ?_)
            refine s_getR hG kFc11_189 rfl dc11_field_74 (fun v74 => ?_)
            refine s_iload_n hG dc11_field_77 rfl ?_
            refine s_iald hG dc11_field_78 (fun v78 => ?_)
            exact s_iret hG dc11_field_79 rfl (Nat.le_of_ble_eq_true rfl) (Nat.le_of_ble_eq_true rfl)
          · refine s_split _ (fun e2 => ?_) (fun e2 => ?_)
            · refine s_tabIn hG 80 dc11_field_29 (by rw [e2]; decide) (by rw [e2]; decide) (by rw [e2]; rfl) (by decide) ?_
              refine s_aload_n hG dc11_field_80 rfl ?_
              refine s_getR hG kFc11_58 rfl dc11_field_81 (fun v81 => ?_)
              refine s_getR hG kFc11_192 rfl dc11_field_84 (fun v84 => ?_)
              refine s_iload_n hG dc11_field_87 rfl ?_
              refine s_iald hG dc11_field_88 (fun v88 => ?_)
              exact s_iret hG dc11_field_89 rfl (Nat.le_of_ble_eq_true rfl) (Nat.le_of_ble_eq_true rfl)
            · refine s_split _ (fun e3 => ?_) (fun e3 => ?_)
              · refine s_tabIn hG 90 dc11_field_29 (by rw [e3]; decide) (by rw [e3]; decide) (by rw [e3]; rfl) (by decide) ?_
                refine s_aload_n hG dc11_field_90 rfl ?_
                refine s_getR hG kFc11_58 rfl dc11_field_91 (fun v91 => ?_)
                refine s_getR hG kFc11_195 rfl dc11_field_94 (fun v94 => ?_)
                refine s_iload_n hG dc11_field_97 rfl ?_
                refine s_iald hG dc11_field_98 (fun v98 => ?_)
                exact s_iret hG dc11_field_99 rfl (Nat.le_of_ble_eq_true rfl) (Nat.le_of_ble_eq_true rfl)
              · refine s_tabOut hG 100 dc11_field_29 (tab_out (lo := 0) (n := 3) (by decide) (by decide) (show ∀ q ∈ [(0 : Int32), (1 : Int32), (2 : Int32), (3 : Int32)], ¬ _ = q from (List.forall_mem_cons.mpr ⟨e0, (List.forall_mem_cons.mpr ⟨e1, (List.forall_mem_cons.mpr ⟨e2, (List.forall_mem_cons.mpr ⟨e3, (fun q h => absurd h List.not_mem_nil)⟩)⟩)⟩)⟩))) (by decide) ?_
                refine s_aload_n hG dc11_field_100 rfl ?_
                refine s_getR hG kFc11_58 rfl dc11_field_101 (fun v101 => ?_)
                refine s_getR hG kFc11_198 rfl dc11_field_104 (fun v104 => ?_)
                refine s_iload_n hG dc11_field_107 rfl ?_
                refine s_iald hG dc11_field_108 (fun v108 => ?_)
                exact s_iret hG dc11_field_109 rfl (Nat.le_of_ble_eq_true rfl) (Nat.le_of_ble_eq_true rfl)
      · exact s_none
def fc12_init (N : Nat) (a0 : Nat) (σ : Me) : Option (Unit × Me) :=
  (newA σ .byte (240 : Int32) 240).bind fun p8 =>
  (pR p8.2 12 1 (some a0) (some p8.1)).bind fun σ10 =>
  (newA σ10 .byte (960 : Int32) 960).bind fun p17 =>
  (pR p17.2 12 2 (some a0) (some p17.1)).bind fun σ19 =>
  (newA σ19 .int (4 : Int32) 4).bind fun p24 =>
  (pR p24.2 12 3 (some a0) (some p24.1)).bind fun σ26 =>
  (newA σ26 .int (128 : Int32) 128).bind fun p33 =>
  (pR p33.2 12 4 (some a0) (some p33.1)).bind fun σ35 =>
  (qR σ35 12 1 (some a0)).bind fun v40 =>
  (pR σ35 12 5 (some a0) v40).bind fun σ43 =>
  (pR σ43 12 15 (some a0) (some 1000024)).bind fun σ49 =>
  (pR σ49 12 16 (some a0) (some 1000025)).bind fun σ55 =>
  (newA σ55 .int (3 : Int32) 3).bind fun p60 =>
  (pR p60.2 12 18 (some a0) (some p60.1)).bind fun σ62 =>
  (newA σ62 .int (3 : Int32) 3).bind fun p67 =>
  (pR p67.2 12 19 (some a0) (some p67.1)).bind fun σ69 =>
  (newA σ69 .int (30 : Int32) 30).bind fun p75 =>
  (pR p75.2 12 20 (some a0) (some p75.1)).bind fun σ77 =>
  (newA σ77 .int (30 : Int32) 30).bind fun p83 =>
  (pR p83.2 12 21 (some a0) (some p83.1)).bind fun σ85 =>
  (newA σ85 .int (240 : Int32) 240).bind fun p92 =>
  (pR p92.2 12 22 (some a0) (some p92.1)).bind fun σ94 =>
  (newA σ94 .int (5 : Int32) 5).bind fun p99 =>
  (pR p99.2 12 23 (some a0) (some p99.1)).bind fun σ101 =>
  (newA σ101 .int (207 : Int32) 207).bind fun p108 =>
  (pR p108.2 12 28 (some a0) (some p108.1)).bind fun σ110 =>
  (newA σ110 .int (207 : Int32) 207).bind fun p117 =>
  (pR p117.2 12 29 (some a0) (some p117.1)).bind fun σ119 =>
  (pI σ119 12 30 (some a0) (-1 : Int32)).bind fun σ124 =>
  (newA σ124 .long (8191 : Int32) 8191).bind fun p131 =>
  (pR p131.2 12 32 (some a0) (some p131.1)).bind fun σ133 =>
  (newA σ133 .int (8191 : Int32) 8191).bind fun p140 =>
  (pR p140.2 12 33 (some a0) (some p140.1)).bind fun σ142 =>
  (newA σ142 .int (6 : Int32) 6).bind fun p148 =>
  (pR p148.2 12 34 (some a0) (some p148.1)).bind fun σ150 =>
  (newA σ150 .int (6 : Int32) 6).bind fun p156 =>
  (pR p156.2 12 35 (some a0) (some p156.1)).bind fun σ158 =>
  (newA σ158 .int (8280 : Int32) 8280).bind fun p165 =>
  (pR p165.2 12 38 (some a0) (some p165.1)).bind fun σ167 =>
  (newA σ167 .int (6 : Int32) 6).bind fun p173 =>
  (pR p173.2 12 41 (some a0) (some p173.1)).bind fun σ175 =>
  (newA σ175 .int (40 : Int32) 40).bind fun p181 =>
  (pR p181.2 12 42 (some a0) (some p181.1)).bind fun σ183 =>
  (newA σ183 .int (100 : Int32) 100).bind fun p189 =>
  (pR p189.2 12 43 (some a0) (some p189.1)).bind fun σ191 =>
  (newA σ191 .boolean (100 : Int32) 100).bind fun p197 =>
  (pR p197.2 12 44 (some a0) (some p197.1)).bind fun σ199 =>
  (newA σ199 .int (72 : Int32) 72).bind fun p205 =>
  (pR p205.2 12 46 (some a0) (some p205.1)).bind fun σ207 =>
  (newA σ207 .int (207 : Int32) 207).bind fun p214 =>
  (pR p214.2 12 47 (some a0) (some p214.1)).bind fun σ216 =>
  some ((), σ216)
set_option maxRecDepth 20000 in
set_option maxHeartbeats 2000000 in
theorem corc12_init {Ω : Om} (N : Nat) (a0 : Nat) (σ : Me) : Cor Ω tc12_init 1 23 27256 [vR (some a0)] σ ιV (fc12_init N a0 σ) := by
  refine Cor.of (by decide +kernel) (Nat.le_of_ble_eq_true rfl) (fun Γ hG => ?_)
  unfold fc12_init
  show Sim Ω Γ 23 27256 ιV 1 0 [(0, vR (some a0))] [] σ 0 0 _
  refine s_aload_n hG dc12_init_0 rfl ?_
  refine s_objInit hG kOc12_3 kOi kOc rfl (by decide) dc12_init_1 (Nat.le_of_ble_eq_true rfl) ?_
  refine s_aload_n hG dc12_init_4 rfl ?_
  refine s_sipush (v := 240) hG dc12_init_5 (by decide) ?_
  refine s_newarr hG 1 rfl rfl (by simp) kA_byte (by decide) dc12_init_8 ⟨Nat.le_of_ble_eq_true rfl, Nat.le_of_ble_eq_true rfl⟩ (fun p8 => ?_)
  refine s_putR (fin := true) hG kFc12_9 rfl (fun _ => ⟨rfl, rfl⟩) rfl (fun v => by cases v <;> rfl) (fun v => by cases v <;> rfl) dc12_init_10 (fun σ10 => ?_)
  refine s_aload_n hG dc12_init_13 rfl ?_
  refine s_sipush (v := 960) hG dc12_init_14 (by decide) ?_
  refine s_newarr hG 1 rfl rfl (by simp) kA_byte (by decide) dc12_init_17 ⟨Nat.le_of_ble_eq_true rfl, Nat.le_of_ble_eq_true rfl⟩ (fun p17 => ?_)
  refine s_putR (fin := true) hG kFc12_13 rfl (fun _ => ⟨rfl, rfl⟩) rfl (fun v => by cases v <;> rfl) (fun v => by cases v <;> rfl) dc12_init_19 (fun σ19 => ?_)
  refine s_aload_n hG dc12_init_22 rfl ?_
  refine s_iconst (v := 4) hG dc12_init_23 (by decide) ?_
  refine s_newarr hG 0 rfl rfl (by simp) kA_int (by decide) dc12_init_24 ⟨Nat.le_of_ble_eq_true rfl, Nat.le_of_ble_eq_true rfl⟩ (fun p24 => ?_)
  refine s_putR (fin := true) hG kFc12_16 rfl (fun _ => ⟨rfl, rfl⟩) rfl (fun v => by cases v <;> rfl) (fun v => by cases v <;> rfl) dc12_init_26 (fun σ26 => ?_)
  refine s_aload_n hG dc12_init_29 rfl ?_
  refine s_sipush (v := 128) hG dc12_init_30 (by decide) ?_
  refine s_newarr hG 0 rfl rfl (by simp) kA_int (by decide) dc12_init_33 ⟨Nat.le_of_ble_eq_true rfl, Nat.le_of_ble_eq_true rfl⟩ (fun p33 => ?_)
  refine s_putR (fin := true) hG kFc12_20 rfl (fun _ => ⟨rfl, rfl⟩) rfl (fun v => by cases v <;> rfl) (fun v => by cases v <;> rfl) dc12_init_35 (fun σ35 => ?_)
  refine s_aload_n hG dc12_init_38 rfl ?_
  refine s_aload_n hG dc12_init_39 rfl ?_
  refine s_getR hG kFc12_9 rfl dc12_init_40 (fun v40 => ?_)
  refine s_putR (fin := false) hG kFc12_23 rfl (fun h => by cases h) rfl (fun v => by cases v <;> rfl) (fun v => by cases v <;> rfl) dc12_init_43 (fun σ43 => ?_)
  refine s_aload_n hG dc12_init_46 rfl ?_
  refine s_ldcS hG 4 (by decide) rfl rfl dc12_init_47 ?_
  refine s_putR (fin := true) hG kFc12_28 rfl (fun _ => ⟨rfl, rfl⟩) rfl (fun v => by cases v <;> rfl) (fun v => by cases v <;> rfl) dc12_init_49 (fun σ49 => ?_)
  refine s_aload_n hG dc12_init_52 rfl ?_
  refine s_ldcS hG 5 (by decide) rfl rfl dc12_init_53 ?_
  refine s_putR (fin := true) hG kFc12_34 rfl (fun _ => ⟨rfl, rfl⟩) rfl (fun v => by cases v <;> rfl) (fun v => by cases v <;> rfl) dc12_init_55 (fun σ55 => ?_)
  refine s_aload_n hG dc12_init_58 rfl ?_
  refine s_iconst (v := 3) hG dc12_init_59 (by decide) ?_
  refine s_newarr hG 0 rfl rfl (by simp) kA_int (by decide) dc12_init_60 ⟨Nat.le_of_ble_eq_true rfl, Nat.le_of_ble_eq_true rfl⟩ (fun p60 => ?_)
  refine s_putR (fin := true) hG kFc12_37 rfl (fun _ => ⟨rfl, rfl⟩) rfl (fun v => by cases v <;> rfl) (fun v => by cases v <;> rfl) dc12_init_62 (fun σ62 => ?_)
  refine s_aload_n hG dc12_init_65 rfl ?_
  refine s_iconst (v := 3) hG dc12_init_66 (by decide) ?_
  refine s_newarr hG 0 rfl rfl (by simp) kA_int (by decide) dc12_init_67 ⟨Nat.le_of_ble_eq_true rfl, Nat.le_of_ble_eq_true rfl⟩ (fun p67 => ?_)
  refine s_putR (fin := true) hG kFc12_40 rfl (fun _ => ⟨rfl, rfl⟩) rfl (fun v => by cases v <;> rfl) (fun v => by cases v <;> rfl) dc12_init_69 (fun σ69 => ?_)
  refine s_aload_n hG dc12_init_72 rfl ?_
  refine s_bipush (v := 30) hG dc12_init_73 (by decide) ?_
  refine s_newarr hG 0 rfl rfl (by simp) kA_int (by decide) dc12_init_75 ⟨Nat.le_of_ble_eq_true rfl, Nat.le_of_ble_eq_true rfl⟩ (fun p75 => ?_)
  refine s_putR (fin := true) hG kFc12_43 rfl (fun _ => ⟨rfl, rfl⟩) rfl (fun v => by cases v <;> rfl) (fun v => by cases v <;> rfl) dc12_init_77 (fun σ77 => ?_)
  refine s_aload_n hG dc12_init_80 rfl ?_
  refine s_bipush (v := 30) hG dc12_init_81 (by decide) ?_
  refine s_newarr hG 0 rfl rfl (by simp) kA_int (by decide) dc12_init_83 ⟨Nat.le_of_ble_eq_true rfl, Nat.le_of_ble_eq_true rfl⟩ (fun p83 => ?_)
  refine s_putR (fin := true) hG kFc12_46 rfl (fun _ => ⟨rfl, rfl⟩) rfl (fun v => by cases v <;> rfl) (fun v => by cases v <;> rfl) dc12_init_85 (fun σ85 => ?_)
  refine s_aload_n hG dc12_init_88 rfl ?_
  refine s_sipush (v := 240) hG dc12_init_89 (by decide) ?_
  refine s_newarr hG 0 rfl rfl (by simp) kA_int (by decide) dc12_init_92 ⟨Nat.le_of_ble_eq_true rfl, Nat.le_of_ble_eq_true rfl⟩ (fun p92 => ?_)
  refine s_putR (fin := true) hG kFc12_49 rfl (fun _ => ⟨rfl, rfl⟩) rfl (fun v => by cases v <;> rfl) (fun v => by cases v <;> rfl) dc12_init_94 (fun σ94 => ?_)
  refine s_aload_n hG dc12_init_97 rfl ?_
  refine s_iconst (v := 5) hG dc12_init_98 (by decide) ?_
  refine s_newarr hG 0 rfl rfl (by simp) kA_int (by decide) dc12_init_99 ⟨Nat.le_of_ble_eq_true rfl, Nat.le_of_ble_eq_true rfl⟩ (fun p99 => ?_)
  refine s_putR (fin := true) hG kFc12_52 rfl (fun _ => ⟨rfl, rfl⟩) rfl (fun v => by cases v <;> rfl) (fun v => by cases v <;> rfl) dc12_init_101 (fun σ101 => ?_)
  refine s_aload_n hG dc12_init_104 rfl ?_
  refine s_sipush (v := 207) hG dc12_init_105 (by decide) ?_
  refine s_newarr hG 0 rfl rfl (by simp) kA_int (by decide) dc12_init_108 ⟨Nat.le_of_ble_eq_true rfl, Nat.le_of_ble_eq_true rfl⟩ (fun p108 => ?_)
  refine s_putR (fin := true) hG kFc12_55 rfl (fun _ => ⟨rfl, rfl⟩) rfl (fun v => by cases v <;> rfl) (fun v => by cases v <;> rfl) dc12_init_110 (fun σ110 => ?_)
  refine s_aload_n hG dc12_init_113 rfl ?_
  refine s_sipush (v := 207) hG dc12_init_114 (by decide) ?_
  refine s_newarr hG 0 rfl rfl (by simp) kA_int (by decide) dc12_init_117 ⟨Nat.le_of_ble_eq_true rfl, Nat.le_of_ble_eq_true rfl⟩ (fun p117 => ?_)
  refine s_putR (fin := true) hG kFc12_58 rfl (fun _ => ⟨rfl, rfl⟩) rfl (fun v => by cases v <;> rfl) (fun v => by cases v <;> rfl) dc12_init_119 (fun σ119 => ?_)
  refine s_aload_n hG dc12_init_122 rfl ?_
  refine s_iconst (v := -1) hG dc12_init_123 (by decide) ?_
  refine s_putI (fin := false) hG kFc12_61 rfl (fun h => by cases h) rfl (fun _ => rfl) (fun _ => rfl) dc12_init_124 (fun σ124 => ?_)
  refine s_aload_n hG dc12_init_127 rfl ?_
  refine s_sipush (v := 8191) hG dc12_init_128 (by decide) ?_
  refine s_newarr hG 3 rfl rfl (by simp) kA_long (by decide) dc12_init_131 ⟨Nat.le_of_ble_eq_true rfl, Nat.le_of_ble_eq_true rfl⟩ (fun p131 => ?_)
  refine s_putR (fin := true) hG kFc12_65 rfl (fun _ => ⟨rfl, rfl⟩) rfl (fun v => by cases v <;> rfl) (fun v => by cases v <;> rfl) dc12_init_133 (fun σ133 => ?_)
  refine s_aload_n hG dc12_init_136 rfl ?_
  refine s_sipush (v := 8191) hG dc12_init_137 (by decide) ?_
  refine s_newarr hG 0 rfl rfl (by simp) kA_int (by decide) dc12_init_140 ⟨Nat.le_of_ble_eq_true rfl, Nat.le_of_ble_eq_true rfl⟩ (fun p140 => ?_)
  refine s_putR (fin := true) hG kFc12_69 rfl (fun _ => ⟨rfl, rfl⟩) rfl (fun v => by cases v <;> rfl) (fun v => by cases v <;> rfl) dc12_init_142 (fun σ142 => ?_)
  refine s_aload_n hG dc12_init_145 rfl ?_
  refine s_bipush (v := 6) hG dc12_init_146 (by decide) ?_
  refine s_newarr hG 0 rfl rfl (by simp) kA_int (by decide) dc12_init_148 ⟨Nat.le_of_ble_eq_true rfl, Nat.le_of_ble_eq_true rfl⟩ (fun p148 => ?_)
  refine s_putR (fin := true) hG kFc12_72 rfl (fun _ => ⟨rfl, rfl⟩) rfl (fun v => by cases v <;> rfl) (fun v => by cases v <;> rfl) dc12_init_150 (fun σ150 => ?_)
  refine s_aload_n hG dc12_init_153 rfl ?_
  refine s_bipush (v := 6) hG dc12_init_154 (by decide) ?_
  refine s_newarr hG 0 rfl rfl (by simp) kA_int (by decide) dc12_init_156 ⟨Nat.le_of_ble_eq_true rfl, Nat.le_of_ble_eq_true rfl⟩ (fun p156 => ?_)
  refine s_putR (fin := true) hG kFc12_75 rfl (fun _ => ⟨rfl, rfl⟩) rfl (fun v => by cases v <;> rfl) (fun v => by cases v <;> rfl) dc12_init_158 (fun σ158 => ?_)
  refine s_aload_n hG dc12_init_161 rfl ?_
  refine s_sipush (v := 8280) hG dc12_init_162 (by decide) ?_
  refine s_newarr hG 0 rfl rfl (by simp) kA_int (by decide) dc12_init_165 ⟨Nat.le_of_ble_eq_true rfl, Nat.le_of_ble_eq_true rfl⟩ (fun p165 => ?_)
  refine s_putR (fin := true) hG kFc12_78 rfl (fun _ => ⟨rfl, rfl⟩) rfl (fun v => by cases v <;> rfl) (fun v => by cases v <;> rfl) dc12_init_167 (fun σ167 => ?_)
  refine s_aload_n hG dc12_init_170 rfl ?_
  refine s_bipush (v := 6) hG dc12_init_171 (by decide) ?_
  refine s_newarr hG 0 rfl rfl (by simp) kA_int (by decide) dc12_init_173 ⟨Nat.le_of_ble_eq_true rfl, Nat.le_of_ble_eq_true rfl⟩ (fun p173 => ?_)
  refine s_putR (fin := true) hG kFc12_81 rfl (fun _ => ⟨rfl, rfl⟩) rfl (fun v => by cases v <;> rfl) (fun v => by cases v <;> rfl) dc12_init_175 (fun σ175 => ?_)
  refine s_aload_n hG dc12_init_178 rfl ?_
  refine s_bipush (v := 40) hG dc12_init_179 (by decide) ?_
  refine s_newarr hG 0 rfl rfl (by simp) kA_int (by decide) dc12_init_181 ⟨Nat.le_of_ble_eq_true rfl, Nat.le_of_ble_eq_true rfl⟩ (fun p181 => ?_)
  refine s_putR (fin := true) hG kFc12_84 rfl (fun _ => ⟨rfl, rfl⟩) rfl (fun v => by cases v <;> rfl) (fun v => by cases v <;> rfl) dc12_init_183 (fun σ183 => ?_)
  refine s_aload_n hG dc12_init_186 rfl ?_
  refine s_bipush (v := 100) hG dc12_init_187 (by decide) ?_
  refine s_newarr hG 0 rfl rfl (by simp) kA_int (by decide) dc12_init_189 ⟨Nat.le_of_ble_eq_true rfl, Nat.le_of_ble_eq_true rfl⟩ (fun p189 => ?_)
  refine s_putR (fin := true) hG kFc12_87 rfl (fun _ => ⟨rfl, rfl⟩) rfl (fun v => by cases v <;> rfl) (fun v => by cases v <;> rfl) dc12_init_191 (fun σ191 => ?_)
  refine s_aload_n hG dc12_init_194 rfl ?_
  refine s_bipush (v := 100) hG dc12_init_195 (by decide) ?_
  refine s_newarr hG 2 rfl rfl (by simp) kA_boolean (by decide) dc12_init_197 ⟨Nat.le_of_ble_eq_true rfl, Nat.le_of_ble_eq_true rfl⟩ (fun p197 => ?_)
  refine s_putR (fin := true) hG kFc12_90 rfl (fun _ => ⟨rfl, rfl⟩) rfl (fun v => by cases v <;> rfl) (fun v => by cases v <;> rfl) dc12_init_199 (fun σ199 => ?_)
  refine s_aload_n hG dc12_init_202 rfl ?_
  refine s_bipush (v := 72) hG dc12_init_203 (by decide) ?_
  refine s_newarr hG 0 rfl rfl (by simp) kA_int (by decide) dc12_init_205 ⟨Nat.le_of_ble_eq_true rfl, Nat.le_of_ble_eq_true rfl⟩ (fun p205 => ?_)
  refine s_putR (fin := true) hG kFc12_94 rfl (fun _ => ⟨rfl, rfl⟩) rfl (fun v => by cases v <;> rfl) (fun v => by cases v <;> rfl) dc12_init_207 (fun σ207 => ?_)
  refine s_aload_n hG dc12_init_210 rfl ?_
  refine s_sipush (v := 207) hG dc12_init_211 (by decide) ?_
  refine s_newarr hG 0 rfl rfl (by simp) kA_int (by decide) dc12_init_214 ⟨Nat.le_of_ble_eq_true rfl, Nat.le_of_ble_eq_true rfl⟩ (fun p214 => ?_)
  refine s_putR (fin := true) hG kFc12_97 rfl (fun _ => ⟨rfl, rfl⟩) rfl (fun v => by cases v <;> rfl) (fun v => by cases v <;> rfl) dc12_init_216 (fun σ216 => ?_)
  exact s_vret hG dc12_init_219 rfl (Nat.le_of_ble_eq_true rfl) (Nat.le_of_ble_eq_true rfl)
def fc12_thrown (N : Nat) (a0 : Nat) (σ : Me) : Option (Int32 × Me) :=
  (qI σ 12 0 (some a0)).bind fun v1 =>
  some (v1, σ)
set_option maxRecDepth 20000 in
set_option maxHeartbeats 2000000 in
theorem corc12_thrown {Ω : Om} (N : Nat) (a0 : Nat) (σ : Me) : Cor Ω tc12_thrown 1 0 0 [vR (some a0)] σ ιI (fc12_thrown N a0 σ) := by
  refine Cor.of (by decide +kernel) (Nat.le_of_ble_eq_true rfl) (fun Γ hG => ?_)
  unfold fc12_thrown
  show Sim Ω Γ 0 0 ιI 1 0 [(0, vR (some a0))] [] σ 0 0 _
  refine s_aload_n hG dc12_thrown_0 rfl ?_
  refine s_getI hG kFc12_100 rfl dc12_thrown_1 (fun v1 => ?_)
  exact s_iret hG dc12_thrown_4 rfl (Nat.le_of_ble_eq_true rfl) (Nat.le_of_ble_eq_true rfl)
def fc12_bytesIn_25 (N : Nat) (K5 : Int32 → Int32 → Int32 → Me → Option (Int32 × Me)) (l0 : Int32) (l2 : Int32) (s0 : Int32) (s1 : Int32) (σ : Me) : Option (Int32 × Me) :=
  K5 l0 (s0 + s1) (l2 + (-8 : Int32)) σ
def fc12_bytesIn_5 (N : Nat) : Nat → Int32 → Int32 → Int32 → Me → Option (Int32 × Me)
  | 0, _, _, _, _ => none
  | n + 1, l0, l1, l2, σ =>
    if l2 < 0 then
      some (l1, σ)
    else
      if ((l0 >>> (l2 &&& 31)) &&& (255 : Int32)) = 0 then
        fc12_bytesIn_25 N (fc12_bytesIn_5 N n) l0 l2 l1 (0 : Int32) σ
      else
        fc12_bytesIn_25 N (fc12_bytesIn_5 N n) l0 l2 l1 (1 : Int32) σ
def fc12_bytesIn (N : Nat) (x0 : Int32) (σ : Me) : Option (Int32 × Me) :=
  fc12_bytesIn_5 N N x0 (0 : Int32) (24 : Int32) σ
set_option maxRecDepth 20000 in
set_option maxHeartbeats 2000000 in
theorem pc12_bytesIn_25 {Ω : Om} {Γ : Ga} {N : Nat} (hG : Good Ω Γ tc12_bytesIn 1 0 0) {K5 : Int32 → Int32 → Int32 → Me → Option (Int32 × Me)} (hK5 : ∀ (l0 : Int32) (l1 : Int32) (l2 : Int32) (σ : Me), Sim Ω Γ 0 0 ιI 3 5 [(0, vI l0), (1, vI l1), (2, vI l2)] [] σ 0 0 (K5 l0 l1 l2 σ)) (l0 : Int32) (l2 : Int32) (s0 : Int32) (s1 : Int32) (σ : Me) : Sim Ω Γ 0 0 ιI 3 25 [(0, vI l0), (2, vI l2)] [vI s1, vI s0] σ 0 0 (fc12_bytesIn_25 N K5 l0 l2 s0 s1 σ) := by
  unfold fc12_bytesIn_25
  refine s_iadd hG dc12_bytesIn_25 ?_
  refine s_istore_n hG dc12_bytesIn_26 (by decide) ?_
  refine s_iinc (v := -8) hG dc12_bytesIn_27 rfl (by decide) (by decide) ?_
  refine s_goto hG 5 dc12_bytesIn_30 (by decide) ?_
  exact s_lv (lc rfl (lc rfl (lc rfl ln))) (hK5 _ _ _ _)
set_option maxRecDepth 20000 in
set_option maxHeartbeats 2000000 in
theorem pc12_bytesIn_5 {Ω : Om} {Γ : Ga} {N : Nat} (hG : Good Ω Γ tc12_bytesIn 1 0 0)  : ∀ (n : Nat) (l0 : Int32) (l1 : Int32) (l2 : Int32) (σ : Me), Sim Ω Γ 0 0 ιI 3 5 [(0, vI l0), (1, vI l1), (2, vI l2)] [] σ 0 0 (fc12_bytesIn_5 N n l0 l1 l2 σ) := by
  intro n
  induction n with
  | zero => intros; exact s_none
  | succ n ih =>
    intro l0 l1 l2 σ
    unfold fc12_bytesIn_5
    refine s_iload_n hG dc12_bytesIn_5 rfl ?_
    refine s_if_lt hG 33 dc12_bytesIn_6 (by decide) ?_ ?_
    · refine s_iload_n hG dc12_bytesIn_33 rfl ?_
      exact s_iret hG dc12_bytesIn_34 rfl (Nat.le_of_ble_eq_true rfl) (Nat.le_of_ble_eq_true rfl)
    · refine s_iload_n hG dc12_bytesIn_9 rfl ?_
      refine s_iload_n hG dc12_bytesIn_10 rfl ?_
      refine s_iload_n hG dc12_bytesIn_11 rfl ?_
      refine s_ishr hG dc12_bytesIn_12 ?_
      refine s_sipush (v := 255) hG dc12_bytesIn_13 (by decide) ?_
      refine s_iand hG dc12_bytesIn_16 ?_
      refine s_if_eq hG 24 dc12_bytesIn_17 (by decide) ?_ ?_
      · refine s_iconst (v := 0) hG dc12_bytesIn_24 (by decide) ?_
        exact s_lv (lc rfl (lc rfl ln)) (pc12_bytesIn_25 hG ih _ _ _ _ _)
      · refine s_iconst (v := 1) hG dc12_bytesIn_20 (by decide) ?_
        refine s_goto hG 25 dc12_bytesIn_21 (by decide) ?_
        exact s_lv (lc rfl (lc rfl ln)) (pc12_bytesIn_25 hG ih _ _ _ _ _)
set_option maxRecDepth 20000 in
set_option maxHeartbeats 2000000 in
theorem corc12_bytesIn {Ω : Om} (N : Nat) (x0 : Int32) (σ : Me) : Cor Ω tc12_bytesIn 1 0 0 [vI x0] σ ιI (fc12_bytesIn N x0 σ) := by
  refine Cor.of (by decide +kernel) (Nat.le_of_ble_eq_true rfl) (fun Γ hG => ?_)
  unfold fc12_bytesIn
  show Sim Ω Γ 0 0 ιI 3 0 [(0, vI x0)] [] σ 0 0 _
  refine s_iconst (v := 0) hG dc12_bytesIn_0 (by decide) ?_
  refine s_istore_n hG dc12_bytesIn_1 (by decide) ?_
  refine s_bipush (v := 24) hG dc12_bytesIn_2 (by decide) ?_
  refine s_istore_n hG dc12_bytesIn_4 (by decide) ?_
  exact s_lv (lc rfl (lc rfl (lc rfl ln))) (pc12_bytesIn_5 hG _ _ _ _ _)
def fc12_put_43 (N : Nat) (K3 : Option Nat → Int32 → Int32 → Me → Option (Unit × Me)) (l0 : Option Nat) (l1 : Int32) (l2 : Int32) (σ : Me) : Option (Unit × Me) :=
  K3 l0 l1 (l2 + (-8 : Int32)) σ
def fc12_put_3 (N : Nat) : Nat → Option Nat → Int32 → Int32 → Me → Option (Unit × Me)
  | 0, _, _, _, _ => none
  | n + 1, l0, l1, l2, σ =>
    if l2 < 0 then
      some ((), σ)
    else
      if ((l1 >>> (l2 &&& 31)) &&& (255 : Int32)) = 0 then
        fc12_put_43 N (fc12_put_3 N n) l0 l1 l2 σ
      else
        (qR σ 12 1 l0).bind fun v21 =>
        (qI σ 12 6 l0).bind fun v25 =>
        (stB σ v21 v25 (Int8.toInt32 (Int32.toInt8 (l1 >>> (l2 &&& 31))))).bind fun σ32 =>
        (qI σ32 12 6 l0).bind fun v35 =>
        (pI σ32 12 6 l0 (v35 + (1 : Int32))).bind fun σ40 =>
        fc12_put_43 N (fc12_put_3 N n) l0 l1 l2 σ40
def fc12_put (N : Nat) (a0 : Nat) (x1 : Int32) (σ : Me) : Option (Unit × Me) :=
  fc12_put_3 N N (some a0) x1 (24 : Int32) σ
set_option maxRecDepth 20000 in
set_option maxHeartbeats 2000000 in
theorem pc12_put_43 {Ω : Om} {Γ : Ga} {N : Nat} (hG : Good Ω Γ tc12_put 1 0 0) {K3 : Option Nat → Int32 → Int32 → Me → Option (Unit × Me)} (hK3 : ∀ (l0 : Option Nat) (l1 : Int32) (l2 : Int32) (σ : Me), Sim Ω Γ 0 0 ιV 3 3 [(0, vR l0), (1, vI l1), (2, vI l2)] [] σ 0 0 (K3 l0 l1 l2 σ)) (l0 : Option Nat) (l1 : Int32) (l2 : Int32) (σ : Me) : Sim Ω Γ 0 0 ιV 3 43 [(0, vR l0), (1, vI l1), (2, vI l2)] [] σ 0 0 (fc12_put_43 N K3 l0 l1 l2 σ) := by
  unfold fc12_put_43
  refine s_iinc (v := -8) hG dc12_put_43 rfl (by decide) (by decide) ?_
  refine s_goto hG 3 dc12_put_46 (by decide) ?_
  exact s_lv (lc rfl (lc rfl (lc rfl ln))) (hK3 _ _ _ _)
set_option maxRecDepth 20000 in
set_option maxHeartbeats 2000000 in
theorem pc12_put_3 {Ω : Om} {Γ : Ga} {N : Nat} (hG : Good Ω Γ tc12_put 1 0 0)  : ∀ (n : Nat) (l0 : Option Nat) (l1 : Int32) (l2 : Int32) (σ : Me), Sim Ω Γ 0 0 ιV 3 3 [(0, vR l0), (1, vI l1), (2, vI l2)] [] σ 0 0 (fc12_put_3 N n l0 l1 l2 σ) := by
  intro n
  induction n with
  | zero => intros; exact s_none
  | succ n ih =>
    intro l0 l1 l2 σ
    unfold fc12_put_3
    refine s_iload_n hG dc12_put_3 rfl ?_
    refine s_if_lt hG 49 dc12_put_4 (by decide) ?_ ?_
    · exact s_vret hG dc12_put_49 rfl (Nat.le_of_ble_eq_true rfl) (Nat.le_of_ble_eq_true rfl)
    · refine s_iload_n hG dc12_put_7 rfl ?_
      refine s_iload_n hG dc12_put_8 rfl ?_
      refine s_ishr hG dc12_put_9 ?_
      refine s_sipush (v := 255) hG dc12_put_10 (by decide) ?_
      refine s_iand hG dc12_put_13 ?_
      refine s_if_ne hG 20 dc12_put_14 (by decide) ?_ ?_
      · refine s_aload_n hG dc12_put_20 rfl ?_
        refine s_getR hG kFc12_9 rfl dc12_put_21 (fun v21 => ?_)
        refine s_aload_n hG dc12_put_24 rfl ?_
        refine s_getI hG kFc12_113 rfl dc12_put_25 (fun v25 => ?_)
        refine s_iload_n hG dc12_put_28 rfl ?_
        refine s_iload_n hG dc12_put_29 rfl ?_
        refine s_ishr hG dc12_put_30 ?_
        refine s_i2b hG dc12_put_31 ?_
        refine s_bast hG dc12_put_32 (fun σ32 => ?_)
        refine s_aload_n hG dc12_put_33 rfl ?_
        refine s_dup hG dc12_put_34 rfl ?_
        refine s_getI hG kFc12_113 rfl dc12_put_35 (fun v35 => ?_)
        refine s_iconst (v := 1) hG dc12_put_38 (by decide) ?_
        refine s_iadd hG dc12_put_39 ?_
        refine s_putI (fin := false) hG kFc12_113 rfl (fun h => by cases h) rfl (fun _ => rfl) (fun _ => rfl) dc12_put_40 (fun σ40 => ?_)
        exact s_lv (lc rfl (lc rfl (lc rfl ln))) (pc12_put_43 hG ih _ _ _ _)
      · refine s_goto hG 43 dc12_put_17 (by decide) ?_
        exact s_lv (lc rfl (lc rfl (lc rfl ln))) (pc12_put_43 hG ih _ _ _ _)
set_option maxRecDepth 20000 in
set_option maxHeartbeats 2000000 in
theorem corc12_put {Ω : Om} (N : Nat) (a0 : Nat) (x1 : Int32) (σ : Me) : Cor Ω tc12_put 1 0 0 [vR (some a0), vI x1] σ ιV (fc12_put N a0 x1 σ) := by
  refine Cor.of (by decide +kernel) (Nat.le_of_ble_eq_true rfl) (fun Γ hG => ?_)
  unfold fc12_put
  show Sim Ω Γ 0 0 ιV 3 0 [(0, vR (some a0)), (1, vI x1)] [] σ 0 0 _
  refine s_bipush (v := 24) hG dc12_put_0 (by decide) ?_
  refine s_istore_n hG dc12_put_2 (by decide) ?_
  exact s_lv (lc rfl (lc rfl (lc rfl ln))) (pc12_put_3 hG _ _ _ _ _)
def fc12_feed (N : Nat) (a0 : Nat) (x1 : Int32) (x2 : Int32) (x3 : Int32) (x4 : Int32) (x5 : Int32) (σ : Me) : Option (Int32 × Me) :=
  (pI σ 12 0 (some a0) (0 : Int32)).bind fun σ2 =>
  (qI σ2 12 6 (some a0)).bind fun v6 =>
  (fc12_bytesIn N x1 σ2).bind fun p10 =>
  (fc12_bytesIn N x2 p10.2).bind fun p15 =>
  (fc12_bytesIn N x3 p15.2).bind fun p20 =>
  (fc12_bytesIn N x4 p20.2).bind fun p26 =>
  (fc12_bytesIn N x5 p26.2).bind fun p32 =>
  if (((((v6 + p10.1) + p15.1) + p20.1) + p26.1) + p32.1) ≤ (240 : Int32) then
    (dr p32.2 (some a0) (.inl 12)).bind fun a =>
    (fc12_put N a x1 p32.2).bind fun p46 =>
    (dr p46.2 (some a0) (.inl 12)).bind fun a =>
    (fc12_put N a x2 p46.2).bind fun p51 =>
    (dr p51.2 (some a0) (.inl 12)).bind fun a =>
    (fc12_put N a x3 p51.2).bind fun p56 =>
    (dr p56.2 (some a0) (.inl 12)).bind fun a =>
    (fc12_put N a x4 p56.2).bind fun p62 =>
    (dr p62.2 (some a0) (.inl 12)).bind fun a =>
    (fc12_put N a x5 p62.2).bind fun p68 =>
    (qI p68.2 12 6 (some a0)).bind fun v72 =>
    some (v72, p68.2)
  else
    some ((-1 : Int32), p32.2)
set_option maxRecDepth 20000 in
set_option maxHeartbeats 2000000 in
theorem corc12_feed {Ω : Om} (N : Nat) (a0 : Nat) (x1 : Int32) (x2 : Int32) (x3 : Int32) (x4 : Int32) (x5 : Int32) (σ : Me) : Cor Ω tc12_feed 2 0 0 [vR (some a0), vI x1, vI x2, vI x3, vI x4, vI x5] σ ιI (fc12_feed N a0 x1 x2 x3 x4 x5 σ) := by
  refine Cor.of (by decide +kernel) (Nat.le_of_ble_eq_true rfl) (fun Γ hG => ?_)
  unfold fc12_feed
  show Sim Ω Γ 0 0 ιI 6 0 [(0, vR (some a0)), (1, vI x1), (2, vI x2), (3, vI x3), (4, vI x4), (5, vI x5)] [] σ 0 0 _
  refine s_aload_n hG dc12_feed_0 rfl ?_
  refine s_iconst (v := 0) hG dc12_feed_1 (by decide) ?_
  refine s_putI (fin := false) hG kFc12_100 rfl (fun h => by cases h) rfl (fun _ => rfl) (fun _ => rfl) dc12_feed_2 (fun σ2 => ?_)
  refine s_aload_n hG dc12_feed_5 rfl ?_
  refine s_getI hG kFc12_113 rfl dc12_feed_6 (fun v6 => ?_)
  refine s_iload_n hG dc12_feed_9 rfl ?_
  refine s_callSi hG kMc12_115 (corc12_bytesIn N _ _) rfl (by first | decide | omega) dc12_feed_10 rfl rfl (Nat.le_of_ble_eq_true rfl) ⟨Nat.le_of_ble_eq_true rfl, Nat.le_of_ble_eq_true rfl⟩ (fun p10 => ?_)
  refine s_iadd hG dc12_feed_13 ?_
  refine s_iload_n hG dc12_feed_14 rfl ?_
  refine s_callSi hG kMc12_115 (corc12_bytesIn N _ _) rfl (by first | decide | omega) dc12_feed_15 rfl rfl (Nat.le_of_ble_eq_true rfl) ⟨Nat.le_of_ble_eq_true rfl, Nat.le_of_ble_eq_true rfl⟩ (fun p15 => ?_)
  refine s_iadd hG dc12_feed_18 ?_
  refine s_iload_n hG dc12_feed_19 rfl ?_
  refine s_callSi hG kMc12_115 (corc12_bytesIn N _ _) rfl (by first | decide | omega) dc12_feed_20 rfl rfl (Nat.le_of_ble_eq_true rfl) ⟨Nat.le_of_ble_eq_true rfl, Nat.le_of_ble_eq_true rfl⟩ (fun p20 => ?_)
  refine s_iadd hG dc12_feed_23 ?_
  refine s_iload hG dc12_feed_24 rfl ?_
  refine s_callSi hG kMc12_115 (corc12_bytesIn N _ _) rfl (by first | decide | omega) dc12_feed_26 rfl rfl (Nat.le_of_ble_eq_true rfl) ⟨Nat.le_of_ble_eq_true rfl, Nat.le_of_ble_eq_true rfl⟩ (fun p26 => ?_)
  refine s_iadd hG dc12_feed_29 ?_
  refine s_iload hG dc12_feed_30 rfl ?_
  refine s_callSi hG kMc12_115 (corc12_bytesIn N _ _) rfl (by first | decide | omega) dc12_feed_32 rfl rfl (Nat.le_of_ble_eq_true rfl) ⟨Nat.le_of_ble_eq_true rfl, Nat.le_of_ble_eq_true rfl⟩ (fun p32 => ?_)
  refine s_iadd hG dc12_feed_35 ?_
  refine s_sipush (v := 240) hG dc12_feed_36 (by decide) ?_
  refine s_icmp_le hG 44 dc12_feed_39 (by decide) ?_ ?_
  · refine s_aload_n hG dc12_feed_44 rfl ?_
    refine s_iload_n hG dc12_feed_45 rfl ?_
    refine s_callVv hG kMc12_119 (fun a => corc12_put N a _ _) ⟨by decide, rfl⟩ rfl (by first | decide | omega) dc12_feed_46 rfl rfl (Nat.le_of_ble_eq_true rfl) ⟨Nat.le_of_ble_eq_true rfl, Nat.le_of_ble_eq_true rfl⟩ (fun p46 => ?_)
    refine s_aload_n hG dc12_feed_49 rfl ?_
    refine s_iload_n hG dc12_feed_50 rfl ?_
    refine s_callVv hG kMc12_119 (fun a => corc12_put N a _ _) ⟨by decide, rfl⟩ rfl (by first | decide | omega) dc12_feed_51 rfl rfl (Nat.le_of_ble_eq_true rfl) ⟨Nat.le_of_ble_eq_true rfl, Nat.le_of_ble_eq_true rfl⟩ (fun p51 => ?_)
    refine s_aload_n hG dc12_feed_54 rfl ?_
    refine s_iload_n hG dc12_feed_55 rfl ?_
    refine s_callVv hG kMc12_119 (fun a => corc12_put N a _ _) ⟨by decide, rfl⟩ rfl (by first | decide | omega) dc12_feed_56 rfl rfl (Nat.le_of_ble_eq_true rfl) ⟨Nat.le_of_ble_eq_true rfl, Nat.le_of_ble_eq_true rfl⟩ (fun p56 => ?_)
    refine s_aload_n hG dc12_feed_59 rfl ?_
    refine s_iload hG dc12_feed_60 rfl ?_
    refine s_callVv hG kMc12_119 (fun a => corc12_put N a _ _) ⟨by decide, rfl⟩ rfl (by first | decide | omega) dc12_feed_62 rfl rfl (Nat.le_of_ble_eq_true rfl) ⟨Nat.le_of_ble_eq_true rfl, Nat.le_of_ble_eq_true rfl⟩ (fun p62 => ?_)
    refine s_aload_n hG dc12_feed_65 rfl ?_
    refine s_iload hG dc12_feed_66 rfl ?_
    refine s_callVv hG kMc12_119 (fun a => corc12_put N a _ _) ⟨by decide, rfl⟩ rfl (by first | decide | omega) dc12_feed_68 rfl rfl (Nat.le_of_ble_eq_true rfl) ⟨Nat.le_of_ble_eq_true rfl, Nat.le_of_ble_eq_true rfl⟩ (fun p68 => ?_)
    refine s_aload_n hG dc12_feed_71 rfl ?_
    refine s_getI hG kFc12_113 rfl dc12_feed_72 (fun v72 => ?_)
    exact s_iret hG dc12_feed_75 rfl (Nat.le_of_ble_eq_true rfl) (Nat.le_of_ble_eq_true rfl)
  · refine s_iconst (v := -1) hG dc12_feed_42 (by decide) ?_
    exact s_iret hG dc12_feed_43 rfl (Nat.le_of_ble_eq_true rfl) (Nat.le_of_ble_eq_true rfl)
def fc12_end (N : Nat) (a0 : Nat) (x1 : Int32) (σ : Me) : Option (Int32 × Me) :=
  (pI σ 12 0 (some a0) (0 : Int32)).bind fun σ2 =>
  if x1 < 0 then
    retZ (0 : Int32) σ2
  else
    (qI σ2 12 6 (some a0)).bind fun v11 =>
    if x1 ≤ v11 then
      (pI σ2 12 6 (some a0) x1).bind fun σ21 =>
      retZ (1 : Int32) σ21
    else
      retZ (0 : Int32) σ2
set_option maxRecDepth 20000 in
set_option maxHeartbeats 2000000 in
theorem corc12_end {Ω : Om} (N : Nat) (a0 : Nat) (x1 : Int32) (σ : Me) : Cor Ω tc12_end 1 0 0 [vR (some a0), vI x1] σ ιI (fc12_end N a0 x1 σ) := by
  refine Cor.of (by decide +kernel) (Nat.le_of_ble_eq_true rfl) (fun Γ hG => ?_)
  unfold fc12_end
  show Sim Ω Γ 0 0 ιI 2 0 [(0, vR (some a0)), (1, vI x1)] [] σ 0 0 _
  refine s_aload_n hG dc12_end_0 rfl ?_
  refine s_iconst (v := 0) hG dc12_end_1 (by decide) ?_
  refine s_putI (fin := false) hG kFc12_100 rfl (fun h => by cases h) rfl (fun _ => rfl) (fun _ => rfl) dc12_end_2 (fun σ2 => ?_)
  refine s_iload_n hG dc12_end_5 rfl ?_
  refine s_if_lt hG 17 dc12_end_6 (by decide) ?_ ?_
  · refine s_iconst (v := 0) hG dc12_end_17 (by decide) ?_
    exact s_zret hG dc12_end_18 rfl (Nat.le_of_ble_eq_true rfl) (Nat.le_of_ble_eq_true rfl)
  · refine s_iload_n hG dc12_end_9 rfl ?_
    refine s_aload_n hG dc12_end_10 rfl ?_
    refine s_getI hG kFc12_113 rfl dc12_end_11 (fun v11 => ?_)
    refine s_icmp_le hG 19 dc12_end_14 (by decide) ?_ ?_
    · refine s_aload_n hG dc12_end_19 rfl ?_
      refine s_iload_n hG dc12_end_20 rfl ?_
      refine s_putI (fin := false) hG kFc12_113 rfl (fun h => by cases h) rfl (fun _ => rfl) (fun _ => rfl) dc12_end_21 (fun σ21 => ?_)
      refine s_iconst (v := 1) hG dc12_end_24 (by decide) ?_
      exact s_zret hG dc12_end_25 rfl (Nat.le_of_ble_eq_true rfl) (Nat.le_of_ble_eq_true rfl)
    · refine s_iconst (v := 0) hG dc12_end_17 (by decide) ?_
      exact s_zret hG dc12_end_18 rfl (Nat.le_of_ble_eq_true rfl) (Nat.le_of_ble_eq_true rfl)
def fc12_look_43 (N : Nat) (l0 : Option Nat) (σ : Me) : Option (Int32 × Me) :=
  (qI σ 12 10 l0).bind fun v44 =>
  (qI σ 12 9 l0).bind fun v48 =>
  if v48 ≤ v44 then
    some ((-1 : Int32), σ)
  else
    (qR σ 12 5 l0).bind fun v55 =>
    (qI σ 12 8 l0).bind fun v59 =>
    (qI σ 12 10 l0).bind fun v63 =>
    (ldB σ v55 (v59 + v63)).bind fun v67 =>
    some ((v67 &&& (255 : Int32)), σ)
def fc12_look_0 (N : Nat) : Nat → Option Nat → Me → Option (Int32 × Me)
  | 0, _, _ => none
  | n + 1, l0, σ =>
    (qI σ 12 10 l0).bind fun v1 =>
    (qI σ 12 9 l0).bind fun v5 =>
    if v5 ≤ v1 then
      fc12_look_43 N l0 σ
    else
      (qR σ 12 5 l0).bind fun v12 =>
      (qI σ 12 8 l0).bind fun v16 =>
      (qI σ 12 10 l0).bind fun v20 =>
      (ldB σ v12 (v16 + v20)).bind fun v24 =>
      if v24 = (32 : Int32) then
        (qI σ 12 10 l0).bind fun v32 =>
        (pI σ 12 10 l0 (v32 + (1 : Int32))).bind fun σ37 =>
        (fc12_look_0 N n) l0 σ37
      else
        fc12_look_43 N l0 σ
def fc12_look (N : Nat) (a0 : Nat) (σ : Me) : Option (Int32 × Me) :=
  fc12_look_0 N N (some a0) σ
set_option maxRecDepth 20000 in
set_option maxHeartbeats 2000000 in
theorem pc12_look_43 {Ω : Om} {Γ : Ga} {N : Nat} (hG : Good Ω Γ tc12_look 1 0 0) (l0 : Option Nat) (σ : Me) : Sim Ω Γ 0 0 ιI 1 43 [(0, vR l0)] [] σ 0 0 (fc12_look_43 N l0 σ) := by
  unfold fc12_look_43
  refine s_aload_n hG dc12_look_43 rfl ?_
  refine s_getI hG kFc12_123 rfl dc12_look_44 (fun v44 => ?_)
  refine s_aload_n hG dc12_look_47 rfl ?_
  refine s_getI hG kFc12_126 rfl dc12_look_48 (fun v48 => ?_)
  refine s_icmp_ge hG 75 dc12_look_51 (by decide) ?_ ?_
  · refine s_iconst (v := -1) hG dc12_look_75 (by decide) ?_
    exact s_iret hG dc12_look_76 rfl (Nat.le_of_ble_eq_true rfl) (Nat.le_of_ble_eq_true rfl)
  · refine s_aload_n hG dc12_look_54 rfl ?_
    refine s_getR hG kFc12_23 rfl dc12_look_55 (fun v55 => ?_)
    refine s_aload_n hG dc12_look_58 rfl ?_
    refine s_getI hG kFc12_129 rfl dc12_look_59 (fun v59 => ?_)
    refine s_aload_n hG dc12_look_62 rfl ?_
    refine s_getI hG kFc12_123 rfl dc12_look_63 (fun v63 => ?_)
    refine s_iadd hG dc12_look_66 ?_
    refine s_bald hG dc12_look_67 (fun v67 => ?_)
    refine s_sipush (v := 255) hG dc12_look_68 (by decide) ?_
    refine s_iand hG dc12_look_71 ?_
    refine s_goto hG 76 dc12_look_72 (by decide) ?_
    exact s_iret hG dc12_look_76 rfl (Nat.le_of_ble_eq_true rfl) (Nat.le_of_ble_eq_true rfl)
set_option maxRecDepth 20000 in
set_option maxHeartbeats 2000000 in
theorem pc12_look_0 {Ω : Om} {Γ : Ga} {N : Nat} (hG : Good Ω Γ tc12_look 1 0 0)  : ∀ (n : Nat) (l0 : Option Nat) (σ : Me), Sim Ω Γ 0 0 ιI 1 0 [(0, vR l0)] [] σ 0 0 (fc12_look_0 N n l0 σ) := by
  intro n
  induction n with
  | zero => intros; exact s_none
  | succ n ih =>
    intro l0 σ
    unfold fc12_look_0
    refine s_aload_n hG dc12_look_0 rfl ?_
    refine s_getI hG kFc12_123 rfl dc12_look_1 (fun v1 => ?_)
    refine s_aload_n hG dc12_look_4 rfl ?_
    refine s_getI hG kFc12_126 rfl dc12_look_5 (fun v5 => ?_)
    refine s_icmp_ge hG 43 dc12_look_8 (by decide) ?_ ?_
    · exact s_lv (lc rfl ln) (pc12_look_43 hG _ _)
    · refine s_aload_n hG dc12_look_11 rfl ?_
      refine s_getR hG kFc12_23 rfl dc12_look_12 (fun v12 => ?_)
      refine s_aload_n hG dc12_look_15 rfl ?_
      refine s_getI hG kFc12_129 rfl dc12_look_16 (fun v16 => ?_)
      refine s_aload_n hG dc12_look_19 rfl ?_
      refine s_getI hG kFc12_123 rfl dc12_look_20 (fun v20 => ?_)
      refine s_iadd hG dc12_look_23 ?_
      refine s_bald hG dc12_look_24 (fun v24 => ?_)
      refine s_bipush (v := 32) hG dc12_look_25 (by decide) ?_
      refine s_icmp_ne hG 43 dc12_look_27 (by decide) ?_ ?_
      · exact s_lv (lc rfl ln) (pc12_look_43 hG _ _)
      · refine s_aload_n hG dc12_look_30 rfl ?_
        refine s_dup hG dc12_look_31 rfl ?_
        refine s_getI hG kFc12_123 rfl dc12_look_32 (fun v32 => ?_)
        refine s_iconst (v := 1) hG dc12_look_35 (by decide) ?_
        refine s_iadd hG dc12_look_36 ?_
        refine s_putI (fin := false) hG kFc12_123 rfl (fun h => by cases h) rfl (fun _ => rfl) (fun _ => rfl) dc12_look_37 (fun σ37 => ?_)
        refine s_goto hG 0 dc12_look_40 (by decide) ?_
        exact s_lv (lc rfl ln) (ih _ _)
set_option maxRecDepth 20000 in
set_option maxHeartbeats 2000000 in
theorem corc12_look {Ω : Om} (N : Nat) (a0 : Nat) (σ : Me) : Cor Ω tc12_look 1 0 0 [vR (some a0)] σ ιI (fc12_look N a0 σ) := by
  refine Cor.of (by decide +kernel) (Nat.le_of_ble_eq_true rfl) (fun Γ hG => ?_)
  unfold fc12_look
  show Sim Ω Γ 0 0 ιI 1 0 [(0, vR (some a0))] [] σ 0 0 _
  exact s_lv (lc rfl ln) (pc12_look_0 hG _ _ _)
