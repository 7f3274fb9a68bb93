def fc12_fell_105 (N : Nat) (l0 : Option Nat) (s0 : Option Nat) (s1 : Int32) (s2 : Int32) (σ : Me) : Option (Int32 × Me) :=
  (stI σ s0 s1 s2).bind fun σ105 =>
  (qI σ105 12 45 l0).bind fun v108 =>
  (pI σ105 12 45 l0 (v108 + (1 : Int32))).bind fun σ113 =>
  (qI σ113 12 45 l0).bind fun v117 =>
  some (v117, σ113)
def fc12_fell (N : Nat) (a0 : Nat) (x1 : Int32) (x2 : Int32) (x3 : Int32) (x4 : Int32) (σ : Me) : Option (Int32 × Me) :=
  (pI σ 12 0 (some a0) (0 : Int32)).bind fun σ2 =>
  (dr σ2 (some a0) (.inl 12)).bind fun a =>
  (fc12_isField N a x1 σ2).bind fun p7 =>
  if p7.1 = 0 then
    some ((-1 : Int32), p7.2)
  else
    (fc12_isRain N x2 p7.2).bind fun p14 =>
    if p14.1 = 0 then
      some ((-1 : Int32), p14.2)
    else
      (fc12_isIn N (Int32.toInt64 x3) (0 : Int64) (99 : Int64) p14.2).bind fun p26 =>
      if p26.1 = 0 then
        some ((-1 : Int32), p26.2)
      else
        (qI p26.2 12 45 (some a0)).bind fun v33 =>
        if v33 = (10 : Int32) then
          some ((-1 : Int32), p26.2)
        else
          (qR p26.2 12 42 (some a0)).bind fun v44 =>
          (qI p26.2 12 45 (some a0)).bind fun v49 =>
          (stI p26.2 v44 ((4 : Int32) * v49) x1).bind fun σ54 =>
          (qR σ54 12 42 (some a0)).bind fun v56 =>
          (qI σ54 12 45 (some a0)).bind fun v61 =>
          (stI σ54 v56 (((4 : Int32) * v61) + (1 : Int32)) x2).bind fun σ68 =>
          (qR σ68 12 42 (some a0)).bind fun v70 =>
          (qI σ68 12 45 (some a0)).bind fun v75 =>
          (stI σ68 v70 (((4 : Int32) * v75) + (2 : Int32)) x3).bind fun σ82 =>
          (qR σ82 12 42 (some a0)).bind fun v84 =>
          (qI σ82 12 45 (some a0)).bind fun v89 =>
          if x4 = 0 then
            fc12_fell_105 N (some a0) v84 (((4 : Int32) * v89) + (3 : Int32)) (0 : Int32) σ82
          else
            fc12_fell_105 N (some a0) v84 (((4 : Int32) * v89) + (3 : Int32)) (1 : Int32) σ82
set_option maxRecDepth 20000 in
set_option maxHeartbeats 2000000 in
theorem pc12_fell_105 {Ω : Om} {Γ : Ga} {N : Nat} (hG : Good Ω Γ tc12_fell 3 0 0) (l0 : Option Nat) (s0 : Option Nat) (s1 : Int32) (s2 : Int32) (σ : Me) : Sim Ω Γ 0 0 ιI 5 105 [(0, vR l0)] [vI s2, vI s1, vR s0] σ 0 0 (fc12_fell_105 N l0 s0 s1 s2 σ) := by
  unfold fc12_fell_105
  refine s_iast hG dc12_fell_105 (fun σ105 => ?_)
  refine s_aload_n hG dc12_fell_106 rfl ?_
  refine s_dup hG dc12_fell_107 rfl ?_
  refine s_getI hG kFc12_293 rfl dc12_fell_108 (fun v108 => ?_)
  refine s_iconst (v := 1) hG dc12_fell_111 (by decide) ?_
  refine s_iadd hG dc12_fell_112 ?_
  refine s_putI (fin := false) hG kFc12_293 rfl (fun h => by cases h) rfl (fun _ => rfl) (fun _ => rfl) dc12_fell_113 (fun σ113 => ?_)
  refine s_aload_n hG dc12_fell_116 rfl ?_
  refine s_getI hG kFc12_293 rfl dc12_fell_117 (fun v117 => ?_)
  exact s_iret hG dc12_fell_120 rfl (Nat.le_of_ble_eq_true rfl) (Nat.le_of_ble_eq_true rfl)
set_option maxRecDepth 20000 in
set_option maxHeartbeats 2000000 in
theorem corc12_fell {Ω : Om} (N : Nat) (a0 : Nat) (x1 : Int32) (x2 : Int32) (x3 : Int32) (x4 : Int32) (σ : Me) : Cor Ω tc12_fell 3 0 0 [vR (some a0), vI x1, vI x2, vI x3, vI x4] σ ιI (fc12_fell N a0 x1 x2 x3 x4 σ) := by
  refine Cor.of (by decide +kernel) (Nat.le_of_ble_eq_true rfl) (fun Γ hG => ?_)
  unfold fc12_fell
  show Sim Ω Γ 0 0 ιI 5 0 [(0, vR (some a0)), (1, vI x1), (2, vI x2), (3, vI x3), (4, vI x4)] [] σ 0 0 _
  refine s_aload_n hG dc12_fell_0 rfl ?_
  refine s_iconst (v := 0) hG dc12_fell_1 (by decide) ?_
  refine s_putI (fin := false) hG kFc12_100 rfl (fun h => by cases h) rfl (fun _ => rfl) (fun _ => rfl) dc12_fell_2 (fun σ2 => ?_)
  refine s_aload_n hG dc12_fell_5 rfl ?_
  refine s_iload_n hG dc12_fell_6 rfl ?_
  refine s_callVi hG kMc12_353 (fun a => corc12_isField N a _ _) ⟨by decide, rfl⟩ rfl (by first | decide | omega) dc12_fell_7 rfl rfl (Nat.le_of_ble_eq_true rfl) ⟨Nat.le_of_ble_eq_true rfl, Nat.le_of_ble_eq_true rfl⟩ (fun p7 => ?_)
  refine s_if_eq hG 41 dc12_fell_10 (by decide) ?_ ?_
  · refine s_iconst (v := -1) hG dc12_fell_41 (by decide) ?_
    exact s_iret hG dc12_fell_42 rfl (Nat.le_of_ble_eq_true rfl) (Nat.le_of_ble_eq_true rfl)
  · refine s_iload_n hG dc12_fell_13 rfl ?_
    refine s_callSi hG kMc12_363 (corc12_isRain N _ _) rfl (by first | decide | omega) dc12_fell_14 rfl rfl (Nat.le_of_ble_eq_true rfl) ⟨Nat.le_of_ble_eq_true rfl, Nat.le_of_ble_eq_true rfl⟩ (fun p14 => ?_)
    refine s_if_eq hG 41 dc12_fell_17 (by decide) ?_ ?_
    · refine s_iconst (v := -1) hG dc12_fell_41 (by decide) ?_
      exact s_iret hG dc12_fell_42 rfl (Nat.le_of_ble_eq_true rfl) (Nat.le_of_ble_eq_true rfl)
    · refine s_iload_n hG dc12_fell_20 rfl ?_
      refine s_i2l hG dc12_fell_21 ?_
      refine s_lconst (v := 0) hG dc12_fell_22 (by decide) ?_
      refine s_ldc2 hG dc12_fell_23 kJc12_302 ?_
      refine s_callSi hG kMc12_221 (corc12_isIn N _ _ _ _) rfl (by first | decide | omega) dc12_fell_26 rfl rfl (Nat.le_of_ble_eq_true rfl) ⟨Nat.le_of_ble_eq_true rfl, Nat.le_of_ble_eq_true rfl⟩ (fun p26 => ?_)
      refine s_if_eq hG 41 dc12_fell_29 (by decide) ?_ ?_
      · refine s_iconst (v := -1) hG dc12_fell_41 (by decide) ?_
        exact s_iret hG dc12_fell_42 rfl (Nat.le_of_ble_eq_true rfl) (Nat.le_of_ble_eq_true rfl)
      · refine s_aload_n hG dc12_fell_32 rfl ?_
        refine s_getI hG kFc12_293 rfl dc12_fell_33 (fun v33 => ?_)
        refine s_bipush (v := 10) hG dc12_fell_36 (by decide) ?_
        refine s_icmp_ne hG 43 dc12_fell_38 (by decide) ?_ ?_
        · refine s_aload_n hG dc12_fell_43 rfl ?_
          refine s_getR hG kFc12_84 rfl dc12_fell_44 (fun v44 => ?_)
          refine s_iconst (v := 4) hG dc12_fell_47 (by decide) ?_
          refine s_aload_n hG dc12_fell_48 rfl ?_
          refine s_getI hG kFc12_293 rfl dc12_fell_49 (fun v49 => ?_)
          refine s_imul hG dc12_fell_52 ?_
          refine s_iload_n hG dc12_fell_53 rfl ?_
          refine s_iast hG dc12_fell_54 (fun σ54 => ?_)
          refine s_aload_n hG dc12_fell_55 rfl ?_
          refine s_getR hG kFc12_84 rfl dc12_fell_56 (fun v56 => ?_)
          refine s_iconst (v := 4) hG dc12_fell_59 (by decide) ?_
          refine s_aload_n hG dc12_fell_60 rfl ?_
          refine s_getI hG kFc12_293 rfl dc12_fell_61 (fun v61 => ?_)
          refine s_imul hG dc12_fell_64 ?_
          refine s_iconst (v := 1) hG dc12_fell_65 (by decide) ?_
          refine s_iadd hG dc12_fell_66 ?_
          refine s_iload_n hG dc12_fell_67 rfl ?_
          refine s_iast hG dc12_fell_68 (fun σ68 => ?_)
          refine s_aload_n hG dc12_fell_69 rfl ?_
          refine s_getR hG kFc12_84 rfl dc12_fell_70 (fun v70 => ?_)
          refine s_iconst (v := 4) hG dc12_fell_73 (by decide) ?_
          refine s_aload_n hG dc12_fell_74 rfl ?_
          refine s_getI hG kFc12_293 rfl dc12_fell_75 (fun v75 => ?_)
          refine s_imul hG dc12_fell_78 ?_
          refine s_iconst (v := 2) hG dc12_fell_79 (by decide) ?_
          refine s_iadd hG dc12_fell_80 ?_
          refine s_iload_n hG dc12_fell_81 rfl ?_
          refine s_iast hG dc12_fell_82 (fun σ82 => ?_)
          refine s_aload_n hG dc12_fell_83 rfl ?_
          refine s_getR hG kFc12_84 rfl dc12_fell_84 (fun v84 => ?_)
          refine s_iconst (v := 4) hG dc12_fell_87 (by decide) ?_
          refine s_aload_n hG dc12_fell_88 rfl ?_
          refine s_getI hG kFc12_293 rfl dc12_fell_89 (fun v89 => ?_)
          refine s_imul hG dc12_fell_92 ?_
          refine s_iconst (v := 3) hG dc12_fell_93 (by decide) ?_
          refine s_iadd hG dc12_fell_94 ?_
          refine s_iload hG dc12_fell_95 rfl ?_
          refine s_if_eq hG 104 dc12_fell_97 (by decide) ?_ ?_
          · refine s_iconst (v := 0) hG dc12_fell_104 (by decide) ?_
            exact s_lv (lc rfl ln) (pc12_fell_105 hG _ _ _ _ _)
          · refine s_iconst (v := 1) hG dc12_fell_100 (by decide) ?_
            refine s_goto hG 105 dc12_fell_101 (by decide) ?_
            exact s_lv (lc rfl ln) (pc12_fell_105 hG _ _ _ _ _)
        · refine s_iconst (v := -1) hG dc12_fell_41 (by decide) ?_
          exact s_iret hG dc12_fell_42 rfl (Nat.le_of_ble_eq_true rfl) (Nat.le_of_ble_eq_true rfl)
def fc12_fallsIf (N : Nat) (a0 : Nat) (x1 : Int32) (x2 : Int32) (x3 : Int32) (σ : Me) : Option (Int32 × Me) :=
  (qR σ 12 28 (some a0)).bind fun v1 =>
  (qR σ 12 29 (some a0)).bind fun v5 =>
  (fc12_copy N v1 v5 σ).bind fun p8 =>
  (qR p8.2 12 29 (some a0)).bind fun v12 =>
  (stI p8.2 v12 (((4 : Int32) * x1) + (0 : Int32)) x2).bind fun σ21 =>
  (qR σ21 12 29 (some a0)).bind fun v24 =>
  (dr σ21 (some a0) (.inl 12)).bind fun a =>
  (fc12_goYear N a v24 x3 σ21).bind fun p28 =>
  (qR p28.2 12 34 (some a0)).bind fun v32 =>
  (ldI p28.2 v32 x1).bind fun v36 =>
  some (v36, p28.2)
set_option maxRecDepth 20000 in
set_option maxHeartbeats 2000000 in
theorem corc12_fallsIf {Ω : Om} (N : Nat) (a0 : Nat) (x1 : Int32) (x2 : Int32) (x3 : Int32) (σ : Me) : Cor Ω tc12_fallsIf 142 0 0 [vR (some a0), vI x1, vI x2, vI x3] σ ιI (fc12_fallsIf N a0 x1 x2 x3 σ) := by
  refine Cor.of (by decide +kernel) (Nat.le_of_ble_eq_true rfl) (fun Γ hG => ?_)
  unfold fc12_fallsIf
  show Sim Ω Γ 0 0 ιI 4 0 [(0, vR (some a0)), (1, vI x1), (2, vI x2), (3, vI x3)] [] σ 0 0 _
  refine s_aload_n hG dc12_fallsIf_0 rfl ?_
  refine s_getR hG kFc12_55 rfl dc12_fallsIf_1 (fun v1 => ?_)
  refine s_aload_n hG dc12_fallsIf_4 rfl ?_
  refine s_getR hG kFc12_58 rfl dc12_fallsIf_5 (fun v5 => ?_)
  refine s_callSv hG kMc12_345 (corc12_copy N _ _ _) rfl (by first | decide | omega) dc12_fallsIf_8 rfl rfl (Nat.le_of_ble_eq_true rfl) ⟨Nat.le_of_ble_eq_true rfl, Nat.le_of_ble_eq_true rfl⟩ (fun p8 => ?_)
  refine s_aload_n hG dc12_fallsIf_11 rfl ?_
  refine s_getR hG kFc12_58 rfl dc12_fallsIf_12 (fun v12 => ?_)
  refine s_iconst (v := 4) hG dc12_fallsIf_15 (by decide) ?_
  refine s_iload_n hG dc12_fallsIf_16 rfl ?_
  refine s_imul hG dc12_fallsIf_17 ?_
  refine s_iconst (v := 0) hG dc12_fallsIf_18 (by decide) ?_
  refine s_iadd hG dc12_fallsIf_19 ?_
  refine s_iload_n hG dc12_fallsIf_20 rfl ?_
  refine s_iast hG dc12_fallsIf_21 (fun σ21 => ?_)
  refine s_aload_n hG dc12_fallsIf_22 rfl ?_
  refine s_aload_n hG dc12_fallsIf_23 rfl ?_
  refine s_getR hG kFc12_58 rfl dc12_fallsIf_24 (fun v24 => ?_)
  refine s_iload_n hG dc12_fallsIf_27 rfl ?_
  refine s_callVv hG kMc12_349 (fun a => corc12_goYear N a _ _ _) ⟨by decide, rfl⟩ rfl (by first | decide | omega) dc12_fallsIf_28 rfl rfl (Nat.le_of_ble_eq_true rfl) ⟨Nat.le_of_ble_eq_true rfl, Nat.le_of_ble_eq_true rfl⟩ (fun p28 => ?_)
  refine s_aload_n hG dc12_fallsIf_31 rfl ?_
  refine s_getR hG kFc12_72 rfl dc12_fallsIf_32 (fun v32 => ?_)
  refine s_iload_n hG dc12_fallsIf_35 rfl ?_
  refine s_iald hG dc12_fallsIf_36 (fun v36 => ?_)
  exact s_iret hG dc12_fallsIf_37 rfl (Nat.le_of_ble_eq_true rfl) (Nat.le_of_ble_eq_true rfl)
def fc12_couldBe_80 (N : Nat) (K2 : Option Nat → Int32 → Int32 → Int32 → Me → Option (Int32 × Me)) (l0 : Option Nat) (l1 : Int32) (l2 : Int32) (l3 : Int32) (σ : Me) : Option (Int32 × Me) :=
  K2 l0 l1 l2 (l3 + (1 : Int32)) σ
def fc12_couldBe_75 (N : Nat) (K2 : Option Nat → Int32 → Int32 → Int32 → Me → Option (Int32 × Me)) (l0 : Option Nat) (l1 : Int32) (l2 : Int32) (l3 : Int32) (s0 : Int32) (s1 : Int32) (σ : Me) : Option (Int32 × Me) :=
  if s0 = s1 then
    fc12_couldBe_80 N K2 l0 l1 l2 l3 σ
  else
    retZ (0 : Int32) σ
def fc12_couldBe_56 (N : Nat) (K2 : Option Nat → Int32 → Int32 → Int32 → Me → Option (Int32 × Me)) (l0 : Option Nat) (l1 : Int32) (l2 : Int32) (l3 : Int32) (s0 : Int32) (σ : Me) : Option (Int32 × Me) :=
  (qR σ 12 42 l0).bind fun v57 =>
  (ldI σ v57 (((4 : Int32) * l3) + (3 : Int32))).bind fun v65 =>
  if v65 = (1 : Int32) then
    fc12_couldBe_75 N K2 l0 l1 l2 l3 s0 (1 : Int32) σ
  else
    fc12_couldBe_75 N K2 l0 l1 l2 l3 s0 (0 : Int32) σ
def fc12_couldBe_2 (N : Nat) : Nat → Option Nat → Int32 → Int32 → Int32 → Me → Option (Int32 × Me)
  | 0, _, _, _, _, _ => none
  | n + 1, l0, l1, l2, l3, σ =>
    (qI σ 12 45 l0).bind fun v4 =>
    if v4 ≤ l3 then
      retZ (1 : Int32) σ
    else
      (qR σ 12 42 l0).bind fun v11 =>
      (ldI σ v11 ((4 : Int32) * l3)).bind fun v17 =>
      if v17 = l1 then
        (qR σ 12 42 l0).bind fun v26 =>
        (ldI σ v26 (((4 : Int32) * l3) + (1 : Int32))).bind fun v34 =>
        (dr σ l0 (.inl 12)).bind fun a =>
        (fc12_fallsIf N a l1 l2 v34 σ).bind fun p35 =>
        (qR p35.2 12 42 l0).bind fun v39 =>
        (ldI p35.2 v39 (((4 : Int32) * l3) + (2 : Int32))).bind fun v47 =>
        if p35.1 < v47 then
          fc12_couldBe_56 N (fc12_couldBe_2 N n) l0 l1 l2 l3 (0 : Int32) p35.2
        else
          fc12_couldBe_56 N (fc12_couldBe_2 N n) l0 l1 l2 l3 (1 : Int32) p35.2
      else
        fc12_couldBe_80 N (fc12_couldBe_2 N n) l0 l1 l2 l3 σ
def fc12_couldBe (N : Nat) (a0 : Nat) (x1 : Int32) (x2 : Int32) (σ : Me) : Option (Int32 × Me) :=
  fc12_couldBe_2 N N (some a0) x1 x2 (0 : Int32) σ
set_option maxRecDepth 20000 in
set_option maxHeartbeats 2000000 in
theorem pc12_couldBe_80 {Ω : Om} {Γ : Ga} {N : Nat} (hG : Good Ω Γ tc12_couldBe 143 0 0) {K2 : Option Nat → Int32 → Int32 → Int32 → Me → Option (Int32 × Me)} (hK2 : ∀ (l0 : Option Nat) (l1 : Int32) (l2 : Int32) (l3 : Int32) (σ : Me), Sim Ω Γ 0 0 ιI 4 2 [(0, vR l0), (1, vI l1), (2, vI l2), (3, vI l3)] [] σ 0 0 (K2 l0 l1 l2 l3 σ)) (l0 : Option Nat) (l1 : Int32) (l2 : Int32) (l3 : Int32) (σ : Me) : Sim Ω Γ 0 0 ιI 4 80 [(0, vR l0), (1, vI l1), (2, vI l2), (3, vI l3)] [] σ 0 0 (fc12_couldBe_80 N K2 l0 l1 l2 l3 σ) := by
  unfold fc12_couldBe_80
  refine s_iinc (v := 1) hG dc12_couldBe_80 rfl (by decide) (by decide) ?_
  refine s_goto hG 2 dc12_couldBe_83 (by decide) ?_
  exact s_lv (lc rfl (lc rfl (lc rfl (lc rfl ln)))) (hK2 _ _ _ _ _)
set_option maxRecDepth 20000 in
set_option maxHeartbeats 2000000 in
theorem pc12_couldBe_75 {Ω : Om} {Γ : Ga} {N : Nat} (hG : Good Ω Γ tc12_couldBe 143 0 0) {K2 : Option Nat → Int32 → Int32 → Int32 → Me → Option (Int32 × Me)} (hK2 : ∀ (l0 : Option Nat) (l1 : Int32) (l2 : Int32) (l3 : Int32) (σ : Me), Sim Ω Γ 0 0 ιI 4 2 [(0, vR l0), (1, vI l1), (2, vI l2), (3, vI l3)] [] σ 0 0 (K2 l0 l1 l2 l3 σ)) (l0 : Option Nat) (l1 : Int32) (l2 : Int32) (l3 : Int32) (s0 : Int32) (s1 : Int32) (σ : Me) : Sim Ω Γ 0 0 ιI 4 75 [(0, vR l0), (1, vI l1), (2, vI l2), (3, vI l3)] [vI s1, vI s0] σ 0 0 (fc12_couldBe_75 N K2 l0 l1 l2 l3 s0 s1 σ) := by
  unfold fc12_couldBe_75
  refine s_icmp_eq hG 80 dc12_couldBe_75 (by decide) ?_ ?_
  · exact s_lv (lc rfl (lc rfl (lc rfl (lc rfl ln)))) (pc12_couldBe_80 hG hK2 _ _ _ _ _)
  · refine s_iconst (v := 0) hG dc12_couldBe_78 (by decide) ?_
    exact s_zret hG dc12_couldBe_79 rfl (Nat.le_of_ble_eq_true rfl) (Nat.le_of_ble_eq_true rfl)
set_option maxRecDepth 20000 in
set_option maxHeartbeats 2000000 in
theorem pc12_couldBe_56 {Ω : Om} {Γ : Ga} {N : Nat} (hG : Good Ω Γ tc12_couldBe 143 0 0) {K2 : Option Nat → Int32 → Int32 → Int32 → Me → Option (Int32 × Me)} (hK2 : ∀ (l0 : Option Nat) (l1 : Int32) (l2 : Int32) (l3 : Int32) (σ : Me), Sim Ω Γ 0 0 ιI 4 2 [(0, vR l0), (1, vI l1), (2, vI l2), (3, vI l3)] [] σ 0 0 (K2 l0 l1 l2 l3 σ)) (l0 : Option Nat) (l1 : Int32) (l2 : Int32) (l3 : Int32) (s0 : Int32) (σ : Me) : Sim Ω Γ 0 0 ιI 4 56 [(0, vR l0), (1, vI l1), (2, vI l2), (3, vI l3)] [vI s0] σ 0 0 (fc12_couldBe_56 N K2 l0 l1 l2 l3 s0 σ) := by
  unfold fc12_couldBe_56
  refine s_aload_n hG dc12_couldBe_56 rfl ?_
  refine s_getR hG kFc12_84 rfl dc12_couldBe_57 (fun v57 => ?_)
  refine s_iconst (v := 4) hG dc12_couldBe_60 (by decide) ?_
  refine s_iload_n hG dc12_couldBe_61 rfl ?_
  refine s_imul hG dc12_couldBe_62 ?_
  refine s_iconst (v := 3) hG dc12_couldBe_63 (by decide) ?_
  refine s_iadd hG dc12_couldBe_64 ?_
  refine s_iald hG dc12_couldBe_65 (fun v65 => ?_)
  refine s_iconst (v := 1) hG dc12_couldBe_66 (by decide) ?_
  refine s_icmp_ne hG 74 dc12_couldBe_67 (by decide) ?_ ?_
  · refine s_iconst (v := 0) hG dc12_couldBe_74 (by decide) ?_
    exact s_lv (lc rfl (lc rfl (lc rfl (lc rfl ln)))) (pc12_couldBe_75 hG hK2 _ _ _ _ _ _ _)
  · refine s_iconst (v := 1) hG dc12_couldBe_70 (by decide) ?_
    refine s_goto hG 75 dc12_couldBe_71 (by decide) ?_
    exact s_lv (lc rfl (lc rfl (lc rfl (lc rfl ln)))) (pc12_couldBe_75 hG hK2 _ _ _ _ _ _ _)
set_option maxRecDepth 20000 in
set_option maxHeartbeats 2000000 in
theorem pc12_couldBe_2 {Ω : Om} {Γ : Ga} {N : Nat} (hG : Good Ω Γ tc12_couldBe 143 0 0)  : ∀ (n : Nat) (l0 : Option Nat) (l1 : Int32) (l2 : Int32) (l3 : Int32) (σ : Me), Sim Ω Γ 0 0 ιI 4 2 [(0, vR l0), (1, vI l1), (2, vI l2), (3, vI l3)] [] σ 0 0 (fc12_couldBe_2 N n l0 l1 l2 l3 σ) := by
  intro n
  induction n with
  | zero => intros; exact s_none
  | succ n ih =>
    intro l0 l1 l2 l3 σ
    unfold fc12_couldBe_2
    refine s_iload_n hG dc12_couldBe_2 rfl ?_
    refine s_aload_n hG dc12_couldBe_3 rfl ?_
    refine s_getI hG kFc12_293 rfl dc12_couldBe_4 (fun v4 => ?_)
    refine s_icmp_ge hG 86 dc12_couldBe_7 (by decide) ?_ ?_
    · refine s_iconst (v := 1) hG dc12_couldBe_86 (by decide) ?_
      exact s_zret hG dc12_couldBe_87 rfl (Nat.le_of_ble_eq_true rfl) (Nat.le_of_ble_eq_true rfl)
    · refine s_aload_n hG dc12_couldBe_10 rfl ?_
      refine s_getR hG kFc12_84 rfl dc12_couldBe_11 (fun v11 => ?_)
      refine s_iconst (v := 4) hG dc12_couldBe_14 (by decide) ?_
      refine s_iload_n hG dc12_couldBe_15 rfl ?_
      refine s_imul hG dc12_couldBe_16 ?_
      refine s_iald hG dc12_couldBe_17 (fun v17 => ?_)
      refine s_iload_n hG dc12_couldBe_18 rfl ?_
      refine s_icmp_ne hG 80 dc12_couldBe_19 (by decide) ?_ ?_
      · exact s_lv (lc rfl (lc rfl (lc rfl (lc rfl ln)))) (pc12_couldBe_80 hG ih _ _ _ _ _)
      · refine s_aload_n hG dc12_couldBe_22 rfl ?_
        refine s_iload_n hG dc12_couldBe_23 rfl ?_
        refine s_iload_n hG dc12_couldBe_24 rfl ?_
        refine s_aload_n hG dc12_couldBe_25 rfl ?_
        refine s_getR hG kFc12_84 rfl dc12_couldBe_26 (fun v26 => ?_)
        refine s_iconst (v := 4) hG dc12_couldBe_29 (by decide) ?_
        refine s_iload_n hG dc12_couldBe_30 rfl ?_
        refine s_imul hG dc12_couldBe_31 ?_
        refine s_iconst (v := 1) hG dc12_couldBe_32 (by decide) ?_
        refine s_iadd hG dc12_couldBe_33 ?_
        refine s_iald hG dc12_couldBe_34 (fun v34 => ?_)
        refine s_callVi hG kMc12_428 (fun a => corc12_fallsIf N a _ _ _ _) ⟨by decide, rfl⟩ rfl (by first | decide | omega) dc12_couldBe_35 rfl rfl (Nat.le_of_ble_eq_true rfl) ⟨Nat.le_of_ble_eq_true rfl, Nat.le_of_ble_eq_true rfl⟩ (fun p35 => ?_)
        refine s_aload_n hG dc12_couldBe_38 rfl ?_
        refine s_getR hG kFc12_84 rfl dc12_couldBe_39 (fun v39 => ?_)
        refine s_iconst (v := 4) hG dc12_couldBe_42 (by decide) ?_
        refine s_iload_n hG dc12_couldBe_43 rfl ?_
        refine s_imul hG dc12_couldBe_44 ?_
        refine s_iconst (v := 2) hG dc12_couldBe_45 (by decide) ?_
        refine s_iadd hG dc12_couldBe_46 ?_
        refine s_iald hG dc12_couldBe_47 (fun v47 => ?_)
        refine s_icmp_lt hG 55 dc12_couldBe_48 (by decide) ?_ ?_
        · refine s_iconst (v := 0) hG dc12_couldBe_55 (by decide) ?_
          exact s_lv (lc rfl (lc rfl (lc rfl (lc rfl ln)))) (pc12_couldBe_56 hG ih _ _ _ _ _ _)
        · refine s_iconst (v := 1) hG dc12_couldBe_51 (by decide) ?_
          refine s_goto hG 56 dc12_couldBe_52 (by decide) ?_
          exact s_lv (lc rfl (lc rfl (lc rfl (lc rfl ln)))) (pc12_couldBe_56 hG ih _ _ _ _ _ _)
set_option maxRecDepth 20000 in
set_option maxHeartbeats 2000000 in
theorem corc12_couldBe {Ω : Om} (N : Nat) (a0 : Nat) (x1 : Int32) (x2 : Int32) (σ : Me) : Cor Ω tc12_couldBe 143 0 0 [vR (some a0), vI x1, vI x2] σ ιI (fc12_couldBe N a0 x1 x2 σ) := by
  refine Cor.of (by decide +kernel) (Nat.le_of_ble_eq_true rfl) (fun Γ hG => ?_)
  unfold fc12_couldBe
  show Sim Ω Γ 0 0 ιI 4 0 [(0, vR (some a0)), (1, vI x1), (2, vI x2)] [] σ 0 0 _
  refine s_iconst (v := 0) hG dc12_couldBe_0 (by decide) ?_
  refine s_istore_n hG dc12_couldBe_1 (by decide) ?_
  exact s_lv (lc rfl (lc rfl (lc rfl (lc rfl ln)))) (pc12_couldBe_2 hG _ _ _ _ _ _)
def fc12_debts_56 (N : Nat) (K25 : Option Nat → Int32 → Int32 → Int32 → Int32 → Me → Option (Int32 × Me)) (l0 : Option Nat) (l1 : Int32) (l2 : Int32) (l3 : Int32) (l4 : Int32) (σ : Me) : Option (Int32 × Me) :=
  K25 l0 l1 l2 l3 (l4 + (1 : Int32)) σ
def fc12_debts_25 (N : Nat) : Nat → Option Nat → Int32 → Int32 → Int32 → Int32 → Me → Option (Int32 × Me)
  | 0, _, _, _, _, _, _ => none
  | n + 1, l0, l1, l2, l3, l4, σ =>
    if (99 : Int32) < l4 then
      if l2 = (-1 : Int32) then
        some (l3, σ)
      else
        some ((-1 : Int32), σ)
    else
      (dr σ l0 (.inl 12)).bind fun a =>
      (fc12_couldBe N a l1 l4 σ).bind fun p36 =>
      if p36.1 = 0 then
        fc12_debts_56 N (fc12_debts_25 N n) l0 l1 l2 l3 l4 p36.2
      else
        if l3 = l2 then
          some (l4, p36.2)
        else
          fc12_debts_56 N (fc12_debts_25 N n) l0 l1 l2 (l3 + (1 : Int32)) l4 p36.2
def fc12_debts (N : Nat) (a0 : Nat) (x1 : Int32) (x2 : Int32) (σ : Me) : Option (Int32 × Me) :=
  (pI σ 12 0 (some a0) (0 : Int32)).bind fun σ2 =>
  (dr σ2 (some a0) (.inl 12)).bind fun a =>
  (fc12_isField N a x1 σ2).bind fun p7 =>
  if p7.1 = 0 then
    some ((-1 : Int32), p7.2)
  else
    if (-1 : Int32) ≤ x2 then
      fc12_debts_25 N N (some a0) x1 x2 (0 : Int32) (0 : Int32) p7.2
    else
      some ((-1 : Int32), p7.2)
set_option maxRecDepth 20000 in
set_option maxHeartbeats 2000000 in
theorem pc12_debts_56 {Ω : Om} {Γ : Ga} {N : Nat} (hG : Good Ω Γ tc12_debts 144 0 0) {K25 : Option Nat → Int32 → Int32 → Int32 → Int32 → Me → Option (Int32 × Me)} (hK25 : ∀ (l0 : Option Nat) (l1 : Int32) (l2 : Int32) (l3 : Int32) (l4 : Int32) (σ : Me), Sim Ω Γ 0 0 ιI 5 25 [(0, vR l0), (1, vI l1), (2, vI l2), (3, vI l3), (4, vI l4)] [] σ 0 0 (K25 l0 l1 l2 l3 l4 σ)) (l0 : Option Nat) (l1 : Int32) (l2 : Int32) (l3 : Int32) (l4 : Int32) (σ : Me) : Sim Ω Γ 0 0 ιI 5 56 [(0, vR l0), (1, vI l1), (2, vI l2), (3, vI l3), (4, vI l4)] [] σ 0 0 (fc12_debts_56 N K25 l0 l1 l2 l3 l4 σ) := by
  unfold fc12_debts_56
  refine s_iinc (v := 1) hG dc12_debts_56 rfl (by decide) (by decide) ?_
  refine s_goto hG 25 dc12_debts_59 (by decide) ?_
  exact s_lv (lc rfl (lc rfl (lc rfl (lc rfl (lc rfl ln))))) (hK25 _ _ _ _ _ _)
set_option maxRecDepth 20000 in
set_option maxHeartbeats 2000000 in
theorem pc12_debts_25 {Ω : Om} {Γ : Ga} {N : Nat} (hG : Good Ω Γ tc12_debts 144 0 0)  : ∀ (n : Nat) (l0 : Option Nat) (l1 : Int32) (l2 : Int32) (l3 : Int32) (l4 : Int32) (σ : Me), Sim Ω Γ 0 0 ιI 5 25 [(0, vR l0), (1, vI l1), (2, vI l2), (3, vI l3), (4, vI l4)] [] σ 0 0 (fc12_debts_25 N n l0 l1 l2 l3 l4 σ) := by
  intro n
  induction n with
  | zero => intros; exact s_none
  | succ n ih =>
    intro l0 l1 l2 l3 l4 σ
    unfold fc12_debts_25
    refine s_iload hG dc12_debts_25 rfl ?_
    refine s_bipush (v := 99) hG dc12_debts_27 (by decide) ?_
    refine s_icmp_gt hG 62 dc12_debts_29 (by decide) ?_ ?_
    · refine s_iload_n hG dc12_debts_62 rfl ?_
      refine s_iconst (v := -1) hG dc12_debts_63 (by decide) ?_
      refine s_icmp_ne hG 71 dc12_debts_64 (by decide) ?_ ?_
      · refine s_iconst (v := -1) hG dc12_debts_71 (by decide) ?_
        exact s_iret hG dc12_debts_72 rfl (Nat.le_of_ble_eq_true rfl) (Nat.le_of_ble_eq_true rfl)
      · refine s_iload_n hG dc12_debts_67 rfl ?_
        refine s_goto hG 72 dc12_debts_68 (by decide) ?_
        exact s_iret hG dc12_debts_72 rfl (Nat.le_of_ble_eq_true rfl) (Nat.le_of_ble_eq_true rfl)
    · refine s_aload_n hG dc12_debts_32 rfl ?_
      refine s_iload_n hG dc12_debts_33 rfl ?_
      refine s_iload hG dc12_debts_34 rfl ?_
      refine s_callVi hG kMc12_432 (fun a => corc12_couldBe N a _ _ _) ⟨by decide, rfl⟩ rfl (by first | decide | omega) dc12_debts_36 rfl rfl (Nat.le_of_ble_eq_true rfl) ⟨Nat.le_of_ble_eq_true rfl, Nat.le_of_ble_eq_true rfl⟩ (fun p36 => ?_)
      refine s_if_ne hG 45 dc12_debts_39 (by decide) ?_ ?_
      · refine s_iload_n hG dc12_debts_45 rfl ?_
        refine s_iload_n hG dc12_debts_46 rfl ?_
        refine s_icmp_ne hG 53 dc12_debts_47 (by decide) ?_ ?_
        · refine s_iinc (v := 1) hG dc12_debts_53 rfl (by decide) (by decide) ?_
          exact s_lv (lc rfl (lc rfl (lc rfl (lc rfl (lc rfl ln))))) (pc12_debts_56 hG ih _ _ _ _ _ _)
        · refine s_iload hG dc12_debts_50 rfl ?_
          exact s_iret hG dc12_debts_52 rfl (Nat.le_of_ble_eq_true rfl) (Nat.le_of_ble_eq_true rfl)
      · refine s_goto hG 56 dc12_debts_42 (by decide) ?_
        exact s_lv (lc rfl (lc rfl (lc rfl (lc rfl (lc rfl ln))))) (pc12_debts_56 hG ih _ _ _ _ _ _)
set_option maxRecDepth 20000 in
set_option maxHeartbeats 2000000 in
theorem corc12_debts {Ω : Om} (N : Nat) (a0 : Nat) (x1 : Int32) (x2 : Int32) (σ : Me) : Cor Ω tc12_debts 144 0 0 [vR (some a0), vI x1, vI x2] σ ιI (fc12_debts N a0 x1 x2 σ) := by
  refine Cor.of (by decide +kernel) (Nat.le_of_ble_eq_true rfl) (fun Γ hG => ?_)
  unfold fc12_debts
  show Sim Ω Γ 0 0 ιI 5 0 [(0, vR (some a0)), (1, vI x1), (2, vI x2)] [] σ 0 0 _
  refine s_aload_n hG dc12_debts_0 rfl ?_
  refine s_iconst (v := 0) hG dc12_debts_1 (by decide) ?_
  refine s_putI (fin := false) hG kFc12_100 rfl (fun h => by cases h) rfl (fun _ => rfl) (fun _ => rfl) dc12_debts_2 (fun σ2 => ?_)
  refine s_aload_n hG dc12_debts_5 rfl ?_
  refine s_iload_n hG dc12_debts_6 rfl ?_
  refine s_callVi hG kMc12_353 (fun a => corc12_isField N a _ _) ⟨by decide, rfl⟩ rfl (by first | decide | omega) dc12_debts_7 rfl rfl (Nat.le_of_ble_eq_true rfl) ⟨Nat.le_of_ble_eq_true rfl, Nat.le_of_ble_eq_true rfl⟩ (fun p7 => ?_)
  refine s_if_eq hG 18 dc12_debts_10 (by decide) ?_ ?_
  · refine s_iconst (v := -1) hG dc12_debts_18 (by decide) ?_
    exact s_iret hG dc12_debts_19 rfl (Nat.le_of_ble_eq_true rfl) (Nat.le_of_ble_eq_true rfl)
  · refine s_iload_n hG dc12_debts_13 rfl ?_
    refine s_iconst (v := -1) hG dc12_debts_14 (by decide) ?_
    refine s_icmp_ge hG 20 dc12_debts_15 (by decide) ?_ ?_
    · refine s_iconst (v := 0) hG dc12_debts_20 (by decide) ?_
      refine s_istore_n hG dc12_debts_21 (by decide) ?_
      refine s_iconst (v := 0) hG dc12_debts_22 (by decide) ?_
      refine s_istore hG dc12_debts_23 (by decide) ?_
      exact s_lv (lc rfl (lc rfl (lc rfl (lc rfl (lc rfl ln))))) (pc12_debts_25 hG _ _ _ _ _ _ _)
    · refine s_iconst (v := -1) hG dc12_debts_18 (by decide) ?_
      exact s_iret hG dc12_debts_19 rfl (Nat.le_of_ble_eq_true rfl) (Nat.le_of_ble_eq_true rfl)
def fc12_ask_183 (N : Nat) (K94 : Option Nat → Int32 → Int32 → Int32 → Int32 → Int32 → Me → Option (Int32 × Me)) (l0 : Option Nat) (l1 : Int32) (l2 : Int32) (l4 : Int32) (l5 : Int32) (l6 : Int32) (σ : Me) : Option (Int32 × Me) :=
  K94 l0 l1 l2 l4 l5 (l6 + (1 : Int32)) σ
def fc12_ask_172 (N : Nat) (K94 : Option Nat → Int32 → Int32 → Int32 → Int32 → Int32 → Me → Option (Int32 × Me)) (l0 : Option Nat) (l1 : Int32) (l2 : Int32) (l6 : Int32) (l7 : Int32) (σ : Me) : Option (Int32 × Me) :=
  (fMt_abs N l7 σ).bind fun p178 =>
  fc12_ask_183 N K94 l0 l1 l2 l6 p178.1 l6 p178.2
def fc12_ask_147 (N : Nat) (K94 : Option Nat → Int32 → Int32 → Int32 → Int32 → Int32 → Me → Option (Int32 × Me)) (K107 : Option Nat → Int32 → Int32 → Int32 → Int32 → Int32 → Int32 → Int32 → Me → Option (Int32 × Me)) (l0 : Option Nat) (l1 : Int32) (l2 : Int32) (l4 : Int32) (l5 : Int32) (l6 : Int32) (l7 : Int32) (l8 : Int32) (σ : Me) : Option (Int32 × Me) :=
  K107 l0 l1 l2 l4 l5 l6 l7 (l8 + (1 : Int32)) σ
def fc12_ask_144 (N : Nat) (K94 : Option Nat → Int32 → Int32 → Int32 → Int32 → Int32 → Me → Option (Int32 × Me)) (K107 : Option Nat → Int32 → Int32 → Int32 → Int32 → Int32 → Int32 → Int32 → Me → Option (Int32 × Me)) (l0 : Option Nat) (l1 : Int32) (l2 : Int32) (l4 : Int32) (l5 : Int32) (l6 : Int32) (l8 : Int32) (s0 : Int32) (s1 : Int32) (σ : Me) : Option (Int32 × Me) :=
  fc12_ask_147 N K94 K107 l0 l1 l2 l4 l5 l6 (s0 + s1) l8 σ
def fc12_ask_107 (N : Nat) (K94 : Option Nat → Int32 → Int32 → Int32 → Int32 → Int32 → Me → Option (Int32 × Me)) : Nat → Option Nat → Int32 → Int32 → Int32 → Int32 → Int32 → Int32 → Int32 → Me → Option (Int32 × Me)
  | 0, _, _, _, _, _, _, _, _, _ => none
  | n + 1, l0, l1, l2, l4, l5, l6, l7, l8, σ =>
    if (99 : Int32) < l8 then
      if l4 = (-1 : Int32) then
        fc12_ask_172 N K94 l0 l1 l2 l6 l7 σ
      else
        (fMt_abs N l7 σ).bind fun p161 =>
        if p161.1 < l5 then
          fc12_ask_172 N K94 l0 l1 l2 l6 l7 p161.2
        else
          fc12_ask_183 N K94 l0 l1 l2 l4 l5 l6 p161.2
    else
      (qR σ 12 44 l0).bind fun v115 =>
      (ldZ σ v115 l8).bind fun v120 =>
      if v120 = 0 then
        fc12_ask_147 N K94 (fc12_ask_107 N K94 n) l0 l1 l2 l4 l5 l6 l7 l8 σ
      else
        (dr σ l0 (.inl 12)).bind fun a =>
        (fc12_fallsIf N a l1 l8 l6 σ).bind fun p132 =>
        if p132.1 < l2 then
          fc12_ask_144 N K94 (fc12_ask_107 N K94 n) l0 l1 l2 l4 l5 l6 l8 l7 (-1 : Int32) p132.2
        else
          fc12_ask_144 N K94 (fc12_ask_107 N K94 n) l0 l1 l2 l4 l5 l6 l8 l7 (1 : Int32) p132.2
def fc12_ask_94 (N : Nat) : Nat → Option Nat → Int32 → Int32 → Int32 → Int32 → Int32 → Me → Option (Int32 × Me)
  | 0, _, _, _, _, _, _, _ => none
  | n + 1, l0, l1, l2, l4, l5, l6, σ =>
    if (99 : Int32) < l6 then
      some (l4, σ)
    else
      fc12_ask_107 N (fc12_ask_94 N n) N l0 l1 l2 l4 l5 l6 (0 : Int32) (0 : Int32) σ
def fc12_ask_72 (N : Nat) (K32 : Option Nat → Int32 → Int32 → Int32 → Int32 → Me → Option (Int32 × Me)) (l0 : Option Nat) (l1 : Int32) (l2 : Int32) (l4 : Int32) (s0 : Int32) (σ : Me) : Option (Int32 × Me) :=
  K32 l0 l1 l2 s0 (l4 + (1 : Int32)) σ
def fc12_ask_67 (N : Nat) (K32 : Option Nat → Int32 → Int32 → Int32 → Int32 → Me → Option (Int32 × Me)) (l0 : Option Nat) (l1 : Int32) (l2 : Int32) (l4 : Int32) (σ : Me) : Option (Int32 × Me) :=
  fc12_ask_72 N K32 l0 l1 l2 l4 (1 : Int32) σ
def fc12_ask_32 (N : Nat) : Nat → Option Nat → Int32 → Int32 → Int32 → Int32 → Me → Option (Int32 × Me)
  | 0, _, _, _, _, _, _ => none
  | n + 1, l0, l1, l2, l3, l4, σ =>
    if (99 : Int32) < l4 then
      if l3 = 0 then
        some ((-1 : Int32), σ)
      else
        fc12_ask_94 N N l0 l1 l2 (-1 : Int32) (0 : Int32) (0 : Int32) σ
    else
      (qR σ 12 44 l0).bind fun v40 =>
      (dr σ l0 (.inl 12)).bind fun a =>
      (fc12_couldBe N a l1 l4 σ).bind fun p49 =>
      (stZ p49.2 v40 l4 p49.1).bind fun σ52 =>
      if l3 = 0 then
        (qR σ52 12 44 l0).bind fun v58 =>
        (ldZ σ52 v58 l4).bind fun v63 =>
        if v63 = 0 then
          fc12_ask_72 N (fc12_ask_32 N n) l0 l1 l2 l4 (0 : Int32) σ52
        else
          fc12_ask_67 N (fc12_ask_32 N n) l0 l1 l2 l4 σ52
      else
        fc12_ask_67 N (fc12_ask_32 N n) l0 l1 l2 l4 σ52
def fc12_ask (N : Nat) (a0 : Nat) (x1 : Int32) (x2 : Int32) (σ : Me) : Option (Int32 × Me) :=
  (pI σ 12 0 (some a0) (0 : Int32)).bind fun σ2 =>
  (dr σ2 (some a0) (.inl 12)).bind fun a =>
  (fc12_isField N a x1 σ2).bind fun p7 =>
  if p7.1 = 0 then
    some ((-1 : Int32), p7.2)
  else
    (fc12_isIn N (Int32.toInt64 x2) (0 : Int64) (99 : Int64) p7.2).bind fun p19 =>
    if p19.1 = 0 then
      some ((-1 : Int32), p19.2)
    else
      fc12_ask_32 N N (some a0) x1 x2 (0 : Int32) (0 : Int32) p19.2
set_option maxRecDepth 20000 in
set_option maxHeartbeats 2000000 in
theorem pc12_ask_183 {Ω : Om} {Γ : Ga} {N : Nat} (hG : Good Ω Γ tc12_ask 144 0 0) {K94 : Option Nat → Int32 → Int32 → Int32 → Int32 → Int32 → Me → Option (Int32 × Me)} (hK94 : ∀ (l0 : Option Nat) (l1 : Int32) (l2 : Int32) (l4 : Int32) (l5 : Int32) (l6 : Int32) (σ : Me), Sim Ω Γ 0 0 ιI 9 94 [(0, vR l0), (1, vI l1), (2, vI l2), (4, vI l4), (5, vI l5), (6, vI l6)] [] σ 0 0 (K94 l0 l1 l2 l4 l5 l6 σ)) (l0 : Option Nat) (l1 : Int32) (l2 : Int32) (l4 : Int32) (l5 : Int32) (l6 : Int32) (σ : Me) : Sim Ω Γ 0 0 ιI 9 183 [(0, vR l0), (1, vI l1), (2, vI l2), (4, vI l4), (5, vI l5), (6, vI l6)] [] σ 0 0 (fc12_ask_183 N K94 l0 l1 l2 l4 l5 l6 σ) := by
  unfold fc12_ask_183
  refine s_iinc (v := 1) hG dc12_ask_183 rfl (by decide) (by decide) ?_
  refine s_goto hG 94 dc12_ask_186 (by decide) ?_
  exact s_lv (lc rfl (lc rfl (lc rfl (lc rfl (lc rfl (lc rfl ln)))))) (hK94 _ _ _ _ _ _ _)
set_option maxRecDepth 20000 in
set_option maxHeartbeats 2000000 in
theorem pc12_ask_172 {Ω : Om} {Γ : Ga} {N : Nat} (hG : Good Ω Γ tc12_ask 144 0 0) {K94 : Option Nat → Int32 → Int32 → Int32 → Int32 → Int32 → Me → Option (Int32 × Me)} (hK94 : ∀ (l0 : Option Nat) (l1 : Int32) (l2 : Int32) (l4 : Int32) (l5 : Int32) (l6 : Int32) (σ : Me), Sim Ω Γ 0 0 ιI 9 94 [(0, vR l0), (1, vI l1), (2, vI l2), (4, vI l4), (5, vI l5), (6, vI l6)] [] σ 0 0 (K94 l0 l1 l2 l4 l5 l6 σ)) (l0 : Option Nat) (l1 : Int32) (l2 : Int32) (l6 : Int32) (l7 : Int32) (σ : Me) : Sim Ω Γ 0 0 ιI 9 172 [(0, vR l0), (1, vI l1), (2, vI l2), (6, vI l6), (7, vI l7)] [] σ 0 0 (fc12_ask_172 N K94 l0 l1 l2 l6 l7 σ) := by
  unfold fc12_ask_172
  refine s_iload hG dc12_ask_172 rfl ?_
  refine s_istore hG dc12_ask_174 (by decide) ?_
  refine s_iload hG dc12_ask_176 rfl ?_
  refine s_callSi hG kMc12_435 (corMt_abs N _ _) rfl (by first | decide | omega) dc12_ask_178 rfl rfl (Nat.le_of_ble_eq_true rfl) ⟨Nat.le_of_ble_eq_true rfl, Nat.le_of_ble_eq_true rfl⟩ (fun p178 => ?_)
  refine s_istore hG dc12_ask_181 (by decide) ?_
  exact s_lv (lc rfl (lc rfl (lc rfl (lc rfl (lc rfl (lc rfl ln)))))) (pc12_ask_183 hG hK94 _ _ _ _ _ _ _)
set_option maxRecDepth 20000 in
set_option maxHeartbeats 2000000 in
theorem pc12_ask_147 {Ω : Om} {Γ : Ga} {N : Nat} (hG : Good Ω Γ tc12_ask 144 0 0) {K94 : Option Nat → Int32 → Int32 → Int32 → Int32 → Int32 → Me → Option (Int32 × Me)} {K107 : Option Nat → Int32 → Int32 → Int32 → Int32 → Int32 → Int32 → Int32 → Me → Option (Int32 × Me)} (hK94 : ∀ (l0 : Option Nat) (l1 : Int32) (l2 : Int32) (l4 : Int32) (l5 : Int32) (l6 : Int32) (σ : Me), Sim Ω Γ 0 0 ιI 9 94 [(0, vR l0), (1, vI l1), (2, vI l2), (4, vI l4), (5, vI l5), (6, vI l6)] [] σ 0 0 (K94 l0 l1 l2 l4 l5 l6 σ)) (hK107 : ∀ (l0 : Option Nat) (l1 : Int32) (l2 : Int32) (l4 : Int32) (l5 : Int32) (l6 : Int32) (l7 : Int32) (l8 : Int32) (σ : Me), Sim Ω Γ 0 0 ιI 9 107 [(0, vR l0), (1, vI l1), (2, vI l2), (4, vI l4), (5, vI l5), (6, vI l6), (7, vI l7), (8, vI l8)] [] σ 0 0 (K107 l0 l1 l2 l4 l5 l6 l7 l8 σ)) (l0 : Option Nat) (l1 : Int32) (l2 : Int32) (l4 : Int32) (l5 : Int32) (l6 : Int32) (l7 : Int32) (l8 : Int32) (σ : Me) : Sim Ω Γ 0 0 ιI 9 147 [(0, vR l0), (1, vI l1), (2, vI l2), (4, vI l4), (5, vI l5), (6, vI l6), (7, vI l7), (8, vI l8)] [] σ 0 0 (fc12_ask_147 N K94 K107 l0 l1 l2 l4 l5 l6 l7 l8 σ) := by
  unfold fc12_ask_147
  refine s_iinc (v := 1) hG dc12_ask_147 rfl (by decide) (by decide) ?_
  refine s_goto hG 107 dc12_ask_150 (by decide) ?_
  exact s_lv (lc rfl (lc rfl (lc rfl (lc rfl (lc rfl (lc rfl (lc rfl (lc rfl ln)))))))) (hK107 _ _ _ _ _ _ _ _ _)
set_option maxRecDepth 20000 in
set_option maxHeartbeats 2000000 in
theorem pc12_ask_144 {Ω : Om} {Γ : Ga} {N : Nat} (hG : Good Ω Γ tc12_ask 144 0 0) {K94 : Option Nat → Int32 → Int32 → Int32 → Int32 → Int32 → Me → Option (Int32 × Me)} {K107 : Option Nat → Int32 → Int32 → Int32 → Int32 → Int32 → Int32 → Int32 → Me → Option (Int32 × Me)} (hK94 : ∀ (l0 : Option Nat) (l1 : Int32) (l2 : Int32) (l4 : Int32) (l5 : Int32) (l6 : Int32) (σ : Me), Sim Ω Γ 0 0 ιI 9 94 [(0, vR l0), (1, vI l1), (2, vI l2), (4, vI l4), (5, vI l5), (6, vI l6)] [] σ 0 0 (K94 l0 l1 l2 l4 l5 l6 σ)) (hK107 : ∀ (l0 : Option Nat) (l1 : Int32) (l2 : Int32) (l4 : Int32) (l5 : Int32) (l6 : Int32) (l7 : Int32) (l8 : Int32) (σ : Me), Sim Ω Γ 0 0 ιI 9 107 [(0, vR l0), (1, vI l1), (2, vI l2), (4, vI l4), (5, vI l5), (6, vI l6), (7, vI l7), (8, vI l8)] [] σ 0 0 (K107 l0 l1 l2 l4 l5 l6 l7 l8 σ)) (l0 : Option Nat) (l1 : Int32) (l2 : Int32) (l4 : Int32) (l5 : Int32) (l6 : Int32) (l8 : Int32) (s0 : Int32) (s1 : Int32) (σ : Me) : Sim Ω Γ 0 0 ιI 9 144 [(0, vR l0), (1, vI l1), (2, vI l2), (4, vI l4), (5, vI l5), (6, vI l6), (8, vI l8)] [vI s1, vI s0] σ 0 0 (fc12_ask_144 N K94 K107 l0 l1 l2 l4 l5 l6 l8 s0 s1 σ) := by
  unfold fc12_ask_144
  refine s_iadd hG dc12_ask_144 ?_
  refine s_istore hG dc12_ask_145 (by decide) ?_
  exact s_lv (lc rfl (lc rfl (lc rfl (lc rfl (lc rfl (lc rfl (lc rfl (lc rfl ln)))))))) (pc12_ask_147 hG hK94 hK107 _ _ _ _ _ _ _ _ _)
set_option maxRecDepth 20000 in
set_option maxHeartbeats 2000000 in
theorem pc12_ask_107 {Ω : Om} {Γ : Ga} {N : Nat} (hG : Good Ω Γ tc12_ask 144 0 0) {K94 : Option Nat → Int32 → Int32 → Int32 → Int32 → Int32 → Me → Option (Int32 × Me)} (hK94 : ∀ (l0 : Option Nat) (l1 : Int32) (l2 : Int32) (l4 : Int32) (l5 : Int32) (l6 : Int32) (σ : Me), Sim Ω Γ 0 0 ιI 9 94 [(0, vR l0), (1, vI l1), (2, vI l2), (4, vI l4), (5, vI l5), (6, vI l6)] [] σ 0 0 (K94 l0 l1 l2 l4 l5 l6 σ))  : ∀ (n : Nat) (l0 : Option Nat) (l1 : Int32) (l2 : Int32) (l4 : Int32) (l5 : Int32) (l6 : Int32) (l7 : Int32) (l8 : Int32) (σ : Me), Sim Ω Γ 0 0 ιI 9 107 [(0, vR l0), (1, vI l1), (2, vI l2), (4, vI l4), (5, vI l5), (6, vI l6), (7, vI l7), (8, vI l8)] [] σ 0 0 (fc12_ask_107 N K94 n l0 l1 l2 l4 l5 l6 l7 l8 σ) := by
  intro n
  induction n with
  | zero => intros; exact s_none
  | succ n ih =>
    intro l0 l1 l2 l4 l5 l6 l7 l8 σ
    unfold fc12_ask_107
    refine s_iload hG dc12_ask_107 rfl ?_
    refine s_bipush (v := 99) hG dc12_ask_109 (by decide) ?_
    refine s_icmp_gt hG 153 dc12_ask_111 (by decide) ?_ ?_
    · refine s_iload hG dc12_ask_153 rfl ?_
      refine s_iconst (v := -1) hG dc12_ask_155 (by decide) ?_
      refine s_icmp_eq hG 172 dc12_ask_156 (by decide) ?_ ?_
      · exact s_lv (lc rfl (lc rfl (lc rfl (lc rfl (lc rfl ln))))) (pc12_ask_172 hG hK94 _ _ _ _ _ _)
      · refine s_iload hG dc12_ask_159 rfl ?_
        refine s_callSi hG kMc12_435 (corMt_abs N _ _) rfl (by first | decide | omega) dc12_ask_161 rfl rfl (Nat.le_of_ble_eq_true rfl) ⟨Nat.le_of_ble_eq_true rfl, Nat.le_of_ble_eq_true rfl⟩ (fun p161 => ?_)
        refine s_iload hG dc12_ask_164 rfl ?_
        refine s_icmp_lt hG 172 dc12_ask_166 (by decide) ?_ ?_
        · exact s_lv (lc rfl (lc rfl (lc rfl (lc rfl (lc rfl ln))))) (pc12_ask_172 hG hK94 _ _ _ _ _ _)
        · refine s_goto hG 183 dc12_ask_169 (by decide) ?_
          exact s_lv (lc rfl (lc rfl (lc rfl (lc rfl (lc rfl (lc rfl ln)))))) (pc12_ask_183 hG hK94 _ _ _ _ _ _ _)
    · refine s_aload_n hG dc12_ask_114 rfl ?_
      refine s_getR hG kFc12_90 rfl dc12_ask_115 (fun v115 => ?_)
      refine s_iload hG dc12_ask_118 rfl ?_
      refine s_zald hG dc12_ask_120 (fun v120 => ?_)
      refine s_if_eq hG 147 dc12_ask_121 (by decide) ?_ ?_
      · exact s_lv (lc rfl (lc rfl (lc rfl (lc rfl (lc rfl (lc rfl (lc rfl (lc rfl ln)))))))) (pc12_ask_147 hG hK94 ih _ _ _ _ _ _ _ _ _)
      · refine s_iload hG dc12_ask_124 rfl ?_
        refine s_aload_n hG dc12_ask_126 rfl ?_
        refine s_iload_n hG dc12_ask_127 rfl ?_
        refine s_iload hG dc12_ask_128 rfl ?_
        refine s_iload hG dc12_ask_130 rfl ?_
        refine s_callVi hG kMc12_428 (fun a => corc12_fallsIf N a _ _ _ _) ⟨by decide, rfl⟩ rfl (by first | decide | omega) dc12_ask_132 rfl rfl (Nat.le_of_ble_eq_true rfl) ⟨Nat.le_of_ble_eq_true rfl, Nat.le_of_ble_eq_true rfl⟩ (fun p132 => ?_)
        refine s_iload_n hG dc12_ask_135 rfl ?_
        refine s_icmp_lt hG 143 dc12_ask_136 (by decide) ?_ ?_
        · refine s_iconst (v := -1) hG dc12_ask_143 (by decide) ?_
          exact s_lv (lc rfl (lc rfl (lc rfl (lc rfl (lc rfl (lc rfl (lc rfl ln))))))) (pc12_ask_144 hG hK94 ih _ _ _ _ _ _ _ _ _ _)
        · refine s_iconst (v := 1) hG dc12_ask_139 (by decide) ?_
          refine s_goto hG 144 dc12_ask_140 (by decide) ?_
          exact s_lv (lc rfl (lc rfl (lc rfl (lc rfl (lc rfl (lc rfl (lc rfl ln))))))) (pc12_ask_144 hG hK94 ih _ _ _ _ _ _ _ _ _ _)
set_option maxRecDepth 20000 in
set_option maxHeartbeats 2000000 in
theorem pc12_ask_94 {Ω : Om} {Γ : Ga} {N : Nat} (hG : Good Ω Γ tc12_ask 144 0 0)  : ∀ (n : Nat) (l0 : Option Nat) (l1 : Int32) (l2 : Int32) (l4 : Int32) (l5 : Int32) (l6 : Int32) (σ : Me), Sim Ω Γ 0 0 ιI 9 94 [(0, vR l0), (1, vI l1), (2, vI l2), (4, vI l4), (5, vI l5), (6, vI l6)] [] σ 0 0 (fc12_ask_94 N n l0 l1 l2 l4 l5 l6 σ) := by
  intro n
  induction n with
  | zero => intros; exact s_none
  | succ n ih =>
    intro l0 l1 l2 l4 l5 l6 σ
    unfold fc12_ask_94
    refine s_iload hG dc12_ask_94 rfl ?_
    refine s_bipush (v := 99) hG dc12_ask_96 (by decide) ?_
    refine s_icmp_gt hG 189 dc12_ask_98 (by decide) ?_ ?_
    · refine s_iload hG dc12_ask_189 rfl ?_
      exact s_iret hG dc12_ask_191 rfl (Nat.le_of_ble_eq_true rfl) (Nat.le_of_ble_eq_true rfl)
    · refine s_iconst (v := 0) hG dc12_ask_101 (by decide) ?_
      refine s_istore hG dc12_ask_102 (by decide) ?_
      refine s_iconst (v := 0) hG dc12_ask_104 (by decide) ?_
      refine s_istore hG dc12_ask_105 (by decide) ?_
      exact s_lv (lc rfl (lc rfl (lc rfl (lc rfl (lc rfl (lc rfl (lc rfl (lc rfl ln)))))))) (pc12_ask_107 hG ih _ _ _ _ _ _ _ _ _ _)
set_option maxRecDepth 20000 in
set_option maxHeartbeats 2000000 in
theorem pc12_ask_72 {Ω : Om} {Γ : Ga} {N : Nat} (hG : Good Ω Γ tc12_ask 144 0 0) {K32 : Option Nat → Int32 → Int32 → Int32 → Int32 → Me → Option (Int32 × Me)} (hK32 : ∀ (l0 : Option Nat) (l1 : Int32) (l2 : Int32) (l3 : Int32) (l4 : Int32) (σ : Me), Sim Ω Γ 0 0 ιI 9 32 [(0, vR l0), (1, vI l1), (2, vI l2), (3, vI l3), (4, vI l4)] [] σ 0 0 (K32 l0 l1 l2 l3 l4 σ)) (l0 : Option Nat) (l1 : Int32) (l2 : Int32) (l4 : Int32) (s0 : Int32) (σ : Me) : Sim Ω Γ 0 0 ιI 9 72 [(0, vR l0), (1, vI l1), (2, vI l2), (4, vI l4)] [vI s0] σ 0 0 (fc12_ask_72 N K32 l0 l1 l2 l4 s0 σ) := by
  unfold fc12_ask_72
  refine s_istore_n hG dc12_ask_72 (by decide) ?_
  refine s_iinc (v := 1) hG dc12_ask_73 rfl (by decide) (by decide) ?_
  refine s_goto hG 32 dc12_ask_76 (by decide) ?_
  exact s_lv (lc rfl (lc rfl (lc rfl (lc rfl (lc rfl ln))))) (hK32 _ _ _ _ _ _)
set_option maxRecDepth 20000 in
set_option maxHeartbeats 2000000 in
theorem pc12_ask_67 {Ω : Om} {Γ : Ga} {N : Nat} (hG : Good Ω Γ tc12_ask 144 0 0) {K32 : Option Nat → Int32 → Int32 → Int32 → Int32 → Me → Option (Int32 × Me)} (hK32 : ∀ (l0 : Option Nat) (l1 : Int32) (l2 : Int32) (l3 : Int32) (l4 : Int32) (σ : Me), Sim Ω Γ 0 0 ιI 9 32 [(0, vR l0), (1, vI l1), (2, vI l2), (3, vI l3), (4, vI l4)] [] σ 0 0 (K32 l0 l1 l2 l3 l4 σ)) (l0 : Option Nat) (l1 : Int32) (l2 : Int32) (l4 : Int32) (σ : Me) : Sim Ω Γ 0 0 ιI 9 67 [(0, vR l0), (1, vI l1), (2, vI l2), (4, vI l4)] [] σ 0 0 (fc12_ask_67 N K32 l0 l1 l2 l4 σ) := by
  unfold fc12_ask_67
  refine s_iconst (v := 1) hG dc12_ask_67 (by decide) ?_
  refine s_goto hG 72 dc12_ask_68 (by decide) ?_
  exact s_lv (lc rfl (lc rfl (lc rfl (lc rfl ln)))) (pc12_ask_72 hG hK32 _ _ _ _ _ _)
set_option maxRecDepth 20000 in
set_option maxHeartbeats 2000000 in
theorem pc12_ask_32 {Ω : Om} {Γ : Ga} {N : Nat} (hG : Good Ω Γ tc12_ask 144 0 0)  : ∀ (n : Nat) (l0 : Option Nat) (l1 : Int32) (l2 : Int32) (l3 : Int32) (l4 : Int32) (σ : Me), Sim Ω Γ 0 0 ιI 9 32 [(0, vR l0), (1, vI l1), (2, vI l2), (3, vI l3), (4, vI l4)] [] σ 0 0 (fc12_ask_32 N n l0 l1 l2 l3 l4 σ) := by
  intro n
  induction n with
  | zero => intros; exact s_none
  | succ n ih =>
    intro l0 l1 l2 l3 l4 σ
    unfold fc12_ask_32
    refine s_iload hG dc12_ask_32 rfl ?_
    refine s_bipush (v := 99) hG dc12_ask_34 (by decide) ?_
    refine s_icmp_gt hG 79 dc12_ask_36 (by decide) ?_ ?_
    · refine s_iload_n hG dc12_ask_79 rfl ?_
      refine s_if_ne hG 85 dc12_ask_80 (by decide) ?_ ?_
      · refine s_iconst (v := -1) hG dc12_ask_85 (by decide) ?_
        refine s_istore hG dc12_ask_86 (by decide) ?_
        refine s_iconst (v := 0) hG dc12_ask_88 (by decide) ?_
        refine s_istore hG dc12_ask_89 (by decide) ?_
        refine s_iconst (v := 0) hG dc12_ask_91 (by decide) ?_
        refine s_istore hG dc12_ask_92 (by decide) ?_
        exact s_lv (lc rfl (lc rfl (lc rfl (lc rfl (lc rfl (lc rfl ln)))))) (pc12_ask_94 hG _ _ _ _ _ _ _ _)
      · refine s_iconst (v := -1) hG dc12_ask_83 (by decide) ?_
        exact s_iret hG dc12_ask_84 rfl (Nat.le_of_ble_eq_true rfl) (Nat.le_of_ble_eq_true rfl)
    · refine s_aload_n hG dc12_ask_39 rfl ?_
      refine s_getR hG kFc12_90 rfl dc12_ask_40 (fun v40 => ?_)
      refine s_iload hG dc12_ask_43 rfl ?_
      refine s_aload_n hG dc12_ask_45 rfl ?_
      refine s_iload_n hG dc12_ask_46 rfl ?_
      refine s_iload hG dc12_ask_47 rfl ?_
      refine s_callVi hG kMc12_432 (fun a => corc12_couldBe N a _ _ _) ⟨by decide, rfl⟩ rfl (by first | decide | omega) dc12_ask_49 rfl rfl (Nat.le_of_ble_eq_true rfl) ⟨Nat.le_of_ble_eq_true rfl, Nat.le_of_ble_eq_true rfl⟩ (fun p49 => ?_)
      refine s_zast hG dc12_ask_52 (fun σ52 => ?_)
      refine s_iload_n hG dc12_ask_53 rfl ?_
      refine s_if_ne hG 67 dc12_ask_54 (by decide) ?_ ?_
      · exact s_lv (lc rfl (lc rfl (lc rfl (lc rfl ln)))) (pc12_ask_67 hG ih _ _ _ _ _)
      · refine s_aload_n hG dc12_ask_57 rfl ?_
        refine s_getR hG kFc12_90 rfl dc12_ask_58 (fun v58 => ?_)
        refine s_iload hG dc12_ask_61 rfl ?_
        refine s_zald hG dc12_ask_63 (fun v63 => ?_)
        refine s_if_eq hG 71 dc12_ask_64 (by decide) ?_ ?_
        · refine s_iconst (v := 0) hG dc12_ask_71 (by decide) ?_
          exact s_lv (lc rfl (lc rfl (lc rfl (lc rfl ln)))) (pc12_ask_72 hG ih _ _ _ _ _ _)
        · exact s_lv (lc rfl (lc rfl (lc rfl (lc rfl ln)))) (pc12_ask_67 hG ih _ _ _ _ _)
set_option maxRecDepth 20000 in
set_option maxHeartbeats 2000000 in
theorem corc12_ask {Ω : Om} (N : Nat) (a0 : Nat) (x1 : Int32) (x2 : Int32) (σ : Me) : Cor Ω tc12_ask 144 0 0 [vR (some a0), vI x1, vI x2] σ ιI (fc12_ask N a0 x1 x2 σ) := by
  refine Cor.of (by decide +kernel) (Nat.le_of_ble_eq_true rfl) (fun Γ hG => ?_)
  unfold fc12_ask
  show Sim Ω Γ 0 0 ιI 9 0 [(0, vR (some a0)), (1, vI x1), (2, vI x2)] [] σ 0 0 _
  refine s_aload_n hG dc12_ask_0 rfl ?_
  refine s_iconst (v := 0) hG dc12_ask_1 (by decide) ?_
  refine s_putI (fin := false) hG kFc12_100 rfl (fun h => by cases h) rfl (fun _ => rfl) (fun _ => rfl) dc12_ask_2 (fun σ2 => ?_)
  refine s_aload_n hG dc12_ask_5 rfl ?_
  refine s_iload_n hG dc12_ask_6 rfl ?_
  refine s_callVi hG kMc12_353 (fun a => corc12_isField N a _ _) ⟨by decide, rfl⟩ rfl (by first | decide | omega) dc12_ask_7 rfl rfl (Nat.le_of_ble_eq_true rfl) ⟨Nat.le_of_ble_eq_true rfl, Nat.le_of_ble_eq_true rfl⟩ (fun p7 => ?_)
  refine s_if_eq hG 25 dc12_ask_10 (by decide) ?_ ?_
  · refine s_iconst (v := -1) hG dc12_ask_25 (by decide) ?_
    exact s_iret hG dc12_ask_26 rfl (Nat.le_of_ble_eq_true rfl) (Nat.le_of_ble_eq_true rfl)
  · refine s_iload_n hG dc12_ask_13 rfl ?_
    refine s_i2l hG dc12_ask_14 ?_
    refine s_lconst (v := 0) hG dc12_ask_15 (by decide) ?_
    refine s_ldc2 hG dc12_ask_16 kJc12_302 ?_
    refine s_callSi hG kMc12_221 (corc12_isIn N _ _ _ _) rfl (by first | decide | omega) dc12_ask_19 rfl rfl (Nat.le_of_ble_eq_true rfl) ⟨Nat.le_of_ble_eq_true rfl, Nat.le_of_ble_eq_true rfl⟩ (fun p19 => ?_)
    refine s_if_ne hG 27 dc12_ask_22 (by decide) ?_ ?_
    · refine s_iconst (v := 0) hG dc12_ask_27 (by decide) ?_
      refine s_istore_n hG dc12_ask_28 (by decide) ?_
      refine s_iconst (v := 0) hG dc12_ask_29 (by decide) ?_
      refine s_istore hG dc12_ask_30 (by decide) ?_
      exact s_lv (lc rfl (lc rfl (lc rfl (lc rfl (lc rfl ln))))) (pc12_ask_32 hG _ _ _ _ _ _ _)
    · refine s_iconst (v := -1) hG dc12_ask_25 (by decide) ?_
      exact s_iret hG dc12_ask_26 rfl (Nat.le_of_ble_eq_true rfl) (Nat.le_of_ble_eq_true rfl)
def fc12_gameOf (N : Nat) (a0 : Nat) (x1 : Int32) (x2 : Int32) (x3 : Int32) (x4 : Int32) (x5 : Int32) (x6 : Int32) (σ : Me) : Option (Int32 × Me) :=
  (qR σ 12 28 (some a0)).bind fun v1 =>
  (qR σ 12 29 (some a0)).bind fun v5 =>
  (fc12_copy N v1 v5 σ).bind fun p8 =>
  (qR p8.2 12 29 (some a0)).bind fun v12 =>
  (qR p8.2 12 29 (some a0)).bind fun v22 =>
  (ldI p8.2 v22 (((4 : Int32) * x1) + (0 : Int32))).bind fun v30 =>
  (fMt_max N (0 : Int32) (v30 - x4) p8.2).bind fun p34 =>
  (stI p34.2 v12 (((4 : Int32) * x1) + (0 : Int32)) p34.1).bind fun σ37 =>
  (qR σ37 12 29 (some a0)).bind fun v39 =>
  (qR σ37 12 29 (some a0)).bind fun v49 =>
  (ldI σ37 v49 (((4 : Int32) * x2) + (0 : Int32))).bind fun v57 =>
  (fMt_max N (0 : Int32) (v57 - x5) σ37).bind fun p61 =>
  (stI p61.2 v39 (((4 : Int32) * x2) + (0 : Int32)) p61.1).bind fun σ64 =>
  (qR σ64 12 29 (some a0)).bind fun v67 =>
  (dr σ64 (some a0) (.inl 12)).bind fun a =>
  (fc12_goYear N a v67 x3 σ64).bind fun p71 =>
  if x6 = 0 then
    (qR p71.2 12 35 (some a0)).bind fun v80 =>
    (ldI p71.2 v80 x1).bind fun v84 =>
    some ((v84 - x4), p71.2)
  else
    (qR p71.2 12 35 (some a0)).bind fun v92 =>
    (ldI p71.2 v92 x2).bind fun v96 =>
    some ((v96 - x5), p71.2)
set_option maxRecDepth 20000 in
set_option maxHeartbeats 2000000 in
theorem corc12_gameOf {Ω : Om} (N : Nat) (a0 : Nat) (x1 : Int32) (x2 : Int32) (x3 : Int32) (x4 : Int32) (x5 : Int32) (x6 : Int32) (σ : Me) : Cor Ω tc12_gameOf 142 0 0 [vR (some a0), vI x1, vI x2, vI x3, vI x4, vI x5, vI x6] σ ιI (fc12_gameOf N a0 x1 x2 x3 x4 x5 x6 σ) := by
  refine Cor.of (by decide +kernel) (Nat.le_of_ble_eq_true rfl) (fun Γ hG => ?_)
  unfold fc12_gameOf
  show Sim Ω Γ 0 0 ιI 7 0 [(0, vR (some a0)), (1, vI x1), (2, vI x2), (3, vI x3), (4, vI x4), (5, vI x5), (6, vI x6)] [] σ 0 0 _
  refine s_aload_n hG dc12_gameOf_0 rfl ?_
  refine s_getR hG kFc12_55 rfl dc12_gameOf_1 (fun v1 => ?_)
  refine s_aload_n hG dc12_gameOf_4 rfl ?_
  refine s_getR hG kFc12_58 rfl dc12_gameOf_5 (fun v5 => ?_)
  refine s_callSv hG kMc12_345 (corc12_copy N _ _ _) rfl (by first | decide | omega) dc12_gameOf_8 rfl rfl (Nat.le_of_ble_eq_true rfl) ⟨Nat.le_of_ble_eq_true rfl, Nat.le_of_ble_eq_true rfl⟩ (fun p8 => ?_)
  refine s_aload_n hG dc12_gameOf_11 rfl ?_
  refine s_getR hG kFc12_58 rfl dc12_gameOf_12 (fun v12 => ?_)
  refine s_iconst (v := 4) hG dc12_gameOf_15 (by decide) ?_
  refine s_iload_n hG dc12_gameOf_16 rfl ?_
  refine s_imul hG dc12_gameOf_17 ?_
  refine s_iconst (v := 0) hG dc12_gameOf_18 (by decide) ?_
  refine s_iadd hG dc12_gameOf_19 ?_
  refine s_iconst (v := 0) hG dc12_gameOf_20 (by decide) ?_
  refine s_aload_n hG dc12_gameOf_21 rfl ?_
  refine s_getR hG kFc12_58 rfl dc12_gameOf_22 (fun v22 => ?_)
  refine s_iconst (v := 4) hG dc12_gameOf_25 (by decide) ?_
  refine s_iload_n hG dc12_gameOf_26 rfl ?_
  refine s_imul hG dc12_gameOf_27 ?_
  refine s_iconst (v := 0) hG dc12_gameOf_28 (by decide) ?_
  refine s_iadd hG dc12_gameOf_29 ?_
  refine s_iald hG dc12_gameOf_30 (fun v30 => ?_)
  refine s_iload hG dc12_gameOf_31 rfl ?_
  refine s_isub hG dc12_gameOf_33 ?_
  refine s_callSi hG kMc12_326 (corMt_max N _ _ _) rfl (by first | decide | omega) dc12_gameOf_34 rfl rfl (Nat.le_of_ble_eq_true rfl) ⟨Nat.le_of_ble_eq_true rfl, Nat.le_of_ble_eq_true rfl⟩ (fun p34 => ?_)
  refine s_iast hG dc12_gameOf_37 (fun σ37 => ?_)
  refine s_aload_n hG dc12_gameOf_38 rfl ?_
  refine s_getR hG kFc12_58 rfl dc12_gameOf_39 (fun v39 => ?_)
  refine s_iconst (v := 4) hG dc12_gameOf_42 (by decide) ?_
  refine s_iload_n hG dc12_gameOf_43 rfl ?_
  refine s_imul hG dc12_gameOf_44 ?_
  refine s_iconst (v := 0) hG dc12_gameOf_45 (by decide) ?_
  refine s_iadd hG dc12_gameOf_46 ?_
  refine s_iconst (v := 0) hG dc12_gameOf_47 (by decide) ?_
  refine s_aload_n hG dc12_gameOf_48 rfl ?_
  refine s_getR hG kFc12_58 rfl dc12_gameOf_49 (fun v49 => ?_)
  refine s_iconst (v := 4) hG dc12_gameOf_52 (by decide) ?_
  refine s_iload_n hG dc12_gameOf_53 rfl ?_
  refine s_imul hG dc12_gameOf_54 ?_
  refine s_iconst (v := 0) hG dc12_gameOf_55 (by decide) ?_
  refine s_iadd hG dc12_gameOf_56 ?_
  refine s_iald hG dc12_gameOf_57 (fun v57 => ?_)
  refine s_iload hG dc12_gameOf_58 rfl ?_
  refine s_isub hG dc12_gameOf_60 ?_
  refine s_callSi hG kMc12_326 (corMt_max N _ _ _) rfl (by first | decide | omega) dc12_gameOf_61 rfl rfl (Nat.le_of_ble_eq_true rfl) ⟨Nat.le_of_ble_eq_true rfl, Nat.le_of_ble_eq_true rfl⟩ (fun p61 => ?_)
  refine s_iast hG dc12_gameOf_64 (fun σ64 => ?_)
  refine s_aload_n hG dc12_gameOf_65 rfl ?_
  refine s_aload_n hG dc12_gameOf_66 rfl ?_
  refine s_getR hG kFc12_58 rfl dc12_gameOf_67 (fun v67 => ?_)
  refine s_iload_n hG dc12_gameOf_70 rfl ?_
  refine s_callVv hG kMc12_349 (fun a => corc12_goYear N a _ _ _) ⟨by decide, rfl⟩ rfl (by first | decide | omega) dc12_gameOf_71 rfl rfl (Nat.le_of_ble_eq_true rfl) ⟨Nat.le_of_ble_eq_true rfl, Nat.le_of_ble_eq_true rfl⟩ (fun p71 => ?_)
  refine s_iload hG dc12_gameOf_74 rfl ?_
  refine s_if_ne hG 91 dc12_gameOf_76 (by decide) ?_ ?_
  · refine s_aload_n hG dc12_gameOf_91 rfl ?_
    refine s_getR hG kFc12_75 rfl dc12_gameOf_92 (fun v92 => ?_)
    refine s_iload_n hG dc12_gameOf_95 rfl ?_
    refine s_iald hG dc12_gameOf_96 (fun v96 => ?_)
    refine s_iload hG dc12_gameOf_97 rfl ?_
    refine s_isub hG dc12_gameOf_99 ?_
    exact s_iret hG dc12_gameOf_100 rfl (Nat.le_of_ble_eq_true rfl) (Nat.le_of_ble_eq_true rfl)
  · refine s_aload_n hG dc12_gameOf_79 rfl ?_
    refine s_getR hG kFc12_75 rfl dc12_gameOf_80 (fun v80 => ?_)
    refine s_iload_n hG dc12_gameOf_83 rfl ?_
    refine s_iald hG dc12_gameOf_84 (fun v84 => ?_)
    refine s_iload hG dc12_gameOf_85 rfl ?_
    refine s_isub hG dc12_gameOf_87 ?_
    refine s_goto hG 100 dc12_gameOf_88 (by decide) ?_
    exact s_iret hG dc12_gameOf_100 rfl (Nat.le_of_ble_eq_true rfl) (Nat.le_of_ble_eq_true rfl)
def fc12_isGame (N : Nat) (a0 : Nat) (x1 : Int32) (x2 : Int32) (x3 : Int32) (σ : Me) : Option (Int32 × Me) :=
  (dr σ (some a0) (.inl 12)).bind fun a =>
  (fc12_isField N a x1 σ).bind fun p2 =>
  if p2.1 = 0 then
    retZ (0 : Int32) p2.2
  else
    (dr p2.2 (some a0) (.inl 12)).bind fun a =>
    (fc12_isField N a x2 p2.2).bind fun p10 =>
    if p10.1 = 0 then
      retZ (0 : Int32) p10.2
    else
      if x1 = x2 then
        retZ (0 : Int32) p10.2
      else
        (fc12_isRain N x3 p10.2).bind fun p22 =>
        if p22.1 = 0 then
          retZ (0 : Int32) p22.2
        else
          retZ (1 : Int32) p22.2
set_option maxRecDepth 20000 in
set_option maxHeartbeats 2000000 in
theorem corc12_isGame {Ω : Om} (N : Nat) (a0 : Nat) (x1 : Int32) (x2 : Int32) (x3 : Int32) (σ : Me) : Cor Ω tc12_isGame 3 0 0 [vR (some a0), vI x1, vI x2, vI x3] σ ιI (fc12_isGame N a0 x1 x2 x3 σ) := by
  refine Cor.of (by decide +kernel) (Nat.le_of_ble_eq_true rfl) (fun Γ hG => ?_)
  unfold fc12_isGame
  show Sim Ω Γ 0 0 ιI 4 0 [(0, vR (some a0)), (1, vI x1), (2, vI x2), (3, vI x3)] [] σ 0 0 _
  refine s_aload_n hG dc12_isGame_0 rfl ?_
  refine s_iload_n hG dc12_isGame_1 rfl ?_
  refine s_callVi hG kMc12_353 (fun a => corc12_isField N a _ _) ⟨by decide, rfl⟩ rfl (by first | decide | omega) dc12_isGame_2 rfl rfl (Nat.le_of_ble_eq_true rfl) ⟨Nat.le_of_ble_eq_true rfl, Nat.le_of_ble_eq_true rfl⟩ (fun p2 => ?_)
  refine s_if_eq hG 32 dc12_isGame_5 (by decide) ?_ ?_
  · refine s_iconst (v := 0) hG dc12_isGame_32 (by decide) ?_
    exact s_zret hG dc12_isGame_33 rfl (Nat.le_of_ble_eq_true rfl) (Nat.le_of_ble_eq_true rfl)
  · refine s_aload_n hG dc12_isGame_8 rfl ?_
    refine s_iload_n hG dc12_isGame_9 rfl ?_
    refine s_callVi hG kMc12_353 (fun a => corc12_isField N a _ _) ⟨by decide, rfl⟩ rfl (by first | decide | omega) dc12_isGame_10 rfl rfl (Nat.le_of_ble_eq_true rfl) ⟨Nat.le_of_ble_eq_true rfl, Nat.le_of_ble_eq_true rfl⟩ (fun p10 => ?_)
    refine s_if_eq hG 32 dc12_isGame_13 (by decide) ?_ ?_
    · refine s_iconst (v := 0) hG dc12_isGame_32 (by decide) ?_
      exact s_zret hG dc12_isGame_33 rfl (Nat.le_of_ble_eq_true rfl) (Nat.le_of_ble_eq_true rfl)
    · refine s_iload_n hG dc12_isGame_16 rfl ?_
      refine s_iload_n hG dc12_isGame_17 rfl ?_
      refine s_icmp_eq hG 32 dc12_isGame_18 (by decide) ?_ ?_
      · refine s_iconst (v := 0) hG dc12_isGame_32 (by decide) ?_
        exact s_zret hG dc12_isGame_33 rfl (Nat.le_of_ble_eq_true rfl) (Nat.le_of_ble_eq_true rfl)
      · refine s_iload_n hG dc12_isGame_21 rfl ?_
        refine s_callSi hG kMc12_363 (corc12_isRain N _ _) rfl (by first | decide | omega) dc12_isGame_22 rfl rfl (Nat.le_of_ble_eq_true rfl) ⟨Nat.le_of_ble_eq_true rfl, Nat.le_of_ble_eq_true rfl⟩ (fun p22 => ?_)
        refine s_if_eq hG 32 dc12_isGame_25 (by decide) ?_ ?_
        · refine s_iconst (v := 0) hG dc12_isGame_32 (by decide) ?_
          exact s_zret hG dc12_isGame_33 rfl (Nat.le_of_ble_eq_true rfl) (Nat.le_of_ble_eq_true rfl)
        · refine s_iconst (v := 1) hG dc12_isGame_28 (by decide) ?_
          refine s_goto hG 33 dc12_isGame_29 (by decide) ?_
          exact s_zret hG dc12_isGame_33 rfl (Nat.le_of_ble_eq_true rfl) (Nat.le_of_ble_eq_true rfl)
def fc12_game_68 (N : Nat)  (σ : Me) : Option (Int32 × Me) :=
  some ((-1000000 : Int32), σ)
def fc12_game (N : Nat) (a0 : Nat) (x1 : Int32) (x2 : Int32) (x3 : Int32) (x4 : Int32) (x5 : Int32) (x6 : Int32) (σ : Me) : Option (Int32 × Me) :=
  (pI σ 12 0 (some a0) (0 : Int32)).bind fun σ2 =>
  (dr σ2 (some a0) (.inl 12)).bind fun a =>
  (fc12_isGame N a x1 x2 x3 σ2).bind fun p9 =>
  if p9.1 = 0 then
    fc12_game_68 N  p9.2
  else
    (fc12_isIn N (Int32.toInt64 x4) (0 : Int64) (5 : Int64) p9.2).bind fun p22 =>
    if p22.1 = 0 then
      fc12_game_68 N  p22.2
    else
      (fc12_isIn N (Int32.toInt64 x5) (0 : Int64) (5 : Int64) p22.2).bind fun p35 =>
      if p35.1 = 0 then
        fc12_game_68 N  p35.2
      else
        (fc12_isIn N (Int32.toInt64 x6) (0 : Int64) (1 : Int64) p35.2).bind fun p46 =>
        if p46.1 = 0 then
          fc12_game_68 N  p46.2
        else
          (dr p46.2 (some a0) (.inl 12)).bind fun a =>
          (fc12_gameOf N a x1 x2 x3 x4 x5 x6 p46.2).bind fun p62 =>
          some (p62.1, p62.2)
set_option maxRecDepth 20000 in
set_option maxHeartbeats 2000000 in
theorem pc12_game_68 {Ω : Om} {Γ : Ga} {N : Nat} (hG : Good Ω Γ tc12_game 143 0 0)  (σ : Me) : Sim Ω Γ 0 0 ιI 7 68 [] [] σ 0 0 (fc12_game_68 N  σ) := by
  unfold fc12_game_68
  refine s_ldcw hG dc12_game_68 kIc12_418 ?_
  exact s_iret hG dc12_game_71 rfl (Nat.le_of_ble_eq_true rfl) (Nat.le_of_ble_eq_true rfl)
set_option maxRecDepth 20000 in
set_option maxHeartbeats 2000000 in
theorem corc12_game {Ω : Om} (N : Nat) (a0 : Nat) (x1 : Int32) (x2 : Int32) (x3 : Int32) (x4 : Int32) (x5 : Int32) (x6 : Int32) (σ : Me) : Cor Ω tc12_game 143 0 0 [vR (some a0), vI x1, vI x2, vI x3, vI x4, vI x5, vI x6] σ ιI (fc12_game N a0 x1 x2 x3 x4 x5 x6 σ) := by
  refine Cor.of (by decide +kernel) (Nat.le_of_ble_eq_true rfl) (fun Γ hG => ?_)
  unfold fc12_game
  show Sim Ω Γ 0 0 ιI 7 0 [(0, vR (some a0)), (1, vI x1), (2, vI x2), (3, vI x3), (4, vI x4), (5, vI x5), (6, vI x6)] [] σ 0 0 _
  refine s_aload_n hG dc12_game_0 rfl ?_
  refine s_iconst (v := 0) hG dc12_game_1 (by decide) ?_
  refine s_putI (fin := false) hG kFc12_100 rfl (fun h => by cases h) rfl (fun _ => rfl) (fun _ => rfl) dc12_game_2 (fun σ2 => ?_)
  refine s_aload_n hG dc12_game_5 rfl ?_
  refine s_iload_n hG dc12_game_6 rfl ?_
  refine s_iload_n hG dc12_game_7 rfl ?_
  refine s_iload_n hG dc12_game_8 rfl ?_
  refine s_callVi hG kMc12_438 (fun a => corc12_isGame N a _ _ _ _) ⟨by decide, rfl⟩ rfl (by first | decide | omega) dc12_game_9 rfl rfl (Nat.le_of_ble_eq_true rfl) ⟨Nat.le_of_ble_eq_true rfl, Nat.le_of_ble_eq_true rfl⟩ (fun p9 => ?_)
  refine s_if_eq hG 68 dc12_game_12 (by decide) ?_ ?_
  · exact s_lv ln (pc12_game_68 hG _)
  · refine s_iload hG dc12_game_15 rfl ?_
    refine s_i2l hG dc12_game_17 ?_
    refine s_lconst (v := 0) hG dc12_game_18 (by decide) ?_
    refine s_ldc2 hG dc12_game_19 kJc12_442 ?_
    refine s_callSi hG kMc12_221 (corc12_isIn N _ _ _ _) rfl (by first | decide | omega) dc12_game_22 rfl rfl (Nat.le_of_ble_eq_true rfl) ⟨Nat.le_of_ble_eq_true rfl, Nat.le_of_ble_eq_true rfl⟩ (fun p22 => ?_)
    refine s_if_eq hG 68 dc12_game_25 (by decide) ?_ ?_
    · exact s_lv ln (pc12_game_68 hG _)
    · refine s_iload hG dc12_game_28 rfl ?_
      refine s_i2l hG dc12_game_30 ?_
      refine s_lconst (v := 0) hG dc12_game_31 (by decide) ?_
      refine s_ldc2 hG dc12_game_32 kJc12_442 ?_
      refine s_callSi hG kMc12_221 (corc12_isIn N _ _ _ _) rfl (by first | decide | omega) dc12_game_35 rfl rfl (Nat.le_of_ble_eq_true rfl) ⟨Nat.le_of_ble_eq_true rfl, Nat.le_of_ble_eq_true rfl⟩ (fun p35 => ?_)
      refine s_if_eq hG 68 dc12_game_38 (by decide) ?_ ?_
      · exact s_lv ln (pc12_game_68 hG _)
      · refine s_iload hG dc12_game_41 rfl ?_
        refine s_i2l hG dc12_game_43 ?_
        refine s_lconst (v := 0) hG dc12_game_44 (by decide) ?_
        refine s_lconst (v := 1) hG dc12_game_45 (by decide) ?_
        refine s_callSi hG kMc12_221 (corc12_isIn N _ _ _ _) rfl (by first | decide | omega) dc12_game_46 rfl rfl (Nat.le_of_ble_eq_true rfl) ⟨Nat.le_of_ble_eq_true rfl, Nat.le_of_ble_eq_true rfl⟩ (fun p46 => ?_)
        refine s_if_eq hG 68 dc12_game_49 (by decide) ?_ ?_
        · exact s_lv ln (pc12_game_68 hG _)
        · refine s_aload_n hG dc12_game_52 rfl ?_
          refine s_iload_n hG dc12_game_53 rfl ?_
          refine s_iload_n hG dc12_game_54 rfl ?_
          refine s_iload_n hG dc12_game_55 rfl ?_
          refine s_iload hG dc12_game_56 rfl ?_
          refine s_iload hG dc12_game_58 rfl ?_
          refine s_iload hG dc12_game_60 rfl ?_
          refine s_callVi hG kMc12_444 (fun a => corc12_gameOf N a _ _ _ _ _ _ _) ⟨by decide, rfl⟩ rfl (by first | decide | omega) dc12_game_62 rfl rfl (Nat.le_of_ble_eq_true rfl) ⟨Nat.le_of_ble_eq_true rfl, Nat.le_of_ble_eq_true rfl⟩ (fun p62 => ?_)
          refine s_goto hG 71 dc12_game_65 (by decide) ?_
          exact s_iret hG dc12_game_71 rfl (Nat.le_of_ble_eq_true rfl) (Nat.le_of_ble_eq_true rfl)
