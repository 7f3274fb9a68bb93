def fc10_signAt (N : Nat) (a0 : Nat) (x1 : Int32) (σ : Me) : Option (Int32 × Me) :=
  if x1 < 0 then
    some ((0 : Int32), σ)
  else
    (qI σ 10 1 (some a0)).bind fun v6 =>
    if v6 ≤ x1 then
      some ((0 : Int32), σ)
    else
      (qR σ 10 0 (some a0)).bind fun v13 =>
      (ldB σ v13 x1).bind fun v17 =>
      some ((v17 &&& (255 : Int32)), σ)
set_option maxRecDepth 20000 in
set_option maxHeartbeats 2000000 in
theorem corc10_signAt {Ω : Om} (N : Nat) (a0 : Nat) (x1 : Int32) (σ : Me) : Cor Ω tc10_signAt 1 0 0 [vR (some a0), vI x1] σ ιI (fc10_signAt N a0 x1 σ) := by
  refine Cor.of (by decide +kernel) (Nat.le_of_ble_eq_true rfl) (fun Γ hG => ?_)
  unfold fc10_signAt
  show Sim Ω Γ 0 0 ιI 2 0 [(0, vR (some a0)), (1, vI x1)] [] σ 0 0 _
  refine s_iload_n hG dc10_signAt_0 rfl ?_
  refine s_if_lt hG 25 dc10_signAt_1 (by decide) ?_ ?_
  · refine s_iconst (v := 0) hG dc10_signAt_25 (by decide) ?_
    exact s_iret hG dc10_signAt_26 rfl (Nat.le_of_ble_eq_true rfl) (Nat.le_of_ble_eq_true rfl)
  · refine s_iload_n hG dc10_signAt_4 rfl ?_
    refine s_aload_n hG dc10_signAt_5 rfl ?_
    refine s_getI hG kFc10_15 rfl dc10_signAt_6 (fun v6 => ?_)
    refine s_icmp_ge hG 25 dc10_signAt_9 (by decide) ?_ ?_
    · refine s_iconst (v := 0) hG dc10_signAt_25 (by decide) ?_
      exact s_iret hG dc10_signAt_26 rfl (Nat.le_of_ble_eq_true rfl) (Nat.le_of_ble_eq_true rfl)
    · refine s_aload_n hG dc10_signAt_12 rfl ?_
      refine s_getR hG kFc10_9 rfl dc10_signAt_13 (fun v13 => ?_)
      refine s_iload_n hG dc10_signAt_16 rfl ?_
      refine s_bald hG dc10_signAt_17 (fun v17 => ?_)
      refine s_sipush (v := 255) hG dc10_signAt_18 (by decide) ?_
      refine s_iand hG dc10_signAt_21 ?_
      refine s_goto hG 26 dc10_signAt_22 (by decide) ?_
      exact s_iret hG dc10_signAt_26 rfl (Nat.le_of_ble_eq_true rfl) (Nat.le_of_ble_eq_true rfl)
def fc10_isDigit (N : Nat) (x0 : Int32) (σ : Me) : Option (Int32 × Me) :=
  if x0 < (48 : Int32) then
    retZ (0 : Int32) σ
  else
    if (57 : Int32) < x0 then
      retZ (0 : Int32) σ
    else
      retZ (1 : Int32) σ
set_option maxRecDepth 20000 in
set_option maxHeartbeats 2000000 in
theorem corc10_isDigit {Ω : Om} (N : Nat) (x0 : Int32) (σ : Me) : Cor Ω tc10_isDigit 1 0 0 [vI x0] σ ιI (fc10_isDigit N x0 σ) := by
  refine Cor.of (by decide +kernel) (Nat.le_of_ble_eq_true rfl) (fun Γ hG => ?_)
  unfold fc10_isDigit
  show Sim Ω Γ 0 0 ιI 1 0 [(0, vI x0)] [] σ 0 0 _
  refine s_iload_n hG dc10_isDigit_0 rfl ?_
  refine s_bipush (v := 48) hG dc10_isDigit_1 (by decide) ?_
  refine s_icmp_lt hG 16 dc10_isDigit_3 (by decide) ?_ ?_
  · refine s_iconst (v := 0) hG dc10_isDigit_16 (by decide) ?_
    exact s_zret hG dc10_isDigit_17 rfl (Nat.le_of_ble_eq_true rfl) (Nat.le_of_ble_eq_true rfl)
  · refine s_iload_n hG dc10_isDigit_6 rfl ?_
    refine s_bipush (v := 57) hG dc10_isDigit_7 (by decide) ?_
    refine s_icmp_gt hG 16 dc10_isDigit_9 (by decide) ?_ ?_
    · refine s_iconst (v := 0) hG dc10_isDigit_16 (by decide) ?_
      exact s_zret hG dc10_isDigit_17 rfl (Nat.le_of_ble_eq_true rfl) (Nat.le_of_ble_eq_true rfl)
    · refine s_iconst (v := 1) hG dc10_isDigit_12 (by decide) ?_
      refine s_goto hG 17 dc10_isDigit_13 (by decide) ?_
      exact s_zret hG dc10_isDigit_17 rfl (Nat.le_of_ble_eq_true rfl) (Nat.le_of_ble_eq_true rfl)
def fc10_number_68 (N : Nat) (l0 : Option Nat) (l2 : Int32) (σ : Me) : Option (Int32 × Me) :=
  (qI σ 10 2 l0).bind fun v70 =>
  (dr σ l0 (.inl 10)).bind fun a =>
  (fc10_signAt N a v70 σ).bind fun p73 =>
  (fc10_isDigit N p73.1 p73.2).bind fun p76 =>
  if p76.1 = 0 then
    some (l2, p76.2)
  else
    some ((-1 : Int32), p76.2)
def fc10_number_16 (N : Nat) : Nat → Option Nat → Int32 → Int32 → Int32 → Me → Option (Int32 × Me)
  | 0, _, _, _, _, _ => none
  | n + 1, l0, l1, l2, l3, σ =>
    if l1 ≤ l3 then
      fc10_number_68 N l0 l2 σ
    else
      (qI σ 10 2 l0).bind fun v23 =>
      (dr σ l0 (.inl 10)).bind fun a =>
      (fc10_signAt N a v23 σ).bind fun p26 =>
      (fc10_isDigit N p26.1 p26.2).bind fun p29 =>
      if p29.1 = 0 then
        fc10_number_68 N l0 l2 p29.2
      else
        (qI p29.2 10 2 l0).bind fun v41 =>
        (dr p29.2 l0 (.inl 10)).bind fun a =>
        (fc10_signAt N a v41 p29.2).bind fun p44 =>
        (qI p44.2 10 2 l0).bind fun v54 =>
        (pI p44.2 10 2 l0 (v54 + (1 : Int32))).bind fun σ59 =>
        (fc10_number_16 N n) l0 l1 ((((10 : Int32) * l2) + p44.1) - (48 : Int32)) (l3 + (1 : Int32)) σ59
def fc10_number (N : Nat) (a0 : Nat) (x1 : Int32) (σ : Me) : Option (Int32 × Me) :=
  (dr σ (some a0) (.inl 10)).bind fun a =>
  (fc10_next N a σ).bind fun p1 =>
  (fc10_isDigit N p1.1 p1.2).bind fun p4 =>
  if p4.1 = 0 then
    some ((-1 : Int32), p4.2)
  else
    fc10_number_16 N N (some a0) x1 (0 : Int32) (0 : Int32) p4.2
set_option maxRecDepth 20000 in
set_option maxHeartbeats 2000000 in
theorem pc10_number_68 {Ω : Om} {Γ : Ga} {N : Nat} (hG : Good Ω Γ tc10_number 2 0 0) (l0 : Option Nat) (l2 : Int32) (σ : Me) : Sim Ω Γ 0 0 ιI 4 68 [(0, vR l0), (2, vI l2)] [] σ 0 0 (fc10_number_68 N l0 l2 σ) := by
  unfold fc10_number_68
  refine s_aload_n hG dc10_number_68 rfl ?_
  refine s_aload_n hG dc10_number_69 rfl ?_
  refine s_getI hG kFc10_19 rfl dc10_number_70 (fun v70 => ?_)
  refine s_callVi hG kMc10_30 (fun a => corc10_signAt N a _ _) ⟨by decide, rfl⟩ rfl (by first | decide | omega) dc10_number_73 rfl rfl (Nat.le_of_ble_eq_true rfl) ⟨Nat.le_of_ble_eq_true rfl, Nat.le_of_ble_eq_true rfl⟩ (fun p73 => ?_)
  refine s_callSi hG kMc10_26 (corc10_isDigit N _ _) rfl (by first | decide | omega) dc10_number_76 rfl rfl (Nat.le_of_ble_eq_true rfl) ⟨Nat.le_of_ble_eq_true rfl, Nat.le_of_ble_eq_true rfl⟩ (fun p76 => ?_)
  refine s_if_eq hG 86 dc10_number_79 (by decide) ?_ ?_
  · refine s_iload_n hG dc10_number_86 rfl ?_
    exact s_iret hG dc10_number_87 rfl (Nat.le_of_ble_eq_true rfl) (Nat.le_of_ble_eq_true rfl)
  · refine s_iconst (v := -1) hG dc10_number_82 (by decide) ?_
    refine s_goto hG 87 dc10_number_83 (by decide) ?_
    exact s_iret hG dc10_number_87 rfl (Nat.le_of_ble_eq_true rfl) (Nat.le_of_ble_eq_true rfl)
set_option maxRecDepth 20000 in
set_option maxHeartbeats 2000000 in
theorem pc10_number_16 {Ω : Om} {Γ : Ga} {N : Nat} (hG : Good Ω Γ tc10_number 2 0 0) : ∀ (n : Nat) (l0 : Option Nat) (l1 : Int32) (l2 : Int32) (l3 : Int32) (σ : Me), Sim Ω Γ 0 0 ιI 4 16 [(0, vR l0), (1, vI l1), (2, vI l2), (3, vI l3)] [] σ 0 0 (fc10_number_16 N n l0 l1 l2 l3 σ) := by
  intro n
  induction n with
  | zero => intros; exact s_none
  | succ n ih =>
    intro l0 l1 l2 l3 σ
    unfold fc10_number_16
    refine s_iload_n hG dc10_number_16 rfl ?_
    refine s_iload_n hG dc10_number_17 rfl ?_
    refine s_icmp_ge hG 68 dc10_number_18 (by decide) ?_ ?_
    · exact s_lv (lc rfl (lc rfl ln)) (pc10_number_68 hG _ _ _)
    · refine s_aload_n hG dc10_number_21 rfl ?_
      refine s_aload_n hG dc10_number_22 rfl ?_
      refine s_getI hG kFc10_19 rfl dc10_number_23 (fun v23 => ?_)
      refine s_callVi hG kMc10_30 (fun a => corc10_signAt N a _ _) ⟨by decide, rfl⟩ rfl (by first | decide | omega) dc10_number_26 rfl rfl (Nat.le_of_ble_eq_true rfl) ⟨Nat.le_of_ble_eq_true rfl, Nat.le_of_ble_eq_true rfl⟩ (fun p26 => ?_)
      refine s_callSi hG kMc10_26 (corc10_isDigit N _ _) rfl (by first | decide | omega) dc10_number_29 rfl rfl (Nat.le_of_ble_eq_true rfl) ⟨Nat.le_of_ble_eq_true rfl, Nat.le_of_ble_eq_true rfl⟩ (fun p29 => ?_)
      refine s_if_eq hG 68 dc10_number_32 (by decide) ?_ ?_
      · exact s_lv (lc rfl (lc rfl ln)) (pc10_number_68 hG _ _ _)
      · refine s_bipush (v := 10) hG dc10_number_35 (by decide) ?_
        refine s_iload_n hG dc10_number_37 rfl ?_
        refine s_imul hG dc10_number_38 ?_
        refine s_aload_n hG dc10_number_39 rfl ?_
        refine s_aload_n hG dc10_number_40 rfl ?_
        refine s_getI hG kFc10_19 rfl dc10_number_41 (fun v41 => ?_)
        refine s_callVi hG kMc10_30 (fun a => corc10_signAt N a _ _) ⟨by decide, rfl⟩ rfl (by first | decide | omega) dc10_number_44 rfl rfl (Nat.le_of_ble_eq_true rfl) ⟨Nat.le_of_ble_eq_true rfl, Nat.le_of_ble_eq_true rfl⟩ (fun p44 => ?_)
        refine s_iadd hG dc10_number_47 ?_
        refine s_bipush (v := 48) hG dc10_number_48 (by decide) ?_
        refine s_isub hG dc10_number_50 ?_
        refine s_istore_n hG dc10_number_51 (by decide) ?_
        refine s_aload_n hG dc10_number_52 rfl ?_
        refine s_dup hG dc10_number_53 rfl ?_
        refine s_getI hG kFc10_19 rfl dc10_number_54 (fun v54 => ?_)
        refine s_iconst (v := 1) hG dc10_number_57 (by decide) ?_
        refine s_iadd hG dc10_number_58 ?_
        refine s_putI (fin := false) hG kFc10_19 rfl (fun h => by cases h) rfl (fun _ => rfl) (fun _ => rfl) dc10_number_59 (fun σ59 => ?_)
        refine s_iinc (v := 1) hG dc10_number_62 rfl (by decide) (by decide) ?_
        refine s_goto hG 16 dc10_number_65 (by decide) ?_
        exact s_lv (lc rfl (lc rfl (lc rfl (lc rfl ln)))) (ih _ _ _ _ _)
set_option maxRecDepth 20000 in
set_option maxHeartbeats 2000000 in
theorem corc10_number {Ω : Om} (N : Nat) (a0 : Nat) (x1 : Int32) (σ : Me) : Cor Ω tc10_number 2 0 0 [vR (some a0), vI x1] σ ιI (fc10_number N a0 x1 σ) := by
  refine Cor.of (by decide +kernel) (Nat.le_of_ble_eq_true rfl) (fun Γ hG => ?_)
  unfold fc10_number
  show Sim Ω Γ 0 0 ιI 4 0 [(0, vR (some a0)), (1, vI x1)] [] σ 0 0 _
  refine s_aload_n hG dc10_number_0 rfl ?_
  refine s_callVi hG kMc10_22 (fun a => corc10_next N a _) ⟨by decide, rfl⟩ rfl (by first | decide | omega) dc10_number_1 rfl rfl (Nat.le_of_ble_eq_true rfl) ⟨Nat.le_of_ble_eq_true rfl, Nat.le_of_ble_eq_true rfl⟩ (fun p1 => ?_)
  refine s_callSi hG kMc10_26 (corc10_isDigit N _ _) rfl (by first | decide | omega) dc10_number_4 rfl rfl (Nat.le_of_ble_eq_true rfl) ⟨Nat.le_of_ble_eq_true rfl, Nat.le_of_ble_eq_true rfl⟩ (fun p4 => ?_)
  refine s_if_ne hG 12 dc10_number_7 (by decide) ?_ ?_
  · refine s_iconst (v := 0) hG dc10_number_12 (by decide) ?_
    refine s_istore_n hG dc10_number_13 (by decide) ?_
    refine s_iconst (v := 0) hG dc10_number_14 (by decide) ?_
    refine s_istore_n hG dc10_number_15 (by decide) ?_
    exact s_lv (lc rfl (lc rfl (lc rfl (lc rfl ln)))) (pc10_number_16 hG _ _ _ _ _ _)
  · refine s_iconst (v := -1) hG dc10_number_10 (by decide) ?_
    exact s_iret hG dc10_number_11 rfl (Nat.le_of_ble_eq_true rfl) (Nat.le_of_ble_eq_true rfl)
def fc6_takeField (N : Nat) (a0 : Nat) (σ : Me) : Option (Unit × Me) :=
  (qR σ 6 3 (some a0)).bind fun v1 =>
  (qR σ 2 0 v1).bind fun v4 =>
  (qR σ 6 3 (some a0)).bind fun v8 =>
  (qI σ 2 5 v8).bind fun v11 =>
  (qR σ 6 1 (some a0)).bind fun v15 =>
  (ldI σ v15 (0 : Int32)).bind fun v19 =>
  (stI σ v4 v11 v19).bind fun σ20 =>
  (qR σ20 6 3 (some a0)).bind fun v22 =>
  (qR σ20 2 1 v22).bind fun v25 =>
  (qR σ20 6 3 (some a0)).bind fun v29 =>
  (qI σ20 2 5 v29).bind fun v32 =>
  (qR σ20 6 1 (some a0)).bind fun v36 =>
  (ldI σ20 v36 (1 : Int32)).bind fun v40 =>
  (stI σ20 v25 v32 v40).bind fun σ41 =>
  (qR σ41 6 3 (some a0)).bind fun v43 =>
  (qR σ41 2 2 v43).bind fun v46 =>
  (qR σ41 6 3 (some a0)).bind fun v50 =>
  (qI σ41 2 5 v50).bind fun v53 =>
  (qR σ41 6 1 (some a0)).bind fun v57 =>
  (ldI σ41 v57 (2 : Int32)).bind fun v61 =>
  (stI σ41 v46 v53 v61).bind fun σ62 =>
  (qR σ62 6 3 (some a0)).bind fun v64 =>
  (qR σ62 2 3 v64).bind fun v67 =>
  (qR σ62 6 3 (some a0)).bind fun v71 =>
  (qI σ62 2 5 v71).bind fun v74 =>
  (qR σ62 6 1 (some a0)).bind fun v78 =>
  (ldI σ62 v78 (3 : Int32)).bind fun v82 =>
  (stI σ62 v67 v74 v82).bind fun σ83 =>
  (qR σ83 6 3 (some a0)).bind fun v85 =>
  (qR σ83 2 4 v85).bind fun v88 =>
  (qR σ83 6 3 (some a0)).bind fun v92 =>
  (qI σ83 2 5 v92).bind fun v95 =>
  (qR σ83 6 1 (some a0)).bind fun v99 =>
  (ldI σ83 v99 (4 : Int32)).bind fun v103 =>
  (stI σ83 v88 v95 v103).bind fun σ104 =>
  (qR σ104 6 3 (some a0)).bind fun v106 =>
  (qI σ104 2 5 v106).bind fun v110 =>
  (pI σ104 2 5 v106 (v110 + (1 : Int32))).bind fun σ115 =>
  some ((), σ115)
set_option maxRecDepth 20000 in
set_option maxHeartbeats 2000000 in
theorem corc6_takeField {Ω : Om} (N : Nat) (a0 : Nat) (σ : Me) : Cor Ω tc6_takeField 1 0 0 [vR (some a0)] σ ιV (fc6_takeField N a0 σ) := by
  refine Cor.of (by decide +kernel) (Nat.le_of_ble_eq_true rfl) (fun Γ hG => ?_)
  unfold fc6_takeField
  show Sim Ω Γ 0 0 ιV 1 0 [(0, vR (some a0))] [] σ 0 0 _
  refine s_aload_n hG dc6_takeField_0 rfl ?_
  refine s_getR hG kFc6_21 rfl dc6_takeField_1 (fun v1 => ?_)
  refine s_getR hG kFc6_111 rfl dc6_takeField_4 (fun v4 => ?_)
  refine s_aload_n hG dc6_takeField_7 rfl ?_
  refine s_getR hG kFc6_21 rfl dc6_takeField_8 (fun v8 => ?_)
  refine s_getI hG kFc6_39 rfl dc6_takeField_11 (fun v11 => ?_)
  refine s_aload_n hG dc6_takeField_14 rfl ?_
  refine s_getR hG kFc6_15 rfl dc6_takeField_15 (fun v15 => ?_)
  refine s_iconst (v := 0) hG dc6_takeField_18 (by decide) ?_
  refine s_iald hG dc6_takeField_19 (fun v19 => ?_)
  refine s_iast hG dc6_takeField_20 (fun σ20 => ?_)
  refine s_aload_n hG dc6_takeField_21 rfl ?_
  refine s_getR hG kFc6_21 rfl dc6_takeField_22 (fun v22 => ?_)
  refine s_getR hG kFc6_114 rfl dc6_takeField_25 (fun v25 => ?_)
  refine s_aload_n hG dc6_takeField_28 rfl ?_
  refine s_getR hG kFc6_21 rfl dc6_takeField_29 (fun v29 => ?_)
  refine s_getI hG kFc6_39 rfl dc6_takeField_32 (fun v32 => ?_)
  refine s_aload_n hG dc6_takeField_35 rfl ?_
  refine s_getR hG kFc6_15 rfl dc6_takeField_36 (fun v36 => ?_)
  refine s_iconst (v := 1) hG dc6_takeField_39 (by decide) ?_
  refine s_iald hG dc6_takeField_40 (fun v40 => ?_)
  refine s_iast hG dc6_takeField_41 (fun σ41 => ?_)
  refine s_aload_n hG dc6_takeField_42 rfl ?_
  refine s_getR hG kFc6_21 rfl dc6_takeField_43 (fun v43 => ?_)
  refine s_getR hG kFc6_117 rfl dc6_takeField_46 (fun v46 => ?_)
  refine s_aload_n hG dc6_takeField_49 rfl ?_
  refine s_getR hG kFc6_21 rfl dc6_takeField_50 (fun v50 => ?_)
  refine s_getI hG kFc6_39 rfl dc6_takeField_53 (fun v53 => ?_)
  refine s_aload_n hG dc6_takeField_56 rfl ?_
  refine s_getR hG kFc6_15 rfl dc6_takeField_57 (fun v57 => ?_)
  refine s_iconst (v := 2) hG dc6_takeField_60 (by decide) ?_
  refine s_iald hG dc6_takeField_61 (fun v61 => ?_)
  refine s_iast hG dc6_takeField_62 (fun σ62 => ?_)
  refine s_aload_n hG dc6_takeField_63 rfl ?_
  refine s_getR hG kFc6_21 rfl dc6_takeField_64 (fun v64 => ?_)
  refine s_getR hG kFc6_120 rfl dc6_takeField_67 (fun v67 => ?_)
  refine s_aload_n hG dc6_takeField_70 rfl ?_
  refine s_getR hG kFc6_21 rfl dc6_takeField_71 (fun v71 => ?_)
  refine s_getI hG kFc6_39 rfl dc6_takeField_74 (fun v74 => ?_)
  refine s_aload_n hG dc6_takeField_77 rfl ?_
  refine s_getR hG kFc6_15 rfl dc6_takeField_78 (fun v78 => ?_)
  refine s_iconst (v := 3) hG dc6_takeField_81 (by decide) ?_
  refine s_iald hG dc6_takeField_82 (fun v82 => ?_)
  refine s_iast hG dc6_takeField_83 (fun σ83 => ?_)
  refine s_aload_n hG dc6_takeField_84 rfl ?_
  refine s_getR hG kFc6_21 rfl dc6_takeField_85 (fun v85 => ?_)
  refine s_getR hG kFc6_123 rfl dc6_takeField_88 (fun v88 => ?_)
  refine s_aload_n hG dc6_takeField_91 rfl ?_
  refine s_getR hG kFc6_21 rfl dc6_takeField_92 (fun v92 => ?_)
  refine s_getI hG kFc6_39 rfl dc6_takeField_95 (fun v95 => ?_)
  refine s_aload_n hG dc6_takeField_98 rfl ?_
  refine s_getR hG kFc6_15 rfl dc6_takeField_99 (fun v99 => ?_)
  refine s_iconst (v := 4) hG dc6_takeField_102 (by decide) ?_
  refine s_iald hG dc6_takeField_103 (fun v103 => ?_)
  refine s_iast hG dc6_takeField_104 (fun σ104 => ?_)
  refine s_aload_n hG dc6_takeField_105 rfl ?_
  refine s_getR hG kFc6_21 rfl dc6_takeField_106 (fun v106 => ?_)
  refine s_dup hG dc6_takeField_109 rfl ?_
  refine s_getI hG kFc6_39 rfl dc6_takeField_110 (fun v110 => ?_)
  refine s_iconst (v := 1) hG dc6_takeField_113 (by decide) ?_
  refine s_iadd hG dc6_takeField_114 ?_
  refine s_putI (fin := false) hG kFc6_39 rfl (fun h => by cases h) rfl (fun _ => rfl) (fun _ => rfl) dc6_takeField_115 (fun σ115 => ?_)
  exact s_vret hG dc6_takeField_118 rfl (Nat.le_of_ble_eq_true rfl) (Nat.le_of_ble_eq_true rfl)
def fc4_goesDeeper (N : Nat) (a0 : Nat) (x1 : Int32) (σ : Me) : Option (Int32 × Me) :=
  if x1 < (6 : Int32) then
    (qR σ 4 0 (some a0)).bind fun v9 =>
    (qI σ 10 2 v9).bind fun v13 =>
    (pI σ 10 2 v9 (v13 + (1 : Int32))).bind fun σ18 =>
    retZ (1 : Int32) σ18
  else
    retZ (0 : Int32) σ
set_option maxRecDepth 20000 in
set_option maxHeartbeats 2000000 in
theorem corc4_goesDeeper {Ω : Om} (N : Nat) (a0 : Nat) (x1 : Int32) (σ : Me) : Cor Ω tc4_goesDeeper 1 0 0 [vR (some a0), vI x1] σ ιI (fc4_goesDeeper N a0 x1 σ) := by
  refine Cor.of (by decide +kernel) (Nat.le_of_ble_eq_true rfl) (fun Γ hG => ?_)
  unfold fc4_goesDeeper
  show Sim Ω Γ 0 0 ιI 2 0 [(0, vR (some a0)), (1, vI x1)] [] σ 0 0 _
  refine s_iload_n hG dc4_goesDeeper_0 rfl ?_
  refine s_bipush (v := 6) hG dc4_goesDeeper_1 (by decide) ?_
  refine s_icmp_lt hG 8 dc4_goesDeeper_3 (by decide) ?_ ?_
  · refine s_aload_n hG dc4_goesDeeper_8 rfl ?_
    refine s_getR hG kFc4_15 rfl dc4_goesDeeper_9 (fun v9 => ?_)
    refine s_dup hG dc4_goesDeeper_12 rfl ?_
    refine s_getI hG kFc4_34 rfl dc4_goesDeeper_13 (fun v13 => ?_)
    refine s_iconst (v := 1) hG dc4_goesDeeper_16 (by decide) ?_
    refine s_iadd hG dc4_goesDeeper_17 ?_
    refine s_putI (fin := false) hG kFc4_34 rfl (fun h => by cases h) rfl (fun _ => rfl) (fun _ => rfl) dc4_goesDeeper_18 (fun σ18 => ?_)
    refine s_iconst (v := 1) hG dc4_goesDeeper_21 (by decide) ?_
    exact s_zret hG dc4_goesDeeper_22 rfl (Nat.le_of_ble_eq_true rfl) (Nat.le_of_ble_eq_true rfl)
  · refine s_iconst (v := 0) hG dc4_goesDeeper_6 (by decide) ?_
    exact s_zret hG dc4_goesDeeper_7 rfl (Nat.le_of_ble_eq_true rfl) (Nat.le_of_ble_eq_true rfl)
def fc4_write (N : Nat) (a0 : Nat) (x1 : Int32) (σ : Me) : Option (Int32 × Me) :=
  (qI σ 4 2 (some a0)).bind fun v1 =>
  (qR σ 4 1 (some a0)).bind fun v5 =>
  (aLn σ .int v5).bind fun v8 =>
  if v1 < v8 then
    (qR σ 4 1 (some a0)).bind fun v15 =>
    (qI σ 4 2 (some a0)).bind fun v20 =>
    (pI σ 4 2 (some a0) (v20 + (1 : Int32))).bind fun σ26 =>
    (stI σ26 v15 v20 x1).bind fun σ30 =>
    retZ (1 : Int32) σ30
  else
    retZ (0 : Int32) σ
set_option maxRecDepth 20000 in
set_option maxHeartbeats 2000000 in
theorem corc4_write {Ω : Om} (N : Nat) (a0 : Nat) (x1 : Int32) (σ : Me) : Cor Ω tc4_write 1 0 0 [vR (some a0), vI x1] σ ιI (fc4_write N a0 x1 σ) := by
  refine Cor.of (by decide +kernel) (Nat.le_of_ble_eq_true rfl) (fun Γ hG => ?_)
  unfold fc4_write
  show Sim Ω Γ 0 0 ιI 2 0 [(0, vR (some a0)), (1, vI x1)] [] σ 0 0 _
  refine s_aload_n hG dc4_write_0 rfl ?_
  refine s_getI hG kFc4_21 rfl dc4_write_1 (fun v1 => ?_)
  refine s_aload_n hG dc4_write_4 rfl ?_
  refine s_getR hG kFc4_9 rfl dc4_write_5 (fun v5 => ?_)
  refine s_alen hG 0 rfl dc4_write_8 (fun v8 => ?_)
  refine s_icmp_lt hG 14 dc4_write_9 (by decide) ?_ ?_
  · refine s_aload_n hG dc4_write_14 rfl ?_
    refine s_getR hG kFc4_9 rfl dc4_write_15 (fun v15 => ?_)
    refine s_aload_n hG dc4_write_18 rfl ?_
    refine s_dup hG dc4_write_19 rfl ?_
    refine s_getI hG kFc4_21 rfl dc4_write_20 (fun v20 => ?_)
    refine s_dup_x1 hG dc4_write_23 rfl rfl ?_
    refine s_iconst (v := 1) hG dc4_write_24 (by decide) ?_
    refine s_iadd hG dc4_write_25 ?_
    refine s_putI (fin := false) hG kFc4_21 rfl (fun h => by cases h) rfl (fun _ => rfl) (fun _ => rfl) dc4_write_26 (fun σ26 => ?_)
    refine s_iload_n hG dc4_write_29 rfl ?_
    refine s_iast hG dc4_write_30 (fun σ30 => ?_)
    refine s_iconst (v := 1) hG dc4_write_31 (by decide) ?_
    exact s_zret hG dc4_write_32 rfl (Nat.le_of_ble_eq_true rfl) (Nat.le_of_ble_eq_true rfl)
  · refine s_iconst (v := 0) hG dc4_write_12 (by decide) ?_
    exact s_zret hG dc4_write_13 rfl (Nat.le_of_ble_eq_true rfl) (Nat.le_of_ble_eq_true rfl)
def fc4_isComparing_18 (N : Nat)  (σ : Me) : Option (Int32 × Me) :=
  retZ (1 : Int32) σ
def fc4_isComparing (N : Nat) (x0 : Int32) (σ : Me) : Option (Int32 × Me) :=
  if x0 = (61 : Int32) then
    fc4_isComparing_18 N  σ
  else
    if x0 = (60 : Int32) then
      fc4_isComparing_18 N  σ
    else
      if x0 = (62 : Int32) then
        fc4_isComparing_18 N  σ
      else
        retZ (0 : Int32) σ
set_option maxRecDepth 20000 in
set_option maxHeartbeats 2000000 in
theorem pc4_isComparing_18 {Ω : Om} {Γ : Ga} {N : Nat} (hG : Good Ω Γ tc4_isComparing 1 0 0)  (σ : Me) : Sim Ω Γ 0 0 ιI 1 18 [] [] σ 0 0 (fc4_isComparing_18 N  σ) := by
  unfold fc4_isComparing_18
  refine s_iconst (v := 1) hG dc4_isComparing_18 (by decide) ?_
  refine s_goto hG 23 dc4_isComparing_19 (by decide) ?_
  exact s_zret hG dc4_isComparing_23 rfl (Nat.le_of_ble_eq_true rfl) (Nat.le_of_ble_eq_true rfl)
set_option maxRecDepth 20000 in
set_option maxHeartbeats 2000000 in
theorem corc4_isComparing {Ω : Om} (N : Nat) (x0 : Int32) (σ : Me) : Cor Ω tc4_isComparing 1 0 0 [vI x0] σ ιI (fc4_isComparing N x0 σ) := by
  refine Cor.of (by decide +kernel) (Nat.le_of_ble_eq_true rfl) (fun Γ hG => ?_)
  unfold fc4_isComparing
  show Sim Ω Γ 0 0 ιI 1 0 [(0, vI x0)] [] σ 0 0 _
  refine s_iload_n hG dc4_isComparing_0 rfl ?_
  refine s_bipush (v := 61) hG dc4_isComparing_1 (by decide) ?_
  refine s_icmp_eq hG 18 dc4_isComparing_3 (by decide) ?_ ?_
  · exact s_lv ln (pc4_isComparing_18 hG _)
  · refine s_iload_n hG dc4_isComparing_6 rfl ?_
    refine s_bipush (v := 60) hG dc4_isComparing_7 (by decide) ?_
    refine s_icmp_eq hG 18 dc4_isComparing_9 (by decide) ?_ ?_
    · exact s_lv ln (pc4_isComparing_18 hG _)
    · refine s_iload_n hG dc4_isComparing_12 rfl ?_
      refine s_bipush (v := 62) hG dc4_isComparing_13 (by decide) ?_
      refine s_icmp_ne hG 22 dc4_isComparing_15 (by decide) ?_ ?_
      · refine s_iconst (v := 0) hG dc4_isComparing_22 (by decide) ?_
        exact s_zret hG dc4_isComparing_23 rfl (Nat.le_of_ble_eq_true rfl) (Nat.le_of_ble_eq_true rfl)
      · exact s_lv ln (pc4_isComparing_18 hG _)
def fc4_isConditional_8 (N : Nat) : Nat → Option Nat → Int32 → Me → Option (Int32 × Me)
  | 0, _, _, _ => none
  | n + 1, l0, l1, σ =>
    (qR σ 4 0 l0).bind fun v10 =>
    (qI σ 10 1 v10).bind fun v13 =>
    if v13 ≤ l1 then
      retZ (0 : Int32) σ
    else
      (qR σ 4 0 l0).bind fun v20 =>
      (dr σ v20 (.inl 10)).bind fun a =>
      (fc10_signAt N a l1 σ).bind fun p24 =>
      if p24.1 = (59 : Int32) then
        retZ (0 : Int32) p24.2
      else
        if p24.1 = (33 : Int32) then
          retZ (1 : Int32) p24.2
        else
          if p24.1 = (40 : Int32) then
            retZ (1 : Int32) p24.2
          else
            (fc4_isComparing N p24.1 p24.2).bind fun p49 =>
            if p49.1 = 0 then
              (fc4_isConditional_8 N n) l0 (l1 + (1 : Int32)) p49.2
            else
              retZ (1 : Int32) p49.2
def fc4_isConditional (N : Nat) (a0 : Nat) (σ : Me) : Option (Int32 × Me) :=
  (qR σ 4 0 (some a0)).bind fun v1 =>
  (qI σ 10 2 v1).bind fun v4 =>
  fc4_isConditional_8 N N (some a0) v4 σ
set_option maxRecDepth 20000 in
set_option maxHeartbeats 2000000 in
theorem pc4_isConditional_8 {Ω : Om} {Γ : Ga} {N : Nat} (hG : Good Ω Γ tc4_isConditional 2 0 0) : ∀ (n : Nat) (l0 : Option Nat) (l1 : Int32) (σ : Me), Sim Ω Γ 0 0 ιI 3 8 [(0, vR l0), (1, vI l1)] [] σ 0 0 (fc4_isConditional_8 N n l0 l1 σ) := by
  intro n
  induction n with
  | zero => intros; exact s_none
  | succ n ih =>
    intro l0 l1 σ
    unfold fc4_isConditional_8
    refine s_iload_n hG dc4_isConditional_8 rfl ?_
    refine s_aload_n hG dc4_isConditional_9 rfl ?_
    refine s_getR hG kFc4_15 rfl dc4_isConditional_10 (fun v10 => ?_)
    refine s_getI hG kFc4_63 rfl dc4_isConditional_13 (fun v13 => ?_)
    refine s_icmp_ge hG 63 dc4_isConditional_16 (by decide) ?_ ?_
    · refine s_iconst (v := 0) hG dc4_isConditional_63 (by decide) ?_
      exact s_zret hG dc4_isConditional_64 rfl (Nat.le_of_ble_eq_true rfl) (Nat.le_of_ble_eq_true rfl)
    · refine s_aload_n hG dc4_isConditional_19 rfl ?_
      refine s_getR hG kFc4_15 rfl dc4_isConditional_20 (fun v20 => ?_)
      refine s_iload_n hG dc4_isConditional_23 rfl ?_
      refine s_callVi hG kMc4_66 (fun a => corc10_signAt N a _ _) ⟨by decide, rfl⟩ rfl (by first | decide | omega) dc4_isConditional_24 rfl rfl (Nat.le_of_ble_eq_true rfl) ⟨Nat.le_of_ble_eq_true rfl, Nat.le_of_ble_eq_true rfl⟩ (fun p24 => ?_)
      refine s_istore_n hG dc4_isConditional_27 (by decide) ?_
      refine s_iload_n hG dc4_isConditional_28 rfl ?_
      refine s_bipush (v := 59) hG dc4_isConditional_29 (by decide) ?_
      refine s_icmp_ne hG 36 dc4_isConditional_31 (by decide) ?_ ?_
      · refine s_iload_n hG dc4_isConditional_36 rfl ?_
        refine s_bipush (v := 33) hG dc4_isConditional_37 (by decide) ?_
        refine s_icmp_eq hG 55 dc4_isConditional_39 (by decide) ?_ ?_
        · refine s_iconst (v := 1) hG dc4_isConditional_55 (by decide) ?_
          exact s_zret hG dc4_isConditional_56 rfl (Nat.le_of_ble_eq_true rfl) (Nat.le_of_ble_eq_true rfl)
        · refine s_iload_n hG dc4_isConditional_42 rfl ?_
          refine s_bipush (v := 40) hG dc4_isConditional_43 (by decide) ?_
          refine s_icmp_eq hG 55 dc4_isConditional_45 (by decide) ?_ ?_
          · refine s_iconst (v := 1) hG dc4_isConditional_55 (by decide) ?_
            exact s_zret hG dc4_isConditional_56 rfl (Nat.le_of_ble_eq_true rfl) (Nat.le_of_ble_eq_true rfl)
          · refine s_iload_n hG dc4_isConditional_48 rfl ?_
            refine s_callSi hG kMc4_70 (corc4_isComparing N _ _) rfl (by first | decide | omega) dc4_isConditional_49 rfl rfl (Nat.le_of_ble_eq_true rfl) ⟨Nat.le_of_ble_eq_true rfl, Nat.le_of_ble_eq_true rfl⟩ (fun p49 => ?_)
            refine s_if_eq hG 57 dc4_isConditional_52 (by decide) ?_ ?_
            · refine s_iinc (v := 1) hG dc4_isConditional_57 rfl (by decide) (by decide) ?_
              refine s_goto hG 8 dc4_isConditional_60 (by decide) ?_
              exact s_lv (lc rfl (lc rfl ln)) (ih _ _ _)
            · refine s_iconst (v := 1) hG dc4_isConditional_55 (by decide) ?_
              exact s_zret hG dc4_isConditional_56 rfl (Nat.le_of_ble_eq_true rfl) (Nat.le_of_ble_eq_true rfl)
      · refine s_iconst (v := 0) hG dc4_isConditional_34 (by decide) ?_
        exact s_zret hG dc4_isConditional_35 rfl (Nat.le_of_ble_eq_true rfl) (Nat.le_of_ble_eq_true rfl)
set_option maxRecDepth 20000 in
set_option maxHeartbeats 2000000 in
theorem corc4_isConditional {Ω : Om} (N : Nat) (a0 : Nat) (σ : Me) : Cor Ω tc4_isConditional 2 0 0 [vR (some a0)] σ ιI (fc4_isConditional N a0 σ) := by
  refine Cor.of (by decide +kernel) (Nat.le_of_ble_eq_true rfl) (fun Γ hG => ?_)
  unfold fc4_isConditional
  show Sim Ω Γ 0 0 ιI 3 0 [(0, vR (some a0))] [] σ 0 0 _
  refine s_aload_n hG dc4_isConditional_0 rfl ?_
  refine s_getR hG kFc4_15 rfl dc4_isConditional_1 (fun v1 => ?_)
  refine s_getI hG kFc4_34 rfl dc4_isConditional_4 (fun v4 => ?_)
  refine s_istore_n hG dc4_isConditional_7 (by decide) ?_
  exact s_lv (lc rfl (lc rfl ln)) (pc4_isConditional_8 hG _ _ _ _)
def fc8_readDigit (N : Nat) (a0 : Nat) (σ : Me) : Option (Int32 × Me) :=
  (qR σ 8 0 (some a0)).bind fun v1 =>
  (dr σ v1 (.inl 10)).bind fun a =>
  (fc10_next N a σ).bind fun p4 =>
  (fc10_isDigit N p4.1 p4.2).bind fun p9 =>
  if p9.1 = 0 then
    some ((-1 : Int32), p9.2)
  else
    (qR p9.2 8 0 (some a0)).bind fun v18 =>
    (qI p9.2 10 2 v18).bind fun v22 =>
    (pI p9.2 10 2 v18 (v22 + (1 : Int32))).bind fun σ27 =>
    some ((p4.1 - (48 : Int32)), σ27)
set_option maxRecDepth 20000 in
set_option maxHeartbeats 2000000 in
theorem corc8_readDigit {Ω : Om} (N : Nat) (a0 : Nat) (σ : Me) : Cor Ω tc8_readDigit 2 0 0 [vR (some a0)] σ ιI (fc8_readDigit N a0 σ) := by
  refine Cor.of (by decide +kernel) (Nat.le_of_ble_eq_true rfl) (fun Γ hG => ?_)
  unfold fc8_readDigit
  show Sim Ω Γ 0 0 ιI 2 0 [(0, vR (some a0))] [] σ 0 0 _
  refine s_aload_n hG dc8_readDigit_0 rfl ?_
  refine s_getR hG kFc8_23 rfl dc8_readDigit_1 (fun v1 => ?_)
  refine s_callVi hG kMc8_46 (fun a => corc10_next N a _) ⟨by decide, rfl⟩ rfl (by first | decide | omega) dc8_readDigit_4 rfl rfl (Nat.le_of_ble_eq_true rfl) ⟨Nat.le_of_ble_eq_true rfl, Nat.le_of_ble_eq_true rfl⟩ (fun p4 => ?_)
  refine s_istore_n hG dc8_readDigit_7 (by decide) ?_
  refine s_iload_n hG dc8_readDigit_8 rfl ?_
  refine s_callSi hG kMc8_61 (corc10_isDigit N _ _) rfl (by first | decide | omega) dc8_readDigit_9 rfl rfl (Nat.le_of_ble_eq_true rfl) ⟨Nat.le_of_ble_eq_true rfl, Nat.le_of_ble_eq_true rfl⟩ (fun p9 => ?_)
  refine s_if_ne hG 17 dc8_readDigit_12 (by decide) ?_ ?_
  · refine s_aload_n hG dc8_readDigit_17 rfl ?_
    refine s_getR hG kFc8_23 rfl dc8_readDigit_18 (fun v18 => ?_)
    refine s_dup hG dc8_readDigit_21 rfl ?_
    refine s_getI hG kFc8_34 rfl dc8_readDigit_22 (fun v22 => ?_)
    refine s_iconst (v := 1) hG dc8_readDigit_25 (by decide) ?_
    refine s_iadd hG dc8_readDigit_26 ?_
    refine s_putI (fin := false) hG kFc8_34 rfl (fun h => by cases h) rfl (fun _ => rfl) (fun _ => rfl) dc8_readDigit_27 (fun σ27 => ?_)
    refine s_iload_n hG dc8_readDigit_30 rfl ?_
    refine s_bipush (v := 48) hG dc8_readDigit_31 (by decide) ?_
    refine s_isub hG dc8_readDigit_33 ?_
    exact s_iret hG dc8_readDigit_34 rfl (Nat.le_of_ble_eq_true rfl) (Nat.le_of_ble_eq_true rfl)
  · refine s_iconst (v := -1) hG dc8_readDigit_15 (by decide) ?_
    exact s_iret hG dc8_readDigit_16 rfl (Nat.le_of_ble_eq_true rfl) (Nat.le_of_ble_eq_true rfl)
def fMt_max (N : Nat) (x0 : Int32) (x1 : Int32) (σ : Me) : Option (Int32 × Me) :=
  if x0 < x1 then
    some (x1, σ)
  else
    some (x0, σ)
set_option maxRecDepth 20000 in
set_option maxHeartbeats 2000000 in
theorem corMt_max {Ω : Om} (N : Nat) (x0 : Int32) (x1 : Int32) (σ : Me) : Cor Ω tMt_max 1 0 0 [vI x0, vI x1] σ ιI (fMt_max N x0 x1 σ) := by
  refine Cor.of (by decide +kernel) (Nat.le_of_ble_eq_true rfl) (fun Γ hG => ?_)
  unfold fMt_max
  show Sim Ω Γ 0 0 ιI 2 0 [(0, vI x0), (1, vI x1)] [] σ 0 0 _
  refine s_iload_n hG dMt_max_0 rfl ?_
  refine s_iload_n hG dMt_max_1 rfl ?_
  refine s_icmp_lt hG 9 dMt_max_2 (by decide) ?_ ?_
  · refine s_iload_n hG dMt_max_9 rfl ?_
    exact s_iret hG dMt_max_10 rfl (Nat.le_of_ble_eq_true rfl) (Nat.le_of_ble_eq_true rfl)
  · refine s_iload_n hG dMt_max_5 rfl ?_
    refine s_goto hG 10 dMt_max_6 (by decide) ?_
    exact s_iret hG dMt_max_10 rfl (Nat.le_of_ble_eq_true rfl) (Nat.le_of_ble_eq_true rfl)
def fc3_init (N : Nat) (a0 : Nat) (x1 : Option Nat) (σ : Me) : Option (Unit × Me) :=
  (newA σ .int (32 : Int32) 32).bind fun p7 =>
  (pR p7.2 3 1 (some a0) (some p7.1)).bind fun σ9 =>
  (pR σ9 3 0 (some a0) x1).bind fun σ14 =>
  some ((), σ14)
set_option maxRecDepth 20000 in
set_option maxHeartbeats 2000000 in
theorem corc3_init {Ω : Om} (N : Nat) (a0 : Nat) (x1 : Option Nat) (σ : Me) : Cor Ω tc3_init 1 1 32 [vR (some a0), vR x1] σ ιV (fc3_init N a0 x1 σ) := by
  refine Cor.of (by decide +kernel) (Nat.le_of_ble_eq_true rfl) (fun Γ hG => ?_)
  unfold fc3_init
  show Sim Ω Γ 1 32 ιV 2 0 [(0, vR (some a0)), (1, vR x1)] [] σ 0 0 _
  refine s_aload_n hG dc3_init_0 rfl ?_
  refine s_objInit hG kOc3_3 kOi kOc rfl (by decide) dc3_init_1 (Nat.le_of_ble_eq_true rfl) ?_
  refine s_aload_n hG dc3_init_4 rfl ?_
  refine s_bipush (v := 32) hG dc3_init_5 (by decide) ?_
  refine s_newarr hG 0 rfl rfl (by simp) kA_int (by decide) dc3_init_7 ⟨Nat.le_of_ble_eq_true rfl, Nat.le_of_ble_eq_true rfl⟩ (fun p7 => ?_)
  refine s_putR (fin := true) hG kFc3_11 rfl (fun _ => ⟨rfl, rfl⟩) rfl (fun v => by cases v <;> rfl) (fun v => by cases v <;> rfl) dc3_init_9 (fun σ9 => ?_)
  refine s_aload_n hG dc3_init_12 rfl ?_
  refine s_aload_n hG dc3_init_13 rfl ?_
  refine s_putR (fin := true) hG kFc3_15 rfl (fun _ => ⟨rfl, rfl⟩) rfl (fun v => by cases v <;> rfl) (fun v => by cases v <;> rfl) dc3_init_14 (fun σ14 => ?_)
  exact s_vret hG dc3_init_17 rfl (Nat.le_of_ble_eq_true rfl) (Nat.le_of_ble_eq_true rfl)
def fc2_copyFrom (N : Nat) (a0 : Nat) (x1 : Option Nat) (σ : Me) : Option (Unit × Me) :=
  (qR σ 2 0 x1).bind fun v1 =>
  (qR σ 2 0 (some a0)).bind fun v6 =>
  (cpI σ v1 (0 : Int32) v6 (0 : Int32) (6 : Int32)).bind fun σ12 =>
  (qR σ12 2 1 x1).bind fun v16 =>
  (qR σ12 2 1 (some a0)).bind fun v21 =>
  (cpI σ12 v16 (0 : Int32) v21 (0 : Int32) (6 : Int32)).bind fun σ27 =>
  (qR σ27 2 2 x1).bind fun v31 =>
  (qR σ27 2 2 (some a0)).bind fun v36 =>
  (cpI σ27 v31 (0 : Int32) v36 (0 : Int32) (6 : Int32)).bind fun σ42 =>
  (qR σ42 2 3 x1).bind fun v46 =>
  (qR σ42 2 3 (some a0)).bind fun v51 =>
  (cpI σ42 v46 (0 : Int32) v51 (0 : Int32) (6 : Int32)).bind fun σ57 =>
  (qR σ57 2 4 x1).bind fun v61 =>
  (qR σ57 2 4 (some a0)).bind fun v66 =>
  (cpI σ57 v61 (0 : Int32) v66 (0 : Int32) (6 : Int32)).bind fun σ72 =>
  (qI σ72 2 5 x1).bind fun v77 =>
  (pI σ72 2 5 (some a0) v77).bind fun σ80 =>
  (qI σ80 2 6 x1).bind fun v85 =>
  (pI σ80 2 6 (some a0) v85).bind fun σ88 =>
  (qI σ88 2 7 x1).bind fun v93 =>
  (pI σ88 2 7 (some a0) v93).bind fun σ96 =>
  (qI σ96 2 8 x1).bind fun v101 =>
  (pI σ96 2 8 (some a0) v101).bind fun σ104 =>
  (qI σ104 2 9 x1).bind fun v109 =>
  (pI σ104 2 9 (some a0) v109).bind fun σ112 =>
  some ((), σ112)
set_option maxRecDepth 20000 in
set_option maxHeartbeats 2000000 in
theorem corc2_copyFrom {Ω : Om} (N : Nat) (a0 : Nat) (x1 : Option Nat) (σ : Me) : Cor Ω tc2_copyFrom 1 0 0 [vR (some a0), vR x1] σ ιV (fc2_copyFrom N a0 x1 σ) := by
  refine Cor.of (by decide +kernel) (Nat.le_of_ble_eq_true rfl) (fun Γ hG => ?_)
  unfold fc2_copyFrom
  show Sim Ω Γ 0 0 ιV 2 0 [(0, vR (some a0)), (1, vR x1)] [] σ 0 0 _
  refine s_aload_n hG dc2_copyFrom_0 rfl ?_
  refine s_getR hG kFc2_9 rfl dc2_copyFrom_1 (fun v1 => ?_)
  refine s_iconst (v := 0) hG dc2_copyFrom_4 (by decide) ?_
  refine s_aload_n hG dc2_copyFrom_5 rfl ?_
  refine s_getR hG kFc2_9 rfl dc2_copyFrom_6 (fun v6 => ?_)
  refine s_iconst (v := 0) hG dc2_copyFrom_9 (by decide) ?_
  refine s_bipush (v := 6) hG dc2_copyFrom_10 (by decide) ?_
  refine s_copy hG kYc2_27 rfl (by decide) dc2_copyFrom_12 (Nat.le_of_ble_eq_true rfl) (fun σ12 => ?_)
  refine s_aload_n hG dc2_copyFrom_15 rfl ?_
  refine s_getR hG kFc2_15 rfl dc2_copyFrom_16 (fun v16 => ?_)
  refine s_iconst (v := 0) hG dc2_copyFrom_19 (by decide) ?_
  refine s_aload_n hG dc2_copyFrom_20 rfl ?_
  refine s_getR hG kFc2_15 rfl dc2_copyFrom_21 (fun v21 => ?_)
  refine s_iconst (v := 0) hG dc2_copyFrom_24 (by decide) ?_
  refine s_bipush (v := 6) hG dc2_copyFrom_25 (by decide) ?_
  refine s_copy hG kYc2_27 rfl (by decide) dc2_copyFrom_27 (Nat.le_of_ble_eq_true rfl) (fun σ27 => ?_)
  refine s_aload_n hG dc2_copyFrom_30 rfl ?_
  refine s_getR hG kFc2_18 rfl dc2_copyFrom_31 (fun v31 => ?_)
  refine s_iconst (v := 0) hG dc2_copyFrom_34 (by decide) ?_
  refine s_aload_n hG dc2_copyFrom_35 rfl ?_
  refine s_getR hG kFc2_18 rfl dc2_copyFrom_36 (fun v36 => ?_)
  refine s_iconst (v := 0) hG dc2_copyFrom_39 (by decide) ?_
  refine s_bipush (v := 6) hG dc2_copyFrom_40 (by decide) ?_
  refine s_copy hG kYc2_27 rfl (by decide) dc2_copyFrom_42 (Nat.le_of_ble_eq_true rfl) (fun σ42 => ?_)
  refine s_aload_n hG dc2_copyFrom_45 rfl ?_
  refine s_getR hG kFc2_21 rfl dc2_copyFrom_46 (fun v46 => ?_)
  refine s_iconst (v := 0) hG dc2_copyFrom_49 (by decide) ?_
  refine s_aload_n hG dc2_copyFrom_50 rfl ?_
  refine s_getR hG kFc2_21 rfl dc2_copyFrom_51 (fun v51 => ?_)
  refine s_iconst (v := 0) hG dc2_copyFrom_54 (by decide) ?_
  refine s_bipush (v := 6) hG dc2_copyFrom_55 (by decide) ?_
  refine s_copy hG kYc2_27 rfl (by decide) dc2_copyFrom_57 (Nat.le_of_ble_eq_true rfl) (fun σ57 => ?_)
  refine s_aload_n hG dc2_copyFrom_60 rfl ?_
  refine s_getR hG kFc2_24 rfl dc2_copyFrom_61 (fun v61 => ?_)
  refine s_iconst (v := 0) hG dc2_copyFrom_64 (by decide) ?_
  refine s_aload_n hG dc2_copyFrom_65 rfl ?_
  refine s_getR hG kFc2_24 rfl dc2_copyFrom_66 (fun v66 => ?_)
  refine s_iconst (v := 0) hG dc2_copyFrom_69 (by decide) ?_
  refine s_bipush (v := 6) hG dc2_copyFrom_70 (by decide) ?_
  refine s_copy hG kYc2_27 rfl (by decide) dc2_copyFrom_72 (Nat.le_of_ble_eq_true rfl) (fun σ72 => ?_)
  refine s_aload_n hG dc2_copyFrom_75 rfl ?_
  refine s_aload_n hG dc2_copyFrom_76 rfl ?_
  refine s_getI hG kFc2_33 rfl dc2_copyFrom_77 (fun v77 => ?_)
  refine s_putI (fin := false) hG kFc2_33 rfl (fun h => by cases h) rfl (fun _ => rfl) (fun _ => rfl) dc2_copyFrom_80 (fun σ80 => ?_)
  refine s_aload_n hG dc2_copyFrom_83 rfl ?_
  refine s_aload_n hG dc2_copyFrom_84 rfl ?_
  refine s_getI hG kFc2_37 rfl dc2_copyFrom_85 (fun v85 => ?_)
  refine s_putI (fin := false) hG kFc2_37 rfl (fun h => by cases h) rfl (fun _ => rfl) (fun _ => rfl) dc2_copyFrom_88 (fun σ88 => ?_)
  refine s_aload_n hG dc2_copyFrom_91 rfl ?_
  refine s_aload_n hG dc2_copyFrom_92 rfl ?_
  refine s_getI hG kFc2_40 rfl dc2_copyFrom_93 (fun v93 => ?_)
  refine s_putI (fin := false) hG kFc2_40 rfl (fun h => by cases h) rfl (fun _ => rfl) (fun _ => rfl) dc2_copyFrom_96 (fun σ96 => ?_)
  refine s_aload_n hG dc2_copyFrom_99 rfl ?_
  refine s_aload_n hG dc2_copyFrom_100 rfl ?_
  refine s_getI hG kFc2_43 rfl dc2_copyFrom_101 (fun v101 => ?_)
  refine s_putI (fin := false) hG kFc2_43 rfl (fun h => by cases h) rfl (fun _ => rfl) (fun _ => rfl) dc2_copyFrom_104 (fun σ104 => ?_)
  refine s_aload_n hG dc2_copyFrom_107 rfl ?_
  refine s_aload_n hG dc2_copyFrom_108 rfl ?_
  refine s_getI hG kFc2_46 rfl dc2_copyFrom_109 (fun v109 => ?_)
  refine s_putI (fin := false) hG kFc2_46 rfl (fun h => by cases h) rfl (fun _ => rfl) (fun _ => rfl) dc2_copyFrom_112 (fun σ112 => ?_)
  exact s_vret hG dc2_copyFrom_115 rfl (Nat.le_of_ble_eq_true rfl) (Nat.le_of_ble_eq_true rfl)
def fc11_settleThere (N : Nat) (a0 : Nat) (σ : Me) : Option (Int32 × Me) :=
  (qR σ 11 10 (some a0)).bind fun v1 =>
  (qR σ 11 1 (some a0)).bind fun v5 =>
  (qR σ 6 3 v5).bind fun v8 =>
  (dr σ v1 (.inl 2)).bind fun a =>
  (fc2_copyFrom N a v8 σ).bind fun p11 =>
  (qR p11.2 11 14 (some a0)).bind fun v15 =>
  (pI p11.2 5 2 v15 (0 : Int32)).bind fun σ19 =>
  (qR σ19 11 14 (some a0)).bind fun v23 =>
  (pZ σ19 5 5 v23 (0 : Int32)).bind fun σ27 =>
  (qR σ27 11 15 (some a0)).bind fun v31 =>
  (pI σ27 1 4 v31 (0 : Int32)).bind fun σ35 =>
  (qR σ35 11 10 (some a0)).bind fun v39 =>
  (qI σ35 2 5 v39).bind fun v42 =>
  some (v42, σ35)
set_option maxRecDepth 20000 in
set_option maxHeartbeats 2000000 in
theorem corc11_settleThere {Ω : Om} (N : Nat) (a0 : Nat) (σ : Me) : Cor Ω tc11_settleThere 2 0 0 [vR (some a0)] σ ιI (fc11_settleThere N a0 σ) := by
  refine Cor.of (by decide +kernel) (Nat.le_of_ble_eq_true rfl) (fun Γ hG => ?_)
  unfold fc11_settleThere
  show Sim Ω Γ 0 0 ιI 1 0 [(0, vR (some a0))] [] σ 0 0 _
  refine s_aload_n hG dc11_settleThere_0 rfl ?_
  refine s_getR hG kFc11_58 rfl dc11_settleThere_1 (fun v1 => ?_)
  refine s_aload_n hG dc11_settleThere_4 rfl ?_
  refine s_getR hG kFc11_21 rfl dc11_settleThere_5 (fun v5 => ?_)
  refine s_getR hG kFc11_137 rfl dc11_settleThere_8 (fun v8 => ?_)
  refine s_callVv hG kMc11_140 (fun a => corc2_copyFrom N a _ _) ⟨by decide, rfl⟩ rfl (by first | decide | omega) dc11_settleThere_11 rfl rfl (Nat.le_of_ble_eq_true rfl) ⟨Nat.le_of_ble_eq_true rfl, Nat.le_of_ble_eq_true rfl⟩ (fun p11 => ?_)
  refine s_aload_n hG dc11_settleThere_14 rfl ?_
  refine s_getR hG kFc11_82 rfl dc11_settleThere_15 (fun v15 => ?_)
  refine s_iconst (v := 0) hG dc11_settleThere_18 (by decide) ?_
  refine s_putI (fin := false) hG kFc11_144 rfl (fun h => by cases h) rfl (fun _ => rfl) (fun _ => rfl) dc11_settleThere_19 (fun σ19 => ?_)
  refine s_aload_n hG dc11_settleThere_22 rfl ?_
  refine s_getR hG kFc11_82 rfl dc11_settleThere_23 (fun v23 => ?_)
  refine s_iconst (v := 0) hG dc11_settleThere_26 (by decide) ?_
  refine s_putZ hG kFc11_147 rfl rfl dc11_settleThere_27 (fun σ27 => ?_)
  refine s_aload_n hG dc11_settleThere_30 rfl ?_
  refine s_getR hG kFc11_89 rfl dc11_settleThere_31 (fun v31 => ?_)
  refine s_iconst (v := 0) hG dc11_settleThere_34 (by decide) ?_
  refine s_putI (fin := false) hG kFc11_151 rfl (fun h => by cases h) rfl (fun _ => rfl) (fun _ => rfl) dc11_settleThere_35 (fun σ35 => ?_)
  refine s_aload_n hG dc11_settleThere_38 rfl ?_
  refine s_getR hG kFc11_58 rfl dc11_settleThere_39 (fun v39 => ?_)
  refine s_getI hG kFc11_154 rfl dc11_settleThere_42 (fun v42 => ?_)
  exact s_iret hG dc11_settleThere_45 rfl (Nat.le_of_ble_eq_true rfl) (Nat.le_of_ble_eq_true rfl)
def fc11_rule (N : Nat) (a0 : Nat) (x1 : Int32) (σ : Me) : Option (Int32 × Me) :=
  (qR σ 11 10 (some a0)).bind fun v1 =>
  (qI σ 2 5 v1).bind fun v4 =>
  if v4 = 0 then
    some ((-1 : Int32), σ)
  else
    if x1 = (0 : Int32) then
      (qR σ 11 10 (some a0)).bind fun v41 =>
      (qI σ 2 6 v41).bind fun v44 =>
      some (v44, σ)
    else
    if x1 = (1 : Int32) then
      (qR σ 11 10 (some a0)).bind fun v49 =>
      (qI σ 2 7 v49).bind fun v52 =>
      some (v52, σ)
    else
    if x1 = (2 : Int32) then
      (qR σ 11 10 (some a0)).bind fun v57 =>
      (qI σ 2 8 v57).bind fun v60 =>
      some (v60, σ)
    else
    some ((-1 : Int32), σ)
set_option maxRecDepth 20000 in
set_option maxHeartbeats 2000000 in
theorem corc11_rule {Ω : Om} (N : Nat) (a0 : Nat) (x1 : Int32) (σ : Me) : Cor Ω tc11_rule 1 0 0 [vR (some a0), vI x1] σ ιI (fc11_rule N a0 x1 σ) := by
  refine Cor.of (by decide +kernel) (Nat.le_of_ble_eq_true rfl) (fun Γ hG => ?_)
  unfold fc11_rule
  show Sim Ω Γ 0 0 ιI 2 0 [(0, vR (some a0)), (1, vI x1)] [] σ 0 0 _
  refine s_aload_n hG dc11_rule_0 rfl ?_
  refine s_getR hG kFc11_58 rfl dc11_rule_1 (fun v1 => ?_)
  refine s_getI hG kFc11_154 rfl dc11_rule_4 (fun v4 => ?_)
  refine s_if_ne hG 12 dc11_rule_7 (by decide) ?_ ?_
  · refine s_iload_n hG dc11_rule_12 rfl ?_
    refine s_split _ (fun e0 => ?_) (fun e0 => ?_)
    · refine s_tabIn hG 40 dc11_rule_13 (by rw [e0]; decide) (by rw [e0]; decide) (by rw [e0]; rfl) (by decide) ?_
      refine s_aload_n hG dc11_rule_40 rfl ?_
      refine s_getR hG kFc11_58 rfl dc11_rule_41 (fun v41 => ?_)
      refine s_getI hG kFc11_171 rfl dc11_rule_44 (fun v44 => ?_)
      exact s_iret hG dc11_rule_47 rfl (Nat.le_of_ble_eq_true rfl) (Nat.le_of_ble_eq_true rfl)
    · refine s_split _ (fun e1 => ?_) (fun e1 => ?_)
      · refine s_tabIn hG 48 dc11_rule_13 (by rw [e1]; decide) (by rw [e1]; decide) (by rw [e1]; rfl) (by decide) ?_
        refine s_aload_n hG dc11_rule_48 rfl ?_
        refine s_getR hG kFc11_58 rfl dc11_rule_49 (fun v49 => ?_)
        refine s_getI hG kFc11_174 rfl dc11_rule_52 (fun v52 => ?_)
        exact s_iret hG dc11_rule_55 rfl (Nat.le_of_ble_eq_true rfl) (Nat.le_of_ble_eq_true rfl)
      · refine s_split _ (fun e2 => ?_) (fun e2 => ?_)
        · refine s_tabIn hG 56 dc11_rule_13 (by rw [e2]; decide) (by rw [e2]; decide) (by rw [e2]; rfl) (by decide) ?_
          refine s_aload_n hG dc11_rule_56 rfl ?_
          refine s_getR hG kFc11_58 rfl dc11_rule_57 (fun v57 => ?_)
          refine s_getI hG kFc11_177 rfl dc11_rule_60 (fun v60 => ?_)
          exact s_iret hG dc11_rule_63 rfl (Nat.le_of_ble_eq_true rfl) (Nat.le_of_ble_eq_true rfl)
        · refine s_tabOut hG 64 dc11_rule_13 (tab_out (lo := 0) (n := 2) (by decide) (by decide) (show ∀ q ∈ [(0 : Int32), (1 : Int32), (2 : Int32)], ¬ _ = q from (List.forall_mem_cons.mpr ⟨e0, (List.forall_mem_cons.mpr ⟨e1, (List.forall_mem_cons.mpr ⟨e2, (fun q h => absurd h List.not_mem_nil)⟩)⟩)⟩))) (by decide) ?_
          refine s_iconst (v := -1) hG dc11_rule_64 (by decide) ?_
          exact s_iret hG dc11_rule_65 rfl (Nat.le_of_ble_eq_true rfl) (Nat.le_of_ble_eq_true rfl)
  · refine s_iconst (v := -1) hG dc11_rule_10 (by decide) ?_
    exact s_iret hG dc11_rule_11 rfl (Nat.le_of_ble_eq_true rfl) (Nat.le_of_ble_eq_true rfl)
def fc0_lengthIn (N : Nat) (x0 : Int32) (σ : Me) : Option (Int32 × Me) :=
  (fMt_min N (60 : Int32) x0 σ).bind fun p3 =>
  some (p3.1, p3.2)
set_option maxRecDepth 20000 in
set_option maxHeartbeats 2000000 in
theorem corc0_lengthIn {Ω : Om} (N : Nat) (x0 : Int32) (σ : Me) : Cor Ω tc0_lengthIn 2 0 0 [vI x0] σ ιI (fc0_lengthIn N x0 σ) := by
  refine Cor.of (by decide +kernel) (Nat.le_of_ble_eq_true rfl) (fun Γ hG => ?_)
  unfold fc0_lengthIn
  show Sim Ω Γ 0 0 ιI 1 0 [(0, vI x0)] [] σ 0 0 _
  refine s_bipush (v := 60) hG dc0_lengthIn_0 (by decide) ?_
  refine s_iload_n hG dc0_lengthIn_2 rfl ?_
  refine s_callSi hG kMc0_21 (corMt_min N _ _ _) rfl (by first | decide | omega) dc0_lengthIn_3 rfl rfl (Nat.le_of_ble_eq_true rfl) ⟨Nat.le_of_ble_eq_true rfl, Nat.le_of_ble_eq_true rfl⟩ (fun p3 => ?_)
  exact s_iret hG dc0_lengthIn_6 rfl (Nat.le_of_ble_eq_true rfl) (Nat.le_of_ble_eq_true rfl)
def fc2_sum_4 (N : Nat) : Nat → Option Nat → Option Nat → Int32 → Int32 → Me → Option (Int32 × Me)
  | 0, _, _, _, _, _ => none
  | n + 1, l0, l1, l2, l3, σ =>
    (qI σ 2 5 l0).bind fun v6 =>
    if v6 ≤ l3 then
      some (l2, σ)
    else
      (ldI σ l1 l3).bind fun v15 =>
      (fc2_sum_4 N n) l0 l1 (l2 + v15) (l3 + (1 : Int32)) σ
def fc2_sum (N : Nat) (a0 : Nat) (x1 : Option Nat) (σ : Me) : Option (Int32 × Me) :=
  fc2_sum_4 N N (some a0) x1 (0 : Int32) (0 : Int32) σ
set_option maxRecDepth 20000 in
set_option maxHeartbeats 2000000 in
theorem pc2_sum_4 {Ω : Om} {Γ : Ga} {N : Nat} (hG : Good Ω Γ tc2_sum 1 0 0) : ∀ (n : Nat) (l0 : Option Nat) (l1 : Option Nat) (l2 : Int32) (l3 : Int32) (σ : Me), Sim Ω Γ 0 0 ιI 4 4 [(0, vR l0), (1, vR l1), (2, vI l2), (3, vI l3)] [] σ 0 0 (fc2_sum_4 N n l0 l1 l2 l3 σ) := by
  intro n
  induction n with
  | zero => intros; exact s_none
  | succ n ih =>
    intro l0 l1 l2 l3 σ
    unfold fc2_sum_4
    refine s_iload_n hG dc2_sum_4 rfl ?_
    refine s_aload_n hG dc2_sum_5 rfl ?_
    refine s_getI hG kFc2_33 rfl dc2_sum_6 (fun v6 => ?_)
    refine s_icmp_ge hG 24 dc2_sum_9 (by decide) ?_ ?_
    · refine s_iload_n hG dc2_sum_24 rfl ?_
      exact s_iret hG dc2_sum_25 rfl (Nat.le_of_ble_eq_true rfl) (Nat.le_of_ble_eq_true rfl)
    · refine s_iload_n hG dc2_sum_12 rfl ?_
      refine s_aload_n hG dc2_sum_13 rfl ?_
      refine s_iload_n hG dc2_sum_14 rfl ?_
      refine s_iald hG dc2_sum_15 (fun v15 => ?_)
      refine s_iadd hG dc2_sum_16 ?_
      refine s_istore_n hG dc2_sum_17 (by decide) ?_
      refine s_iinc (v := 1) hG dc2_sum_18 rfl (by decide) (by decide) ?_
      refine s_goto hG 4 dc2_sum_21 (by decide) ?_
      exact s_lv (lc rfl (lc rfl (lc rfl (lc rfl ln)))) (ih _ _ _ _ _)
set_option maxRecDepth 20000 in
set_option maxHeartbeats 2000000 in
theorem corc2_sum {Ω : Om} (N : Nat) (a0 : Nat) (x1 : Option Nat) (σ : Me) : Cor Ω tc2_sum 1 0 0 [vR (some a0), vR x1] σ ιI (fc2_sum N a0 x1 σ) := by
  refine Cor.of (by decide +kernel) (Nat.le_of_ble_eq_true rfl) (fun Γ hG => ?_)
  unfold fc2_sum
  show Sim Ω Γ 0 0 ιI 4 0 [(0, vR (some a0)), (1, vR x1)] [] σ 0 0 _
  refine s_iconst (v := 0) hG dc2_sum_0 (by decide) ?_
  refine s_istore_n hG dc2_sum_1 (by decide) ?_
  refine s_iconst (v := 0) hG dc2_sum_2 (by decide) ?_
  refine s_istore_n hG dc2_sum_3 (by decide) ?_
  exact s_lv (lc rfl (lc rfl (lc rfl (lc rfl ln)))) (pc2_sum_4 hG _ _ _ _ _ _)
def fc11_count (N : Nat) (a0 : Nat) (x1 : Int32) (σ : Me) : Option (Int32 × Me) :=
  if x1 = (0 : Int32) then
    (qR σ 11 10 (some a0)).bind fun v61 =>
    (qI σ 2 5 v61).bind fun v64 =>
    some (v64, σ)
  else
  if x1 = (1 : Int32) then
    (qI σ 11 6 (some a0)).bind fun v69 =>
    some (v69, σ)
  else
  if x1 = (2 : Int32) then
    (qI σ 11 7 (some a0)).bind fun v74 =>
    some (v74, σ)
  else
  if x1 = (3 : Int32) then
    (qR σ 11 0 (some a0)).bind fun v79 =>
    (qI σ 10 1 v79).bind fun v82 =>
    some (v82, σ)
  else
  if x1 = (4 : Int32) then
    (qI σ 11 8 (some a0)).bind fun v87 =>
    some (v87, σ)
  else
  if x1 = (5 : Int32) then
    (qR σ 11 10 (some a0)).bind fun v92 =>
    (qI σ 2 9 v92).bind fun v95 =>
    some (v95, σ)
  else
  if x1 = (6 : Int32) then
    (qR σ 11 10 (some a0)).bind fun v100 =>
    (qR σ 11 10 (some a0)).bind fun v104 =>
    (qR σ 2 4 v104).bind fun v107 =>
    (dr σ v100 (.inl 2)).bind fun a =>
    (fc2_sum N a v107 σ).bind fun p110 =>
    some (p110.1, p110.2)
  else
  if x1 = (7 : Int32) then
    (qI σ 11 9 (some a0)).bind fun v115 =>
    some (v115, σ)
  else
  if x1 = (8 : Int32) then
    (qR σ 11 15 (some a0)).bind fun v120 =>
    (qI σ 1 4 v120).bind fun v123 =>
    some (v123, σ)
  else
  if x1 = (9 : Int32) then
    (qR σ 11 10 (some a0)).bind fun v128 =>
    (qI σ 2 9 v128).bind fun v131 =>
    (fc0_lengthIn N v131 σ).bind fun p134 =>
    some (p134.1, p134.2)
  else
  if x1 = (10 : Int32) then
    (qR σ 11 14 (some a0)).bind fun v139 =>
    (qI σ 5 2 v139).bind fun v142 =>
    some (v142, σ)
  else
  some ((-1000000 : Int32), σ)
set_option maxRecDepth 20000 in
set_option maxHeartbeats 2000000 in
theorem corc11_count {Ω : Om} (N : Nat) (a0 : Nat) (x1 : Int32) (σ : Me) : Cor Ω tc11_count 3 0 0 [vR (some a0), vI x1] σ ιI (fc11_count N a0 x1 σ) := by
  refine Cor.of (by decide +kernel) (Nat.le_of_ble_eq_true rfl) (fun Γ hG => ?_)
  unfold fc11_count
  show Sim Ω Γ 0 0 ιI 2 0 [(0, vR (some a0)), (1, vI x1)] [] σ 0 0 _
  refine s_iload_n hG dc11_count_0 rfl ?_
  refine s_split _ (fun e0 => ?_) (fun e0 => ?_)
  · refine s_tabIn hG 60 dc11_count_1 (by rw [e0]; decide) (by rw [e0]; decide) (by rw [e0]; rfl) (by decide) ?_
    refine s_aload_n hG dc11_count_60 rfl ?_
    refine s_getR hG kFc11_58 rfl dc11_count_61 (fun v61 => ?_)
    refine s_getI hG kFc11_154 rfl dc11_count_64 (fun v64 => ?_)
    exact s_iret hG dc11_count_67 rfl (Nat.le_of_ble_eq_true rfl) (Nat.le_of_ble_eq_true rfl)
  · refine s_split _ (fun e1 => ?_) (fun e1 => ?_)
    · refine s_tabIn hG 68 dc11_count_1 (by rw [e1]; decide) (by rw [e1]; decide) (by rw [e1]; rfl) (by decide) ?_
      refine s_aload_n hG dc11_count_68 rfl ?_
      refine s_getI hG kFc11_157 rfl dc11_count_69 (fun v69 => ?_)
      exact s_iret hG dc11_count_72 rfl (Nat.le_of_ble_eq_true rfl) (Nat.le_of_ble_eq_true rfl)
    · refine s_split _ (fun e2 => ?_) (fun e2 => ?_)
      · refine s_tabIn hG 73 dc11_count_1 (by rw [e2]; decide) (by rw [e2]; decide) (by rw [e2]; rfl) (by decide) ?_
        refine s_aload_n hG dc11_count_73 rfl ?_
        refine s_getI hG kFc11_164 rfl dc11_count_74 (fun v74 => ?_)
        exact s_iret hG dc11_count_77 rfl (Nat.le_of_ble_eq_true rfl) (Nat.le_of_ble_eq_true rfl)
      · refine s_split _ (fun e3 => ?_) (fun e3 => ?_)
        · refine s_tabIn hG 78 dc11_count_1 (by rw [e3]; decide) (by rw [e3]; decide) (by rw [e3]; rfl) (by decide) ?_
          refine s_aload_n hG dc11_count_78 rfl ?_
          refine s_getR hG kFc11_10 rfl dc11_count_79 (fun v79 => ?_)
          refine s_getI hG kFc11_107 rfl dc11_count_82 (fun v82 => ?_)
          exact s_iret hG dc11_count_85 rfl (Nat.le_of_ble_eq_true rfl) (Nat.le_of_ble_eq_true rfl)
        · refine s_split _ (fun e4 => ?_) (fun e4 => ?_)
          · refine s_tabIn hG 86 dc11_count_1 (by rw [e4]; decide) (by rw [e4]; decide) (by rw [e4]; rfl) (by decide) ?_
            refine s_aload_n hG dc11_count_86 rfl ?_
            refine s_getI hG kFc11_51 rfl dc11_count_87 (fun v87 => ?_)
            exact s_iret hG dc11_count_90 rfl (Nat.le_of_ble_eq_true rfl) (Nat.le_of_ble_eq_true rfl)
          · refine s_split _ (fun e5 => ?_) (fun e5 => ?_)
            · refine s_tabIn hG 91 dc11_count_1 (by rw [e5]; decide) (by rw [e5]; decide) (by rw [e5]; rfl) (by decide) ?_
              refine s_aload_n hG dc11_count_91 rfl ?_
              refine s_getR hG kFc11_58 rfl dc11_count_92 (fun v92 => ?_)
              refine s_getI hG kFc11_201 rfl dc11_count_95 (fun v95 => ?_)
              exact s_iret hG dc11_count_98 rfl (Nat.le_of_ble_eq_true rfl) (Nat.le_of_ble_eq_true rfl)
            · refine s_split _ (fun e6 => ?_) (fun e6 => ?_)
              · refine s_tabIn hG 99 dc11_count_1 (by rw [e6]; decide) (by rw [e6]; decide) (by rw [e6]; rfl) (by decide) ?_
                refine s_aload_n hG dc11_count_99 rfl ?_
                refine s_getR hG kFc11_58 rfl dc11_count_100 (fun v100 => ?_)
                refine s_aload_n hG dc11_count_103 rfl ?_
                refine s_getR hG kFc11_58 rfl dc11_count_104 (fun v104 => ?_)
                refine s_getR hG kFc11_198 rfl dc11_count_107 (fun v107 => ?_)
                refine s_callVi hG kMc11_204 (fun a => corc2_sum N a _ _) ⟨by decide, rfl⟩ rfl (by first | decide | omega) dc11_count_110 rfl rfl (Nat.le_of_ble_eq_true rfl) ⟨Nat.le_of_ble_eq_true rfl, Nat.le_of_ble_eq_true rfl⟩ (fun p110 => ?_)
                exact s_iret hG dc11_count_113 rfl (Nat.le_of_ble_eq_true rfl) (Nat.le_of_ble_eq_true rfl)
              · refine s_split _ (fun e7 => ?_) (fun e7 => ?_)
                · refine s_tabIn hG 114 dc11_count_1 (by rw [e7]; decide) (by rw [e7]; decide) (by rw [e7]; rfl) (by decide) ?_
                  refine s_aload_n hG dc11_count_114 rfl ?_
                  refine s_getI hG kFc11_208 rfl dc11_count_115 (fun v115 => ?_)
                  exact s_iret hG dc11_count_118 rfl (Nat.le_of_ble_eq_true rfl) (Nat.le_of_ble_eq_true rfl)
                · refine s_split _ (fun e8 => ?_) (fun e8 => ?_)
                  · refine s_tabIn hG 119 dc11_count_1 (by rw [e8]; decide) (by rw [e8]; decide) (by rw [e8]; rfl) (by decide) ?_
                    refine s_aload_n hG dc11_count_119 rfl ?_
                    refine s_getR hG kFc11_89 rfl dc11_count_120 (fun v120 => ?_)
                    refine s_getI hG kFc11_151 rfl dc11_count_123 (fun v123 => ?_)
                    exact s_iret hG dc11_count_126 rfl (Nat.le_of_ble_eq_true rfl) (Nat.le_of_ble_eq_true rfl)
                  · refine s_split _ (fun e9 => ?_) (fun e9 => ?_)
                    · refine s_tabIn hG 127 dc11_count_1 (by rw [e9]; decide) (by rw [e9]; decide) (by rw [e9]; rfl) (by decide) ?_
                      refine s_aload_n hG dc11_count_127 rfl ?_
                      refine s_getR hG kFc11_58 rfl dc11_count_128 (fun v128 => ?_)
                      refine s_getI hG kFc11_201 rfl dc11_count_131 (fun v131 => ?_)
                      refine s_callSi hG kMc11_211 (corc0_lengthIn N _ _) rfl (by first | decide | omega) dc11_count_134 rfl rfl (Nat.le_of_ble_eq_true rfl) ⟨Nat.le_of_ble_eq_true rfl, Nat.le_of_ble_eq_true rfl⟩ (fun p134 => ?_)
                      exact s_iret hG dc11_count_137 rfl (Nat.le_of_ble_eq_true rfl) (Nat.le_of_ble_eq_true rfl)
                    · refine s_split _ (fun e10 => ?_) (fun e10 => ?_)
                      · refine s_tabIn hG 138 dc11_count_1 (by rw [e10]; decide) (by rw [e10]; decide) (by rw [e10]; rfl) (by decide) ?_
                        refine s_aload_n hG dc11_count_138 rfl ?_
                        refine s_getR hG kFc11_82 rfl dc11_count_139 (fun v139 => ?_)
                        refine s_getI hG kFc11_144 rfl dc11_count_142 (fun v142 => ?_)
                        exact s_iret hG dc11_count_145 rfl (Nat.le_of_ble_eq_true rfl) (Nat.le_of_ble_eq_true rfl)
                      · refine s_tabOut hG 146 dc11_count_1 (tab_out (lo := 0) (n := 10) (by decide) (by decide) (show ∀ q ∈ [(0 : Int32), (1 : Int32), (2 : Int32), (3 : Int32), (4 : Int32), (5 : Int32), (6 : Int32), (7 : Int32), (8 : Int32), (9 : Int32), (10 : Int32)], ¬ _ = q from (List.forall_mem_cons.mpr ⟨e0, (List.forall_mem_cons.mpr ⟨e1, (List.forall_mem_cons.mpr ⟨e2, (List.forall_mem_cons.mpr ⟨e3, (List.forall_mem_cons.mpr ⟨e4, (List.forall_mem_cons.mpr ⟨e5, (List.forall_mem_cons.mpr ⟨e6, (List.forall_mem_cons.mpr ⟨e7, (List.forall_mem_cons.mpr ⟨e8, (List.forall_mem_cons.mpr ⟨e9, (List.forall_mem_cons.mpr ⟨e10, (fun q h => absurd h List.not_mem_nil)⟩)⟩)⟩)⟩)⟩)⟩)⟩)⟩)⟩)⟩)⟩))) (by decide) ?_
                        refine s_ldc hG dc11_count_146 kIc11_214 ?_
                        exact s_iret hG dc11_count_148 rfl (Nat.le_of_ble_eq_true rfl) (Nat.le_of_ble_eq_true rfl)
def fMt_floorMod (N : Nat) (x0 : Int32) (x1 : Int32) (σ : Me) : Option (Int32 × Me) :=
  (rmI x0 x1).bind fun v2 =>
  if 0 ≤ (x0 ^^^ x1) then
    some (v2, σ)
  else
    if v2 = 0 then
      some (v2, σ)
    else
      some ((v2 + x1), σ)
set_option maxRecDepth 20000 in
set_option maxHeartbeats 2000000 in
theorem corMt_floorMod {Ω : Om} (N : Nat) (x0 : Int32) (x1 : Int32) (σ : Me) : Cor Ω tMt_floorMod 1 0 0 [vI x0, vI x1] σ ιI (fMt_floorMod N x0 x1 σ) := by
  refine Cor.of (by decide +kernel) (Nat.le_of_ble_eq_true rfl) (fun Γ hG => ?_)
  unfold fMt_floorMod
  show Sim Ω Γ 0 0 ιI 3 0 [(0, vI x0), (1, vI x1)] [] σ 0 0 _
  refine s_iload_n hG dMt_floorMod_0 rfl ?_
  refine s_iload_n hG dMt_floorMod_1 rfl ?_
  refine s_irem hG dMt_floorMod_2 (fun v2 => ?_)
  refine s_istore_n hG dMt_floorMod_3 (by decide) ?_
  refine s_iload_n hG dMt_floorMod_4 rfl ?_
  refine s_iload_n hG dMt_floorMod_5 rfl ?_
  refine s_ixor hG dMt_floorMod_6 ?_
  refine s_if_ge hG 18 dMt_floorMod_7 (by decide) ?_ ?_
  · refine s_iload_n hG dMt_floorMod_18 rfl ?_
    exact s_iret hG dMt_floorMod_19 rfl (Nat.le_of_ble_eq_true rfl) (Nat.le_of_ble_eq_true rfl)
  · refine s_iload_n hG dMt_floorMod_10 rfl ?_
    refine s_if_eq hG 18 dMt_floorMod_11 (by decide) ?_ ?_
    · refine s_iload_n hG dMt_floorMod_18 rfl ?_
      exact s_iret hG dMt_floorMod_19 rfl (Nat.le_of_ble_eq_true rfl) (Nat.le_of_ble_eq_true rfl)
    · refine s_iload_n hG dMt_floorMod_14 rfl ?_
      refine s_iload_n hG dMt_floorMod_15 rfl ?_
      refine s_iadd hG dMt_floorMod_16 ?_
      exact s_iret hG dMt_floorMod_17 rfl (Nat.le_of_ble_eq_true rfl) (Nat.le_of_ble_eq_true rfl)
def fc0_entry (N : Nat) (a0 : Nat) (x1 : Int32) (x2 : Int32) (σ : Me) : Option (Int32 × Me) :=
  (fMt_floorMod N x1 (100 : Int32) σ).bind fun p3 =>
  if x2 = 0 then
    (qR p3.2 0 0 (some a0)).bind fun v12 =>
    (ldI p3.2 v12 p3.1).bind fun v16 =>
    some (v16, p3.2)
  else
    if x2 = (1 : Int32) then
      (qR p3.2 0 1 (some a0)).bind fun v26 =>
      (ldI p3.2 v26 p3.1).bind fun v30 =>
      some (v30, p3.2)
    else
      (qR p3.2 0 2 (some a0)).bind fun v35 =>
      (ldI p3.2 v35 p3.1).bind fun v39 =>
      some (v39, p3.2)
set_option maxRecDepth 20000 in
set_option maxHeartbeats 2000000 in
theorem corc0_entry {Ω : Om} (N : Nat) (a0 : Nat) (x1 : Int32) (x2 : Int32) (σ : Me) : Cor Ω tc0_entry 2 0 0 [vR (some a0), vI x1, vI x2] σ ιI (fc0_entry N a0 x1 x2 σ) := by
  refine Cor.of (by decide +kernel) (Nat.le_of_ble_eq_true rfl) (fun Γ hG => ?_)
  unfold fc0_entry
  show Sim Ω Γ 0 0 ιI 4 0 [(0, vR (some a0)), (1, vI x1), (2, vI x2)] [] σ 0 0 _
  refine s_iload_n hG dc0_entry_0 rfl ?_
  refine s_bipush (v := 100) hG dc0_entry_1 (by decide) ?_
  refine s_callSi hG kMc0_27 (corMt_floorMod N _ _ _) rfl (by first | decide | omega) dc0_entry_3 rfl rfl (Nat.le_of_ble_eq_true rfl) ⟨Nat.le_of_ble_eq_true rfl, Nat.le_of_ble_eq_true rfl⟩ (fun p3 => ?_)
  refine s_istore_n hG dc0_entry_6 (by decide) ?_
  refine s_iload_n hG dc0_entry_7 rfl ?_
  refine s_if_ne hG 20 dc0_entry_8 (by decide) ?_ ?_
  · refine s_iload_n hG dc0_entry_20 rfl ?_
    refine s_iconst (v := 1) hG dc0_entry_21 (by decide) ?_
    refine s_icmp_ne hG 34 dc0_entry_22 (by decide) ?_ ?_
    · refine s_aload_n hG dc0_entry_34 rfl ?_
      refine s_getR hG kFc0_18 rfl dc0_entry_35 (fun v35 => ?_)
      refine s_iload_n hG dc0_entry_38 rfl ?_
      refine s_iald hG dc0_entry_39 (fun v39 => ?_)
      exact s_iret hG dc0_entry_40 rfl (Nat.le_of_ble_eq_true rfl) (Nat.le_of_ble_eq_true rfl)
    · refine s_aload_n hG dc0_entry_25 rfl ?_
      refine s_getR hG kFc0_15 rfl dc0_entry_26 (fun v26 => ?_)
      refine s_iload_n hG dc0_entry_29 rfl ?_
      refine s_iald hG dc0_entry_30 (fun v30 => ?_)
      refine s_goto hG 40 dc0_entry_31 (by decide) ?_
      exact s_iret hG dc0_entry_40 rfl (Nat.le_of_ble_eq_true rfl) (Nat.le_of_ble_eq_true rfl)
  · refine s_aload_n hG dc0_entry_11 rfl ?_
    refine s_getR hG kFc0_11 rfl dc0_entry_12 (fun v12 => ?_)
    refine s_iload_n hG dc0_entry_15 rfl ?_
    refine s_iald hG dc0_entry_16 (fun v16 => ?_)
    refine s_goto hG 40 dc0_entry_17 (by decide) ?_
    exact s_iret hG dc0_entry_40 rfl (Nat.le_of_ble_eq_true rfl) (Nat.le_of_ble_eq_true rfl)
def fc11_log (N : Nat) (a0 : Nat) (x1 : Int32) (x2 : Int32) (σ : Me) : Option (Int32 × Me) :=
  if x1 < 0 then
    some ((-1 : Int32), σ)
  else
    (qR σ 11 10 (some a0)).bind fun v6 =>
    (qI σ 2 9 v6).bind fun v9 =>
    (fc0_lengthIn N v9 σ).bind fun p12 =>
    if p12.1 ≤ x1 then
      some ((-1 : Int32), p12.2)
    else
      if x2 < 0 then
        some ((-1 : Int32), p12.2)
      else
        if x2 ≤ (2 : Int32) then
          (qR p12.2 11 13 (some a0)).bind fun v30 =>
          (qR p12.2 11 10 (some a0)).bind fun v34 =>
          (qI p12.2 2 9 v34).bind fun v37 =>
          (dr p12.2 v30 (.inl 0)).bind fun a =>
          (fc0_entry N a ((v37 - (1 : Int32)) - x1) x2 p12.2).bind fun p45 =>
          some (p45.1, p45.2)
        else
          some ((-1 : Int32), p12.2)
set_option maxRecDepth 20000 in
set_option maxHeartbeats 2000000 in
theorem corc11_log {Ω : Om} (N : Nat) (a0 : Nat) (x1 : Int32) (x2 : Int32) (σ : Me) : Cor Ω tc11_log 3 0 0 [vR (some a0), vI x1, vI x2] σ ιI (fc11_log N a0 x1 x2 σ) := by
  refine Cor.of (by decide +kernel) (Nat.le_of_ble_eq_true rfl) (fun Γ hG => ?_)
  unfold fc11_log
  show Sim Ω Γ 0 0 ιI 3 0 [(0, vR (some a0)), (1, vI x1), (2, vI x2)] [] σ 0 0 _
  refine s_iload_n hG dc11_log_0 rfl ?_
  refine s_if_lt hG 27 dc11_log_1 (by decide) ?_ ?_
  · refine s_iconst (v := -1) hG dc11_log_27 (by decide) ?_
    exact s_iret hG dc11_log_28 rfl (Nat.le_of_ble_eq_true rfl) (Nat.le_of_ble_eq_true rfl)
  · refine s_iload_n hG dc11_log_4 rfl ?_
    refine s_aload_n hG dc11_log_5 rfl ?_
    refine s_getR hG kFc11_58 rfl dc11_log_6 (fun v6 => ?_)
    refine s_getI hG kFc11_201 rfl dc11_log_9 (fun v9 => ?_)
    refine s_callSi hG kMc11_211 (corc0_lengthIn N _ _) rfl (by first | decide | omega) dc11_log_12 rfl rfl (Nat.le_of_ble_eq_true rfl) ⟨Nat.le_of_ble_eq_true rfl, Nat.le_of_ble_eq_true rfl⟩ (fun p12 => ?_)
    refine s_icmp_ge hG 27 dc11_log_15 (by decide) ?_ ?_
    · refine s_iconst (v := -1) hG dc11_log_27 (by decide) ?_
      exact s_iret hG dc11_log_28 rfl (Nat.le_of_ble_eq_true rfl) (Nat.le_of_ble_eq_true rfl)
    · refine s_iload_n hG dc11_log_18 rfl ?_
      refine s_if_lt hG 27 dc11_log_19 (by decide) ?_ ?_
      · refine s_iconst (v := -1) hG dc11_log_27 (by decide) ?_
        exact s_iret hG dc11_log_28 rfl (Nat.le_of_ble_eq_true rfl) (Nat.le_of_ble_eq_true rfl)
      · refine s_iload_n hG dc11_log_22 rfl ?_
        refine s_iconst (v := 2) hG dc11_log_23 (by decide) ?_
        refine s_icmp_le hG 29 dc11_log_24 (by decide) ?_ ?_
        · refine s_aload_n hG dc11_log_29 rfl ?_
          refine s_getR hG kFc11_75 rfl dc11_log_30 (fun v30 => ?_)
          refine s_aload_n hG dc11_log_33 rfl ?_
          refine s_getR hG kFc11_58 rfl dc11_log_34 (fun v34 => ?_)
          refine s_getI hG kFc11_201 rfl dc11_log_37 (fun v37 => ?_)
          refine s_iconst (v := 1) hG dc11_log_40 (by decide) ?_
          refine s_isub hG dc11_log_41 ?_
          refine s_iload_n hG dc11_log_42 rfl ?_
          refine s_isub hG dc11_log_43 ?_
          refine s_iload_n hG dc11_log_44 rfl ?_
          refine s_callVi hG kMc11_215 (fun a => corc0_entry N a _ _ _) ⟨by decide, rfl⟩ rfl (by first | decide | omega) dc11_log_45 rfl rfl (Nat.le_of_ble_eq_true rfl) ⟨Nat.le_of_ble_eq_true rfl, Nat.le_of_ble_eq_true rfl⟩ (fun p45 => ?_)
          exact s_iret hG dc11_log_48 rfl (Nat.le_of_ble_eq_true rfl) (Nat.le_of_ble_eq_true rfl)
        · refine s_iconst (v := -1) hG dc11_log_27 (by decide) ?_
          exact s_iret hG dc11_log_28 rfl (Nat.le_of_ble_eq_true rfl) (Nat.le_of_ble_eq_true rfl)
