def fc12_goStep (N : Nat) (a0 : Nat) (x1 : Option Nat) (x2 : Int32) (σ : Me) : Option (Int32 × Me) :=
  (qR σ 12 22 (some a0)).bind fun v1 =>
  (ldI σ v1 (x2 + (1 : Int32))).bind fun v7 =>
  (qR σ 12 22 (some a0)).bind fun v10 =>
  (ldI σ v10 x2).bind fun v14 =>
  if v14 = (0 : Int32) then
    (dr σ (some a0) (.inl 12)).bind fun a =>
    (fc12_goYear N a x1 v7 σ).bind fun p43 =>
    (qI p43.2 12 37 (some a0)).bind fun v47 =>
    some (v47, p43.2)
  else
  if v14 = (1 : Int32) then
    (qR σ 12 22 (some a0)).bind fun v55 =>
    (ldI σ v55 (x2 + (2 : Int32))).bind fun v61 =>
    (dr σ (some a0) (.inl 12)).bind fun a =>
    (fc12_forgives N a x1 v7 v61 σ).bind fun p62 =>
    some ((0 : Int32), p62.2)
  else
  if v14 = (2 : Int32) then
    (fc12_hedges N x1 v7 σ).bind fun p69 =>
    some ((0 : Int32), p69.2)
  else
  (fc12_fills N x1 v7 σ).bind fun p76 =>
  some ((0 : Int32), p76.2)
set_option maxRecDepth 20000 in
set_option maxHeartbeats 2000000 in
theorem corc12_goStep {Ω : Om} (N : Nat) (a0 : Nat) (x1 : Option Nat) (x2 : Int32) (σ : Me) : Cor Ω tc12_goStep 142 0 0 [vR (some a0), vR x1, vI x2] σ ιI (fc12_goStep N a0 x1 x2 σ) := by
  refine Cor.of (by decide +kernel) (Nat.le_of_ble_eq_true rfl) (fun Γ hG => ?_)
  unfold fc12_goStep
  show Sim Ω Γ 0 0 ιI 4 0 [(0, vR (some a0)), (1, vR x1), (2, vI x2)] [] σ 0 0 _
  refine s_aload_n hG dc12_goStep_0 rfl ?_
  refine s_getR hG kFc12_49 rfl dc12_goStep_1 (fun v1 => ?_)
  refine s_iload_n hG dc12_goStep_4 rfl ?_
  refine s_iconst (v := 1) hG dc12_goStep_5 (by decide) ?_
  refine s_iadd hG dc12_goStep_6 ?_
  refine s_iald hG dc12_goStep_7 (fun v7 => ?_)
  refine s_istore_n hG dc12_goStep_8 (by decide) ?_
  refine s_aload_n hG dc12_goStep_9 rfl ?_
  refine s_getR hG kFc12_49 rfl dc12_goStep_10 (fun v10 => ?_)
  refine s_iload_n hG dc12_goStep_13 rfl ?_
  refine s_iald hG dc12_goStep_14 (fun v14 => ?_)
  refine s_split _ (fun e0 => ?_) (fun e0 => ?_)
  · refine s_tabIn hG 40 dc12_goStep_15 (by rw [e0]; decide) (by rw [e0]; decide) (by rw [e0]; rfl) (by decide) ?_
    refine s_aload_n hG dc12_goStep_40 rfl ?_
    refine s_aload_n hG dc12_goStep_41 rfl ?_
    refine s_iload_n hG dc12_goStep_42 rfl ?_
    refine s_callVv hG kMc12_349 (fun a => corc12_goYear N a _ _ _) ⟨by decide, rfl⟩ rfl (by first | decide | omega) dc12_goStep_43 rfl rfl (Nat.le_of_ble_eq_true rfl) ⟨Nat.le_of_ble_eq_true rfl, Nat.le_of_ble_eq_true rfl⟩ (fun p43 => ?_)
    refine s_aload_n hG dc12_goStep_46 rfl ?_
    refine s_getI hG kFc12_342 rfl dc12_goStep_47 (fun v47 => ?_)
    exact s_iret hG dc12_goStep_50 rfl (Nat.le_of_ble_eq_true rfl) (Nat.le_of_ble_eq_true rfl)
  · refine s_split _ (fun e1 => ?_) (fun e1 => ?_)
    · refine s_tabIn hG 51 dc12_goStep_15 (by rw [e1]; decide) (by rw [e1]; decide) (by rw [e1]; rfl) (by decide) ?_
      refine s_aload_n hG dc12_goStep_51 rfl ?_
      refine s_aload_n hG dc12_goStep_52 rfl ?_
      refine s_iload_n hG dc12_goStep_53 rfl ?_
      refine s_aload_n hG dc12_goStep_54 rfl ?_
      refine s_getR hG kFc12_49 rfl dc12_goStep_55 (fun v55 => ?_)
      refine s_iload_n hG dc12_goStep_58 rfl ?_
      refine s_iconst (v := 2) hG dc12_goStep_59 (by decide) ?_
      refine s_iadd hG dc12_goStep_60 ?_
      refine s_iald hG dc12_goStep_61 (fun v61 => ?_)
      refine s_callVv hG kMc12_383 (fun a => corc12_forgives N a _ _ _ _) ⟨by decide, rfl⟩ rfl (by first | decide | omega) dc12_goStep_62 rfl rfl (Nat.le_of_ble_eq_true rfl) ⟨Nat.le_of_ble_eq_true rfl, Nat.le_of_ble_eq_true rfl⟩ (fun p62 => ?_)
      refine s_iconst (v := 0) hG dc12_goStep_65 (by decide) ?_
      exact s_iret hG dc12_goStep_66 rfl (Nat.le_of_ble_eq_true rfl) (Nat.le_of_ble_eq_true rfl)
    · refine s_split _ (fun e2 => ?_) (fun e2 => ?_)
      · refine s_tabIn hG 67 dc12_goStep_15 (by rw [e2]; decide) (by rw [e2]; decide) (by rw [e2]; rfl) (by decide) ?_
        refine s_aload_n hG dc12_goStep_67 rfl ?_
        refine s_iload_n hG dc12_goStep_68 rfl ?_
        refine s_callSv hG kMc12_391 (corc12_hedges N _ _ _) rfl (by first | decide | omega) dc12_goStep_69 rfl rfl (Nat.le_of_ble_eq_true rfl) ⟨Nat.le_of_ble_eq_true rfl, Nat.le_of_ble_eq_true rfl⟩ (fun p69 => ?_)
        refine s_iconst (v := 0) hG dc12_goStep_72 (by decide) ?_
        exact s_iret hG dc12_goStep_73 rfl (Nat.le_of_ble_eq_true rfl) (Nat.le_of_ble_eq_true rfl)
      · refine s_tabOut hG 74 dc12_goStep_15 (tab_out (lo := 0) (n := 2) (by decide) (by decide) (show ∀ q ∈ [(0 : Int32), (1 : Int32), (2 : Int32)], ¬ _ = q from (List.forall_mem_cons.mpr ⟨e0, (List.forall_mem_cons.mpr ⟨e1, (List.forall_mem_cons.mpr ⟨e2, (fun q h => absurd h List.not_mem_nil)⟩)⟩)⟩))) (by decide) ?_
        refine s_aload_n hG dc12_goStep_74 rfl ?_
        refine s_iload_n hG dc12_goStep_75 rfl ?_
        refine s_callSv hG kMc12_397 (corc12_fills N _ _ _) rfl (by first | decide | omega) dc12_goStep_76 rfl rfl (Nat.le_of_ble_eq_true rfl) ⟨Nat.le_of_ble_eq_true rfl, Nat.le_of_ble_eq_true rfl⟩ (fun p76 => ?_)
        refine s_iconst (v := 0) hG dc12_goStep_79 (by decide) ?_
        exact s_iret hG dc12_goStep_80 rfl (Nat.le_of_ble_eq_true rfl) (Nat.le_of_ble_eq_true rfl)
def fc12_run_30 (N : Nat)  (σ : Me) : Option (Int32 × Me) :=
  some ((-1000000 : Int32), σ)
def fc12_run_106 (N : Nat) (l0 : Option Nat) (l1 : Int32) (l2 : Int32) (l3 : Int32) (l4 : Int32) (σ : Me) : Option (Int32 × Me) :=
  if l2 = (1 : Int32) then
    some (l4, σ)
  else
    (qR σ 12 23 l0).bind fun v116 =>
    (ldI σ v116 l1).bind fun v120 =>
    if l3 = v120 then
      some ((-1 : Int32), σ)
    else
      some (l3, σ)
def fc12_run_50 (N : Nat) : Nat → Option Nat → Int32 → Int32 → Int32 → Int32 → Me → Option (Int32 × Me)
  | 0, _, _, _, _, _, _ => none
  | n + 1, l0, l1, l2, l3, l4, σ =>
    (qR σ 12 23 l0).bind fun v52 =>
    (ldI σ v52 l1).bind fun v56 =>
    if v56 ≤ l3 then
      fc12_run_106 N l0 l1 l2 l3 l4 σ
    else
      (qR σ 12 29 l0).bind fun v62 =>
      (dr σ l0 (.inl 12)).bind fun a =>
      (fc12_canStep N a v62 ((3 : Int32) * (((16 : Int32) * l1) + l3)) σ).bind fun p73 =>
      if p73.1 = 0 then
        fc12_run_106 N l0 l1 l2 l3 l4 p73.2
      else
        (qR p73.2 12 29 l0).bind fun v83 =>
        (dr p73.2 l0 (.inl 12)).bind fun a =>
        (fc12_goStep N a v83 ((3 : Int32) * (((16 : Int32) * l1) + l3)) p73.2).bind fun p94 =>
        (fc12_run_50 N n) l0 l1 l2 (l3 + (1 : Int32)) (l4 + p94.1) p94.2
def fc12_run (N : Nat) (a0 : Nat) (x1 : Int32) (x2 : Int32) (σ : Me) : Option (Int32 × Me) :=
  (pI σ 12 0 (some a0) (0 : Int32)).bind fun σ2 =>
  (dr σ2 (some a0) (.inl 12)).bind fun a =>
  (fc12_isPlan N a x1 σ2).bind fun p7 =>
  if p7.1 = 0 then
    fc12_run_30 N  p7.2
  else
    (qI p7.2 12 24 (some a0)).bind fun v14 =>
    if v14 = 0 then
      fc12_run_30 N  p7.2
    else
      (fc12_isIn N (Int32.toInt64 x2) (0 : Int64) (1 : Int64) p7.2).bind fun p24 =>
      if p24.1 = 0 then
        fc12_run_30 N  p24.2
      else
        (qR p24.2 12 28 (some a0)).bind fun v35 =>
        (qR p24.2 12 29 (some a0)).bind fun v39 =>
        (fc12_copy N v35 v39 p24.2).bind fun p42 =>
        fc12_run_50 N N (some a0) x1 x2 (0 : Int32) (0 : Int32) p42.2
set_option maxRecDepth 20000 in
set_option maxHeartbeats 2000000 in
theorem pc12_run_30 {Ω : Om} {Γ : Ga} {N : Nat} (hG : Good Ω Γ tc12_run 143 0 0)  (σ : Me) : Sim Ω Γ 0 0 ιI 5 30 [] [] σ 0 0 (fc12_run_30 N  σ) := by
  unfold fc12_run_30
  refine s_ldcw hG dc12_run_30 kIc12_418 ?_
  exact s_iret hG dc12_run_33 rfl (Nat.le_of_ble_eq_true rfl) (Nat.le_of_ble_eq_true rfl)
set_option maxRecDepth 20000 in
set_option maxHeartbeats 2000000 in
theorem pc12_run_106 {Ω : Om} {Γ : Ga} {N : Nat} (hG : Good Ω Γ tc12_run 143 0 0) (l0 : Option Nat) (l1 : Int32) (l2 : Int32) (l3 : Int32) (l4 : Int32) (σ : Me) : Sim Ω Γ 0 0 ιI 5 106 [(0, vR l0), (1, vI l1), (2, vI l2), (3, vI l3), (4, vI l4)] [] σ 0 0 (fc12_run_106 N l0 l1 l2 l3 l4 σ) := by
  unfold fc12_run_106
  refine s_iload_n hG dc12_run_106 rfl ?_
  refine s_iconst (v := 1) hG dc12_run_107 (by decide) ?_
  refine s_icmp_ne hG 114 dc12_run_108 (by decide) ?_ ?_
  · refine s_iload_n hG dc12_run_114 rfl ?_
    refine s_aload_n hG dc12_run_115 rfl ?_
    refine s_getR hG kFc12_52 rfl dc12_run_116 (fun v116 => ?_)
    refine s_iload_n hG dc12_run_119 rfl ?_
    refine s_iald hG dc12_run_120 (fun v120 => ?_)
    refine s_icmp_ne hG 128 dc12_run_121 (by decide) ?_ ?_
    · refine s_iload_n hG dc12_run_128 rfl ?_
      exact s_iret hG dc12_run_129 rfl (Nat.le_of_ble_eq_true rfl) (Nat.le_of_ble_eq_true rfl)
    · refine s_iconst (v := -1) hG dc12_run_124 (by decide) ?_
      refine s_goto hG 129 dc12_run_125 (by decide) ?_
      exact s_iret hG dc12_run_129 rfl (Nat.le_of_ble_eq_true rfl) (Nat.le_of_ble_eq_true rfl)
  · refine s_iload hG dc12_run_111 rfl ?_
    exact s_iret hG dc12_run_113 rfl (Nat.le_of_ble_eq_true rfl) (Nat.le_of_ble_eq_true rfl)
set_option maxRecDepth 20000 in
set_option maxHeartbeats 2000000 in
theorem pc12_run_50 {Ω : Om} {Γ : Ga} {N : Nat} (hG : Good Ω Γ tc12_run 143 0 0)  : ∀ (n : Nat) (l0 : Option Nat) (l1 : Int32) (l2 : Int32) (l3 : Int32) (l4 : Int32) (σ : Me), Sim Ω Γ 0 0 ιI 5 50 [(0, vR l0), (1, vI l1), (2, vI l2), (3, vI l3), (4, vI l4)] [] σ 0 0 (fc12_run_50 N n l0 l1 l2 l3 l4 σ) := by
  intro n
  induction n with
  | zero => intros; exact s_none
  | succ n ih =>
    intro l0 l1 l2 l3 l4 σ
    unfold fc12_run_50
    refine s_iload_n hG dc12_run_50 rfl ?_
    refine s_aload_n hG dc12_run_51 rfl ?_
    refine s_getR hG kFc12_52 rfl dc12_run_52 (fun v52 => ?_)
    refine s_iload_n hG dc12_run_55 rfl ?_
    refine s_iald hG dc12_run_56 (fun v56 => ?_)
    refine s_icmp_ge hG 106 dc12_run_57 (by decide) ?_ ?_
    · exact s_lv (lc rfl (lc rfl (lc rfl (lc rfl (lc rfl ln))))) (pc12_run_106 hG _ _ _ _ _ _)
    · refine s_aload_n hG dc12_run_60 rfl ?_
      refine s_aload_n hG dc12_run_61 rfl ?_
      refine s_getR hG kFc12_58 rfl dc12_run_62 (fun v62 => ?_)
      refine s_iconst (v := 3) hG dc12_run_65 (by decide) ?_
      refine s_bipush (v := 16) hG dc12_run_66 (by decide) ?_
      refine s_iload_n hG dc12_run_68 rfl ?_
      refine s_imul hG dc12_run_69 ?_
      refine s_iload_n hG dc12_run_70 rfl ?_
      refine s_iadd hG dc12_run_71 ?_
      refine s_imul hG dc12_run_72 ?_
      refine s_callVi hG kMc12_419 (fun a => corc12_canStep N a _ _ _) ⟨by decide, rfl⟩ rfl (by first | decide | omega) dc12_run_73 rfl rfl (Nat.le_of_ble_eq_true rfl) ⟨Nat.le_of_ble_eq_true rfl, Nat.le_of_ble_eq_true rfl⟩ (fun p73 => ?_)
      refine s_if_eq hG 106 dc12_run_76 (by decide) ?_ ?_
      · exact s_lv (lc rfl (lc rfl (lc rfl (lc rfl (lc rfl ln))))) (pc12_run_106 hG _ _ _ _ _ _)
      · refine s_iload hG dc12_run_79 rfl ?_
        refine s_aload_n hG dc12_run_81 rfl ?_
        refine s_aload_n hG dc12_run_82 rfl ?_
        refine s_getR hG kFc12_58 rfl dc12_run_83 (fun v83 => ?_)
        refine s_iconst (v := 3) hG dc12_run_86 (by decide) ?_
        refine s_bipush (v := 16) hG dc12_run_87 (by decide) ?_
        refine s_iload_n hG dc12_run_89 rfl ?_
        refine s_imul hG dc12_run_90 ?_
        refine s_iload_n hG dc12_run_91 rfl ?_
        refine s_iadd hG dc12_run_92 ?_
        refine s_imul hG dc12_run_93 ?_
        refine s_callVi hG kMc12_422 (fun a => corc12_goStep N a _ _ _) ⟨by decide, rfl⟩ rfl (by first | decide | omega) dc12_run_94 rfl rfl (Nat.le_of_ble_eq_true rfl) ⟨Nat.le_of_ble_eq_true rfl, Nat.le_of_ble_eq_true rfl⟩ (fun p94 => ?_)
        refine s_iadd hG dc12_run_97 ?_
        refine s_istore hG dc12_run_98 (by decide) ?_
        refine s_iinc (v := 1) hG dc12_run_100 rfl (by decide) (by decide) ?_
        refine s_goto hG 50 dc12_run_103 (by decide) ?_
        exact s_lv (lc rfl (lc rfl (lc rfl (lc rfl (lc rfl ln))))) (ih _ _ _ _ _ _)
set_option maxRecDepth 20000 in
set_option maxHeartbeats 2000000 in
theorem corc12_run {Ω : Om} (N : Nat) (a0 : Nat) (x1 : Int32) (x2 : Int32) (σ : Me) : Cor Ω tc12_run 143 0 0 [vR (some a0), vI x1, vI x2] σ ιI (fc12_run N a0 x1 x2 σ) := by
  refine Cor.of (by decide +kernel) (Nat.le_of_ble_eq_true rfl) (fun Γ hG => ?_)
  unfold fc12_run
  show Sim Ω Γ 0 0 ιI 5 0 [(0, vR (some a0)), (1, vI x1), (2, vI x2)] [] σ 0 0 _
  refine s_aload_n hG dc12_run_0 rfl ?_
  refine s_iconst (v := 0) hG dc12_run_1 (by decide) ?_
  refine s_putI (fin := false) hG kFc12_100 rfl (fun h => by cases h) rfl (fun _ => rfl) (fun _ => rfl) dc12_run_2 (fun σ2 => ?_)
  refine s_aload_n hG dc12_run_5 rfl ?_
  refine s_iload_n hG dc12_run_6 rfl ?_
  refine s_callVi hG kMc12_415 (fun a => corc12_isPlan N a _ _) ⟨by decide, rfl⟩ rfl (by first | decide | omega) dc12_run_7 rfl rfl (Nat.le_of_ble_eq_true rfl) ⟨Nat.le_of_ble_eq_true rfl, Nat.le_of_ble_eq_true rfl⟩ (fun p7 => ?_)
  refine s_if_eq hG 30 dc12_run_10 (by decide) ?_ ?_
  · exact s_lv ln (pc12_run_30 hG _)
  · refine s_aload_n hG dc12_run_13 rfl ?_
    refine s_getI hG kFc12_290 rfl dc12_run_14 (fun v14 => ?_)
    refine s_if_eq hG 30 dc12_run_17 (by decide) ?_ ?_
    · exact s_lv ln (pc12_run_30 hG _)
    · refine s_iload_n hG dc12_run_20 rfl ?_
      refine s_i2l hG dc12_run_21 ?_
      refine s_lconst (v := 0) hG dc12_run_22 (by decide) ?_
      refine s_lconst (v := 1) hG dc12_run_23 (by decide) ?_
      refine s_callSi hG kMc12_221 (corc12_isIn N _ _ _ _) rfl (by first | decide | omega) dc12_run_24 rfl rfl (Nat.le_of_ble_eq_true rfl) ⟨Nat.le_of_ble_eq_true rfl, Nat.le_of_ble_eq_true rfl⟩ (fun p24 => ?_)
      refine s_if_ne hG 34 dc12_run_27 (by decide) ?_ ?_
      · refine s_aload_n hG dc12_run_34 rfl ?_
        refine s_getR hG kFc12_55 rfl dc12_run_35 (fun v35 => ?_)
        refine s_aload_n hG dc12_run_38 rfl ?_
        refine s_getR hG kFc12_58 rfl dc12_run_39 (fun v39 => ?_)
        refine s_callSv hG kMc12_345 (corc12_copy N _ _ _) rfl (by first | decide | omega) dc12_run_42 rfl rfl (Nat.le_of_ble_eq_true rfl) ⟨Nat.le_of_ble_eq_true rfl, Nat.le_of_ble_eq_true rfl⟩ (fun p42 => ?_)
        refine s_iconst (v := 0) hG dc12_run_45 (by decide) ?_
        refine s_istore_n hG dc12_run_46 (by decide) ?_
        refine s_iconst (v := 0) hG dc12_run_47 (by decide) ?_
        refine s_istore hG dc12_run_48 (by decide) ?_
        exact s_lv (lc rfl (lc rfl (lc rfl (lc rfl (lc rfl ln))))) (pc12_run_50 hG _ _ _ _ _ _ _)
      · exact s_lv ln (pc12_run_30 hG _)
def fc12_perform_24 (N : Nat) : Nat → Option Nat → Int32 → Int32 → Me → Option (Int32 × Me)
  | 0, _, _, _, _ => none
  | n + 1, l0, l1, l2, σ =>
    (qR σ 12 23 l0).bind fun v26 =>
    (ldI σ v26 l1).bind fun v30 =>
    if v30 ≤ l2 then
      some (l2, σ)
    else
      (qR σ 12 28 l0).bind fun v36 =>
      (dr σ l0 (.inl 12)).bind fun a =>
      (fc12_canStep N a v36 ((3 : Int32) * (((16 : Int32) * l1) + l2)) σ).bind fun p47 =>
      if p47.1 = 0 then
        some (l2, p47.2)
      else
        (dr p47.2 l0 (.inl 12)).bind fun a =>
        (fc12_remember N a p47.2).bind fun p54 =>
        (qR p54.2 12 28 l0).bind fun v59 =>
        (dr p54.2 l0 (.inl 12)).bind fun a =>
        (fc12_goStep N a v59 ((3 : Int32) * (((16 : Int32) * l1) + l2)) p54.2).bind fun p70 =>
        (fc12_perform_24 N n) l0 l1 (l2 + (1 : Int32)) p70.2
def fc12_perform (N : Nat) (a0 : Nat) (x1 : Int32) (σ : Me) : Option (Int32 × Me) :=
  (pI σ 12 0 (some a0) (0 : Int32)).bind fun σ2 =>
  (dr σ2 (some a0) (.inl 12)).bind fun a =>
  (fc12_isPlan N a x1 σ2).bind fun p7 =>
  if p7.1 = 0 then
    some ((-1 : Int32), p7.2)
  else
    (qI p7.2 12 24 (some a0)).bind fun v14 =>
    if v14 = 0 then
      some ((-1 : Int32), p7.2)
    else
      fc12_perform_24 N N (some a0) x1 (0 : Int32) p7.2
set_option maxRecDepth 20000 in
set_option maxHeartbeats 2000000 in
theorem pc12_perform_24 {Ω : Om} {Γ : Ga} {N : Nat} (hG : Good Ω Γ tc12_perform 143 0 0)  : ∀ (n : Nat) (l0 : Option Nat) (l1 : Int32) (l2 : Int32) (σ : Me), Sim Ω Γ 0 0 ιI 4 24 [(0, vR l0), (1, vI l1), (2, vI l2)] [] σ 0 0 (fc12_perform_24 N n l0 l1 l2 σ) := by
  intro n
  induction n with
  | zero => intros; exact s_none
  | succ n ih =>
    intro l0 l1 l2 σ
    unfold fc12_perform_24
    refine s_iload_n hG dc12_perform_24 rfl ?_
    refine s_aload_n hG dc12_perform_25 rfl ?_
    refine s_getR hG kFc12_52 rfl dc12_perform_26 (fun v26 => ?_)
    refine s_iload_n hG dc12_perform_29 rfl ?_
    refine s_iald hG dc12_perform_30 (fun v30 => ?_)
    refine s_icmp_ge hG 80 dc12_perform_31 (by decide) ?_ ?_
    · refine s_iload_n hG dc12_perform_80 rfl ?_
      exact s_iret hG dc12_perform_81 rfl (Nat.le_of_ble_eq_true rfl) (Nat.le_of_ble_eq_true rfl)
    · refine s_aload_n hG dc12_perform_34 rfl ?_
      refine s_aload_n hG dc12_perform_35 rfl ?_
      refine s_getR hG kFc12_55 rfl dc12_perform_36 (fun v36 => ?_)
      refine s_iconst (v := 3) hG dc12_perform_39 (by decide) ?_
      refine s_bipush (v := 16) hG dc12_perform_40 (by decide) ?_
      refine s_iload_n hG dc12_perform_42 rfl ?_
      refine s_imul hG dc12_perform_43 ?_
      refine s_iload_n hG dc12_perform_44 rfl ?_
      refine s_iadd hG dc12_perform_45 ?_
      refine s_imul hG dc12_perform_46 ?_
      refine s_callVi hG kMc12_419 (fun a => corc12_canStep N a _ _ _) ⟨by decide, rfl⟩ rfl (by first | decide | omega) dc12_perform_47 rfl rfl (Nat.le_of_ble_eq_true rfl) ⟨Nat.le_of_ble_eq_true rfl, Nat.le_of_ble_eq_true rfl⟩ (fun p47 => ?_)
      refine s_if_eq hG 80 dc12_perform_50 (by decide) ?_ ?_
      · refine s_iload_n hG dc12_perform_80 rfl ?_
        exact s_iret hG dc12_perform_81 rfl (Nat.le_of_ble_eq_true rfl) (Nat.le_of_ble_eq_true rfl)
      · refine s_aload_n hG dc12_perform_53 rfl ?_
        refine s_callVv hG kMc12_366 (fun a => corc12_remember N a _) ⟨by decide, rfl⟩ rfl (by first | decide | omega) dc12_perform_54 rfl rfl (Nat.le_of_ble_eq_true rfl) ⟨Nat.le_of_ble_eq_true rfl, Nat.le_of_ble_eq_true rfl⟩ (fun p54 => ?_)
        refine s_aload_n hG dc12_perform_57 rfl ?_
        refine s_aload_n hG dc12_perform_58 rfl ?_
        refine s_getR hG kFc12_55 rfl dc12_perform_59 (fun v59 => ?_)
        refine s_iconst (v := 3) hG dc12_perform_62 (by decide) ?_
        refine s_bipush (v := 16) hG dc12_perform_63 (by decide) ?_
        refine s_iload_n hG dc12_perform_65 rfl ?_
        refine s_imul hG dc12_perform_66 ?_
        refine s_iload_n hG dc12_perform_67 rfl ?_
        refine s_iadd hG dc12_perform_68 ?_
        refine s_imul hG dc12_perform_69 ?_
        refine s_callVi hG kMc12_422 (fun a => corc12_goStep N a _ _ _) ⟨by decide, rfl⟩ rfl (by first | decide | omega) dc12_perform_70 rfl rfl (Nat.le_of_ble_eq_true rfl) ⟨Nat.le_of_ble_eq_true rfl, Nat.le_of_ble_eq_true rfl⟩ (fun p70 => ?_)
        refine s_istore_n hG dc12_perform_73 (by decide) ?_
        refine s_iinc (v := 1) hG dc12_perform_74 rfl (by decide) (by decide) ?_
        refine s_goto hG 24 dc12_perform_77 (by decide) ?_
        exact s_lv (lc rfl (lc rfl (lc rfl ln))) (ih _ _ _ _)
set_option maxRecDepth 20000 in
set_option maxHeartbeats 2000000 in
theorem corc12_perform {Ω : Om} (N : Nat) (a0 : Nat) (x1 : Int32) (σ : Me) : Cor Ω tc12_perform 143 0 0 [vR (some a0), vI x1] σ ιI (fc12_perform N a0 x1 σ) := by
  refine Cor.of (by decide +kernel) (Nat.le_of_ble_eq_true rfl) (fun Γ hG => ?_)
  unfold fc12_perform
  show Sim Ω Γ 0 0 ιI 4 0 [(0, vR (some a0)), (1, vI x1)] [] σ 0 0 _
  refine s_aload_n hG dc12_perform_0 rfl ?_
  refine s_iconst (v := 0) hG dc12_perform_1 (by decide) ?_
  refine s_putI (fin := false) hG kFc12_100 rfl (fun h => by cases h) rfl (fun _ => rfl) (fun _ => rfl) dc12_perform_2 (fun σ2 => ?_)
  refine s_aload_n hG dc12_perform_5 rfl ?_
  refine s_iload_n hG dc12_perform_6 rfl ?_
  refine s_callVi hG kMc12_415 (fun a => corc12_isPlan N a _ _) ⟨by decide, rfl⟩ rfl (by first | decide | omega) dc12_perform_7 rfl rfl (Nat.le_of_ble_eq_true rfl) ⟨Nat.le_of_ble_eq_true rfl, Nat.le_of_ble_eq_true rfl⟩ (fun p7 => ?_)
  refine s_if_eq hG 20 dc12_perform_10 (by decide) ?_ ?_
  · refine s_iconst (v := -1) hG dc12_perform_20 (by decide) ?_
    exact s_iret hG dc12_perform_21 rfl (Nat.le_of_ble_eq_true rfl) (Nat.le_of_ble_eq_true rfl)
  · refine s_aload_n hG dc12_perform_13 rfl ?_
    refine s_getI hG kFc12_290 rfl dc12_perform_14 (fun v14 => ?_)
    refine s_if_ne hG 22 dc12_perform_17 (by decide) ?_ ?_
    · refine s_iconst (v := 0) hG dc12_perform_22 (by decide) ?_
      refine s_istore_n hG dc12_perform_23 (by decide) ?_
      exact s_lv (lc rfl (lc rfl (lc rfl ln))) (pc12_perform_24 hG _ _ _ _ _)
    · refine s_iconst (v := -1) hG dc12_perform_20 (by decide) ?_
      exact s_iret hG dc12_perform_21 rfl (Nat.le_of_ble_eq_true rfl) (Nat.le_of_ble_eq_true rfl)
def fc12_tries (N : Nat) (a0 : Nat) (x1 : Int32) (σ : Me) : Option (Unit × Me) :=
  (qR σ 12 28 (some a0)).bind fun v1 =>
  (qR σ 12 29 (some a0)).bind fun v5 =>
  (fc12_copy N v1 v5 σ).bind fun p8 =>
  (qR p8.2 12 29 (some a0)).bind fun v13 =>
  (dr p8.2 (some a0) (.inl 12)).bind fun a =>
  (fc12_goYear N a v13 x1 p8.2).bind fun p17 =>
  some ((), p17.2)
set_option maxRecDepth 20000 in
set_option maxHeartbeats 2000000 in
theorem corc12_tries {Ω : Om} (N : Nat) (a0 : Nat) (x1 : Int32) (σ : Me) : Cor Ω tc12_tries 142 0 0 [vR (some a0), vI x1] σ ιV (fc12_tries N a0 x1 σ) := by
  refine Cor.of (by decide +kernel) (Nat.le_of_ble_eq_true rfl) (fun Γ hG => ?_)
  unfold fc12_tries
  show Sim Ω Γ 0 0 ιV 2 0 [(0, vR (some a0)), (1, vI x1)] [] σ 0 0 _
  refine s_aload_n hG dc12_tries_0 rfl ?_
  refine s_getR hG kFc12_55 rfl dc12_tries_1 (fun v1 => ?_)
  refine s_aload_n hG dc12_tries_4 rfl ?_
  refine s_getR hG kFc12_58 rfl dc12_tries_5 (fun v5 => ?_)
  refine s_callSv hG kMc12_345 (corc12_copy N _ _ _) rfl (by first | decide | omega) dc12_tries_8 rfl rfl (Nat.le_of_ble_eq_true rfl) ⟨Nat.le_of_ble_eq_true rfl, Nat.le_of_ble_eq_true rfl⟩ (fun p8 => ?_)
  refine s_aload_n hG dc12_tries_11 rfl ?_
  refine s_aload_n hG dc12_tries_12 rfl ?_
  refine s_getR hG kFc12_58 rfl dc12_tries_13 (fun v13 => ?_)
  refine s_iload_n hG dc12_tries_16 rfl ?_
  refine s_callVv hG kMc12_349 (fun a => corc12_goYear N a _ _ _) ⟨by decide, rfl⟩ rfl (by first | decide | omega) dc12_tries_17 rfl rfl (Nat.le_of_ble_eq_true rfl) ⟨Nat.le_of_ble_eq_true rfl, Nat.le_of_ble_eq_true rfl⟩ (fun p17 => ?_)
  exact s_vret hG dc12_tries_20 rfl (Nat.le_of_ble_eq_true rfl) (Nat.le_of_ble_eq_true rfl)
def fc12_falls (N : Nat) (a0 : Nat) (x1 : Int32) (x2 : Int32) (σ : Me) : Option (Int32 × Me) :=
  (pI σ 12 0 (some a0) (0 : Int32)).bind fun σ2 =>
  (dr σ2 (some a0) (.inl 12)).bind fun a =>
  (fc12_isField N a x1 σ2).bind fun p7 =>
  if p7.1 = 0 then
    some ((-1 : Int32), p7.2)
  else
    (fc12_isRain N x2 p7.2).bind fun p14 =>
    if p14.1 = 0 then
      some ((-1 : Int32), p14.2)
    else
      (dr p14.2 (some a0) (.inl 12)).bind fun a =>
      (fc12_tries N a x2 p14.2).bind fun p24 =>
      (qR p24.2 12 34 (some a0)).bind fun v28 =>
      (ldI p24.2 v28 x1).bind fun v32 =>
      some (v32, p24.2)
set_option maxRecDepth 20000 in
set_option maxHeartbeats 2000000 in
theorem corc12_falls {Ω : Om} (N : Nat) (a0 : Nat) (x1 : Int32) (x2 : Int32) (σ : Me) : Cor Ω tc12_falls 143 0 0 [vR (some a0), vI x1, vI x2] σ ιI (fc12_falls N a0 x1 x2 σ) := by
  refine Cor.of (by decide +kernel) (Nat.le_of_ble_eq_true rfl) (fun Γ hG => ?_)
  unfold fc12_falls
  show Sim Ω Γ 0 0 ιI 3 0 [(0, vR (some a0)), (1, vI x1), (2, vI x2)] [] σ 0 0 _
  refine s_aload_n hG dc12_falls_0 rfl ?_
  refine s_iconst (v := 0) hG dc12_falls_1 (by decide) ?_
  refine s_putI (fin := false) hG kFc12_100 rfl (fun h => by cases h) rfl (fun _ => rfl) (fun _ => rfl) dc12_falls_2 (fun σ2 => ?_)
  refine s_aload_n hG dc12_falls_5 rfl ?_
  refine s_iload_n hG dc12_falls_6 rfl ?_
  refine s_callVi hG kMc12_353 (fun a => corc12_isField N a _ _) ⟨by decide, rfl⟩ rfl (by first | decide | omega) dc12_falls_7 rfl rfl (Nat.le_of_ble_eq_true rfl) ⟨Nat.le_of_ble_eq_true rfl, Nat.le_of_ble_eq_true rfl⟩ (fun p7 => ?_)
  refine s_if_eq hG 20 dc12_falls_10 (by decide) ?_ ?_
  · refine s_iconst (v := -1) hG dc12_falls_20 (by decide) ?_
    exact s_iret hG dc12_falls_21 rfl (Nat.le_of_ble_eq_true rfl) (Nat.le_of_ble_eq_true rfl)
  · refine s_iload_n hG dc12_falls_13 rfl ?_
    refine s_callSi hG kMc12_363 (corc12_isRain N _ _) rfl (by first | decide | omega) dc12_falls_14 rfl rfl (Nat.le_of_ble_eq_true rfl) ⟨Nat.le_of_ble_eq_true rfl, Nat.le_of_ble_eq_true rfl⟩ (fun p14 => ?_)
    refine s_if_ne hG 22 dc12_falls_17 (by decide) ?_ ?_
    · refine s_aload_n hG dc12_falls_22 rfl ?_
      refine s_iload_n hG dc12_falls_23 rfl ?_
      refine s_callVv hG kMc12_425 (fun a => corc12_tries N a _ _) ⟨by decide, rfl⟩ rfl (by first | decide | omega) dc12_falls_24 rfl rfl (Nat.le_of_ble_eq_true rfl) ⟨Nat.le_of_ble_eq_true rfl, Nat.le_of_ble_eq_true rfl⟩ (fun p24 => ?_)
      refine s_aload_n hG dc12_falls_27 rfl ?_
      refine s_getR hG kFc12_72 rfl dc12_falls_28 (fun v28 => ?_)
      refine s_iload_n hG dc12_falls_31 rfl ?_
      refine s_iald hG dc12_falls_32 (fun v32 => ?_)
      exact s_iret hG dc12_falls_33 rfl (Nat.le_of_ble_eq_true rfl) (Nat.le_of_ble_eq_true rfl)
    · refine s_iconst (v := -1) hG dc12_falls_20 (by decide) ?_
      exact s_iret hG dc12_falls_21 rfl (Nat.le_of_ble_eq_true rfl) (Nat.le_of_ble_eq_true rfl)
def fc12_drowns (N : Nat) (a0 : Nat) (x1 : Int32) (σ : Me) : Option (Int32 × Me) :=
  (pI σ 12 0 (some a0) (0 : Int32)).bind fun σ2 =>
  (qI σ2 12 24 (some a0)).bind fun v6 =>
  if v6 = 0 then
    some ((-1 : Int32), σ2)
  else
    (fc12_isRain N x1 σ2).bind fun p13 =>
    if p13.1 = 0 then
      some ((-1 : Int32), p13.2)
    else
      (dr p13.2 (some a0) (.inl 12)).bind fun a =>
      (fc12_tries N a x1 p13.2).bind fun p23 =>
      (qI p23.2 12 36 (some a0)).bind fun v27 =>
      some (v27, p23.2)
set_option maxRecDepth 20000 in
set_option maxHeartbeats 2000000 in
theorem corc12_drowns {Ω : Om} (N : Nat) (a0 : Nat) (x1 : Int32) (σ : Me) : Cor Ω tc12_drowns 143 0 0 [vR (some a0), vI x1] σ ιI (fc12_drowns N a0 x1 σ) := by
  refine Cor.of (by decide +kernel) (Nat.le_of_ble_eq_true rfl) (fun Γ hG => ?_)
  unfold fc12_drowns
  show Sim Ω Γ 0 0 ιI 2 0 [(0, vR (some a0)), (1, vI x1)] [] σ 0 0 _
  refine s_aload_n hG dc12_drowns_0 rfl ?_
  refine s_iconst (v := 0) hG dc12_drowns_1 (by decide) ?_
  refine s_putI (fin := false) hG kFc12_100 rfl (fun h => by cases h) rfl (fun _ => rfl) (fun _ => rfl) dc12_drowns_2 (fun σ2 => ?_)
  refine s_aload_n hG dc12_drowns_5 rfl ?_
  refine s_getI hG kFc12_290 rfl dc12_drowns_6 (fun v6 => ?_)
  refine s_if_eq hG 19 dc12_drowns_9 (by decide) ?_ ?_
  · refine s_iconst (v := -1) hG dc12_drowns_19 (by decide) ?_
    exact s_iret hG dc12_drowns_20 rfl (Nat.le_of_ble_eq_true rfl) (Nat.le_of_ble_eq_true rfl)
  · refine s_iload_n hG dc12_drowns_12 rfl ?_
    refine s_callSi hG kMc12_363 (corc12_isRain N _ _) rfl (by first | decide | omega) dc12_drowns_13 rfl rfl (Nat.le_of_ble_eq_true rfl) ⟨Nat.le_of_ble_eq_true rfl, Nat.le_of_ble_eq_true rfl⟩ (fun p13 => ?_)
    refine s_if_ne hG 21 dc12_drowns_16 (by decide) ?_ ?_
    · refine s_aload_n hG dc12_drowns_21 rfl ?_
      refine s_iload_n hG dc12_drowns_22 rfl ?_
      refine s_callVv hG kMc12_425 (fun a => corc12_tries N a _ _) ⟨by decide, rfl⟩ rfl (by first | decide | omega) dc12_drowns_23 rfl rfl (Nat.le_of_ble_eq_true rfl) ⟨Nat.le_of_ble_eq_true rfl, Nat.le_of_ble_eq_true rfl⟩ (fun p23 => ?_)
      refine s_aload_n hG dc12_drowns_26 rfl ?_
      refine s_getI hG kFc12_339 rfl dc12_drowns_27 (fun v27 => ?_)
      exact s_iret hG dc12_drowns_30 rfl (Nat.le_of_ble_eq_true rfl) (Nat.le_of_ble_eq_true rfl)
    · refine s_iconst (v := -1) hG dc12_drowns_19 (by decide) ?_
      exact s_iret hG dc12_drowns_20 rfl (Nat.le_of_ble_eq_true rfl) (Nat.le_of_ble_eq_true rfl)
def fc12_harvest (N : Nat) (a0 : Nat) (x1 : Int32) (σ : Me) : Option (Int32 × Me) :=
  (pI σ 12 0 (some a0) (0 : Int32)).bind fun σ2 =>
  (qI σ2 12 24 (some a0)).bind fun v6 =>
  if v6 = 0 then
    some ((-1 : Int32), σ2)
  else
    (fc12_isRain N x1 σ2).bind fun p13 =>
    if p13.1 = 0 then
      some ((-1 : Int32), p13.2)
    else
      (dr p13.2 (some a0) (.inl 12)).bind fun a =>
      (fc12_tries N a x1 p13.2).bind fun p23 =>
      (qI p23.2 12 37 (some a0)).bind fun v27 =>
      some (v27, p23.2)
set_option maxRecDepth 20000 in
set_option maxHeartbeats 2000000 in
theorem corc12_harvest {Ω : Om} (N : Nat) (a0 : Nat) (x1 : Int32) (σ : Me) : Cor Ω tc12_harvest 143 0 0 [vR (some a0), vI x1] σ ιI (fc12_harvest N a0 x1 σ) := by
  refine Cor.of (by decide +kernel) (Nat.le_of_ble_eq_true rfl) (fun Γ hG => ?_)
  unfold fc12_harvest
  show Sim Ω Γ 0 0 ιI 2 0 [(0, vR (some a0)), (1, vI x1)] [] σ 0 0 _
  refine s_aload_n hG dc12_harvest_0 rfl ?_
  refine s_iconst (v := 0) hG dc12_harvest_1 (by decide) ?_
  refine s_putI (fin := false) hG kFc12_100 rfl (fun h => by cases h) rfl (fun _ => rfl) (fun _ => rfl) dc12_harvest_2 (fun σ2 => ?_)
  refine s_aload_n hG dc12_harvest_5 rfl ?_
  refine s_getI hG kFc12_290 rfl dc12_harvest_6 (fun v6 => ?_)
  refine s_if_eq hG 19 dc12_harvest_9 (by decide) ?_ ?_
  · refine s_iconst (v := -1) hG dc12_harvest_19 (by decide) ?_
    exact s_iret hG dc12_harvest_20 rfl (Nat.le_of_ble_eq_true rfl) (Nat.le_of_ble_eq_true rfl)
  · refine s_iload_n hG dc12_harvest_12 rfl ?_
    refine s_callSi hG kMc12_363 (corc12_isRain N _ _) rfl (by first | decide | omega) dc12_harvest_13 rfl rfl (Nat.le_of_ble_eq_true rfl) ⟨Nat.le_of_ble_eq_true rfl, Nat.le_of_ble_eq_true rfl⟩ (fun p13 => ?_)
    refine s_if_ne hG 21 dc12_harvest_16 (by decide) ?_ ?_
    · refine s_aload_n hG dc12_harvest_21 rfl ?_
      refine s_iload_n hG dc12_harvest_22 rfl ?_
      refine s_callVv hG kMc12_425 (fun a => corc12_tries N a _ _) ⟨by decide, rfl⟩ rfl (by first | decide | omega) dc12_harvest_23 rfl rfl (Nat.le_of_ble_eq_true rfl) ⟨Nat.le_of_ble_eq_true rfl, Nat.le_of_ble_eq_true rfl⟩ (fun p23 => ?_)
      refine s_aload_n hG dc12_harvest_26 rfl ?_
      refine s_getI hG kFc12_342 rfl dc12_harvest_27 (fun v27 => ?_)
      exact s_iret hG dc12_harvest_30 rfl (Nat.le_of_ble_eq_true rfl) (Nat.le_of_ble_eq_true rfl)
    · refine s_iconst (v := -1) hG dc12_harvest_19 (by decide) ?_
      exact s_iret hG dc12_harvest_20 rfl (Nat.le_of_ble_eq_true rfl) (Nat.le_of_ble_eq_true rfl)
def fc12_safe_17 (N : Nat) : Nat → Option Nat → Int32 → Me → Option (Int32 × Me)
  | 0, _, _, _ => none
  | n + 1, l0, l1, σ =>
    if l1 < 0 then
      some ((-1 : Int32), σ)
    else
      (dr σ l0 (.inl 12)).bind fun a =>
      (fc12_tries N a l1 σ).bind fun p23 =>
      (qI p23.2 12 36 l0).bind fun v27 =>
      if v27 = 0 then
        some (l1, p23.2)
      else
        (fc12_safe_17 N n) l0 (l1 + (-1 : Int32)) p23.2
def fc12_safe (N : Nat) (a0 : Nat) (σ : Me) : Option (Int32 × Me) :=
  (pI σ 12 0 (some a0) (0 : Int32)).bind fun σ2 =>
  (qI σ2 12 24 (some a0)).bind fun v6 =>
  if v6 = 0 then
    some ((-1 : Int32), σ2)
  else
    fc12_safe_17 N N (some a0) (99 : Int32) σ2
set_option maxRecDepth 20000 in
set_option maxHeartbeats 2000000 in
theorem pc12_safe_17 {Ω : Om} {Γ : Ga} {N : Nat} (hG : Good Ω Γ tc12_safe 143 0 0)  : ∀ (n : Nat) (l0 : Option Nat) (l1 : Int32) (σ : Me), Sim Ω Γ 0 0 ιI 2 17 [(0, vR l0), (1, vI l1)] [] σ 0 0 (fc12_safe_17 N n l0 l1 σ) := by
  intro n
  induction n with
  | zero => intros; exact s_none
  | succ n ih =>
    intro l0 l1 σ
    unfold fc12_safe_17
    refine s_iload_n hG dc12_safe_17 rfl ?_
    refine s_if_lt hG 41 dc12_safe_18 (by decide) ?_ ?_
    · refine s_iconst (v := -1) hG dc12_safe_41 (by decide) ?_
      exact s_iret hG dc12_safe_42 rfl (Nat.le_of_ble_eq_true rfl) (Nat.le_of_ble_eq_true rfl)
    · refine s_aload_n hG dc12_safe_21 rfl ?_
      refine s_iload_n hG dc12_safe_22 rfl ?_
      refine s_callVv hG kMc12_425 (fun a => corc12_tries N a _ _) ⟨by decide, rfl⟩ rfl (by first | decide | omega) dc12_safe_23 rfl rfl (Nat.le_of_ble_eq_true rfl) ⟨Nat.le_of_ble_eq_true rfl, Nat.le_of_ble_eq_true rfl⟩ (fun p23 => ?_)
      refine s_aload_n hG dc12_safe_26 rfl ?_
      refine s_getI hG kFc12_339 rfl dc12_safe_27 (fun v27 => ?_)
      refine s_if_ne hG 35 dc12_safe_30 (by decide) ?_ ?_
      · refine s_iinc (v := -1) hG dc12_safe_35 rfl (by decide) (by decide) ?_
        refine s_goto hG 17 dc12_safe_38 (by decide) ?_
        exact s_lv (lc rfl (lc rfl ln)) (ih _ _ _)
      · refine s_iload_n hG dc12_safe_33 rfl ?_
        exact s_iret hG dc12_safe_34 rfl (Nat.le_of_ble_eq_true rfl) (Nat.le_of_ble_eq_true rfl)
set_option maxRecDepth 20000 in
set_option maxHeartbeats 2000000 in
theorem corc12_safe {Ω : Om} (N : Nat) (a0 : Nat) (σ : Me) : Cor Ω tc12_safe 143 0 0 [vR (some a0)] σ ιI (fc12_safe N a0 σ) := by
  refine Cor.of (by decide +kernel) (Nat.le_of_ble_eq_true rfl) (fun Γ hG => ?_)
  unfold fc12_safe
  show Sim Ω Γ 0 0 ιI 2 0 [(0, vR (some a0))] [] σ 0 0 _
  refine s_aload_n hG dc12_safe_0 rfl ?_
  refine s_iconst (v := 0) hG dc12_safe_1 (by decide) ?_
  refine s_putI (fin := false) hG kFc12_100 rfl (fun h => by cases h) rfl (fun _ => rfl) (fun _ => rfl) dc12_safe_2 (fun σ2 => ?_)
  refine s_aload_n hG dc12_safe_5 rfl ?_
  refine s_getI hG kFc12_290 rfl dc12_safe_6 (fun v6 => ?_)
  refine s_if_ne hG 14 dc12_safe_9 (by decide) ?_ ?_
  · refine s_bipush (v := 99) hG dc12_safe_14 (by decide) ?_
    refine s_istore_n hG dc12_safe_16 (by decide) ?_
    exact s_lv (lc rfl (lc rfl ln)) (pc12_safe_17 hG _ _ _ _)
  · refine s_iconst (v := -1) hG dc12_safe_12 (by decide) ?_
    exact s_iret hG dc12_safe_13 rfl (Nat.le_of_ble_eq_true rfl) (Nat.le_of_ble_eq_true rfl)
def fc12_least_123 (N : Nat) (K33 : Option Nat → Int32 → Int32 → Int32 → Me → Option (Int32 × Me)) (K43 : Option Nat → Int32 → Int32 → Int32 → Int32 → Me → Option (Int32 × Me)) (l0 : Option Nat) (l1 : Int32) (l2 : Int32) (l3 : Int32) (l4 : Int32) (σ : Me) : Option (Int32 × Me) :=
  K43 l0 l1 l2 l3 (l4 + (1 : Int32)) σ
def fc12_least_43 (N : Nat) (K33 : Option Nat → Int32 → Int32 → Int32 → Me → Option (Int32 × Me)) : Nat → Option Nat → Int32 → Int32 → Int32 → Int32 → Me → Option (Int32 × Me)
  | 0, _, _, _, _, _, _ => none
  | n + 1, l0, l1, l2, l3, l4, σ =>
    (qI σ 12 24 l0).bind fun v46 =>
    if v46 ≤ l4 then
      K33 l0 l1 l2 (l3 + (1 : Int32)) σ
    else
      (qR σ 12 28 l0).bind fun v53 =>
      (ldI σ v53 (((4 : Int32) * l4) + (0 : Int32))).bind fun v62 =>
      if l3 ≤ v62 then
        (qR σ 12 28 l0).bind fun v71 =>
        (qR σ 12 29 l0).bind fun v75 =>
        (fc12_copy N v71 v75 σ).bind fun p78 =>
        (qR p78.2 12 29 l0).bind fun v82 =>
        (ldI p78.2 v82 (((4 : Int32) * l4) + (0 : Int32))).bind fun v92 =>
        (stI p78.2 v82 (((4 : Int32) * l4) + (0 : Int32)) (v92 - l3)).bind fun σ95 =>
        (qR σ95 12 29 l0).bind fun v98 =>
        (dr σ95 l0 (.inl 12)).bind fun a =>
        (fc12_goYear N a v98 l1 σ95).bind fun p102 =>
        (qI p102.2 12 36 l0).bind fun v106 =>
        if v106 = 0 then
          if l2 = 0 then
            some (l4, p102.2)
          else
            some (l3, p102.2)
        else
          fc12_least_123 N K33 (fc12_least_43 N K33 n) l0 l1 l2 l3 l4 p102.2
      else
        fc12_least_123 N K33 (fc12_least_43 N K33 n) l0 l1 l2 l3 l4 σ
def fc12_least_33 (N : Nat) : Nat → Option Nat → Int32 → Int32 → Int32 → Me → Option (Int32 × Me)
  | 0, _, _, _, _, _ => none
  | n + 1, l0, l1, l2, l3, σ =>
    if (999 : Int32) < l3 then
      some ((-1 : Int32), σ)
    else
      fc12_least_43 N (fc12_least_33 N n) N l0 l1 l2 l3 (0 : Int32) σ
def fc12_least (N : Nat) (a0 : Nat) (x1 : Int32) (x2 : Int32) (σ : Me) : Option (Int32 × Me) :=
  (pI σ 12 0 (some a0) (0 : Int32)).bind fun σ2 =>
  (qI σ2 12 24 (some a0)).bind fun v6 =>
  if v6 = 0 then
    some ((-1 : Int32), σ2)
  else
    (fc12_isRain N x1 σ2).bind fun p13 =>
    if p13.1 = 0 then
      some ((-1 : Int32), p13.2)
    else
      (fc12_isIn N (Int32.toInt64 x2) (0 : Int64) (1 : Int64) p13.2).bind fun p23 =>
      if p23.1 = 0 then
        some ((-1 : Int32), p23.2)
      else
        fc12_least_33 N N (some a0) x1 x2 (0 : Int32) p23.2
set_option maxRecDepth 20000 in
set_option maxHeartbeats 2000000 in
theorem pc12_least_123 {Ω : Om} {Γ : Ga} {N : Nat} (hG : Good Ω Γ tc12_least 142 0 0) {K33 : Option Nat → Int32 → Int32 → Int32 → Me → Option (Int32 × Me)} {K43 : Option Nat → Int32 → Int32 → Int32 → Int32 → Me → Option (Int32 × Me)} (hK33 : ∀ (l0 : Option Nat) (l1 : Int32) (l2 : Int32) (l3 : Int32) (σ : Me), Sim Ω Γ 0 0 ιI 5 33 [(0, vR l0), (1, vI l1), (2, vI l2), (3, vI l3)] [] σ 0 0 (K33 l0 l1 l2 l3 σ)) (hK43 : ∀ (l0 : Option Nat) (l1 : Int32) (l2 : Int32) (l3 : Int32) (l4 : Int32) (σ : Me), Sim Ω Γ 0 0 ιI 5 43 [(0, vR l0), (1, vI l1), (2, vI l2), (3, vI l3), (4, vI l4)] [] σ 0 0 (K43 l0 l1 l2 l3 l4 σ)) (l0 : Option Nat) (l1 : Int32) (l2 : Int32) (l3 : Int32) (l4 : Int32) (σ : Me) : Sim Ω Γ 0 0 ιI 5 123 [(0, vR l0), (1, vI l1), (2, vI l2), (3, vI l3), (4, vI l4)] [] σ 0 0 (fc12_least_123 N K33 K43 l0 l1 l2 l3 l4 σ) := by
  unfold fc12_least_123
  refine s_iinc (v := 1) hG dc12_least_123 rfl (by decide) (by decide) ?_
  refine s_goto hG 43 dc12_least_126 (by decide) ?_
  exact s_lv (lc rfl (lc rfl (lc rfl (lc rfl (lc rfl ln))))) (hK43 _ _ _ _ _ _)
set_option maxRecDepth 20000 in
set_option maxHeartbeats 2000000 in
theorem pc12_least_43 {Ω : Om} {Γ : Ga} {N : Nat} (hG : Good Ω Γ tc12_least 142 0 0) {K33 : Option Nat → Int32 → Int32 → Int32 → Me → Option (Int32 × Me)} (hK33 : ∀ (l0 : Option Nat) (l1 : Int32) (l2 : Int32) (l3 : Int32) (σ : Me), Sim Ω Γ 0 0 ιI 5 33 [(0, vR l0), (1, vI l1), (2, vI l2), (3, vI l3)] [] σ 0 0 (K33 l0 l1 l2 l3 σ))  : ∀ (n : Nat) (l0 : Option Nat) (l1 : Int32) (l2 : Int32) (l3 : Int32) (l4 : Int32) (σ : Me), Sim Ω Γ 0 0 ιI 5 43 [(0, vR l0), (1, vI l1), (2, vI l2), (3, vI l3), (4, vI l4)] [] σ 0 0 (fc12_least_43 N K33 n l0 l1 l2 l3 l4 σ) := by
  intro n
  induction n with
  | zero => intros; exact s_none
  | succ n ih =>
    intro l0 l1 l2 l3 l4 σ
    unfold fc12_least_43
    refine s_iload hG dc12_least_43 rfl ?_
    refine s_aload_n hG dc12_least_45 rfl ?_
    refine s_getI hG kFc12_290 rfl dc12_least_46 (fun v46 => ?_)
    refine s_icmp_ge hG 129 dc12_least_49 (by decide) ?_ ?_
    · refine s_iinc (v := 1) hG dc12_least_129 rfl (by decide) (by decide) ?_
      refine s_goto hG 33 dc12_least_132 (by decide) ?_
      exact s_lv (lc rfl (lc rfl (lc rfl (lc rfl ln)))) (hK33 _ _ _ _ _)
    · refine s_aload_n hG dc12_least_52 rfl ?_
      refine s_getR hG kFc12_55 rfl dc12_least_53 (fun v53 => ?_)
      refine s_iconst (v := 4) hG dc12_least_56 (by decide) ?_
      refine s_iload hG dc12_least_57 rfl ?_
      refine s_imul hG dc12_least_59 ?_
      refine s_iconst (v := 0) hG dc12_least_60 (by decide) ?_
      refine s_iadd hG dc12_least_61 ?_
      refine s_iald hG dc12_least_62 (fun v62 => ?_)
      refine s_iload_n hG dc12_least_63 rfl ?_
      refine s_icmp_ge hG 70 dc12_least_64 (by decide) ?_ ?_
      · refine s_aload_n hG dc12_least_70 rfl ?_
        refine s_getR hG kFc12_55 rfl dc12_least_71 (fun v71 => ?_)
        refine s_aload_n hG dc12_least_74 rfl ?_
        refine s_getR hG kFc12_58 rfl dc12_least_75 (fun v75 => ?_)
        refine s_callSv hG kMc12_345 (corc12_copy N _ _ _) rfl (by first | decide | omega) dc12_least_78 rfl rfl (Nat.le_of_ble_eq_true rfl) ⟨Nat.le_of_ble_eq_true rfl, Nat.le_of_ble_eq_true rfl⟩ (fun p78 => ?_)
        refine s_aload_n hG dc12_least_81 rfl ?_
        refine s_getR hG kFc12_58 rfl dc12_least_82 (fun v82 => ?_)
        refine s_iconst (v := 4) hG dc12_least_85 (by decide) ?_
        refine s_iload hG dc12_least_86 rfl ?_
        refine s_imul hG dc12_least_88 ?_
        refine s_iconst (v := 0) hG dc12_least_89 (by decide) ?_
        refine s_iadd hG dc12_least_90 ?_
        refine s_dup2 hG dc12_least_91 rfl rfl ?_
        refine s_iald hG dc12_least_92 (fun v92 => ?_)
        refine s_iload_n hG dc12_least_93 rfl ?_
        refine s_isub hG dc12_least_94 ?_
        refine s_iast hG dc12_least_95 (fun σ95 => ?_)
        refine s_aload_n hG dc12_least_96 rfl ?_
        refine s_aload_n hG dc12_least_97 rfl ?_
        refine s_getR hG kFc12_58 rfl dc12_least_98 (fun v98 => ?_)
        refine s_iload_n hG dc12_least_101 rfl ?_
        refine s_callVv hG kMc12_349 (fun a => corc12_goYear N a _ _ _) ⟨by decide, rfl⟩ rfl (by first | decide | omega) dc12_least_102 rfl rfl (Nat.le_of_ble_eq_true rfl) ⟨Nat.le_of_ble_eq_true rfl, Nat.le_of_ble_eq_true rfl⟩ (fun p102 => ?_)
        refine s_aload_n hG dc12_least_105 rfl ?_
        refine s_getI hG kFc12_339 rfl dc12_least_106 (fun v106 => ?_)
        refine s_if_ne hG 123 dc12_least_109 (by decide) ?_ ?_
        · exact s_lv (lc rfl (lc rfl (lc rfl (lc rfl (lc rfl ln))))) (pc12_least_123 hG hK33 ih _ _ _ _ _ _)
        · refine s_iload_n hG dc12_least_112 rfl ?_
          refine s_if_ne hG 121 dc12_least_113 (by decide) ?_ ?_
          · refine s_iload_n hG dc12_least_121 rfl ?_
            exact s_iret hG dc12_least_122 rfl (Nat.le_of_ble_eq_true rfl) (Nat.le_of_ble_eq_true rfl)
          · refine s_iload hG dc12_least_116 rfl ?_
            refine s_goto hG 122 dc12_least_118 (by decide) ?_
            exact s_iret hG dc12_least_122 rfl (Nat.le_of_ble_eq_true rfl) (Nat.le_of_ble_eq_true rfl)
      · refine s_goto hG 123 dc12_least_67 (by decide) ?_
        exact s_lv (lc rfl (lc rfl (lc rfl (lc rfl (lc rfl ln))))) (pc12_least_123 hG hK33 ih _ _ _ _ _ _)
set_option maxRecDepth 20000 in
set_option maxHeartbeats 2000000 in
theorem pc12_least_33 {Ω : Om} {Γ : Ga} {N : Nat} (hG : Good Ω Γ tc12_least 142 0 0)  : ∀ (n : Nat) (l0 : Option Nat) (l1 : Int32) (l2 : Int32) (l3 : Int32) (σ : Me), Sim Ω Γ 0 0 ιI 5 33 [(0, vR l0), (1, vI l1), (2, vI l2), (3, vI l3)] [] σ 0 0 (fc12_least_33 N n l0 l1 l2 l3 σ) := by
  intro n
  induction n with
  | zero => intros; exact s_none
  | succ n ih =>
    intro l0 l1 l2 l3 σ
    unfold fc12_least_33
    refine s_iload_n hG dc12_least_33 rfl ?_
    refine s_sipush (v := 999) hG dc12_least_34 (by decide) ?_
    refine s_icmp_gt hG 135 dc12_least_37 (by decide) ?_ ?_
    · refine s_iconst (v := -1) hG dc12_least_135 (by decide) ?_
      exact s_iret hG dc12_least_136 rfl (Nat.le_of_ble_eq_true rfl) (Nat.le_of_ble_eq_true rfl)
    · refine s_iconst (v := 0) hG dc12_least_40 (by decide) ?_
      refine s_istore hG dc12_least_41 (by decide) ?_
      exact s_lv (lc rfl (lc rfl (lc rfl (lc rfl (lc rfl ln))))) (pc12_least_43 hG ih _ _ _ _ _ _ _)
set_option maxRecDepth 20000 in
set_option maxHeartbeats 2000000 in
theorem corc12_least {Ω : Om} (N : Nat) (a0 : Nat) (x1 : Int32) (x2 : Int32) (σ : Me) : Cor Ω tc12_least 142 0 0 [vR (some a0), vI x1, vI x2] σ ιI (fc12_least N a0 x1 x2 σ) := by
  refine Cor.of (by decide +kernel) (Nat.le_of_ble_eq_true rfl) (fun Γ hG => ?_)
  unfold fc12_least
  show Sim Ω Γ 0 0 ιI 5 0 [(0, vR (some a0)), (1, vI x1), (2, vI x2)] [] σ 0 0 _
  refine s_aload_n hG dc12_least_0 rfl ?_
  refine s_iconst (v := 0) hG dc12_least_1 (by decide) ?_
  refine s_putI (fin := false) hG kFc12_100 rfl (fun h => by cases h) rfl (fun _ => rfl) (fun _ => rfl) dc12_least_2 (fun σ2 => ?_)
  refine s_aload_n hG dc12_least_5 rfl ?_
  refine s_getI hG kFc12_290 rfl dc12_least_6 (fun v6 => ?_)
  refine s_if_eq hG 29 dc12_least_9 (by decide) ?_ ?_
  · refine s_iconst (v := -1) hG dc12_least_29 (by decide) ?_
    exact s_iret hG dc12_least_30 rfl (Nat.le_of_ble_eq_true rfl) (Nat.le_of_ble_eq_true rfl)
  · refine s_iload_n hG dc12_least_12 rfl ?_
    refine s_callSi hG kMc12_363 (corc12_isRain N _ _) rfl (by first | decide | omega) dc12_least_13 rfl rfl (Nat.le_of_ble_eq_true rfl) ⟨Nat.le_of_ble_eq_true rfl, Nat.le_of_ble_eq_true rfl⟩ (fun p13 => ?_)
    refine s_if_eq hG 29 dc12_least_16 (by decide) ?_ ?_
    · refine s_iconst (v := -1) hG dc12_least_29 (by decide) ?_
      exact s_iret hG dc12_least_30 rfl (Nat.le_of_ble_eq_true rfl) (Nat.le_of_ble_eq_true rfl)
    · refine s_iload_n hG dc12_least_19 rfl ?_
      refine s_i2l hG dc12_least_20 ?_
      refine s_lconst (v := 0) hG dc12_least_21 (by decide) ?_
      refine s_lconst (v := 1) hG dc12_least_22 (by decide) ?_
      refine s_callSi hG kMc12_221 (corc12_isIn N _ _ _ _) rfl (by first | decide | omega) dc12_least_23 rfl rfl (Nat.le_of_ble_eq_true rfl) ⟨Nat.le_of_ble_eq_true rfl, Nat.le_of_ble_eq_true rfl⟩ (fun p23 => ?_)
      refine s_if_ne hG 31 dc12_least_26 (by decide) ?_ ?_
      · refine s_iconst (v := 0) hG dc12_least_31 (by decide) ?_
        refine s_istore_n hG dc12_least_32 (by decide) ?_
        exact s_lv (lc rfl (lc rfl (lc rfl (lc rfl ln)))) (pc12_least_33 hG _ _ _ _ _ _)
      · refine s_iconst (v := -1) hG dc12_least_29 (by decide) ?_
        exact s_iret hG dc12_least_30 rfl (Nat.le_of_ble_eq_true rfl) (Nat.le_of_ble_eq_true rfl)
def fc12_best_174 (N : Nat) (l3 : Int32) (σ : Me) : Option (Int32 × Me) :=
  some (l3, σ)
def fc12_best_159 (N : Nat) (K39 : Option Nat → Int32 → Int32 → Int32 → Int32 → Int32 → Me → Option (Int32 × Me)) (l0 : Option Nat) (l1 : Int32) (l2 : Int32) (l3 : Int32) (l4 : Int32) (l5 : Int32) (σ : Me) : Option (Int32 × Me) :=
  K39 l0 l1 l2 l3 l4 (l5 + (1 : Int32)) σ
def fc12_best_150 (N : Nat) (K39 : Option Nat → Int32 → Int32 → Int32 → Int32 → Int32 → Me → Option (Int32 × Me)) (l0 : Option Nat) (l1 : Int32) (l2 : Int32) (l5 : Int32) (σ : Me) : Option (Int32 × Me) :=
  (qI σ 12 37 l0).bind fun v154 =>
  fc12_best_159 N K39 l0 l1 l2 l5 v154 l5 σ
def fc12_best_39 (N : Nat) : Nat → Option Nat → Int32 → Int32 → Int32 → Int32 → Int32 → Me → Option (Int32 × Me)
  | 0, _, _, _, _, _, _, _ => none
  | n + 1, l0, l1, l2, l3, l4, l5, σ =>
    (qI σ 12 24 l0).bind fun v44 =>
    if ((100 : Int32) * v44) ≤ l5 then
      if l3 = (-1 : Int32) then
        fc12_best_174 N l3 σ
      else
        if l2 = 0 then
          fc12_best_174 N l3 σ
        else
          some (l4, σ)
    else
      (dvI l5 (100 : Int32)).bind fun v55 =>
      (dvI l5 (10 : Int32)).bind fun v62 =>
      (rmI v62 (10 : Int32)).bind fun v65 =>
      (rmI l5 (10 : Int32)).bind fun v72 =>
      if v72 = 0 then
        fc12_best_159 N (fc12_best_39 N n) l0 l1 l2 l3 l4 l5 σ
      else
        (qR σ 12 28 l0).bind fun v82 =>
        (dr σ l0 (.inl 12)).bind fun a =>
        (fc12_canSell N a v82 v55 v65 v72 σ).bind fun p91 =>
        if p91.1 = 0 then
          fc12_best_159 N (fc12_best_39 N n) l0 l1 l2 l3 l4 l5 p91.2
        else
          (qR p91.2 12 28 l0).bind fun v101 =>
          (qR p91.2 12 29 l0).bind fun v105 =>
          (fc12_copy N v101 v105 p91.2).bind fun p108 =>
          (qR p108.2 12 29 l0).bind fun v112 =>
          (fc12_sells N v112 v55 v65 v72 p108.2).bind fun p121 =>
          (qR p121.2 12 29 l0).bind fun v126 =>
          (dr p121.2 l0 (.inl 12)).bind fun a =>
          (fc12_goYear N a v126 l1 p121.2).bind fun p130 =>
          if l3 = (-1 : Int32) then
            fc12_best_150 N (fc12_best_39 N n) l0 l1 l2 l5 p130.2
          else
            (qI p130.2 12 37 l0).bind fun v139 =>
            if l4 < v139 then
              fc12_best_150 N (fc12_best_39 N n) l0 l1 l2 l5 p130.2
            else
              fc12_best_159 N (fc12_best_39 N n) l0 l1 l2 l3 l4 l5 p130.2
def fc12_best (N : Nat) (a0 : Nat) (x1 : Int32) (x2 : Int32) (σ : Me) : Option (Int32 × Me) :=
  (pI σ 12 0 (some a0) (0 : Int32)).bind fun σ2 =>
  (qI σ2 12 24 (some a0)).bind fun v6 =>
  if v6 = 0 then
    some ((-1 : Int32), σ2)
  else
    (fc12_isRain N x1 σ2).bind fun p13 =>
    if p13.1 = 0 then
      some ((-1 : Int32), p13.2)
    else
      (fc12_isIn N (Int32.toInt64 x2) (0 : Int64) (1 : Int64) p13.2).bind fun p23 =>
      if p23.1 = 0 then
        some ((-1 : Int32), p23.2)
      else
        fc12_best_39 N N (some a0) x1 x2 (-1 : Int32) (0 : Int32) (1 : Int32) p23.2
set_option maxRecDepth 20000 in
set_option maxHeartbeats 2000000 in
theorem pc12_best_174 {Ω : Om} {Γ : Ga} {N : Nat} (hG : Good Ω Γ tc12_best 142 0 0) (l3 : Int32) (σ : Me) : Sim Ω Γ 0 0 ιI 9 174 [(3, vI l3)] [] σ 0 0 (fc12_best_174 N l3 σ) := by
  unfold fc12_best_174
  refine s_iload_n hG dc12_best_174 rfl ?_
  refine s_goto hG 180 dc12_best_175 (by decide) ?_
  exact s_iret hG dc12_best_180 rfl (Nat.le_of_ble_eq_true rfl) (Nat.le_of_ble_eq_true rfl)
set_option maxRecDepth 20000 in
set_option maxHeartbeats 2000000 in
theorem pc12_best_159 {Ω : Om} {Γ : Ga} {N : Nat} (hG : Good Ω Γ tc12_best 142 0 0) {K39 : Option Nat → Int32 → Int32 → Int32 → Int32 → Int32 → Me → Option (Int32 × Me)} (hK39 : ∀ (l0 : Option Nat) (l1 : Int32) (l2 : Int32) (l3 : Int32) (l4 : Int32) (l5 : Int32) (σ : Me), Sim Ω Γ 0 0 ιI 9 39 [(0, vR l0), (1, vI l1), (2, vI l2), (3, vI l3), (4, vI l4), (5, vI l5)] [] σ 0 0 (K39 l0 l1 l2 l3 l4 l5 σ)) (l0 : Option Nat) (l1 : Int32) (l2 : Int32) (l3 : Int32) (l4 : Int32) (l5 : Int32) (σ : Me) : Sim Ω Γ 0 0 ιI 9 159 [(0, vR l0), (1, vI l1), (2, vI l2), (3, vI l3), (4, vI l4), (5, vI l5)] [] σ 0 0 (fc12_best_159 N K39 l0 l1 l2 l3 l4 l5 σ) := by
  unfold fc12_best_159
  refine s_iinc (v := 1) hG dc12_best_159 rfl (by decide) (by decide) ?_
  refine s_goto hG 39 dc12_best_162 (by decide) ?_
  exact s_lv (lc rfl (lc rfl (lc rfl (lc rfl (lc rfl (lc rfl ln)))))) (hK39 _ _ _ _ _ _ _)
set_option maxRecDepth 20000 in
set_option maxHeartbeats 2000000 in
theorem pc12_best_150 {Ω : Om} {Γ : Ga} {N : Nat} (hG : Good Ω Γ tc12_best 142 0 0) {K39 : Option Nat → Int32 → Int32 → Int32 → Int32 → Int32 → Me → Option (Int32 × Me)} (hK39 : ∀ (l0 : Option Nat) (l1 : Int32) (l2 : Int32) (l3 : Int32) (l4 : Int32) (l5 : Int32) (σ : Me), Sim Ω Γ 0 0 ιI 9 39 [(0, vR l0), (1, vI l1), (2, vI l2), (3, vI l3), (4, vI l4), (5, vI l5)] [] σ 0 0 (K39 l0 l1 l2 l3 l4 l5 σ)) (l0 : Option Nat) (l1 : Int32) (l2 : Int32) (l5 : Int32) (σ : Me) : Sim Ω Γ 0 0 ιI 9 150 [(0, vR l0), (1, vI l1), (2, vI l2), (5, vI l5)] [] σ 0 0 (fc12_best_150 N K39 l0 l1 l2 l5 σ) := by
  unfold fc12_best_150
  refine s_iload hG dc12_best_150 rfl ?_
  refine s_istore_n hG dc12_best_152 (by decide) ?_
  refine s_aload_n hG dc12_best_153 rfl ?_
  refine s_getI hG kFc12_342 rfl dc12_best_154 (fun v154 => ?_)
  refine s_istore hG dc12_best_157 (by decide) ?_
  exact s_lv (lc rfl (lc rfl (lc rfl (lc rfl (lc rfl (lc rfl ln)))))) (pc12_best_159 hG hK39 _ _ _ _ _ _ _)
set_option maxRecDepth 20000 in
set_option maxHeartbeats 2000000 in
theorem pc12_best_39 {Ω : Om} {Γ : Ga} {N : Nat} (hG : Good Ω Γ tc12_best 142 0 0)  : ∀ (n : Nat) (l0 : Option Nat) (l1 : Int32) (l2 : Int32) (l3 : Int32) (l4 : Int32) (l5 : Int32) (σ : Me), Sim Ω Γ 0 0 ιI 9 39 [(0, vR l0), (1, vI l1), (2, vI l2), (3, vI l3), (4, vI l4), (5, vI l5)] [] σ 0 0 (fc12_best_39 N n l0 l1 l2 l3 l4 l5 σ) := by
  intro n
  induction n with
  | zero => intros; exact s_none
  | succ n ih =>
    intro l0 l1 l2 l3 l4 l5 σ
    unfold fc12_best_39
    refine s_iload hG dc12_best_39 rfl ?_
    refine s_bipush (v := 100) hG dc12_best_41 (by decide) ?_
    refine s_aload_n hG dc12_best_43 rfl ?_
    refine s_getI hG kFc12_290 rfl dc12_best_44 (fun v44 => ?_)
    refine s_imul hG dc12_best_47 ?_
    refine s_icmp_ge hG 165 dc12_best_48 (by decide) ?_ ?_
    · refine s_iload_n hG dc12_best_165 rfl ?_
      refine s_iconst (v := -1) hG dc12_best_166 (by decide) ?_
      refine s_icmp_eq hG 174 dc12_best_167 (by decide) ?_ ?_
      · exact s_lv (lc rfl ln) (pc12_best_174 hG _ _)
      · refine s_iload_n hG dc12_best_170 rfl ?_
        refine s_if_ne hG 178 dc12_best_171 (by decide) ?_ ?_
        · refine s_iload hG dc12_best_178 rfl ?_
          exact s_iret hG dc12_best_180 rfl (Nat.le_of_ble_eq_true rfl) (Nat.le_of_ble_eq_true rfl)
        · exact s_lv (lc rfl ln) (pc12_best_174 hG _ _)
    · refine s_iload hG dc12_best_51 rfl ?_
      refine s_bipush (v := 100) hG dc12_best_53 (by decide) ?_
      refine s_idiv hG dc12_best_55 (fun v55 => ?_)
      refine s_istore hG dc12_best_56 (by decide) ?_
      refine s_iload hG dc12_best_58 rfl ?_
      refine s_bipush (v := 10) hG dc12_best_60 (by decide) ?_
      refine s_idiv hG dc12_best_62 (fun v62 => ?_)
      refine s_bipush (v := 10) hG dc12_best_63 (by decide) ?_
      refine s_irem hG dc12_best_65 (fun v65 => ?_)
      refine s_istore hG dc12_best_66 (by decide) ?_
      refine s_iload hG dc12_best_68 rfl ?_
      refine s_bipush (v := 10) hG dc12_best_70 (by decide) ?_
      refine s_irem hG dc12_best_72 (fun v72 => ?_)
      refine s_istore hG dc12_best_73 (by decide) ?_
      refine s_iload hG dc12_best_75 rfl ?_
      refine s_if_eq hG 159 dc12_best_77 (by decide) ?_ ?_
      · exact s_lv (lc rfl (lc rfl (lc rfl (lc rfl (lc rfl (lc rfl ln)))))) (pc12_best_159 hG ih _ _ _ _ _ _ _)
      · refine s_aload_n hG dc12_best_80 rfl ?_
        refine s_aload_n hG dc12_best_81 rfl ?_
        refine s_getR hG kFc12_55 rfl dc12_best_82 (fun v82 => ?_)
        refine s_iload hG dc12_best_85 rfl ?_
        refine s_iload hG dc12_best_87 rfl ?_
        refine s_iload hG dc12_best_89 rfl ?_
        refine s_callVi hG kMc12_371 (fun a => corc12_canSell N a _ _ _ _ _) ⟨by decide, rfl⟩ rfl (by first | decide | omega) dc12_best_91 rfl rfl (Nat.le_of_ble_eq_true rfl) ⟨Nat.le_of_ble_eq_true rfl, Nat.le_of_ble_eq_true rfl⟩ (fun p91 => ?_)
        refine s_if_ne hG 100 dc12_best_94 (by decide) ?_ ?_
        · refine s_aload_n hG dc12_best_100 rfl ?_
          refine s_getR hG kFc12_55 rfl dc12_best_101 (fun v101 => ?_)
          refine s_aload_n hG dc12_best_104 rfl ?_
          refine s_getR hG kFc12_58 rfl dc12_best_105 (fun v105 => ?_)
          refine s_callSv hG kMc12_345 (corc12_copy N _ _ _) rfl (by first | decide | omega) dc12_best_108 rfl rfl (Nat.le_of_ble_eq_true rfl) ⟨Nat.le_of_ble_eq_true rfl, Nat.le_of_ble_eq_true rfl⟩ (fun p108 => ?_)
          refine s_aload_n hG dc12_best_111 rfl ?_
          refine s_getR hG kFc12_58 rfl dc12_best_112 (fun v112 => ?_)
          refine s_iload hG dc12_best_115 rfl ?_
          refine s_iload hG dc12_best_117 rfl ?_
          refine s_iload hG dc12_best_119 rfl ?_
          refine s_callSv hG kMc12_375 (corc12_sells N _ _ _ _ _) rfl (by first | decide | omega) dc12_best_121 rfl rfl (Nat.le_of_ble_eq_true rfl) ⟨Nat.le_of_ble_eq_true rfl, Nat.le_of_ble_eq_true rfl⟩ (fun p121 => ?_)
          refine s_aload_n hG dc12_best_124 rfl ?_
          refine s_aload_n hG dc12_best_125 rfl ?_
          refine s_getR hG kFc12_58 rfl dc12_best_126 (fun v126 => ?_)
          refine s_iload_n hG dc12_best_129 rfl ?_
          refine s_callVv hG kMc12_349 (fun a => corc12_goYear N a _ _ _) ⟨by decide, rfl⟩ rfl (by first | decide | omega) dc12_best_130 rfl rfl (Nat.le_of_ble_eq_true rfl) ⟨Nat.le_of_ble_eq_true rfl, Nat.le_of_ble_eq_true rfl⟩ (fun p130 => ?_)
          refine s_iload_n hG dc12_best_133 rfl ?_
          refine s_iconst (v := -1) hG dc12_best_134 (by decide) ?_
          refine s_icmp_eq hG 150 dc12_best_135 (by decide) ?_ ?_
          · exact s_lv (lc rfl (lc rfl (lc rfl (lc rfl ln)))) (pc12_best_150 hG ih _ _ _ _ _)
          · refine s_aload_n hG dc12_best_138 rfl ?_
            refine s_getI hG kFc12_342 rfl dc12_best_139 (fun v139 => ?_)
            refine s_iload hG dc12_best_142 rfl ?_
            refine s_icmp_gt hG 150 dc12_best_144 (by decide) ?_ ?_
            · exact s_lv (lc rfl (lc rfl (lc rfl (lc rfl ln)))) (pc12_best_150 hG ih _ _ _ _ _)
            · refine s_goto hG 159 dc12_best_147 (by decide) ?_
              exact s_lv (lc rfl (lc rfl (lc rfl (lc rfl (lc rfl (lc rfl ln)))))) (pc12_best_159 hG ih _ _ _ _ _ _ _)
        · refine s_goto hG 159 dc12_best_97 (by decide) ?_
          exact s_lv (lc rfl (lc rfl (lc rfl (lc rfl (lc rfl (lc rfl ln)))))) (pc12_best_159 hG ih _ _ _ _ _ _ _)
set_option maxRecDepth 20000 in
set_option maxHeartbeats 2000000 in
theorem corc12_best {Ω : Om} (N : Nat) (a0 : Nat) (x1 : Int32) (x2 : Int32) (σ : Me) : Cor Ω tc12_best 142 0 0 [vR (some a0), vI x1, vI x2] σ ιI (fc12_best N a0 x1 x2 σ) := by
  refine Cor.of (by decide +kernel) (Nat.le_of_ble_eq_true rfl) (fun Γ hG => ?_)
  unfold fc12_best
  show Sim Ω Γ 0 0 ιI 9 0 [(0, vR (some a0)), (1, vI x1), (2, vI x2)] [] σ 0 0 _
  refine s_aload_n hG dc12_best_0 rfl ?_
  refine s_iconst (v := 0) hG dc12_best_1 (by decide) ?_
  refine s_putI (fin := false) hG kFc12_100 rfl (fun h => by cases h) rfl (fun _ => rfl) (fun _ => rfl) dc12_best_2 (fun σ2 => ?_)
  refine s_aload_n hG dc12_best_5 rfl ?_
  refine s_getI hG kFc12_290 rfl dc12_best_6 (fun v6 => ?_)
  refine s_if_eq hG 29 dc12_best_9 (by decide) ?_ ?_
  · refine s_iconst (v := -1) hG dc12_best_29 (by decide) ?_
    exact s_iret hG dc12_best_30 rfl (Nat.le_of_ble_eq_true rfl) (Nat.le_of_ble_eq_true rfl)
  · refine s_iload_n hG dc12_best_12 rfl ?_
    refine s_callSi hG kMc12_363 (corc12_isRain N _ _) rfl (by first | decide | omega) dc12_best_13 rfl rfl (Nat.le_of_ble_eq_true rfl) ⟨Nat.le_of_ble_eq_true rfl, Nat.le_of_ble_eq_true rfl⟩ (fun p13 => ?_)
    refine s_if_eq hG 29 dc12_best_16 (by decide) ?_ ?_
    · refine s_iconst (v := -1) hG dc12_best_29 (by decide) ?_
      exact s_iret hG dc12_best_30 rfl (Nat.le_of_ble_eq_true rfl) (Nat.le_of_ble_eq_true rfl)
    · refine s_iload_n hG dc12_best_19 rfl ?_
      refine s_i2l hG dc12_best_20 ?_
      refine s_lconst (v := 0) hG dc12_best_21 (by decide) ?_
      refine s_lconst (v := 1) hG dc12_best_22 (by decide) ?_
      refine s_callSi hG kMc12_221 (corc12_isIn N _ _ _ _) rfl (by first | decide | omega) dc12_best_23 rfl rfl (Nat.le_of_ble_eq_true rfl) ⟨Nat.le_of_ble_eq_true rfl, Nat.le_of_ble_eq_true rfl⟩ (fun p23 => ?_)
      refine s_if_ne hG 31 dc12_best_26 (by decide) ?_ ?_
      · refine s_iconst (v := -1) hG dc12_best_31 (by decide) ?_
        refine s_istore_n hG dc12_best_32 (by decide) ?_
        refine s_iconst (v := 0) hG dc12_best_33 (by decide) ?_
        refine s_istore hG dc12_best_34 (by decide) ?_
        refine s_iconst (v := 1) hG dc12_best_36 (by decide) ?_
        refine s_istore hG dc12_best_37 (by decide) ?_
        exact s_lv (lc rfl (lc rfl (lc rfl (lc rfl (lc rfl (lc rfl ln)))))) (pc12_best_39 hG _ _ _ _ _ _ _ _)
      · refine s_iconst (v := -1) hG dc12_best_29 (by decide) ?_
        exact s_iret hG dc12_best_30 rfl (Nat.le_of_ble_eq_true rfl) (Nat.le_of_ble_eq_true rfl)
def fc12_trades_201 (N : Nat) (K68 : Option Nat → Int32 → Int32 → Int32 → Int32 → Me → Option (Int32 × Me)) (l0 : Option Nat) (l1 : Int32) (l2 : Int32) (l3 : Int32) (l4 : Int32) (σ : Me) : Option (Int32 × Me) :=
  K68 l0 l1 l2 l3 (l4 + (1 : Int32)) σ
def fc12_trades_68 (N : Nat) : Nat → Option Nat → Int32 → Int32 → Int32 → Int32 → Me → Option (Int32 × Me)
  | 0, _, _, _, _, _, _ => none
  | n + 1, l0, l1, l2, l3, l4, σ =>
    (qI σ 12 24 l0).bind fun v73 =>
    if ((10 : Int32) * v73) ≤ l4 then
      if l2 = (-1 : Int32) then
        some (l3, σ)
      else
        some ((-1 : Int32), σ)
    else
      (dvI l4 (10 : Int32)).bind fun v84 =>
      (rmI l4 (10 : Int32)).bind fun v91 =>
      (qR σ 12 28 l0).bind fun v96 =>
      (dr σ l0 (.inl 12)).bind fun a =>
      (fc12_canSell N a v96 v84 v91 (1 : Int32) σ).bind fun p104 =>
      if p104.1 = 0 then
        fc12_trades_201 N (fc12_trades_68 N n) l0 l1 l2 l3 l4 p104.2
      else
        (qR p104.2 12 28 l0).bind fun v114 =>
        (qR p104.2 12 29 l0).bind fun v118 =>
        (fc12_copy N v114 v118 p104.2).bind fun p121 =>
        (qR p121.2 12 29 l0).bind fun v125 =>
        (fc12_sells N v125 v84 v91 (1 : Int32) p121.2).bind fun p133 =>
        (qR p133.2 12 29 l0).bind fun v138 =>
        (dr p133.2 l0 (.inl 12)).bind fun a =>
        (fc12_goYear N a v138 l1 p133.2).bind fun p142 =>
        (qR p142.2 12 29 l0).bind fun v146 =>
        (ldI p142.2 v146 (((4 : Int32) * v84) + (3 : Int32))).bind fun v155 =>
        (qR p142.2 12 41 l0).bind fun v157 =>
        (ldI p142.2 v157 v84).bind fun v162 =>
        if v155 ≤ v162 then
          fc12_trades_201 N (fc12_trades_68 N n) l0 l1 l2 l3 l4 p142.2
        else
          (qR p142.2 12 29 l0).bind fun v167 =>
          (ldI p142.2 v167 (((4 : Int32) * v91) + (3 : Int32))).bind fun v176 =>
          (qR p142.2 12 41 l0).bind fun v178 =>
          (ldI p142.2 v178 v91).bind fun v183 =>
          if v183 < v176 then
            if l3 = l2 then
              some (l4, p142.2)
            else
              fc12_trades_201 N (fc12_trades_68 N n) l0 l1 l2 (l3 + (1 : Int32)) l4 p142.2
          else
            fc12_trades_201 N (fc12_trades_68 N n) l0 l1 l2 l3 l4 p142.2
def fc12_trades_33 (N : Nat) : Nat → Option Nat → Int32 → Int32 → Int32 → Me → Option (Int32 × Me)
  | 0, _, _, _, _, _ => none
  | n + 1, l0, l1, l2, l3, σ =>
    (qI σ 12 24 l0).bind fun v35 =>
    if v35 ≤ l3 then
      fc12_trades_68 N N l0 l1 l2 (0 : Int32) (0 : Int32) σ
    else
      (qR σ 12 41 l0).bind fun v42 =>
      (qR σ 12 29 l0).bind fun v47 =>
      (ldI σ v47 (((4 : Int32) * l3) + (3 : Int32))).bind fun v55 =>
      (stI σ v42 l3 v55).bind fun σ56 =>
      (fc12_trades_33 N n) l0 l1 l2 (l3 + (1 : Int32)) σ56
def fc12_trades (N : Nat) (a0 : Nat) (x1 : Int32) (x2 : Int32) (σ : Me) : Option (Int32 × Me) :=
  (pI σ 12 0 (some a0) (0 : Int32)).bind fun σ2 =>
  (qI σ2 12 24 (some a0)).bind fun v6 =>
  if v6 = 0 then
    some ((-1 : Int32), σ2)
  else
    (fc12_isRain N x1 σ2).bind fun p13 =>
    if p13.1 = 0 then
      some ((-1 : Int32), p13.2)
    else
      if (-1 : Int32) ≤ x2 then
        (dr p13.2 (some a0) (.inl 12)).bind fun a =>
        (fc12_tries N a x1 p13.2).bind fun p28 =>
        fc12_trades_33 N N (some a0) x1 x2 (0 : Int32) p28.2
      else
        some ((-1 : Int32), p13.2)
set_option maxRecDepth 20000 in
set_option maxHeartbeats 2000000 in
theorem pc12_trades_201 {Ω : Om} {Γ : Ga} {N : Nat} (hG : Good Ω Γ tc12_trades 143 0 0) {K68 : Option Nat → Int32 → Int32 → Int32 → Int32 → Me → Option (Int32 × Me)} (hK68 : ∀ (l0 : Option Nat) (l1 : Int32) (l2 : Int32) (l3 : Int32) (l4 : Int32) (σ : Me), Sim Ω Γ 0 0 ιI 7 68 [(0, vR l0), (1, vI l1), (2, vI l2), (3, vI l3), (4, vI l4)] [] σ 0 0 (K68 l0 l1 l2 l3 l4 σ)) (l0 : Option Nat) (l1 : Int32) (l2 : Int32) (l3 : Int32) (l4 : Int32) (σ : Me) : Sim Ω Γ 0 0 ιI 7 201 [(0, vR l0), (1, vI l1), (2, vI l2), (3, vI l3), (4, vI l4)] [] σ 0 0 (fc12_trades_201 N K68 l0 l1 l2 l3 l4 σ) := by
  unfold fc12_trades_201
  refine s_iinc (v := 1) hG dc12_trades_201 rfl (by decide) (by decide) ?_
  refine s_goto hG 68 dc12_trades_204 (by decide) ?_
  exact s_lv (lc rfl (lc rfl (lc rfl (lc rfl (lc rfl ln))))) (hK68 _ _ _ _ _ _)
set_option maxRecDepth 20000 in
set_option maxHeartbeats 2000000 in
theorem pc12_trades_68 {Ω : Om} {Γ : Ga} {N : Nat} (hG : Good Ω Γ tc12_trades 143 0 0)  : ∀ (n : Nat) (l0 : Option Nat) (l1 : Int32) (l2 : Int32) (l3 : Int32) (l4 : Int32) (σ : Me), Sim Ω Γ 0 0 ιI 7 68 [(0, vR l0), (1, vI l1), (2, vI l2), (3, vI l3), (4, vI l4)] [] σ 0 0 (fc12_trades_68 N n l0 l1 l2 l3 l4 σ) := by
  intro n
  induction n with
  | zero => intros; exact s_none
  | succ n ih =>
    intro l0 l1 l2 l3 l4 σ
    unfold fc12_trades_68
    refine s_iload hG dc12_trades_68 rfl ?_
    refine s_bipush (v := 10) hG dc12_trades_70 (by decide) ?_
    refine s_aload_n hG dc12_trades_72 rfl ?_
    refine s_getI hG kFc12_290 rfl dc12_trades_73 (fun v73 => ?_)
    refine s_imul hG dc12_trades_76 ?_
    refine s_icmp_ge hG 207 dc12_trades_77 (by decide) ?_ ?_
    · refine s_iload_n hG dc12_trades_207 rfl ?_
      refine s_iconst (v := -1) hG dc12_trades_208 (by decide) ?_
      refine s_icmp_ne hG 216 dc12_trades_209 (by decide) ?_ ?_
      · refine s_iconst (v := -1) hG dc12_trades_216 (by decide) ?_
        exact s_iret hG dc12_trades_217 rfl (Nat.le_of_ble_eq_true rfl) (Nat.le_of_ble_eq_true rfl)
      · refine s_iload_n hG dc12_trades_212 rfl ?_
        refine s_goto hG 217 dc12_trades_213 (by decide) ?_
        exact s_iret hG dc12_trades_217 rfl (Nat.le_of_ble_eq_true rfl) (Nat.le_of_ble_eq_true rfl)
    · refine s_iload hG dc12_trades_80 rfl ?_
      refine s_bipush (v := 10) hG dc12_trades_82 (by decide) ?_
      refine s_idiv hG dc12_trades_84 (fun v84 => ?_)
      refine s_istore hG dc12_trades_85 (by decide) ?_
      refine s_iload hG dc12_trades_87 rfl ?_
      refine s_bipush (v := 10) hG dc12_trades_89 (by decide) ?_
      refine s_irem hG dc12_trades_91 (fun v91 => ?_)
      refine s_istore hG dc12_trades_92 (by decide) ?_
      refine s_aload_n hG dc12_trades_94 rfl ?_
      refine s_aload_n hG dc12_trades_95 rfl ?_
      refine s_getR hG kFc12_55 rfl dc12_trades_96 (fun v96 => ?_)
      refine s_iload hG dc12_trades_99 rfl ?_
      refine s_iload hG dc12_trades_101 rfl ?_
      refine s_iconst (v := 1) hG dc12_trades_103 (by decide) ?_
      refine s_callVi hG kMc12_371 (fun a => corc12_canSell N a _ _ _ _ _) ⟨by decide, rfl⟩ rfl (by first | decide | omega) dc12_trades_104 rfl rfl (Nat.le_of_ble_eq_true rfl) ⟨Nat.le_of_ble_eq_true rfl, Nat.le_of_ble_eq_true rfl⟩ (fun p104 => ?_)
      refine s_if_ne hG 113 dc12_trades_107 (by decide) ?_ ?_
      · refine s_aload_n hG dc12_trades_113 rfl ?_
        refine s_getR hG kFc12_55 rfl dc12_trades_114 (fun v114 => ?_)
        refine s_aload_n hG dc12_trades_117 rfl ?_
        refine s_getR hG kFc12_58 rfl dc12_trades_118 (fun v118 => ?_)
        refine s_callSv hG kMc12_345 (corc12_copy N _ _ _) rfl (by first | decide | omega) dc12_trades_121 rfl rfl (Nat.le_of_ble_eq_true rfl) ⟨Nat.le_of_ble_eq_true rfl, Nat.le_of_ble_eq_true rfl⟩ (fun p121 => ?_)
        refine s_aload_n hG dc12_trades_124 rfl ?_
        refine s_getR hG kFc12_58 rfl dc12_trades_125 (fun v125 => ?_)
        refine s_iload hG dc12_trades_128 rfl ?_
        refine s_iload hG dc12_trades_130 rfl ?_
        refine s_iconst (v := 1) hG dc12_trades_132 (by decide) ?_
        refine s_callSv hG kMc12_375 (corc12_sells N _ _ _ _ _) rfl (by first | decide | omega) dc12_trades_133 rfl rfl (Nat.le_of_ble_eq_true rfl) ⟨Nat.le_of_ble_eq_true rfl, Nat.le_of_ble_eq_true rfl⟩ (fun p133 => ?_)
        refine s_aload_n hG dc12_trades_136 rfl ?_
        refine s_aload_n hG dc12_trades_137 rfl ?_
        refine s_getR hG kFc12_58 rfl dc12_trades_138 (fun v138 => ?_)
        refine s_iload_n hG dc12_trades_141 rfl ?_
        refine s_callVv hG kMc12_349 (fun a => corc12_goYear N a _ _ _) ⟨by decide, rfl⟩ rfl (by first | decide | omega) dc12_trades_142 rfl rfl (Nat.le_of_ble_eq_true rfl) ⟨Nat.le_of_ble_eq_true rfl, Nat.le_of_ble_eq_true rfl⟩ (fun p142 => ?_)
        refine s_aload_n hG dc12_trades_145 rfl ?_
        refine s_getR hG kFc12_58 rfl dc12_trades_146 (fun v146 => ?_)
        refine s_iconst (v := 4) hG dc12_trades_149 (by decide) ?_
        refine s_iload hG dc12_trades_150 rfl ?_
        refine s_imul hG dc12_trades_152 ?_
        refine s_iconst (v := 3) hG dc12_trades_153 (by decide) ?_
        refine s_iadd hG dc12_trades_154 ?_
        refine s_iald hG dc12_trades_155 (fun v155 => ?_)
        refine s_aload_n hG dc12_trades_156 rfl ?_
        refine s_getR hG kFc12_81 rfl dc12_trades_157 (fun v157 => ?_)
        refine s_iload hG dc12_trades_160 rfl ?_
        refine s_iald hG dc12_trades_162 (fun v162 => ?_)
        refine s_icmp_le hG 201 dc12_trades_163 (by decide) ?_ ?_
        · exact s_lv (lc rfl (lc rfl (lc rfl (lc rfl (lc rfl ln))))) (pc12_trades_201 hG ih _ _ _ _ _ _)
        · refine s_aload_n hG dc12_trades_166 rfl ?_
          refine s_getR hG kFc12_58 rfl dc12_trades_167 (fun v167 => ?_)
          refine s_iconst (v := 4) hG dc12_trades_170 (by decide) ?_
          refine s_iload hG dc12_trades_171 rfl ?_
          refine s_imul hG dc12_trades_173 ?_
          refine s_iconst (v := 3) hG dc12_trades_174 (by decide) ?_
          refine s_iadd hG dc12_trades_175 ?_
          refine s_iald hG dc12_trades_176 (fun v176 => ?_)
          refine s_aload_n hG dc12_trades_177 rfl ?_
          refine s_getR hG kFc12_81 rfl dc12_trades_178 (fun v178 => ?_)
          refine s_iload hG dc12_trades_181 rfl ?_
          refine s_iald hG dc12_trades_183 (fun v183 => ?_)
          refine s_icmp_gt hG 190 dc12_trades_184 (by decide) ?_ ?_
          · refine s_iload_n hG dc12_trades_190 rfl ?_
            refine s_iload_n hG dc12_trades_191 rfl ?_
            refine s_icmp_ne hG 198 dc12_trades_192 (by decide) ?_ ?_
            · refine s_iinc (v := 1) hG dc12_trades_198 rfl (by decide) (by decide) ?_
              exact s_lv (lc rfl (lc rfl (lc rfl (lc rfl (lc rfl ln))))) (pc12_trades_201 hG ih _ _ _ _ _ _)
            · refine s_iload hG dc12_trades_195 rfl ?_
              exact s_iret hG dc12_trades_197 rfl (Nat.le_of_ble_eq_true rfl) (Nat.le_of_ble_eq_true rfl)
          · refine s_goto hG 201 dc12_trades_187 (by decide) ?_
            exact s_lv (lc rfl (lc rfl (lc rfl (lc rfl (lc rfl ln))))) (pc12_trades_201 hG ih _ _ _ _ _ _)
      · refine s_goto hG 201 dc12_trades_110 (by decide) ?_
        exact s_lv (lc rfl (lc rfl (lc rfl (lc rfl (lc rfl ln))))) (pc12_trades_201 hG ih _ _ _ _ _ _)
set_option maxRecDepth 20000 in
set_option maxHeartbeats 2000000 in
theorem pc12_trades_33 {Ω : Om} {Γ : Ga} {N : Nat} (hG : Good Ω Γ tc12_trades 143 0 0)  : ∀ (n : Nat) (l0 : Option Nat) (l1 : Int32) (l2 : Int32) (l3 : Int32) (σ : Me), Sim Ω Γ 0 0 ιI 7 33 [(0, vR l0), (1, vI l1), (2, vI l2), (3, vI l3)] [] σ 0 0 (fc12_trades_33 N n l0 l1 l2 l3 σ) := by
  intro n
  induction n with
  | zero => intros; exact s_none
  | succ n ih =>
    intro l0 l1 l2 l3 σ
    unfold fc12_trades_33
    refine s_iload_n hG dc12_trades_33 rfl ?_
    refine s_aload_n hG dc12_trades_34 rfl ?_
    refine s_getI hG kFc12_290 rfl dc12_trades_35 (fun v35 => ?_)
    refine s_icmp_ge hG 63 dc12_trades_38 (by decide) ?_ ?_
    · refine s_iconst (v := 0) hG dc12_trades_63 (by decide) ?_
      refine s_istore_n hG dc12_trades_64 (by decide) ?_
      refine s_iconst (v := 0) hG dc12_trades_65 (by decide) ?_
      refine s_istore hG dc12_trades_66 (by decide) ?_
      exact s_lv (lc rfl (lc rfl (lc rfl (lc rfl (lc rfl ln))))) (pc12_trades_68 hG _ _ _ _ _ _ _)
    · refine s_aload_n hG dc12_trades_41 rfl ?_
      refine s_getR hG kFc12_81 rfl dc12_trades_42 (fun v42 => ?_)
      refine s_iload_n hG dc12_trades_45 rfl ?_
      refine s_aload_n hG dc12_trades_46 rfl ?_
      refine s_getR hG kFc12_58 rfl dc12_trades_47 (fun v47 => ?_)
      refine s_iconst (v := 4) hG dc12_trades_50 (by decide) ?_
      refine s_iload_n hG dc12_trades_51 rfl ?_
      refine s_imul hG dc12_trades_52 ?_
      refine s_iconst (v := 3) hG dc12_trades_53 (by decide) ?_
      refine s_iadd hG dc12_trades_54 ?_
      refine s_iald hG dc12_trades_55 (fun v55 => ?_)
      refine s_iast hG dc12_trades_56 (fun σ56 => ?_)
      refine s_iinc (v := 1) hG dc12_trades_57 rfl (by decide) (by decide) ?_
      refine s_goto hG 33 dc12_trades_60 (by decide) ?_
      exact s_lv (lc rfl (lc rfl (lc rfl (lc rfl ln)))) (ih _ _ _ _ _)
set_option maxRecDepth 20000 in
set_option maxHeartbeats 2000000 in
theorem corc12_trades {Ω : Om} (N : Nat) (a0 : Nat) (x1 : Int32) (x2 : Int32) (σ : Me) : Cor Ω tc12_trades 143 0 0 [vR (some a0), vI x1, vI x2] σ ιI (fc12_trades N a0 x1 x2 σ) := by
  refine Cor.of (by decide +kernel) (Nat.le_of_ble_eq_true rfl) (fun Γ hG => ?_)
  unfold fc12_trades
  show Sim Ω Γ 0 0 ιI 7 0 [(0, vR (some a0)), (1, vI x1), (2, vI x2)] [] σ 0 0 _
  refine s_aload_n hG dc12_trades_0 rfl ?_
  refine s_iconst (v := 0) hG dc12_trades_1 (by decide) ?_
  refine s_putI (fin := false) hG kFc12_100 rfl (fun h => by cases h) rfl (fun _ => rfl) (fun _ => rfl) dc12_trades_2 (fun σ2 => ?_)
  refine s_aload_n hG dc12_trades_5 rfl ?_
  refine s_getI hG kFc12_290 rfl dc12_trades_6 (fun v6 => ?_)
  refine s_if_eq hG 24 dc12_trades_9 (by decide) ?_ ?_
  · refine s_iconst (v := -1) hG dc12_trades_24 (by decide) ?_
    exact s_iret hG dc12_trades_25 rfl (Nat.le_of_ble_eq_true rfl) (Nat.le_of_ble_eq_true rfl)
  · refine s_iload_n hG dc12_trades_12 rfl ?_
    refine s_callSi hG kMc12_363 (corc12_isRain N _ _) rfl (by first | decide | omega) dc12_trades_13 rfl rfl (Nat.le_of_ble_eq_true rfl) ⟨Nat.le_of_ble_eq_true rfl, Nat.le_of_ble_eq_true rfl⟩ (fun p13 => ?_)
    refine s_if_eq hG 24 dc12_trades_16 (by decide) ?_ ?_
    · refine s_iconst (v := -1) hG dc12_trades_24 (by decide) ?_
      exact s_iret hG dc12_trades_25 rfl (Nat.le_of_ble_eq_true rfl) (Nat.le_of_ble_eq_true rfl)
    · refine s_iload_n hG dc12_trades_19 rfl ?_
      refine s_iconst (v := -1) hG dc12_trades_20 (by decide) ?_
      refine s_icmp_ge hG 26 dc12_trades_21 (by decide) ?_ ?_
      · refine s_aload_n hG dc12_trades_26 rfl ?_
        refine s_iload_n hG dc12_trades_27 rfl ?_
        refine s_callVv hG kMc12_425 (fun a => corc12_tries N a _ _) ⟨by decide, rfl⟩ rfl (by first | decide | omega) dc12_trades_28 rfl rfl (Nat.le_of_ble_eq_true rfl) ⟨Nat.le_of_ble_eq_true rfl, Nat.le_of_ble_eq_true rfl⟩ (fun p28 => ?_)
        refine s_iconst (v := 0) hG dc12_trades_31 (by decide) ?_
        refine s_istore_n hG dc12_trades_32 (by decide) ?_
        exact s_lv (lc rfl (lc rfl (lc rfl (lc rfl ln)))) (pc12_trades_33 hG _ _ _ _ _ _)
      · refine s_iconst (v := -1) hG dc12_trades_24 (by decide) ?_
        exact s_iret hG dc12_trades_25 rfl (Nat.le_of_ble_eq_true rfl) (Nat.le_of_ble_eq_true rfl)
