def fc11_weighDebts_15 (N : Nat) : Nat → Option Nat → Int32 → Int32 → Int32 → Me → Option (Unit × Me)
  | 0, _, _, _, _, _ => none
  | n + 1, l0, l1, l3, l4, σ =>
    if l3 ≤ l4 then
      some ((), σ)
    else
      (qR σ 11 11 l0).bind fun v22 =>
      (qR σ 2 0 v22).bind fun v25 =>
      (qR σ 11 15 l0).bind fun v30 =>
      (qR σ 1 6 v30).bind fun v33 =>
      (ldI σ v33 l4).bind fun v38 =>
      (stI σ v25 l1 v38).bind fun σ39 =>
      (qR σ39 11 12 l0).bind fun v41 =>
      (qR σ39 11 11 l0).bind fun v45 =>
      (dr σ39 v41 (.inl 9)).bind fun a =>
      (fc9_weigh N a v45 l1 σ39).bind fun p49 =>
      (qR p49.2 11 15 l0).bind fun v53 =>
      (qR p49.2 1 7 v53).bind fun v56 =>
      (qR p49.2 11 12 l0).bind fun v62 =>
      (qR p49.2 9 1 v62).bind fun v65 =>
      (ldI p49.2 v65 l1).bind fun v69 =>
      (stI p49.2 v56 l4 v69).bind fun σ70 =>
      (qR σ70 11 15 l0).bind fun v72 =>
      (qR σ70 1 8 v72).bind fun v75 =>
      (qR σ70 11 12 l0).bind fun v81 =>
      (qR σ70 9 2 v81).bind fun v84 =>
      (ldI σ70 v84 l1).bind fun v88 =>
      (stI σ70 v75 l4 v88).bind fun σ89 =>
      (fc11_weighDebts_15 N n) l0 l1 l3 (l4 + (1 : Int32)) σ89
def fc11_weighDebts (N : Nat) (a0 : Nat) (x1 : Int32) (x2 : Int32) (x3 : Int32) (σ : Me) : Option (Unit × Me) :=
  (qR σ 11 12 (some a0)).bind fun v1 =>
  (qR σ 11 11 (some a0)).bind fun v5 =>
  (dr σ v1 (.inl 9)).bind fun a =>
  (fc9_weighAll N a v5 x2 σ).bind fun p9 =>
  fc11_weighDebts_15 N N (some a0) x1 x3 (0 : Int32) p9.2
set_option maxRecDepth 20000 in
set_option maxHeartbeats 2000000 in
theorem pc11_weighDebts_15 {Ω : Om} {Γ : Ga} {N : Nat} (hG : Good Ω Γ tc11_weighDebts 5 0 0)  : ∀ (n : Nat) (l0 : Option Nat) (l1 : Int32) (l3 : Int32) (l4 : Int32) (σ : Me), Sim Ω Γ 0 0 ιV 5 15 [(0, vR l0), (1, vI l1), (3, vI l3), (4, vI l4)] [] σ 0 0 (fc11_weighDebts_15 N n l0 l1 l3 l4 σ) := by
  intro n
  induction n with
  | zero => intros; exact s_none
  | succ n ih =>
    intro l0 l1 l3 l4 σ
    unfold fc11_weighDebts_15
    refine s_iload hG dc11_weighDebts_15 rfl ?_
    refine s_iload_n hG dc11_weighDebts_17 rfl ?_
    refine s_icmp_ge hG 96 dc11_weighDebts_18 (by decide) ?_ ?_
    · exact s_vret hG dc11_weighDebts_96 rfl (Nat.le_of_ble_eq_true rfl) (Nat.le_of_ble_eq_true rfl)
    · refine s_aload_n hG dc11_weighDebts_21 rfl ?_
      refine s_getR hG kFc11_62 rfl dc11_weighDebts_22 (fun v22 => ?_)
      refine s_getR hG kFc11_186 rfl dc11_weighDebts_25 (fun v25 => ?_)
      refine s_iload_n hG dc11_weighDebts_28 rfl ?_
      refine s_aload_n hG dc11_weighDebts_29 rfl ?_
      refine s_getR hG kFc11_89 rfl dc11_weighDebts_30 (fun v30 => ?_)
      refine s_getR hG kFc11_380 rfl dc11_weighDebts_33 (fun v33 => ?_)
      refine s_iload hG dc11_weighDebts_36 rfl ?_
      refine s_iald hG dc11_weighDebts_38 (fun v38 => ?_)
      refine s_iast hG dc11_weighDebts_39 (fun σ39 => ?_)
      refine s_aload_n hG dc11_weighDebts_40 rfl ?_
      refine s_getR hG kFc11_68 rfl dc11_weighDebts_41 (fun v41 => ?_)
      refine s_aload_n hG dc11_weighDebts_44 rfl ?_
      refine s_getR hG kFc11_62 rfl dc11_weighDebts_45 (fun v45 => ?_)
      refine s_iload_n hG dc11_weighDebts_48 rfl ?_
      refine s_callVv hG kMc11_351 (fun a => corc9_weigh N a _ _ _) ⟨by decide, rfl⟩ rfl (by first | decide | omega) dc11_weighDebts_49 rfl rfl (Nat.le_of_ble_eq_true rfl) ⟨Nat.le_of_ble_eq_true rfl, Nat.le_of_ble_eq_true rfl⟩ (fun p49 => ?_)
      refine s_aload_n hG dc11_weighDebts_52 rfl ?_
      refine s_getR hG kFc11_89 rfl dc11_weighDebts_53 (fun v53 => ?_)
      refine s_getR hG kFc11_423 rfl dc11_weighDebts_56 (fun v56 => ?_)
      refine s_iload hG dc11_weighDebts_59 rfl ?_
      refine s_aload_n hG dc11_weighDebts_61 rfl ?_
      refine s_getR hG kFc11_68 rfl dc11_weighDebts_62 (fun v62 => ?_)
      refine s_getR hG kFc11_426 rfl dc11_weighDebts_65 (fun v65 => ?_)
      refine s_iload_n hG dc11_weighDebts_68 rfl ?_
      refine s_iald hG dc11_weighDebts_69 (fun v69 => ?_)
      refine s_iast hG dc11_weighDebts_70 (fun σ70 => ?_)
      refine s_aload_n hG dc11_weighDebts_71 rfl ?_
      refine s_getR hG kFc11_89 rfl dc11_weighDebts_72 (fun v72 => ?_)
      refine s_getR hG kFc11_427 rfl dc11_weighDebts_75 (fun v75 => ?_)
      refine s_iload hG dc11_weighDebts_78 rfl ?_
      refine s_aload_n hG dc11_weighDebts_80 rfl ?_
      refine s_getR hG kFc11_68 rfl dc11_weighDebts_81 (fun v81 => ?_)
      refine s_getR hG kFc11_430 rfl dc11_weighDebts_84 (fun v84 => ?_)
      refine s_iload_n hG dc11_weighDebts_87 rfl ?_
      refine s_iald hG dc11_weighDebts_88 (fun v88 => ?_)
      refine s_iast hG dc11_weighDebts_89 (fun σ89 => ?_)
      refine s_iinc (v := 1) hG dc11_weighDebts_90 rfl (by decide) (by decide) ?_
      refine s_goto hG 15 dc11_weighDebts_93 (by decide) ?_
      exact s_lv (lc rfl (lc rfl (lc rfl (lc rfl ln)))) (ih _ _ _ _ _)
set_option maxRecDepth 20000 in
set_option maxHeartbeats 2000000 in
theorem corc11_weighDebts {Ω : Om} (N : Nat) (a0 : Nat) (x1 : Int32) (x2 : Int32) (x3 : Int32) (σ : Me) : Cor Ω tc11_weighDebts 5 0 0 [vR (some a0), vI x1, vI x2, vI x3] σ ιV (fc11_weighDebts N a0 x1 x2 x3 σ) := by
  refine Cor.of (by decide +kernel) (Nat.le_of_ble_eq_true rfl) (fun Γ hG => ?_)
  unfold fc11_weighDebts
  show Sim Ω Γ 0 0 ιV 5 0 [(0, vR (some a0)), (1, vI x1), (2, vI x2), (3, vI x3)] [] σ 0 0 _
  refine s_aload_n hG dc11_weighDebts_0 rfl ?_
  refine s_getR hG kFc11_68 rfl dc11_weighDebts_1 (fun v1 => ?_)
  refine s_aload_n hG dc11_weighDebts_4 rfl ?_
  refine s_getR hG kFc11_62 rfl dc11_weighDebts_5 (fun v5 => ?_)
  refine s_iload_n hG dc11_weighDebts_8 rfl ?_
  refine s_callVv hG kMc11_392 (fun a => corc9_weighAll N a _ _ _) ⟨by decide, rfl⟩ rfl (by first | decide | omega) dc11_weighDebts_9 rfl rfl (Nat.le_of_ble_eq_true rfl) ⟨Nat.le_of_ble_eq_true rfl, Nat.le_of_ble_eq_true rfl⟩ (fun p9 => ?_)
  refine s_iconst (v := 0) hG dc11_weighDebts_12 (by decide) ?_
  refine s_istore hG dc11_weighDebts_13 (by decide) ?_
  exact s_lv (lc rfl (lc rfl (lc rfl (lc rfl ln)))) (pc11_weighDebts_15 hG _ _ _ _ _ _)
def fc11_ask_106 (N : Nat) (K45 : Option Nat → Int32 → Int32 → Int32 → Int32 → Int32 → Int32 → Me → Option (Int32 × Me)) (l0 : Option Nat) (l1 : Int32) (l2 : Int32) (l3 : Int32) (l4 : Int32) (l5 : Int32) (l6 : Int32) (σ : Me) : Option (Int32 × Me) :=
  K45 l0 l1 l2 l3 l4 l5 (l6 + (1 : Int32)) σ
def fc11_ask_73 (N : Nat) (K45 : Option Nat → Int32 → Int32 → Int32 → Int32 → Int32 → Int32 → Me → Option (Int32 × Me)) (l0 : Option Nat) (l1 : Int32) (l2 : Int32) (l3 : Int32) (l4 : Int32) (l5 : Int32) (l6 : Int32) (σ : Me) : Option (Int32 × Me) :=
  (dr σ l0 (.inl 11)).bind fun a =>
  (fc11_countYes N a l1 l6 l2 l3 σ).bind fun p80 =>
  (fMt_abs N (((2 : Int32) * p80.1) - l3) p80.2).bind fun p86 =>
  if l5 ≤ p86.1 then
    fc11_ask_106 N K45 l0 l1 l2 l3 l4 l5 l6 p86.2
  else
    fc11_ask_106 N K45 l0 l1 l2 l3 l6 p86.1 l6 p86.2
def fc11_ask_45 (N : Nat) : Nat → Option Nat → Int32 → Int32 → Int32 → Int32 → Int32 → Int32 → Me → Option (Int32 × Me)
  | 0, _, _, _, _, _, _, _, _ => none
  | n + 1, l0, l1, l2, l3, l4, l5, l6, σ =>
    if (99 : Int32) < l6 then
      some (l4, σ)
    else
      (qR σ 11 10 l0).bind fun v55 =>
      (qI σ 2 5 v55).bind fun v58 =>
      (rmI l6 v58).bind fun v61 =>
      if v61 = 0 then
        (dr σ l0 (.inl 11)).bind fun a =>
        (fc11_weighDebts N a l1 l6 l3 σ).bind fun p70 =>
        fc11_ask_73 N (fc11_ask_45 N n) l0 l1 l2 l3 l4 l5 l6 p70.2
      else
        fc11_ask_73 N (fc11_ask_45 N n) l0 l1 l2 l3 l4 l5 l6 σ
def fc11_ask (N : Nat) (a0 : Nat) (x1 : Int32) (x2 : Int32) (σ : Me) : Option (Int32 × Me) :=
  (qR σ 11 10 (some a0)).bind fun v1 =>
  (dr σ v1 (.inl 2)).bind fun a =>
  (fc2_has N a x1 σ).bind fun p5 =>
  if p5.1 = 0 then
    some ((-1 : Int32), p5.2)
  else
    if x2 < 0 then
      some ((-1 : Int32), p5.2)
    else
      if x2 ≤ (99 : Int32) then
        (dr p5.2 (some a0) (.inl 11)).bind fun a =>
        (fc11_fitDebts N a x1 p5.2).bind fun p25 =>
        if p25.1 = 0 then
          some ((-1 : Int32), p25.2)
        else
          fc11_ask_45 N N (some a0) x1 x2 p25.1 (-1 : Int32) (101 : Int32) (0 : Int32) p25.2
      else
        some ((-1 : Int32), p5.2)
set_option maxRecDepth 20000 in
set_option maxHeartbeats 2000000 in
theorem pc11_ask_106 {Ω : Om} {Γ : Ga} {N : Nat} (hG : Good Ω Γ tc11_ask 6 0 0) {K45 : Option Nat → Int32 → Int32 → Int32 → Int32 → Int32 → Int32 → Me → Option (Int32 × Me)} (hK45 : ∀ (l0 : Option Nat) (l1 : Int32) (l2 : Int32) (l3 : Int32) (l4 : Int32) (l5 : Int32) (l6 : Int32) (σ : Me), Sim Ω Γ 0 0 ιI 8 45 [(0, vR l0), (1, vI l1), (2, vI l2), (3, vI l3), (4, vI l4), (5, vI l5), (6, vI l6)] [] σ 0 0 (K45 l0 l1 l2 l3 l4 l5 l6 σ)) (l0 : Option Nat) (l1 : Int32) (l2 : Int32) (l3 : Int32) (l4 : Int32) (l5 : Int32) (l6 : Int32) (σ : Me) : Sim Ω Γ 0 0 ιI 8 106 [(0, vR l0), (1, vI l1), (2, vI l2), (3, vI l3), (4, vI l4), (5, vI l5), (6, vI l6)] [] σ 0 0 (fc11_ask_106 N K45 l0 l1 l2 l3 l4 l5 l6 σ) := by
  unfold fc11_ask_106
  refine s_iinc (v := 1) hG dc11_ask_106 rfl (by decide) (by decide) ?_
  refine s_goto hG 45 dc11_ask_109 (by decide) ?_
  exact s_lv (lc rfl (lc rfl (lc rfl (lc rfl (lc rfl (lc rfl (lc rfl ln))))))) (hK45 _ _ _ _ _ _ _ _)
set_option maxRecDepth 20000 in
set_option maxHeartbeats 2000000 in
theorem pc11_ask_73 {Ω : Om} {Γ : Ga} {N : Nat} (hG : Good Ω Γ tc11_ask 6 0 0) {K45 : Option Nat → Int32 → Int32 → Int32 → Int32 → Int32 → Int32 → Me → Option (Int32 × Me)} (hK45 : ∀ (l0 : Option Nat) (l1 : Int32) (l2 : Int32) (l3 : Int32) (l4 : Int32) (l5 : Int32) (l6 : Int32) (σ : Me), Sim Ω Γ 0 0 ιI 8 45 [(0, vR l0), (1, vI l1), (2, vI l2), (3, vI l3), (4, vI l4), (5, vI l5), (6, vI l6)] [] σ 0 0 (K45 l0 l1 l2 l3 l4 l5 l6 σ)) (l0 : Option Nat) (l1 : Int32) (l2 : Int32) (l3 : Int32) (l4 : Int32) (l5 : Int32) (l6 : Int32) (σ : Me) : Sim Ω Γ 0 0 ιI 8 73 [(0, vR l0), (1, vI l1), (2, vI l2), (3, vI l3), (4, vI l4), (5, vI l5), (6, vI l6)] [] σ 0 0 (fc11_ask_73 N K45 l0 l1 l2 l3 l4 l5 l6 σ) := by
  unfold fc11_ask_73
  refine s_iconst (v := 2) hG dc11_ask_73 (by decide) ?_
  refine s_aload_n hG dc11_ask_74 rfl ?_
  refine s_iload_n hG dc11_ask_75 rfl ?_
  refine s_iload hG dc11_ask_76 rfl ?_
  refine s_iload_n hG dc11_ask_78 rfl ?_
  refine s_iload_n hG dc11_ask_79 rfl ?_
  refine s_callVi hG kMc11_414 (fun a => corc11_countYes N a _ _ _ _ _) ⟨by decide, rfl⟩ rfl (by first | decide | omega) dc11_ask_80 rfl rfl (Nat.le_of_ble_eq_true rfl) ⟨Nat.le_of_ble_eq_true rfl, Nat.le_of_ble_eq_true rfl⟩ (fun p80 => ?_)
  refine s_imul hG dc11_ask_83 ?_
  refine s_iload_n hG dc11_ask_84 rfl ?_
  refine s_isub hG dc11_ask_85 ?_
  refine s_callSi hG kMc11_418 (corMt_abs N _ _) rfl (by first | decide | omega) dc11_ask_86 rfl rfl (Nat.le_of_ble_eq_true rfl) ⟨Nat.le_of_ble_eq_true rfl, Nat.le_of_ble_eq_true rfl⟩ (fun p86 => ?_)
  refine s_istore hG dc11_ask_89 (by decide) ?_
  refine s_iload hG dc11_ask_91 rfl ?_
  refine s_iload hG dc11_ask_93 rfl ?_
  refine s_icmp_ge hG 106 dc11_ask_95 (by decide) ?_ ?_
  · exact s_lv (lc rfl (lc rfl (lc rfl (lc rfl (lc rfl (lc rfl (lc rfl ln))))))) (pc11_ask_106 hG hK45 _ _ _ _ _ _ _ _)
  · refine s_iload hG dc11_ask_98 rfl ?_
    refine s_istore hG dc11_ask_100 (by decide) ?_
    refine s_iload hG dc11_ask_102 rfl ?_
    refine s_istore hG dc11_ask_104 (by decide) ?_
    exact s_lv (lc rfl (lc rfl (lc rfl (lc rfl (lc rfl (lc rfl (lc rfl ln))))))) (pc11_ask_106 hG hK45 _ _ _ _ _ _ _ _)
set_option maxRecDepth 20000 in
set_option maxHeartbeats 2000000 in
theorem pc11_ask_45 {Ω : Om} {Γ : Ga} {N : Nat} (hG : Good Ω Γ tc11_ask 6 0 0)  : ∀ (n : Nat) (l0 : Option Nat) (l1 : Int32) (l2 : Int32) (l3 : Int32) (l4 : Int32) (l5 : Int32) (l6 : Int32) (σ : Me), Sim Ω Γ 0 0 ιI 8 45 [(0, vR l0), (1, vI l1), (2, vI l2), (3, vI l3), (4, vI l4), (5, vI l5), (6, vI l6)] [] σ 0 0 (fc11_ask_45 N n l0 l1 l2 l3 l4 l5 l6 σ) := by
  intro n
  induction n with
  | zero => intros; exact s_none
  | succ n ih =>
    intro l0 l1 l2 l3 l4 l5 l6 σ
    unfold fc11_ask_45
    refine s_iload hG dc11_ask_45 rfl ?_
    refine s_bipush (v := 99) hG dc11_ask_47 (by decide) ?_
    refine s_icmp_gt hG 112 dc11_ask_49 (by decide) ?_ ?_
    · refine s_iload hG dc11_ask_112 rfl ?_
      exact s_iret hG dc11_ask_114 rfl (Nat.le_of_ble_eq_true rfl) (Nat.le_of_ble_eq_true rfl)
    · refine s_iload hG dc11_ask_52 rfl ?_
      refine s_aload_n hG dc11_ask_54 rfl ?_
      refine s_getR hG kFc11_58 rfl dc11_ask_55 (fun v55 => ?_)
      refine s_getI hG kFc11_154 rfl dc11_ask_58 (fun v58 => ?_)
      refine s_irem hG dc11_ask_61 (fun v61 => ?_)
      refine s_if_ne hG 73 dc11_ask_62 (by decide) ?_ ?_
      · exact s_lv (lc rfl (lc rfl (lc rfl (lc rfl (lc rfl (lc rfl (lc rfl ln))))))) (pc11_ask_73 hG ih _ _ _ _ _ _ _ _)
      · refine s_aload_n hG dc11_ask_65 rfl ?_
        refine s_iload_n hG dc11_ask_66 rfl ?_
        refine s_iload hG dc11_ask_67 rfl ?_
        refine s_iload_n hG dc11_ask_69 rfl ?_
        refine s_callVv hG kMc11_411 (fun a => corc11_weighDebts N a _ _ _ _) ⟨by decide, rfl⟩ rfl (by first | decide | omega) dc11_ask_70 rfl rfl (Nat.le_of_ble_eq_true rfl) ⟨Nat.le_of_ble_eq_true rfl, Nat.le_of_ble_eq_true rfl⟩ (fun p70 => ?_)
        exact s_lv (lc rfl (lc rfl (lc rfl (lc rfl (lc rfl (lc rfl (lc rfl ln))))))) (pc11_ask_73 hG ih _ _ _ _ _ _ _ _)
set_option maxRecDepth 20000 in
set_option maxHeartbeats 2000000 in
theorem corc11_ask {Ω : Om} (N : Nat) (a0 : Nat) (x1 : Int32) (x2 : Int32) (σ : Me) : Cor Ω tc11_ask 6 0 0 [vR (some a0), vI x1, vI x2] σ ιI (fc11_ask N a0 x1 x2 σ) := by
  refine Cor.of (by decide +kernel) (Nat.le_of_ble_eq_true rfl) (fun Γ hG => ?_)
  unfold fc11_ask
  show Sim Ω Γ 0 0 ιI 8 0 [(0, vR (some a0)), (1, vI x1), (2, vI x2)] [] σ 0 0 _
  refine s_aload_n hG dc11_ask_0 rfl ?_
  refine s_getR hG kFc11_58 rfl dc11_ask_1 (fun v1 => ?_)
  refine s_iload_n hG dc11_ask_4 rfl ?_
  refine s_callVi hG kMc11_180 (fun a => corc2_has N a _ _) ⟨by decide, rfl⟩ rfl (by first | decide | omega) dc11_ask_5 rfl rfl (Nat.le_of_ble_eq_true rfl) ⟨Nat.le_of_ble_eq_true rfl, Nat.le_of_ble_eq_true rfl⟩ (fun p5 => ?_)
  refine s_if_eq hG 21 dc11_ask_8 (by decide) ?_ ?_
  · refine s_iconst (v := -1) hG dc11_ask_21 (by decide) ?_
    exact s_iret hG dc11_ask_22 rfl (Nat.le_of_ble_eq_true rfl) (Nat.le_of_ble_eq_true rfl)
  · refine s_iload_n hG dc11_ask_11 rfl ?_
    refine s_if_lt hG 21 dc11_ask_12 (by decide) ?_ ?_
    · refine s_iconst (v := -1) hG dc11_ask_21 (by decide) ?_
      exact s_iret hG dc11_ask_22 rfl (Nat.le_of_ble_eq_true rfl) (Nat.le_of_ble_eq_true rfl)
    · refine s_iload_n hG dc11_ask_15 rfl ?_
      refine s_bipush (v := 99) hG dc11_ask_16 (by decide) ?_
      refine s_icmp_le hG 23 dc11_ask_18 (by decide) ?_ ?_
      · refine s_aload_n hG dc11_ask_23 rfl ?_
        refine s_iload_n hG dc11_ask_24 rfl ?_
        refine s_callVi hG kMc11_377 (fun a => corc11_fitDebts N a _ _) ⟨by decide, rfl⟩ rfl (by first | decide | omega) dc11_ask_25 rfl rfl (Nat.le_of_ble_eq_true rfl) ⟨Nat.le_of_ble_eq_true rfl, Nat.le_of_ble_eq_true rfl⟩ (fun p25 => ?_)
        refine s_istore_n hG dc11_ask_28 (by decide) ?_
        refine s_iload_n hG dc11_ask_29 rfl ?_
        refine s_if_ne hG 35 dc11_ask_30 (by decide) ?_ ?_
        · refine s_iconst (v := -1) hG dc11_ask_35 (by decide) ?_
          refine s_istore hG dc11_ask_36 (by decide) ?_
          refine s_bipush (v := 101) hG dc11_ask_38 (by decide) ?_
          refine s_istore hG dc11_ask_40 (by decide) ?_
          refine s_iconst (v := 0) hG dc11_ask_42 (by decide) ?_
          refine s_istore hG dc11_ask_43 (by decide) ?_
          exact s_lv (lc rfl (lc rfl (lc rfl (lc rfl (lc rfl (lc rfl (lc rfl ln))))))) (pc11_ask_45 hG _ _ _ _ _ _ _ _ _)
        · refine s_iconst (v := -1) hG dc11_ask_33 (by decide) ?_
          exact s_iret hG dc11_ask_34 rfl (Nat.le_of_ble_eq_true rfl) (Nat.le_of_ble_eq_true rfl)
      · refine s_iconst (v := -1) hG dc11_ask_21 (by decide) ?_
        exact s_iret hG dc11_ask_22 rfl (Nat.le_of_ble_eq_true rfl) (Nat.le_of_ble_eq_true rfl)
def fc11_isMove (N : Nat) (x0 : Int32) (σ : Me) : Option (Int32 × Me) :=
  if x0 < 0 then
    retZ (0 : Int32) σ
  else
    if (6 : Int32) ≤ x0 then
      retZ (0 : Int32) σ
    else
      retZ (1 : Int32) σ
set_option maxRecDepth 20000 in
set_option maxHeartbeats 2000000 in
theorem corc11_isMove {Ω : Om} (N : Nat) (x0 : Int32) (σ : Me) : Cor Ω tc11_isMove 1 0 0 [vI x0] σ ιI (fc11_isMove N x0 σ) := by
  refine Cor.of (by decide +kernel) (Nat.le_of_ble_eq_true rfl) (fun Γ hG => ?_)
  unfold fc11_isMove
  show Sim Ω Γ 0 0 ιI 1 0 [(0, vI x0)] [] σ 0 0 _
  refine s_iload_n hG dc11_isMove_0 rfl ?_
  refine s_if_lt hG 14 dc11_isMove_1 (by decide) ?_ ?_
  · refine s_iconst (v := 0) hG dc11_isMove_14 (by decide) ?_
    exact s_zret hG dc11_isMove_15 rfl (Nat.le_of_ble_eq_true rfl) (Nat.le_of_ble_eq_true rfl)
  · refine s_iload_n hG dc11_isMove_4 rfl ?_
    refine s_bipush (v := 6) hG dc11_isMove_5 (by decide) ?_
    refine s_icmp_ge hG 14 dc11_isMove_7 (by decide) ?_ ?_
    · refine s_iconst (v := 0) hG dc11_isMove_14 (by decide) ?_
      exact s_zret hG dc11_isMove_15 rfl (Nat.le_of_ble_eq_true rfl) (Nat.le_of_ble_eq_true rfl)
    · refine s_iconst (v := 1) hG dc11_isMove_10 (by decide) ?_
      refine s_goto hG 15 dc11_isMove_11 (by decide) ?_
      exact s_zret hG dc11_isMove_15 rfl (Nat.le_of_ble_eq_true rfl) (Nat.le_of_ble_eq_true rfl)
def fc11_play (N : Nat) (a0 : Nat) (x1 : Int32) (x2 : Int32) (x3 : Int32) (x4 : Int32) (x5 : Int32) (σ : Me) : Option (Unit × Me) :=
  (qR σ 11 11 (some a0)).bind fun v1 =>
  (qR σ 11 10 (some a0)).bind fun v5 =>
  (dr σ v1 (.inl 2)).bind fun a =>
  (fc2_copyFrom N a v5 σ).bind fun p8 =>
  (qR p8.2 11 11 (some a0)).bind fun v12 =>
  (qR p8.2 2 0 v12).bind fun v15 =>
  (ldI p8.2 v15 x1).bind fun v20 =>
  (qR p8.2 11 11 (some a0)).bind fun v24 =>
  (qR p8.2 2 0 v24).bind fun v27 =>
  (ldI p8.2 v27 x1).bind fun v31 =>
  (fMt_min N x4 v31 p8.2).bind fun p32 =>
  (stI p32.2 v15 x1 (v20 - p32.1)).bind fun σ36 =>
  (qR σ36 11 11 (some a0)).bind fun v38 =>
  (qR σ36 2 0 v38).bind fun v41 =>
  (ldI σ36 v41 x2).bind fun v46 =>
  (qR σ36 11 11 (some a0)).bind fun v50 =>
  (qR σ36 2 0 v50).bind fun v53 =>
  (ldI σ36 v53 x2).bind fun v57 =>
  (fMt_min N x5 v57 σ36).bind fun p58 =>
  (stI p58.2 v41 x2 (v46 - p58.1)).bind fun σ62 =>
  (qR σ62 11 12 (some a0)).bind fun v64 =>
  (qR σ62 11 11 (some a0)).bind fun v68 =>
  (dr σ62 v64 (.inl 9)).bind fun a =>
  (fc9_look N a v68 x3 σ62).bind fun p72 =>
  some ((), p72.2)
set_option maxRecDepth 20000 in
set_option maxHeartbeats 2000000 in
theorem corc11_play {Ω : Om} (N : Nat) (a0 : Nat) (x1 : Int32) (x2 : Int32) (x3 : Int32) (x4 : Int32) (x5 : Int32) (σ : Me) : Cor Ω tc11_play 6 0 0 [vR (some a0), vI x1, vI x2, vI x3, vI x4, vI x5] σ ιV (fc11_play N a0 x1 x2 x3 x4 x5 σ) := by
  refine Cor.of (by decide +kernel) (Nat.le_of_ble_eq_true rfl) (fun Γ hG => ?_)
  unfold fc11_play
  show Sim Ω Γ 0 0 ιV 6 0 [(0, vR (some a0)), (1, vI x1), (2, vI x2), (3, vI x3), (4, vI x4), (5, vI x5)] [] σ 0 0 _
  refine s_aload_n hG dc11_play_0 rfl ?_
  refine s_getR hG kFc11_62 rfl dc11_play_1 (fun v1 => ?_)
  refine s_aload_n hG dc11_play_4 rfl ?_
  refine s_getR hG kFc11_58 rfl dc11_play_5 (fun v5 => ?_)
  refine s_callVv hG kMc11_140 (fun a => corc2_copyFrom N a _ _) ⟨by decide, rfl⟩ rfl (by first | decide | omega) dc11_play_8 rfl rfl (Nat.le_of_ble_eq_true rfl) ⟨Nat.le_of_ble_eq_true rfl, Nat.le_of_ble_eq_true rfl⟩ (fun p8 => ?_)
  refine s_aload_n hG dc11_play_11 rfl ?_
  refine s_getR hG kFc11_62 rfl dc11_play_12 (fun v12 => ?_)
  refine s_getR hG kFc11_186 rfl dc11_play_15 (fun v15 => ?_)
  refine s_iload_n hG dc11_play_18 rfl ?_
  refine s_dup2 hG dc11_play_19 rfl rfl ?_
  refine s_iald hG dc11_play_20 (fun v20 => ?_)
  refine s_iload hG dc11_play_21 rfl ?_
  refine s_aload_n hG dc11_play_23 rfl ?_
  refine s_getR hG kFc11_62 rfl dc11_play_24 (fun v24 => ?_)
  refine s_getR hG kFc11_186 rfl dc11_play_27 (fun v27 => ?_)
  refine s_iload_n hG dc11_play_30 rfl ?_
  refine s_iald hG dc11_play_31 (fun v31 => ?_)
  refine s_callSi hG kMc11_441 (corMt_min N _ _ _) rfl (by first | decide | omega) dc11_play_32 rfl rfl (Nat.le_of_ble_eq_true rfl) ⟨Nat.le_of_ble_eq_true rfl, Nat.le_of_ble_eq_true rfl⟩ (fun p32 => ?_)
  refine s_isub hG dc11_play_35 ?_
  refine s_iast hG dc11_play_36 (fun σ36 => ?_)
  refine s_aload_n hG dc11_play_37 rfl ?_
  refine s_getR hG kFc11_62 rfl dc11_play_38 (fun v38 => ?_)
  refine s_getR hG kFc11_186 rfl dc11_play_41 (fun v41 => ?_)
  refine s_iload_n hG dc11_play_44 rfl ?_
  refine s_dup2 hG dc11_play_45 rfl rfl ?_
  refine s_iald hG dc11_play_46 (fun v46 => ?_)
  refine s_iload hG dc11_play_47 rfl ?_
  refine s_aload_n hG dc11_play_49 rfl ?_
  refine s_getR hG kFc11_62 rfl dc11_play_50 (fun v50 => ?_)
  refine s_getR hG kFc11_186 rfl dc11_play_53 (fun v53 => ?_)
  refine s_iload_n hG dc11_play_56 rfl ?_
  refine s_iald hG dc11_play_57 (fun v57 => ?_)
  refine s_callSi hG kMc11_441 (corMt_min N _ _ _) rfl (by first | decide | omega) dc11_play_58 rfl rfl (Nat.le_of_ble_eq_true rfl) ⟨Nat.le_of_ble_eq_true rfl, Nat.le_of_ble_eq_true rfl⟩ (fun p58 => ?_)
  refine s_isub hG dc11_play_61 ?_
  refine s_iast hG dc11_play_62 (fun σ62 => ?_)
  refine s_aload_n hG dc11_play_63 rfl ?_
  refine s_getR hG kFc11_68 rfl dc11_play_64 (fun v64 => ?_)
  refine s_aload_n hG dc11_play_67 rfl ?_
  refine s_getR hG kFc11_62 rfl dc11_play_68 (fun v68 => ?_)
  refine s_iload_n hG dc11_play_71 rfl ?_
  refine s_callVv hG kMc11_315 (fun a => corc9_look N a _ _ _) ⟨by decide, rfl⟩ rfl (by first | decide | omega) dc11_play_72 rfl rfl (Nat.le_of_ble_eq_true rfl) ⟨Nat.le_of_ble_eq_true rfl, Nat.le_of_ble_eq_true rfl⟩ (fun p72 => ?_)
  exact s_vret hG dc11_play_75 rfl (Nat.le_of_ble_eq_true rfl) (Nat.le_of_ble_eq_true rfl)
def fc11_game (N : Nat) (a0 : Nat) (x1 : Int32) (x2 : Int32) (x3 : Int32) (x4 : Int32) (x5 : Int32) (x6 : Int32) (σ : Me) : Option (Int32 × Me) :=
  (dr σ (some a0) (.inl 11)).bind fun a =>
  (fc11_isPair N a x1 x2 σ).bind fun p3 =>
  if p3.1 = 0 then
    some ((-1000000 : Int32), p3.2)
  else
    (fc11_isRain N x3 p3.2).bind fun p10 =>
    if p10.1 = 0 then
      some ((-1000000 : Int32), p10.2)
    else
      (fc11_isMove N x4 p10.2).bind fun p18 =>
      if p18.1 = 0 then
        some ((-1000000 : Int32), p18.2)
      else
        (fc11_isMove N x5 p18.2).bind fun p26 =>
        if p26.1 = 0 then
          some ((-1000000 : Int32), p26.2)
        else
          if x6 < 0 then
            some ((-1000000 : Int32), p26.2)
          else
            if x6 ≤ (1 : Int32) then
              (dr p26.2 (some a0) (.inl 11)).bind fun a =>
              (fc11_play N a x1 x2 x3 x4 x5 p26.2).bind fun p54 =>
              if x6 = 0 then
                (qR p54.2 11 12 (some a0)).bind fun v63 =>
                (qR p54.2 9 4 v63).bind fun v66 =>
                (ldI p54.2 v66 x1).bind fun v70 =>
                some ((v70 - x4), p54.2)
              else
                (qR p54.2 11 12 (some a0)).bind fun v78 =>
                (qR p54.2 9 4 v78).bind fun v81 =>
                (ldI p54.2 v81 x2).bind fun v85 =>
                some ((v85 - x5), p54.2)
            else
              some ((-1000000 : Int32), p26.2)
set_option maxRecDepth 20000 in
set_option maxHeartbeats 2000000 in
theorem corc11_game {Ω : Om} (N : Nat) (a0 : Nat) (x1 : Int32) (x2 : Int32) (x3 : Int32) (x4 : Int32) (x5 : Int32) (x6 : Int32) (σ : Me) : Cor Ω tc11_game 7 0 0 [vR (some a0), vI x1, vI x2, vI x3, vI x4, vI x5, vI x6] σ ιI (fc11_game N a0 x1 x2 x3 x4 x5 x6 σ) := by
  refine Cor.of (by decide +kernel) (Nat.le_of_ble_eq_true rfl) (fun Γ hG => ?_)
  unfold fc11_game
  show Sim Ω Γ 0 0 ιI 7 0 [(0, vR (some a0)), (1, vI x1), (2, vI x2), (3, vI x3), (4, vI x4), (5, vI x5), (6, vI x6)] [] σ 0 0 _
  refine s_aload_n hG dc11_game_0 rfl ?_
  refine s_iload_n hG dc11_game_1 rfl ?_
  refine s_iload_n hG dc11_game_2 rfl ?_
  refine s_callVi hG kMc11_260 (fun a => corc11_isPair N a _ _ _) ⟨by decide, rfl⟩ rfl (by first | decide | omega) dc11_game_3 rfl rfl (Nat.le_of_ble_eq_true rfl) ⟨Nat.le_of_ble_eq_true rfl, Nat.le_of_ble_eq_true rfl⟩ (fun p3 => ?_)
  refine s_if_eq hG 43 dc11_game_6 (by decide) ?_ ?_
  · refine s_ldc hG dc11_game_43 kIc11_214 ?_
    exact s_iret hG dc11_game_45 rfl (Nat.le_of_ble_eq_true rfl) (Nat.le_of_ble_eq_true rfl)
  · refine s_iload_n hG dc11_game_9 rfl ?_
    refine s_callSi hG kMc11_340 (corc11_isRain N _ _) rfl (by first | decide | omega) dc11_game_10 rfl rfl (Nat.le_of_ble_eq_true rfl) ⟨Nat.le_of_ble_eq_true rfl, Nat.le_of_ble_eq_true rfl⟩ (fun p10 => ?_)
    refine s_if_eq hG 43 dc11_game_13 (by decide) ?_ ?_
    · refine s_ldc hG dc11_game_43 kIc11_214 ?_
      exact s_iret hG dc11_game_45 rfl (Nat.le_of_ble_eq_true rfl) (Nat.le_of_ble_eq_true rfl)
    · refine s_iload hG dc11_game_16 rfl ?_
      refine s_callSi hG kMc11_431 (corc11_isMove N _ _) rfl (by first | decide | omega) dc11_game_18 rfl rfl (Nat.le_of_ble_eq_true rfl) ⟨Nat.le_of_ble_eq_true rfl, Nat.le_of_ble_eq_true rfl⟩ (fun p18 => ?_)
      refine s_if_eq hG 43 dc11_game_21 (by decide) ?_ ?_
      · refine s_ldc hG dc11_game_43 kIc11_214 ?_
        exact s_iret hG dc11_game_45 rfl (Nat.le_of_ble_eq_true rfl) (Nat.le_of_ble_eq_true rfl)
      · refine s_iload hG dc11_game_24 rfl ?_
        refine s_callSi hG kMc11_431 (corc11_isMove N _ _) rfl (by first | decide | omega) dc11_game_26 rfl rfl (Nat.le_of_ble_eq_true rfl) ⟨Nat.le_of_ble_eq_true rfl, Nat.le_of_ble_eq_true rfl⟩ (fun p26 => ?_)
        refine s_if_eq hG 43 dc11_game_29 (by decide) ?_ ?_
        · refine s_ldc hG dc11_game_43 kIc11_214 ?_
          exact s_iret hG dc11_game_45 rfl (Nat.le_of_ble_eq_true rfl) (Nat.le_of_ble_eq_true rfl)
        · refine s_iload hG dc11_game_32 rfl ?_
          refine s_if_lt hG 43 dc11_game_34 (by decide) ?_ ?_
          · refine s_ldc hG dc11_game_43 kIc11_214 ?_
            exact s_iret hG dc11_game_45 rfl (Nat.le_of_ble_eq_true rfl) (Nat.le_of_ble_eq_true rfl)
          · refine s_iload hG dc11_game_37 rfl ?_
            refine s_iconst (v := 1) hG dc11_game_39 (by decide) ?_
            refine s_icmp_le hG 46 dc11_game_40 (by decide) ?_ ?_
            · refine s_aload_n hG dc11_game_46 rfl ?_
              refine s_iload_n hG dc11_game_47 rfl ?_
              refine s_iload_n hG dc11_game_48 rfl ?_
              refine s_iload_n hG dc11_game_49 rfl ?_
              refine s_iload hG dc11_game_50 rfl ?_
              refine s_iload hG dc11_game_52 rfl ?_
              refine s_callVv hG kMc11_434 (fun a => corc11_play N a _ _ _ _ _ _) ⟨by decide, rfl⟩ rfl (by first | decide | omega) dc11_game_54 rfl rfl (Nat.le_of_ble_eq_true rfl) ⟨Nat.le_of_ble_eq_true rfl, Nat.le_of_ble_eq_true rfl⟩ (fun p54 => ?_)
              refine s_iload hG dc11_game_57 rfl ?_
              refine s_if_ne hG 77 dc11_game_59 (by decide) ?_ ?_
              · refine s_aload_n hG dc11_game_77 rfl ?_
                refine s_getR hG kFc11_68 rfl dc11_game_78 (fun v78 => ?_)
                refine s_getR hG kFc11_438 rfl dc11_game_81 (fun v81 => ?_)
                refine s_iload_n hG dc11_game_84 rfl ?_
                refine s_iald hG dc11_game_85 (fun v85 => ?_)
                refine s_iload hG dc11_game_86 rfl ?_
                refine s_isub hG dc11_game_88 ?_
                exact s_iret hG dc11_game_89 rfl (Nat.le_of_ble_eq_true rfl) (Nat.le_of_ble_eq_true rfl)
              · refine s_aload_n hG dc11_game_62 rfl ?_
                refine s_getR hG kFc11_68 rfl dc11_game_63 (fun v63 => ?_)
                refine s_getR hG kFc11_438 rfl dc11_game_66 (fun v66 => ?_)
                refine s_iload_n hG dc11_game_69 rfl ?_
                refine s_iald hG dc11_game_70 (fun v70 => ?_)
                refine s_iload hG dc11_game_71 rfl ?_
                refine s_isub hG dc11_game_73 ?_
                refine s_goto hG 89 dc11_game_74 (by decide) ?_
                exact s_iret hG dc11_game_89 rfl (Nat.le_of_ble_eq_true rfl) (Nat.le_of_ble_eq_true rfl)
            · refine s_ldc hG dc11_game_43 kIc11_214 ?_
              exact s_iret hG dc11_game_45 rfl (Nat.le_of_ble_eq_true rfl) (Nat.le_of_ble_eq_true rfl)
def fc11_isRest_10 (N : Nat) : Nat → Option Nat → Int32 → Int32 → Int32 → Int32 → Me → Option (Int32 × Me)
  | 0, _, _, _, _, _, _ => none
  | n + 1, l0, l1, l2, l3, l4, σ =>
    if (6 : Int32) ≤ l4 then
      retZ (1 : Int32) σ
    else
      (qR σ 11 16 l0).bind fun v18 =>
      (ldI σ v18 ((l4 * (6 : Int32)) + l2)).bind fun v28 =>
      (qR σ 11 16 l0).bind fun v30 =>
      (ldI σ v30 l3).bind fun v34 =>
      if v34 < v28 then
        retZ (0 : Int32) σ
      else
        (qR σ 11 17 l0).bind fun v39 =>
        (ldI σ v39 ((l1 * (6 : Int32)) + l4)).bind fun v49 =>
        (qR σ 11 17 l0).bind fun v51 =>
        (ldI σ v51 l3).bind fun v55 =>
        if v49 ≤ v55 then
          (fc11_isRest_10 N n) l0 l1 l2 l3 (l4 + (1 : Int32)) σ
        else
          retZ (0 : Int32) σ
def fc11_isRest (N : Nat) (a0 : Nat) (x1 : Int32) (x2 : Int32) (σ : Me) : Option (Int32 × Me) :=
  fc11_isRest_10 N N (some a0) x1 x2 ((x1 * (6 : Int32)) + x2) (0 : Int32) σ
set_option maxRecDepth 20000 in
set_option maxHeartbeats 2000000 in
theorem pc11_isRest_10 {Ω : Om} {Γ : Ga} {N : Nat} (hG : Good Ω Γ tc11_isRest 1 0 0)  : ∀ (n : Nat) (l0 : Option Nat) (l1 : Int32) (l2 : Int32) (l3 : Int32) (l4 : Int32) (σ : Me), Sim Ω Γ 0 0 ιI 5 10 [(0, vR l0), (1, vI l1), (2, vI l2), (3, vI l3), (4, vI l4)] [] σ 0 0 (fc11_isRest_10 N n l0 l1 l2 l3 l4 σ) := by
  intro n
  induction n with
  | zero => intros; exact s_none
  | succ n ih =>
    intro l0 l1 l2 l3 l4 σ
    unfold fc11_isRest_10
    refine s_iload hG dc11_isRest_10 rfl ?_
    refine s_bipush (v := 6) hG dc11_isRest_12 (by decide) ?_
    refine s_icmp_ge hG 67 dc11_isRest_14 (by decide) ?_ ?_
    · refine s_iconst (v := 1) hG dc11_isRest_67 (by decide) ?_
      exact s_zret hG dc11_isRest_68 rfl (Nat.le_of_ble_eq_true rfl) (Nat.le_of_ble_eq_true rfl)
    · refine s_aload_n hG dc11_isRest_17 rfl ?_
      refine s_getR hG kFc11_93 rfl dc11_isRest_18 (fun v18 => ?_)
      refine s_iload hG dc11_isRest_21 rfl ?_
      refine s_bipush (v := 6) hG dc11_isRest_23 (by decide) ?_
      refine s_imul hG dc11_isRest_25 ?_
      refine s_iload_n hG dc11_isRest_26 rfl ?_
      refine s_iadd hG dc11_isRest_27 ?_
      refine s_iald hG dc11_isRest_28 (fun v28 => ?_)
      refine s_aload_n hG dc11_isRest_29 rfl ?_
      refine s_getR hG kFc11_93 rfl dc11_isRest_30 (fun v30 => ?_)
      refine s_iload_n hG dc11_isRest_33 rfl ?_
      refine s_iald hG dc11_isRest_34 (fun v34 => ?_)
      refine s_icmp_gt hG 59 dc11_isRest_35 (by decide) ?_ ?_
      · refine s_iconst (v := 0) hG dc11_isRest_59 (by decide) ?_
        exact s_zret hG dc11_isRest_60 rfl (Nat.le_of_ble_eq_true rfl) (Nat.le_of_ble_eq_true rfl)
      · refine s_aload_n hG dc11_isRest_38 rfl ?_
        refine s_getR hG kFc11_97 rfl dc11_isRest_39 (fun v39 => ?_)
        refine s_iload_n hG dc11_isRest_42 rfl ?_
        refine s_bipush (v := 6) hG dc11_isRest_43 (by decide) ?_
        refine s_imul hG dc11_isRest_45 ?_
        refine s_iload hG dc11_isRest_46 rfl ?_
        refine s_iadd hG dc11_isRest_48 ?_
        refine s_iald hG dc11_isRest_49 (fun v49 => ?_)
        refine s_aload_n hG dc11_isRest_50 rfl ?_
        refine s_getR hG kFc11_97 rfl dc11_isRest_51 (fun v51 => ?_)
        refine s_iload_n hG dc11_isRest_54 rfl ?_
        refine s_iald hG dc11_isRest_55 (fun v55 => ?_)
        refine s_icmp_le hG 61 dc11_isRest_56 (by decide) ?_ ?_
        · refine s_iinc (v := 1) hG dc11_isRest_61 rfl (by decide) (by decide) ?_
          refine s_goto hG 10 dc11_isRest_64 (by decide) ?_
          exact s_lv (lc rfl (lc rfl (lc rfl (lc rfl (lc rfl ln))))) (ih _ _ _ _ _ _)
        · refine s_iconst (v := 0) hG dc11_isRest_59 (by decide) ?_
          exact s_zret hG dc11_isRest_60 rfl (Nat.le_of_ble_eq_true rfl) (Nat.le_of_ble_eq_true rfl)
set_option maxRecDepth 20000 in
set_option maxHeartbeats 2000000 in
theorem corc11_isRest {Ω : Om} (N : Nat) (a0 : Nat) (x1 : Int32) (x2 : Int32) (σ : Me) : Cor Ω tc11_isRest 1 0 0 [vR (some a0), vI x1, vI x2] σ ιI (fc11_isRest N a0 x1 x2 σ) := by
  refine Cor.of (by decide +kernel) (Nat.le_of_ble_eq_true rfl) (fun Γ hG => ?_)
  unfold fc11_isRest
  show Sim Ω Γ 0 0 ιI 5 0 [(0, vR (some a0)), (1, vI x1), (2, vI x2)] [] σ 0 0 _
  refine s_iload_n hG dc11_isRest_0 rfl ?_
  refine s_bipush (v := 6) hG dc11_isRest_1 (by decide) ?_
  refine s_imul hG dc11_isRest_3 ?_
  refine s_iload_n hG dc11_isRest_4 rfl ?_
  refine s_iadd hG dc11_isRest_5 ?_
  refine s_istore_n hG dc11_isRest_6 (by decide) ?_
  refine s_iconst (v := 0) hG dc11_isRest_7 (by decide) ?_
  refine s_istore hG dc11_isRest_8 (by decide) ?_
  exact s_lv (lc rfl (lc rfl (lc rfl (lc rfl (lc rfl ln))))) (pc11_isRest_10 hG _ _ _ _ _ _ _)
def fc11_rests_170 (N : Nat) (K123 : Option Nat → Int32 → Int32 → Int32 → Me → Option (Int32 × Me)) (K133 : Option Nat → Int32 → Int32 → Int32 → Int32 → Me → Option (Int32 × Me)) (l0 : Option Nat) (l4 : Int32) (l5 : Int32) (l6 : Int32) (l7 : Int32) (σ : Me) : Option (Int32 × Me) :=
  K133 l0 l4 l5 l6 (l7 + (1 : Int32)) σ
def fc11_rests_133 (N : Nat) (K123 : Option Nat → Int32 → Int32 → Int32 → Me → Option (Int32 × Me)) : Nat → Option Nat → Int32 → Int32 → Int32 → Int32 → Me → Option (Int32 × Me)
  | 0, _, _, _, _, _, _ => none
  | n + 1, l0, l4, l5, l6, l7, σ =>
    if (6 : Int32) ≤ l7 then
      K123 l0 l4 l5 (l6 + (1 : Int32)) σ
    else
      (dr σ l0 (.inl 11)).bind fun a =>
      (fc11_isRest N a l6 l7 σ).bind fun p145 =>
      if p145.1 = 0 then
        fc11_rests_170 N K123 (fc11_rests_133 N K123 n) l0 l4 l5 l6 l7 p145.2
      else
        if l5 = l4 then
          some ((((10 : Int32) * l6) + l7), p145.2)
        else
          fc11_rests_170 N K123 (fc11_rests_133 N K123 n) l0 l4 (l5 + (1 : Int32)) l6 l7 p145.2
def fc11_rests_123 (N : Nat) : Nat → Option Nat → Int32 → Int32 → Int32 → Me → Option (Int32 × Me)
  | 0, _, _, _, _, _ => none
  | n + 1, l0, l4, l5, l6, σ =>
    if (6 : Int32) ≤ l6 then
      if l4 = (-1 : Int32) then
        some (l5, σ)
      else
        some ((-1 : Int32), σ)
    else
      fc11_rests_133 N (fc11_rests_123 N n) N l0 l4 l5 l6 (0 : Int32) σ
def fc11_rests_37 (N : Nat) (K27 : Option Nat → Int32 → Int32 → Int32 → Int32 → Int32 → Me → Option (Int32 × Me)) : Nat → Option Nat → Int32 → Int32 → Int32 → Int32 → Int32 → Int32 → Me → Option (Int32 × Me)
  | 0, _, _, _, _, _, _, _, _ => none
  | n + 1, l0, l1, l2, l3, l4, l5, l6, σ =>
    if (6 : Int32) ≤ l6 then
      K27 l0 l1 l2 l3 l4 (l5 + (1 : Int32)) σ
    else
      (dr σ l0 (.inl 11)).bind fun a =>
      (fc11_play N a l1 l2 l3 l5 l6 σ).bind fun p52 =>
      (qR p52.2 11 16 l0).bind fun v56 =>
      (qR p52.2 11 12 l0).bind fun v68 =>
      (qR p52.2 9 4 v68).bind fun v71 =>
      (ldI p52.2 v71 l1).bind fun v75 =>
      (stI p52.2 v56 ((l5 * (6 : Int32)) + l6) (v75 - l5)).bind fun σ79 =>
      (qR σ79 11 17 l0).bind fun v81 =>
      (qR σ79 11 12 l0).bind fun v93 =>
      (qR σ79 9 4 v93).bind fun v96 =>
      (ldI σ79 v96 l2).bind fun v100 =>
      (stI σ79 v81 ((l5 * (6 : Int32)) + l6) (v100 - l6)).bind fun σ104 =>
      (fc11_rests_37 N K27 n) l0 l1 l2 l3 l4 l5 (l6 + (1 : Int32)) σ104
def fc11_rests_27 (N : Nat) : Nat → Option Nat → Int32 → Int32 → Int32 → Int32 → Int32 → Me → Option (Int32 × Me)
  | 0, _, _, _, _, _, _, _ => none
  | n + 1, l0, l1, l2, l3, l4, l5, σ =>
    if (6 : Int32) ≤ l5 then
      fc11_rests_123 N N l0 l4 (0 : Int32) (0 : Int32) σ
    else
      fc11_rests_37 N (fc11_rests_27 N n) N l0 l1 l2 l3 l4 l5 (0 : Int32) σ
def fc11_rests (N : Nat) (a0 : Nat) (x1 : Int32) (x2 : Int32) (x3 : Int32) (x4 : Int32) (σ : Me) : Option (Int32 × Me) :=
  (dr σ (some a0) (.inl 11)).bind fun a =>
  (fc11_isPair N a x1 x2 σ).bind fun p3 =>
  if p3.1 = 0 then
    some ((-1 : Int32), p3.2)
  else
    (fc11_isRain N x3 p3.2).bind fun p10 =>
    if p10.1 = 0 then
      some ((-1 : Int32), p10.2)
    else
      if (-1 : Int32) ≤ x4 then
        fc11_rests_27 N N (some a0) x1 x2 x3 x4 (0 : Int32) p10.2
      else
        some ((-1 : Int32), p10.2)
set_option maxRecDepth 20000 in
set_option maxHeartbeats 2000000 in
theorem pc11_rests_170 {Ω : Om} {Γ : Ga} {N : Nat} (hG : Good Ω Γ tc11_rests 7 0 0) {K123 : Option Nat → Int32 → Int32 → Int32 → Me → Option (Int32 × Me)} {K133 : Option Nat → Int32 → Int32 → Int32 → Int32 → Me → Option (Int32 × Me)} (hK123 : ∀ (l0 : Option Nat) (l4 : Int32) (l5 : Int32) (l6 : Int32) (σ : Me), Sim Ω Γ 0 0 ιI 8 123 [(0, vR l0), (4, vI l4), (5, vI l5), (6, vI l6)] [] σ 0 0 (K123 l0 l4 l5 l6 σ)) (hK133 : ∀ (l0 : Option Nat) (l4 : Int32) (l5 : Int32) (l6 : Int32) (l7 : Int32) (σ : Me), Sim Ω Γ 0 0 ιI 8 133 [(0, vR l0), (4, vI l4), (5, vI l5), (6, vI l6), (7, vI l7)] [] σ 0 0 (K133 l0 l4 l5 l6 l7 σ)) (l0 : Option Nat) (l4 : Int32) (l5 : Int32) (l6 : Int32) (l7 : Int32) (σ : Me) : Sim Ω Γ 0 0 ιI 8 170 [(0, vR l0), (4, vI l4), (5, vI l5), (6, vI l6), (7, vI l7)] [] σ 0 0 (fc11_rests_170 N K123 K133 l0 l4 l5 l6 l7 σ) := by
  unfold fc11_rests_170
  refine s_iinc (v := 1) hG dc11_rests_170 rfl (by decide) (by decide) ?_
  refine s_goto hG 133 dc11_rests_173 (by decide) ?_
  exact s_lv (lc rfl (lc rfl (lc rfl (lc rfl (lc rfl ln))))) (hK133 _ _ _ _ _ _)
set_option maxRecDepth 20000 in
set_option maxHeartbeats 2000000 in
theorem pc11_rests_133 {Ω : Om} {Γ : Ga} {N : Nat} (hG : Good Ω Γ tc11_rests 7 0 0) {K123 : Option Nat → Int32 → Int32 → Int32 → Me → Option (Int32 × Me)} (hK123 : ∀ (l0 : Option Nat) (l4 : Int32) (l5 : Int32) (l6 : Int32) (σ : Me), Sim Ω Γ 0 0 ιI 8 123 [(0, vR l0), (4, vI l4), (5, vI l5), (6, vI l6)] [] σ 0 0 (K123 l0 l4 l5 l6 σ))  : ∀ (n : Nat) (l0 : Option Nat) (l4 : Int32) (l5 : Int32) (l6 : Int32) (l7 : Int32) (σ : Me), Sim Ω Γ 0 0 ιI 8 133 [(0, vR l0), (4, vI l4), (5, vI l5), (6, vI l6), (7, vI l7)] [] σ 0 0 (fc11_rests_133 N K123 n l0 l4 l5 l6 l7 σ) := by
  intro n
  induction n with
  | zero => intros; exact s_none
  | succ n ih =>
    intro l0 l4 l5 l6 l7 σ
    unfold fc11_rests_133
    refine s_iload hG dc11_rests_133 rfl ?_
    refine s_bipush (v := 6) hG dc11_rests_135 (by decide) ?_
    refine s_icmp_ge hG 176 dc11_rests_137 (by decide) ?_ ?_
    · refine s_iinc (v := 1) hG dc11_rests_176 rfl (by decide) (by decide) ?_
      refine s_goto hG 123 dc11_rests_179 (by decide) ?_
      exact s_lv (lc rfl (lc rfl (lc rfl (lc rfl ln)))) (hK123 _ _ _ _ _)
    · refine s_aload_n hG dc11_rests_140 rfl ?_
      refine s_iload hG dc11_rests_141 rfl ?_
      refine s_iload hG dc11_rests_143 rfl ?_
      refine s_callVi hG kMc11_444 (fun a => corc11_isRest N a _ _ _) ⟨by decide, rfl⟩ rfl (by first | decide | omega) dc11_rests_145 rfl rfl (Nat.le_of_ble_eq_true rfl) ⟨Nat.le_of_ble_eq_true rfl, Nat.le_of_ble_eq_true rfl⟩ (fun p145 => ?_)
      refine s_if_eq hG 170 dc11_rests_148 (by decide) ?_ ?_
      · exact s_lv (lc rfl (lc rfl (lc rfl (lc rfl (lc rfl ln))))) (pc11_rests_170 hG hK123 ih _ _ _ _ _ _)
      · refine s_iload hG dc11_rests_151 rfl ?_
        refine s_iload hG dc11_rests_153 rfl ?_
        refine s_icmp_ne hG 167 dc11_rests_155 (by decide) ?_ ?_
        · refine s_iinc (v := 1) hG dc11_rests_167 rfl (by decide) (by decide) ?_
          exact s_lv (lc rfl (lc rfl (lc rfl (lc rfl (lc rfl ln))))) (pc11_rests_170 hG hK123 ih _ _ _ _ _ _)
        · refine s_bipush (v := 10) hG dc11_rests_158 (by decide) ?_
          refine s_iload hG dc11_rests_160 rfl ?_
          refine s_imul hG dc11_rests_162 ?_
          refine s_iload hG dc11_rests_163 rfl ?_
          refine s_iadd hG dc11_rests_165 ?_
          exact s_iret hG dc11_rests_166 rfl (Nat.le_of_ble_eq_true rfl) (Nat.le_of_ble_eq_true rfl)
set_option maxRecDepth 20000 in
set_option maxHeartbeats 2000000 in
theorem pc11_rests_123 {Ω : Om} {Γ : Ga} {N : Nat} (hG : Good Ω Γ tc11_rests 7 0 0)  : ∀ (n : Nat) (l0 : Option Nat) (l4 : Int32) (l5 : Int32) (l6 : Int32) (σ : Me), Sim Ω Γ 0 0 ιI 8 123 [(0, vR l0), (4, vI l4), (5, vI l5), (6, vI l6)] [] σ 0 0 (fc11_rests_123 N n l0 l4 l5 l6 σ) := by
  intro n
  induction n with
  | zero => intros; exact s_none
  | succ n ih =>
    intro l0 l4 l5 l6 σ
    unfold fc11_rests_123
    refine s_iload hG dc11_rests_123 rfl ?_
    refine s_bipush (v := 6) hG dc11_rests_125 (by decide) ?_
    refine s_icmp_ge hG 182 dc11_rests_127 (by decide) ?_ ?_
    · refine s_iload hG dc11_rests_182 rfl ?_
      refine s_iconst (v := -1) hG dc11_rests_184 (by decide) ?_
      refine s_icmp_ne hG 193 dc11_rests_185 (by decide) ?_ ?_
      · refine s_iconst (v := -1) hG dc11_rests_193 (by decide) ?_
        exact s_iret hG dc11_rests_194 rfl (Nat.le_of_ble_eq_true rfl) (Nat.le_of_ble_eq_true rfl)
      · refine s_iload hG dc11_rests_188 rfl ?_
        refine s_goto hG 194 dc11_rests_190 (by decide) ?_
        exact s_iret hG dc11_rests_194 rfl (Nat.le_of_ble_eq_true rfl) (Nat.le_of_ble_eq_true rfl)
    · refine s_iconst (v := 0) hG dc11_rests_130 (by decide) ?_
      refine s_istore hG dc11_rests_131 (by decide) ?_
      exact s_lv (lc rfl (lc rfl (lc rfl (lc rfl (lc rfl ln))))) (pc11_rests_133 hG ih _ _ _ _ _ _ _)
set_option maxRecDepth 20000 in
set_option maxHeartbeats 2000000 in
theorem pc11_rests_37 {Ω : Om} {Γ : Ga} {N : Nat} (hG : Good Ω Γ tc11_rests 7 0 0) {K27 : Option Nat → Int32 → Int32 → Int32 → Int32 → Int32 → Me → Option (Int32 × Me)} (hK27 : ∀ (l0 : Option Nat) (l1 : Int32) (l2 : Int32) (l3 : Int32) (l4 : Int32) (l5 : Int32) (σ : Me), Sim Ω Γ 0 0 ιI 8 27 [(0, vR l0), (1, vI l1), (2, vI l2), (3, vI l3), (4, vI l4), (5, vI l5)] [] σ 0 0 (K27 l0 l1 l2 l3 l4 l5 σ))  : ∀ (n : Nat) (l0 : Option Nat) (l1 : Int32) (l2 : Int32) (l3 : Int32) (l4 : Int32) (l5 : Int32) (l6 : Int32) (σ : Me), Sim Ω Γ 0 0 ιI 8 37 [(0, vR l0), (1, vI l1), (2, vI l2), (3, vI l3), (4, vI l4), (5, vI l5), (6, vI l6)] [] σ 0 0 (fc11_rests_37 N K27 n l0 l1 l2 l3 l4 l5 l6 σ) := by
  intro n
  induction n with
  | zero => intros; exact s_none
  | succ n ih =>
    intro l0 l1 l2 l3 l4 l5 l6 σ
    unfold fc11_rests_37
    refine s_iload hG dc11_rests_37 rfl ?_
    refine s_bipush (v := 6) hG dc11_rests_39 (by decide) ?_
    refine s_icmp_ge hG 111 dc11_rests_41 (by decide) ?_ ?_
    · refine s_iinc (v := 1) hG dc11_rests_111 rfl (by decide) (by decide) ?_
      refine s_goto hG 27 dc11_rests_114 (by decide) ?_
      exact s_lv (lc rfl (lc rfl (lc rfl (lc rfl (lc rfl (lc rfl ln)))))) (hK27 _ _ _ _ _ _ _)
    · refine s_aload_n hG dc11_rests_44 rfl ?_
      refine s_iload_n hG dc11_rests_45 rfl ?_
      refine s_iload_n hG dc11_rests_46 rfl ?_
      refine s_iload_n hG dc11_rests_47 rfl ?_
      refine s_iload hG dc11_rests_48 rfl ?_
      refine s_iload hG dc11_rests_50 rfl ?_
      refine s_callVv hG kMc11_434 (fun a => corc11_play N a _ _ _ _ _ _) ⟨by decide, rfl⟩ rfl (by first | decide | omega) dc11_rests_52 rfl rfl (Nat.le_of_ble_eq_true rfl) ⟨Nat.le_of_ble_eq_true rfl, Nat.le_of_ble_eq_true rfl⟩ (fun p52 => ?_)
      refine s_aload_n hG dc11_rests_55 rfl ?_
      refine s_getR hG kFc11_93 rfl dc11_rests_56 (fun v56 => ?_)
      refine s_iload hG dc11_rests_59 rfl ?_
      refine s_bipush (v := 6) hG dc11_rests_61 (by decide) ?_
      refine s_imul hG dc11_rests_63 ?_
      refine s_iload hG dc11_rests_64 rfl ?_
      refine s_iadd hG dc11_rests_66 ?_
      refine s_aload_n hG dc11_rests_67 rfl ?_
      refine s_getR hG kFc11_68 rfl dc11_rests_68 (fun v68 => ?_)
      refine s_getR hG kFc11_438 rfl dc11_rests_71 (fun v71 => ?_)
      refine s_iload_n hG dc11_rests_74 rfl ?_
      refine s_iald hG dc11_rests_75 (fun v75 => ?_)
      refine s_iload hG dc11_rests_76 rfl ?_
      refine s_isub hG dc11_rests_78 ?_
      refine s_iast hG dc11_rests_79 (fun σ79 => ?_)
      refine s_aload_n hG dc11_rests_80 rfl ?_
      refine s_getR hG kFc11_97 rfl dc11_rests_81 (fun v81 => ?_)
      refine s_iload hG dc11_rests_84 rfl ?_
      refine s_bipush (v := 6) hG dc11_rests_86 (by decide) ?_
      refine s_imul hG dc11_rests_88 ?_
      refine s_iload hG dc11_rests_89 rfl ?_
      refine s_iadd hG dc11_rests_91 ?_
      refine s_aload_n hG dc11_rests_92 rfl ?_
      refine s_getR hG kFc11_68 rfl dc11_rests_93 (fun v93 => ?_)
      refine s_getR hG kFc11_438 rfl dc11_rests_96 (fun v96 => ?_)
      refine s_iload_n hG dc11_rests_99 rfl ?_
      refine s_iald hG dc11_rests_100 (fun v100 => ?_)
      refine s_iload hG dc11_rests_101 rfl ?_
      refine s_isub hG dc11_rests_103 ?_
      refine s_iast hG dc11_rests_104 (fun σ104 => ?_)
      refine s_iinc (v := 1) hG dc11_rests_105 rfl (by decide) (by decide) ?_
      refine s_goto hG 37 dc11_rests_108 (by decide) ?_
      exact s_lv (lc rfl (lc rfl (lc rfl (lc rfl (lc rfl (lc rfl (lc rfl ln))))))) (ih _ _ _ _ _ _ _ _)
set_option maxRecDepth 20000 in
set_option maxHeartbeats 2000000 in
theorem pc11_rests_27 {Ω : Om} {Γ : Ga} {N : Nat} (hG : Good Ω Γ tc11_rests 7 0 0)  : ∀ (n : Nat) (l0 : Option Nat) (l1 : Int32) (l2 : Int32) (l3 : Int32) (l4 : Int32) (l5 : Int32) (σ : Me), Sim Ω Γ 0 0 ιI 8 27 [(0, vR l0), (1, vI l1), (2, vI l2), (3, vI l3), (4, vI l4), (5, vI l5)] [] σ 0 0 (fc11_rests_27 N n l0 l1 l2 l3 l4 l5 σ) := by
  intro n
  induction n with
  | zero => intros; exact s_none
  | succ n ih =>
    intro l0 l1 l2 l3 l4 l5 σ
    unfold fc11_rests_27
    refine s_iload hG dc11_rests_27 rfl ?_
    refine s_bipush (v := 6) hG dc11_rests_29 (by decide) ?_
    refine s_icmp_ge hG 117 dc11_rests_31 (by decide) ?_ ?_
    · refine s_iconst (v := 0) hG dc11_rests_117 (by decide) ?_
      refine s_istore hG dc11_rests_118 (by decide) ?_
      refine s_iconst (v := 0) hG dc11_rests_120 (by decide) ?_
      refine s_istore hG dc11_rests_121 (by decide) ?_
      exact s_lv (lc rfl (lc rfl (lc rfl (lc rfl ln)))) (pc11_rests_123 hG _ _ _ _ _ _)
    · refine s_iconst (v := 0) hG dc11_rests_34 (by decide) ?_
      refine s_istore hG dc11_rests_35 (by decide) ?_
      exact s_lv (lc rfl (lc rfl (lc rfl (lc rfl (lc rfl (lc rfl (lc rfl ln))))))) (pc11_rests_37 hG ih _ _ _ _ _ _ _ _ _)
set_option maxRecDepth 20000 in
set_option maxHeartbeats 2000000 in
theorem corc11_rests {Ω : Om} (N : Nat) (a0 : Nat) (x1 : Int32) (x2 : Int32) (x3 : Int32) (x4 : Int32) (σ : Me) : Cor Ω tc11_rests 7 0 0 [vR (some a0), vI x1, vI x2, vI x3, vI x4] σ ιI (fc11_rests N a0 x1 x2 x3 x4 σ) := by
  refine Cor.of (by decide +kernel) (Nat.le_of_ble_eq_true rfl) (fun Γ hG => ?_)
  unfold fc11_rests
  show Sim Ω Γ 0 0 ιI 8 0 [(0, vR (some a0)), (1, vI x1), (2, vI x2), (3, vI x3), (4, vI x4)] [] σ 0 0 _
  refine s_aload_n hG dc11_rests_0 rfl ?_
  refine s_iload_n hG dc11_rests_1 rfl ?_
  refine s_iload_n hG dc11_rests_2 rfl ?_
  refine s_callVi hG kMc11_260 (fun a => corc11_isPair N a _ _ _) ⟨by decide, rfl⟩ rfl (by first | decide | omega) dc11_rests_3 rfl rfl (Nat.le_of_ble_eq_true rfl) ⟨Nat.le_of_ble_eq_true rfl, Nat.le_of_ble_eq_true rfl⟩ (fun p3 => ?_)
  refine s_if_eq hG 22 dc11_rests_6 (by decide) ?_ ?_
  · refine s_iconst (v := -1) hG dc11_rests_22 (by decide) ?_
    exact s_iret hG dc11_rests_23 rfl (Nat.le_of_ble_eq_true rfl) (Nat.le_of_ble_eq_true rfl)
  · refine s_iload_n hG dc11_rests_9 rfl ?_
    refine s_callSi hG kMc11_340 (corc11_isRain N _ _) rfl (by first | decide | omega) dc11_rests_10 rfl rfl (Nat.le_of_ble_eq_true rfl) ⟨Nat.le_of_ble_eq_true rfl, Nat.le_of_ble_eq_true rfl⟩ (fun p10 => ?_)
    refine s_if_eq hG 22 dc11_rests_13 (by decide) ?_ ?_
    · refine s_iconst (v := -1) hG dc11_rests_22 (by decide) ?_
      exact s_iret hG dc11_rests_23 rfl (Nat.le_of_ble_eq_true rfl) (Nat.le_of_ble_eq_true rfl)
    · refine s_iload hG dc11_rests_16 rfl ?_
      refine s_iconst (v := -1) hG dc11_rests_18 (by decide) ?_
      refine s_icmp_ge hG 24 dc11_rests_19 (by decide) ?_ ?_
      · refine s_iconst (v := 0) hG dc11_rests_24 (by decide) ?_
        refine s_istore hG dc11_rests_25 (by decide) ?_
        exact s_lv (lc rfl (lc rfl (lc rfl (lc rfl (lc rfl (lc rfl ln)))))) (pc11_rests_27 hG _ _ _ _ _ _ _ _)
      · refine s_iconst (v := -1) hG dc11_rests_22 (by decide) ?_
        exact s_iret hG dc11_rests_23 rfl (Nat.le_of_ble_eq_true rfl) (Nat.le_of_ble_eq_true rfl)
def fc9_rank_24 (N : Nat) (K4 : Option Nat → Int32 → Int32 → Int32 → Me → Option (Int32 × Me)) (l0 : Option Nat) (l1 : Int32) (l2 : Int32) (l3 : Int32) (σ : Me) : Option (Int32 × Me) :=
  K4 l0 l1 l2 (l3 + (1 : Int32)) σ
def fc9_rank_4 (N : Nat) : Nat → Option Nat → Int32 → Int32 → Int32 → Me → Option (Int32 × Me)
  | 0, _, _, _, _, _ => none
  | n + 1, l0, l1, l2, l3, σ =>
    (qI σ 9 6 l0).bind fun v6 =>
    if v6 ≤ l3 then
      some (l2, σ)
    else
      (dr σ l0 (.inl 9)).bind fun a =>
      (fc9_isBefore N a l3 l1 σ).bind fun p15 =>
      if p15.1 = 0 then
        fc9_rank_24 N (fc9_rank_4 N n) l0 l1 l2 l3 p15.2
      else
        fc9_rank_24 N (fc9_rank_4 N n) l0 l1 (l2 + (1 : Int32)) l3 p15.2
def fc9_rank (N : Nat) (a0 : Nat) (x1 : Int32) (σ : Me) : Option (Int32 × Me) :=
  fc9_rank_4 N N (some a0) x1 (0 : Int32) (0 : Int32) σ
set_option maxRecDepth 20000 in
set_option maxHeartbeats 2000000 in
theorem pc9_rank_24 {Ω : Om} {Γ : Ga} {N : Nat} (hG : Good Ω Γ tc9_rank 2 0 0) {K4 : Option Nat → Int32 → Int32 → Int32 → Me → Option (Int32 × Me)} (hK4 : ∀ (l0 : Option Nat) (l1 : Int32) (l2 : Int32) (l3 : Int32) (σ : Me), Sim Ω Γ 0 0 ιI 4 4 [(0, vR l0), (1, vI l1), (2, vI l2), (3, vI l3)] [] σ 0 0 (K4 l0 l1 l2 l3 σ)) (l0 : Option Nat) (l1 : Int32) (l2 : Int32) (l3 : Int32) (σ : Me) : Sim Ω Γ 0 0 ιI 4 24 [(0, vR l0), (1, vI l1), (2, vI l2), (3, vI l3)] [] σ 0 0 (fc9_rank_24 N K4 l0 l1 l2 l3 σ) := by
  unfold fc9_rank_24
  refine s_iinc (v := 1) hG dc9_rank_24 rfl (by decide) (by decide) ?_
  refine s_goto hG 4 dc9_rank_27 (by decide) ?_
  exact s_lv (lc rfl (lc rfl (lc rfl (lc rfl ln)))) (hK4 _ _ _ _ _)
set_option maxRecDepth 20000 in
set_option maxHeartbeats 2000000 in
theorem pc9_rank_4 {Ω : Om} {Γ : Ga} {N : Nat} (hG : Good Ω Γ tc9_rank 2 0 0)  : ∀ (n : Nat) (l0 : Option Nat) (l1 : Int32) (l2 : Int32) (l3 : Int32) (σ : Me), Sim Ω Γ 0 0 ιI 4 4 [(0, vR l0), (1, vI l1), (2, vI l2), (3, vI l3)] [] σ 0 0 (fc9_rank_4 N n l0 l1 l2 l3 σ) := by
  intro n
  induction n with
  | zero => intros; exact s_none
  | succ n ih =>
    intro l0 l1 l2 l3 σ
    unfold fc9_rank_4
    refine s_iload_n hG dc9_rank_4 rfl ?_
    refine s_aload_n hG dc9_rank_5 rfl ?_
    refine s_getI hG kFc9_38 rfl dc9_rank_6 (fun v6 => ?_)
    refine s_icmp_ge hG 30 dc9_rank_9 (by decide) ?_ ?_
    · refine s_iload_n hG dc9_rank_30 rfl ?_
      exact s_iret hG dc9_rank_31 rfl (Nat.le_of_ble_eq_true rfl) (Nat.le_of_ble_eq_true rfl)
    · refine s_aload_n hG dc9_rank_12 rfl ?_
      refine s_iload_n hG dc9_rank_13 rfl ?_
      refine s_iload_n hG dc9_rank_14 rfl ?_
      refine s_callVi hG kMc9_94 (fun a => corc9_isBefore N a _ _ _) ⟨by decide, rfl⟩ rfl (by first | decide | omega) dc9_rank_15 rfl rfl (Nat.le_of_ble_eq_true rfl) ⟨Nat.le_of_ble_eq_true rfl, Nat.le_of_ble_eq_true rfl⟩ (fun p15 => ?_)
      refine s_if_eq hG 24 dc9_rank_18 (by decide) ?_ ?_
      · exact s_lv (lc rfl (lc rfl (lc rfl (lc rfl ln)))) (pc9_rank_24 hG ih _ _ _ _ _)
      · refine s_iinc (v := 1) hG dc9_rank_21 rfl (by decide) (by decide) ?_
        exact s_lv (lc rfl (lc rfl (lc rfl (lc rfl ln)))) (pc9_rank_24 hG ih _ _ _ _ _)
set_option maxRecDepth 20000 in
set_option maxHeartbeats 2000000 in
theorem corc9_rank {Ω : Om} (N : Nat) (a0 : Nat) (x1 : Int32) (σ : Me) : Cor Ω tc9_rank 2 0 0 [vR (some a0), vI x1] σ ιI (fc9_rank N a0 x1 σ) := by
  refine Cor.of (by decide +kernel) (Nat.le_of_ble_eq_true rfl) (fun Γ hG => ?_)
  unfold fc9_rank
  show Sim Ω Γ 0 0 ιI 4 0 [(0, vR (some a0)), (1, vI x1)] [] σ 0 0 _
  refine s_iconst (v := 0) hG dc9_rank_0 (by decide) ?_
  refine s_istore_n hG dc9_rank_1 (by decide) ?_
  refine s_iconst (v := 0) hG dc9_rank_2 (by decide) ?_
  refine s_istore_n hG dc9_rank_3 (by decide) ?_
  exact s_lv (lc rfl (lc rfl (lc rfl (lc rfl ln)))) (pc9_rank_4 hG _ _ _ _ _ _)
def fc11_turn_27 (N : Nat) : Nat → Option Nat → Int32 → Int32 → Me → Option (Int32 × Me)
  | 0, _, _, _, _ => none
  | n + 1, l0, l1, l2, σ =>
    (qR σ 11 10 l0).bind fun v29 =>
    (qI σ 2 5 v29).bind fun v32 =>
    if v32 ≤ l2 then
      some ((-1 : Int32), σ)
    else
      (qR σ 11 12 l0).bind fun v39 =>
      (dr σ v39 (.inl 9)).bind fun a =>
      (fc9_rank N a l2 σ).bind fun p43 =>
      if p43.1 = l1 then
        some (l2, p43.2)
      else
        (fc11_turn_27 N n) l0 l1 (l2 + (1 : Int32)) p43.2
def fc11_turn (N : Nat) (a0 : Nat) (x1 : Int32) (σ : Me) : Option (Int32 × Me) :=
  (qR σ 11 10 (some a0)).bind fun v1 =>
  (dr σ v1 (.inl 2)).bind fun a =>
  (fc2_has N a x1 σ).bind fun p5 =>
  if p5.1 = 0 then
    some ((-1 : Int32), p5.2)
  else
    (qR p5.2 11 12 (some a0)).bind fun v14 =>
    (qR p5.2 11 10 (some a0)).bind fun v18 =>
    (dr p5.2 v14 (.inl 9)).bind fun a =>
    (fc9_weighAll N a v18 (0 : Int32) p5.2).bind fun p22 =>
    fc11_turn_27 N N (some a0) x1 (0 : Int32) p22.2
set_option maxRecDepth 20000 in
set_option maxHeartbeats 2000000 in
theorem pc11_turn_27 {Ω : Om} {Γ : Ga} {N : Nat} (hG : Good Ω Γ tc11_turn 5 0 0)  : ∀ (n : Nat) (l0 : Option Nat) (l1 : Int32) (l2 : Int32) (σ : Me), Sim Ω Γ 0 0 ιI 3 27 [(0, vR l0), (1, vI l1), (2, vI l2)] [] σ 0 0 (fc11_turn_27 N n l0 l1 l2 σ) := by
  intro n
  induction n with
  | zero => intros; exact s_none
  | succ n ih =>
    intro l0 l1 l2 σ
    unfold fc11_turn_27
    refine s_iload_n hG dc11_turn_27 rfl ?_
    refine s_aload_n hG dc11_turn_28 rfl ?_
    refine s_getR hG kFc11_58 rfl dc11_turn_29 (fun v29 => ?_)
    refine s_getI hG kFc11_154 rfl dc11_turn_32 (fun v32 => ?_)
    refine s_icmp_ge hG 58 dc11_turn_35 (by decide) ?_ ?_
    · refine s_iconst (v := -1) hG dc11_turn_58 (by decide) ?_
      exact s_iret hG dc11_turn_59 rfl (Nat.le_of_ble_eq_true rfl) (Nat.le_of_ble_eq_true rfl)
    · refine s_aload_n hG dc11_turn_38 rfl ?_
      refine s_getR hG kFc11_68 rfl dc11_turn_39 (fun v39 => ?_)
      refine s_iload_n hG dc11_turn_42 rfl ?_
      refine s_callVi hG kMc11_447 (fun a => corc9_rank N a _ _) ⟨by decide, rfl⟩ rfl (by first | decide | omega) dc11_turn_43 rfl rfl (Nat.le_of_ble_eq_true rfl) ⟨Nat.le_of_ble_eq_true rfl, Nat.le_of_ble_eq_true rfl⟩ (fun p43 => ?_)
      refine s_iload_n hG dc11_turn_46 rfl ?_
      refine s_icmp_ne hG 52 dc11_turn_47 (by decide) ?_ ?_
      · refine s_iinc (v := 1) hG dc11_turn_52 rfl (by decide) (by decide) ?_
        refine s_goto hG 27 dc11_turn_55 (by decide) ?_
        exact s_lv (lc rfl (lc rfl (lc rfl ln))) (ih _ _ _ _)
      · refine s_iload_n hG dc11_turn_50 rfl ?_
        exact s_iret hG dc11_turn_51 rfl (Nat.le_of_ble_eq_true rfl) (Nat.le_of_ble_eq_true rfl)
set_option maxRecDepth 20000 in
set_option maxHeartbeats 2000000 in
theorem corc11_turn {Ω : Om} (N : Nat) (a0 : Nat) (x1 : Int32) (σ : Me) : Cor Ω tc11_turn 5 0 0 [vR (some a0), vI x1] σ ιI (fc11_turn N a0 x1 σ) := by
  refine Cor.of (by decide +kernel) (Nat.le_of_ble_eq_true rfl) (fun Γ hG => ?_)
  unfold fc11_turn
  show Sim Ω Γ 0 0 ιI 3 0 [(0, vR (some a0)), (1, vI x1)] [] σ 0 0 _
  refine s_aload_n hG dc11_turn_0 rfl ?_
  refine s_getR hG kFc11_58 rfl dc11_turn_1 (fun v1 => ?_)
  refine s_iload_n hG dc11_turn_4 rfl ?_
  refine s_callVi hG kMc11_180 (fun a => corc2_has N a _ _) ⟨by decide, rfl⟩ rfl (by first | decide | omega) dc11_turn_5 rfl rfl (Nat.le_of_ble_eq_true rfl) ⟨Nat.le_of_ble_eq_true rfl, Nat.le_of_ble_eq_true rfl⟩ (fun p5 => ?_)
  refine s_if_ne hG 13 dc11_turn_8 (by decide) ?_ ?_
  · refine s_aload_n hG dc11_turn_13 rfl ?_
    refine s_getR hG kFc11_68 rfl dc11_turn_14 (fun v14 => ?_)
    refine s_aload_n hG dc11_turn_17 rfl ?_
    refine s_getR hG kFc11_58 rfl dc11_turn_18 (fun v18 => ?_)
    refine s_iconst (v := 0) hG dc11_turn_21 (by decide) ?_
    refine s_callVv hG kMc11_392 (fun a => corc9_weighAll N a _ _ _) ⟨by decide, rfl⟩ rfl (by first | decide | omega) dc11_turn_22 rfl rfl (Nat.le_of_ble_eq_true rfl) ⟨Nat.le_of_ble_eq_true rfl, Nat.le_of_ble_eq_true rfl⟩ (fun p22 => ?_)
    refine s_iconst (v := 0) hG dc11_turn_25 (by decide) ?_
    refine s_istore_n hG dc11_turn_26 (by decide) ?_
    exact s_lv (lc rfl (lc rfl (lc rfl ln))) (pc11_turn_27 hG _ _ _ _ _)
  · refine s_iconst (v := -1) hG dc11_turn_11 (by decide) ?_
    exact s_iret hG dc11_turn_12 rfl (Nat.le_of_ble_eq_true rfl) (Nat.le_of_ble_eq_true rfl)
def fc11_forgiven_38 (N : Nat) : Nat → Option Nat → Int32 → Int32 → Me → Option (Int32 × Me)
  | 0, _, _, _, _ => none
  | n + 1, l0, l1, l2, σ =>
    (qR σ 11 10 l0).bind fun v40 =>
    (qR σ 2 0 v40).bind fun v43 =>
    (ldI σ v43 l1).bind fun v47 =>
    if v47 < l2 then
      some ((-1 : Int32), σ)
    else
      (qR σ 11 12 l0).bind fun v52 =>
      (qR σ 9 1 v52).bind fun v55 =>
      (qR σ 11 10 l0).bind fun v60 =>
      (qR σ 11 10 l0).bind fun v64 =>
      (qR σ 2 0 v64).bind fun v67 =>
      (ldI σ v67 l1).bind fun v71 =>
      (dr σ v60 (.inl 2)).bind fun a =>
      (fc2_withInterest N a (v71 - l2) σ).bind fun p74 =>
      (stI p74.2 v55 l1 p74.1).bind fun σ77 =>
      (qR σ77 11 12 l0).bind fun v79 =>
      (dr σ77 v79 (.inl 9)).bind fun a =>
      (fc9_rank N a l1 σ77).bind fun p83 =>
      if p83.1 ≤ 0 then
        (fc11_forgiven_38 N n) l0 l1 (l2 + (1 : Int32)) p83.2
      else
        some (l2, p83.2)
def fc11_forgiven (N : Nat) (a0 : Nat) (x1 : Int32) (σ : Me) : Option (Int32 × Me) :=
  (qR σ 11 10 (some a0)).bind fun v1 =>
  (dr σ v1 (.inl 2)).bind fun a =>
  (fc2_has N a x1 σ).bind fun p5 =>
  if p5.1 = 0 then
    some ((-1 : Int32), p5.2)
  else
    (qR p5.2 11 11 (some a0)).bind fun v14 =>
    (qR p5.2 11 10 (some a0)).bind fun v18 =>
    (dr p5.2 v14 (.inl 2)).bind fun a =>
    (fc2_copyFrom N a v18 p5.2).bind fun p21 =>
    (qR p21.2 11 12 (some a0)).bind fun v25 =>
    (qR p21.2 11 11 (some a0)).bind fun v29 =>
    (dr p21.2 v25 (.inl 9)).bind fun a =>
    (fc9_weighAll N a v29 (0 : Int32) p21.2).bind fun p33 =>
    fc11_forgiven_38 N N (some a0) x1 (0 : Int32) p33.2
set_option maxRecDepth 20000 in
set_option maxHeartbeats 2000000 in
theorem pc11_forgiven_38 {Ω : Om} {Γ : Ga} {N : Nat} (hG : Good Ω Γ tc11_forgiven 5 0 0)  : ∀ (n : Nat) (l0 : Option Nat) (l1 : Int32) (l2 : Int32) (σ : Me), Sim Ω Γ 0 0 ιI 3 38 [(0, vR l0), (1, vI l1), (2, vI l2)] [] σ 0 0 (fc11_forgiven_38 N n l0 l1 l2 σ) := by
  intro n
  induction n with
  | zero => intros; exact s_none
  | succ n ih =>
    intro l0 l1 l2 σ
    unfold fc11_forgiven_38
    refine s_iload_n hG dc11_forgiven_38 rfl ?_
    refine s_aload_n hG dc11_forgiven_39 rfl ?_
    refine s_getR hG kFc11_58 rfl dc11_forgiven_40 (fun v40 => ?_)
    refine s_getR hG kFc11_186 rfl dc11_forgiven_43 (fun v43 => ?_)
    refine s_iload_n hG dc11_forgiven_46 rfl ?_
    refine s_iald hG dc11_forgiven_47 (fun v47 => ?_)
    refine s_icmp_gt hG 97 dc11_forgiven_48 (by decide) ?_ ?_
    · refine s_iconst (v := -1) hG dc11_forgiven_97 (by decide) ?_
      exact s_iret hG dc11_forgiven_98 rfl (Nat.le_of_ble_eq_true rfl) (Nat.le_of_ble_eq_true rfl)
    · refine s_aload_n hG dc11_forgiven_51 rfl ?_
      refine s_getR hG kFc11_68 rfl dc11_forgiven_52 (fun v52 => ?_)
      refine s_getR hG kFc11_426 rfl dc11_forgiven_55 (fun v55 => ?_)
      refine s_iload_n hG dc11_forgiven_58 rfl ?_
      refine s_aload_n hG dc11_forgiven_59 rfl ?_
      refine s_getR hG kFc11_58 rfl dc11_forgiven_60 (fun v60 => ?_)
      refine s_aload_n hG dc11_forgiven_63 rfl ?_
      refine s_getR hG kFc11_58 rfl dc11_forgiven_64 (fun v64 => ?_)
      refine s_getR hG kFc11_186 rfl dc11_forgiven_67 (fun v67 => ?_)
      refine s_iload_n hG dc11_forgiven_70 rfl ?_
      refine s_iald hG dc11_forgiven_71 (fun v71 => ?_)
      refine s_iload_n hG dc11_forgiven_72 rfl ?_
      refine s_isub hG dc11_forgiven_73 ?_
      refine s_callVi hG kMc11_450 (fun a => corc2_withInterest N a _ _) ⟨by decide, rfl⟩ rfl (by first | decide | omega) dc11_forgiven_74 rfl rfl (Nat.le_of_ble_eq_true rfl) ⟨Nat.le_of_ble_eq_true rfl, Nat.le_of_ble_eq_true rfl⟩ (fun p74 => ?_)
      refine s_iast hG dc11_forgiven_77 (fun σ77 => ?_)
      refine s_aload_n hG dc11_forgiven_78 rfl ?_
      refine s_getR hG kFc11_68 rfl dc11_forgiven_79 (fun v79 => ?_)
      refine s_iload_n hG dc11_forgiven_82 rfl ?_
      refine s_callVi hG kMc11_447 (fun a => corc9_rank N a _ _) ⟨by decide, rfl⟩ rfl (by first | decide | omega) dc11_forgiven_83 rfl rfl (Nat.le_of_ble_eq_true rfl) ⟨Nat.le_of_ble_eq_true rfl, Nat.le_of_ble_eq_true rfl⟩ (fun p83 => ?_)
      refine s_if_le hG 91 dc11_forgiven_86 (by decide) ?_ ?_
      · refine s_iinc (v := 1) hG dc11_forgiven_91 rfl (by decide) (by decide) ?_
        refine s_goto hG 38 dc11_forgiven_94 (by decide) ?_
        exact s_lv (lc rfl (lc rfl (lc rfl ln))) (ih _ _ _ _)
      · refine s_iload_n hG dc11_forgiven_89 rfl ?_
        exact s_iret hG dc11_forgiven_90 rfl (Nat.le_of_ble_eq_true rfl) (Nat.le_of_ble_eq_true rfl)
set_option maxRecDepth 20000 in
set_option maxHeartbeats 2000000 in
theorem corc11_forgiven {Ω : Om} (N : Nat) (a0 : Nat) (x1 : Int32) (σ : Me) : Cor Ω tc11_forgiven 5 0 0 [vR (some a0), vI x1] σ ιI (fc11_forgiven N a0 x1 σ) := by
  refine Cor.of (by decide +kernel) (Nat.le_of_ble_eq_true rfl) (fun Γ hG => ?_)
  unfold fc11_forgiven
  show Sim Ω Γ 0 0 ιI 3 0 [(0, vR (some a0)), (1, vI x1)] [] σ 0 0 _
  refine s_aload_n hG dc11_forgiven_0 rfl ?_
  refine s_getR hG kFc11_58 rfl dc11_forgiven_1 (fun v1 => ?_)
  refine s_iload_n hG dc11_forgiven_4 rfl ?_
  refine s_callVi hG kMc11_180 (fun a => corc2_has N a _ _) ⟨by decide, rfl⟩ rfl (by first | decide | omega) dc11_forgiven_5 rfl rfl (Nat.le_of_ble_eq_true rfl) ⟨Nat.le_of_ble_eq_true rfl, Nat.le_of_ble_eq_true rfl⟩ (fun p5 => ?_)
  refine s_if_ne hG 13 dc11_forgiven_8 (by decide) ?_ ?_
  · refine s_aload_n hG dc11_forgiven_13 rfl ?_
    refine s_getR hG kFc11_62 rfl dc11_forgiven_14 (fun v14 => ?_)
    refine s_aload_n hG dc11_forgiven_17 rfl ?_
    refine s_getR hG kFc11_58 rfl dc11_forgiven_18 (fun v18 => ?_)
    refine s_callVv hG kMc11_140 (fun a => corc2_copyFrom N a _ _) ⟨by decide, rfl⟩ rfl (by first | decide | omega) dc11_forgiven_21 rfl rfl (Nat.le_of_ble_eq_true rfl) ⟨Nat.le_of_ble_eq_true rfl, Nat.le_of_ble_eq_true rfl⟩ (fun p21 => ?_)
    refine s_aload_n hG dc11_forgiven_24 rfl ?_
    refine s_getR hG kFc11_68 rfl dc11_forgiven_25 (fun v25 => ?_)
    refine s_aload_n hG dc11_forgiven_28 rfl ?_
    refine s_getR hG kFc11_62 rfl dc11_forgiven_29 (fun v29 => ?_)
    refine s_iconst (v := 0) hG dc11_forgiven_32 (by decide) ?_
    refine s_callVv hG kMc11_392 (fun a => corc9_weighAll N a _ _ _) ⟨by decide, rfl⟩ rfl (by first | decide | omega) dc11_forgiven_33 rfl rfl (Nat.le_of_ble_eq_true rfl) ⟨Nat.le_of_ble_eq_true rfl, Nat.le_of_ble_eq_true rfl⟩ (fun p33 => ?_)
    refine s_iconst (v := 0) hG dc11_forgiven_36 (by decide) ?_
    refine s_istore_n hG dc11_forgiven_37 (by decide) ?_
    exact s_lv (lc rfl (lc rfl (lc rfl ln))) (pc11_forgiven_38 hG _ _ _ _ _)
  · refine s_iconst (v := -1) hG dc11_forgiven_11 (by decide) ?_
    exact s_iret hG dc11_forgiven_12 rfl (Nat.le_of_ble_eq_true rfl) (Nat.le_of_ble_eq_true rfl)
