def fc9_settle_42 (N : Nat) (K2 : Option Nat → Option Nat → Int32 → Me → Option (Unit × Me)) (l0 : Option Nat) (l1 : Option Nat) (l2 : Int32) (s0 : Int32) (σ : Me) : Option (Unit × Me) :=
  (qR σ 2 2 l1).bind fun v45 =>
  (dr σ l0 (.inl 9)).bind fun a =>
  (fc9_wet N a l1 l2 σ).bind fun p52 =>
  (stI p52.2 v45 l2 (p52.1 - s0)).bind fun σ58 =>
  (qR σ58 2 4 l1).bind fun v60 =>
  (qR σ58 2 4 l1).bind fun v68 =>
  (ldI σ58 v68 l2).bind fun v72 =>
  (qR σ58 9 4 l0).bind fun v74 =>
  (ldI σ58 v74 l2).bind fun v78 =>
  (fMt_min N (999 : Int32) (v72 + v78) σ58).bind fun p80 =>
  (stI p80.2 v60 l2 p80.1).bind fun σ83 =>
  (qR σ83 2 0 l1).bind fun v85 =>
  (qR σ83 9 1 l0).bind fun v91 =>
  (ldI σ83 v91 l2).bind fun v95 =>
  (qI σ83 9 7 l0).bind fun v97 =>
  (qR σ83 9 3 l0).bind fun v102 =>
  (ldI σ83 v102 l2).bind fun v106 =>
  (fc11_held N (0 : Int32) ((v95 + v97) - v106) (999 : Int32) σ83).bind fun p111 =>
  (stI p111.2 v85 l2 p111.1).bind fun σ114 =>
  K2 l0 l1 (l2 + (1 : Int32)) σ114
def fc9_settle_27 (N : Nat) (K2 : Option Nat → Option Nat → Int32 → Me → Option (Unit × Me)) (l0 : Option Nat) (l1 : Option Nat) (l2 : Int32) (s0 : Int32) (σ : Me) : Option (Unit × Me) :=
  if s0 = 0 then
    (dr σ l0 (.inl 9)).bind fun a =>
    (fc9_usedUp N a l1 l2 σ).bind fun p39 =>
    fc9_settle_42 N K2 l0 l1 l2 p39.1 p39.2
  else
    fc9_settle_42 N K2 l0 l1 l2 (0 : Int32) σ
def fc9_settle_2 (N : Nat) : Nat → Option Nat → Option Nat → Int32 → Me → Option (Unit × Me)
  | 0, _, _, _, _ => none
  | n + 1, l0, l1, l2, σ =>
    (qI σ 9 6 l0).bind fun v4 =>
    if v4 ≤ l2 then
      (qI σ 2 9 l1).bind fun v123 =>
      (pI σ 2 9 l1 (v123 + (1 : Int32))).bind fun σ128 =>
      some ((), σ128)
    else
      (qI σ 9 8 l0).bind fun v11 =>
      if ((v11 >>> (l2 &&& 31)) &&& (1 : Int32)) = (1 : Int32) then
        fc9_settle_27 N (fc9_settle_2 N n) l0 l1 l2 (1 : Int32) σ
      else
        fc9_settle_27 N (fc9_settle_2 N n) l0 l1 l2 (0 : Int32) σ
def fc9_settle (N : Nat) (a0 : Nat) (x1 : Option Nat) (σ : Me) : Option (Unit × Me) :=
  fc9_settle_2 N N (some a0) x1 (0 : Int32) σ
set_option maxRecDepth 20000 in
set_option maxHeartbeats 2000000 in
theorem pc9_settle_42 {Ω : Om} {Γ : Ga} {N : Nat} (hG : Good Ω Γ tc9_settle 4 0 0) {K2 : Option Nat → Option Nat → Int32 → Me → Option (Unit × Me)} (hK2 : ∀ (l0 : Option Nat) (l1 : Option Nat) (l2 : Int32) (σ : Me), Sim Ω Γ 0 0 ιV 5 2 [(0, vR l0), (1, vR l1), (2, vI l2)] [] σ 0 0 (K2 l0 l1 l2 σ)) (l0 : Option Nat) (l1 : Option Nat) (l2 : Int32) (s0 : Int32) (σ : Me) : Sim Ω Γ 0 0 ιV 5 42 [(0, vR l0), (1, vR l1), (2, vI l2)] [vI s0] σ 0 0 (fc9_settle_42 N K2 l0 l1 l2 s0 σ) := by
  unfold fc9_settle_42
  refine s_istore hG dc9_settle_42 (by decide) ?_
  refine s_aload_n hG dc9_settle_44 rfl ?_
  refine s_getR hG kFc9_78 rfl dc9_settle_45 (fun v45 => ?_)
  refine s_iload_n hG dc9_settle_48 rfl ?_
  refine s_aload_n hG dc9_settle_49 rfl ?_
  refine s_aload_n hG dc9_settle_50 rfl ?_
  refine s_iload_n hG dc9_settle_51 rfl ?_
  refine s_callVi hG kMc9_103 (fun a => corc9_wet N a _ _ _) ⟨by decide, rfl⟩ rfl (by first | decide | omega) dc9_settle_52 rfl rfl (Nat.le_of_ble_eq_true rfl) ⟨Nat.le_of_ble_eq_true rfl, Nat.le_of_ble_eq_true rfl⟩ (fun p52 => ?_)
  refine s_iload hG dc9_settle_55 rfl ?_
  refine s_isub hG dc9_settle_57 ?_
  refine s_iast hG dc9_settle_58 (fun σ58 => ?_)
  refine s_aload_n hG dc9_settle_59 rfl ?_
  refine s_getR hG kFc9_106 rfl dc9_settle_60 (fun v60 => ?_)
  refine s_iload_n hG dc9_settle_63 rfl ?_
  refine s_sipush (v := 999) hG dc9_settle_64 (by decide) ?_
  refine s_aload_n hG dc9_settle_67 rfl ?_
  refine s_getR hG kFc9_106 rfl dc9_settle_68 (fun v68 => ?_)
  refine s_iload_n hG dc9_settle_71 rfl ?_
  refine s_iald hG dc9_settle_72 (fun v72 => ?_)
  refine s_aload_n hG dc9_settle_73 rfl ?_
  refine s_getR hG kFc9_21 rfl dc9_settle_74 (fun v74 => ?_)
  refine s_iload_n hG dc9_settle_77 rfl ?_
  refine s_iald hG dc9_settle_78 (fun v78 => ?_)
  refine s_iadd hG dc9_settle_79 ?_
  refine s_callSi hG kMc9_98 (corMt_min N _ _ _) rfl (by first | decide | omega) dc9_settle_80 rfl rfl (Nat.le_of_ble_eq_true rfl) ⟨Nat.le_of_ble_eq_true rfl, Nat.le_of_ble_eq_true rfl⟩ (fun p80 => ?_)
  refine s_iast hG dc9_settle_83 (fun σ83 => ?_)
  refine s_aload_n hG dc9_settle_84 rfl ?_
  refine s_getR hG kFc9_64 rfl dc9_settle_85 (fun v85 => ?_)
  refine s_iload_n hG dc9_settle_88 rfl ?_
  refine s_iconst (v := 0) hG dc9_settle_89 (by decide) ?_
  refine s_aload_n hG dc9_settle_90 rfl ?_
  refine s_getR hG kFc9_9 rfl dc9_settle_91 (fun v91 => ?_)
  refine s_iload_n hG dc9_settle_94 rfl ?_
  refine s_iald hG dc9_settle_95 (fun v95 => ?_)
  refine s_aload_n hG dc9_settle_96 rfl ?_
  refine s_getI hG kFc9_58 rfl dc9_settle_97 (fun v97 => ?_)
  refine s_iadd hG dc9_settle_100 ?_
  refine s_aload_n hG dc9_settle_101 rfl ?_
  refine s_getR hG kFc9_18 rfl dc9_settle_102 (fun v102 => ?_)
  refine s_iload_n hG dc9_settle_105 rfl ?_
  refine s_iald hG dc9_settle_106 (fun v106 => ?_)
  refine s_isub hG dc9_settle_107 ?_
  refine s_sipush (v := 999) hG dc9_settle_108 (by decide) ?_
  refine s_callNSi hG kMc9_90 (corc11_held N _ _ _ _) rfl (by first | decide | omega) dc9_settle_111 rfl rfl (Nat.le_of_ble_eq_true rfl) ⟨Nat.le_of_ble_eq_true rfl, Nat.le_of_ble_eq_true rfl⟩ (fun p111 => ?_)
  refine s_iast hG dc9_settle_114 (fun σ114 => ?_)
  refine s_iinc (v := 1) hG dc9_settle_115 rfl (by decide) (by decide) ?_
  refine s_goto hG 2 dc9_settle_118 (by decide) ?_
  exact s_lv (lc rfl (lc rfl (lc rfl ln))) (hK2 _ _ _ _)
set_option maxRecDepth 20000 in
set_option maxHeartbeats 2000000 in
theorem pc9_settle_27 {Ω : Om} {Γ : Ga} {N : Nat} (hG : Good Ω Γ tc9_settle 4 0 0) {K2 : Option Nat → Option Nat → Int32 → Me → Option (Unit × Me)} (hK2 : ∀ (l0 : Option Nat) (l1 : Option Nat) (l2 : Int32) (σ : Me), Sim Ω Γ 0 0 ιV 5 2 [(0, vR l0), (1, vR l1), (2, vI l2)] [] σ 0 0 (K2 l0 l1 l2 σ)) (l0 : Option Nat) (l1 : Option Nat) (l2 : Int32) (s0 : Int32) (σ : Me) : Sim Ω Γ 0 0 ιV 5 27 [(0, vR l0), (1, vR l1), (2, vI l2)] [vI s0] σ 0 0 (fc9_settle_27 N K2 l0 l1 l2 s0 σ) := by
  unfold fc9_settle_27
  refine s_istore_n hG dc9_settle_27 (by decide) ?_
  refine s_iload_n hG dc9_settle_28 rfl ?_
  refine s_if_eq hG 36 dc9_settle_29 (by decide) ?_ ?_
  · refine s_aload_n hG dc9_settle_36 rfl ?_
    refine s_aload_n hG dc9_settle_37 rfl ?_
    refine s_iload_n hG dc9_settle_38 rfl ?_
    refine s_callVi hG kMc9_53 (fun a => corc9_usedUp N a _ _ _) ⟨by decide, rfl⟩ rfl (by first | decide | omega) dc9_settle_39 rfl rfl (Nat.le_of_ble_eq_true rfl) ⟨Nat.le_of_ble_eq_true rfl, Nat.le_of_ble_eq_true rfl⟩ (fun p39 => ?_)
    exact s_lv (lc rfl (lc rfl (lc rfl ln))) (pc9_settle_42 hG hK2 _ _ _ _ _)
  · refine s_iconst (v := 0) hG dc9_settle_32 (by decide) ?_
    refine s_goto hG 42 dc9_settle_33 (by decide) ?_
    exact s_lv (lc rfl (lc rfl (lc rfl ln))) (pc9_settle_42 hG hK2 _ _ _ _ _)
set_option maxRecDepth 20000 in
set_option maxHeartbeats 2000000 in
theorem pc9_settle_2 {Ω : Om} {Γ : Ga} {N : Nat} (hG : Good Ω Γ tc9_settle 4 0 0)  : ∀ (n : Nat) (l0 : Option Nat) (l1 : Option Nat) (l2 : Int32) (σ : Me), Sim Ω Γ 0 0 ιV 5 2 [(0, vR l0), (1, vR l1), (2, vI l2)] [] σ 0 0 (fc9_settle_2 N n l0 l1 l2 σ) := by
  intro n
  induction n with
  | zero => intros; exact s_none
  | succ n ih =>
    intro l0 l1 l2 σ
    unfold fc9_settle_2
    refine s_iload_n hG dc9_settle_2 rfl ?_
    refine s_aload_n hG dc9_settle_3 rfl ?_
    refine s_getI hG kFc9_38 rfl dc9_settle_4 (fun v4 => ?_)
    refine s_icmp_ge hG 121 dc9_settle_7 (by decide) ?_ ?_
    · refine s_aload_n hG dc9_settle_121 rfl ?_
      refine s_dup hG dc9_settle_122 rfl ?_
      refine s_getI hG kFc9_81 rfl dc9_settle_123 (fun v123 => ?_)
      refine s_iconst (v := 1) hG dc9_settle_126 (by decide) ?_
      refine s_iadd hG dc9_settle_127 ?_
      refine s_putI (fin := false) hG kFc9_81 rfl (fun h => by cases h) rfl (fun _ => rfl) (fun _ => rfl) dc9_settle_128 (fun σ128 => ?_)
      exact s_vret hG dc9_settle_131 rfl (Nat.le_of_ble_eq_true rfl) (Nat.le_of_ble_eq_true rfl)
    · refine s_aload_n hG dc9_settle_10 rfl ?_
      refine s_getI hG kFc9_31 rfl dc9_settle_11 (fun v11 => ?_)
      refine s_iload_n hG dc9_settle_14 rfl ?_
      refine s_ishr hG dc9_settle_15 ?_
      refine s_iconst (v := 1) hG dc9_settle_16 (by decide) ?_
      refine s_iand hG dc9_settle_17 ?_
      refine s_iconst (v := 1) hG dc9_settle_18 (by decide) ?_
      refine s_icmp_ne hG 26 dc9_settle_19 (by decide) ?_ ?_
      · refine s_iconst (v := 0) hG dc9_settle_26 (by decide) ?_
        exact s_lv (lc rfl (lc rfl (lc rfl ln))) (pc9_settle_27 hG ih _ _ _ _ _)
      · refine s_iconst (v := 1) hG dc9_settle_22 (by decide) ?_
        refine s_goto hG 27 dc9_settle_23 (by decide) ?_
        exact s_lv (lc rfl (lc rfl (lc rfl ln))) (pc9_settle_27 hG ih _ _ _ _ _)
set_option maxRecDepth 20000 in
set_option maxHeartbeats 2000000 in
theorem corc9_settle {Ω : Om} (N : Nat) (a0 : Nat) (x1 : Option Nat) (σ : Me) : Cor Ω tc9_settle 4 0 0 [vR (some a0), vR x1] σ ιV (fc9_settle N a0 x1 σ) := by
  refine Cor.of (by decide +kernel) (Nat.le_of_ble_eq_true rfl) (fun Γ hG => ?_)
  unfold fc9_settle
  show Sim Ω Γ 0 0 ιV 5 0 [(0, vR (some a0)), (1, vR x1)] [] σ 0 0 _
  refine s_iconst (v := 0) hG dc9_settle_0 (by decide) ?_
  refine s_istore_n hG dc9_settle_1 (by decide) ?_
  exact s_lv (lc rfl (lc rfl (lc rfl ln))) (pc9_settle_2 hG _ _ _ _ _)
def fc11_goBy (N : Nat) (a0 : Nat) (x1 : Int32) (σ : Me) : Option (Int32 × Me) :=
  (qR σ 11 12 (some a0)).bind fun v1 =>
  (qR σ 11 10 (some a0)).bind fun v5 =>
  (dr σ v1 (.inl 9)).bind fun a =>
  (fc9_look N a v5 x1 σ).bind fun p9 =>
  (qR p9.2 11 13 (some a0)).bind fun v13 =>
  (qR p9.2 11 10 (some a0)).bind fun v17 =>
  (qI p9.2 2 9 v17).bind fun v20 =>
  (qR p9.2 11 12 (some a0)).bind fun v25 =>
  (qI p9.2 9 8 v25).bind fun v28 =>
  (qR p9.2 11 12 (some a0)).bind fun v32 =>
  (qI p9.2 9 9 v32).bind fun v35 =>
  (dr p9.2 v13 (.inl 0)).bind fun a =>
  (fc0_tell N a v20 x1 v28 v35 p9.2).bind fun p38 =>
  (qR p38.2 11 12 (some a0)).bind fun v42 =>
  (qR p38.2 11 10 (some a0)).bind fun v46 =>
  (dr p38.2 v42 (.inl 9)).bind fun a =>
  (fc9_settle N a v46 p38.2).bind fun p49 =>
  (qR p49.2 11 12 (some a0)).bind fun v53 =>
  (qI p49.2 9 9 v53).bind fun v56 =>
  some (v56, p49.2)
set_option maxRecDepth 20000 in
set_option maxHeartbeats 2000000 in
theorem corc11_goBy {Ω : Om} (N : Nat) (a0 : Nat) (x1 : Int32) (σ : Me) : Cor Ω tc11_goBy 6 0 0 [vR (some a0), vI x1] σ ιI (fc11_goBy N a0 x1 σ) := by
  refine Cor.of (by decide +kernel) (Nat.le_of_ble_eq_true rfl) (fun Γ hG => ?_)
  unfold fc11_goBy
  show Sim Ω Γ 0 0 ιI 2 0 [(0, vR (some a0)), (1, vI x1)] [] σ 0 0 _
  refine s_aload_n hG dc11_goBy_0 rfl ?_
  refine s_getR hG kFc11_68 rfl dc11_goBy_1 (fun v1 => ?_)
  refine s_aload_n hG dc11_goBy_4 rfl ?_
  refine s_getR hG kFc11_58 rfl dc11_goBy_5 (fun v5 => ?_)
  refine s_iload_n hG dc11_goBy_8 rfl ?_
  refine s_callVv hG kMc11_315 (fun a => corc9_look N a _ _ _) ⟨by decide, rfl⟩ rfl (by first | decide | omega) dc11_goBy_9 rfl rfl (Nat.le_of_ble_eq_true rfl) ⟨Nat.le_of_ble_eq_true rfl, Nat.le_of_ble_eq_true rfl⟩ (fun p9 => ?_)
  refine s_aload_n hG dc11_goBy_12 rfl ?_
  refine s_getR hG kFc11_75 rfl dc11_goBy_13 (fun v13 => ?_)
  refine s_aload_n hG dc11_goBy_16 rfl ?_
  refine s_getR hG kFc11_58 rfl dc11_goBy_17 (fun v17 => ?_)
  refine s_getI hG kFc11_201 rfl dc11_goBy_20 (fun v20 => ?_)
  refine s_iload_n hG dc11_goBy_23 rfl ?_
  refine s_aload_n hG dc11_goBy_24 rfl ?_
  refine s_getR hG kFc11_68 rfl dc11_goBy_25 (fun v25 => ?_)
  refine s_getI hG kFc11_319 rfl dc11_goBy_28 (fun v28 => ?_)
  refine s_aload_n hG dc11_goBy_31 rfl ?_
  refine s_getR hG kFc11_68 rfl dc11_goBy_32 (fun v32 => ?_)
  refine s_getI hG kFc11_322 rfl dc11_goBy_35 (fun v35 => ?_)
  refine s_callVv hG kMc11_325 (fun a => corc0_tell N a _ _ _ _ _) ⟨by decide, rfl⟩ rfl (by first | decide | omega) dc11_goBy_38 rfl rfl (Nat.le_of_ble_eq_true rfl) ⟨Nat.le_of_ble_eq_true rfl, Nat.le_of_ble_eq_true rfl⟩ (fun p38 => ?_)
  refine s_aload_n hG dc11_goBy_41 rfl ?_
  refine s_getR hG kFc11_68 rfl dc11_goBy_42 (fun v42 => ?_)
  refine s_aload_n hG dc11_goBy_45 rfl ?_
  refine s_getR hG kFc11_58 rfl dc11_goBy_46 (fun v46 => ?_)
  refine s_callVv hG kMc11_329 (fun a => corc9_settle N a _ _) ⟨by decide, rfl⟩ rfl (by first | decide | omega) dc11_goBy_49 rfl rfl (Nat.le_of_ble_eq_true rfl) ⟨Nat.le_of_ble_eq_true rfl, Nat.le_of_ble_eq_true rfl⟩ (fun p49 => ?_)
  refine s_aload_n hG dc11_goBy_52 rfl ?_
  refine s_getR hG kFc11_68 rfl dc11_goBy_53 (fun v53 => ?_)
  refine s_getI hG kFc11_322 rfl dc11_goBy_56 (fun v56 => ?_)
  exact s_iret hG dc11_goBy_59 rfl (Nat.le_of_ble_eq_true rfl) (Nat.le_of_ble_eq_true rfl)
def fc11_isRain (N : Nat) (x0 : Int32) (σ : Me) : Option (Int32 × Me) :=
  if x0 < 0 then
    retZ (0 : Int32) σ
  else
    if (99 : Int32) < x0 then
      retZ (0 : Int32) σ
    else
      retZ (1 : Int32) σ
set_option maxRecDepth 20000 in
set_option maxHeartbeats 2000000 in
theorem corc11_isRain {Ω : Om} (N : Nat) (x0 : Int32) (σ : Me) : Cor Ω tc11_isRain 1 0 0 [vI x0] σ ιI (fc11_isRain N x0 σ) := by
  refine Cor.of (by decide +kernel) (Nat.le_of_ble_eq_true rfl) (fun Γ hG => ?_)
  unfold fc11_isRain
  show Sim Ω Γ 0 0 ιI 1 0 [(0, vI x0)] [] σ 0 0 _
  refine s_iload_n hG dc11_isRain_0 rfl ?_
  refine s_if_lt hG 14 dc11_isRain_1 (by decide) ?_ ?_
  · refine s_iconst (v := 0) hG dc11_isRain_14 (by decide) ?_
    exact s_zret hG dc11_isRain_15 rfl (Nat.le_of_ble_eq_true rfl) (Nat.le_of_ble_eq_true rfl)
  · refine s_iload_n hG dc11_isRain_4 rfl ?_
    refine s_bipush (v := 99) hG dc11_isRain_5 (by decide) ?_
    refine s_icmp_gt hG 14 dc11_isRain_7 (by decide) ?_ ?_
    · refine s_iconst (v := 0) hG dc11_isRain_14 (by decide) ?_
      exact s_zret hG dc11_isRain_15 rfl (Nat.le_of_ble_eq_true rfl) (Nat.le_of_ble_eq_true rfl)
    · refine s_iconst (v := 1) hG dc11_isRain_10 (by decide) ?_
      refine s_goto hG 15 dc11_isRain_11 (by decide) ?_
      exact s_zret hG dc11_isRain_15 rfl (Nat.le_of_ble_eq_true rfl) (Nat.le_of_ble_eq_true rfl)
def fc11_isSky (N : Nat) (a0 : Nat) (x1 : Int32) (σ : Me) : Option (Int32 × Me) :=
  (qR σ 11 10 (some a0)).bind fun v1 =>
  (qI σ 2 5 v1).bind fun v4 =>
  if v4 ≤ 0 then
    retZ (0 : Int32) σ
  else
    (fc11_isRain N x1 σ).bind fun p11 =>
    if p11.1 = 0 then
      retZ (0 : Int32) p11.2
    else
      retZ (1 : Int32) p11.2
set_option maxRecDepth 20000 in
set_option maxHeartbeats 2000000 in
theorem corc11_isSky {Ω : Om} (N : Nat) (a0 : Nat) (x1 : Int32) (σ : Me) : Cor Ω tc11_isSky 2 0 0 [vR (some a0), vI x1] σ ιI (fc11_isSky N a0 x1 σ) := by
  refine Cor.of (by decide +kernel) (Nat.le_of_ble_eq_true rfl) (fun Γ hG => ?_)
  unfold fc11_isSky
  show Sim Ω Γ 0 0 ιI 2 0 [(0, vR (some a0)), (1, vI x1)] [] σ 0 0 _
  refine s_aload_n hG dc11_isSky_0 rfl ?_
  refine s_getR hG kFc11_58 rfl dc11_isSky_1 (fun v1 => ?_)
  refine s_getI hG kFc11_154 rfl dc11_isSky_4 (fun v4 => ?_)
  refine s_if_le hG 21 dc11_isSky_7 (by decide) ?_ ?_
  · refine s_iconst (v := 0) hG dc11_isSky_21 (by decide) ?_
    exact s_zret hG dc11_isSky_22 rfl (Nat.le_of_ble_eq_true rfl) (Nat.le_of_ble_eq_true rfl)
  · refine s_iload_n hG dc11_isSky_10 rfl ?_
    refine s_callSi hG kMc11_340 (corc11_isRain N _ _) rfl (by first | decide | omega) dc11_isSky_11 rfl rfl (Nat.le_of_ble_eq_true rfl) ⟨Nat.le_of_ble_eq_true rfl, Nat.le_of_ble_eq_true rfl⟩ (fun p11 => ?_)
    refine s_if_eq hG 21 dc11_isSky_14 (by decide) ?_ ?_
    · refine s_iconst (v := 0) hG dc11_isSky_21 (by decide) ?_
      exact s_zret hG dc11_isSky_22 rfl (Nat.le_of_ble_eq_true rfl) (Nat.le_of_ble_eq_true rfl)
    · refine s_iconst (v := 1) hG dc11_isSky_17 (by decide) ?_
      refine s_goto hG 22 dc11_isSky_18 (by decide) ?_
      exact s_zret hG dc11_isSky_22 rfl (Nat.le_of_ble_eq_true rfl) (Nat.le_of_ble_eq_true rfl)
def fc2_writeTo (N : Nat) (a0 : Nat) (x1 : Option Nat) (x2 : Int32) (σ : Me) : Option (Unit × Me) :=
  if x2 < 0 then
    some ((), σ)
  else
    (aLn σ .int x1).bind fun v6 =>
    if x2 ≤ (v6 - (26 : Int32)) then
      (qR σ 2 0 (some a0)).bind fun v15 =>
      (cpI σ v15 (0 : Int32) x1 x2 (6 : Int32)).bind fun σ23 =>
      (qR σ23 2 1 (some a0)).bind fun v27 =>
      (cpI σ23 v27 (0 : Int32) x1 (x2 + (6 : Int32)) (6 : Int32)).bind fun σ38 =>
      (qR σ38 2 2 (some a0)).bind fun v42 =>
      (cpI σ38 v42 (0 : Int32) x1 (x2 + (12 : Int32)) (6 : Int32)).bind fun σ53 =>
      (qR σ53 2 4 (some a0)).bind fun v57 =>
      (cpI σ53 v57 (0 : Int32) x1 (x2 + (18 : Int32)) (6 : Int32)).bind fun σ68 =>
      (qI σ68 2 8 (some a0)).bind fun v77 =>
      (stI σ68 x1 (x2 + (24 : Int32)) v77).bind fun σ80 =>
      (qI σ80 2 9 (some a0)).bind fun v89 =>
      (stI σ80 x1 ((x2 + (24 : Int32)) + (1 : Int32)) v89).bind fun σ92 =>
      some ((), σ92)
    else
      some ((), σ)
set_option maxRecDepth 20000 in
set_option maxHeartbeats 2000000 in
theorem corc2_writeTo {Ω : Om} (N : Nat) (a0 : Nat) (x1 : Option Nat) (x2 : Int32) (σ : Me) : Cor Ω tc2_writeTo 1 0 0 [vR (some a0), vR x1, vI x2] σ ιV (fc2_writeTo N a0 x1 x2 σ) := by
  refine Cor.of (by decide +kernel) (Nat.le_of_ble_eq_true rfl) (fun Γ hG => ?_)
  unfold fc2_writeTo
  show Sim Ω Γ 0 0 ιV 3 0 [(0, vR (some a0)), (1, vR x1), (2, vI x2)] [] σ 0 0 _
  refine s_iload_n hG dc2_writeTo_0 rfl ?_
  refine s_if_lt hG 13 dc2_writeTo_1 (by decide) ?_ ?_
  · exact s_vret hG dc2_writeTo_13 rfl (Nat.le_of_ble_eq_true rfl) (Nat.le_of_ble_eq_true rfl)
  · refine s_iload_n hG dc2_writeTo_4 rfl ?_
    refine s_aload_n hG dc2_writeTo_5 rfl ?_
    refine s_alen hG 0 rfl dc2_writeTo_6 (fun v6 => ?_)
    refine s_bipush (v := 26) hG dc2_writeTo_7 (by decide) ?_
    refine s_isub hG dc2_writeTo_9 ?_
    refine s_icmp_le hG 14 dc2_writeTo_10 (by decide) ?_ ?_
    · refine s_aload_n hG dc2_writeTo_14 rfl ?_
      refine s_getR hG kFc2_9 rfl dc2_writeTo_15 (fun v15 => ?_)
      refine s_iconst (v := 0) hG dc2_writeTo_18 (by decide) ?_
      refine s_aload_n hG dc2_writeTo_19 rfl ?_
      refine s_iload_n hG dc2_writeTo_20 rfl ?_
      refine s_bipush (v := 6) hG dc2_writeTo_21 (by decide) ?_
      refine s_copy hG kYc2_27 rfl (by decide) dc2_writeTo_23 (Nat.le_of_ble_eq_true rfl) (fun σ23 => ?_)
      refine s_aload_n hG dc2_writeTo_26 rfl ?_
      refine s_getR hG kFc2_15 rfl dc2_writeTo_27 (fun v27 => ?_)
      refine s_iconst (v := 0) hG dc2_writeTo_30 (by decide) ?_
      refine s_aload_n hG dc2_writeTo_31 rfl ?_
      refine s_iload_n hG dc2_writeTo_32 rfl ?_
      refine s_bipush (v := 6) hG dc2_writeTo_33 (by decide) ?_
      refine s_iadd hG dc2_writeTo_35 ?_
      refine s_bipush (v := 6) hG dc2_writeTo_36 (by decide) ?_
      refine s_copy hG kYc2_27 rfl (by decide) dc2_writeTo_38 (Nat.le_of_ble_eq_true rfl) (fun σ38 => ?_)
      refine s_aload_n hG dc2_writeTo_41 rfl ?_
      refine s_getR hG kFc2_18 rfl dc2_writeTo_42 (fun v42 => ?_)
      refine s_iconst (v := 0) hG dc2_writeTo_45 (by decide) ?_
      refine s_aload_n hG dc2_writeTo_46 rfl ?_
      refine s_iload_n hG dc2_writeTo_47 rfl ?_
      refine s_bipush (v := 12) hG dc2_writeTo_48 (by decide) ?_
      refine s_iadd hG dc2_writeTo_50 ?_
      refine s_bipush (v := 6) hG dc2_writeTo_51 (by decide) ?_
      refine s_copy hG kYc2_27 rfl (by decide) dc2_writeTo_53 (Nat.le_of_ble_eq_true rfl) (fun σ53 => ?_)
      refine s_aload_n hG dc2_writeTo_56 rfl ?_
      refine s_getR hG kFc2_24 rfl dc2_writeTo_57 (fun v57 => ?_)
      refine s_iconst (v := 0) hG dc2_writeTo_60 (by decide) ?_
      refine s_aload_n hG dc2_writeTo_61 rfl ?_
      refine s_iload_n hG dc2_writeTo_62 rfl ?_
      refine s_bipush (v := 18) hG dc2_writeTo_63 (by decide) ?_
      refine s_iadd hG dc2_writeTo_65 ?_
      refine s_bipush (v := 6) hG dc2_writeTo_66 (by decide) ?_
      refine s_copy hG kYc2_27 rfl (by decide) dc2_writeTo_68 (Nat.le_of_ble_eq_true rfl) (fun σ68 => ?_)
      refine s_aload_n hG dc2_writeTo_71 rfl ?_
      refine s_iload_n hG dc2_writeTo_72 rfl ?_
      refine s_bipush (v := 24) hG dc2_writeTo_73 (by decide) ?_
      refine s_iadd hG dc2_writeTo_75 ?_
      refine s_aload_n hG dc2_writeTo_76 rfl ?_
      refine s_getI hG kFc2_43 rfl dc2_writeTo_77 (fun v77 => ?_)
      refine s_iast hG dc2_writeTo_80 (fun σ80 => ?_)
      refine s_aload_n hG dc2_writeTo_81 rfl ?_
      refine s_iload_n hG dc2_writeTo_82 rfl ?_
      refine s_bipush (v := 24) hG dc2_writeTo_83 (by decide) ?_
      refine s_iadd hG dc2_writeTo_85 ?_
      refine s_iconst (v := 1) hG dc2_writeTo_86 (by decide) ?_
      refine s_iadd hG dc2_writeTo_87 ?_
      refine s_aload_n hG dc2_writeTo_88 rfl ?_
      refine s_getI hG kFc2_46 rfl dc2_writeTo_89 (fun v89 => ?_)
      refine s_iast hG dc2_writeTo_92 (fun σ92 => ?_)
      exact s_vret hG dc2_writeTo_93 rfl (Nat.le_of_ble_eq_true rfl) (Nat.le_of_ble_eq_true rfl)
    · exact s_vret hG dc2_writeTo_13 rfl (Nat.le_of_ble_eq_true rfl) (Nat.le_of_ble_eq_true rfl)
def fc5_keep (N : Nat) (a0 : Nat) (x1 : Option Nat) (σ : Me) : Option (Unit × Me) :=
  (qR σ 5 0 (some a0)).bind fun v2 =>
  (qI σ 5 1 (some a0)).bind fun v6 =>
  (dr σ x1 (.inl 2)).bind fun a =>
  (fc2_writeTo N a v2 (v6 * (26 : Int32)) σ).bind fun p12 =>
  (qI p12.2 5 1 (some a0)).bind fun v17 =>
  (rmI (v17 + (1 : Int32)) (40 : Int32)).bind fun v24 =>
  (pI p12.2 5 1 (some a0) v24).bind fun σ25 =>
  (qI σ25 5 2 (some a0)).bind fun v32 =>
  (fMt_min N (40 : Int32) (v32 + (1 : Int32)) σ25).bind fun p37 =>
  (pI p37.2 5 2 (some a0) p37.1).bind fun σ40 =>
  some ((), σ40)
set_option maxRecDepth 20000 in
set_option maxHeartbeats 2000000 in
theorem corc5_keep {Ω : Om} (N : Nat) (a0 : Nat) (x1 : Option Nat) (σ : Me) : Cor Ω tc5_keep 2 0 0 [vR (some a0), vR x1] σ ιV (fc5_keep N a0 x1 σ) := by
  refine Cor.of (by decide +kernel) (Nat.le_of_ble_eq_true rfl) (fun Γ hG => ?_)
  unfold fc5_keep
  show Sim Ω Γ 0 0 ιV 2 0 [(0, vR (some a0)), (1, vR x1)] [] σ 0 0 _
  refine s_aload_n hG dc5_keep_0 rfl ?_
  refine s_aload_n hG dc5_keep_1 rfl ?_
  refine s_getR hG kFc5_11 rfl dc5_keep_2 (fun v2 => ?_)
  refine s_aload_n hG dc5_keep_5 rfl ?_
  refine s_getI hG kFc5_25 rfl dc5_keep_6 (fun v6 => ?_)
  refine s_bipush (v := 26) hG dc5_keep_9 (by decide) ?_
  refine s_imul hG dc5_keep_11 ?_
  refine s_callVv hG kMc5_29 (fun a => corc2_writeTo N a _ _ _) ⟨by decide, rfl⟩ rfl (by first | decide | omega) dc5_keep_12 rfl rfl (Nat.le_of_ble_eq_true rfl) ⟨Nat.le_of_ble_eq_true rfl, Nat.le_of_ble_eq_true rfl⟩ (fun p12 => ?_)
  refine s_aload_n hG dc5_keep_15 rfl ?_
  refine s_aload_n hG dc5_keep_16 rfl ?_
  refine s_getI hG kFc5_25 rfl dc5_keep_17 (fun v17 => ?_)
  refine s_iconst (v := 1) hG dc5_keep_20 (by decide) ?_
  refine s_iadd hG dc5_keep_21 ?_
  refine s_bipush (v := 40) hG dc5_keep_22 (by decide) ?_
  refine s_irem hG dc5_keep_24 (fun v24 => ?_)
  refine s_putI (fin := false) hG kFc5_25 rfl (fun h => by cases h) rfl (fun _ => rfl) (fun _ => rfl) dc5_keep_25 (fun σ25 => ?_)
  refine s_aload_n hG dc5_keep_28 rfl ?_
  refine s_bipush (v := 40) hG dc5_keep_29 (by decide) ?_
  refine s_aload_n hG dc5_keep_31 rfl ?_
  refine s_getI hG kFc5_33 rfl dc5_keep_32 (fun v32 => ?_)
  refine s_iconst (v := 1) hG dc5_keep_35 (by decide) ?_
  refine s_iadd hG dc5_keep_36 ?_
  refine s_callSi hG kMc5_36 (corMt_min N _ _ _) rfl (by first | decide | omega) dc5_keep_37 rfl rfl (Nat.le_of_ble_eq_true rfl) ⟨Nat.le_of_ble_eq_true rfl, Nat.le_of_ble_eq_true rfl⟩ (fun p37 => ?_)
  refine s_putI (fin := false) hG kFc5_33 rfl (fun h => by cases h) rfl (fun _ => rfl) (fun _ => rfl) dc5_keep_40 (fun σ40 => ?_)
  exact s_vret hG dc5_keep_43 rfl (Nat.le_of_ble_eq_true rfl) (Nat.le_of_ble_eq_true rfl)
def fc11_year (N : Nat) (a0 : Nat) (x1 : Int32) (σ : Me) : Option (Int32 × Me) :=
  (dr σ (some a0) (.inl 11)).bind fun a =>
  (fc11_isSky N a x1 σ).bind fun p2 =>
  if p2.1 = 0 then
    some ((-1 : Int32), p2.2)
  else
    (qR p2.2 11 10 (some a0)).bind fun v9 =>
    (qI p2.2 2 9 v9).bind fun v12 =>
    if v12 < (999 : Int32) then
      (qR p2.2 11 14 (some a0)).bind fun v24 =>
      (qR p2.2 11 10 (some a0)).bind fun v28 =>
      (dr p2.2 v24 (.inl 5)).bind fun a =>
      (fc5_keep N a v28 p2.2).bind fun p31 =>
      (dr p31.2 (some a0) (.inl 11)).bind fun a =>
      (fc11_goBy N a x1 p31.2).bind fun p36 =>
      some (p36.1, p36.2)
    else
      some ((-1 : Int32), p2.2)
set_option maxRecDepth 20000 in
set_option maxHeartbeats 2000000 in
theorem corc11_year {Ω : Om} (N : Nat) (a0 : Nat) (x1 : Int32) (σ : Me) : Cor Ω tc11_year 7 0 0 [vR (some a0), vI x1] σ ιI (fc11_year N a0 x1 σ) := by
  refine Cor.of (by decide +kernel) (Nat.le_of_ble_eq_true rfl) (fun Γ hG => ?_)
  unfold fc11_year
  show Sim Ω Γ 0 0 ιI 2 0 [(0, vR (some a0)), (1, vI x1)] [] σ 0 0 _
  refine s_aload_n hG dc11_year_0 rfl ?_
  refine s_iload_n hG dc11_year_1 rfl ?_
  refine s_callVi hG kMc11_251 (fun a => corc11_isSky N a _ _) ⟨by decide, rfl⟩ rfl (by first | decide | omega) dc11_year_2 rfl rfl (Nat.le_of_ble_eq_true rfl) ⟨Nat.le_of_ble_eq_true rfl, Nat.le_of_ble_eq_true rfl⟩ (fun p2 => ?_)
  refine s_if_eq hG 21 dc11_year_5 (by decide) ?_ ?_
  · refine s_iconst (v := -1) hG dc11_year_21 (by decide) ?_
    exact s_iret hG dc11_year_22 rfl (Nat.le_of_ble_eq_true rfl) (Nat.le_of_ble_eq_true rfl)
  · refine s_aload_n hG dc11_year_8 rfl ?_
    refine s_getR hG kFc11_58 rfl dc11_year_9 (fun v9 => ?_)
    refine s_getI hG kFc11_201 rfl dc11_year_12 (fun v12 => ?_)
    refine s_sipush (v := 999) hG dc11_year_15 (by decide) ?_
    refine s_icmp_lt hG 23 dc11_year_18 (by decide) ?_ ?_
    · refine s_aload_n hG dc11_year_23 rfl ?_
      refine s_getR hG kFc11_82 rfl dc11_year_24 (fun v24 => ?_)
      refine s_aload_n hG dc11_year_27 rfl ?_
      refine s_getR hG kFc11_58 rfl dc11_year_28 (fun v28 => ?_)
      refine s_callVv hG kMc11_254 (fun a => corc5_keep N a _ _) ⟨by decide, rfl⟩ rfl (by first | decide | omega) dc11_year_31 rfl rfl (Nat.le_of_ble_eq_true rfl) ⟨Nat.le_of_ble_eq_true rfl, Nat.le_of_ble_eq_true rfl⟩ (fun p31 => ?_)
      refine s_aload_n hG dc11_year_34 rfl ?_
      refine s_iload_n hG dc11_year_35 rfl ?_
      refine s_callVi hG kMc11_257 (fun a => corc11_goBy N a _ _) ⟨by decide, rfl⟩ rfl (by first | decide | omega) dc11_year_36 rfl rfl (Nat.le_of_ble_eq_true rfl) ⟨Nat.le_of_ble_eq_true rfl, Nat.le_of_ble_eq_true rfl⟩ (fun p36 => ?_)
      exact s_iret hG dc11_year_39 rfl (Nat.le_of_ble_eq_true rfl) (Nat.le_of_ble_eq_true rfl)
    · refine s_iconst (v := -1) hG dc11_year_21 (by decide) ?_
      exact s_iret hG dc11_year_22 rfl (Nat.le_of_ble_eq_true rfl) (Nat.le_of_ble_eq_true rfl)
def fc11_isPair (N : Nat) (a0 : Nat) (x1 : Int32) (x2 : Int32) (σ : Me) : Option (Int32 × Me) :=
  (qR σ 11 10 (some a0)).bind fun v1 =>
  (dr σ v1 (.inl 2)).bind fun a =>
  (fc2_has N a x1 σ).bind fun p5 =>
  if p5.1 = 0 then
    retZ (0 : Int32) p5.2
  else
    (qR p5.2 11 10 (some a0)).bind fun v12 =>
    (dr p5.2 v12 (.inl 2)).bind fun a =>
    (fc2_has N a x2 p5.2).bind fun p16 =>
    if p16.1 = 0 then
      retZ (0 : Int32) p16.2
    else
      if x1 = x2 then
        retZ (0 : Int32) p16.2
      else
        retZ (1 : Int32) p16.2
set_option maxRecDepth 20000 in
set_option maxHeartbeats 2000000 in
theorem corc11_isPair {Ω : Om} (N : Nat) (a0 : Nat) (x1 : Int32) (x2 : Int32) (σ : Me) : Cor Ω tc11_isPair 2 0 0 [vR (some a0), vI x1, vI x2] σ ιI (fc11_isPair N a0 x1 x2 σ) := by
  refine Cor.of (by decide +kernel) (Nat.le_of_ble_eq_true rfl) (fun Γ hG => ?_)
  unfold fc11_isPair
  show Sim Ω Γ 0 0 ιI 3 0 [(0, vR (some a0)), (1, vI x1), (2, vI x2)] [] σ 0 0 _
  refine s_aload_n hG dc11_isPair_0 rfl ?_
  refine s_getR hG kFc11_58 rfl dc11_isPair_1 (fun v1 => ?_)
  refine s_iload_n hG dc11_isPair_4 rfl ?_
  refine s_callVi hG kMc11_180 (fun a => corc2_has N a _ _) ⟨by decide, rfl⟩ rfl (by first | decide | omega) dc11_isPair_5 rfl rfl (Nat.le_of_ble_eq_true rfl) ⟨Nat.le_of_ble_eq_true rfl, Nat.le_of_ble_eq_true rfl⟩ (fun p5 => ?_)
  refine s_if_eq hG 31 dc11_isPair_8 (by decide) ?_ ?_
  · refine s_iconst (v := 0) hG dc11_isPair_31 (by decide) ?_
    exact s_zret hG dc11_isPair_32 rfl (Nat.le_of_ble_eq_true rfl) (Nat.le_of_ble_eq_true rfl)
  · refine s_aload_n hG dc11_isPair_11 rfl ?_
    refine s_getR hG kFc11_58 rfl dc11_isPair_12 (fun v12 => ?_)
    refine s_iload_n hG dc11_isPair_15 rfl ?_
    refine s_callVi hG kMc11_180 (fun a => corc2_has N a _ _) ⟨by decide, rfl⟩ rfl (by first | decide | omega) dc11_isPair_16 rfl rfl (Nat.le_of_ble_eq_true rfl) ⟨Nat.le_of_ble_eq_true rfl, Nat.le_of_ble_eq_true rfl⟩ (fun p16 => ?_)
    refine s_if_eq hG 31 dc11_isPair_19 (by decide) ?_ ?_
    · refine s_iconst (v := 0) hG dc11_isPair_31 (by decide) ?_
      exact s_zret hG dc11_isPair_32 rfl (Nat.le_of_ble_eq_true rfl) (Nat.le_of_ble_eq_true rfl)
    · refine s_iload_n hG dc11_isPair_22 rfl ?_
      refine s_iload_n hG dc11_isPair_23 rfl ?_
      refine s_icmp_eq hG 31 dc11_isPair_24 (by decide) ?_ ?_
      · refine s_iconst (v := 0) hG dc11_isPair_31 (by decide) ?_
        exact s_zret hG dc11_isPair_32 rfl (Nat.le_of_ble_eq_true rfl) (Nat.le_of_ble_eq_true rfl)
      · refine s_iconst (v := 1) hG dc11_isPair_27 (by decide) ?_
        refine s_goto hG 32 dc11_isPair_28 (by decide) ?_
        exact s_zret hG dc11_isPair_32 rfl (Nat.le_of_ble_eq_true rfl) (Nat.le_of_ble_eq_true rfl)
def fc2_handOver (N : Nat) (a0 : Nat) (x1 : Int32) (x2 : Int32) (x3 : Int32) (σ : Me) : Option (Unit × Me) :=
  (qR σ 2 0 (some a0)).bind fun v1 =>
  (ldI σ v1 x1).bind fun v6 =>
  (stI σ v1 x1 (v6 - x3)).bind fun σ9 =>
  (qR σ9 2 0 (some a0)).bind fun v11 =>
  (qR σ9 2 0 (some a0)).bind fun v19 =>
  (ldI σ9 v19 x2).bind fun v23 =>
  (fMt_min N (999 : Int32) (v23 + x3) σ9).bind fun p26 =>
  (stI p26.2 v11 x2 p26.1).bind fun σ29 =>
  (qR σ29 2 4 (some a0)).bind fun v31 =>
  (ldI σ29 v31 x1).bind fun v36 =>
  (qI σ29 2 8 (some a0)).bind fun v39 =>
  (stI σ29 v31 x1 (v36 + (x3 * v39))).bind fun σ44 =>
  (qR σ44 2 4 (some a0)).bind fun v46 =>
  (ldI σ44 v46 x2).bind fun v51 =>
  (qI σ44 2 8 (some a0)).bind fun v54 =>
  (stI σ44 v46 x2 (v51 - (x3 * v54))).bind fun σ59 =>
  some ((), σ59)
set_option maxRecDepth 20000 in
set_option maxHeartbeats 2000000 in
theorem corc2_handOver {Ω : Om} (N : Nat) (a0 : Nat) (x1 : Int32) (x2 : Int32) (x3 : Int32) (σ : Me) : Cor Ω tc2_handOver 2 0 0 [vR (some a0), vI x1, vI x2, vI x3] σ ιV (fc2_handOver N a0 x1 x2 x3 σ) := by
  refine Cor.of (by decide +kernel) (Nat.le_of_ble_eq_true rfl) (fun Γ hG => ?_)
  unfold fc2_handOver
  show Sim Ω Γ 0 0 ιV 4 0 [(0, vR (some a0)), (1, vI x1), (2, vI x2), (3, vI x3)] [] σ 0 0 _
  refine s_aload_n hG dc2_handOver_0 rfl ?_
  refine s_getR hG kFc2_9 rfl dc2_handOver_1 (fun v1 => ?_)
  refine s_iload_n hG dc2_handOver_4 rfl ?_
  refine s_dup2 hG dc2_handOver_5 rfl rfl ?_
  refine s_iald hG dc2_handOver_6 (fun v6 => ?_)
  refine s_iload_n hG dc2_handOver_7 rfl ?_
  refine s_isub hG dc2_handOver_8 ?_
  refine s_iast hG dc2_handOver_9 (fun σ9 => ?_)
  refine s_aload_n hG dc2_handOver_10 rfl ?_
  refine s_getR hG kFc2_9 rfl dc2_handOver_11 (fun v11 => ?_)
  refine s_iload_n hG dc2_handOver_14 rfl ?_
  refine s_sipush (v := 999) hG dc2_handOver_15 (by decide) ?_
  refine s_aload_n hG dc2_handOver_18 rfl ?_
  refine s_getR hG kFc2_9 rfl dc2_handOver_19 (fun v19 => ?_)
  refine s_iload_n hG dc2_handOver_22 rfl ?_
  refine s_iald hG dc2_handOver_23 (fun v23 => ?_)
  refine s_iload_n hG dc2_handOver_24 rfl ?_
  refine s_iadd hG dc2_handOver_25 ?_
  refine s_callSi hG kMc2_49 (corMt_min N _ _ _) rfl (by first | decide | omega) dc2_handOver_26 rfl rfl (Nat.le_of_ble_eq_true rfl) ⟨Nat.le_of_ble_eq_true rfl, Nat.le_of_ble_eq_true rfl⟩ (fun p26 => ?_)
  refine s_iast hG dc2_handOver_29 (fun σ29 => ?_)
  refine s_aload_n hG dc2_handOver_30 rfl ?_
  refine s_getR hG kFc2_24 rfl dc2_handOver_31 (fun v31 => ?_)
  refine s_iload_n hG dc2_handOver_34 rfl ?_
  refine s_dup2 hG dc2_handOver_35 rfl rfl ?_
  refine s_iald hG dc2_handOver_36 (fun v36 => ?_)
  refine s_iload_n hG dc2_handOver_37 rfl ?_
  refine s_aload_n hG dc2_handOver_38 rfl ?_
  refine s_getI hG kFc2_43 rfl dc2_handOver_39 (fun v39 => ?_)
  refine s_imul hG dc2_handOver_42 ?_
  refine s_iadd hG dc2_handOver_43 ?_
  refine s_iast hG dc2_handOver_44 (fun σ44 => ?_)
  refine s_aload_n hG dc2_handOver_45 rfl ?_
  refine s_getR hG kFc2_24 rfl dc2_handOver_46 (fun v46 => ?_)
  refine s_iload_n hG dc2_handOver_49 rfl ?_
  refine s_dup2 hG dc2_handOver_50 rfl rfl ?_
  refine s_iald hG dc2_handOver_51 (fun v51 => ?_)
  refine s_iload_n hG dc2_handOver_52 rfl ?_
  refine s_aload_n hG dc2_handOver_53 rfl ?_
  refine s_getI hG kFc2_43 rfl dc2_handOver_54 (fun v54 => ?_)
  refine s_imul hG dc2_handOver_57 ?_
  refine s_isub hG dc2_handOver_58 ?_
  refine s_iast hG dc2_handOver_59 (fun σ59 => ?_)
  exact s_vret hG dc2_handOver_60 rfl (Nat.le_of_ble_eq_true rfl) (Nat.le_of_ble_eq_true rfl)
def fc2_isSale (N : Nat) (a0 : Nat) (x1 : Int32) (x2 : Int32) (x3 : Int32) (σ : Me) : Option (Int32 × Me) :=
  (qI σ 2 8 (some a0)).bind fun v2 =>
  (qR σ 2 0 (some a0)).bind fun v9 =>
  (ldI σ v9 x1).bind fun v13 =>
  if v13 < x3 then
    retZ (0 : Int32) σ
  else
    (qR σ 2 4 (some a0)).bind fun v19 =>
    (ldI σ v19 x2).bind fun v23 =>
    if v23 < (x3 * v2) then
      retZ (0 : Int32) σ
    else
      (qR σ 2 4 (some a0)).bind fun v30 =>
      (ldI σ v30 x1).bind fun v34 =>
      if (999 : Int32) < (v34 + (x3 * v2)) then
        retZ (0 : Int32) σ
      else
        retZ (1 : Int32) σ
set_option maxRecDepth 20000 in
set_option maxHeartbeats 2000000 in
theorem corc2_isSale {Ω : Om} (N : Nat) (a0 : Nat) (x1 : Int32) (x2 : Int32) (x3 : Int32) (σ : Me) : Cor Ω tc2_isSale 1 0 0 [vR (some a0), vI x1, vI x2, vI x3] σ ιI (fc2_isSale N a0 x1 x2 x3 σ) := by
  refine Cor.of (by decide +kernel) (Nat.le_of_ble_eq_true rfl) (fun Γ hG => ?_)
  unfold fc2_isSale
  show Sim Ω Γ 0 0 ιI 5 0 [(0, vR (some a0)), (1, vI x1), (2, vI x2), (3, vI x3)] [] σ 0 0 _
  refine s_iload_n hG dc2_isSale_0 rfl ?_
  refine s_aload_n hG dc2_isSale_1 rfl ?_
  refine s_getI hG kFc2_43 rfl dc2_isSale_2 (fun v2 => ?_)
  refine s_imul hG dc2_isSale_5 ?_
  refine s_istore hG dc2_isSale_6 (by decide) ?_
  refine s_aload_n hG dc2_isSale_8 rfl ?_
  refine s_getR hG kFc2_9 rfl dc2_isSale_9 (fun v9 => ?_)
  refine s_iload_n hG dc2_isSale_12 rfl ?_
  refine s_iald hG dc2_isSale_13 (fun v13 => ?_)
  refine s_iload_n hG dc2_isSale_14 rfl ?_
  refine s_icmp_lt hG 48 dc2_isSale_15 (by decide) ?_ ?_
  · refine s_iconst (v := 0) hG dc2_isSale_48 (by decide) ?_
    exact s_zret hG dc2_isSale_49 rfl (Nat.le_of_ble_eq_true rfl) (Nat.le_of_ble_eq_true rfl)
  · refine s_aload_n hG dc2_isSale_18 rfl ?_
    refine s_getR hG kFc2_24 rfl dc2_isSale_19 (fun v19 => ?_)
    refine s_iload_n hG dc2_isSale_22 rfl ?_
    refine s_iald hG dc2_isSale_23 (fun v23 => ?_)
    refine s_iload hG dc2_isSale_24 rfl ?_
    refine s_icmp_lt hG 48 dc2_isSale_26 (by decide) ?_ ?_
    · refine s_iconst (v := 0) hG dc2_isSale_48 (by decide) ?_
      exact s_zret hG dc2_isSale_49 rfl (Nat.le_of_ble_eq_true rfl) (Nat.le_of_ble_eq_true rfl)
    · refine s_aload_n hG dc2_isSale_29 rfl ?_
      refine s_getR hG kFc2_24 rfl dc2_isSale_30 (fun v30 => ?_)
      refine s_iload_n hG dc2_isSale_33 rfl ?_
      refine s_iald hG dc2_isSale_34 (fun v34 => ?_)
      refine s_iload hG dc2_isSale_35 rfl ?_
      refine s_iadd hG dc2_isSale_37 ?_
      refine s_sipush (v := 999) hG dc2_isSale_38 (by decide) ?_
      refine s_icmp_gt hG 48 dc2_isSale_41 (by decide) ?_ ?_
      · refine s_iconst (v := 0) hG dc2_isSale_48 (by decide) ?_
        exact s_zret hG dc2_isSale_49 rfl (Nat.le_of_ble_eq_true rfl) (Nat.le_of_ble_eq_true rfl)
      · refine s_iconst (v := 1) hG dc2_isSale_44 (by decide) ?_
        refine s_goto hG 49 dc2_isSale_45 (by decide) ?_
        exact s_zret hG dc2_isSale_49 rfl (Nat.le_of_ble_eq_true rfl) (Nat.le_of_ble_eq_true rfl)
def fc11_sell (N : Nat) (a0 : Nat) (x1 : Int32) (x2 : Int32) (x3 : Int32) (σ : Me) : Option (Int32 × Me) :=
  (dr σ (some a0) (.inl 11)).bind fun a =>
  (fc11_isPair N a x1 x2 σ).bind fun p3 =>
  if p3.1 = 0 then
    some ((-1 : Int32), p3.2)
  else
    (fc11_isSomeAtOnce N x3 p3.2).bind fun p10 =>
    if p10.1 = 0 then
      some ((-1 : Int32), p10.2)
    else
      (qR p10.2 11 10 (some a0)).bind fun v17 =>
      (dr p10.2 v17 (.inl 2)).bind fun a =>
      (fc2_isSale N a x1 x2 x3 p10.2).bind fun p23 =>
      if p23.1 = 0 then
        some ((-1 : Int32), p23.2)
      else
        (qR p23.2 11 14 (some a0)).bind fun v32 =>
        (qR p23.2 11 10 (some a0)).bind fun v36 =>
        (dr p23.2 v32 (.inl 5)).bind fun a =>
        (fc5_keep N a v36 p23.2).bind fun p39 =>
        (qR p39.2 11 10 (some a0)).bind fun v43 =>
        (dr p39.2 v43 (.inl 2)).bind fun a =>
        (fc2_handOver N a x1 x2 x3 p39.2).bind fun p49 =>
        (qR p49.2 11 10 (some a0)).bind fun v53 =>
        (qR p49.2 2 4 v53).bind fun v56 =>
        (ldI p49.2 v56 x1).bind fun v60 =>
        some (v60, p49.2)
set_option maxRecDepth 20000 in
set_option maxHeartbeats 2000000 in
theorem corc11_sell {Ω : Om} (N : Nat) (a0 : Nat) (x1 : Int32) (x2 : Int32) (x3 : Int32) (σ : Me) : Cor Ω tc11_sell 3 0 0 [vR (some a0), vI x1, vI x2, vI x3] σ ιI (fc11_sell N a0 x1 x2 x3 σ) := by
  refine Cor.of (by decide +kernel) (Nat.le_of_ble_eq_true rfl) (fun Γ hG => ?_)
  unfold fc11_sell
  show Sim Ω Γ 0 0 ιI 4 0 [(0, vR (some a0)), (1, vI x1), (2, vI x2), (3, vI x3)] [] σ 0 0 _
  refine s_aload_n hG dc11_sell_0 rfl ?_
  refine s_iload_n hG dc11_sell_1 rfl ?_
  refine s_iload_n hG dc11_sell_2 rfl ?_
  refine s_callVi hG kMc11_260 (fun a => corc11_isPair N a _ _ _) ⟨by decide, rfl⟩ rfl (by first | decide | omega) dc11_sell_3 rfl rfl (Nat.le_of_ble_eq_true rfl) ⟨Nat.le_of_ble_eq_true rfl, Nat.le_of_ble_eq_true rfl⟩ (fun p3 => ?_)
  refine s_if_eq hG 29 dc11_sell_6 (by decide) ?_ ?_
  · refine s_iconst (v := -1) hG dc11_sell_29 (by decide) ?_
    exact s_iret hG dc11_sell_30 rfl (Nat.le_of_ble_eq_true rfl) (Nat.le_of_ble_eq_true rfl)
  · refine s_iload_n hG dc11_sell_9 rfl ?_
    refine s_callSi hG kMc11_244 (corc11_isSomeAtOnce N _ _) rfl (by first | decide | omega) dc11_sell_10 rfl rfl (Nat.le_of_ble_eq_true rfl) ⟨Nat.le_of_ble_eq_true rfl, Nat.le_of_ble_eq_true rfl⟩ (fun p10 => ?_)
    refine s_if_eq hG 29 dc11_sell_13 (by decide) ?_ ?_
    · refine s_iconst (v := -1) hG dc11_sell_29 (by decide) ?_
      exact s_iret hG dc11_sell_30 rfl (Nat.le_of_ble_eq_true rfl) (Nat.le_of_ble_eq_true rfl)
    · refine s_aload_n hG dc11_sell_16 rfl ?_
      refine s_getR hG kFc11_58 rfl dc11_sell_17 (fun v17 => ?_)
      refine s_iload_n hG dc11_sell_20 rfl ?_
      refine s_iload_n hG dc11_sell_21 rfl ?_
      refine s_iload_n hG dc11_sell_22 rfl ?_
      refine s_callVi hG kMc11_264 (fun a => corc2_isSale N a _ _ _ _) ⟨by decide, rfl⟩ rfl (by first | decide | omega) dc11_sell_23 rfl rfl (Nat.le_of_ble_eq_true rfl) ⟨Nat.le_of_ble_eq_true rfl, Nat.le_of_ble_eq_true rfl⟩ (fun p23 => ?_)
      refine s_if_ne hG 31 dc11_sell_26 (by decide) ?_ ?_
      · refine s_aload_n hG dc11_sell_31 rfl ?_
        refine s_getR hG kFc11_82 rfl dc11_sell_32 (fun v32 => ?_)
        refine s_aload_n hG dc11_sell_35 rfl ?_
        refine s_getR hG kFc11_58 rfl dc11_sell_36 (fun v36 => ?_)
        refine s_callVv hG kMc11_254 (fun a => corc5_keep N a _ _) ⟨by decide, rfl⟩ rfl (by first | decide | omega) dc11_sell_39 rfl rfl (Nat.le_of_ble_eq_true rfl) ⟨Nat.le_of_ble_eq_true rfl, Nat.le_of_ble_eq_true rfl⟩ (fun p39 => ?_)
        refine s_aload_n hG dc11_sell_42 rfl ?_
        refine s_getR hG kFc11_58 rfl dc11_sell_43 (fun v43 => ?_)
        refine s_iload_n hG dc11_sell_46 rfl ?_
        refine s_iload_n hG dc11_sell_47 rfl ?_
        refine s_iload_n hG dc11_sell_48 rfl ?_
        refine s_callVv hG kMc11_268 (fun a => corc2_handOver N a _ _ _ _) ⟨by decide, rfl⟩ rfl (by first | decide | omega) dc11_sell_49 rfl rfl (Nat.le_of_ble_eq_true rfl) ⟨Nat.le_of_ble_eq_true rfl, Nat.le_of_ble_eq_true rfl⟩ (fun p49 => ?_)
        refine s_aload_n hG dc11_sell_52 rfl ?_
        refine s_getR hG kFc11_58 rfl dc11_sell_53 (fun v53 => ?_)
        refine s_getR hG kFc11_198 rfl dc11_sell_56 (fun v56 => ?_)
        refine s_iload_n hG dc11_sell_59 rfl ?_
        refine s_iald hG dc11_sell_60 (fun v60 => ?_)
        exact s_iret hG dc11_sell_61 rfl (Nat.le_of_ble_eq_true rfl) (Nat.le_of_ble_eq_true rfl)
      · refine s_iconst (v := -1) hG dc11_sell_29 (by decide) ?_
        exact s_iret hG dc11_sell_30 rfl (Nat.le_of_ble_eq_true rfl) (Nat.le_of_ble_eq_true rfl)
def fc2_isMist (N : Nat) (a0 : Nat) (x1 : Int32) (x2 : Int32) (σ : Me) : Option (Int32 × Me) :=
  (dr σ (some a0) (.inl 2)).bind fun a =>
  (fc2_has N a x1 σ).bind fun p2 =>
  if p2.1 = 0 then
    retZ (0 : Int32) p2.2
  else
    (fc11_isSomeAtOnce N x2 p2.2).bind fun p9 =>
    if p9.1 = 0 then
      retZ (0 : Int32) p9.2
    else
      (qR p9.2 2 0 (some a0)).bind fun v17 =>
      (ldI p9.2 v17 x1).bind fun v21 =>
      if v21 < x2 then
        retZ (0 : Int32) p9.2
      else
        retZ (1 : Int32) p9.2
set_option maxRecDepth 20000 in
set_option maxHeartbeats 2000000 in
theorem corc2_isMist {Ω : Om} (N : Nat) (a0 : Nat) (x1 : Int32) (x2 : Int32) (σ : Me) : Cor Ω tc2_isMist 2 0 0 [vR (some a0), vI x1, vI x2] σ ιI (fc2_isMist N a0 x1 x2 σ) := by
  refine Cor.of (by decide +kernel) (Nat.le_of_ble_eq_true rfl) (fun Γ hG => ?_)
  unfold fc2_isMist
  show Sim Ω Γ 0 0 ιI 3 0 [(0, vR (some a0)), (1, vI x1), (2, vI x2)] [] σ 0 0 _
  refine s_aload_n hG dc2_isMist_0 rfl ?_
  refine s_iload_n hG dc2_isMist_1 rfl ?_
  refine s_callVi hG kMc2_55 (fun a => corc2_has N a _ _) ⟨by decide, rfl⟩ rfl (by first | decide | omega) dc2_isMist_2 rfl rfl (Nat.le_of_ble_eq_true rfl) ⟨Nat.le_of_ble_eq_true rfl, Nat.le_of_ble_eq_true rfl⟩ (fun p2 => ?_)
  refine s_if_eq hG 29 dc2_isMist_5 (by decide) ?_ ?_
  · refine s_iconst (v := 0) hG dc2_isMist_29 (by decide) ?_
    exact s_zret hG dc2_isMist_30 rfl (Nat.le_of_ble_eq_true rfl) (Nat.le_of_ble_eq_true rfl)
  · refine s_iload_n hG dc2_isMist_8 rfl ?_
    refine s_callNSi hG kMc2_59 (corc11_isSomeAtOnce N _ _) rfl (by first | decide | omega) dc2_isMist_9 rfl rfl (Nat.le_of_ble_eq_true rfl) ⟨Nat.le_of_ble_eq_true rfl, Nat.le_of_ble_eq_true rfl⟩ (fun p9 => ?_)
    refine s_if_eq hG 29 dc2_isMist_12 (by decide) ?_ ?_
    · refine s_iconst (v := 0) hG dc2_isMist_29 (by decide) ?_
      exact s_zret hG dc2_isMist_30 rfl (Nat.le_of_ble_eq_true rfl) (Nat.le_of_ble_eq_true rfl)
    · refine s_iload_n hG dc2_isMist_15 rfl ?_
      refine s_aload_n hG dc2_isMist_16 rfl ?_
      refine s_getR hG kFc2_9 rfl dc2_isMist_17 (fun v17 => ?_)
      refine s_iload_n hG dc2_isMist_20 rfl ?_
      refine s_iald hG dc2_isMist_21 (fun v21 => ?_)
      refine s_icmp_gt hG 29 dc2_isMist_22 (by decide) ?_ ?_
      · refine s_iconst (v := 0) hG dc2_isMist_29 (by decide) ?_
        exact s_zret hG dc2_isMist_30 rfl (Nat.le_of_ble_eq_true rfl) (Nat.le_of_ble_eq_true rfl)
      · refine s_iconst (v := 1) hG dc2_isMist_25 (by decide) ?_
        refine s_goto hG 30 dc2_isMist_26 (by decide) ?_
        exact s_zret hG dc2_isMist_30 rfl (Nat.le_of_ble_eq_true rfl) (Nat.le_of_ble_eq_true rfl)
def fc2_turnToMist_12 (N : Nat) : Nat → Option Nat → Int32 → Me → Option (Unit × Me)
  | 0, _, _, _ => none
  | n + 1, l0, l3, σ =>
    (qI σ 2 5 l0).bind fun v14 =>
    if v14 ≤ l3 then
      some ((), σ)
    else
      (qR σ 2 2 l0).bind fun v21 =>
      (qR σ 2 2 l0).bind fun v28 =>
      (ldI σ v28 l3).bind fun v32 =>
      (fMt_min N (30 : Int32) (v32 + (1 : Int32)) σ).bind fun p35 =>
      (stI p35.2 v21 l3 p35.1).bind fun σ38 =>
      (fc2_turnToMist_12 N n) l0 (l3 + (1 : Int32)) σ38
def fc2_turnToMist (N : Nat) (a0 : Nat) (x1 : Int32) (x2 : Int32) (σ : Me) : Option (Unit × Me) :=
  (qR σ 2 0 (some a0)).bind fun v1 =>
  (ldI σ v1 x1).bind fun v6 =>
  (stI σ v1 x1 (v6 - x2)).bind fun σ9 =>
  fc2_turnToMist_12 N N (some a0) (0 : Int32) σ9
set_option maxRecDepth 20000 in
set_option maxHeartbeats 2000000 in
theorem pc2_turnToMist_12 {Ω : Om} {Γ : Ga} {N : Nat} (hG : Good Ω Γ tc2_turnToMist 2 0 0)  : ∀ (n : Nat) (l0 : Option Nat) (l3 : Int32) (σ : Me), Sim Ω Γ 0 0 ιV 4 12 [(0, vR l0), (3, vI l3)] [] σ 0 0 (fc2_turnToMist_12 N n l0 l3 σ) := by
  intro n
  induction n with
  | zero => intros; exact s_none
  | succ n ih =>
    intro l0 l3 σ
    unfold fc2_turnToMist_12
    refine s_iload_n hG dc2_turnToMist_12 rfl ?_
    refine s_aload_n hG dc2_turnToMist_13 rfl ?_
    refine s_getI hG kFc2_33 rfl dc2_turnToMist_14 (fun v14 => ?_)
    refine s_icmp_ge hG 45 dc2_turnToMist_17 (by decide) ?_ ?_
    · exact s_vret hG dc2_turnToMist_45 rfl (Nat.le_of_ble_eq_true rfl) (Nat.le_of_ble_eq_true rfl)
    · refine s_aload_n hG dc2_turnToMist_20 rfl ?_
      refine s_getR hG kFc2_18 rfl dc2_turnToMist_21 (fun v21 => ?_)
      refine s_iload_n hG dc2_turnToMist_24 rfl ?_
      refine s_bipush (v := 30) hG dc2_turnToMist_25 (by decide) ?_
      refine s_aload_n hG dc2_turnToMist_27 rfl ?_
      refine s_getR hG kFc2_18 rfl dc2_turnToMist_28 (fun v28 => ?_)
      refine s_iload_n hG dc2_turnToMist_31 rfl ?_
      refine s_iald hG dc2_turnToMist_32 (fun v32 => ?_)
      refine s_iconst (v := 1) hG dc2_turnToMist_33 (by decide) ?_
      refine s_iadd hG dc2_turnToMist_34 ?_
      refine s_callSi hG kMc2_49 (corMt_min N _ _ _) rfl (by first | decide | omega) dc2_turnToMist_35 rfl rfl (Nat.le_of_ble_eq_true rfl) ⟨Nat.le_of_ble_eq_true rfl, Nat.le_of_ble_eq_true rfl⟩ (fun p35 => ?_)
      refine s_iast hG dc2_turnToMist_38 (fun σ38 => ?_)
      refine s_iinc (v := 1) hG dc2_turnToMist_39 rfl (by decide) (by decide) ?_
      refine s_goto hG 12 dc2_turnToMist_42 (by decide) ?_
      exact s_lv (lc rfl (lc rfl ln)) (ih _ _ _)
set_option maxRecDepth 20000 in
set_option maxHeartbeats 2000000 in
theorem corc2_turnToMist {Ω : Om} (N : Nat) (a0 : Nat) (x1 : Int32) (x2 : Int32) (σ : Me) : Cor Ω tc2_turnToMist 2 0 0 [vR (some a0), vI x1, vI x2] σ ιV (fc2_turnToMist N a0 x1 x2 σ) := by
  refine Cor.of (by decide +kernel) (Nat.le_of_ble_eq_true rfl) (fun Γ hG => ?_)
  unfold fc2_turnToMist
  show Sim Ω Γ 0 0 ιV 4 0 [(0, vR (some a0)), (1, vI x1), (2, vI x2)] [] σ 0 0 _
  refine s_aload_n hG dc2_turnToMist_0 rfl ?_
  refine s_getR hG kFc2_9 rfl dc2_turnToMist_1 (fun v1 => ?_)
  refine s_iload_n hG dc2_turnToMist_4 rfl ?_
  refine s_dup2 hG dc2_turnToMist_5 rfl rfl ?_
  refine s_iald hG dc2_turnToMist_6 (fun v6 => ?_)
  refine s_iload_n hG dc2_turnToMist_7 rfl ?_
  refine s_isub hG dc2_turnToMist_8 ?_
  refine s_iast hG dc2_turnToMist_9 (fun σ9 => ?_)
  refine s_iconst (v := 0) hG dc2_turnToMist_10 (by decide) ?_
  refine s_istore_n hG dc2_turnToMist_11 (by decide) ?_
  exact s_lv (lc rfl (lc rfl ln)) (pc2_turnToMist_12 hG _ _ _ _)
def fc11_forgive (N : Nat) (a0 : Nat) (x1 : Int32) (x2 : Int32) (σ : Me) : Option (Int32 × Me) :=
  (qR σ 11 10 (some a0)).bind fun v1 =>
  (dr σ v1 (.inl 2)).bind fun a =>
  (fc2_isMist N a x1 x2 σ).bind fun p6 =>
  if p6.1 = 0 then
    some ((-1 : Int32), p6.2)
  else
    (qR p6.2 11 14 (some a0)).bind fun v15 =>
    (qR p6.2 11 10 (some a0)).bind fun v19 =>
    (dr p6.2 v15 (.inl 5)).bind fun a =>
    (fc5_keep N a v19 p6.2).bind fun p22 =>
    (qR p22.2 11 10 (some a0)).bind fun v26 =>
    (dr p22.2 v26 (.inl 2)).bind fun a =>
    (fc2_turnToMist N a x1 x2 p22.2).bind fun p31 =>
    (qR p31.2 11 10 (some a0)).bind fun v35 =>
    (qR p31.2 2 0 v35).bind fun v38 =>
    (ldI p31.2 v38 x1).bind fun v42 =>
    some (v42, p31.2)
set_option maxRecDepth 20000 in
set_option maxHeartbeats 2000000 in
theorem corc11_forgive {Ω : Om} (N : Nat) (a0 : Nat) (x1 : Int32) (x2 : Int32) (σ : Me) : Cor Ω tc11_forgive 3 0 0 [vR (some a0), vI x1, vI x2] σ ιI (fc11_forgive N a0 x1 x2 σ) := by
  refine Cor.of (by decide +kernel) (Nat.le_of_ble_eq_true rfl) (fun Γ hG => ?_)
  unfold fc11_forgive
  show Sim Ω Γ 0 0 ιI 3 0 [(0, vR (some a0)), (1, vI x1), (2, vI x2)] [] σ 0 0 _
  refine s_aload_n hG dc11_forgive_0 rfl ?_
  refine s_getR hG kFc11_58 rfl dc11_forgive_1 (fun v1 => ?_)
  refine s_iload_n hG dc11_forgive_4 rfl ?_
  refine s_iload_n hG dc11_forgive_5 rfl ?_
  refine s_callVi hG kMc11_272 (fun a => corc2_isMist N a _ _ _) ⟨by decide, rfl⟩ rfl (by first | decide | omega) dc11_forgive_6 rfl rfl (Nat.le_of_ble_eq_true rfl) ⟨Nat.le_of_ble_eq_true rfl, Nat.le_of_ble_eq_true rfl⟩ (fun p6 => ?_)
  refine s_if_ne hG 14 dc11_forgive_9 (by decide) ?_ ?_
  · refine s_aload_n hG dc11_forgive_14 rfl ?_
    refine s_getR hG kFc11_82 rfl dc11_forgive_15 (fun v15 => ?_)
    refine s_aload_n hG dc11_forgive_18 rfl ?_
    refine s_getR hG kFc11_58 rfl dc11_forgive_19 (fun v19 => ?_)
    refine s_callVv hG kMc11_254 (fun a => corc5_keep N a _ _) ⟨by decide, rfl⟩ rfl (by first | decide | omega) dc11_forgive_22 rfl rfl (Nat.le_of_ble_eq_true rfl) ⟨Nat.le_of_ble_eq_true rfl, Nat.le_of_ble_eq_true rfl⟩ (fun p22 => ?_)
    refine s_aload_n hG dc11_forgive_25 rfl ?_
    refine s_getR hG kFc11_58 rfl dc11_forgive_26 (fun v26 => ?_)
    refine s_iload_n hG dc11_forgive_29 rfl ?_
    refine s_iload_n hG dc11_forgive_30 rfl ?_
    refine s_callVv hG kMc11_275 (fun a => corc2_turnToMist N a _ _ _) ⟨by decide, rfl⟩ rfl (by first | decide | omega) dc11_forgive_31 rfl rfl (Nat.le_of_ble_eq_true rfl) ⟨Nat.le_of_ble_eq_true rfl, Nat.le_of_ble_eq_true rfl⟩ (fun p31 => ?_)
    refine s_aload_n hG dc11_forgive_34 rfl ?_
    refine s_getR hG kFc11_58 rfl dc11_forgive_35 (fun v35 => ?_)
    refine s_getR hG kFc11_186 rfl dc11_forgive_38 (fun v38 => ?_)
    refine s_iload_n hG dc11_forgive_41 rfl ?_
    refine s_iald hG dc11_forgive_42 (fun v42 => ?_)
    exact s_iret hG dc11_forgive_43 rfl (Nat.le_of_ble_eq_true rfl) (Nat.le_of_ble_eq_true rfl)
  · refine s_iconst (v := -1) hG dc11_forgive_12 (by decide) ?_
    exact s_iret hG dc11_forgive_13 rfl (Nat.le_of_ble_eq_true rfl) (Nat.le_of_ble_eq_true rfl)
def fc2_isHedge_52 (N : Nat)  (σ : Me) : Option (Int32 × Me) :=
  retZ (1 : Int32) σ
def fc2_isHedge (N : Nat) (a0 : Nat) (x1 : Int32) (σ : Me) : Option (Int32 × Me) :=
  (dr σ (some a0) (.inl 2)).bind fun a =>
  (fc2_has N a x1 σ).bind fun p2 =>
  if p2.1 = 0 then
    retZ (0 : Int32) p2.2
  else
    (dr p2.2 (some a0) (.inl 2)).bind fun a =>
    (fc2_has N a (x1 + (1 : Int32)) p2.2).bind fun p12 =>
    if p12.1 = 0 then
      retZ (0 : Int32) p12.2
    else
      (qR p12.2 2 0 (some a0)).bind fun v19 =>
      (ldI p12.2 v19 x1).bind fun v23 =>
      (qR p12.2 2 0 (some a0)).bind fun v25 =>
      (ldI p12.2 v25 (x1 + (1 : Int32))).bind fun v31 =>
      if v23 = v31 then
        (qR p12.2 2 1 (some a0)).bind fun v36 =>
        (ldI p12.2 v36 x1).bind fun v40 =>
        (qR p12.2 2 1 (some a0)).bind fun v42 =>
        (ldI p12.2 v42 (x1 + (1 : Int32))).bind fun v48 =>
        if v40 = v48 then
          retZ (0 : Int32) p12.2
        else
          fc2_isHedge_52 N  p12.2
      else
        fc2_isHedge_52 N  p12.2
set_option maxRecDepth 20000 in
set_option maxHeartbeats 2000000 in
theorem pc2_isHedge_52 {Ω : Om} {Γ : Ga} {N : Nat} (hG : Good Ω Γ tc2_isHedge 2 0 0)  (σ : Me) : Sim Ω Γ 0 0 ιI 2 52 [] [] σ 0 0 (fc2_isHedge_52 N  σ) := by
  unfold fc2_isHedge_52
  refine s_iconst (v := 1) hG dc2_isHedge_52 (by decide) ?_
  refine s_goto hG 57 dc2_isHedge_53 (by decide) ?_
  exact s_zret hG dc2_isHedge_57 rfl (Nat.le_of_ble_eq_true rfl) (Nat.le_of_ble_eq_true rfl)
set_option maxRecDepth 20000 in
set_option maxHeartbeats 2000000 in
theorem corc2_isHedge {Ω : Om} (N : Nat) (a0 : Nat) (x1 : Int32) (σ : Me) : Cor Ω tc2_isHedge 2 0 0 [vR (some a0), vI x1] σ ιI (fc2_isHedge N a0 x1 σ) := by
  refine Cor.of (by decide +kernel) (Nat.le_of_ble_eq_true rfl) (fun Γ hG => ?_)
  unfold fc2_isHedge
  show Sim Ω Γ 0 0 ιI 2 0 [(0, vR (some a0)), (1, vI x1)] [] σ 0 0 _
  refine s_aload_n hG dc2_isHedge_0 rfl ?_
  refine s_iload_n hG dc2_isHedge_1 rfl ?_
  refine s_callVi hG kMc2_55 (fun a => corc2_has N a _ _) ⟨by decide, rfl⟩ rfl (by first | decide | omega) dc2_isHedge_2 rfl rfl (Nat.le_of_ble_eq_true rfl) ⟨Nat.le_of_ble_eq_true rfl, Nat.le_of_ble_eq_true rfl⟩ (fun p2 => ?_)
  refine s_if_eq hG 56 dc2_isHedge_5 (by decide) ?_ ?_
  · refine s_iconst (v := 0) hG dc2_isHedge_56 (by decide) ?_
    exact s_zret hG dc2_isHedge_57 rfl (Nat.le_of_ble_eq_true rfl) (Nat.le_of_ble_eq_true rfl)
  · refine s_aload_n hG dc2_isHedge_8 rfl ?_
    refine s_iload_n hG dc2_isHedge_9 rfl ?_
    refine s_iconst (v := 1) hG dc2_isHedge_10 (by decide) ?_
    refine s_iadd hG dc2_isHedge_11 ?_
    refine s_callVi hG kMc2_55 (fun a => corc2_has N a _ _) ⟨by decide, rfl⟩ rfl (by first | decide | omega) dc2_isHedge_12 rfl rfl (Nat.le_of_ble_eq_true rfl) ⟨Nat.le_of_ble_eq_true rfl, Nat.le_of_ble_eq_true rfl⟩ (fun p12 => ?_)
    refine s_if_eq hG 56 dc2_isHedge_15 (by decide) ?_ ?_
    · refine s_iconst (v := 0) hG dc2_isHedge_56 (by decide) ?_
      exact s_zret hG dc2_isHedge_57 rfl (Nat.le_of_ble_eq_true rfl) (Nat.le_of_ble_eq_true rfl)
    · refine s_aload_n hG dc2_isHedge_18 rfl ?_
      refine s_getR hG kFc2_9 rfl dc2_isHedge_19 (fun v19 => ?_)
      refine s_iload_n hG dc2_isHedge_22 rfl ?_
      refine s_iald hG dc2_isHedge_23 (fun v23 => ?_)
      refine s_aload_n hG dc2_isHedge_24 rfl ?_
      refine s_getR hG kFc2_9 rfl dc2_isHedge_25 (fun v25 => ?_)
      refine s_iload_n hG dc2_isHedge_28 rfl ?_
      refine s_iconst (v := 1) hG dc2_isHedge_29 (by decide) ?_
      refine s_iadd hG dc2_isHedge_30 ?_
      refine s_iald hG dc2_isHedge_31 (fun v31 => ?_)
      refine s_icmp_ne hG 52 dc2_isHedge_32 (by decide) ?_ ?_
      · exact s_lv ln (pc2_isHedge_52 hG _)
      · refine s_aload_n hG dc2_isHedge_35 rfl ?_
        refine s_getR hG kFc2_15 rfl dc2_isHedge_36 (fun v36 => ?_)
        refine s_iload_n hG dc2_isHedge_39 rfl ?_
        refine s_iald hG dc2_isHedge_40 (fun v40 => ?_)
        refine s_aload_n hG dc2_isHedge_41 rfl ?_
        refine s_getR hG kFc2_15 rfl dc2_isHedge_42 (fun v42 => ?_)
        refine s_iload_n hG dc2_isHedge_45 rfl ?_
        refine s_iconst (v := 1) hG dc2_isHedge_46 (by decide) ?_
        refine s_iadd hG dc2_isHedge_47 ?_
        refine s_iald hG dc2_isHedge_48 (fun v48 => ?_)
        refine s_icmp_eq hG 56 dc2_isHedge_49 (by decide) ?_ ?_
        · refine s_iconst (v := 0) hG dc2_isHedge_56 (by decide) ?_
          exact s_zret hG dc2_isHedge_57 rfl (Nat.le_of_ble_eq_true rfl) (Nat.le_of_ble_eq_true rfl)
        · exact s_lv ln (pc2_isHedge_52 hG _)
def fc2_moveHedge (N : Nat) (a0 : Nat) (x1 : Int32) (σ : Me) : Option (Unit × Me) :=
  (qR σ 2 0 (some a0)).bind fun v1 =>
  (ldI σ v1 x1).bind fun v5 =>
  (qR σ 2 0 (some a0)).bind fun v8 =>
  (qR σ 2 0 (some a0)).bind fun v13 =>
  (ldI σ v13 (x1 + (1 : Int32))).bind fun v19 =>
  (stI σ v8 x1 v19).bind fun σ20 =>
  (qR σ20 2 0 (some a0)).bind fun v22 =>
  (stI σ20 v22 (x1 + (1 : Int32)) v5).bind fun σ29 =>
  (qR σ29 2 1 (some a0)).bind fun v31 =>
  (ldI σ29 v31 x1).bind fun v35 =>
  (qR σ29 2 1 (some a0)).bind fun v38 =>
  (qR σ29 2 1 (some a0)).bind fun v43 =>
  (ldI σ29 v43 (x1 + (1 : Int32))).bind fun v49 =>
  (stI σ29 v38 x1 v49).bind fun σ50 =>
  (qR σ50 2 1 (some a0)).bind fun v52 =>
  (stI σ50 v52 (x1 + (1 : Int32)) v35).bind fun σ59 =>
  some ((), σ59)
set_option maxRecDepth 20000 in
set_option maxHeartbeats 2000000 in
theorem corc2_moveHedge {Ω : Om} (N : Nat) (a0 : Nat) (x1 : Int32) (σ : Me) : Cor Ω tc2_moveHedge 1 0 0 [vR (some a0), vI x1] σ ιV (fc2_moveHedge N a0 x1 σ) := by
  refine Cor.of (by decide +kernel) (Nat.le_of_ble_eq_true rfl) (fun Γ hG => ?_)
  unfold fc2_moveHedge
  show Sim Ω Γ 0 0 ιV 4 0 [(0, vR (some a0)), (1, vI x1)] [] σ 0 0 _
  refine s_aload_n hG dc2_moveHedge_0 rfl ?_
  refine s_getR hG kFc2_9 rfl dc2_moveHedge_1 (fun v1 => ?_)
  refine s_iload_n hG dc2_moveHedge_4 rfl ?_
  refine s_iald hG dc2_moveHedge_5 (fun v5 => ?_)
  refine s_istore_n hG dc2_moveHedge_6 (by decide) ?_
  refine s_aload_n hG dc2_moveHedge_7 rfl ?_
  refine s_getR hG kFc2_9 rfl dc2_moveHedge_8 (fun v8 => ?_)
  refine s_iload_n hG dc2_moveHedge_11 rfl ?_
  refine s_aload_n hG dc2_moveHedge_12 rfl ?_
  refine s_getR hG kFc2_9 rfl dc2_moveHedge_13 (fun v13 => ?_)
  refine s_iload_n hG dc2_moveHedge_16 rfl ?_
  refine s_iconst (v := 1) hG dc2_moveHedge_17 (by decide) ?_
  refine s_iadd hG dc2_moveHedge_18 ?_
  refine s_iald hG dc2_moveHedge_19 (fun v19 => ?_)
  refine s_iast hG dc2_moveHedge_20 (fun σ20 => ?_)
  refine s_aload_n hG dc2_moveHedge_21 rfl ?_
  refine s_getR hG kFc2_9 rfl dc2_moveHedge_22 (fun v22 => ?_)
  refine s_iload_n hG dc2_moveHedge_25 rfl ?_
  refine s_iconst (v := 1) hG dc2_moveHedge_26 (by decide) ?_
  refine s_iadd hG dc2_moveHedge_27 ?_
  refine s_iload_n hG dc2_moveHedge_28 rfl ?_
  refine s_iast hG dc2_moveHedge_29 (fun σ29 => ?_)
  refine s_aload_n hG dc2_moveHedge_30 rfl ?_
  refine s_getR hG kFc2_15 rfl dc2_moveHedge_31 (fun v31 => ?_)
  refine s_iload_n hG dc2_moveHedge_34 rfl ?_
  refine s_iald hG dc2_moveHedge_35 (fun v35 => ?_)
  refine s_istore_n hG dc2_moveHedge_36 (by decide) ?_
  refine s_aload_n hG dc2_moveHedge_37 rfl ?_
  refine s_getR hG kFc2_15 rfl dc2_moveHedge_38 (fun v38 => ?_)
  refine s_iload_n hG dc2_moveHedge_41 rfl ?_
  refine s_aload_n hG dc2_moveHedge_42 rfl ?_
  refine s_getR hG kFc2_15 rfl dc2_moveHedge_43 (fun v43 => ?_)
  refine s_iload_n hG dc2_moveHedge_46 rfl ?_
  refine s_iconst (v := 1) hG dc2_moveHedge_47 (by decide) ?_
  refine s_iadd hG dc2_moveHedge_48 ?_
  refine s_iald hG dc2_moveHedge_49 (fun v49 => ?_)
  refine s_iast hG dc2_moveHedge_50 (fun σ50 => ?_)
  refine s_aload_n hG dc2_moveHedge_51 rfl ?_
  refine s_getR hG kFc2_15 rfl dc2_moveHedge_52 (fun v52 => ?_)
  refine s_iload_n hG dc2_moveHedge_55 rfl ?_
  refine s_iconst (v := 1) hG dc2_moveHedge_56 (by decide) ?_
  refine s_iadd hG dc2_moveHedge_57 ?_
  refine s_iload_n hG dc2_moveHedge_58 rfl ?_
  refine s_iast hG dc2_moveHedge_59 (fun σ59 => ?_)
  exact s_vret hG dc2_moveHedge_60 rfl (Nat.le_of_ble_eq_true rfl) (Nat.le_of_ble_eq_true rfl)
def fc11_hedge (N : Nat) (a0 : Nat) (x1 : Int32) (σ : Me) : Option (Int32 × Me) :=
  (qR σ 11 10 (some a0)).bind fun v1 =>
  (dr σ v1 (.inl 2)).bind fun a =>
  (fc2_isHedge N a x1 σ).bind fun p5 =>
  if p5.1 = 0 then
    some ((-1 : Int32), p5.2)
  else
    (qR p5.2 11 14 (some a0)).bind fun v14 =>
    (qR p5.2 11 10 (some a0)).bind fun v18 =>
    (dr p5.2 v14 (.inl 5)).bind fun a =>
    (fc5_keep N a v18 p5.2).bind fun p21 =>
    (qR p21.2 11 10 (some a0)).bind fun v25 =>
    (dr p21.2 v25 (.inl 2)).bind fun a =>
    (fc2_moveHedge N a x1 p21.2).bind fun p29 =>
    (qR p29.2 11 10 (some a0)).bind fun v33 =>
    (qR p29.2 2 0 v33).bind fun v36 =>
    (ldI p29.2 v36 x1).bind fun v40 =>
    some (v40, p29.2)
set_option maxRecDepth 20000 in
set_option maxHeartbeats 2000000 in
theorem corc11_hedge {Ω : Om} (N : Nat) (a0 : Nat) (x1 : Int32) (σ : Me) : Cor Ω tc11_hedge 3 0 0 [vR (some a0), vI x1] σ ιI (fc11_hedge N a0 x1 σ) := by
  refine Cor.of (by decide +kernel) (Nat.le_of_ble_eq_true rfl) (fun Γ hG => ?_)
  unfold fc11_hedge
  show Sim Ω Γ 0 0 ιI 2 0 [(0, vR (some a0)), (1, vI x1)] [] σ 0 0 _
  refine s_aload_n hG dc11_hedge_0 rfl ?_
  refine s_getR hG kFc11_58 rfl dc11_hedge_1 (fun v1 => ?_)
  refine s_iload_n hG dc11_hedge_4 rfl ?_
  refine s_callVi hG kMc11_279 (fun a => corc2_isHedge N a _ _) ⟨by decide, rfl⟩ rfl (by first | decide | omega) dc11_hedge_5 rfl rfl (Nat.le_of_ble_eq_true rfl) ⟨Nat.le_of_ble_eq_true rfl, Nat.le_of_ble_eq_true rfl⟩ (fun p5 => ?_)
  refine s_if_ne hG 13 dc11_hedge_8 (by decide) ?_ ?_
  · refine s_aload_n hG dc11_hedge_13 rfl ?_
    refine s_getR hG kFc11_82 rfl dc11_hedge_14 (fun v14 => ?_)
    refine s_aload_n hG dc11_hedge_17 rfl ?_
    refine s_getR hG kFc11_58 rfl dc11_hedge_18 (fun v18 => ?_)
    refine s_callVv hG kMc11_254 (fun a => corc5_keep N a _ _) ⟨by decide, rfl⟩ rfl (by first | decide | omega) dc11_hedge_21 rfl rfl (Nat.le_of_ble_eq_true rfl) ⟨Nat.le_of_ble_eq_true rfl, Nat.le_of_ble_eq_true rfl⟩ (fun p21 => ?_)
    refine s_aload_n hG dc11_hedge_24 rfl ?_
    refine s_getR hG kFc11_58 rfl dc11_hedge_25 (fun v25 => ?_)
    refine s_iload_n hG dc11_hedge_28 rfl ?_
    refine s_callVv hG kMc11_282 (fun a => corc2_moveHedge N a _ _) ⟨by decide, rfl⟩ rfl (by first | decide | omega) dc11_hedge_29 rfl rfl (Nat.le_of_ble_eq_true rfl) ⟨Nat.le_of_ble_eq_true rfl, Nat.le_of_ble_eq_true rfl⟩ (fun p29 => ?_)
    refine s_aload_n hG dc11_hedge_32 rfl ?_
    refine s_getR hG kFc11_58 rfl dc11_hedge_33 (fun v33 => ?_)
    refine s_getR hG kFc11_186 rfl dc11_hedge_36 (fun v36 => ?_)
    refine s_iload_n hG dc11_hedge_39 rfl ?_
    refine s_iald hG dc11_hedge_40 (fun v40 => ?_)
    exact s_iret hG dc11_hedge_41 rfl (Nat.le_of_ble_eq_true rfl) (Nat.le_of_ble_eq_true rfl)
  · refine s_iconst (v := -1) hG dc11_hedge_11 (by decide) ?_
    exact s_iret hG dc11_hedge_12 rfl (Nat.le_of_ble_eq_true rfl) (Nat.le_of_ble_eq_true rfl)
