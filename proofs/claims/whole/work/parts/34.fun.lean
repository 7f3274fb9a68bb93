def fc12_spotOf_2 (N : Nat) : Nat → Option Nat → Int32 → Int32 → Me → Option (Int32 × Me)
  | 0, _, _, _, _ => none
  | n + 1, l0, l1, l2, σ =>
    (drS l0).bind fun a =>
    (fSr_length N a σ).bind fun p4 =>
    if p4.1 ≤ l2 then
      some ((-1 : Int32), p4.2)
    else
      (drS l0).bind fun a =>
      (fSr_charAt N a l2 p4.2).bind fun p12 =>
      if p12.1 = l1 then
        some (l2, p12.2)
      else
        (fc12_spotOf_2 N n) l0 l1 (l2 + (1 : Int32)) p12.2
def fc12_spotOf (N : Nat) (x0 : Option Nat) (x1 : Int32) (σ : Me) : Option (Int32 × Me) :=
  fc12_spotOf_2 N N x0 x1 (0 : Int32) σ
set_option maxRecDepth 20000 in
set_option maxHeartbeats 2000000 in
theorem pc12_spotOf_2 {Ω : Om} {Γ : Ga} {N : Nat} (hG : Good Ω Γ tc12_spotOf 5 0 0)  : ∀ (n : Nat) (l0 : Option Nat) (l1 : Int32) (l2 : Int32) (σ : Me), Sim Ω Γ 0 0 ιI 3 2 [(0, vR l0), (1, vI l1), (2, vI l2)] [] σ 0 0 (fc12_spotOf_2 N n l0 l1 l2 σ) := by
  intro n
  induction n with
  | zero => intros; exact s_none
  | succ n ih =>
    intro l0 l1 l2 σ
    unfold fc12_spotOf_2
    refine s_iload_n hG dc12_spotOf_2 rfl ?_
    refine s_aload_n hG dc12_spotOf_3 rfl ?_
    refine s_callTi hG kMc12_103 (fun a => corSr_length N a _) rfl rfl (by first | decide | omega) dc12_spotOf_4 rfl rfl (Nat.le_of_ble_eq_true rfl) ⟨Nat.le_of_ble_eq_true rfl, Nat.le_of_ble_eq_true rfl⟩ (fun p4 => ?_)
    refine s_icmp_ge hG 27 dc12_spotOf_7 (by decide) ?_ ?_
    · refine s_iconst (v := -1) hG dc12_spotOf_27 (by decide) ?_
      exact s_iret hG dc12_spotOf_28 rfl (Nat.le_of_ble_eq_true rfl) (Nat.le_of_ble_eq_true rfl)
    · refine s_aload_n hG dc12_spotOf_10 rfl ?_
      refine s_iload_n hG dc12_spotOf_11 rfl ?_
      refine s_callTi hG kMc12_109 (fun a => corSr_charAt N a _ _) rfl rfl (by first | decide | omega) dc12_spotOf_12 rfl rfl (Nat.le_of_ble_eq_true rfl) ⟨Nat.le_of_ble_eq_true rfl, Nat.le_of_ble_eq_true rfl⟩ (fun p12 => ?_)
      refine s_iload_n hG dc12_spotOf_15 rfl ?_
      refine s_icmp_ne hG 21 dc12_spotOf_16 (by decide) ?_ ?_
      · refine s_iinc (v := 1) hG dc12_spotOf_21 rfl (by decide) (by decide) ?_
        refine s_goto hG 2 dc12_spotOf_24 (by decide) ?_
        exact s_lv (lc rfl (lc rfl (lc rfl ln))) (ih _ _ _ _)
      · refine s_iload_n hG dc12_spotOf_19 rfl ?_
        exact s_iret hG dc12_spotOf_20 rfl (Nat.le_of_ble_eq_true rfl) (Nat.le_of_ble_eq_true rfl)
set_option maxRecDepth 20000 in
set_option maxHeartbeats 2000000 in
theorem corc12_spotOf {Ω : Om} (N : Nat) (x0 : Option Nat) (x1 : Int32) (σ : Me) : Cor Ω tc12_spotOf 5 0 0 [vR x0, vI x1] σ ιI (fc12_spotOf N x0 x1 σ) := by
  refine Cor.of (by decide +kernel) (Nat.le_of_ble_eq_true rfl) (fun Γ hG => ?_)
  unfold fc12_spotOf
  show Sim Ω Γ 0 0 ιI 3 0 [(0, vR x0), (1, vI x1)] [] σ 0 0 _
  refine s_iconst (v := 0) hG dc12_spotOf_0 (by decide) ?_
  refine s_istore_n hG dc12_spotOf_1 (by decide) ?_
  exact s_lv (lc rfl (lc rfl (lc rfl ln))) (pc12_spotOf_2 hG _ _ _ _ _)
def fc12_usual (N : Nat) (x0 : Int32) (x1 : Int32) (σ : Me) : Option (Int32 × Me) :=
  if x0 = (115 : Int32) then
    if x1 = 0 then
      some ((1 : Int32), σ)
    else
      if x1 = (1 : Int32) then
        some ((30 : Int32), σ)
      else
        some ((2 : Int32), σ)
  else
    if x1 = 0 then
      some ((0 : Int32), σ)
    else
      if x1 = (1 : Int32) then
        some ((6 : Int32), σ)
      else
        if x1 = (2 : Int32) then
          some ((5 : Int32), σ)
        else
          if x1 = (3 : Int32) then
            some ((3 : Int32), σ)
          else
            some ((20 : Int32), σ)
set_option maxRecDepth 20000 in
set_option maxHeartbeats 2000000 in
theorem corc12_usual {Ω : Om} (N : Nat) (x0 : Int32) (x1 : Int32) (σ : Me) : Cor Ω tc12_usual 1 0 0 [vI x0, vI x1] σ ιI (fc12_usual N x0 x1 σ) := by
  refine Cor.of (by decide +kernel) (Nat.le_of_ble_eq_true rfl) (fun Γ hG => ?_)
  unfold fc12_usual
  show Sim Ω Γ 0 0 ιI 2 0 [(0, vI x0), (1, vI x1)] [] σ 0 0 _
  refine s_iload_n hG dc12_usual_0 rfl ?_
  refine s_bipush (v := 115) hG dc12_usual_1 (by decide) ?_
  refine s_icmp_ne hG 26 dc12_usual_3 (by decide) ?_ ?_
  · refine s_iload_n hG dc12_usual_26 rfl ?_
    refine s_if_ne hG 34 dc12_usual_27 (by decide) ?_ ?_
    · refine s_iload_n hG dc12_usual_34 rfl ?_
      refine s_iconst (v := 1) hG dc12_usual_35 (by decide) ?_
      refine s_icmp_ne hG 44 dc12_usual_36 (by decide) ?_ ?_
      · refine s_iload_n hG dc12_usual_44 rfl ?_
        refine s_iconst (v := 2) hG dc12_usual_45 (by decide) ?_
        refine s_icmp_ne hG 53 dc12_usual_46 (by decide) ?_ ?_
        · refine s_iload_n hG dc12_usual_53 rfl ?_
          refine s_iconst (v := 3) hG dc12_usual_54 (by decide) ?_
          refine s_icmp_ne hG 62 dc12_usual_55 (by decide) ?_ ?_
          · refine s_bipush (v := 20) hG dc12_usual_62 (by decide) ?_
            exact s_iret hG dc12_usual_64 rfl (Nat.le_of_ble_eq_true rfl) (Nat.le_of_ble_eq_true rfl)
          · refine s_iconst (v := 3) hG dc12_usual_58 (by decide) ?_
            refine s_goto hG 64 dc12_usual_59 (by decide) ?_
            exact s_iret hG dc12_usual_64 rfl (Nat.le_of_ble_eq_true rfl) (Nat.le_of_ble_eq_true rfl)
        · refine s_iconst (v := 5) hG dc12_usual_49 (by decide) ?_
          refine s_goto hG 64 dc12_usual_50 (by decide) ?_
          exact s_iret hG dc12_usual_64 rfl (Nat.le_of_ble_eq_true rfl) (Nat.le_of_ble_eq_true rfl)
      · refine s_bipush (v := 6) hG dc12_usual_39 (by decide) ?_
        refine s_goto hG 64 dc12_usual_41 (by decide) ?_
        exact s_iret hG dc12_usual_64 rfl (Nat.le_of_ble_eq_true rfl) (Nat.le_of_ble_eq_true rfl)
    · refine s_iconst (v := 0) hG dc12_usual_30 (by decide) ?_
      refine s_goto hG 64 dc12_usual_31 (by decide) ?_
      exact s_iret hG dc12_usual_64 rfl (Nat.le_of_ble_eq_true rfl) (Nat.le_of_ble_eq_true rfl)
  · refine s_iload_n hG dc12_usual_6 rfl ?_
    refine s_if_ne hG 14 dc12_usual_7 (by decide) ?_ ?_
    · refine s_iload_n hG dc12_usual_14 rfl ?_
      refine s_iconst (v := 1) hG dc12_usual_15 (by decide) ?_
      refine s_icmp_ne hG 24 dc12_usual_16 (by decide) ?_ ?_
      · refine s_iconst (v := 2) hG dc12_usual_24 (by decide) ?_
        exact s_iret hG dc12_usual_25 rfl (Nat.le_of_ble_eq_true rfl) (Nat.le_of_ble_eq_true rfl)
      · refine s_bipush (v := 30) hG dc12_usual_19 (by decide) ?_
        refine s_goto hG 25 dc12_usual_21 (by decide) ?_
        exact s_iret hG dc12_usual_25 rfl (Nat.le_of_ble_eq_true rfl) (Nat.le_of_ble_eq_true rfl)
    · refine s_iconst (v := 1) hG dc12_usual_10 (by decide) ?_
      refine s_goto hG 25 dc12_usual_11 (by decide) ?_
      exact s_iret hG dc12_usual_25 rfl (Nat.le_of_ble_eq_true rfl) (Nat.le_of_ble_eq_true rfl)
def fc12_readItems_45 (N : Nat) : Nat → Option Nat → Int32 → Option Nat → Int32 → Option Nat → Int32 → Int32 → Me → Option (Unit × Me)
  | 0, _, _, _, _, _, _, _, _ => none
  | n + 1, l0, l1, l2, l3, l4, l5, l6, σ =>
    if l6 = (-1 : Int32) then
      some ((), σ)
    else
      (qI σ 12 11 l0).bind fun v52 =>
      if v52 = (-1 : Int32) then
        (fc12_has N l5 l6 σ).bind fun p63 =>
        if p63.1 = 0 then
          (qI p63.2 12 10 l0).bind fun v86 =>
          (pI p63.2 12 10 l0 (v86 + (1 : Int32))).bind fun σ91 =>
          (fc12_leastOf N l1 l6 σ91).bind fun p103 =>
          (fc12_mostOf N l1 l6 p103.2).bind fun p109 =>
          (dr p109.2 l0 (.inl 12)).bind fun a =>
          (fc12_number N a p103.1 p109.1 p109.2).bind fun p112 =>
          (stI p112.2 l2 (l3 + l6) p112.1).bind fun σ115 =>
          (qI σ115 12 11 l0).bind fun v117 =>
          if v117 = (-1 : Int32) then
            (dr σ115 l0 (.inl 12)).bind fun a =>
            (fc12_look N a σ115).bind fun p127 =>
            (fc12_spotOf N l4 p127.1 p127.2).bind fun p130 =>
            (fc12_readItems_45 N n) l0 l1 l2 l3 l4 (l5 ||| ((1 : Int32) <<< (l6 &&& 31))) p130.1 p130.2
          else
            (fc12_readItems_45 N n) l0 l1 l2 l3 l4 (l5 ||| ((1 : Int32) <<< (l6 &&& 31))) l6 σ115
        else
          (dr p63.2 l0 (.inl 12)).bind fun a =>
          (fc12_fails N a p63.2).bind fun p70 =>
          some ((), p70.2)
      else
        some ((), σ)
def fc12_readItems_3 (N : Nat) : Nat → Option Nat → Int32 → Option Nat → Int32 → Option Nat → Int32 → Me → Option (Unit × Me)
  | 0, _, _, _, _, _, _, _ => none
  | n + 1, l0, l1, l2, l3, l4, l5, σ =>
    (drS l4).bind fun a =>
    (fSr_length N a σ).bind fun p7 =>
    if p7.1 ≤ l5 then
      (dr p7.2 l0 (.inl 12)).bind fun a =>
      (fc12_look N a p7.2).bind fun p37 =>
      (fc12_spotOf N l4 p37.1 p37.2).bind fun p40 =>
      fc12_readItems_45 N N l0 l1 l2 l3 l4 (0 : Int32) p40.1 p40.2
    else
      (fc12_usual N l1 l5 p7.2).bind fun p21 =>
      (stI p21.2 l2 (l3 + l5) p21.1).bind fun σ24 =>
      (fc12_readItems_3 N n) l0 l1 l2 l3 l4 (l5 + (1 : Int32)) σ24
def fc12_readItems (N : Nat) (a0 : Nat) (x1 : Int32) (x2 : Option Nat) (x3 : Int32) (x4 : Option Nat) (σ : Me) : Option (Unit × Me) :=
  fc12_readItems_3 N N (some a0) x1 x2 x3 x4 (0 : Int32) σ
set_option maxRecDepth 20000 in
set_option maxHeartbeats 2000000 in
theorem pc12_readItems_45 {Ω : Om} {Γ : Ga} {N : Nat} (hG : Good Ω Γ tc12_readItems 6 0 0)  : ∀ (n : Nat) (l0 : Option Nat) (l1 : Int32) (l2 : Option Nat) (l3 : Int32) (l4 : Option Nat) (l5 : Int32) (l6 : Int32) (σ : Me), Sim Ω Γ 0 0 ιV 7 45 [(0, vR l0), (1, vI l1), (2, vR l2), (3, vI l3), (4, vR l4), (5, vI l5), (6, vI l6)] [] σ 0 0 (fc12_readItems_45 N n l0 l1 l2 l3 l4 l5 l6 σ) := by
  intro n
  induction n with
  | zero => intros; exact s_none
  | succ n ih =>
    intro l0 l1 l2 l3 l4 l5 l6 σ
    unfold fc12_readItems_45
    refine s_iload hG dc12_readItems_45 rfl ?_
    refine s_iconst (v := -1) hG dc12_readItems_47 (by decide) ?_
    refine s_icmp_eq hG 138 dc12_readItems_48 (by decide) ?_ ?_
    · exact s_vret hG dc12_readItems_138 rfl (Nat.le_of_ble_eq_true rfl) (Nat.le_of_ble_eq_true rfl)
    · refine s_aload_n hG dc12_readItems_51 rfl ?_
      refine s_getI hG kFc12_132 rfl dc12_readItems_52 (fun v52 => ?_)
      refine s_iconst (v := -1) hG dc12_readItems_55 (by decide) ?_
      refine s_icmp_ne hG 138 dc12_readItems_56 (by decide) ?_ ?_
      · exact s_vret hG dc12_readItems_138 rfl (Nat.le_of_ble_eq_true rfl) (Nat.le_of_ble_eq_true rfl)
      · refine s_iload hG dc12_readItems_59 rfl ?_
        refine s_iload hG dc12_readItems_61 rfl ?_
        refine s_callSi hG kMc12_233 (corc12_has N _ _ _) rfl (by first | decide | omega) dc12_readItems_63 rfl rfl (Nat.le_of_ble_eq_true rfl) ⟨Nat.le_of_ble_eq_true rfl, Nat.le_of_ble_eq_true rfl⟩ (fun p63 => ?_)
        refine s_if_eq hG 75 dc12_readItems_66 (by decide) ?_ ?_
        · refine s_iload hG dc12_readItems_75 rfl ?_
          refine s_iconst (v := 1) hG dc12_readItems_77 (by decide) ?_
          refine s_iload hG dc12_readItems_78 rfl ?_
          refine s_ishl hG dc12_readItems_80 ?_
          refine s_ior hG dc12_readItems_81 ?_
          refine s_istore hG dc12_readItems_82 (by decide) ?_
          refine s_aload_n hG dc12_readItems_84 rfl ?_
          refine s_dup hG dc12_readItems_85 rfl ?_
          refine s_getI hG kFc12_123 rfl dc12_readItems_86 (fun v86 => ?_)
          refine s_iconst (v := 1) hG dc12_readItems_89 (by decide) ?_
          refine s_iadd hG dc12_readItems_90 ?_
          refine s_putI (fin := false) hG kFc12_123 rfl (fun h => by cases h) rfl (fun _ => rfl) (fun _ => rfl) dc12_readItems_91 (fun σ91 => ?_)
          refine s_aload_n hG dc12_readItems_94 rfl ?_
          refine s_iload_n hG dc12_readItems_95 rfl ?_
          refine s_iload hG dc12_readItems_96 rfl ?_
          refine s_iadd hG dc12_readItems_98 ?_
          refine s_aload_n hG dc12_readItems_99 rfl ?_
          refine s_iload_n hG dc12_readItems_100 rfl ?_
          refine s_iload hG dc12_readItems_101 rfl ?_
          refine s_callSi hG kMc12_237 (corc12_leastOf N _ _ _) rfl (by first | decide | omega) dc12_readItems_103 rfl rfl (Nat.le_of_ble_eq_true rfl) ⟨Nat.le_of_ble_eq_true rfl, Nat.le_of_ble_eq_true rfl⟩ (fun p103 => ?_)
          refine s_iload_n hG dc12_readItems_106 rfl ?_
          refine s_iload hG dc12_readItems_107 rfl ?_
          refine s_callSi hG kMc12_240 (corc12_mostOf N _ _ _) rfl (by first | decide | omega) dc12_readItems_109 rfl rfl (Nat.le_of_ble_eq_true rfl) ⟨Nat.le_of_ble_eq_true rfl, Nat.le_of_ble_eq_true rfl⟩ (fun p109 => ?_)
          refine s_callVi hG kMc12_243 (fun a => corc12_number N a _ _ _) ⟨by decide, rfl⟩ rfl (by first | decide | omega) dc12_readItems_112 rfl rfl (Nat.le_of_ble_eq_true rfl) ⟨Nat.le_of_ble_eq_true rfl, Nat.le_of_ble_eq_true rfl⟩ (fun p112 => ?_)
          refine s_iast hG dc12_readItems_115 (fun σ115 => ?_)
          refine s_aload_n hG dc12_readItems_116 rfl ?_
          refine s_getI hG kFc12_132 rfl dc12_readItems_117 (fun v117 => ?_)
          refine s_iconst (v := -1) hG dc12_readItems_120 (by decide) ?_
          refine s_icmp_ne hG 45 dc12_readItems_121 (by decide) ?_ ?_
          · exact s_lv (lc rfl (lc rfl (lc rfl (lc rfl (lc rfl (lc rfl (lc rfl ln))))))) (ih _ _ _ _ _ _ _ _)
          · refine s_aload hG dc12_readItems_124 rfl ?_
            refine s_aload_n hG dc12_readItems_126 rfl ?_
            refine s_callVi hG kMc12_142 (fun a => corc12_look N a _) ⟨by decide, rfl⟩ rfl (by first | decide | omega) dc12_readItems_127 rfl rfl (Nat.le_of_ble_eq_true rfl) ⟨Nat.le_of_ble_eq_true rfl, Nat.le_of_ble_eq_true rfl⟩ (fun p127 => ?_)
            refine s_callSi hG kMc12_229 (corc12_spotOf N _ _ _) rfl (by first | decide | omega) dc12_readItems_130 rfl rfl (Nat.le_of_ble_eq_true rfl) ⟨Nat.le_of_ble_eq_true rfl, Nat.le_of_ble_eq_true rfl⟩ (fun p130 => ?_)
            refine s_istore hG dc12_readItems_133 (by decide) ?_
            refine s_goto hG 45 dc12_readItems_135 (by decide) ?_
            exact s_lv (lc rfl (lc rfl (lc rfl (lc rfl (lc rfl (lc rfl (lc rfl ln))))))) (ih _ _ _ _ _ _ _ _)
        · refine s_aload_n hG dc12_readItems_69 rfl ?_
          refine s_callVi hG kMc12_138 (fun a => corc12_fails N a _) ⟨by decide, rfl⟩ rfl (by first | decide | omega) dc12_readItems_70 rfl rfl (Nat.le_of_ble_eq_true rfl) ⟨Nat.le_of_ble_eq_true rfl, Nat.le_of_ble_eq_true rfl⟩ (fun p70 => ?_)
          refine s_pop hG dc12_readItems_73 rfl ?_
          exact s_vret hG dc12_readItems_74 rfl (Nat.le_of_ble_eq_true rfl) (Nat.le_of_ble_eq_true rfl)
set_option maxRecDepth 20000 in
set_option maxHeartbeats 2000000 in
theorem pc12_readItems_3 {Ω : Om} {Γ : Ga} {N : Nat} (hG : Good Ω Γ tc12_readItems 6 0 0)  : ∀ (n : Nat) (l0 : Option Nat) (l1 : Int32) (l2 : Option Nat) (l3 : Int32) (l4 : Option Nat) (l5 : Int32) (σ : Me), Sim Ω Γ 0 0 ιV 7 3 [(0, vR l0), (1, vI l1), (2, vR l2), (3, vI l3), (4, vR l4), (5, vI l5)] [] σ 0 0 (fc12_readItems_3 N n l0 l1 l2 l3 l4 l5 σ) := by
  intro n
  induction n with
  | zero => intros; exact s_none
  | succ n ih =>
    intro l0 l1 l2 l3 l4 l5 σ
    unfold fc12_readItems_3
    refine s_iload hG dc12_readItems_3 rfl ?_
    refine s_aload hG dc12_readItems_5 rfl ?_
    refine s_callTi hG kMc12_103 (fun a => corSr_length N a _) rfl rfl (by first | decide | omega) dc12_readItems_7 rfl rfl (Nat.le_of_ble_eq_true rfl) ⟨Nat.le_of_ble_eq_true rfl, Nat.le_of_ble_eq_true rfl⟩ (fun p7 => ?_)
    refine s_icmp_ge hG 31 dc12_readItems_10 (by decide) ?_ ?_
    · refine s_iconst (v := 0) hG dc12_readItems_31 (by decide) ?_
      refine s_istore hG dc12_readItems_32 (by decide) ?_
      refine s_aload hG dc12_readItems_34 rfl ?_
      refine s_aload_n hG dc12_readItems_36 rfl ?_
      refine s_callVi hG kMc12_142 (fun a => corc12_look N a _) ⟨by decide, rfl⟩ rfl (by first | decide | omega) dc12_readItems_37 rfl rfl (Nat.le_of_ble_eq_true rfl) ⟨Nat.le_of_ble_eq_true rfl, Nat.le_of_ble_eq_true rfl⟩ (fun p37 => ?_)
      refine s_callSi hG kMc12_229 (corc12_spotOf N _ _ _) rfl (by first | decide | omega) dc12_readItems_40 rfl rfl (Nat.le_of_ble_eq_true rfl) ⟨Nat.le_of_ble_eq_true rfl, Nat.le_of_ble_eq_true rfl⟩ (fun p40 => ?_)
      refine s_istore hG dc12_readItems_43 (by decide) ?_
      exact s_lv (lc rfl (lc rfl (lc rfl (lc rfl (lc rfl (lc rfl (lc rfl ln))))))) (pc12_readItems_45 hG _ _ _ _ _ _ _ _ _)
    · refine s_aload_n hG dc12_readItems_13 rfl ?_
      refine s_iload_n hG dc12_readItems_14 rfl ?_
      refine s_iload hG dc12_readItems_15 rfl ?_
      refine s_iadd hG dc12_readItems_17 ?_
      refine s_iload_n hG dc12_readItems_18 rfl ?_
      refine s_iload hG dc12_readItems_19 rfl ?_
      refine s_callSi hG kMc12_225 (corc12_usual N _ _ _) rfl (by first | decide | omega) dc12_readItems_21 rfl rfl (Nat.le_of_ble_eq_true rfl) ⟨Nat.le_of_ble_eq_true rfl, Nat.le_of_ble_eq_true rfl⟩ (fun p21 => ?_)
      refine s_iast hG dc12_readItems_24 (fun σ24 => ?_)
      refine s_iinc (v := 1) hG dc12_readItems_25 rfl (by decide) (by decide) ?_
      refine s_goto hG 3 dc12_readItems_28 (by decide) ?_
      exact s_lv (lc rfl (lc rfl (lc rfl (lc rfl (lc rfl (lc rfl ln)))))) (ih _ _ _ _ _ _ _)
set_option maxRecDepth 20000 in
set_option maxHeartbeats 2000000 in
theorem corc12_readItems {Ω : Om} (N : Nat) (a0 : Nat) (x1 : Int32) (x2 : Option Nat) (x3 : Int32) (x4 : Option Nat) (σ : Me) : Cor Ω tc12_readItems 6 0 0 [vR (some a0), vI x1, vR x2, vI x3, vR x4] σ ιV (fc12_readItems N a0 x1 x2 x3 x4 σ) := by
  refine Cor.of (by decide +kernel) (Nat.le_of_ble_eq_true rfl) (fun Γ hG => ?_)
  unfold fc12_readItems
  show Sim Ω Γ 0 0 ιV 7 0 [(0, vR (some a0)), (1, vI x1), (2, vR x2), (3, vI x3), (4, vR x4)] [] σ 0 0 _
  refine s_iconst (v := 0) hG dc12_readItems_0 (by decide) ?_
  refine s_istore hG dc12_readItems_1 (by decide) ?_
  exact s_lv (lc rfl (lc rfl (lc rfl (lc rfl (lc rfl (lc rfl ln)))))) (pc12_readItems_3 hG _ _ _ _ _ _ _ _)
def fc12_readClause_38 (N : Nat) (l0 : Option Nat) (l1 : Int32) (s0 : Int32) (σ : Me) : Option (Unit × Me) :=
  if s0 = 0 then
    (dr σ l0 (.inl 12)).bind fun a =>
    (fc12_fails N a σ).bind fun p44 =>
    some ((), p44.2)
  else
    (qI σ 12 10 l0).bind fun v51 =>
    (pI σ 12 10 l0 (v51 + (1 : Int32))).bind fun σ56 =>
    if l1 = (115 : Int32) then
      (pZ σ56 12 27 l0 (1 : Int32)).bind fun σ67 =>
      (qR σ67 12 19 l0).bind fun v73 =>
      (dr σ67 l0 (.inl 12)).bind fun a =>
      (fc12_readItems N a l1 v73 (0 : Int32) (some 1000026) σ67).bind fun p79 =>
      some ((), p79.2)
    else
      (qI σ56 12 25 l0).bind fun v87 =>
      (pI σ56 12 25 l0 (v87 + (1 : Int32))).bind fun σ92 =>
      (qR σ92 12 21 l0).bind fun v98 =>
      (qI σ92 12 25 l0).bind fun v103 =>
      (dr σ92 l0 (.inl 12)).bind fun a =>
      (fc12_readItems N a l1 v98 ((5 : Int32) * (v103 - (1 : Int32))) (some 1000027) σ92).bind fun p112 =>
      some ((), p112.2)
def fc12_readClause_37 (N : Nat) (l0 : Option Nat) (l1 : Int32) (σ : Me) : Option (Unit × Me) :=
  fc12_readClause_38 N l0 l1 (0 : Int32) σ
def fc12_readClause_33 (N : Nat) (l0 : Option Nat) (l1 : Int32) (σ : Me) : Option (Unit × Me) :=
  fc12_readClause_38 N l0 l1 (1 : Int32) σ
def fc12_readClause_18 (N : Nat) (l0 : Option Nat) (l1 : Int32) (σ : Me) : Option (Unit × Me) :=
  if l1 = (102 : Int32) then
    (qI σ 12 25 l0).bind fun v25 =>
    if (6 : Int32) ≤ v25 then
      fc12_readClause_37 N l0 l1 σ
    else
      fc12_readClause_33 N l0 l1 σ
  else
    fc12_readClause_37 N l0 l1 σ
def fc12_readClause (N : Nat) (a0 : Nat) (σ : Me) : Option (Unit × Me) :=
  (dr σ (some a0) (.inl 12)).bind fun a =>
  (fc12_look N a σ).bind fun p1 =>
  if p1.1 = (115 : Int32) then
    (qI p1.2 12 27 (some a0)).bind fun v12 =>
    if v12 = 0 then
      fc12_readClause_33 N (some a0) p1.1 p1.2
    else
      fc12_readClause_18 N (some a0) p1.1 p1.2
  else
    fc12_readClause_18 N (some a0) p1.1 p1.2
set_option maxRecDepth 20000 in
set_option maxHeartbeats 2000000 in
theorem pc12_readClause_38 {Ω : Om} {Γ : Ga} {N : Nat} (hG : Good Ω Γ tc12_readClause 7 0 0) (l0 : Option Nat) (l1 : Int32) (s0 : Int32) (σ : Me) : Sim Ω Γ 0 0 ιV 3 38 [(0, vR l0), (1, vI l1)] [vI s0] σ 0 0 (fc12_readClause_38 N l0 l1 s0 σ) := by
  unfold fc12_readClause_38
  refine s_istore_n hG dc12_readClause_38 (by decide) ?_
  refine s_iload_n hG dc12_readClause_39 rfl ?_
  refine s_if_ne hG 49 dc12_readClause_40 (by decide) ?_ ?_
  · refine s_aload_n hG dc12_readClause_49 rfl ?_
    refine s_dup hG dc12_readClause_50 rfl ?_
    refine s_getI hG kFc12_123 rfl dc12_readClause_51 (fun v51 => ?_)
    refine s_iconst (v := 1) hG dc12_readClause_54 (by decide) ?_
    refine s_iadd hG dc12_readClause_55 ?_
    refine s_putI (fin := false) hG kFc12_123 rfl (fun h => by cases h) rfl (fun _ => rfl) (fun _ => rfl) dc12_readClause_56 (fun σ56 => ?_)
    refine s_iload_n hG dc12_readClause_59 rfl ?_
    refine s_bipush (v := 115) hG dc12_readClause_60 (by decide) ?_
    refine s_icmp_ne hG 85 dc12_readClause_62 (by decide) ?_ ?_
    · refine s_aload_n hG dc12_readClause_85 rfl ?_
      refine s_dup hG dc12_readClause_86 rfl ?_
      refine s_getI hG kFc12_249 rfl dc12_readClause_87 (fun v87 => ?_)
      refine s_iconst (v := 1) hG dc12_readClause_90 (by decide) ?_
      refine s_iadd hG dc12_readClause_91 ?_
      refine s_putI (fin := false) hG kFc12_249 rfl (fun h => by cases h) rfl (fun _ => rfl) (fun _ => rfl) dc12_readClause_92 (fun σ92 => ?_)
      refine s_aload_n hG dc12_readClause_95 rfl ?_
      refine s_iload_n hG dc12_readClause_96 rfl ?_
      refine s_aload_n hG dc12_readClause_97 rfl ?_
      refine s_getR hG kFc12_46 rfl dc12_readClause_98 (fun v98 => ?_)
      refine s_iconst (v := 5) hG dc12_readClause_101 (by decide) ?_
      refine s_aload_n hG dc12_readClause_102 rfl ?_
      refine s_getI hG kFc12_249 rfl dc12_readClause_103 (fun v103 => ?_)
      refine s_iconst (v := 1) hG dc12_readClause_106 (by decide) ?_
      refine s_isub hG dc12_readClause_107 ?_
      refine s_imul hG dc12_readClause_108 ?_
      refine s_ldcwS hG 7 (by decide) rfl rfl dc12_readClause_109 ?_
      refine s_callVv hG kMc12_254 (fun a => corc12_readItems N a _ _ _ _ _) ⟨by decide, rfl⟩ rfl (by first | decide | omega) dc12_readClause_112 rfl rfl (Nat.le_of_ble_eq_true rfl) ⟨Nat.le_of_ble_eq_true rfl, Nat.le_of_ble_eq_true rfl⟩ (fun p112 => ?_)
      exact s_vret hG dc12_readClause_115 rfl (Nat.le_of_ble_eq_true rfl) (Nat.le_of_ble_eq_true rfl)
    · refine s_aload_n hG dc12_readClause_65 rfl ?_
      refine s_iconst (v := 1) hG dc12_readClause_66 (by decide) ?_
      refine s_putZ hG kFc12_246 rfl rfl dc12_readClause_67 (fun σ67 => ?_)
      refine s_aload_n hG dc12_readClause_70 rfl ?_
      refine s_iload_n hG dc12_readClause_71 rfl ?_
      refine s_aload_n hG dc12_readClause_72 rfl ?_
      refine s_getR hG kFc12_40 rfl dc12_readClause_73 (fun v73 => ?_)
      refine s_iconst (v := 0) hG dc12_readClause_76 (by decide) ?_
      refine s_ldcS hG 6 (by decide) rfl rfl dc12_readClause_77 ?_
      refine s_callVv hG kMc12_254 (fun a => corc12_readItems N a _ _ _ _ _) ⟨by decide, rfl⟩ rfl (by first | decide | omega) dc12_readClause_79 rfl rfl (Nat.le_of_ble_eq_true rfl) ⟨Nat.le_of_ble_eq_true rfl, Nat.le_of_ble_eq_true rfl⟩ (fun p79 => ?_)
      refine s_goto hG 115 dc12_readClause_82 (by decide) ?_
      exact s_vret hG dc12_readClause_115 rfl (Nat.le_of_ble_eq_true rfl) (Nat.le_of_ble_eq_true rfl)
  · refine s_aload_n hG dc12_readClause_43 rfl ?_
    refine s_callVi hG kMc12_138 (fun a => corc12_fails N a _) ⟨by decide, rfl⟩ rfl (by first | decide | omega) dc12_readClause_44 rfl rfl (Nat.le_of_ble_eq_true rfl) ⟨Nat.le_of_ble_eq_true rfl, Nat.le_of_ble_eq_true rfl⟩ (fun p44 => ?_)
    refine s_pop hG dc12_readClause_47 rfl ?_
    exact s_vret hG dc12_readClause_48 rfl (Nat.le_of_ble_eq_true rfl) (Nat.le_of_ble_eq_true rfl)
set_option maxRecDepth 20000 in
set_option maxHeartbeats 2000000 in
theorem pc12_readClause_37 {Ω : Om} {Γ : Ga} {N : Nat} (hG : Good Ω Γ tc12_readClause 7 0 0) (l0 : Option Nat) (l1 : Int32) (σ : Me) : Sim Ω Γ 0 0 ιV 3 37 [(0, vR l0), (1, vI l1)] [] σ 0 0 (fc12_readClause_37 N l0 l1 σ) := by
  unfold fc12_readClause_37
  refine s_iconst (v := 0) hG dc12_readClause_37 (by decide) ?_
  exact s_lv (lc rfl (lc rfl ln)) (pc12_readClause_38 hG _ _ _ _)
set_option maxRecDepth 20000 in
set_option maxHeartbeats 2000000 in
theorem pc12_readClause_33 {Ω : Om} {Γ : Ga} {N : Nat} (hG : Good Ω Γ tc12_readClause 7 0 0) (l0 : Option Nat) (l1 : Int32) (σ : Me) : Sim Ω Γ 0 0 ιV 3 33 [(0, vR l0), (1, vI l1)] [] σ 0 0 (fc12_readClause_33 N l0 l1 σ) := by
  unfold fc12_readClause_33
  refine s_iconst (v := 1) hG dc12_readClause_33 (by decide) ?_
  refine s_goto hG 38 dc12_readClause_34 (by decide) ?_
  exact s_lv (lc rfl (lc rfl ln)) (pc12_readClause_38 hG _ _ _ _)
set_option maxRecDepth 20000 in
set_option maxHeartbeats 2000000 in
theorem pc12_readClause_18 {Ω : Om} {Γ : Ga} {N : Nat} (hG : Good Ω Γ tc12_readClause 7 0 0) (l0 : Option Nat) (l1 : Int32) (σ : Me) : Sim Ω Γ 0 0 ιV 3 18 [(0, vR l0), (1, vI l1)] [] σ 0 0 (fc12_readClause_18 N l0 l1 σ) := by
  unfold fc12_readClause_18
  refine s_iload_n hG dc12_readClause_18 rfl ?_
  refine s_bipush (v := 102) hG dc12_readClause_19 (by decide) ?_
  refine s_icmp_ne hG 37 dc12_readClause_21 (by decide) ?_ ?_
  · exact s_lv (lc rfl (lc rfl ln)) (pc12_readClause_37 hG _ _ _)
  · refine s_aload_n hG dc12_readClause_24 rfl ?_
    refine s_getI hG kFc12_249 rfl dc12_readClause_25 (fun v25 => ?_)
    refine s_bipush (v := 6) hG dc12_readClause_28 (by decide) ?_
    refine s_icmp_ge hG 37 dc12_readClause_30 (by decide) ?_ ?_
    · exact s_lv (lc rfl (lc rfl ln)) (pc12_readClause_37 hG _ _ _)
    · exact s_lv (lc rfl (lc rfl ln)) (pc12_readClause_33 hG _ _ _)
set_option maxRecDepth 20000 in
set_option maxHeartbeats 2000000 in
theorem corc12_readClause {Ω : Om} (N : Nat) (a0 : Nat) (σ : Me) : Cor Ω tc12_readClause 7 0 0 [vR (some a0)] σ ιV (fc12_readClause N a0 σ) := by
  refine Cor.of (by decide +kernel) (Nat.le_of_ble_eq_true rfl) (fun Γ hG => ?_)
  unfold fc12_readClause
  show Sim Ω Γ 0 0 ιV 3 0 [(0, vR (some a0))] [] σ 0 0 _
  refine s_aload_n hG dc12_readClause_0 rfl ?_
  refine s_callVi hG kMc12_142 (fun a => corc12_look N a _) ⟨by decide, rfl⟩ rfl (by first | decide | omega) dc12_readClause_1 rfl rfl (Nat.le_of_ble_eq_true rfl) ⟨Nat.le_of_ble_eq_true rfl, Nat.le_of_ble_eq_true rfl⟩ (fun p1 => ?_)
  refine s_istore_n hG dc12_readClause_4 (by decide) ?_
  refine s_iload_n hG dc12_readClause_5 rfl ?_
  refine s_bipush (v := 115) hG dc12_readClause_6 (by decide) ?_
  refine s_icmp_ne hG 18 dc12_readClause_8 (by decide) ?_ ?_
  · exact s_lv (lc rfl (lc rfl ln)) (pc12_readClause_18 hG _ _ _)
  · refine s_aload_n hG dc12_readClause_11 rfl ?_
    refine s_getI hG kFc12_246 rfl dc12_readClause_12 (fun v12 => ?_)
    refine s_if_eq hG 33 dc12_readClause_15 (by decide) ?_ ?_
    · exact s_lv (lc rfl (lc rfl ln)) (pc12_readClause_33 hG _ _ _)
    · exact s_lv (lc rfl (lc rfl ln)) (pc12_readClause_18 hG _ _ _)
def fc12_readPlain_130 (N : Nat) (l0 : Option Nat) (σ : Me) : Option (Unit × Me) :=
  (dr σ l0 (.inl 12)).bind fun a =>
  (fc12_fails N a σ).bind fun p131 =>
  some ((), p131.2)
def fc12_readPlain_106 (N : Nat) (l0 : Option Nat) (σ : Me) : Option (Unit × Me) :=
  (qI σ 12 11 l0).bind fun v107 =>
  if v107 = (-1 : Int32) then
    (dr σ l0 (.inl 12)).bind fun a =>
    (fc12_look N a σ).bind fun p115 =>
    if p115.1 = (-1 : Int32) then
      (qI p115.2 12 25 l0).bind fun v123 =>
      if (2 : Int32) ≤ v123 then
        some ((), p115.2)
      else
        fc12_readPlain_130 N l0 p115.2
    else
      fc12_readPlain_130 N l0 p115.2
  else
    some ((), σ)
def fc12_readPlain_88 (N : Nat) (K50 : Option Nat → Int32 → Me → Option (Unit × Me)) (l0 : Option Nat) (s0 : Int32) (σ : Me) : Option (Unit × Me) :=
  if s0 = 0 then
    K50 l0 s0 σ
  else
    (qI σ 12 10 l0).bind fun v95 =>
    (pI σ 12 10 l0 (v95 + (1 : Int32))).bind fun σ100 =>
    K50 l0 s0 σ100
def fc12_readPlain_87 (N : Nat) (K50 : Option Nat → Int32 → Me → Option (Unit × Me)) (l0 : Option Nat) (σ : Me) : Option (Unit × Me) :=
  fc12_readPlain_88 N K50 l0 (0 : Int32) σ
def fc12_readPlain_50 (N : Nat) : Nat → Option Nat → Int32 → Me → Option (Unit × Me)
  | 0, _, _, _ => none
  | n + 1, l0, l1, σ =>
    if l1 = 0 then
      fc12_readPlain_106 N l0 σ
    else
      (qI σ 12 11 l0).bind fun v55 =>
      if v55 = (-1 : Int32) then
        (dr σ l0 (.inl 12)).bind fun a =>
        (fc12_readClause N a σ).bind fun p63 =>
        (qI p63.2 12 11 l0).bind fun v67 =>
        if v67 = (-1 : Int32) then
          (dr p63.2 l0 (.inl 12)).bind fun a =>
          (fc12_look N a p63.2).bind fun p75 =>
          if p75.1 = (59 : Int32) then
            fc12_readPlain_88 N (fc12_readPlain_50 N n) l0 (1 : Int32) p75.2
          else
            fc12_readPlain_87 N (fc12_readPlain_50 N n) l0 p75.2
        else
          fc12_readPlain_87 N (fc12_readPlain_50 N n) l0 p63.2
      else
        fc12_readPlain_106 N l0 σ
def fc12_readPlain_25 (N : Nat) : Nat → Option Nat → Int32 → Me → Option (Unit × Me)
  | 0, _, _, _ => none
  | n + 1, l0, l1, σ =>
    if (3 : Int32) ≤ l1 then
      fc12_readPlain_50 N N l0 (1 : Int32) σ
    else
      (qR σ 12 19 l0).bind fun v31 =>
      (fc12_usual N (115 : Int32) l1 σ).bind fun p38 =>
      (stI p38.2 v31 l1 p38.1).bind fun σ41 =>
      (fc12_readPlain_25 N n) l0 (l1 + (1 : Int32)) σ41
def fc12_readPlain (N : Nat) (a0 : Nat) (σ : Me) : Option (Unit × Me) :=
  (qR σ 12 1 (some a0)).bind fun v2 =>
  (qI σ 12 6 (some a0)).bind fun v7 =>
  (dr σ (some a0) (.inl 12)).bind fun a =>
  (fc12_starts N a v2 (0 : Int32) v7 σ).bind fun p10 =>
  (pI p10.2 12 25 (some a0) (0 : Int32)).bind fun σ15 =>
  (pZ σ15 12 27 (some a0) (0 : Int32)).bind fun σ20 =>
  fc12_readPlain_25 N N (some a0) (0 : Int32) σ20
set_option maxRecDepth 20000 in
set_option maxHeartbeats 2000000 in
theorem pc12_readPlain_130 {Ω : Om} {Γ : Ga} {N : Nat} (hG : Good Ω Γ tc12_readPlain 8 0 0) (l0 : Option Nat) (σ : Me) : Sim Ω Γ 0 0 ιV 2 130 [(0, vR l0)] [] σ 0 0 (fc12_readPlain_130 N l0 σ) := by
  unfold fc12_readPlain_130
  refine s_aload_n hG dc12_readPlain_130 rfl ?_
  refine s_callVi hG kMc12_138 (fun a => corc12_fails N a _) ⟨by decide, rfl⟩ rfl (by first | decide | omega) dc12_readPlain_131 rfl rfl (Nat.le_of_ble_eq_true rfl) ⟨Nat.le_of_ble_eq_true rfl, Nat.le_of_ble_eq_true rfl⟩ (fun p131 => ?_)
  refine s_pop hG dc12_readPlain_134 rfl ?_
  exact s_vret hG dc12_readPlain_135 rfl (Nat.le_of_ble_eq_true rfl) (Nat.le_of_ble_eq_true rfl)
set_option maxRecDepth 20000 in
set_option maxHeartbeats 2000000 in
theorem pc12_readPlain_106 {Ω : Om} {Γ : Ga} {N : Nat} (hG : Good Ω Γ tc12_readPlain 8 0 0) (l0 : Option Nat) (σ : Me) : Sim Ω Γ 0 0 ιV 2 106 [(0, vR l0)] [] σ 0 0 (fc12_readPlain_106 N l0 σ) := by
  unfold fc12_readPlain_106
  refine s_aload_n hG dc12_readPlain_106 rfl ?_
  refine s_getI hG kFc12_132 rfl dc12_readPlain_107 (fun v107 => ?_)
  refine s_iconst (v := -1) hG dc12_readPlain_110 (by decide) ?_
  refine s_icmp_ne hG 135 dc12_readPlain_111 (by decide) ?_ ?_
  · exact s_vret hG dc12_readPlain_135 rfl (Nat.le_of_ble_eq_true rfl) (Nat.le_of_ble_eq_true rfl)
  · refine s_aload_n hG dc12_readPlain_114 rfl ?_
    refine s_callVi hG kMc12_142 (fun a => corc12_look N a _) ⟨by decide, rfl⟩ rfl (by first | decide | omega) dc12_readPlain_115 rfl rfl (Nat.le_of_ble_eq_true rfl) ⟨Nat.le_of_ble_eq_true rfl, Nat.le_of_ble_eq_true rfl⟩ (fun p115 => ?_)
    refine s_iconst (v := -1) hG dc12_readPlain_118 (by decide) ?_
    refine s_icmp_ne hG 130 dc12_readPlain_119 (by decide) ?_ ?_
    · exact s_lv (lc rfl ln) (pc12_readPlain_130 hG _ _)
    · refine s_aload_n hG dc12_readPlain_122 rfl ?_
      refine s_getI hG kFc12_249 rfl dc12_readPlain_123 (fun v123 => ?_)
      refine s_iconst (v := 2) hG dc12_readPlain_126 (by decide) ?_
      refine s_icmp_ge hG 135 dc12_readPlain_127 (by decide) ?_ ?_
      · exact s_vret hG dc12_readPlain_135 rfl (Nat.le_of_ble_eq_true rfl) (Nat.le_of_ble_eq_true rfl)
      · exact s_lv (lc rfl ln) (pc12_readPlain_130 hG _ _)
set_option maxRecDepth 20000 in
set_option maxHeartbeats 2000000 in
theorem pc12_readPlain_88 {Ω : Om} {Γ : Ga} {N : Nat} (hG : Good Ω Γ tc12_readPlain 8 0 0) {K50 : Option Nat → Int32 → Me → Option (Unit × Me)} (hK50 : ∀ (l0 : Option Nat) (l1 : Int32) (σ : Me), Sim Ω Γ 0 0 ιV 2 50 [(0, vR l0), (1, vI l1)] [] σ 0 0 (K50 l0 l1 σ)) (l0 : Option Nat) (s0 : Int32) (σ : Me) : Sim Ω Γ 0 0 ιV 2 88 [(0, vR l0)] [vI s0] σ 0 0 (fc12_readPlain_88 N K50 l0 s0 σ) := by
  unfold fc12_readPlain_88
  refine s_istore_n hG dc12_readPlain_88 (by decide) ?_
  refine s_iload_n hG dc12_readPlain_89 rfl ?_
  refine s_if_eq hG 50 dc12_readPlain_90 (by decide) ?_ ?_
  · exact s_lv (lc rfl (lc rfl ln)) (hK50 _ _ _)
  · refine s_aload_n hG dc12_readPlain_93 rfl ?_
    refine s_dup hG dc12_readPlain_94 rfl ?_
    refine s_getI hG kFc12_123 rfl dc12_readPlain_95 (fun v95 => ?_)
    refine s_iconst (v := 1) hG dc12_readPlain_98 (by decide) ?_
    refine s_iadd hG dc12_readPlain_99 ?_
    refine s_putI (fin := false) hG kFc12_123 rfl (fun h => by cases h) rfl (fun _ => rfl) (fun _ => rfl) dc12_readPlain_100 (fun σ100 => ?_)
    refine s_goto hG 50 dc12_readPlain_103 (by decide) ?_
    exact s_lv (lc rfl (lc rfl ln)) (hK50 _ _ _)
set_option maxRecDepth 20000 in
set_option maxHeartbeats 2000000 in
theorem pc12_readPlain_87 {Ω : Om} {Γ : Ga} {N : Nat} (hG : Good Ω Γ tc12_readPlain 8 0 0) {K50 : Option Nat → Int32 → Me → Option (Unit × Me)} (hK50 : ∀ (l0 : Option Nat) (l1 : Int32) (σ : Me), Sim Ω Γ 0 0 ιV 2 50 [(0, vR l0), (1, vI l1)] [] σ 0 0 (K50 l0 l1 σ)) (l0 : Option Nat) (σ : Me) : Sim Ω Γ 0 0 ιV 2 87 [(0, vR l0)] [] σ 0 0 (fc12_readPlain_87 N K50 l0 σ) := by
  unfold fc12_readPlain_87
  refine s_iconst (v := 0) hG dc12_readPlain_87 (by decide) ?_
  exact s_lv (lc rfl ln) (pc12_readPlain_88 hG hK50 _ _ _)
set_option maxRecDepth 20000 in
set_option maxHeartbeats 2000000 in
theorem pc12_readPlain_50 {Ω : Om} {Γ : Ga} {N : Nat} (hG : Good Ω Γ tc12_readPlain 8 0 0)  : ∀ (n : Nat) (l0 : Option Nat) (l1 : Int32) (σ : Me), Sim Ω Γ 0 0 ιV 2 50 [(0, vR l0), (1, vI l1)] [] σ 0 0 (fc12_readPlain_50 N n l0 l1 σ) := by
  intro n
  induction n with
  | zero => intros; exact s_none
  | succ n ih =>
    intro l0 l1 σ
    unfold fc12_readPlain_50
    refine s_iload_n hG dc12_readPlain_50 rfl ?_
    refine s_if_eq hG 106 dc12_readPlain_51 (by decide) ?_ ?_
    · exact s_lv (lc rfl ln) (pc12_readPlain_106 hG _ _)
    · refine s_aload_n hG dc12_readPlain_54 rfl ?_
      refine s_getI hG kFc12_132 rfl dc12_readPlain_55 (fun v55 => ?_)
      refine s_iconst (v := -1) hG dc12_readPlain_58 (by decide) ?_
      refine s_icmp_ne hG 106 dc12_readPlain_59 (by decide) ?_ ?_
      · exact s_lv (lc rfl ln) (pc12_readPlain_106 hG _ _)
      · refine s_aload_n hG dc12_readPlain_62 rfl ?_
        refine s_callVv hG kMc12_260 (fun a => corc12_readClause N a _) ⟨by decide, rfl⟩ rfl (by first | decide | omega) dc12_readPlain_63 rfl rfl (Nat.le_of_ble_eq_true rfl) ⟨Nat.le_of_ble_eq_true rfl, Nat.le_of_ble_eq_true rfl⟩ (fun p63 => ?_)
        refine s_aload_n hG dc12_readPlain_66 rfl ?_
        refine s_getI hG kFc12_132 rfl dc12_readPlain_67 (fun v67 => ?_)
        refine s_iconst (v := -1) hG dc12_readPlain_70 (by decide) ?_
        refine s_icmp_ne hG 87 dc12_readPlain_71 (by decide) ?_ ?_
        · exact s_lv (lc rfl ln) (pc12_readPlain_87 hG ih _ _)
        · refine s_aload_n hG dc12_readPlain_74 rfl ?_
          refine s_callVi hG kMc12_142 (fun a => corc12_look N a _) ⟨by decide, rfl⟩ rfl (by first | decide | omega) dc12_readPlain_75 rfl rfl (Nat.le_of_ble_eq_true rfl) ⟨Nat.le_of_ble_eq_true rfl, Nat.le_of_ble_eq_true rfl⟩ (fun p75 => ?_)
          refine s_bipush (v := 59) hG dc12_readPlain_78 (by decide) ?_
          refine s_icmp_ne hG 87 dc12_readPlain_80 (by decide) ?_ ?_
          · exact s_lv (lc rfl ln) (pc12_readPlain_87 hG ih _ _)
          · refine s_iconst (v := 1) hG dc12_readPlain_83 (by decide) ?_
            refine s_goto hG 88 dc12_readPlain_84 (by decide) ?_
            exact s_lv (lc rfl ln) (pc12_readPlain_88 hG ih _ _ _)
set_option maxRecDepth 20000 in
set_option maxHeartbeats 2000000 in
theorem pc12_readPlain_25 {Ω : Om} {Γ : Ga} {N : Nat} (hG : Good Ω Γ tc12_readPlain 8 0 0)  : ∀ (n : Nat) (l0 : Option Nat) (l1 : Int32) (σ : Me), Sim Ω Γ 0 0 ιV 2 25 [(0, vR l0), (1, vI l1)] [] σ 0 0 (fc12_readPlain_25 N n l0 l1 σ) := by
  intro n
  induction n with
  | zero => intros; exact s_none
  | succ n ih =>
    intro l0 l1 σ
    unfold fc12_readPlain_25
    refine s_iload_n hG dc12_readPlain_25 rfl ?_
    refine s_iconst (v := 3) hG dc12_readPlain_26 (by decide) ?_
    refine s_icmp_ge hG 48 dc12_readPlain_27 (by decide) ?_ ?_
    · refine s_iconst (v := 1) hG dc12_readPlain_48 (by decide) ?_
      refine s_istore_n hG dc12_readPlain_49 (by decide) ?_
      exact s_lv (lc rfl (lc rfl ln)) (pc12_readPlain_50 hG _ _ _ _)
    · refine s_aload_n hG dc12_readPlain_30 rfl ?_
      refine s_getR hG kFc12_40 rfl dc12_readPlain_31 (fun v31 => ?_)
      refine s_iload_n hG dc12_readPlain_34 rfl ?_
      refine s_bipush (v := 115) hG dc12_readPlain_35 (by decide) ?_
      refine s_iload_n hG dc12_readPlain_37 rfl ?_
      refine s_callSi hG kMc12_225 (corc12_usual N _ _ _) rfl (by first | decide | omega) dc12_readPlain_38 rfl rfl (Nat.le_of_ble_eq_true rfl) ⟨Nat.le_of_ble_eq_true rfl, Nat.le_of_ble_eq_true rfl⟩ (fun p38 => ?_)
      refine s_iast hG dc12_readPlain_41 (fun σ41 => ?_)
      refine s_iinc (v := 1) hG dc12_readPlain_42 rfl (by decide) (by decide) ?_
      refine s_goto hG 25 dc12_readPlain_45 (by decide) ?_
      exact s_lv (lc rfl (lc rfl ln)) (ih _ _ _)
set_option maxRecDepth 20000 in
set_option maxHeartbeats 2000000 in
theorem corc12_readPlain {Ω : Om} (N : Nat) (a0 : Nat) (σ : Me) : Cor Ω tc12_readPlain 8 0 0 [vR (some a0)] σ ιV (fc12_readPlain N a0 σ) := by
  refine Cor.of (by decide +kernel) (Nat.le_of_ble_eq_true rfl) (fun Γ hG => ?_)
  unfold fc12_readPlain
  show Sim Ω Γ 0 0 ιV 2 0 [(0, vR (some a0))] [] σ 0 0 _
  refine s_aload_n hG dc12_readPlain_0 rfl ?_
  refine s_aload_n hG dc12_readPlain_1 rfl ?_
  refine s_getR hG kFc12_9 rfl dc12_readPlain_2 (fun v2 => ?_)
  refine s_iconst (v := 0) hG dc12_readPlain_5 (by decide) ?_
  refine s_aload_n hG dc12_readPlain_6 rfl ?_
  refine s_getI hG kFc12_113 rfl dc12_readPlain_7 (fun v7 => ?_)
  refine s_callVv hG kMc12_211 (fun a => corc12_starts N a _ _ _ _) ⟨by decide, rfl⟩ rfl (by first | decide | omega) dc12_readPlain_10 rfl rfl (Nat.le_of_ble_eq_true rfl) ⟨Nat.le_of_ble_eq_true rfl, Nat.le_of_ble_eq_true rfl⟩ (fun p10 => ?_)
  refine s_aload_n hG dc12_readPlain_13 rfl ?_
  refine s_iconst (v := 0) hG dc12_readPlain_14 (by decide) ?_
  refine s_putI (fin := false) hG kFc12_249 rfl (fun h => by cases h) rfl (fun _ => rfl) (fun _ => rfl) dc12_readPlain_15 (fun σ15 => ?_)
  refine s_aload_n hG dc12_readPlain_18 rfl ?_
  refine s_iconst (v := 0) hG dc12_readPlain_19 (by decide) ?_
  refine s_putZ hG kFc12_246 rfl rfl dc12_readPlain_20 (fun σ20 => ?_)
  refine s_iconst (v := 0) hG dc12_readPlain_23 (by decide) ?_
  refine s_istore_n hG dc12_readPlain_24 (by decide) ?_
  exact s_lv (lc rfl (lc rfl ln)) (pc12_readPlain_25 hG _ _ _ _)
def fc12_digit (N : Nat) (a0 : Nat) (σ : Me) : Option (Int32 × Me) :=
  (dr σ (some a0) (.inl 12)).bind fun a =>
  (fc12_look N a σ).bind fun p1 =>
  (dr p1.2 (some a0) (.inl 12)).bind fun a =>
  (fc12_isDigit N a p1.2).bind fun p6 =>
  if p6.1 = 0 then
    (dr p6.2 (some a0) (.inl 12)).bind fun a =>
    (fc12_fails N a p6.2).bind fun p13 =>
    some ((0 : Int32), p13.2)
  else
    (qI p6.2 12 10 (some a0)).bind fun v21 =>
    (pI p6.2 12 10 (some a0) (v21 + (1 : Int32))).bind fun σ26 =>
    some ((p1.1 - (48 : Int32)), σ26)
set_option maxRecDepth 20000 in
set_option maxHeartbeats 2000000 in
theorem corc12_digit {Ω : Om} (N : Nat) (a0 : Nat) (σ : Me) : Cor Ω tc12_digit 2 0 0 [vR (some a0)] σ ιI (fc12_digit N a0 σ) := by
  refine Cor.of (by decide +kernel) (Nat.le_of_ble_eq_true rfl) (fun Γ hG => ?_)
  unfold fc12_digit
  show Sim Ω Γ 0 0 ιI 2 0 [(0, vR (some a0))] [] σ 0 0 _
  refine s_aload_n hG dc12_digit_0 rfl ?_
  refine s_callVi hG kMc12_142 (fun a => corc12_look N a _) ⟨by decide, rfl⟩ rfl (by first | decide | omega) dc12_digit_1 rfl rfl (Nat.le_of_ble_eq_true rfl) ⟨Nat.le_of_ble_eq_true rfl, Nat.le_of_ble_eq_true rfl⟩ (fun p1 => ?_)
  refine s_istore_n hG dc12_digit_4 (by decide) ?_
  refine s_aload_n hG dc12_digit_5 rfl ?_
  refine s_callVi hG kMc12_172 (fun a => corc12_isDigit N a _) ⟨by decide, rfl⟩ rfl (by first | decide | omega) dc12_digit_6 rfl rfl (Nat.le_of_ble_eq_true rfl) ⟨Nat.le_of_ble_eq_true rfl, Nat.le_of_ble_eq_true rfl⟩ (fun p6 => ?_)
  refine s_if_ne hG 19 dc12_digit_9 (by decide) ?_ ?_
  · refine s_aload_n hG dc12_digit_19 rfl ?_
    refine s_dup hG dc12_digit_20 rfl ?_
    refine s_getI hG kFc12_123 rfl dc12_digit_21 (fun v21 => ?_)
    refine s_iconst (v := 1) hG dc12_digit_24 (by decide) ?_
    refine s_iadd hG dc12_digit_25 ?_
    refine s_putI (fin := false) hG kFc12_123 rfl (fun h => by cases h) rfl (fun _ => rfl) (fun _ => rfl) dc12_digit_26 (fun σ26 => ?_)
    refine s_iload_n hG dc12_digit_29 rfl ?_
    refine s_bipush (v := 48) hG dc12_digit_30 (by decide) ?_
    refine s_isub hG dc12_digit_32 ?_
    exact s_iret hG dc12_digit_33 rfl (Nat.le_of_ble_eq_true rfl) (Nat.le_of_ble_eq_true rfl)
  · refine s_aload_n hG dc12_digit_12 rfl ?_
    refine s_callVi hG kMc12_138 (fun a => corc12_fails N a _) ⟨by decide, rfl⟩ rfl (by first | decide | omega) dc12_digit_13 rfl rfl (Nat.le_of_ble_eq_true rfl) ⟨Nat.le_of_ble_eq_true rfl, Nat.le_of_ble_eq_true rfl⟩ (fun p13 => ?_)
    refine s_pop hG dc12_digit_16 rfl ?_
    refine s_iconst (v := 0) hG dc12_digit_17 (by decide) ?_
    exact s_iret hG dc12_digit_18 rfl (Nat.le_of_ble_eq_true rfl) (Nat.le_of_ble_eq_true rfl)
def fc12_readStep (N : Nat) (a0 : Nat) (x1 : Int32) (σ : Me) : Option (Unit × Me) :=
  (dr σ (some a0) (.inl 12)).bind fun a =>
  (fc12_look N a σ).bind fun p4 =>
  (fc12_spotOf N (some 1000028) p4.1 p4.2).bind fun p7 =>
  if p7.1 = (-1 : Int32) then
    (dr p7.2 (some a0) (.inl 12)).bind fun a =>
    (fc12_fails N a p7.2).bind fun p17 =>
    some ((), p17.2)
  else
    (qI p7.2 12 10 (some a0)).bind fun v24 =>
    (pI p7.2 12 10 (some a0) (v24 + (1 : Int32))).bind fun σ29 =>
    (qR σ29 12 22 (some a0)).bind fun v33 =>
    (stI σ29 v33 x1 p7.1).bind fun σ38 =>
    (qR σ38 12 22 (some a0)).bind fun v40 =>
    (dr σ38 (some a0) (.inl 12)).bind fun a =>
    (fc12_digit N a σ38).bind fun p47 =>
    (stI p47.2 v40 (x1 + (1 : Int32)) p47.1).bind fun σ50 =>
    (qR σ50 12 22 (some a0)).bind fun v52 =>
    (stI σ50 v52 (x1 + (2 : Int32)) (-1 : Int32)).bind fun σ59 =>
    (qI σ59 12 11 (some a0)).bind fun v61 =>
    if v61 = (-1 : Int32) then
      if p7.1 ≤ (1 : Int32) then
        (dr σ59 (some a0) (.inl 12)).bind fun a =>
        (fc12_digit N a σ59).bind fun p75 =>
        if p7.1 = 0 then
          (qR p75.2 12 22 (some a0)).bind fun v84 =>
          (qR p75.2 12 22 (some a0)).bind fun v93 =>
          (ldI p75.2 v93 (x1 + (1 : Int32))).bind fun v99 =>
          (stI p75.2 v84 (x1 + (1 : Int32)) (((10 : Int32) * v99) + p75.1)).bind fun σ103 =>
          some ((), σ103)
        else
          (qR p75.2 12 22 (some a0)).bind fun v108 =>
          (stI p75.2 v108 (x1 + (2 : Int32)) p75.1).bind fun σ115 =>
          some ((), σ115)
      else
        some ((), σ59)
    else
      some ((), σ59)
set_option maxRecDepth 20000 in
set_option maxHeartbeats 2000000 in
theorem corc12_readStep {Ω : Om} (N : Nat) (a0 : Nat) (x1 : Int32) (σ : Me) : Cor Ω tc12_readStep 6 0 0 [vR (some a0), vI x1] σ ιV (fc12_readStep N a0 x1 σ) := by
  refine Cor.of (by decide +kernel) (Nat.le_of_ble_eq_true rfl) (fun Γ hG => ?_)
  unfold fc12_readStep
  show Sim Ω Γ 0 0 ιV 4 0 [(0, vR (some a0)), (1, vI x1)] [] σ 0 0 _
  refine s_ldcwS hG 8 (by decide) rfl rfl dc12_readStep_0 ?_
  refine s_aload_n hG dc12_readStep_3 rfl ?_
  refine s_callVi hG kMc12_142 (fun a => corc12_look N a _) ⟨by decide, rfl⟩ rfl (by first | decide | omega) dc12_readStep_4 rfl rfl (Nat.le_of_ble_eq_true rfl) ⟨Nat.le_of_ble_eq_true rfl, Nat.le_of_ble_eq_true rfl⟩ (fun p4 => ?_)
  refine s_callSi hG kMc12_229 (corc12_spotOf N _ _ _) rfl (by first | decide | omega) dc12_readStep_7 rfl rfl (Nat.le_of_ble_eq_true rfl) ⟨Nat.le_of_ble_eq_true rfl, Nat.le_of_ble_eq_true rfl⟩ (fun p7 => ?_)
  refine s_istore_n hG dc12_readStep_10 (by decide) ?_
  refine s_iload_n hG dc12_readStep_11 rfl ?_
  refine s_iconst (v := -1) hG dc12_readStep_12 (by decide) ?_
  refine s_icmp_ne hG 22 dc12_readStep_13 (by decide) ?_ ?_
  · refine s_aload_n hG dc12_readStep_22 rfl ?_
    refine s_dup hG dc12_readStep_23 rfl ?_
    refine s_getI hG kFc12_123 rfl dc12_readStep_24 (fun v24 => ?_)
    refine s_iconst (v := 1) hG dc12_readStep_27 (by decide) ?_
    refine s_iadd hG dc12_readStep_28 ?_
    refine s_putI (fin := false) hG kFc12_123 rfl (fun h => by cases h) rfl (fun _ => rfl) (fun _ => rfl) dc12_readStep_29 (fun σ29 => ?_)
    refine s_aload_n hG dc12_readStep_32 rfl ?_
    refine s_getR hG kFc12_49 rfl dc12_readStep_33 (fun v33 => ?_)
    refine s_iload_n hG dc12_readStep_36 rfl ?_
    refine s_iload_n hG dc12_readStep_37 rfl ?_
    refine s_iast hG dc12_readStep_38 (fun σ38 => ?_)
    refine s_aload_n hG dc12_readStep_39 rfl ?_
    refine s_getR hG kFc12_49 rfl dc12_readStep_40 (fun v40 => ?_)
    refine s_iload_n hG dc12_readStep_43 rfl ?_
    refine s_iconst (v := 1) hG dc12_readStep_44 (by decide) ?_
    refine s_iadd hG dc12_readStep_45 ?_
    refine s_aload_n hG dc12_readStep_46 rfl ?_
    refine s_callVi hG kMc12_265 (fun a => corc12_digit N a _) ⟨by decide, rfl⟩ rfl (by first | decide | omega) dc12_readStep_47 rfl rfl (Nat.le_of_ble_eq_true rfl) ⟨Nat.le_of_ble_eq_true rfl, Nat.le_of_ble_eq_true rfl⟩ (fun p47 => ?_)
    refine s_iast hG dc12_readStep_50 (fun σ50 => ?_)
    refine s_aload_n hG dc12_readStep_51 rfl ?_
    refine s_getR hG kFc12_49 rfl dc12_readStep_52 (fun v52 => ?_)
    refine s_iload_n hG dc12_readStep_55 rfl ?_
    refine s_iconst (v := 2) hG dc12_readStep_56 (by decide) ?_
    refine s_iadd hG dc12_readStep_57 ?_
    refine s_iconst (v := -1) hG dc12_readStep_58 (by decide) ?_
    refine s_iast hG dc12_readStep_59 (fun σ59 => ?_)
    refine s_aload_n hG dc12_readStep_60 rfl ?_
    refine s_getI hG kFc12_132 rfl dc12_readStep_61 (fun v61 => ?_)
    refine s_iconst (v := -1) hG dc12_readStep_64 (by decide) ?_
    refine s_icmp_ne hG 73 dc12_readStep_65 (by decide) ?_ ?_
    · exact s_vret hG dc12_readStep_73 rfl (Nat.le_of_ble_eq_true rfl) (Nat.le_of_ble_eq_true rfl)
    · refine s_iload_n hG dc12_readStep_68 rfl ?_
      refine s_iconst (v := 1) hG dc12_readStep_69 (by decide) ?_
      refine s_icmp_le hG 74 dc12_readStep_70 (by decide) ?_ ?_
      · refine s_aload_n hG dc12_readStep_74 rfl ?_
        refine s_callVi hG kMc12_265 (fun a => corc12_digit N a _) ⟨by decide, rfl⟩ rfl (by first | decide | omega) dc12_readStep_75 rfl rfl (Nat.le_of_ble_eq_true rfl) ⟨Nat.le_of_ble_eq_true rfl, Nat.le_of_ble_eq_true rfl⟩ (fun p75 => ?_)
        refine s_istore_n hG dc12_readStep_78 (by decide) ?_
        refine s_iload_n hG dc12_readStep_79 rfl ?_
        refine s_if_ne hG 107 dc12_readStep_80 (by decide) ?_ ?_
        · refine s_aload_n hG dc12_readStep_107 rfl ?_
          refine s_getR hG kFc12_49 rfl dc12_readStep_108 (fun v108 => ?_)
          refine s_iload_n hG dc12_readStep_111 rfl ?_
          refine s_iconst (v := 2) hG dc12_readStep_112 (by decide) ?_
          refine s_iadd hG dc12_readStep_113 ?_
          refine s_iload_n hG dc12_readStep_114 rfl ?_
          refine s_iast hG dc12_readStep_115 (fun σ115 => ?_)
          exact s_vret hG dc12_readStep_116 rfl (Nat.le_of_ble_eq_true rfl) (Nat.le_of_ble_eq_true rfl)
        · refine s_aload_n hG dc12_readStep_83 rfl ?_
          refine s_getR hG kFc12_49 rfl dc12_readStep_84 (fun v84 => ?_)
          refine s_iload_n hG dc12_readStep_87 rfl ?_
          refine s_iconst (v := 1) hG dc12_readStep_88 (by decide) ?_
          refine s_iadd hG dc12_readStep_89 ?_
          refine s_bipush (v := 10) hG dc12_readStep_90 (by decide) ?_
          refine s_aload_n hG dc12_readStep_92 rfl ?_
          refine s_getR hG kFc12_49 rfl dc12_readStep_93 (fun v93 => ?_)
          refine s_iload_n hG dc12_readStep_96 rfl ?_
          refine s_iconst (v := 1) hG dc12_readStep_97 (by decide) ?_
          refine s_iadd hG dc12_readStep_98 ?_
          refine s_iald hG dc12_readStep_99 (fun v99 => ?_)
          refine s_imul hG dc12_readStep_100 ?_
          refine s_iload_n hG dc12_readStep_101 rfl ?_
          refine s_iadd hG dc12_readStep_102 ?_
          refine s_iast hG dc12_readStep_103 (fun σ103 => ?_)
          refine s_goto hG 116 dc12_readStep_104 (by decide) ?_
          exact s_vret hG dc12_readStep_116 rfl (Nat.le_of_ble_eq_true rfl) (Nat.le_of_ble_eq_true rfl)
      · exact s_vret hG dc12_readStep_73 rfl (Nat.le_of_ble_eq_true rfl) (Nat.le_of_ble_eq_true rfl)
  · refine s_aload_n hG dc12_readStep_16 rfl ?_
    refine s_callVi hG kMc12_138 (fun a => corc12_fails N a _) ⟨by decide, rfl⟩ rfl (by first | decide | omega) dc12_readStep_17 rfl rfl (Nat.le_of_ble_eq_true rfl) ⟨Nat.le_of_ble_eq_true rfl, Nat.le_of_ble_eq_true rfl⟩ (fun p17 => ?_)
    refine s_pop hG dc12_readStep_20 rfl ?_
    exact s_vret hG dc12_readStep_21 rfl (Nat.le_of_ble_eq_true rfl) (Nat.le_of_ble_eq_true rfl)
def fc12_readPlan_74 (N : Nat) (K17 : Option Nat → Int32 → Int32 → Me → Option (Unit × Me)) (l0 : Option Nat) (l1 : Int32) (l2 : Int32) (σ : Me) : Option (Unit × Me) :=
  if l2 = 0 then
    K17 l0 l1 l2 σ
  else
    (qI σ 12 10 l0).bind fun v80 =>
    (pI σ 12 10 l0 (v80 + (1 : Int32))).bind fun σ85 =>
    K17 l0 l1 l2 σ85
def fc12_readPlan_57 (N : Nat) (K17 : Option Nat → Int32 → Int32 → Me → Option (Unit × Me)) (l0 : Option Nat) (l1 : Int32) (s0 : Int32) (σ : Me) : Option (Unit × Me) :=
  if s0 = 0 then
    fc12_readPlan_74 N K17 l0 l1 s0 σ
  else
    if l1 = (16 : Int32) then
      (dr σ l0 (.inl 12)).bind fun a =>
      (fc12_fails N a σ).bind fun p69 =>
      some ((), p69.2)
    else
      fc12_readPlan_74 N K17 l0 l1 s0 σ
def fc12_readPlan_17 (N : Nat) : Nat → Option Nat → Int32 → Int32 → Me → Option (Unit × Me)
  | 0, _, _, _, _ => none
  | n + 1, l0, l1, l2, σ =>
    if l2 = 0 then
      (qR σ 12 23 l0).bind fun v92 =>
      (stI σ v92 (4 : Int32) l1).bind fun σ97 =>
      (dr σ97 l0 (.inl 12)).bind fun a =>
      (fc12_look N a σ97).bind fun p99 =>
      if p99.1 = (-1 : Int32) then
        some ((), p99.2)
      else
        (dr p99.2 l0 (.inl 12)).bind fun a =>
        (fc12_fails N a p99.2).bind fun p107 =>
        some ((), p107.2)
    else
      (dr σ l0 (.inl 12)).bind fun a =>
      (fc12_readStep N a ((3 : Int32) * ((64 : Int32) + l1)) σ).bind fun p28 =>
      (qI p28.2 12 11 l0).bind fun v32 =>
      if v32 = (-1 : Int32) then
        (dr p28.2 l0 (.inl 12)).bind fun a =>
        (fc12_look N a p28.2).bind fun p44 =>
        if p44.1 = (59 : Int32) then
          fc12_readPlan_57 N (fc12_readPlan_17 N n) l0 (l1 + (1 : Int32)) (1 : Int32) p44.2
        else
          fc12_readPlan_57 N (fc12_readPlan_17 N n) l0 (l1 + (1 : Int32)) (0 : Int32) p44.2
      else
        some ((), p28.2)
def fc12_readPlan (N : Nat) (a0 : Nat) (σ : Me) : Option (Unit × Me) :=
  (qR σ 12 1 (some a0)).bind fun v2 =>
  (qI σ 12 6 (some a0)).bind fun v7 =>
  (dr σ (some a0) (.inl 12)).bind fun a =>
  (fc12_starts N a v2 (0 : Int32) v7 σ).bind fun p10 =>
  fc12_readPlan_17 N N (some a0) (0 : Int32) (1 : Int32) p10.2
set_option maxRecDepth 20000 in
set_option maxHeartbeats 2000000 in
theorem pc12_readPlan_74 {Ω : Om} {Γ : Ga} {N : Nat} (hG : Good Ω Γ tc12_readPlan 7 0 0) {K17 : Option Nat → Int32 → Int32 → Me → Option (Unit × Me)} (hK17 : ∀ (l0 : Option Nat) (l1 : Int32) (l2 : Int32) (σ : Me), Sim Ω Γ 0 0 ιV 3 17 [(0, vR l0), (1, vI l1), (2, vI l2)] [] σ 0 0 (K17 l0 l1 l2 σ)) (l0 : Option Nat) (l1 : Int32) (l2 : Int32) (σ : Me) : Sim Ω Γ 0 0 ιV 3 74 [(0, vR l0), (1, vI l1), (2, vI l2)] [] σ 0 0 (fc12_readPlan_74 N K17 l0 l1 l2 σ) := by
  unfold fc12_readPlan_74
  refine s_iload_n hG dc12_readPlan_74 rfl ?_
  refine s_if_eq hG 17 dc12_readPlan_75 (by decide) ?_ ?_
  · exact s_lv (lc rfl (lc rfl (lc rfl ln))) (hK17 _ _ _ _)
  · refine s_aload_n hG dc12_readPlan_78 rfl ?_
    refine s_dup hG dc12_readPlan_79 rfl ?_
    refine s_getI hG kFc12_123 rfl dc12_readPlan_80 (fun v80 => ?_)
    refine s_iconst (v := 1) hG dc12_readPlan_83 (by decide) ?_
    refine s_iadd hG dc12_readPlan_84 ?_
    refine s_putI (fin := false) hG kFc12_123 rfl (fun h => by cases h) rfl (fun _ => rfl) (fun _ => rfl) dc12_readPlan_85 (fun σ85 => ?_)
    refine s_goto hG 17 dc12_readPlan_88 (by decide) ?_
    exact s_lv (lc rfl (lc rfl (lc rfl ln))) (hK17 _ _ _ _)
set_option maxRecDepth 20000 in
set_option maxHeartbeats 2000000 in
theorem pc12_readPlan_57 {Ω : Om} {Γ : Ga} {N : Nat} (hG : Good Ω Γ tc12_readPlan 7 0 0) {K17 : Option Nat → Int32 → Int32 → Me → Option (Unit × Me)} (hK17 : ∀ (l0 : Option Nat) (l1 : Int32) (l2 : Int32) (σ : Me), Sim Ω Γ 0 0 ιV 3 17 [(0, vR l0), (1, vI l1), (2, vI l2)] [] σ 0 0 (K17 l0 l1 l2 σ)) (l0 : Option Nat) (l1 : Int32) (s0 : Int32) (σ : Me) : Sim Ω Γ 0 0 ιV 3 57 [(0, vR l0), (1, vI l1)] [vI s0] σ 0 0 (fc12_readPlan_57 N K17 l0 l1 s0 σ) := by
  unfold fc12_readPlan_57
  refine s_istore_n hG dc12_readPlan_57 (by decide) ?_
  refine s_iload_n hG dc12_readPlan_58 rfl ?_
  refine s_if_eq hG 74 dc12_readPlan_59 (by decide) ?_ ?_
  · exact s_lv (lc rfl (lc rfl (lc rfl ln))) (pc12_readPlan_74 hG hK17 _ _ _ _)
  · refine s_iload_n hG dc12_readPlan_62 rfl ?_
    refine s_bipush (v := 16) hG dc12_readPlan_63 (by decide) ?_
    refine s_icmp_ne hG 74 dc12_readPlan_65 (by decide) ?_ ?_
    · exact s_lv (lc rfl (lc rfl (lc rfl ln))) (pc12_readPlan_74 hG hK17 _ _ _ _)
    · refine s_aload_n hG dc12_readPlan_68 rfl ?_
      refine s_callVi hG kMc12_138 (fun a => corc12_fails N a _) ⟨by decide, rfl⟩ rfl (by first | decide | omega) dc12_readPlan_69 rfl rfl (Nat.le_of_ble_eq_true rfl) ⟨Nat.le_of_ble_eq_true rfl, Nat.le_of_ble_eq_true rfl⟩ (fun p69 => ?_)
      refine s_pop hG dc12_readPlan_72 rfl ?_
      exact s_vret hG dc12_readPlan_73 rfl (Nat.le_of_ble_eq_true rfl) (Nat.le_of_ble_eq_true rfl)
set_option maxRecDepth 20000 in
set_option maxHeartbeats 2000000 in
theorem pc12_readPlan_17 {Ω : Om} {Γ : Ga} {N : Nat} (hG : Good Ω Γ tc12_readPlan 7 0 0)  : ∀ (n : Nat) (l0 : Option Nat) (l1 : Int32) (l2 : Int32) (σ : Me), Sim Ω Γ 0 0 ιV 3 17 [(0, vR l0), (1, vI l1), (2, vI l2)] [] σ 0 0 (fc12_readPlan_17 N n l0 l1 l2 σ) := by
  intro n
  induction n with
  | zero => intros; exact s_none
  | succ n ih =>
    intro l0 l1 l2 σ
    unfold fc12_readPlan_17
    refine s_iload_n hG dc12_readPlan_17 rfl ?_
    refine s_if_eq hG 91 dc12_readPlan_18 (by decide) ?_ ?_
    · refine s_aload_n hG dc12_readPlan_91 rfl ?_
      refine s_getR hG kFc12_52 rfl dc12_readPlan_92 (fun v92 => ?_)
      refine s_iconst (v := 4) hG dc12_readPlan_95 (by decide) ?_
      refine s_iload_n hG dc12_readPlan_96 rfl ?_
      refine s_iast hG dc12_readPlan_97 (fun σ97 => ?_)
      refine s_aload_n hG dc12_readPlan_98 rfl ?_
      refine s_callVi hG kMc12_142 (fun a => corc12_look N a _) ⟨by decide, rfl⟩ rfl (by first | decide | omega) dc12_readPlan_99 rfl rfl (Nat.le_of_ble_eq_true rfl) ⟨Nat.le_of_ble_eq_true rfl, Nat.le_of_ble_eq_true rfl⟩ (fun p99 => ?_)
      refine s_iconst (v := -1) hG dc12_readPlan_102 (by decide) ?_
      refine s_icmp_eq hG 111 dc12_readPlan_103 (by decide) ?_ ?_
      · exact s_vret hG dc12_readPlan_111 rfl (Nat.le_of_ble_eq_true rfl) (Nat.le_of_ble_eq_true rfl)
      · refine s_aload_n hG dc12_readPlan_106 rfl ?_
        refine s_callVi hG kMc12_138 (fun a => corc12_fails N a _) ⟨by decide, rfl⟩ rfl (by first | decide | omega) dc12_readPlan_107 rfl rfl (Nat.le_of_ble_eq_true rfl) ⟨Nat.le_of_ble_eq_true rfl, Nat.le_of_ble_eq_true rfl⟩ (fun p107 => ?_)
        refine s_pop hG dc12_readPlan_110 rfl ?_
        exact s_vret hG dc12_readPlan_111 rfl (Nat.le_of_ble_eq_true rfl) (Nat.le_of_ble_eq_true rfl)
    · refine s_aload_n hG dc12_readPlan_21 rfl ?_
      refine s_iconst (v := 3) hG dc12_readPlan_22 (by decide) ?_
      refine s_bipush (v := 64) hG dc12_readPlan_23 (by decide) ?_
      refine s_iload_n hG dc12_readPlan_25 rfl ?_
      refine s_iadd hG dc12_readPlan_26 ?_
      refine s_imul hG dc12_readPlan_27 ?_
      refine s_callVv hG kMc12_268 (fun a => corc12_readStep N a _ _) ⟨by decide, rfl⟩ rfl (by first | decide | omega) dc12_readPlan_28 rfl rfl (Nat.le_of_ble_eq_true rfl) ⟨Nat.le_of_ble_eq_true rfl, Nat.le_of_ble_eq_true rfl⟩ (fun p28 => ?_)
      refine s_aload_n hG dc12_readPlan_31 rfl ?_
      refine s_getI hG kFc12_132 rfl dc12_readPlan_32 (fun v32 => ?_)
      refine s_iconst (v := -1) hG dc12_readPlan_35 (by decide) ?_
      refine s_icmp_eq hG 40 dc12_readPlan_36 (by decide) ?_ ?_
      · refine s_iinc (v := 1) hG dc12_readPlan_40 rfl (by decide) (by decide) ?_
        refine s_aload_n hG dc12_readPlan_43 rfl ?_
        refine s_callVi hG kMc12_142 (fun a => corc12_look N a _) ⟨by decide, rfl⟩ rfl (by first | decide | omega) dc12_readPlan_44 rfl rfl (Nat.le_of_ble_eq_true rfl) ⟨Nat.le_of_ble_eq_true rfl, Nat.le_of_ble_eq_true rfl⟩ (fun p44 => ?_)
        refine s_bipush (v := 59) hG dc12_readPlan_47 (by decide) ?_
        refine s_icmp_ne hG 56 dc12_readPlan_49 (by decide) ?_ ?_
        · refine s_iconst (v := 0) hG dc12_readPlan_56 (by decide) ?_
          exact s_lv (lc rfl (lc rfl ln)) (pc12_readPlan_57 hG ih _ _ _ _)
        · refine s_iconst (v := 1) hG dc12_readPlan_52 (by decide) ?_
          refine s_goto hG 57 dc12_readPlan_53 (by decide) ?_
          exact s_lv (lc rfl (lc rfl ln)) (pc12_readPlan_57 hG ih _ _ _ _)
      · exact s_vret hG dc12_readPlan_39 rfl (Nat.le_of_ble_eq_true rfl) (Nat.le_of_ble_eq_true rfl)
set_option maxRecDepth 20000 in
set_option maxHeartbeats 2000000 in
theorem corc12_readPlan {Ω : Om} (N : Nat) (a0 : Nat) (σ : Me) : Cor Ω tc12_readPlan 7 0 0 [vR (some a0)] σ ιV (fc12_readPlan N a0 σ) := by
  refine Cor.of (by decide +kernel) (Nat.le_of_ble_eq_true rfl) (fun Γ hG => ?_)
  unfold fc12_readPlan
  show Sim Ω Γ 0 0 ιV 3 0 [(0, vR (some a0))] [] σ 0 0 _
  refine s_aload_n hG dc12_readPlan_0 rfl ?_
  refine s_aload_n hG dc12_readPlan_1 rfl ?_
  refine s_getR hG kFc12_9 rfl dc12_readPlan_2 (fun v2 => ?_)
  refine s_iconst (v := 0) hG dc12_readPlan_5 (by decide) ?_
  refine s_aload_n hG dc12_readPlan_6 rfl ?_
  refine s_getI hG kFc12_113 rfl dc12_readPlan_7 (fun v7 => ?_)
  refine s_callVv hG kMc12_211 (fun a => corc12_starts N a _ _ _ _) ⟨by decide, rfl⟩ rfl (by first | decide | omega) dc12_readPlan_10 rfl rfl (Nat.le_of_ble_eq_true rfl) ⟨Nat.le_of_ble_eq_true rfl, Nat.le_of_ble_eq_true rfl⟩ (fun p10 => ?_)
  refine s_iconst (v := 0) hG dc12_readPlan_13 (by decide) ?_
  refine s_istore_n hG dc12_readPlan_14 (by decide) ?_
  refine s_iconst (v := 1) hG dc12_readPlan_15 (by decide) ?_
  refine s_istore_n hG dc12_readPlan_16 (by decide) ?_
  exact s_lv (lc rfl (lc rfl (lc rfl ln))) (pc12_readPlan_17 hG _ _ _ _ _)
def fc12_fault_55 (N : Nat) (l0 : Option Nat) (σ : Me) : Option (Int32 × Me) :=
  (qI σ 12 11 l0).bind fun v56 =>
  some (v56, σ)
def fc12_fault_46 (N : Nat) (l0 : Option Nat) (l1 : Int32) (σ : Me) : Option (Int32 × Me) :=
  if l1 = (2 : Int32) then
    (dr σ l0 (.inl 12)).bind fun a =>
    (fc12_readPlan N a σ).bind fun p52 =>
    fc12_fault_55 N l0 p52.2
  else
    fc12_fault_55 N l0 σ
def fc12_fault_28 (N : Nat) (l0 : Option Nat) (l1 : Int32) (σ : Me) : Option (Int32 × Me) :=
  if l1 = (1 : Int32) then
    (qR σ 12 1 l0).bind fun v35 =>
    (qI σ 12 6 l0).bind fun v40 =>
    (dr σ l0 (.inl 12)).bind fun a =>
    (fc12_goThrough N a v35 (0 : Int32) v40 σ).bind fun p43 =>
    fc12_fault_46 N l0 l1 p43.2
  else
    fc12_fault_46 N l0 l1 σ
def fc12_fault (N : Nat) (a0 : Nat) (x1 : Int32) (σ : Me) : Option (Int32 × Me) :=
  (pI σ 12 0 (some a0) (0 : Int32)).bind fun σ2 =>
  (fc12_isIn N (Int32.toInt64 x1) (0 : Int64) (2 : Int64) σ2).bind fun p11 =>
  if p11.1 = 0 then
    some ((-2 : Int32), p11.2)
  else
    if x1 = 0 then
      (dr p11.2 (some a0) (.inl 12)).bind fun a =>
      (fc12_readPlain N a p11.2).bind fun p25 =>
      fc12_fault_28 N (some a0) x1 p25.2
    else
      fc12_fault_28 N (some a0) x1 p11.2
set_option maxRecDepth 20000 in
set_option maxHeartbeats 2000000 in
theorem pc12_fault_55 {Ω : Om} {Γ : Ga} {N : Nat} (hG : Good Ω Γ tc12_fault 139 0 0) (l0 : Option Nat) (σ : Me) : Sim Ω Γ 0 0 ιI 2 55 [(0, vR l0)] [] σ 0 0 (fc12_fault_55 N l0 σ) := by
  unfold fc12_fault_55
  refine s_aload_n hG dc12_fault_55 rfl ?_
  refine s_getI hG kFc12_132 rfl dc12_fault_56 (fun v56 => ?_)
  exact s_iret hG dc12_fault_59 rfl (Nat.le_of_ble_eq_true rfl) (Nat.le_of_ble_eq_true rfl)
set_option maxRecDepth 20000 in
set_option maxHeartbeats 2000000 in
theorem pc12_fault_46 {Ω : Om} {Γ : Ga} {N : Nat} (hG : Good Ω Γ tc12_fault 139 0 0) (l0 : Option Nat) (l1 : Int32) (σ : Me) : Sim Ω Γ 0 0 ιI 2 46 [(0, vR l0), (1, vI l1)] [] σ 0 0 (fc12_fault_46 N l0 l1 σ) := by
  unfold fc12_fault_46
  refine s_iload_n hG dc12_fault_46 rfl ?_
  refine s_iconst (v := 2) hG dc12_fault_47 (by decide) ?_
  refine s_icmp_ne hG 55 dc12_fault_48 (by decide) ?_ ?_
  · exact s_lv (lc rfl ln) (pc12_fault_55 hG _ _)
  · refine s_aload_n hG dc12_fault_51 rfl ?_
    refine s_callVv hG kMc12_279 (fun a => corc12_readPlan N a _) ⟨by decide, rfl⟩ rfl (by first | decide | omega) dc12_fault_52 rfl rfl (Nat.le_of_ble_eq_true rfl) ⟨Nat.le_of_ble_eq_true rfl, Nat.le_of_ble_eq_true rfl⟩ (fun p52 => ?_)
    exact s_lv (lc rfl ln) (pc12_fault_55 hG _ _)
set_option maxRecDepth 20000 in
set_option maxHeartbeats 2000000 in
theorem pc12_fault_28 {Ω : Om} {Γ : Ga} {N : Nat} (hG : Good Ω Γ tc12_fault 139 0 0) (l0 : Option Nat) (l1 : Int32) (σ : Me) : Sim Ω Γ 0 0 ιI 2 28 [(0, vR l0), (1, vI l1)] [] σ 0 0 (fc12_fault_28 N l0 l1 σ) := by
  unfold fc12_fault_28
  refine s_iload_n hG dc12_fault_28 rfl ?_
  refine s_iconst (v := 1) hG dc12_fault_29 (by decide) ?_
  refine s_icmp_ne hG 46 dc12_fault_30 (by decide) ?_ ?_
  · exact s_lv (lc rfl (lc rfl ln)) (pc12_fault_46 hG _ _ _)
  · refine s_aload_n hG dc12_fault_33 rfl ?_
    refine s_aload_n hG dc12_fault_34 rfl ?_
    refine s_getR hG kFc12_9 rfl dc12_fault_35 (fun v35 => ?_)
    refine s_iconst (v := 0) hG dc12_fault_38 (by decide) ?_
    refine s_aload_n hG dc12_fault_39 rfl ?_
    refine s_getI hG kFc12_113 rfl dc12_fault_40 (fun v40 => ?_)
    refine s_callVv hG kMc12_276 (fun a => corc12_goThrough N a _ _ _ _) ⟨by decide, rfl⟩ rfl (by first | decide | omega) dc12_fault_43 rfl rfl (Nat.le_of_ble_eq_true rfl) ⟨Nat.le_of_ble_eq_true rfl, Nat.le_of_ble_eq_true rfl⟩ (fun p43 => ?_)
    exact s_lv (lc rfl (lc rfl ln)) (pc12_fault_46 hG _ _ _)
set_option maxRecDepth 20000 in
set_option maxHeartbeats 2000000 in
theorem corc12_fault {Ω : Om} (N : Nat) (a0 : Nat) (x1 : Int32) (σ : Me) : Cor Ω tc12_fault 139 0 0 [vR (some a0), vI x1] σ ιI (fc12_fault N a0 x1 σ) := by
  refine Cor.of (by decide +kernel) (Nat.le_of_ble_eq_true rfl) (fun Γ hG => ?_)
  unfold fc12_fault
  show Sim Ω Γ 0 0 ιI 2 0 [(0, vR (some a0)), (1, vI x1)] [] σ 0 0 _
  refine s_aload_n hG dc12_fault_0 rfl ?_
  refine s_iconst (v := 0) hG dc12_fault_1 (by decide) ?_
  refine s_putI (fin := false) hG kFc12_100 rfl (fun h => by cases h) rfl (fun _ => rfl) (fun _ => rfl) dc12_fault_2 (fun σ2 => ?_)
  refine s_iload_n hG dc12_fault_5 rfl ?_
  refine s_i2l hG dc12_fault_6 ?_
  refine s_lconst (v := 0) hG dc12_fault_7 (by decide) ?_
  refine s_ldc2 hG dc12_fault_8 kJc12_271 ?_
  refine s_callSi hG kMc12_221 (corc12_isIn N _ _ _ _) rfl (by first | decide | omega) dc12_fault_11 rfl rfl (Nat.le_of_ble_eq_true rfl) ⟨Nat.le_of_ble_eq_true rfl, Nat.le_of_ble_eq_true rfl⟩ (fun p11 => ?_)
  refine s_if_ne hG 20 dc12_fault_14 (by decide) ?_ ?_
  · refine s_iload_n hG dc12_fault_20 rfl ?_
    refine s_if_ne hG 28 dc12_fault_21 (by decide) ?_ ?_
    · exact s_lv (lc rfl (lc rfl ln)) (pc12_fault_28 hG _ _ _)
    · refine s_aload_n hG dc12_fault_24 rfl ?_
      refine s_callVv hG kMc12_273 (fun a => corc12_readPlain N a _) ⟨by decide, rfl⟩ rfl (by first | decide | omega) dc12_fault_25 rfl rfl (Nat.le_of_ble_eq_true rfl) ⟨Nat.le_of_ble_eq_true rfl, Nat.le_of_ble_eq_true rfl⟩ (fun p25 => ?_)
      exact s_lv (lc rfl (lc rfl ln)) (pc12_fault_28 hG _ _ _)
  · refine s_bipush (v := -2) hG dc12_fault_17 (by decide) ?_
    exact s_iret hG dc12_fault_19 rfl (Nat.le_of_ble_eq_true rfl) (Nat.le_of_ble_eq_true rfl)
